/-! MACHINE: a new text -/
theorem dk_al {ws r : va_W} {q : Nat} {x : Nat × va_E} (h : ws[q]? = some x) : (ws ++ r)[q]? = some x := by
  obtain ⟨h1, _⟩ := List.getElem?_eq_some_iff.mp h
  rw [List.getElem?_append_left h1]; exact h
theorem dk_ae {ws r : va_W} {x : Nat × va_E} : (ws ++ x :: r)[ws.length]? = some x := by
  rw [List.getElem?_append_right (Nat.le_refl _), Nat.sub_self]; rfl
theorem dk_rngB (wb : va_W) : ∀ (wa : va_W), (List.range' wa.length wb.length).map (fun i => (wa ++ wb)[i]?) = wb.map some := by
  intro wa
  induction wb generalizing wa with
  | nil => rfl
  | cons x wb ih =>
    have h := ih (wa ++ [x])
    rw [List.append_assoc, List.length_append] at h
    show (List.range' wa.length (wb.length + 1)).map _ = _
    rw [List.range'_succ, List.map_cons, List.map_cons, dk_ae]
    exact congrArg (some x :: ·) h
theorem dk_rngA (wa wb : va_W) : (List.range' 0 wa.length).map (fun i => (wa ++ wb)[i]?) = wa.map some := by
  have h := dk_rngB wa []
  rw [← h]
  refine List.map_congr_left (fun i hi => ?_)
  have h2 := List.mem_range'_1.mp hi
  rw [List.nil_append]
  exact List.getElem?_append_left (by simpa using h2.2)
theorem dk_rngW (ws : va_W) : (List.range' 0 ws.length).map (fun i => ws[i]?) = ws.map some := by
  have h := dk_rngA ws []
  rwa [List.append_nil] at h
theorem dk_ndr (a : Nat) : ∀ n : Nat, va_nd (List.range' a n) = true := by
  intro n
  induction n generalizing a with
  | zero => rfl
  | succ n ih =>
    rw [List.range'_succ, va_nd, ih (a + 1), Bool.and_true, decide_eq_true_eq]
    exact fun h => absurd (List.mem_range'_1.mp h).1 (by omega)
section D71
variable {p : Program} {l : Launch} {e : Env} {R : Room} {s : State} {m : MethodId} {args : Array Value} {below : List Frame} {meth : Method} {c : Code} {g : dk_G} {A : Nat → Prop} {Q : State → Prop} {nL cells slots pc : Nat} {lv : List (Nat × Value)} {st st0 : List Value} {ws : va_W} {cc : ByteArray} {own : String} {ret : Option FieldType}
theorem dk_wsE {ws' : va_W} (h : ws = ws') (kk : dk_J p l e R s m args below meth c g A Q nL cells slots pc lv st ws') : dk_J p l e R s m args below meth c g A Q nL cells slots pc lv st ws := h ▸ kk
theorem dk_nSrW {y : MethodName} {b : ByteArray} {nL2 n idx mc ms : Nat} {rm : Room} {ret2 : Option FieldType} {V : Type} {wd : V → Nat → va_W} (X : dk_X p s m args meth c cc nL own ret g A) (hy : dk_Ys y b nL2 ret2 n) (hlk : Cond.methodLink own idx y ∈ dk_tb) (As : List Value) (hM : dk_Nr l g y b nL2 rm ret2 As ws V wd mc ms) (hst : st0 = As.reverse ++ st) (hAs : As.length = n) (hrm : rm.cells = mc ∧ rm.slots = ms ∧ rm.frames + 1 ≤ R.frames ∧ 8 + (nL2 + 11) + rm.locals ≤ R.locals ∧ cells + mc ≤ R.cells ∧ slots + ms ≤ R.slots) (hcat : (st.map fun v => v.category).sum ≤ 8) (hdg : decode cc pc = .ok (.invokestatic idx, 3))
    (kk : ∀ (u : V) (a : Nat), dk_J p l e R s m args below meth c g A Q nL (cells + mc) (slots + ms) (pc + 3) lv (.ref a :: st) (wd u a)) : dk_J p l e R s m args below meth c g A Q nL cells slots pc lv st0 ws :=
  dk_nSr X hy hlk As hM (List.range' 0 ws.length) [] (dk_rngW ws) (wr := []) rfl (dk_ndr _ _) rfl (fun i h => by cases h) hst hAs hrm hcat hdg (fun u a => kk u a)
theorem dk_nIW {y : MethodName} {b : ByteArray} {nL2 n idx mc ms a : Nat} {rm : Room} {V : Type} {wd : V → va_W} {E : State → Prop} (X : dk_X p s m args meth c cc nL own ret g A) (hE : dk_Em E) (hs : E s) (hy : dk_Yi y b nL2 n) (hlk : Cond.methodLink own idx y ∈ dk_tb) (As : List Value) (hM : dk_Nv l g y b nL2 rm (.ref a :: As) E ws V wd mc ms) (hst : st0 = As.reverse ++ .ref a :: st) (hAs : As.length = n) (hrm : rm.cells = mc ∧ rm.slots = ms ∧ rm.frames + 1 ≤ R.frames ∧ 8 + (nL2 + 11) + rm.locals ≤ R.locals ∧ cells + mc ≤ R.cells ∧ slots + ms ≤ R.slots) (hcat : (st.map fun v => v.category).sum ≤ 8) (hdg : decode cc pc = .ok (.invokespecial idx, 3))
    (kk : ∀ u : V, dk_J p l e R s m args below meth c g A Q nL (cells + mc) (slots + ms) (pc + 3) lv st (wd u)) : dk_J p l e R s m args below meth c g A Q nL cells slots pc lv st0 ws :=
  dk_nI X hE hs hy hlk As hM (List.range' 0 ws.length) [] (dk_rngW ws) (wr := []) rfl (dk_ndr _ _) rfl (fun i h => by cases h) hst hAs hrm hcat hdg (fun u => kk u)
theorem dk_nVrW {y : MethodName} {b : ByteArray} {nL2 n idx mc ms a ci q0 : Nat} {rm : Room} {ret2 : Option FieldType} {fs : List Value} {r : vw_C} {V : Type} {wd : V → Nat → va_W} (X : dk_X p s m args meth c cc nL own ret g A) (hy : dk_Yv y b nL2 ret2 n) (hlk : Cond.methodLink own idx y ∈ dk_tb) (As : List Value) (hM : dk_Nr l g y b nL2 rm ret2 (.ref a :: As) ws V wd mc ms) (he : ws[q0]? = some (a, .inr (ci, fs))) (hc : dk_cls[ci]? = some r) (hrc : r.1 = y.cls) (hst : st0 = As.reverse ++ .ref a :: st) (hAs : As.length = n) (hrm : rm.cells = mc ∧ rm.slots = ms ∧ rm.frames + 1 ≤ R.frames ∧ 8 + (nL2 + 11) + rm.locals ≤ R.locals ∧ cells + mc ≤ R.cells ∧ slots + ms ≤ R.slots) (hcat : (st.map fun v => v.category).sum ≤ 8) (hdg : decode cc pc = .ok (.invokevirtual idx, 3))
    (kk : ∀ (u : V) (a : Nat), dk_J p l e R s m args below meth c g A Q nL (cells + mc) (slots + ms) (pc + 3) lv (.ref a :: st) (wd u a)) : dk_J p l e R s m args below meth c g A Q nL cells slots pc lv st0 ws :=
  dk_nVr X hy hlk As hM he hc hrc (List.range' 0 ws.length) [] (dk_rngW ws) (wr := []) rfl (dk_ndr _ _) rfl (fun i h => by cases h) hst hAs hrm hcat hdg (fun u a => kk u a)
theorem dk_acopyc (X : dk_X p s m args meth c cc nL own ret g A) {index a0 a n0 n1 : Nat} {f0 f1 : Nat → Int32} {sp dp n : Int32} {ws' : va_W} (q0 q1 : Nat) (ha0 : ws[q0]? = some (a0, .inl (g.2.1 0, n0, .inl f0))) (ha1 : ws[q1]? = some (a, .inl (g.2.1 0, n1, .inl f1))) (hset : ws.set q1 (a, .inl (g.2.1 0, n1, .inl (va_cpy f0 f1 sp.toNatClampNeg dp.toNatClampNeg n.toNatClampNeg))) = ws') (hlk : Cond.methodLink own index arraycopyName ∈ dk_tb) (h1 : ¬ sp < 0) (h2 : ¬ dp < 0) (h3 : ¬ n < 0) (h4 : sp.toNatClampNeg + n.toNatClampNeg ≤ n0) (h5 : dp.toNatClampNeg + n.toNatClampNeg ≤ n1) (hfr : 1 ≤ R.frames) (hlo : (st.map fun v => v.category).sum + (nativeFrameWords "java/lang/System" "arraycopy" 5 + 11) ≤ R.locals) (hdg : decode cc pc = .ok (.invokestatic index, 3))
    (kk : dk_J p l e R s m args below meth c g A Q nL cells slots (pc + 3) lv st ws') : dk_J p l e R s m args below meth c g A Q nL cells slots pc lv (.int n :: .int dp :: .ref a :: .int sp :: .ref a0 :: st) ws := fun H locs ls hP hD hS hl =>
  va_copyi X.1 X.2.1 (X.2.2.1.trans hl.1.symm) X.2.2.2.1 (X.2.2.2.2.1 _ hlk) (X.2.2.2.2.1 _ w_copy.1) (X.2.2.2.2.1 _ w_copy.2.1) (X.2.2.2.2.1 _ w_copy.2.2) X.2.2.2.2.2.1 hP hD hS q0 q1 0 0 ha0 ha1 rfl rfl rfl h1 h2 h3 h4 h5 (fun _ _ => rfl) hfr hlo hdg (fun H1 locs1 hP1 hD1 hS1 => kk H1 locs1 ls (hset ▸ hP1) (hset ▸ hD1) hS1 hl)
end D71
theorem w_oi : Cond.instanceMethod Lib.objectInit ∈ dk_tb ∧ Cond.code Lib.objectInit ⟨#[0xb1]⟩ 1 none ∈ dk_tb := ⟨dk_in (List.mem_of_getElem? (i := 90) (by decide +kernel)) rfl, dk_in (List.mem_of_getElem? (i := 91) (by decide +kernel)) rfl⟩
def dk_S0 : dk_S := fun _ _ => 0
abbrev b_Arrays_checkLength : ByteArray := prog_19_method_131_code
def y_Arrays_checkLength : MethodName := ⟨R_Arrays, "checkLength", "(II)V"⟩
abbrev b_Arrays_copyOfRangeInt : ByteArray := prog_19_method_137_code
def y_Arrays_copyOfRangeInt : MethodName := ⟨R_Arrays, "copyOfRangeInt", "([III)[I"⟩
abbrev b_Arrays_copyOfRange : ByteArray := prog_19_method_136_code
def y_Arrays_copyOfRange : MethodName := ⟨R_Arrays, "copyOfRange", "([III)[I"⟩
abbrev b_Reader_textRead : ByteArray := prog_5_method_4_code
def y_Reader_textRead : MethodName := ⟨R_Reader, "textRead", "()LWhoseHare$Text;"⟩
abbrev b_Text_init : ByteArray := prog_9_method_1_code
def y_Text_init : MethodName := ⟨R_Text, "<init>", "([I[I)V"⟩
abbrev b_Hare_text : ByteArray := prog_1_method_10_code
def y_Hare_text : MethodName := ⟨R_Hare, "text", "()I"⟩
theorem v_Arrays_checkLength : dk_Ys y_Arrays_checkLength b_Arrays_checkLength 2 (none) 2 := ⟨dk_in (List.mem_of_getElem? (i := 623) (by decide +kernel)) rfl, dk_in (List.mem_of_getElem? (i := 80) (by decide +kernel)) rfl, dk_in (List.mem_of_getElem? (i := 624) (by decide +kernel)) rfl, by decide +kernel, by decide +kernel, by decide +kernel⟩
theorem v_Arrays_copyOfRangeInt : dk_Ys y_Arrays_copyOfRangeInt b_Arrays_copyOfRangeInt 5 (some (.array .int)) 3 := ⟨dk_in (List.mem_of_getElem? (i := 620) (by decide +kernel)) rfl, dk_in (List.mem_of_getElem? (i := 80) (by decide +kernel)) rfl, dk_in (List.mem_of_getElem? (i := 621) (by decide +kernel)) rfl, by decide +kernel, by decide +kernel, by decide +kernel⟩
theorem v_Arrays_copyOfRange : dk_Ys y_Arrays_copyOfRange b_Arrays_copyOfRange 3 (some (.array .int)) 3 := ⟨dk_in (List.mem_of_getElem? (i := 617) (by decide +kernel)) rfl, dk_in (List.mem_of_getElem? (i := 80) (by decide +kernel)) rfl, dk_in (List.mem_of_getElem? (i := 618) (by decide +kernel)) rfl, by decide +kernel, by decide +kernel, by decide +kernel⟩
theorem v_Reader_textRead : dk_Yv y_Reader_textRead b_Reader_textRead 1 (some (.object R_Text)) 0 := ⟨dk_in (List.mem_of_getElem? (i := 612) (by decide +kernel)) rfl, dk_in (List.mem_of_getElem? (i := 613) (by decide +kernel)) rfl, dk_in (List.mem_of_getElem? (i := 69) (by decide +kernel)) rfl, dk_in (List.mem_of_getElem? (i := 614) (by decide +kernel)) rfl, by decide +kernel, by decide +kernel, by decide +kernel⟩
theorem v_Text_init : dk_Yi y_Text_init b_Text_init 3 2 := ⟨dk_in (List.mem_of_getElem? (i := 214) (by decide +kernel)) rfl, dk_in (List.mem_of_getElem? (i := 70) (by decide +kernel)) rfl, dk_in (List.mem_of_getElem? (i := 215) (by decide +kernel)) rfl, by decide +kernel, by decide +kernel⟩
theorem v_Hare_text : dk_Yv y_Hare_text b_Hare_text 1 (some .int) 0 := ⟨dk_in (List.mem_of_getElem? (i := 482) (by decide +kernel)) rfl, dk_in (List.mem_of_getElem? (i := 483) (by decide +kernel)) rfl, dk_in (List.mem_of_getElem? (i := 66) (by decide +kernel)) rfl, dk_in (List.mem_of_getElem? (i := 484) (by decide +kernel)) rfl, by decide +kernel, by decide +kernel, by decide +kernel⟩
theorem d_Arrays_checkLength_0 : decode b_Arrays_checkLength 0 = .ok (.iload_n 1, 1) := by decide +kernel
theorem d_Arrays_checkLength_1 : decode b_Arrays_checkLength 1 = .ok (.iload_n 0, 1) := by decide +kernel
theorem d_Arrays_checkLength_2 : decode b_Arrays_checkLength 2 = .ok (.if_icmp .ge 35, 3) := by decide +kernel
theorem d_Arrays_checkLength_37 : decode b_Arrays_checkLength 37 = .ok (.return_, 1) := by decide +kernel
theorem d_Arrays_copyOfRangeInt_0 : decode b_Arrays_copyOfRangeInt 0 = .ok (.iload_n 1, 1) := by decide +kernel
theorem d_Arrays_copyOfRangeInt_1 : decode b_Arrays_copyOfRangeInt 1 = .ok (.iload_n 2, 1) := by decide +kernel
theorem m_Arrays_343 : Cond.methodLink R_Arrays 343 y_Arrays_checkLength ∈ dk_tb := dk_in (List.mem_of_getElem? (i := 622) (by decide +kernel)) rfl
theorem d_Arrays_copyOfRangeInt_2 : decode b_Arrays_copyOfRangeInt 2 = .ok (.invokestatic 343, 3) := by decide +kernel
theorem d_Arrays_copyOfRangeInt_5 : decode b_Arrays_copyOfRangeInt 5 = .ok (.iload_n 2, 1) := by decide +kernel
theorem d_Arrays_copyOfRangeInt_6 : decode b_Arrays_copyOfRangeInt 6 = .ok (.iload_n 1, 1) := by decide +kernel
theorem d_Arrays_copyOfRangeInt_7 : decode b_Arrays_copyOfRangeInt 7 = .ok (.isub, 1) := by decide +kernel
theorem d_Arrays_copyOfRangeInt_8 : decode b_Arrays_copyOfRangeInt 8 = .ok (.istore_n 3, 1) := by decide +kernel
theorem d_Arrays_copyOfRangeInt_9 : decode b_Arrays_copyOfRangeInt 9 = .ok (.iload_n 3, 1) := by decide +kernel
theorem ac_int : Cond.arrayClass .int ∈ dk_tb := dk_in (List.mem_of_getElem? (i := 123) (by decide +kernel)) rfl
theorem d_Arrays_copyOfRangeInt_10 : decode b_Arrays_copyOfRangeInt 10 = .ok (.newarray .int, 2) := by decide +kernel
theorem d_Arrays_copyOfRangeInt_12 : decode b_Arrays_copyOfRangeInt 12 = .ok (.astore 4, 2) := by decide +kernel
theorem d_Arrays_copyOfRangeInt_14 : decode b_Arrays_copyOfRangeInt 14 = .ok (.aload_n 0, 1) := by decide +kernel
theorem d_Arrays_copyOfRangeInt_15 : decode b_Arrays_copyOfRangeInt 15 = .ok (.iload_n 1, 1) := by decide +kernel
theorem d_Arrays_copyOfRangeInt_16 : decode b_Arrays_copyOfRangeInt 16 = .ok (.aload 4, 2) := by decide +kernel
theorem d_Arrays_copyOfRangeInt_18 : decode b_Arrays_copyOfRangeInt 18 = .ok (.iconst 0, 1) := by decide +kernel
theorem d_Arrays_copyOfRangeInt_19 : decode b_Arrays_copyOfRangeInt 19 = .ok (.aload_n 0, 1) := by decide +kernel
theorem d_Arrays_copyOfRangeInt_20 : decode b_Arrays_copyOfRangeInt 20 = .ok (.arraylength, 1) := by decide +kernel
theorem d_Arrays_copyOfRangeInt_21 : decode b_Arrays_copyOfRangeInt 21 = .ok (.iload_n 1, 1) := by decide +kernel
theorem d_Arrays_copyOfRangeInt_22 : decode b_Arrays_copyOfRangeInt 22 = .ok (.isub, 1) := by decide +kernel
theorem d_Arrays_copyOfRangeInt_23 : decode b_Arrays_copyOfRangeInt 23 = .ok (.iload_n 3, 1) := by decide +kernel
theorem mm_Arrays_304 : Cond.methodLink R_Arrays 304 Lib.Math.min.name ∈ dk_tb := dk_in (List.mem_of_getElem? (i := 625) (by decide +kernel)) rfl
theorem d_Arrays_copyOfRangeInt_24 : decode b_Arrays_copyOfRangeInt 24 = .ok (.invokestatic 304, 3) := by decide +kernel
theorem mc_Arrays_150 : Cond.methodLink R_Arrays 150 arraycopyName ∈ dk_tb := dk_in (List.mem_of_getElem? (i := 628) (by decide +kernel)) rfl
theorem d_Arrays_copyOfRangeInt_27 : decode b_Arrays_copyOfRangeInt 27 = .ok (.invokestatic 150, 3) := by decide +kernel
theorem d_Arrays_copyOfRangeInt_30 : decode b_Arrays_copyOfRangeInt 30 = .ok (.aload 4, 2) := by decide +kernel
theorem d_Arrays_copyOfRangeInt_32 : decode b_Arrays_copyOfRangeInt 32 = .ok (.areturn, 1) := by decide +kernel
theorem d_Arrays_copyOfRange_10 : decode b_Arrays_copyOfRange 10 = .ok (.aload_n 0, 1) := by decide +kernel
theorem d_Arrays_copyOfRange_11 : decode b_Arrays_copyOfRange 11 = .ok (.iload_n 1, 1) := by decide +kernel
theorem d_Arrays_copyOfRange_12 : decode b_Arrays_copyOfRange 12 = .ok (.iload_n 2, 1) := by decide +kernel
theorem m_Arrays_351 : Cond.methodLink R_Arrays 351 y_Arrays_copyOfRangeInt ∈ dk_tb := dk_in (List.mem_of_getElem? (i := 619) (by decide +kernel)) rfl
theorem d_Arrays_copyOfRange_13 : decode b_Arrays_copyOfRange 13 = .ok (.invokestatic 351, 3) := by decide +kernel
theorem d_Arrays_copyOfRange_16 : decode b_Arrays_copyOfRange 16 = .ok (.areturn, 1) := by decide +kernel
theorem d_Arrays_copyOfRange_0 : decode b_Arrays_copyOfRange 0 = .ok (.iload_n 1, 1) := by decide +kernel
theorem d_Arrays_copyOfRange_1 : decode b_Arrays_copyOfRange 1 = .ok (.ifCond .ne 9, 3) := by decide +kernel
theorem d_Arrays_copyOfRange_4 : decode b_Arrays_copyOfRange 4 = .ok (.iload_n 2, 1) := by decide +kernel
theorem d_Arrays_copyOfRange_5 : decode b_Arrays_copyOfRange 5 = .ok (.aload_n 0, 1) := by decide +kernel
theorem d_Arrays_copyOfRange_6 : decode b_Arrays_copyOfRange 6 = .ok (.arraylength, 1) := by decide +kernel
theorem d_Arrays_copyOfRange_7 : decode b_Arrays_copyOfRange 7 = .ok (.if_icmp .eq 10, 3) := by decide +kernel
theorem d_Text_init_0 : decode b_Text_init 0 = .ok (.aload_n 0, 1) := by decide +kernel
theorem d_Text_init_1 : decode b_Text_init 1 = .ok (.invokespecial 1, 3) := by decide +kernel
theorem d_Text_init_4 : decode b_Text_init 4 = .ok (.aload_n 0, 1) := by decide +kernel
theorem d_Text_init_5 : decode b_Text_init 5 = .ok (.aload_n 1, 1) := by decide +kernel
theorem f_Text_7 : Cond.fieldLink R_Text 7 (T_Text 0).1 (T_Text 0).2.1 (T_Text 0).2.2.1 ∈ dk_tb := dk_in (List.mem_of_getElem? (i := 217) (by decide +kernel)) rfl
theorem d_Text_init_6 : decode b_Text_init 6 = .ok (.putfield 7, 3) := by decide +kernel
theorem d_Text_init_9 : decode b_Text_init 9 = .ok (.aload_n 0, 1) := by decide +kernel
theorem d_Text_init_10 : decode b_Text_init 10 = .ok (.aload_n 2, 1) := by decide +kernel
theorem f_Text_13 : Cond.fieldLink R_Text 13 (T_Text 1).1 (T_Text 1).2.1 (T_Text 1).2.2.1 ∈ dk_tb := dk_in (List.mem_of_getElem? (i := 219) (by decide +kernel)) rfl
theorem d_Text_init_11 : decode b_Text_init 11 = .ok (.putfield 13, 3) := by decide +kernel
theorem d_Text_init_14 : decode b_Text_init 14 = .ok (.return_, 1) := by decide +kernel
theorem cl_Reader_48 : Cond.classLink R_Reader 48 R_Text ∈ dk_tb := dk_in (List.mem_of_getElem? (i := 615) (by decide +kernel)) rfl
theorem in_Text : Cond.instantiable R_Text 2 ∈ dk_tb := dk_in (List.mem_of_getElem? (i := 212) (by decide +kernel)) rfl
theorem ii_Text : Cond.initialized R_Text ∈ dk_tb := dk_in (List.mem_of_getElem? (i := 70) (by decide +kernel)) rfl
theorem d_Reader_textRead_0 : decode b_Reader_textRead 0 = .ok (.new 48, 3) := by decide +kernel
theorem d_Reader_textRead_3 : decode b_Reader_textRead 3 = .ok (.dup, 1) := by decide +kernel
theorem d_Reader_textRead_4 : decode b_Reader_textRead 4 = .ok (.aload_n 0, 1) := by decide +kernel
theorem d_Reader_textRead_5 : decode b_Reader_textRead 5 = .ok (.getfield 15, 3) := by decide +kernel
theorem d_Reader_textRead_8 : decode b_Reader_textRead 8 = .ok (.iconst 0, 1) := by decide +kernel
theorem d_Reader_textRead_9 : decode b_Reader_textRead 9 = .ok (.aload_n 0, 1) := by decide +kernel
theorem d_Reader_textRead_10 : decode b_Reader_textRead 10 = .ok (.getfield 45, 3) := by decide +kernel
theorem m_Reader_50 : Cond.methodLink R_Reader 50 y_Arrays_copyOfRange ∈ dk_tb := dk_in (List.mem_of_getElem? (i := 616) (by decide +kernel)) rfl
theorem d_Reader_textRead_13 : decode b_Reader_textRead 13 = .ok (.invokestatic 50, 3) := by decide +kernel
theorem d_Reader_textRead_16 : decode b_Reader_textRead 16 = .ok (.aload_n 0, 1) := by decide +kernel
theorem d_Reader_textRead_17 : decode b_Reader_textRead 17 = .ok (.getfield 15, 3) := by decide +kernel
theorem d_Reader_textRead_20 : decode b_Reader_textRead 20 = .ok (.aload_n 0, 1) := by decide +kernel
theorem d_Reader_textRead_21 : decode b_Reader_textRead 21 = .ok (.getfield 45, 3) := by decide +kernel
theorem d_Reader_textRead_24 : decode b_Reader_textRead 24 = .ok (.aload_n 0, 1) := by decide +kernel
theorem d_Reader_textRead_25 : decode b_Reader_textRead 25 = .ok (.getfield 26, 3) := by decide +kernel
theorem d_Reader_textRead_28 : decode b_Reader_textRead 28 = .ok (.invokestatic 50, 3) := by decide +kernel
theorem m_Reader_56 : Cond.methodLink R_Reader 56 y_Text_init ∈ dk_tb := dk_in (List.mem_of_getElem? (i := 638) (by decide +kernel)) rfl
theorem d_Reader_textRead_31 : decode b_Reader_textRead 31 = .ok (.invokespecial 56, 3) := by decide +kernel
theorem d_Reader_textRead_34 : decode b_Reader_textRead 34 = .ok (.areturn, 1) := by decide +kernel
abbrev rm_Z0 : Room := { frames := 0, cells := 0, slots := 0, locals := 0 }
theorem c_Arrays_checkLength (l : Launch) (g : dk_G) (ws : va_W) (i j : Int32) : dk_Mv l g y_Arrays_checkLength b_Arrays_checkLength 2 rm_Z0 none [.int i, .int j] (fun _ => ws) dk_S0 (if i ≤ j then some dk_S0 else none) :=
  dk_enterv (by decide) rfl (Nat.le_of_ble_eq_true rfl) (fun p e s m args below meth c A Q res hF X hR => by
    refine dk_iload_n (k := 1) (i := 1) X 1 rfl rfl d_Arrays_checkLength_0 ?_
    refine dk_iload_n (k := 0) (i := 0) X 0 rfl rfl d_Arrays_checkLength_1 ?_
    refine dk_icmp_ge (tgt := 37) X (by decide) d_Arrays_checkLength_2 hF (fun hF => ?_) (fun hF => ?_)
    · exact dk_retv hR hF d_Arrays_checkLength_37
    · cases hF)
abbrev rm_cri (N : Nat) : Room := { frames := 1, cells := 1, slots := N, locals := 60 }
theorem c_Arrays_copyOfRangeInt (l : Launch) (g : dk_G) (ws : va_W) (q0 a n i j : Nat) (f : Nat → Int32) (ha : ws[q0]? = some (a, .inl (g.2.1 0, n, .inl f))) (hij : i ≤ j) (hjn : j ≤ n) (hn : n < 2 ^ 20) : dk_Nr l g y_Arrays_copyOfRangeInt b_Arrays_copyOfRangeInt 5 (rm_cri (j - i)) (some (.array .int)) [.ref a, .int (nI i), .int (nI j)] ws Unit (fun _ q => ws ++ [(q, .inl (g.2.1 0, j - i, .inl (va_cpy f (fun _ => 0) i 0 (j - i))))]) 1 (j - i) :=
  dk_enterR rfl (Or.inr ⟨_, rfl⟩) (by decide) (Nat.le_of_ble_eq_true rfl) (fun p e s m args below meth c A Q X hR => by
    refine dk_iload_n (k := 1) (i := 1) X 1 rfl rfl d_Arrays_copyOfRangeInt_0 ?_
    refine dk_iload_n (k := 2) (i := 2) X 2 rfl rfl d_Arrays_copyOfRangeInt_1 ?_
    refine dk_callSv (wd := fun _ => ws) (S := dk_S0) (K := fun S' => some S') (res := dk_S0) X v_Arrays_checkLength [.int (nI i), .int (nI j)] (c_Arrays_checkLength l g ws (nI i) (nI j)) m_Arrays_343 rfl rfl ⟨rfl, rfl, Nat.le_of_ble_eq_true rfl, Nat.le_of_ble_eq_true rfl, Nat.zero_le _, Nat.zero_le _⟩ (Nat.le_of_ble_eq_true rfl) d_Arrays_copyOfRangeInt_2 (by rw [if_pos (nI_le hij (by omega))]; rfl) (fun S' _ => ?_)
    show dk_J p l e _ s m args below meth c g A Q 5 0 0 5 _ [] ws
    refine dk_iload_n (k := 2) (i := 2) X 2 rfl rfl d_Arrays_copyOfRangeInt_5 ?_
    refine dk_iload_n (k := 1) (i := 1) X 1 rfl rfl d_Arrays_copyOfRangeInt_6 ?_
    refine dk_isub X d_Arrays_copyOfRangeInt_7 ?_
    rw [pk_sub hij]
    refine dk_istore_n (k := 3) (i := 3) (lv' := [(3, .int (nI (j - i))), (0, .ref a), (1, .int (nI i)), (2, .int (nI j))]) X rfl (by decide) rfl d_Arrays_copyOfRangeInt_8 ?_
    refine dk_iload_n (k := 3) (i := 3) X 0 rfl rfl d_Arrays_copyOfRangeInt_9 ?_
    refine dk_newa X (N := j - i) (a0 := (j - i, .inl fun _ => 0)) 0 rfl (fun _ _ h => h) rfl ac_int (fun _ => rfl) (nI_pos (by omega)) (nI_clamp (by omega)) (by show (j - i) * 4 ≤ _; omega) (Nat.le_of_ble_eq_true rfl) (Nat.le_of_eq (Nat.zero_add _)) d_Arrays_copyOfRangeInt_10 (fun a1 => ?_)
    refine dk_astore (i := 4) (lv' := [(4, .ref a1), (3, .int (nI (j - i))), (0, .ref a), (1, .int (nI i)), (2, .int (nI j))]) X (by decide) rfl d_Arrays_copyOfRangeInt_12 ?_
    refine dk_aload_n (k := 0) (i := 0) X 2 rfl rfl d_Arrays_copyOfRangeInt_14 ?_
    refine dk_iload_n (k := 1) (i := 1) X 3 rfl rfl d_Arrays_copyOfRangeInt_15 ?_
    refine dk_aload (i := 4) X 0 rfl d_Arrays_copyOfRangeInt_16 ?_
    refine dk_iconst (v := 0) X (by decide) d_Arrays_copyOfRangeInt_18 ?_
    refine dk_aload_n (k := 0) (i := 0) X 2 rfl rfl d_Arrays_copyOfRangeInt_19 ?_
    refine dk_alen X q0 0 (dk_al ha) rfl d_Arrays_copyOfRangeInt_20 ?_
    refine dk_iload_n (k := 1) (i := 1) X 3 rfl rfl d_Arrays_copyOfRangeInt_21 ?_
    refine dk_isub X d_Arrays_copyOfRangeInt_22 ?_
    refine dk_iload_n (k := 3) (i := 3) X 1 rfl rfl d_Arrays_copyOfRangeInt_23 ?_
    refine dk_mmin X mm_Arrays_304 (Nat.le_of_ble_eq_true rfl) (Nat.le_of_ble_eq_true rfl) (Nat.le_refl _) (Nat.le_of_eq (Nat.zero_add _)) d_Arrays_copyOfRangeInt_24 ?_
    rw [show (if nI (j - i) < nI (n, Sum.inl f).1 - nI i then nI (j - i) else nI (n, Sum.inl f).1 - nI i) = nI (j - i) from by
      show (if nI (j - i) < nI n - nI i then nI (j - i) else nI n - nI i) = nI (j - i)
      rw [pk_sub (show i ≤ n by omega)]
      by_cases h : j - i < n - i
      · rw [if_pos (nI_lt h (by omega))]
      · rw [if_neg (nI_nlt (by omega) (by omega))]; congr 1; omega]
    refine dk_acopyc X q0 ws.length (dk_al ha) dk_ae (ws' := ws ++ [(a1, .inl (g.2.1 0, j - i, .inl (va_cpy f (fun _ => 0) i 0 (j - i))))]) (by rw [nI_clamp (show i < 2 ^ 31 by omega), nI_clamp (show j - i < 2 ^ 31 by omega), List.set_append_right _ _ (Nat.le_refl _), Nat.sub_self]; rfl) mc_Arrays_150 (nI_pos (by omega)) (by decide) (nI_pos (by omega)) (by rw [nI_clamp (show i < 2 ^ 31 by omega), nI_clamp (show j - i < 2 ^ 31 by omega)]; omega) (by rw [nI_clamp (show j - i < 2 ^ 31 by omega), show (0 : Int32).toNatClampNeg = 0 from rfl]; omega) (Nat.le_of_ble_eq_true rfl) (Nat.le_of_ble_eq_true rfl) d_Arrays_copyOfRangeInt_27 ?_
    refine dk_aload (i := 4) X 0 rfl d_Arrays_copyOfRangeInt_30 ?_
    refine dk_wid (cells := 0 + 1) (k := 1) (n := j - i) (Nat.le_refl _) (by omega) ?_
    exact hR () a1 _ _ d_Arrays_copyOfRangeInt_32)
abbrev rm_cr (N : Nat) : Room := { frames := 2, cells := 1, slots := N, locals := 100 }
theorem c_Arrays_copyOfRange (l : Launch) (g : dk_G) (ws : va_W) (q0 a n i j : Nat) (f : Nat → Int32) (ha : ws[q0]? = some (a, .inl (g.2.1 0, n, .inl f))) (hij : i ≤ j) (hjn : j ≤ n) (hn : n < 2 ^ 20) (hw : i = 0 → j < n) : dk_Nr l g y_Arrays_copyOfRange b_Arrays_copyOfRange 3 (rm_cr (j - i)) (some (.array .int)) [.ref a, .int (nI i), .int (nI j)] ws Unit (fun _ q => ws ++ [(q, .inl (g.2.1 0, j - i, .inl (va_cpy f (fun _ => 0) i 0 (j - i))))]) 1 (j - i) :=
  dk_enterR rfl (Or.inr ⟨_, rfl⟩) (by decide) (Nat.le_of_ble_eq_true rfl) (fun p e s m args below meth c A Q X hR => by
    have road : dk_J p l e (rm_cr (j - i)) s m args below meth c g A Q 3 0 0 10 [(0, .ref a), (1, .int (nI i)), (2, .int (nI j))] [] ws := by
      refine dk_aload_n (k := 0) (i := 0) X 0 rfl rfl d_Arrays_copyOfRange_10 ?_
      refine dk_iload_n (k := 1) (i := 1) X 1 rfl rfl d_Arrays_copyOfRange_11 ?_
      refine dk_iload_n (k := 2) (i := 2) X 2 rfl rfl d_Arrays_copyOfRange_12 ?_
      refine dk_nSrW X v_Arrays_copyOfRangeInt m_Arrays_351 [.ref a, .int (nI i), .int (nI j)] (c_Arrays_copyOfRangeInt l g ws q0 a n i j f ha hij hjn hn) rfl rfl ⟨rfl, rfl, Nat.le_of_ble_eq_true rfl, Nat.le_of_ble_eq_true rfl, Nat.le_of_ble_eq_true rfl, (Nat.le_of_eq (Nat.zero_add _))⟩ (Nat.le_of_ble_eq_true rfl) d_Arrays_copyOfRange_13 (fun u q => ?_)
      refine dk_wid (k := 1) (n := j - i) (Nat.le_refl _) (by omega) ?_
      exact hR () q _ _ d_Arrays_copyOfRange_16
    refine dk_iload_n (k := 1) (i := 1) X 1 rfl rfl d_Arrays_copyOfRange_0 ?_
    by_cases hi : i = 0
    · have hF : (if ¬ nI i = 0 then none else some ()) = some () := by rw [hi]; rfl
      refine dk_if_ne (tgt := 10) X (by decide) d_Arrays_copyOfRange_1 hF (fun hF => ?_) (fun hF => ?_)
      · cases hF
      refine dk_iload_n (k := 2) (i := 2) X 2 rfl rfl d_Arrays_copyOfRange_4 ?_
      refine dk_aload_n (k := 0) (i := 0) X 0 rfl rfl d_Arrays_copyOfRange_5 ?_
      refine dk_alen X q0 0 ha rfl d_Arrays_copyOfRange_6 ?_
      have h2 : (if nI j = nI n then none else some ()) = some () := if_neg (fun q => absurd ((nI_eq (by omega) (by omega)).mp q) (by have := hw hi; omega))
      refine dk_icmp_eq (tgt := 17) X (by decide) d_Arrays_copyOfRange_7 h2 (fun hF => ?_) (fun hF => ?_)
      · cases hF
      exact road
    · have hF : (if ¬ nI i = 0 then some () else none) = some () := if_pos (nI_ne0 (by omega) (by omega))
      refine dk_if_ne (tgt := 10) X (by decide) d_Arrays_copyOfRange_1 hF (fun hF => ?_) (fun hF => ?_)
      · exact road
      · cases hF)
abbrev rm_ti : Room := { frames := 1, cells := 0, slots := 0, locals := 20 }
theorem mo_Text : Cond.methodLink R_Text 1 Lib.objectInit ∈ dk_tb := dk_in (List.mem_of_getElem? (i := 216) (by decide +kernel)) rfl
theorem c_Text_init (l : Launch) (g : dk_G) (ws : va_W) (q0 a w f : Nat) (ha : ws[q0]? = some (a, .inr (5, [.null, .null]))) : dk_Nv l g y_Text_init b_Text_init 3 rm_ti [.ref a, .ref w, .ref f] dk_EO ws Unit (fun _ => ws.set q0 (a, .inr (5, [.ref w, .ref f]))) 0 0 :=
  dk_enterN (by decide) (Nat.le_of_ble_eq_true rfl) (fun p e s m args below meth c A Q X hE hnm hR => by
    refine dk_aload_n (k := 0) (i := 0) X 0 rfl rfl d_Text_init_0 ?_
    refine dk_objI X mo_Text w_oi.1 w_oi.2 (Nat.le_of_ble_eq_true rfl) (Nat.le_of_ble_eq_true rfl) d_Text_init_1 ?_
    refine dk_aload_n (k := 0) (i := 0) X 0 rfl rfl d_Text_init_4 ?_
    refine dk_aload_n (k := 1) (i := 1) X 1 rfl rfl d_Text_init_5 ?_
    have h1 : (ws.set q0 (a, .inr (5, [.ref w, .null])))[q0]? = some (a, .inr (5, [.ref w, .null])) := by
      obtain ⟨h1, _⟩ := List.getElem?_eq_some_iff.mp ha
      exact List.getElem?_set_self h1
    refine dk_putF (ws' := ws.set q0 (a, .inr (5, [.ref w, .null]))) X q_Text q0 0 (by decide) ha f_Text_7 rfl hnm rfl rfl rfl rfl (by decide) rfl d_Text_init_6 ?_
    refine dk_aload_n (k := 0) (i := 0) X 0 rfl rfl d_Text_init_9 ?_
    refine dk_aload_n (k := 2) (i := 2) X 2 rfl rfl d_Text_init_10 ?_
    refine dk_putF (ws' := ws.set q0 (a, .inr (5, [.ref w, .ref f]))) X q_Text q0 1 (by decide) h1 f_Text_13 rfl hnm rfl rfl rfl rfl (Nat.le_of_ble_eq_true rfl) (by rw [List.set_set]; rfl) d_Text_init_11 ?_
    exact hR () _ _ d_Text_init_14)
abbrev rm_tr : Room := { frames := 3, cells := 3, slots := 162, locals := 140 }
def dk_nT (g : dk_G) (f : Nat → Int32) (s1 s2 t w f2 : Nat) : va_W := [(t, .inr (5, [.ref w, .ref f2])), (w, .inl (g.2.1 0, s1, .inl (va_cpy f (fun _ => 0) 0 0 s1))), (f2, .inl (g.2.1 0, s2 - s1, .inl (va_cpy f (fun _ => 0) s1 0 (s2 - s1))))]
theorem c_Reader_textRead (l : Launch) (g : dk_G) (ad : Nat → Nat) (T : Nat) (S : dk_S) (s1 s2 : Nat) (h1 : S 108 0 = nI s1) (h2 : S 107 0 = nI s2) (h01 : 1 ≤ s1) (h12 : s1 < s2) (h26 : s2 ≤ 160) : dk_Nr l g y_Reader_textRead b_Reader_textRead 1 rm_tr (some (.object R_Text)) [.ref (ad 12)] (wC g ad T S) (Nat × Nat) (fun u t => wC g ad T S ++ dk_nT g (S 14) s1 s2 t u.1 u.2) 3 162 :=
  dk_enterR rfl (Or.inl ⟨_, rfl⟩) (by decide) (Nat.le_of_ble_eq_true rfl) (fun p e s m args below meth c A Q X hR => by
    refine dk_new X q_Text (fs := [.null, .null]) cl_Reader_48 in_Text ii_Text (by decide +kernel) (Nat.le_of_ble_eq_true rfl) (Nat.le_of_ble_eq_true rfl) d_Reader_textRead_0 (fun t => ?_)
    refine dk_dup X rfl d_Reader_textRead_3 ?_
    refine dk_aload_n (k := 0) (i := 0) X 0 rfl rfl d_Reader_textRead_4 ?_
    refine dk_get X q_Reader 12 3 (by decide) (dk_al (oC_Reader g ad T S)) rfl f_Reader_15 d_Reader_textRead_5 ?_
    refine dk_iconst (v := 0) X (by decide) d_Reader_textRead_8 ?_
    refine dk_aload_n (k := 0) (i := 0) X 0 rfl rfl d_Reader_textRead_9 ?_
    refine dk_get X q_Reader 12 5 (by decide) (dk_al (oC_Reader g ad T S)) (v := .int (nI s1)) (by rw [← h1]; rfl) f_Reader_45 d_Reader_textRead_10 ?_
    refine dk_nSrW (mc := 1) (ms := s1 - 0) X v_Arrays_copyOfRange m_Reader_50 [.ref (ad 14), .int (nI 0), .int (nI s1)] (c_Arrays_copyOfRange l g _ 14 (ad 14) 160 0 s1 (S 14) (dk_al (aC_14 g ad T S)) (by omega) (by omega) (by decide) (fun _ => by omega)) rfl rfl ⟨rfl, rfl, Nat.le_of_ble_eq_true rfl, Nat.le_of_ble_eq_true rfl, Nat.le_of_ble_eq_true rfl, (by show 0 + 2 + (s1 - 0) ≤ 162; omega)⟩ (Nat.le_of_ble_eq_true rfl) d_Reader_textRead_13 (fun _ w => ?_)
    refine dk_aload_n (k := 0) (i := 0) X 0 rfl rfl d_Reader_textRead_16 ?_
    refine dk_get X q_Reader 12 3 (by decide) (dk_al (dk_al (oC_Reader g ad T S))) rfl f_Reader_15 d_Reader_textRead_17 ?_
    refine dk_aload_n (k := 0) (i := 0) X 0 rfl rfl d_Reader_textRead_20 ?_
    refine dk_get X q_Reader 12 5 (by decide) (dk_al (dk_al (oC_Reader g ad T S))) (v := .int (nI s1)) (by rw [← h1]; rfl) f_Reader_45 d_Reader_textRead_21 ?_
    refine dk_aload_n (k := 0) (i := 0) X 0 rfl rfl d_Reader_textRead_24 ?_
    refine dk_get X q_Reader 12 4 (by decide) (dk_al (dk_al (oC_Reader g ad T S))) (v := .int (nI s2)) (by rw [← h2]; rfl) f_Reader_26 d_Reader_textRead_25 ?_
    refine dk_nSrW (mc := 1) (ms := s2 - s1) X v_Arrays_copyOfRange m_Reader_50 [.ref (ad 14), .int (nI s1), .int (nI s2)] (c_Arrays_copyOfRange l g _ 14 (ad 14) 160 s1 s2 (S 14) (dk_al (dk_al (aC_14 g ad T S))) (by omega) (by omega) (by decide) (fun _ => by omega)) rfl rfl ⟨rfl, rfl, Nat.le_of_ble_eq_true rfl, Nat.le_of_ble_eq_true rfl, Nat.le_of_ble_eq_true rfl, (by show 0 + 2 + (s1 - 0) + (s2 - s1) ≤ 162; omega)⟩ (Nat.le_of_ble_eq_true rfl) d_Reader_textRead_28 (fun _ f2 => ?_)
    refine dk_nIW (mc := 0) (ms := 0) X dk_EOm trivial v_Text_init m_Reader_56 [.ref w, .ref f2] (c_Text_init l g _ (wC g ad T S).length t w f2 (dk_al (dk_al dk_ae))) rfl rfl ⟨rfl, rfl, Nat.le_of_ble_eq_true rfl, Nat.le_of_ble_eq_true rfl, Nat.le_of_ble_eq_true rfl, (by show 0 + 2 + (s1 - 0) + (s2 - s1) + 0 ≤ 162; omega)⟩ (Nat.le_of_ble_eq_true rfl) d_Reader_textRead_31 (fun _ => ?_)
    refine dk_wsE (ws' := wC g ad T S ++ dk_nT g (S 14) s1 s2 t w f2) (by rw [List.append_assoc, List.append_assoc, List.set_append_right _ _ (Nat.le_refl _), Nat.sub_self]; rfl) ?_
    refine dk_wid (k := 3) (n := 162) (Nat.le_refl _) (by omega) ?_
    exact hR (w, f2) t _ _ d_Reader_textRead_34)
