/-! MACHINE: rows that make cells, and calls over a part of the world -/
theorem dk_fm {ws ws' : va_W} {is : List Nat} (h : is.map (fun i => ws[i]?) = ws'.map some) : is.filterMap (fun i => ws[i]?) = ws' := by
  induction is generalizing ws' with
  | nil => cases ws' with
    | nil => rfl
    | cons => cases h
  | cons i is ih => cases ws' with
    | nil => cases h
    | cons x xs =>
      simp only [List.map_cons, List.cons.injEq] at h
      rw [List.filterMap_cons, h.1, ih h.2]
section DKN
variable {p : Program} {l : Launch} {e : Env} {R : Room} {s : State} {m : MethodId} {args : Array Value} {below : List Frame} {meth : Method} {c : Code} {g : dk_G} {A : Nat → Prop} {Q : State → Prop} {nL cells slots pc : Nat} {lv : List (Nat × Value)} {st st0 : List Value} {ws : va_W} {cc : ByteArray} {own : String} {ret : Option FieldType}
theorem dk_wid {k n : Nat} (h1 : cells ≤ k) (h2 : slots ≤ n) (kk : dk_J p l e R s m args below meth c g A Q nL k n pc lv st ws) : dk_J p l e R s m args below meth c g A Q nL cells slots pc lv st ws := fun H locs ls hP hD hS hl => W.widen h1 h2 (kk H locs ls hP hD hS hl)
theorem dk_newa (X : dk_X p s m args meth c cc nL own ret g A) {atype : ArrayType} {ty : FieldType} (t0 : Nat) {cA : ClassId} {n : Int32} {N : Nat} {a0 : vp_A} (ht : (dk_ty g)[t0]? = some (cA, ty)) (hra : ∀ U c, va_RA U c ty → U.vm.findClass ("[" ++ ty.toString) = some c) (hty : newarray.typeOf atype = ty) (harr : Cond.arrayClass ty ∈ dk_tb) (ha : ∀ cA : ClassId, vp_cell cA a0 = arrV cA N (fun _ => defaultValue ty)) (hn : ¬ n < 0) (hN : n.toNatClampNeg = N) (hb : N * componentBytes ty ≤ 536870912) (hc : cells + 1 ≤ R.cells) (hs : slots + N ≤ R.slots) (hdg : decode cc pc = .ok (.newarray atype, 2))
    (kk : ∀ q : Nat, dk_J p l e R s m args below meth c g A Q nL (cells + 1) (slots + N) (pc + 2) lv (.ref q :: st) (ws ++ [(q, .inl (cA, a0))])) : dk_J p l e R s m args below meth c g A Q nL cells slots pc lv (.int n :: st) ws := by
  intro H locs ls hP hD hS hl
  refine va_newa X.1 X.2.1 (by rw [hty]; exact X.2.2.2.2.1 _ harr) hty X.2.2.2.2.2.1 hP hD hS X.2.2.2.2.2.2.1 ha hn hN hb hc hs hdg (fun q cA2 H1 hK1 hP1 hD1 hS1 => ?_)
  have h1 := hra _ _ (X.2.2.2.2.2.1.2 t0 _ ht).2
  have h2 := hra _ _ (hK1.2 (dk_ty g).length (cA2, ty) (by rw [List.getElem?_append_right (Nat.le_refl _), Nat.sub_self]; rfl)).2
  have h3 : cA2 = cA := Option.some.inj (h2.symm.trans h1)
  subst h3
  exact kk q H1 locs ls hP1 hD1 hS1 hl
theorem dk_new (X : dk_X p s m args meth c cc nL own ret g A) {C : String} {T : u_T} {N ci : Nat} {ty : Nat → FieldType} (q : dk_Cl C T N ci ty) {index : Nat} {fs : List Value} (hcl : Cond.classLink own index C ∈ dk_tb) (hin : Cond.instantiable C N ∈ dk_tb) (hini : Cond.initialized C ∈ dk_tb) (hfs : ∀ j, j < N → defaultValue (ty j) = vp_V fs j) (hc : cells + 1 ≤ R.cells) (hs : slots + N ≤ R.slots) (hdg : decode cc pc = .ok (.new index, 3))
    (kk : ∀ a : Nat, dk_J p l e R s m args below meth c g A Q nL (cells + 1) (slots + N) (pc + 3) lv (.ref a :: st) (ws ++ [(a, .inr (ci, fs))])) : dk_J p l e R s m args below meth c g A Q nL cells slots pc lv st ws := fun H locs ls hP hD hS hl =>
  va_new X.1 X.2.1 X.2.2.2.2.1 q.1 ty q.2.2.1 X.2.2.2.1 (X.2.2.2.2.1 _ hcl) (X.2.2.2.2.1 _ hin) (X.2.2.2.2.1 _ hini) X.2.2.2.2.2.1 hP hD hS X.2.2.2.2.2.2.1 q.2.1 hfs hc hs hdg (fun a H1 hP1 hD1 hS1 => kk a H1 locs ls hP1 hD1 hS1 hl)
theorem dk_newq (X : dk_X p s m args meth c cc nL own ret g A) {C : String} {index : Nat} (t0 : Nat) {cA : ClassId} {n : Int32} {N : Nat} (ht : (dk_ty g)[t0]? = some (cA, .object C)) (hao : va_AO C s) (hcl : Cond.classLink own index C ∈ dk_tb) (hn : ¬ n < 0) (hN : n.toNatClampNeg = N) (hb : N * 4 ≤ 536870912) (hc : cells + 1 ≤ R.cells) (hs : slots + N ≤ R.slots) (hdg : decode cc pc = .ok (.anewarray index, 3))
    (kk : ∀ q : Nat, dk_J p l e R s m args below meth c g A Q nL (cells + 1) (slots + N) (pc + 3) lv (.ref q :: st) (ws ++ [(q, .inl (cA, N, .inr (.inr (.inr (.inr (fun _ => none))))))])) : dk_J p l e R s m args below meth c g A Q nL cells slots pc lv (.int n :: st) ws := by
  intro H locs ls hP hD hS hl
  refine va_newq X.1 X.2.1 X.2.2.2.1 (X.2.2.2.2.1 _ hcl) hao X.2.2.2.2.2.1 hP hD hS X.2.2.2.2.2.2.1 hn hN hb hc hs hdg (fun q cA2 H1 hK1 hP1 hD1 hS1 => ?_)
  obtain ⟨-, -, -, -, -, h1⟩ := (X.2.2.2.2.2.1.2 t0 _ ht).2
  obtain ⟨-, -, -, -, -, h2⟩ := (hK1.2 (dk_ty g).length (cA2, .object C) (by rw [List.getElem?_append_right (Nat.le_refl _), Nat.sub_self]; rfl)).2
  have h3 : cA2 = cA := Option.some.inj (h2.symm.trans h1)
  subst h3
  exact kk q H1 locs ls hP1 hD1 hS1 hl
theorem dk_putF (X : dk_X p s m args meth c cc nL own ret g A) {C : String} {T : u_T} {N ci : Nat} {ty : Nat → FieldType} (q : dk_Cl C T N ci ty) {a index : Nat} {fs : List Value} {v : Value} {ty' : FieldType} {ws' : va_W} (q0 k : Nat) (hk : k < N) (he : ws[q0]? = some (a, .inr (ci, fs))) (hlk : Cond.fieldLink own index (T k).1 (T k).2.1 (T k).2.2.1 ∈ dk_tb) (hfin : (T k).2.2.2 = true) (hnm : meth.name = "<init>") (hdecl : (T k).1 = own) (hty : ty k = ty') (hn : narrow ty' v = v) (hfit : fits ty' v = true) (hlen : k < fs.length) (hset : ws.set q0 (a, .inr (ci, fs.set k v)) = ws') (hdg : decode cc pc = .ok (.putfield index, 3))
    (kk : dk_J p l e R s m args below meth c g A Q nL cells slots (pc + 3) lv st ws') : dk_J p l e R s m args below meth c g A Q nL cells slots pc lv (v :: .ref a :: st) ws := fun H locs ls hP hD hS hl =>
  va_putF X.1 X.2.1 X.2.2.2.2.1 q.1 ty q.2.2.1 q.2.2.2 X.2.2.2.1 X.2.2.2.2.2.1 hP hD hS q0 he q.2.1 k hk (X.2.2.2.2.1 _ hlk) (fun _ h => h) hfin hnm hdecl (hty ▸ q.2.2.1 k hk) hn hfit hlen hdg (fun H1 locs1 hP1 hD1 hS1 => kk H1 locs1 ls (hset ▸ hP1) (hset ▸ hD1) hS1 hl)
theorem dk_objI (X : dk_X p s m args meth c cc nL own ret g A) {idx a : Nat} (hlk : Cond.methodLink own idx Lib.objectInit ∈ dk_tb) (hin : Cond.instanceMethod Lib.objectInit ∈ dk_tb) (hco : Cond.code Lib.objectInit ⟨#[0xb1]⟩ 1 none ∈ dk_tb) (hfr : 1 ≤ R.frames) (hlo : (st.map fun v => v.category).sum + 12 ≤ R.locals) (hdg : decode cc pc = .ok (.invokespecial idx, 3))
    (kk : dk_J p l e R s m args below meth c g A Q nL cells slots (pc + 3) lv st ws) : dk_J p l e R s m args below meth c g A Q nL cells slots pc lv (.ref a :: st) ws := fun H locs ls hP hD hS hl =>
  W.objInit X.1 X.2.1 X.2.2.2.1 (X.2.2.2.2.1 _ hlk) (X.2.2.2.2.1 _ hin) (X.2.2.2.2.1 _ hco) (g := F0 m pc ls (.ref a :: st)) rfl (hl.1.trans X.2.2.1.symm) rfl hdg hfr (by show 2 * 0 + _ + 12 ≤ _; omega) (kk H locs ls hP hD hS hl)
theorem dk_astq (X : dk_X p s m args meth c cc nL own ret g A) {a n v ci : Nat} {r : vw_C} {vs : List Value} {f : Nat → Option Nat} {cA : ClassId} {i : Int32} {ws' : va_W} (q0 t0 qk : Nat) (ha : ws[q0]? = some (a, .inl (cA, n, .inr (.inr (.inr (.inr f)))))) (ht : (dk_ty g)[t0]? = some (cA, .object r.1)) (hv : ws[qk]? = some (v, .inr (ci, vs))) (hc : dk_cls[ci]? = some r) (hi : vp_in i n) (hset : ws.set q0 (a, .inl (cA, n, .inr (.inr (.inr (.inr (va_up f i.toNatClampNeg (some v))))))) = ws') (hdg : decode cc pc = .ok (.aastore, 1))
    (kk : dk_J p l e R s m args below meth c g A Q nL cells slots (pc + 1) lv st ws') : dk_J p l e R s m args below meth c g A Q nL cells slots pc lv (.ref v :: .int i :: .ref a :: st) ws := fun H locs ls hP hD hS hl =>
  va_astq X.1 X.2.1 X.2.2.2.2.2.1 hP hD hS q0 t0 qk ci ha ht hv hc hi hdg (fun H1 locs1 hP1 hD1 hS1 => kk H1 locs1 ls (hset ▸ hP1) (hset ▸ hD1) hS1 hl)
/-- an int into a row told by its cell -/
theorem dk_iasc (X : dk_X p s m args meth c cc nL own ret g A) {a n : Nat} {f : Nat → Int32} {i x : Int32} {ws' : va_W} (q0 : Nat) (ha : ws[q0]? = some (a, .inl (g.2.1 0, n, .inl f))) (hi : vp_in i n) (hset : ws.set q0 (a, .inl (g.2.1 0, n, .inl (upd f i.toNatClampNeg x))) = ws') (hdg : decode cc pc = .ok (.iastore, 1))
    (kk : dk_J p l e R s m args below meth c g A Q nL cells slots (pc + 1) lv st ws') : dk_J p l e R s m args below meth c g A Q nL cells slots pc lv (.int x :: .int i :: .ref a :: st) ws := fun H locs ls hP hD hS hl =>
  va_iast X.1 X.2.1 X.2.2.2.2.2.1 hP hD hS q0 0 ha rfl hi hdg (fun H1 locs1 hP1 hD1 hS1 => kk H1 locs1 ls (hset ▸ hP1) (hset ▸ hD1) hS1 hl)
theorem dk_lasc (X : dk_X p s m args meth c cc nL own ret g A) {a n : Nat} {f : Nat → Int64} {i : Int32} {x : Int64} {ws' : va_W} (q0 : Nat) (ha : ws[q0]? = some (a, .inl (g.2.1 3, n, .inr (.inl f)))) (hi : vp_in i n) (hset : ws.set q0 (a, .inl (g.2.1 3, n, .inr (.inl (vp_updL f i.toNatClampNeg x)))) = ws') (hdg : decode cc pc = .ok (.lastore, 1))
    (kk : dk_J p l e R s m args below meth c g A Q nL cells slots (pc + 1) lv st ws') : dk_J p l e R s m args below meth c g A Q nL cells slots pc lv (.long x :: .int i :: .ref a :: st) ws := fun H locs ls hP hD hS hl =>
  va_last X.1 X.2.1 X.2.2.2.2.2.1 hP hD hS q0 3 ha rfl hi hdg (fun H1 locs1 hP1 hD1 hS1 => kk H1 locs1 ls (hset ▸ hP1) (hset ▸ hD1) hS1 hl)
/-- behind a call over a part wc of the world: wr, the rest, is unchanged -/
theorem dk_thenv {V : Type} {post : V → Prop} {wd : V → va_W} {wc wr : va_W} {mc ms : Nat} {av : Array Value} (X : dk_X p s m args meth c cc nL own ret g A) (isC isR : List Nat) (hC : isC.map (fun i => ws[i]?) = wc.map some) (hR : isR.map (fun i => ws[i]?) = wr.map some) (hnC : va_nd isC = true) (hnR : va_nd isR = true) (hdis : ∀ i ∈ isR, i ∉ isC)
    (run : ∀ (H : Heap) (locs : List Loc) (ls : Array Slot), va_P g.1 dk_cls wc H → va_D A wc → va_S A s.heap H locs → lv_has ls nL lv → va_Run p l e R s m args below meth c H locs cells slots mc ms (F0 m pc ls st0) st (va_Qv post (fun u t => dk_Out g (va_A wc H.size) (wd u) t) (va_A wc H.size) av) (va_A wc H.size))
    (kk : ∀ u : V, post u → dk_J p l e R s m args below meth c g A Q nL (cells + mc) (slots + ms) (pc + 3) lv st (wr ++ wd u)) : dk_J p l e R s m args below meth c g A Q nL cells slots pc lv st0 ws := by
  intro H locs ls hP hD hS hl
  have hPc : va_P g.1 dk_cls wc H := hP.sub isC (dk_fm hC)
  have hDc : va_D A wc := hD.sub isC hnC hC
  refine va_callv (run H locs ls hPc hDc hS hl) hS (fun q _ h => dk_free X hDc hS q h) (dk_free X hDc hS) (fun u t H1 locs1 ht hvm hw hB hz1 hk1 hS1 => ?_)
  obtain ⟨b1, b2, b3⟩ := hB
  rw [ht] at b1
  obtain ⟨j1, j2⟩ := va_join hP hD isC isR hC hR hnR hdis hk1 (dk_free X hDc hS) b1 b3
  exact kk u hw H1 locs1 ls j1 j2 hS1 hl
theorem dk_theni {V : Type} {post : Int32 → V → Prop} {wd : V → va_W} {wc wr : va_W} {mc ms : Nat} {av : Array Value} (X : dk_X p s m args meth c cc nL own ret g A) (isC isR : List Nat) (hC : isC.map (fun i => ws[i]?) = wc.map some) (hR : isR.map (fun i => ws[i]?) = wr.map some) (hnC : va_nd isC = true) (hnR : va_nd isR = true) (hdis : ∀ i ∈ isR, i ∉ isC)
    (run : ∀ (H : Heap) (locs : List Loc) (ls : Array Slot), va_P g.1 dk_cls wc H → va_D A wc → va_S A s.heap H locs → lv_has ls nL lv → va_Run p l e R s m args below meth c H locs cells slots mc ms (F0 m pc ls st0) st (va_Qi post (fun u t => dk_Out g (va_A wc H.size) (wd u) t) (va_A wc H.size) av) (va_A wc H.size))
    (kk : ∀ (r : Int32) (u : V), post r u → dk_J p l e R s m args below meth c g A Q nL (cells + mc) (slots + ms) (pc + 3) lv (.int r :: st) (wr ++ wd u)) : dk_J p l e R s m args below meth c g A Q nL cells slots pc lv st0 ws := by
  intro H locs ls hP hD hS hl
  have hPc : va_P g.1 dk_cls wc H := hP.sub isC (dk_fm hC)
  have hDc : va_D A wc := hD.sub isC hnC hC
  refine va_calli (run H locs ls hPc hDc hS hl) hS (fun q _ h => dk_free X hDc hS q h) (dk_free X hDc hS) (fun r u t H1 locs1 ht hvm hw hB hz1 hk1 hS1 => ?_)
  obtain ⟨b1, b2, b3⟩ := hB
  rw [ht] at b1
  obtain ⟨j1, j2⟩ := va_join hP hD isC isR hC hR hnR hdis hk1 (dk_free X hDc hS) b1 b3
  exact kk r u hw H1 locs1 ls j1 j2 hS1 hl
theorem dk_thenl {V : Type} {post : Int64 → V → Prop} {wd : V → va_W} {wc wr : va_W} {mc ms : Nat} {av : Array Value} (X : dk_X p s m args meth c cc nL own ret g A) (isC isR : List Nat) (hC : isC.map (fun i => ws[i]?) = wc.map some) (hR : isR.map (fun i => ws[i]?) = wr.map some) (hnC : va_nd isC = true) (hnR : va_nd isR = true) (hdis : ∀ i ∈ isR, i ∉ isC)
    (run : ∀ (H : Heap) (locs : List Loc) (ls : Array Slot), va_P g.1 dk_cls wc H → va_D A wc → va_S A s.heap H locs → lv_has ls nL lv → va_Run p l e R s m args below meth c H locs cells slots mc ms (F0 m pc ls st0) st (va_Ql post (fun u t => dk_Out g (va_A wc H.size) (wd u) t) (va_A wc H.size) av) (va_A wc H.size))
    (kk : ∀ (r : Int64) (u : V), post r u → dk_J p l e R s m args below meth c g A Q nL (cells + mc) (slots + ms) (pc + 3) lv (.long r :: st) (wr ++ wd u)) : dk_J p l e R s m args below meth c g A Q nL cells slots pc lv st0 ws := by
  intro H locs ls hP hD hS hl
  have hPc : va_P g.1 dk_cls wc H := hP.sub isC (dk_fm hC)
  have hDc : va_D A wc := hD.sub isC hnC hC
  refine va_calll (run H locs ls hPc hDc hS hl) hS (fun q _ h => dk_free X hDc hS q h) (dk_free X hDc hS) (fun r u t H1 locs1 ht hvm hw hB hz1 hk1 hS1 => ?_)
  obtain ⟨b1, b2, b3⟩ := hB
  rw [ht] at b1
  obtain ⟨j1, j2⟩ := va_join hP hD isC isR hC hR hnR hdis hk1 (dk_free X hDc hS) b1 b3
  exact kk r u hw H1 locs1 ls j1 j2 hS1 hl
theorem dk_thenr {V : Type} {post : V → Prop} {wd : V → Nat → va_W} {wc wr : va_W} {mc ms : Nat} {av : Array Value} (X : dk_X p s m args meth c cc nL own ret g A) (isC isR : List Nat) (hC : isC.map (fun i => ws[i]?) = wc.map some) (hR : isR.map (fun i => ws[i]?) = wr.map some) (hnC : va_nd isC = true) (hnR : va_nd isR = true) (hdis : ∀ i ∈ isR, i ∉ isC)
    (run : ∀ (H : Heap) (locs : List Loc) (ls : Array Slot), va_P g.1 dk_cls wc H → va_D A wc → va_S A s.heap H locs → lv_has ls nL lv → va_Run p l e R s m args below meth c H locs cells slots mc ms (F0 m pc ls st0) st (va_Qr post (fun u a t => dk_Out g (va_A wc H.size) (wd u a) t) (va_A wc H.size) av) (va_A wc H.size))
    (kk : ∀ (u : V) (a : Nat), post u → dk_J p l e R s m args below meth c g A Q nL (cells + mc) (slots + ms) (pc + 3) lv (.ref a :: st) (wr ++ wd u a)) : dk_J p l e R s m args below meth c g A Q nL cells slots pc lv st0 ws := by
  intro H locs ls hP hD hS hl
  have hPc : va_P g.1 dk_cls wc H := hP.sub isC (dk_fm hC)
  have hDc : va_D A wc := hD.sub isC hnC hC
  refine va_callr (run H locs ls hPc hDc hS hl) hS (fun q _ h => dk_free X hDc hS q h) (dk_free X hDc hS) (fun u a t H1 locs1 ht hvm hw hB hz1 hk1 hS1 => ?_)
  obtain ⟨b1, b2, b3⟩ := hB
  rw [ht] at b1
  obtain ⟨j1, j2⟩ := va_join hP hD isC isR hC hR hnR hdis hk1 (dk_free X hDc hS) b1 b3
  exact kk u a hw H1 locs1 ls j1 j2 hS1 hl
/-- the world told anew: the same cells in another order, or fewer -/
theorem dk_ws' {ws' : va_W} (is : List Nat) (hs : is.map (fun i => ws[i]?) = ws'.map some) (hn : va_nd is = true) (kk : dk_J p l e R s m args below meth c g A Q nL cells slots pc lv st ws') : dk_J p l e R s m args below meth c g A Q nL cells slots pc lv st ws := fun H locs ls hP hD hS hl => kk H locs ls (hP.sub is (dk_fm hs)) (hD.sub is hn hs) hS hl
end DKN
/-! contracts of methods that make cells -/
def dk_Nv (l : Launch) (g : dk_G) (y : MethodName) (b : ByteArray) (nL : Nat) (rm : Room) (av : List Value) (E : State → Prop) (ws : va_W) (V : Type) (wd : V → va_W) (mc ms : Nat) : Prop := ∀ sz : Nat, Met l y (dk_ws y b nL none) rm (va_Pc av (fun U => dk_In g ws sz U ∧ E U)) (va_Qv (fun _ : V => True) (fun u t => dk_Out g (va_A ws sz) (wd u) t) (va_A ws sz)) mc ms (va_A ws sz)
def dk_Ni (l : Launch) (g : dk_G) (y : MethodName) (b : ByteArray) (nL : Nat) (rm : Room) (av : List Value) (ws : va_W) (V : Type) (post : Int32 → V → Prop) (wd : V → va_W) (mc ms : Nat) : Prop := ∀ sz : Nat, Met l y (dk_ws y b nL (some .int)) rm (va_Pc av (dk_In g ws sz)) (va_Qi post (fun u t => dk_Out g (va_A ws sz) (wd u) t) (va_A ws sz)) mc ms (va_A ws sz)
def dk_Nr (l : Launch) (g : dk_G) (y : MethodName) (b : ByteArray) (nL : Nat) (rm : Room) (ret : Option FieldType) (av : List Value) (ws : va_W) (V : Type) (wd : V → Nat → va_W) (mc ms : Nat) : Prop := ∀ sz : Nat, Met l y (dk_ws y b nL ret) rm (va_Pc av (dk_In g ws sz)) (va_Qr (fun _ : V => True) (fun u a t => dk_Out g (va_A ws sz) (wd u a) t) (va_A ws sz)) mc ms (va_A ws sz)
def dk_EO : State → Prop := fun _ => True
def dk_Em (E : State → Prop) : Prop := (∀ u U : State, u.vm = U.vm → E u → E U) ∧ (∀ u U : State, u.WarmedH U.vm → E u → E U)
theorem dk_EOm : dk_Em dk_EO := ⟨fun _ _ _ _ => trivial, fun _ _ _ _ => trivial⟩
theorem dk_InE_blind {g : dk_G} {ws : va_W} {sz : Nat} {av : List Value} {E : State → Prop} (hE : dk_Em E) : FrameBlind (va_Pc av (fun U => dk_In g ws sz U ∧ E U)) := by
  intro a U gg mk q
  obtain ⟨q0, q1, q2⟩ := q
  obtain ⟨p1, p2⟩ := dk_In_blind g ws sz av a U gg mk ⟨q0, q1⟩
  exact ⟨p1, p2, hE.1 U (U.calling gg mk a) rfl q2⟩
section DKM
variable {l : Launch} {g : dk_G} {y : MethodName} {b : ByteArray} {nL : Nat} {rm : Room} {ret : Option FieldType} {av : List Value} {ws : va_W} {V : Type} {mc ms : Nat} {E : State → Prop}
theorem dk_enterN {wd : V → va_W} (hy : plainName y.cls = true) (hn : (lg_sl av).length ≤ nL)
    (body : ∀ (p : Program) (e : Env) (s : State) (m : MethodId) (args : Array Value) (below : List Frame) (meth : Method) (c : Code) (A : Nat → Prop) (Q : State → Prop), dk_X p s m args meth c b nL y.cls none g A → E s → meth.name = y.name → (∀ (u : V) (pc : Nat) (lv : List (Nat × Value)), decode b pc = .ok (.return_, 1) → dk_J p l e rm s m args below meth c g A Q nL mc ms pc lv [] (wd u)) → dk_J p l e rm s m args below meth c g A Q nL 0 0 0 (lv_args 0 av) [] ws) : dk_Nv l g y b nL rm av E ws V wd mc ms := by
  intro sz
  refine Met.ofW (cc := b) (maxL := nL) (ret := none) hy rfl ?_
  intro p e s m args below meth c s₁ B hml hv
  obtain ⟨rfl, ⟨hsz, hP, hK, hD0, hZ⟩, hE⟩ := hv
  subst hsz
  have hts0 := atoms_spec (ws := dk_ws y b nL none) B.pre
  have hl := lv_entry av (n := nL) hn
  rw [lg_entry_eq]
  refine body p e s m _ below meth c _ _ ⟨B.exec, B.bytes, hml, findClass_of_methodNamed B.named, fun w hw => hts0 w (List.mem_cons_of_mem _ hw), hK, fun q h => Or.inr h, B.returns, B.notSynchronized, hZ⟩ hE (name_of_methodNamed B.named B.method).1 ?_ s.heap [] _ hP (hD0.self (sz := s.heap.size)) va_S.rf hl
  intro u pc lv hdg H locs ls hP hD hS hl
  have hq : ∀ t : State, t.heap = H → s.WarmedH t.vm → (va_Qv (fun _ : V => True) (fun u t => dk_Out g (va_A ws s.heap.size) (wd u) t) (va_A ws s.heap.size)) av.toArray s (.returned none) t := fun t ht hW => ⟨⟨u, rfl, trivial, by rw [ht]; exact hP, va_K.moved hW.alike hK, hD⟩, hS.F ht⟩
  have hrt := B.returns
  have hlk := B.notSynchronized
  exact W.vret B.exec B.bytes hrt hq hS.2.2 hdg hlk
theorem dk_enterM {post : Int32 → V → Prop} {wd : V → va_W} (hy : plainName y.cls = true) (hn : (lg_sl av).length ≤ nL)
    (body : ∀ (p : Program) (e : Env) (s : State) (m : MethodId) (args : Array Value) (below : List Frame) (meth : Method) (c : Code) (A : Nat → Prop) (Q : State → Prop), dk_X p s m args meth c b nL y.cls (some .int) g A → (∀ (r : Int32) (u : V) (pc : Nat) (lv : List (Nat × Value)), decode b pc = .ok (.ireturn, 1) → post r u → dk_J p l e rm s m args below meth c g A Q nL mc ms pc lv [.int r] (wd u)) → dk_J p l e rm s m args below meth c g A Q nL 0 0 0 (lv_args 0 av) [] ws) : dk_Ni l g y b nL rm av ws V post wd mc ms := by
  intro sz
  refine Met.ofW (cc := b) (maxL := nL) (ret := some .int) hy rfl ?_
  intro p e s m args below meth c s₁ B hml hv
  obtain ⟨rfl, hsz, hP, hK, hD0, hZ⟩ := hv
  subst hsz
  have hts0 := atoms_spec (ws := dk_ws y b nL (some .int)) B.pre
  have hl := lv_entry av (n := nL) hn
  rw [lg_entry_eq]
  refine body p e s m _ below meth c _ _ ⟨B.exec, B.bytes, hml, findClass_of_methodNamed B.named, fun w hw => hts0 w (List.mem_cons_of_mem _ hw), hK, fun q h => Or.inr h, B.returns, B.notSynchronized, hZ⟩ ?_ s.heap [] _ hP (hD0.self (sz := s.heap.size)) va_S.rf hl
  intro r u pc lv hdg hp H locs ls hP hD hS hl
  have hq : ∀ t : State, t.heap = H → s.WarmedH t.vm → (va_Qi post (fun u t => dk_Out g (va_A ws s.heap.size) (wd u) t) (va_A ws s.heap.size)) av.toArray s (.returned (some (.int r))) t := fun t ht hW => ⟨⟨r, u, rfl, hp, by rw [ht]; exact hP, va_K.moved hW.alike hK, hD⟩, hS.F ht⟩
  have hrt := B.returns
  have hlk := B.notSynchronized
  exact W.iret B.exec B.bytes hrt hq hS.2.2 hdg hlk
theorem dk_enterR {wd : V → Nat → va_W} {rt : FieldType} (hret : ret = some rt) (hrt2 : (∃ n, rt = .object n) ∨ ∃ t, rt = .array t) (hy : plainName y.cls = true) (hn : (lg_sl av).length ≤ nL)
    (body : ∀ (p : Program) (e : Env) (s : State) (m : MethodId) (args : Array Value) (below : List Frame) (meth : Method) (c : Code) (A : Nat → Prop) (Q : State → Prop), dk_X p s m args meth c b nL y.cls ret g A → (∀ (u : V) (a : Nat) (pc : Nat) (lv : List (Nat × Value)), decode b pc = .ok (.areturn, 1) → dk_J p l e rm s m args below meth c g A Q nL mc ms pc lv [.ref a] (wd u a)) → dk_J p l e rm s m args below meth c g A Q nL 0 0 0 (lv_args 0 av) [] ws) : dk_Nr l g y b nL rm ret av ws V wd mc ms := by
  intro sz
  refine Met.ofW (cc := b) (maxL := nL) (ret := ret) hy rfl ?_
  intro p e s m args below meth c s₁ B hml hv
  obtain ⟨rfl, hsz, hP, hK, hD0, hZ⟩ := hv
  subst hsz
  have hts0 := atoms_spec (ws := dk_ws y b nL ret) B.pre
  have hl := lv_entry av (n := nL) hn
  rw [lg_entry_eq]
  refine body p e s m _ below meth c _ _ ⟨B.exec, B.bytes, hml, findClass_of_methodNamed B.named, fun w hw => hts0 w (List.mem_cons_of_mem _ hw), hK, fun q h => Or.inr h, B.returns, B.notSynchronized, hZ⟩ ?_ s.heap [] _ hP (hD0.self (sz := s.heap.size)) va_S.rf hl
  intro u a pc lv hdg H locs ls hP hD hS hl
  have hq : ∀ t : State, t.heap = H → s.WarmedH t.vm → (va_Qr (fun _ : V => True) (fun u a t => dk_Out g (va_A ws s.heap.size) (wd u a) t) (va_A ws s.heap.size)) av.toArray s (.returned (some (.ref a))) t := fun t ht hW => ⟨⟨u, a, rfl, trivial, by rw [ht]; exact hP, va_K.moved hW.alike hK, hD⟩, hS.F ht⟩
  have hrt := B.returns
  have hlk := B.notSynchronized
  exact W.aret B.exec B.bytes (hrt.trans hret) hrt2 (Or.inr ⟨a, rfl⟩) hq hS.2.2 hdg hlk
end DKM
/-! their calls -/
def dk_Yi (y : MethodName) (b : ByteArray) (nL n : Nat) : Prop := Cond.instanceMethod y ∈ dk_tb ∧ Cond.initialized y.cls ∈ dk_tb ∧ Cond.code y b nL none ∈ dk_tb ∧ (y.cls ≠ "java/lang/invoke/MethodHandle" ∧ y.cls ≠ "java/lang/invoke/VarHandle" ∧ (parseMethodDescriptor y.desc).map (fun d => d.parameters.length) = some n) ∧ y.name = "<init>"
theorem dk_Ygood {y : MethodName} {b : ByteArray} {nL : Nat} {ret : Option FieldType} (h : Cond.code y b nL ret ∈ dk_tb) : GoodIn dk_tb (dk_ws y b nL ret) := dk_goodIn (fun w hw => by
  rcases List.mem_cons.mp hw with rfl | h2
  · exact h
  · exact h2)
section DKO
variable {p : Program} {l : Launch} {e : Env} {R : Room} {s : State} {m : MethodId} {args : Array Value} {below : List Frame} {meth : Method} {c : Code} {g : dk_G} {A : Nat → Prop} {Q : State → Prop} {nL cells slots pc : Nat} {lv : List (Nat × Value)} {st st0 : List Value} {ws : va_W} {cc : ByteArray} {own : String} {ret : Option FieldType}
theorem dk_nI {y : MethodName} {b : ByteArray} {nL2 n idx mc ms a : Nat} {rm : Room} {V : Type} {wd : V → va_W} {wc wr : va_W} {E : State → Prop} (X : dk_X p s m args meth c cc nL own ret g A) (hE : dk_Em E) (hs : E s) (hy : dk_Yi y b nL2 n) (hlk : Cond.methodLink own idx y ∈ dk_tb) (As : List Value) (hM : dk_Nv l g y b nL2 rm (.ref a :: As) E wc V wd mc ms) (isC isR : List Nat) (hC : isC.map (fun i => ws[i]?) = wc.map some) (hR : isR.map (fun i => ws[i]?) = wr.map some) (hnC : va_nd isC = true) (hnR : va_nd isR = true) (hdis : ∀ i ∈ isR, i ∉ isC) (hst : st0 = As.reverse ++ .ref a :: st) (hAs : As.length = n) (hrm : rm.cells = mc ∧ rm.slots = ms ∧ rm.frames + 1 ≤ R.frames ∧ 8 + (nL2 + 11) + rm.locals ≤ R.locals ∧ cells + mc ≤ R.cells ∧ slots + ms ≤ R.slots) (hcat : (st.map fun v => v.category).sum ≤ 8) (hdg : decode cc pc = .ok (.invokespecial idx, 3))
    (kk : ∀ u : V, dk_J p l e R s m args below meth c g A Q nL (cells + mc) (slots + ms) (pc + 3) lv st (wr ++ wd u)) : dk_J p l e R s m args below meth c g A Q nL cells slots pc lv st0 ws := by
  obtain ⟨h1, h2, h3, h4, h5, h6⟩ := hrm
  have x5 := X.2.2.2.2.1
  exact dk_thenv X isC isR hC hR hnC hnR hdis (fun H locs ls hP hD hS hl => va_runI (As := As) (rest := st) ⟨X.1, X.2.1, X.2.2.1, X.2.2.2.1, x5⟩ (hM H.size) ⟨callB_of n x5 (dk_Ygood hy.2.2.1) rfl h1 h2 (x5 _ hy.2.1) (x5 _ hlk) hy.2.2.2.1 ⟨h3, h4⟩, hy.2.2.2.2, x5 _ hy.1⟩ ⟨dk_InE_blind hE, fun U hU hW => ⟨rfl, dk_start X hP hD hS U hU hW, hE.2 _ _ hW hs⟩⟩ rfl hAs hl.1 hst (lv_room hcat) hdg ⟨h5, h6⟩) (fun u _ => kk u)
theorem dk_nIN {y : MethodName} {b : ByteArray} {nL2 n idx mc ms a : Nat} {rm : Room} {host : String} {V : Type} {wd : V → va_W} {wc wr : va_W} {E : State → Prop} (X : dk_X p s m args meth c cc nL own ret g A) (hE : dk_Em E) (hs : E s) (hy : dk_Yi y b nL2 n) (hlk : va_Nw (.methodLinkNest own idx y host) s) (As : List Value) (hM : dk_Nv l g y b nL2 rm (.ref a :: As) E wc V wd mc ms) (isC isR : List Nat) (hC : isC.map (fun i => ws[i]?) = wc.map some) (hR : isR.map (fun i => ws[i]?) = wr.map some) (hnC : va_nd isC = true) (hnR : va_nd isR = true) (hdis : ∀ i ∈ isR, i ∉ isC) (hst : st0 = As.reverse ++ .ref a :: st) (hAs : As.length = n) (hrm : rm.cells = mc ∧ rm.slots = ms ∧ rm.frames + 1 ≤ R.frames ∧ 8 + (nL2 + 11) + rm.locals ≤ R.locals ∧ cells + mc ≤ R.cells ∧ slots + ms ≤ R.slots) (hcat : (st.map fun v => v.category).sum ≤ 8) (hdg : decode cc pc = .ok (.invokespecial idx, 3))
    (kk : ∀ u : V, dk_J p l e R s m args below meth c g A Q nL (cells + mc) (slots + ms) (pc + 3) lv st (wr ++ wd u)) : dk_J p l e R s m args below meth c g A Q nL cells slots pc lv st0 ws := by
  obtain ⟨h1, h2, h3, h4, h5, h6⟩ := hrm
  have x5 := X.2.2.2.2.1
  exact dk_thenv X isC isR hC hR hnC hnR hdis (fun H locs ls hP hD hS hl => va_runIN (As := As) (rest := st) ⟨X.1, X.2.1, X.2.2.1, X.2.2.2.1, x5⟩ (hM H.size) ⟨va_cnB n x5 (dk_Ygood hy.2.2.1) rfl h1 h2 hlk (x5 _ hy.2.1) hy.2.2.2.1 ⟨h3, h4⟩, hy.2.2.2.2, x5 _ hy.1⟩ ⟨dk_InE_blind hE, fun U hU hW => ⟨rfl, dk_start X hP hD hS U hU hW, hE.2 _ _ hW hs⟩⟩ rfl hAs hl.1 hst (lv_room hcat) hdg ⟨h5, h6⟩) (fun u _ => kk u)
theorem dk_cwN {y : MethodName} {b : ByteArray} {nL n idx mc ms : Nat} {ret : Option FieldType} {rm : Room} (hts : ∀ w ∈ dk_tb, w.before args s = true) (hy : dk_Yv y b nL ret n) (hlk : Cond.methodLink own idx y ∈ dk_tb) (hrc : rm.cells = mc) (hrs : rm.slots = ms) (hR : rm.frames + 1 ≤ R.frames ∧ 8 + (nL + 11) + rm.locals ≤ R.locals) : CallW R s args own y.cls idx y b nL ret (dk_ws y b nL ret) rm mc ms n :=
  cwV n hts (dk_goodIn (fun w hw => by
    rcases List.mem_append.mp hw with h | h
    · simp only [List.mem_cons, List.not_mem_nil, or_false] at h
      rcases h with rfl | rfl | rfl | rfl
      · exact hlk
      · exact hy.1
      · exact hy.2.1
      · exact hy.2.2.1
    · rcases List.mem_cons.mp h with rfl | h
      · exact hy.2.2.2.1
      · exact h)) rfl hrc hrs ⟨rfl, hy.2.2.2.2⟩ hR
theorem dk_nVr {y : MethodName} {b : ByteArray} {nL2 n idx mc ms a ci q0 : Nat} {rm : Room} {ret2 : Option FieldType} {fs : List Value} {r : vw_C} {V : Type} {wd : V → Nat → va_W} {wc wr : va_W} (X : dk_X p s m args meth c cc nL own ret g A) (hy : dk_Yv y b nL2 ret2 n) (hlk : Cond.methodLink own idx y ∈ dk_tb) (As : List Value) (hM : dk_Nr l g y b nL2 rm ret2 (.ref a :: As) wc V wd mc ms) (he : wc[q0]? = some (a, .inr (ci, fs))) (hc : dk_cls[ci]? = some r) (hrc : r.1 = y.cls) (isC isR : List Nat) (hC : isC.map (fun i => ws[i]?) = wc.map some) (hR : isR.map (fun i => ws[i]?) = wr.map some) (hnC : va_nd isC = true) (hnR : va_nd isR = true) (hdis : ∀ i ∈ isR, i ∉ isC) (hst : st0 = As.reverse ++ .ref a :: st) (hAs : As.length = n) (hrm : rm.cells = mc ∧ rm.slots = ms ∧ rm.frames + 1 ≤ R.frames ∧ 8 + (nL2 + 11) + rm.locals ≤ R.locals ∧ cells + mc ≤ R.cells ∧ slots + ms ≤ R.slots) (hcat : (st.map fun v => v.category).sum ≤ 8) (hdg : decode cc pc = .ok (.invokevirtual idx, 3))
    (kk : ∀ (u : V) (a : Nat), dk_J p l e R s m args below meth c g A Q nL (cells + mc) (slots + ms) (pc + 3) lv (.ref a :: st) (wr ++ wd u a)) : dk_J p l e R s m args below meth c g A Q nL cells slots pc lv st0 ws := by
  obtain ⟨h1, h2, h3, h4, h5, h6⟩ := hrm
  have x5 := X.2.2.2.2.1
  refine dk_thenr (post := fun _ : V => True) (av := (Value.ref a :: As).toArray) X isC isR hC hR hnC hnR hdis (fun H locs ls hP hD hS hl => ?_) (fun u a _ => kk u a)
  have hrecv := va_recv X.2.2.2.2.2.1 hP hc he
  rw [hrc] at hrecv
  exact va_runV (As := As) (rest := st) ⟨X.1, X.2.1, X.2.2.1, X.2.2.2.1, x5⟩ (hM H.size) (dk_cwN x5 hy hlk h1 h2 ⟨h3, h4⟩) ⟨dk_In_blind _ _ _ _, hrecv, fun U hU hW => ⟨rfl, dk_start X hP hD hS U hU hW⟩⟩ rfl hAs hl.1 hst (lv_room hcat) hdg ⟨h5, h6⟩
theorem dk_nSr {y : MethodName} {b : ByteArray} {nL2 n idx mc ms : Nat} {rm : Room} {ret2 : Option FieldType} {V : Type} {wd : V → Nat → va_W} {wc wr : va_W} (X : dk_X p s m args meth c cc nL own ret g A) (hy : dk_Ys y b nL2 ret2 n) (hlk : Cond.methodLink own idx y ∈ dk_tb) (As : List Value) (hM : dk_Nr l g y b nL2 rm ret2 As wc V wd mc ms) (isC isR : List Nat) (hC : isC.map (fun i => ws[i]?) = wc.map some) (hR : isR.map (fun i => ws[i]?) = wr.map some) (hnC : va_nd isC = true) (hnR : va_nd isR = true) (hdis : ∀ i ∈ isR, i ∉ isC) (hst : st0 = As.reverse ++ st) (hAs : As.length = n) (hrm : rm.cells = mc ∧ rm.slots = ms ∧ rm.frames + 1 ≤ R.frames ∧ 8 + (nL2 + 11) + rm.locals ≤ R.locals ∧ cells + mc ≤ R.cells ∧ slots + ms ≤ R.slots) (hcat : (st.map fun v => v.category).sum ≤ 8) (hdg : decode cc pc = .ok (.invokestatic idx, 3))
    (kk : ∀ (u : V) (a : Nat), dk_J p l e R s m args below meth c g A Q nL (cells + mc) (slots + ms) (pc + 3) lv (.ref a :: st) (wr ++ wd u a)) : dk_J p l e R s m args below meth c g A Q nL cells slots pc lv st0 ws := by
  obtain ⟨h1, h2, h3, h4, h5, h6⟩ := hrm
  have x5 := X.2.2.2.2.1
  exact dk_thenr X isC isR hC hR hnC hnR hdis (fun H locs ls hP hD hS hl => va_runS (As := As) (rest := st) ⟨X.1, X.2.1, X.2.2.1, X.2.2.2.1, x5⟩ (hM H.size) ⟨callB_of n x5 (dk_Ygood hy.2.2.1) rfl h1 h2 (x5 _ hy.2.1) (x5 _ hlk) hy.2.2.2 ⟨h3, h4⟩, x5 _ hy.1⟩ ⟨dk_In_blind _ _ _ _, fun U hU hW => ⟨rfl, dk_start X hP hD hS U hU hW⟩⟩ rfl hAs hl.1 hst (lv_room hcat) hdg ⟨h5, h6⟩) (fun u a _ => kk u a)
theorem dk_nVi {y : MethodName} {b : ByteArray} {nL2 n idx mc ms a ci q0 : Nat} {rm : Room} {fs : List Value} {r : vw_C} {V : Type} {post : Int32 → V → Prop} {wd : V → va_W} {wc wr : va_W} (X : dk_X p s m args meth c cc nL own ret g A) (hy : dk_Yv y b nL2 (some .int) n) (hlk : Cond.methodLink own idx y ∈ dk_tb) (As : List Value) (hM : dk_Ni l g y b nL2 rm (.ref a :: As) wc V post wd mc ms) (he : wc[q0]? = some (a, .inr (ci, fs))) (hc : dk_cls[ci]? = some r) (hrc : r.1 = y.cls) (isC isR : List Nat) (hC : isC.map (fun i => ws[i]?) = wc.map some) (hR : isR.map (fun i => ws[i]?) = wr.map some) (hnC : va_nd isC = true) (hnR : va_nd isR = true) (hdis : ∀ i ∈ isR, i ∉ isC) (hst : st0 = As.reverse ++ .ref a :: st) (hAs : As.length = n) (hrm : rm.cells = mc ∧ rm.slots = ms ∧ rm.frames + 1 ≤ R.frames ∧ 8 + (nL2 + 11) + rm.locals ≤ R.locals ∧ cells + mc ≤ R.cells ∧ slots + ms ≤ R.slots) (hcat : (st.map fun v => v.category).sum ≤ 8) (hdg : decode cc pc = .ok (.invokevirtual idx, 3))
    (kk : ∀ (r : Int32) (u : V), post r u → dk_J p l e R s m args below meth c g A Q nL (cells + mc) (slots + ms) (pc + 3) lv (.int r :: st) (wr ++ wd u)) : dk_J p l e R s m args below meth c g A Q nL cells slots pc lv st0 ws := by
  obtain ⟨h1, h2, h3, h4, h5, h6⟩ := hrm
  have x5 := X.2.2.2.2.1
  refine dk_theni (post := post) (av := (Value.ref a :: As).toArray) X isC isR hC hR hnC hnR hdis (fun H locs ls hP hD hS hl => ?_) kk
  have hrecv := va_recv X.2.2.2.2.2.1 hP hc he
  rw [hrc] at hrecv
  exact va_runV (As := As) (rest := st) ⟨X.1, X.2.1, X.2.2.1, X.2.2.2.1, x5⟩ (hM H.size) (dk_cwN x5 hy hlk h1 h2 ⟨h3, h4⟩) ⟨dk_In_blind _ _ _ _, hrecv, fun U hU hW => ⟨rfl, dk_start X hP hD hS U hU hW⟩⟩ rfl hAs hl.1 hst (lv_room hcat) hdg ⟨h5, h6⟩
/-- a told method of a part of the world -/
theorem dk_pVi {y : MethodName} {b : ByteArray} {nL2 n idx a ci q0 : Nat} {rm : Room} {ret2 : Option FieldType} {fs : List Value} {r : vw_C} {wd : dk_S → va_W} {S : dk_S} {F : Option (Int32 × dk_S)} {res : Int32 × dk_S} {wr : va_W} (X : dk_X p s m args meth c cc nL own ret g A) (hy : dk_Yv y b nL2 ret2 n) (hlk : Cond.methodLink own idx y ∈ dk_tb) (As : List Value) (hM : dk_Mi l g y b nL2 rm ret2 (.ref a :: As) wd S F) (hF : F = some res) (he : (wd S)[q0]? = some (a, .inr (ci, fs))) (hc : dk_cls[ci]? = some r) (hrc : r.1 = y.cls) (isC isR : List Nat) (hC : isC.map (fun i => ws[i]?) = (wd S).map some) (hR : isR.map (fun i => ws[i]?) = wr.map some) (hnC : va_nd isC = true) (hnR : va_nd isR = true) (hdis : ∀ i ∈ isR, i ∉ isC) (hst : st0 = As.reverse ++ .ref a :: st) (hAs : As.length = n) (hrm : rm.cells = 0 ∧ rm.slots = 0 ∧ rm.frames + 1 ≤ R.frames ∧ 8 + (nL2 + 11) + rm.locals ≤ R.locals ∧ cells ≤ R.cells ∧ slots ≤ R.slots) (hcat : (st.map fun v => v.category).sum ≤ 8) (hdg : decode cc pc = .ok (.invokevirtual idx, 3))
    (kk : dk_J p l e R s m args below meth c g A Q nL cells slots (pc + 3) lv (.int res.1 :: st) (wr ++ wd res.2)) : dk_J p l e R s m args below meth c g A Q nL cells slots pc lv st0 ws := by
  obtain ⟨h1, h2, h3, h4, h5, h6⟩ := hrm
  have x5 := X.2.2.2.2.1
  refine dk_theni (post := fun r u => (r, u) = res) (mc := 0) (ms := 0) (av := (Value.ref a :: As).toArray) X isC isR hC hR hnC hnR hdis (fun H locs ls hP hD hS hl => ?_) (fun r2 u hw => by cases hw; exact kk)
  have hrecv := va_recv X.2.2.2.2.2.1 hP hc he
  rw [hrc] at hrecv
  exact va_runV (As := As) (rest := st) ⟨X.1, X.2.1, X.2.2.1, X.2.2.2.1, x5⟩ (hM H.size res hF) (dk_cwN x5 hy hlk h1 h2 ⟨h3, h4⟩) ⟨dk_In_blind _ _ _ _, hrecv, fun U hU hW => ⟨rfl, dk_start X hP hD hS U hU hW⟩⟩ rfl hAs hl.1 hst (lv_room hcat) hdg ⟨h5, h6⟩
theorem dk_pVl {y : MethodName} {b : ByteArray} {nL2 n idx a ci q0 : Nat} {rm : Room} {ret2 : Option FieldType} {fs : List Value} {r : vw_C} {wd : dk_S → va_W} {S : dk_S} {F : Option (Int64 × dk_S)} {res : Int64 × dk_S} {wr : va_W} (X : dk_X p s m args meth c cc nL own ret g A) (hy : dk_Yv y b nL2 ret2 n) (hlk : Cond.methodLink own idx y ∈ dk_tb) (As : List Value) (hM : dk_Ml l g y b nL2 rm ret2 (.ref a :: As) wd S F) (hF : F = some res) (he : (wd S)[q0]? = some (a, .inr (ci, fs))) (hc : dk_cls[ci]? = some r) (hrc : r.1 = y.cls) (isC isR : List Nat) (hC : isC.map (fun i => ws[i]?) = (wd S).map some) (hR : isR.map (fun i => ws[i]?) = wr.map some) (hnC : va_nd isC = true) (hnR : va_nd isR = true) (hdis : ∀ i ∈ isR, i ∉ isC) (hst : st0 = As.reverse ++ .ref a :: st) (hAs : As.length = n) (hrm : rm.cells = 0 ∧ rm.slots = 0 ∧ rm.frames + 1 ≤ R.frames ∧ 8 + (nL2 + 11) + rm.locals ≤ R.locals ∧ cells ≤ R.cells ∧ slots ≤ R.slots) (hcat : (st.map fun v => v.category).sum ≤ 8) (hdg : decode cc pc = .ok (.invokevirtual idx, 3))
    (kk : dk_J p l e R s m args below meth c g A Q nL cells slots (pc + 3) lv (.long res.1 :: st) (wr ++ wd res.2)) : dk_J p l e R s m args below meth c g A Q nL cells slots pc lv st0 ws := by
  obtain ⟨h1, h2, h3, h4, h5, h6⟩ := hrm
  have x5 := X.2.2.2.2.1
  refine dk_thenl (post := fun r u => (r, u) = res) (mc := 0) (ms := 0) (av := (Value.ref a :: As).toArray) X isC isR hC hR hnC hnR hdis (fun H locs ls hP hD hS hl => ?_) (fun r2 u hw => by cases hw; exact kk)
  have hrecv := va_recv X.2.2.2.2.2.1 hP hc he
  rw [hrc] at hrecv
  exact va_runV (As := As) (rest := st) ⟨X.1, X.2.1, X.2.2.1, X.2.2.2.1, x5⟩ (hM H.size res hF) (dk_cwN x5 hy hlk h1 h2 ⟨h3, h4⟩) ⟨dk_In_blind _ _ _ _, hrecv, fun U hU hW => ⟨rfl, dk_start X hP hD hS U hU hW⟩⟩ rfl hAs hl.1 hst (lv_room hcat) hdg ⟨h5, h6⟩
end DKO
