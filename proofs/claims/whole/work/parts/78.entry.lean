/-! MACHINE: what is known at the entry of the law -/
theorem in_Hare : Cond.instantiable R_Hare 10 ∈ dk_tb := dk_in (List.mem_of_getElem? (i := 85) (by decide +kernel)) rfl
theorem in_Model : Cond.instantiable R_Model 51 ∈ dk_tb := dk_in (List.mem_of_getElem? (i := 941) (by decide +kernel)) rfl
theorem lw_tape : ∀ j, j < 58 → Cond.eq (.elem (Term.field (Term.string "WhoseHare$Reader" 119) "java/lang/String" "value" "[B") (.int (Int32.ofNat j))) (.int (dk_wbt.getD j 0)) ∈ flatC (Jvm.Cond.and given_1 narrow_1) := by decide +kernel
theorem lw_Z0 {s : State} {args : Array Value} {A : Nat → Prop} (hts : ∀ w ∈ lw_tbl, w.before args s = true) (hgv : (Jvm.Cond.and given_1 narrow_1).before args s = true) (hA : ∀ a : Nat, a < s.heap.size → ¬ A a) : ∃ adK adV : Nat → Nat, vk_S 1 [58] [dk_wbt] adK adV A s s.heap ∧ vk_R R_Reader 119 dk_wtx (adK 0) s ∧ va_Z "java/lang/String" "COMPACT_STRINGS" "Z" (.int 1) A s s.heap ∧ va_Zq "jdk/internal/util/Preconditions" "SIOOBE_FORMATTER" "Ljava/util/function/BiFunction;" A s s.heap := by
  have hs := flat_of_before _ hgv
  have one : ∀ {i : Nat}, i < 1 → i = 0 := fun h => by omega
  obtain ⟨adK, adV, h1, h2⟩ := vk_Sof (s := s) (args := args) (N := 1) (tm := fun _ => (Term.string "WhoseHare$Reader" 119)) (len := [58]) (byt := [dk_wbt]) (A := A) (fun i hi => by rw [one hi]; decide) (fun i hi => hs _ (by decide +kernel)) (fun i hi => hs _ (by decide +kernel)) (fun i hi => hs _ (by decide +kernel)) (fun i hi => by rw [one hi]; exact hs _ (by decide +kernel)) (fun i hi j hj => by
    rw [one hi] at hj ⊢
    exact hs _ (lw_tape j hj)) (fun i j hi hj hne => absurd ((one hi).trans (one hj).symm) hne) hA
  exact ⟨adK, adV, h1, vk_R.of (hts (.stringRef "WhoseHare$Reader" 119 dk_wtx) (List.mem_of_getElem? (i := 504) (by decide +kernel))) (h2 0 (by decide)), va_Zof (hts _ (List.mem_of_getElem? (i := 514) (by decide +kernel))) (hts (.initialized "java/lang/String") (List.mem_of_getElem? (i := 76) (by decide +kernel))) (va_eqt (hs _ (by decide +kernel))) hA, va_Zqof (hts _ (List.mem_of_getElem? (i := 530) (by decide +kernel))) (hts (.initialized "jdk/internal/util/Preconditions") (List.mem_of_getElem? (i := 78) (by decide +kernel))) (hs _ (by decide +kernel)) hA⟩
theorem lw_arrK {s : State} {args : Array Value} {ty : FieldType} (hne : ∀ C, ty ≠ .object C) (h : (Cond.arrayClass ty).before args s = true) : ∃ c, ArrOfT s c ty ∧ va_RA s c ty := by
  obtain ⟨c, k, comp, h1, h2, h3⟩ := Cond.arrayClass_spec (args := args) (first := s) (o := none) (s := s) (idx := []) h
  refine ⟨c, fun n z => ⟨fun k h => (by cases h), k, h2, comp, h3⟩, ?_⟩
  unfold va_RA
  split
  · exact absurd rfl (hne _)
  · exact h1
theorem lw_arrO {s : State} {args : Array Value} {C : String} (h : (Cond.arrayOver (.object C)).before args s = true) : ∃ c, ArrOfT s c (.object C) ∧ va_RA s c (.object C) := by
  obtain ⟨comp, c, k, h1, h2, h3, h4, h5⟩ := Cond.arrayOver_spec (args := args) (first := s) (o := none) (s := s) (idx := []) h
  exact ⟨c, fun n z => ⟨fun k h => (by cases h), k, h3, comp, h4⟩, k, comp, h3, h4, h1, h5⟩
/-- the classes' numbers, the arrays' classes, the text constant -/
theorem lw_g {s : State} {args : Array Value} {A : Nat → Prop} (hts : ∀ w ∈ lw_tbl, w.before args s = true) (hgv : (Jvm.Cond.and given_1 narrow_1).before args s = true) (hA : ∀ a : Nat, a < s.heap.size → ¬ A a) : ∃ g : dk_G, va_K g.1 dk_cls (dk_ty g) s ∧ dk_Z g A s s.heap := by
  have ht : ∀ w ∈ dk_tb, w.before args s = true := fun w hw => hts w (List.mem_filter.mp hw).1
  obtain ⟨c0, i0, k0⟩ := u_known (C := R_Land) (T := T_Land) (N := 5) (n := 5) ht q_Land.1 (ht _ in_Land)
  obtain ⟨c1, i1, k1⟩ := u_known (C := R_Diary) (T := T_Diary) (N := 7) (n := 7) ht q_Diary.1 (ht _ in_Diary)
  obtain ⟨c2, i2, k2⟩ := u_known (C := R_Reader) (T := T_Reader) (N := 11) (n := 11) ht q_Reader.1 (ht _ in_Reader)
  obtain ⟨c3, i3, k3⟩ := u_known (C := R_Scales) (T := T_Scales) (N := 3) (n := 3) ht q_Scales.1 (ht _ in_Scales)
  obtain ⟨c4, i4, k4⟩ := u_known (C := R_Scene) (T := T_Scene) (N := 20) (n := 20) ht q_Scene.1 (ht _ in_Scene)
  obtain ⟨c5, i5, k5⟩ := u_known (C := R_Text) (T := T_Text) (N := 2) (n := 2) ht q_Text.1 (ht _ in_Text)
  obtain ⟨c6, i6, k6⟩ := u_known (C := R_Sheet) (T := T_Sheet) (N := 3) (n := 3) ht q_Sheet.1 (ht _ in_Sheet)
  obtain ⟨c7, i7, k7⟩ := u_known (C := R_Image) (T := T_Image) (N := 6) (n := 6) ht q_Image.1 (ht _ in_Image)
  obtain ⟨c8, i8, k8⟩ := u_known (C := R_Hare) (T := T_Hare) (N := 10) (n := 10) ht q_Hare.1 (ht _ in_Hare)
  obtain ⟨c9, i9, k9⟩ := u_known (C := R_Model) (T := T_Model) (N := 51) (n := 51) ht q_Model.1 (ht _ in_Model)
  obtain ⟨a0, x0, y0⟩ := lw_arrK (ty := .int) (fun C h => by cases h) (ht _ ac_int)
  obtain ⟨a1, x1, y1⟩ := lw_arrK (ty := .boolean) (fun C h => by cases h) (ht _ ac_boolean)
  obtain ⟨a2, x2, y2⟩ := lw_arrK (ty := .byte) (fun C h => by cases h) (ht _ ac_byte)
  obtain ⟨a3, x3, y3⟩ := lw_arrK (ty := .long) (fun C h => by cases h) (ht _ ac_long)
  obtain ⟨a4, x4, y4⟩ := lw_arrO (hts (.arrayOver (.object "WhoseHare$Text")) (List.mem_of_getElem? (i := 324) (by decide +kernel)))
  obtain ⟨a5, x5, y5⟩ := lw_arrO (hts (.arrayOver (.object "WhoseHare$Sheet")) (List.mem_of_getElem? (i := 326) (by decide +kernel)))
  obtain ⟨adK, adV, z⟩ := lw_Z0 hts hgv hA
  refine ⟨((fun k => [c0, c1, c2, c3, c4, c5, c6, c7, c8, c9].getD k 0, fun k => [i0, i1, i2, i3, i4, i5, i6, i7, i8, i9].getD k i0), fun k => [a0, a1, a2, a3, a4, a5].getD k 0, adK, adV), ⟨?_, ?_⟩, z⟩
  · intro k q hq
    match k, hq with
    | 0, hq => cases hq; exact k0
    | 1, hq => cases hq; exact k1
    | 2, hq => cases hq; exact k2
    | 3, hq => cases hq; exact k3
    | 4, hq => cases hq; exact k4
    | 5, hq => cases hq; exact k5
    | 6, hq => cases hq; exact k6
    | 7, hq => cases hq; exact k7
    | 8, hq => cases hq; exact k8
    | 9, hq => cases hq; exact k9
    | k + 10, hq => simp [dk_cls] at hq
  · intro k q hq
    match k, hq with
    | 0, hq => cases hq; exact ⟨x0, y0⟩
    | 1, hq => cases hq; exact ⟨x1, y1⟩
    | 2, hq => cases hq; exact ⟨x2, y2⟩
    | 3, hq => cases hq; exact ⟨x3, y3⟩
    | 4, hq => cases hq; exact ⟨x4, y4⟩
    | 5, hq => cases hq; exact ⟨x5, y5⟩
    | k + 6, hq => simp [dk_ty] at hq
theorem lw_EH {s : State} {args : Array Value} (hts : ∀ w ∈ lw_tbl, w.before args s = true) : dk_EH s := ⟨va_Nw.of rfl (hts _ (List.mem_of_getElem? (i := 94) (by decide +kernel))), va_Nw.of rfl (hts _ (List.mem_of_getElem? (i := 126) (by decide +kernel))), va_Nw.of rfl (hts _ (List.mem_of_getElem? (i := 170) (by decide +kernel))), va_Nw.of rfl (hts _ (List.mem_of_getElem? (i := 328) (by decide +kernel))), va_Nw.of rfl (hts _ (List.mem_of_getElem? (i := 347) (by decide +kernel))), va_AO.of (hts _ (List.mem_of_getElem? (i := 324) (by decide +kernel))), va_AO.of (hts _ (List.mem_of_getElem? (i := 326) (by decide +kernel)))⟩
theorem lw_31 (x : Int32) : ∃ k : Nat, k < 32 ∧ x &&& 31 = nI k := by
  have h : (x.toBitVec &&& 31#32).toNat < 32 := by
    rw [BitVec.toNat_and]
    exact Nat.lt_of_le_of_lt Nat.and_le_right (by decide)
  refine ⟨_, h, ?_⟩
  refine Int32.toBitVec_inj.mp ?_
  rw [Int32.toBitVec_and]
  refine BitVec.eq_of_toNat_eq ?_
  show _ = (BitVec.ofNat 32 _).toNat
  rw [BitVec.toNat_ofNat, Nat.mod_eq_of_lt (Nat.lt_trans h (by decide))]
  rfl
