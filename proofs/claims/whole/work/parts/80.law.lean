theorem d_law_33 : decode code 33 = .ok (.tableswitch 1210 0 31 #[143, 166, 199, 232, 295, 308, 341, 374, 437, 450, 473, 516, 539, 582, 615, 648, 691, 714, 747, 770, 793, 826, 880, 903, 926, 949, 962, 975, 1018, 1061, 1124, 1177], 143) := by decide +kernel
theorem d_law_1249 : decode code 1249 = .ok (.iconst 1, 1) := by decide +kernel
theorem d_law_1250 : decode code 1250 = .ok (.ireturn, 1) := by decide +kernel
theorem d_law_18 : decode code 18 = .ok (.iload_n 3, 1) := by decide +kernel
theorem d_law_19 : decode code 19 = .ok (.aload_n 0, 1) := by decide +kernel
theorem d_law_20 : decode code 20 = .ok (.arraylength, 1) := by decide +kernel
theorem d_law_21 : decode code 21 = .ok (.bipush 6, 2) := by decide +kernel
theorem d_law_23 : decode code 23 = .ok (.isub, 1) := by decide +kernel
theorem d_law_24 : decode code 24 = .ok (.if_icmp .gt 1225, 3) := by decide +kernel
theorem d_law_27 : decode code 27 = .ok (.aload_n 0, 1) := by decide +kernel
theorem d_law_28 : decode code 28 = .ok (.iload_n 3, 1) := by decide +kernel
theorem d_law_29 : decode code 29 = .ok (.iaload, 1) := by decide +kernel
theorem d_law_30 : decode code 30 = .ok (.bipush 31, 2) := by decide +kernel
theorem d_law_32 : decode code 32 = .ok (.iand, 1) := by decide +kernel
theorem d_law_1243 : decode code 1243 = .ok (.iinc 3 6, 3) := by decide +kernel
theorem d_law_1246 : decode code 1246 = .ok (.goto (-1228), 3) := by decide +kernel
theorem cl_law_7 : Cond.classLink R_law 7 R_Hare ∈ dk_tb := dk_in (List.mem_of_getElem? (i := 84) (by decide +kernel)) rfl
theorem ii_Hare : Cond.initialized R_Hare ∈ dk_tb := dk_in (List.mem_of_getElem? (i := 66) (by decide +kernel)) rfl
theorem d_law_0 : decode code 0 = .ok (.new 7, 3) := by decide +kernel
theorem d_law_3 : decode code 3 = .ok (.dup, 1) := by decide +kernel
theorem m_law_9 : Cond.methodLink R_law 9 y_Hare_init ∈ dk_tb := dk_in (List.mem_of_getElem? (i := 86) (by decide +kernel)) rfl
theorem d_law_4 : decode code 4 = .ok (.invokespecial 9, 3) := by decide +kernel
theorem d_law_7 : decode code 7 = .ok (.astore_n 1, 1) := by decide +kernel
theorem cl_law_10 : Cond.classLink R_law 10 R_Model ∈ dk_tb := dk_in (List.mem_of_getElem? (i := 940) (by decide +kernel)) rfl
theorem ii_Model : Cond.initialized R_Model ∈ dk_tb := dk_in (List.mem_of_getElem? (i := 75) (by decide +kernel)) rfl
theorem d_law_8 : decode code 8 = .ok (.new 10, 3) := by decide +kernel
theorem d_law_11 : decode code 11 = .ok (.dup, 1) := by decide +kernel
theorem m_law_12 : Cond.methodLink R_law 12 y_Model_init ∈ dk_tb := dk_in (List.mem_of_getElem? (i := 942) (by decide +kernel)) rfl
theorem d_law_12 : decode code 12 = .ok (.invokespecial 12, 3) := by decide +kernel
theorem d_law_15 : decode code 15 = .ok (.astore_n 2, 1) := by decide +kernel
theorem d_law_16 : decode code 16 = .ok (.iconst 0, 1) := by decide +kernel
theorem d_law_17 : decode code 17 = .ok (.istore_n 3, 1) := by decide +kernel
/-! MACHINE: the law -/
theorem lw_end {p : Program} {l : Launch} {e : Env} {s : State} {m : MethodId} {below : List Frame} {meth : Method} {c : Code} {g : dk_G} {b L : Nat} {xs : Nat → Int32} (hlocks : meth.locks = false) (X : dk_X p s m #[Value.ref b] meth c code 4 R_law ret g (fun q => s.heap.size ≤ q)) (hX : va_X b L xs s s.heap) (hb : b < s.heap.size) {cells slots : Nat} {lv : List (Nat × Value)} {ws : va_W} (hc : cells ≤ 600000) (hs : slots ≤ 7302250) : dk_J p l e room_1 s m #[Value.ref b] below meth c g (fun q => s.heap.size ≤ q) (lw_Z below #[Value.ref b] s) 4 cells slots 1249 lv [] ws := by
  refine dk_iconst (v := 1) X (by decide) d_law_1249 ?_
  intro H locs ls hP hD hS hl
  exact va_forget (fun q hq => hS.2.2 q hq) (W.widen (k := 600000) (n := 7302250) hc hs (lw_ret X.1 X.2.1 X.2.2.2.2.2.2.2.1 hlocks d_law_1250))
theorem lw_gt {L i : Nat} (hL : L ≤ 384) (hi : i ≤ L) : nI L - 6 < nI i ↔ L < i + 6 := by
  rw [Int32.lt_iff_toInt_lt, show nI L - 6 = nI L - nI 6 from rfl, pk_sub_toInt (by omega) (by decide), nI_toInt (by omega)]
  omega
theorem law_turns {p : Program} {l : Launch} {e : Env} {s : State} {m : MethodId} {below : List Frame} {meth : Method} {c : Code} {g : dk_G} {b L : Nat} {xs : Nat → Int32} (hlocks : meth.locks = false) (X : dk_X p s m #[Value.ref b] meth c code 4 R_law ret g (fun q => s.heap.size ≤ q)) (hX : va_X b L xs s s.heap) (hb : b < s.heap.size) {am : Nat → Nat} (hL : L ≤ 384) : ∀ (n k T : Nat) (ad : Nat → Nat) (C M : dk_S), Inv T C M → 6 * k ≤ L → L < 6 * (k + n) → dk_J p l e room_1 s m #[Value.ref b] below meth c g (fun q => s.heap.size ≤ q) (lw_Z below #[Value.ref b] s) 4 (79 + 3 * k) (4004 + 162 * k) 18 [(0, .ref b), (1, .ref (ad 0)), (2, .ref (am 0)), (3, .int (nI (6 * k)))] [] (wC g ad T C ++ wM g am M) := by
  intro n
  induction n with
  | zero =>
    intro k T ad C M h h1 h2
    exact absurd h2 (by omega)
  | succ n ih =>
    intro k T ad C M h h1 h2
    have hc : 79 + 3 * k + 3 ≤ room_1.cells := by show 79 + 3 * k + 3 ≤ 600000; omega
    have hs : 4004 + 162 * k + 162 ≤ room_1.slots := by show 4004 + 162 * k + 162 ≤ 7302250; omega
    refine dk_iload_n (k := 3) (i := 3) X 3 rfl rfl d_law_18 ?_
    refine dk_aload_n (k := 0) (i := 0) X 0 rfl rfl d_law_19 ?_
    refine lw_slen X hX hb d_law_20 ?_
    refine dk_bipush (v := 6) X (by decide) d_law_21 ?_
    refine dk_isub X d_law_23 ?_
    by_cases h6 : 6 * k + 6 ≤ L
    · refine dk_icmp_gt (tgt := 1249) X (by decide) d_law_24 (show (if nI L - 6 < nI (6 * k) then none else some ()) = some () from if_neg (fun q => by have := (lw_gt hL h1).mp q; omega)) (fun hF => by cases hF) (fun _ => ?_)
      refine dk_aload_n (k := 0) (i := 0) X 0 rfl rfl d_law_27 ?_
      refine dk_iload_n (k := 3) (i := 3) X 3 rfl rfl d_law_28 ?_
      refine lw_sld X hX hb (nI_in (by omega) (by omega)) d_law_29 ?_
      refine dk_bipush (v := 31) X (by decide) d_law_30 ?_
      refine dk_iand X d_law_32 ?_
      have next : ∀ (ad2 : Nat → Nat) (T2 : Nat) (C2 M2 : dk_S), Inv T2 C2 M2 → ad2 0 = ad 0 → dk_J p l e room_1 s m #[Value.ref b] below meth c g (fun q => s.heap.size ≤ q) (lw_Z below #[Value.ref b] s) 4 (79 + 3 * k + 3) (4004 + 162 * k + 162) 1243 [(0, .ref b), (1, .ref (ad 0)), (2, .ref (am 0)), (3, .int (nI (6 * k)))] [] (wC g ad2 T2 C2 ++ wM g am M2) := by
        intro ad2 T2 C2 M2 hI e0
        rw [← e0]
        refine dk_iinc (i := 3) (v := nI (6 * (k + 1))) (lv' := [(3, .int (nI (6 * (k + 1)))), (0, .ref b), (1, .ref (ad2 0)), (2, .ref (am 0))]) X 3 rfl (by rw [show Int32.ofInt 6 = nI 6 from rfl, nI_add]; rfl) (by decide) rfl d_law_1243 ?_
        refine dk_goto (tgt := 18) X (by decide) d_law_1246 ?_
        refine dk_sub [1, 2, 3, 0] rfl ?_
        refine dk_wid (k := 79 + 3 * (k + 1)) (n := 4004 + 162 * (k + 1)) (by omega) (by omega) ?_
        exact ih (k + 1) T2 ad2 C2 M2 hI (by omega) (by omega)
      obtain ⟨q, hq, e⟩ := lw_31 (xs (nI (6 * k)).toNatClampNeg)
      rw [e]
      match q, hq with
        | 0, _ =>
          refine dk_tsIn (v := 0) (tgt := 176) X d_law_33 (by decide) (by decide) (by decide) rfl (by decide) ?_
          exact lw_c0 X hX hb h h6 hL hc hs next
        | 1, _ =>
          refine dk_tsIn (v := 1) (tgt := 199) X d_law_33 (by decide) (by decide) (by decide) rfl (by decide) ?_
          exact lw_c1 X hX hb h h6 hL hc hs next
        | 2, _ =>
          refine dk_tsIn (v := 2) (tgt := 232) X d_law_33 (by decide) (by decide) (by decide) rfl (by decide) ?_
          exact lw_c2 X hX hb h h6 hL hc hs next
        | 3, _ =>
          refine dk_tsIn (v := 3) (tgt := 265) X d_law_33 (by decide) (by decide) (by decide) rfl (by decide) ?_
          exact lw_c3 X hX hb h h6 hL hc hs next
        | 4, _ =>
          refine dk_tsIn (v := 4) (tgt := 328) X d_law_33 (by decide) (by decide) (by decide) rfl (by decide) ?_
          exact lw_c4 X hX hb h h6 hL hc hs next
        | 5, _ =>
          refine dk_tsIn (v := 5) (tgt := 341) X d_law_33 (by decide) (by decide) (by decide) rfl (by decide) ?_
          exact lw_c5 X hX hb h h6 hL hc hs next
        | 6, _ =>
          refine dk_tsIn (v := 6) (tgt := 374) X d_law_33 (by decide) (by decide) (by decide) rfl (by decide) ?_
          exact lw_c6 X hX hb h h6 hL hc hs next
        | 7, _ =>
          refine dk_tsIn (v := 7) (tgt := 407) X d_law_33 (by decide) (by decide) (by decide) rfl (by decide) ?_
          exact lw_c7 X hX hb h h6 hL hc hs next
        | 8, _ =>
          refine dk_tsIn (v := 8) (tgt := 470) X d_law_33 (by decide) (by decide) (by decide) rfl (by decide) ?_
          exact lw_c8 X hX hb h h6 hL hc hs next
        | 9, _ =>
          refine dk_tsIn (v := 9) (tgt := 483) X d_law_33 (by decide) (by decide) (by decide) rfl (by decide) ?_
          exact lw_c9 X hX hb h h6 hL hc hs next
        | 10, _ =>
          refine dk_tsIn (v := 10) (tgt := 506) X d_law_33 (by decide) (by decide) (by decide) rfl (by decide) ?_
          exact lw_c10 X hX hb h h6 hL hc hs next
        | 11, _ =>
          refine dk_tsIn (v := 11) (tgt := 549) X d_law_33 (by decide) (by decide) (by decide) rfl (by decide) ?_
          exact lw_c11 X hX hb h h6 hL hc hs next
        | 12, _ =>
          refine dk_tsIn (v := 12) (tgt := 572) X d_law_33 (by decide) (by decide) (by decide) rfl (by decide) ?_
          exact lw_c12 X hX hb h h6 hL hc hs next
        | 13, _ =>
          refine dk_tsIn (v := 13) (tgt := 615) X d_law_33 (by decide) (by decide) (by decide) rfl (by decide) ?_
          exact lw_c13 X hX hb h h6 hL hc hs next
        | 14, _ =>
          refine dk_tsIn (v := 14) (tgt := 648) X d_law_33 (by decide) (by decide) (by decide) rfl (by decide) ?_
          exact lw_c14 X hX hb h h6 hL hc hs next
        | 15, _ =>
          refine dk_tsIn (v := 15) (tgt := 681) X d_law_33 (by decide) (by decide) (by decide) rfl (by decide) ?_
          exact lw_c15 X hX hb h h6 hL hc hs next
        | 16, _ =>
          refine dk_tsIn (v := 16) (tgt := 724) X d_law_33 (by decide) (by decide) (by decide) rfl (by decide) ?_
          exact lw_c16 X hX hb h h6 hL hc hs next
        | 17, _ =>
          refine dk_tsIn (v := 17) (tgt := 747) X d_law_33 (by decide) (by decide) (by decide) rfl (by decide) ?_
          exact lw_c17 X hX hb h h6 hL hc hs next
        | 18, _ =>
          refine dk_tsIn (v := 18) (tgt := 780) X d_law_33 (by decide) (by decide) (by decide) rfl (by decide) ?_
          exact lw_c18 X hX hb h h6 hL hc hs next
        | 19, _ =>
          refine dk_tsIn (v := 19) (tgt := 803) X d_law_33 (by decide) (by decide) (by decide) rfl (by decide) ?_
          exact lw_c19 X hX hb h h6 hL hc hs next
        | 20, _ =>
          refine dk_tsIn (v := 20) (tgt := 826) X d_law_33 (by decide) (by decide) (by decide) rfl (by decide) ?_
          exact lw_c20 X hX hb h h6 hL hc hs next
        | 21, _ =>
          refine dk_tsIn (v := 21) (tgt := 859) X d_law_33 (by decide) (by decide) (by decide) rfl (by decide) ?_
          exact lw_c21 X hX hb h h6 hL hc hs next
        | 22, _ =>
          refine dk_tsIn (v := 22) (tgt := 913) X d_law_33 (by decide) (by decide) (by decide) rfl (by decide) ?_
          exact lw_c22 X hX hb h h6 hL hc hs next
        | 23, _ =>
          refine dk_tsIn (v := 23) (tgt := 936) X d_law_33 (by decide) (by decide) (by decide) rfl (by decide) ?_
          exact lw_c23 X hX hb h h6 hL hc hs next
        | 24, _ =>
          refine dk_tsIn (v := 24) (tgt := 959) X d_law_33 (by decide) (by decide) (by decide) rfl (by decide) ?_
          exact lw_c24 X hX hb h h6 hL hc hs next
        | 25, _ =>
          refine dk_tsIn (v := 25) (tgt := 982) X d_law_33 (by decide) (by decide) (by decide) rfl (by decide) ?_
          exact lw_c25 X hX hb h h6 hL hc hs next
        | 26, _ =>
          refine dk_tsIn (v := 26) (tgt := 995) X d_law_33 (by decide) (by decide) (by decide) rfl (by decide) ?_
          exact lw_c26 X hX hb h h6 hL hc hs next
        | 27, _ =>
          refine dk_tsIn (v := 27) (tgt := 1008) X d_law_33 (by decide) (by decide) (by decide) rfl (by decide) ?_
          exact lw_c27 X hX hb h h6 hL hc hs next
        | 28, _ =>
          refine dk_tsIn (v := 28) (tgt := 1051) X d_law_33 (by decide) (by decide) (by decide) rfl (by decide) ?_
          exact lw_c28 X hX hb h h6 hL hc hs next
        | 29, _ =>
          refine dk_tsIn (v := 29) (tgt := 1094) X d_law_33 (by decide) (by decide) (by decide) rfl (by decide) ?_
          exact lw_c29 X hX hb h h6 hL hc hs next
        | 30, _ =>
          refine dk_tsIn (v := 30) (tgt := 1157) X d_law_33 (by decide) (by decide) (by decide) rfl (by decide) ?_
          exact lw_c30 X hX hb h h6 hL hc hs next
        | 31, _ =>
          refine dk_tsIn (v := 31) (tgt := 1210) X d_law_33 (by decide) (by decide) (by decide) rfl (by decide) ?_
          exact lw_c31 X hX hb h h6 hL hc hs next
        | q + 32, hq => exact absurd hq (by omega)
    · refine dk_icmp_gt (tgt := 1249) X (by decide) d_law_24 (show (if nI L - 6 < nI (6 * k) then some () else none) = some () from if_pos ((lw_gt hL h1).mpr (by omega))) (fun _ => ?_) (fun hF => by cases hF)
      exact lw_end hlocks X hX hb (Nat.le_trans (Nat.le_add_right _ 3) hc) (Nat.le_trans (Nat.le_add_right _ 162) hs)
theorem dk_dis2 {a n : Nat} : ∀ i ∈ List.range' 0 a, i ∉ List.range' a n := fun i h1 h2 => by
  have a1 := (List.mem_range'_1.mp h1).2
  have a2 := (List.mem_range'_1.mp h2).1
  omega
theorem whole_start {p : Program} {e : Env} {s : State} {m : MethodId} {below : List Frame} {meth : Method} {c : Code} (l : Launch) (hflags : l.flags = flags0) {b L : Nat} {xs : Nat → Int32} (hL : L ≤ 384) (C0 : lw_At p s m meth c b L xs) : W p l e room_1 s m #[Value.ref b] below meth c s.heap [] 0 0 (lw_Z below #[Value.ref b] s) (entryFrame m ([Value.ref b] : List Value).toArray 4) := by
  obtain ⟨hx, hb, hr, hml, hown, hts, hX, hbl, hlocks, hgv⟩ := C0
  obtain ⟨g, hK, hZ⟩ := lw_g (A := fun q => s.heap.size ≤ q) hts hgv (fun a ha => Nat.not_le.mpr ha)
  have X : dk_X p s m #[Value.ref b] meth c code 4 R_law ret g (fun q => s.heap.size ≤ q) := ⟨hx, hb, hml, hown, fun w hw => hts w (List.mem_filter.mp hw).1, hK, fun q h => h, hr, hlocks, hZ⟩
  have hl := lv_entry ([.ref b]) (n := 4) (Nat.le_of_ble_eq_true rfl)
  rw [lg_entry_eq]
  have body : dk_J p l e room_1 s m #[Value.ref b] below meth c g (fun q => s.heap.size ≤ q) (lw_Z below #[Value.ref b] s) 4 0 0 0 [(0, .ref b)] [] [] := by
    refine dk_new X q_Hare (fs := [.null, .null, .null, .null, .null, .null, .null, .null, .int 0, .int 0]) cl_law_7 in_Hare ii_Hare (by decide +kernel) (Nat.le_of_ble_eq_true rfl) (Nat.le_of_ble_eq_true rfl) d_law_0 (fun x0 => ?_)
    refine dk_wsE (ws' := [(x0, .inr (8, [.null, .null, .null, .null, .null, .null, .null, .null, .int 0, .int 0]))]) rfl ?_
    refine dk_dup X rfl d_law_3 ?_
    refine dk_nIW X dk_EHm (lw_EH hts) v_Hare_init m_law_9 [] (c_Hare_init l g x0) rfl rfl ⟨rfl, rfl, Nat.le_of_ble_eq_true rfl, Nat.le_of_ble_eq_true rfl, Nat.le_of_ble_eq_true rfl, Nat.le_of_ble_eq_true rfl⟩ (Nat.le_of_ble_eq_true rfl) d_law_4 (fun u => ?_)
    refine dk_astore_n (k := 1) (i := 1) (lv' := [(1, .ref x0), (0, .ref b)]) X rfl (by decide) rfl d_law_7 ?_
    refine dk_new X q_Model (fs := [.int 0, .null, .int 0, .null, .null, .int 0, .null, .null, .null, .null, .null, .null, .null, .int 0, .null, .null, .int 0, .int 0, .int 0, .null, .null, .null, .null, .null, .null, .null, .null, .null, .null, .null, .int 0, .int 0, .int 0, .int 0, .int 0, .null, .null, .null, .null, .null, .int 0, .int 0, .int 0, .int 0, .null, .null, .int 0, .int 0, .int 0, .null, .null]) cl_law_10 in_Model ii_Model (by decide +kernel) (Nat.le_of_ble_eq_true rfl) (Nat.le_of_ble_eq_true rfl) d_law_8 (fun y0 => ?_)
    refine dk_dup X rfl d_law_11 ?_
    refine dk_nI (wr := wC g (hA x0 u) 1 hS0) X dk_EOm trivial v_Model_init m_law_12 [] (c_Model_init l g y0) (List.range' (wC g (hA x0 u) 1 hS0).length 1) (List.range' 0 (wC g (hA x0 u) 1 hS0).length) (dk_rngB [_] _) (dk_rngA _ _) (dk_ndr _ _) (dk_ndr _ _) dk_dis2 rfl rfl ⟨rfl, rfl, Nat.le_of_ble_eq_true rfl, Nat.le_of_ble_eq_true rfl, Nat.le_of_ble_eq_true rfl, Nat.le_of_ble_eq_true rfl⟩ (Nat.le_of_ble_eq_true rfl) d_law_12 (fun u2 => ?_)
    refine dk_astore_n (k := 2) (i := 2) (lv' := [(2, .ref y0), (1, .ref x0), (0, .ref b)]) X rfl (by decide) rfl d_law_15 ?_
    refine dk_iconst (v := 0) X (by decide) d_law_16 ?_
    refine dk_istore_n (k := 3) (i := 3) (lv' := [(3, .int 0), (2, .ref y0), (1, .ref x0), (0, .ref b)]) X rfl (by decide) rfl d_law_17 ?_
    refine dk_sub [3, 2, 1, 0] rfl ?_
    exact law_turns (am := mA y0 u2) hlocks X hX hbl hL 65 0 1 (hA x0 u) hS0 mS0 i_first (by omega) (by omega)
  exact body s.heap [] _ (fun k q h => by simp at h) ⟨fun i j p q h => by simp at h, fun k q h => by simp at h⟩ va_S.rf hl
