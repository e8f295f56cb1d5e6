theorem d_Hare_text_0 : decode b_Hare_text 0 = .ok (.aload_n 0, 1) := by decide +kernel
theorem d_Hare_text_1 : decode b_Hare_text 1 = .ok (.getfield 57, 3) := by decide +kernel
theorem d_Hare_text_4 : decode b_Hare_text 4 = .ok (.bipush 6, 2) := by decide +kernel
theorem d_Hare_text_6 : decode b_Hare_text 6 = .ok (.if_icmp .lt 6, 3) := by decide +kernel
theorem d_Hare_text_12 : decode b_Hare_text 12 = .ok (.aload_n 0, 1) := by decide +kernel
theorem d_Hare_text_13 : decode b_Hare_text 13 = .ok (.getfield 26, 3) := by decide +kernel
theorem m_Hare_142 : Cond.methodLink R_Hare 142 y_Reader_readText ∈ dk_tb := dk_in (List.mem_of_getElem? (i := 485) (by decide +kernel)) rfl
theorem d_Hare_text_16 : decode b_Hare_text 16 = .ok (.invokevirtual 142, 3) := by decide +kernel
theorem d_Hare_text_19 : decode b_Hare_text 19 = .ok (.aload_n 0, 1) := by decide +kernel
theorem d_Hare_text_20 : decode b_Hare_text 20 = .ok (.getfield 26, 3) := by decide +kernel
theorem d_Hare_text_23 : decode b_Hare_text 23 = .ok (.iconst 0, 1) := by decide +kernel
theorem d_Hare_text_24 : decode b_Hare_text 24 = .ok (.putfield 145, 3) := by decide +kernel
theorem d_Hare_text_27 : decode b_Hare_text 27 = .ok (.aload_n 0, 1) := by decide +kernel
theorem d_Hare_text_28 : decode b_Hare_text 28 = .ok (.getfield 26, 3) := by decide +kernel
theorem f_Hare_148 : Cond.fieldLink R_Hare 148 (T_Reader 2).1 (T_Reader 2).2.1 (T_Reader 2).2.2.1 ∈ dk_tb := dk_in (List.mem_of_getElem? (i := 178) (by decide +kernel)) rfl
theorem d_Hare_text_31 : decode b_Hare_text 31 = .ok (.getfield 148, 3) := by decide +kernel
theorem d_Hare_text_34 : decode b_Hare_text 34 = .ok (.ifCond .lt 14, 3) := by decide +kernel
theorem d_Hare_text_48 : decode b_Hare_text 48 = .ok (.aload_n 0, 1) := by decide +kernel
theorem d_Hare_text_49 : decode b_Hare_text 49 = .ok (.getfield 53, 3) := by decide +kernel
theorem d_Hare_text_52 : decode b_Hare_text 52 = .ok (.aload_n 0, 1) := by decide +kernel
theorem d_Hare_text_53 : decode b_Hare_text 53 = .ok (.getfield 57, 3) := by decide +kernel
theorem d_Hare_text_56 : decode b_Hare_text 56 = .ok (.aload_n 0, 1) := by decide +kernel
theorem d_Hare_text_57 : decode b_Hare_text 57 = .ok (.getfield 26, 3) := by decide +kernel
theorem m_Hare_151 : Cond.methodLink R_Hare 151 y_Reader_textRead ∈ dk_tb := dk_in (List.mem_of_getElem? (i := 611) (by decide +kernel)) rfl
theorem d_Hare_text_60 : decode b_Hare_text 60 = .ok (.invokevirtual 151, 3) := by decide +kernel
theorem d_Hare_text_63 : decode b_Hare_text 63 = .ok (.aastore, 1) := by decide +kernel
theorem d_Hare_text_64 : decode b_Hare_text 64 = .ok (.aload_n 0, 1) := by decide +kernel
theorem d_Hare_text_65 : decode b_Hare_text 65 = .ok (.dup, 1) := by decide +kernel
theorem d_Hare_text_66 : decode b_Hare_text 66 = .ok (.getfield 57, 3) := by decide +kernel
theorem d_Hare_text_69 : decode b_Hare_text 69 = .ok (.dup_x1, 1) := by decide +kernel
theorem d_Hare_text_70 : decode b_Hare_text 70 = .ok (.iconst 1, 1) := by decide +kernel
theorem d_Hare_text_71 : decode b_Hare_text 71 = .ok (.iadd, 1) := by decide +kernel
theorem d_Hare_text_72 : decode b_Hare_text 72 = .ok (.putfield 57, 3) := by decide +kernel
theorem d_Hare_text_75 : decode b_Hare_text 75 = .ok (.ireturn, 1) := by decide +kernel
theorem d_Hare_text_37 : decode b_Hare_text 37 = .ok (.bipush (-100), 2) := by decide +kernel
theorem d_Hare_text_39 : decode b_Hare_text 39 = .ok (.aload_n 0, 1) := by decide +kernel
theorem d_Hare_text_40 : decode b_Hare_text 40 = .ok (.getfield 26, 3) := by decide +kernel
theorem d_Hare_text_43 : decode b_Hare_text 43 = .ok (.getfield 148, 3) := by decide +kernel
theorem d_Hare_text_46 : decode b_Hare_text 46 = .ok (.isub, 1) := by decide +kernel
theorem d_Hare_text_47 : decode b_Hare_text 47 = .ok (.ireturn, 1) := by decide +kernel
theorem d_Hare_text_9 : decode b_Hare_text 9 = .ok (.bipush (-4), 2) := by decide +kernel
theorem d_Hare_text_11 : decode b_Hare_text 11 = .ok (.ireturn, 1) := by decide +kernel
/-! MACHINE: text() -/
def dk_nS (S : dk_S) (T s1 s2 : Nat) : dk_S := fun k => if k = 1000 + 4 * T then va_cpy (S 14) (fun _ => 0) 0 0 s1 else if k = 1001 + 4 * T then (fun _ => nI s1) else if k = 1002 + 4 * T then va_cpy (S 14) (fun _ => 0) s1 0 (s2 - s1) else if k = 1003 + 4 * T then (fun _ => nI (s2 - s1)) else S k
theorem dk_nS_lt {S : dk_S} {T s1 s2 k : Nat} (h : k < 1000 + 4 * T) : dk_nS S T s1 s2 k = S k := by
  unfold dk_nS
  rw [if_neg (by omega), if_neg (by omega), if_neg (by omega), if_neg (by omega)]
theorem dk_nS_0 {S : dk_S} {T s1 s2 : Nat} : dk_nS S T s1 s2 (1000 + 4 * T) = va_cpy (S 14) (fun _ => 0) 0 0 s1 := if_pos rfl
theorem dk_nS_1 {S : dk_S} {T s1 s2 : Nat} : dk_nS S T s1 s2 (1001 + 4 * T) = fun _ => nI s1 := by
  unfold dk_nS
  rw [if_neg (by omega), if_pos rfl]
theorem dk_nS_2 {S : dk_S} {T s1 s2 : Nat} : dk_nS S T s1 s2 (1002 + 4 * T) = va_cpy (S 14) (fun _ => 0) s1 0 (s2 - s1) := by
  unfold dk_nS
  rw [if_neg (by omega), if_neg (by omega), if_pos rfl]
theorem dk_nS_3 {S : dk_S} {T s1 s2 : Nat} : dk_nS S T s1 s2 (1003 + 4 * T) = fun _ => nI (s2 - s1) := by
  unfold dk_nS
  rw [if_neg (by omega), if_neg (by omega), if_neg (by omega), if_pos rfl]
theorem wCT_cong {g : dk_G} {ad ad' : Nat → Nat} {S S' : dk_S} : ∀ T : Nat, (∀ k, k < 43 + 3 * T → ad' k = ad k) → (∀ k, k < 1000 + 4 * T → S' k = S k) → wCT g ad' S' T = wCT g ad S T
  | 0, _, _ => rfl
  | T + 1, h, hS => by
    rw [wCT, wCT, wCT_cong T (fun k hk => h k (by omega)) (fun k hk => hS k (by omega))]
    unfold wCt
    rw [h (43 + 3 * T) (by omega), h (44 + 3 * T + 0) (by omega), h (44 + 3 * T + 1) (by omega), hS (1001 + 4 * T + 2 * 0) (by omega), hS (1000 + 4 * T + 2 * 0) (by omega), hS (1001 + 4 * T + 2 * 1) (by omega), hS (1000 + 4 * T + 2 * 1) (by omega)]
theorem wC_new {g : dk_G} {ad ad' : Nat → Nat} {T : Nat} {S : dk_S} {s1 s2 t w f : Nat} (h : ∀ k, k < 43 + 3 * T → ad' k = ad k) (ht : ad' (43 + 3 * T) = t) (hw : ad' (44 + 3 * T) = w) (hf : ad' (45 + 3 * T) = f) (hx : (S 114 0).toNatClampNeg < T) (h1 : s1 < 2 ^ 31) (h2 : s2 < 2 ^ 31) : (wC g ad T S).set 30 (ad 30, .inl (g.2.1 4, 6, .inr (.inr (.inr (.inr (va_up (fun j => if j < T then some (ad (43 + 3 * j)) else none) T (some t))))))) ++ dk_nT g (S 14) s1 s2 t w f = wC g ad' (T + 1) (dk_nS S T s1 s2) := by
  have hS : ∀ k, k < 1000 → dk_nS S T s1 s2 k = S k := fun k hk => dk_nS_lt (by omega)
  have e1 : wC0 g ad' (T + 1) (dk_nS S T s1 s2) = (wC0 g ad T S).set 30 (ad 30, .inl (g.2.1 4, 6, .inr (.inr (.inr (.inr (va_up (fun j => if j < T then some (ad (43 + 3 * j)) else none) T (some t))))))) := by
    have e2 : (fun j => if j < T + 1 then some (ad' (43 + 3 * j)) else none) = va_up (fun j => if j < T then some (ad (43 + 3 * j)) else none) T (some t) := by
      funext j
      unfold va_up
      by_cases q : j = T
      · rw [if_pos (by omega), if_pos q, q, ht]
      · rw [if_neg q]
        show _ = if j < T then some (ad (43 + 3 * j)) else none
        by_cases q2 : j < T
        · rw [if_pos (by omega), if_pos q2, h _ (by omega)]
        · rw [if_neg (by omega), if_neg q2]
    have e4 : (fun j => if j < 4 then some (ad' (35 + 2 * j)) else none) = (fun j => if j < 4 then some (ad (35 + 2 * j)) else none) := by
      funext j
      by_cases q : j < 4
      · rw [if_pos q, if_pos q, h _ (by omega)]
      · rw [if_neg q, if_neg q]
    unfold wC0
    rw [e2, e4]
    simp only [h 0 (by omega), h 1 (by omega), h 2 (by omega), h 3 (by omega), h 4 (by omega), h 5 (by omega), h 6 (by omega), h 7 (by omega), h 8 (by omega), h 9 (by omega), h 10 (by omega), h 11 (by omega), h 12 (by omega), h 13 (by omega), h 14 (by omega), h 15 (by omega), h 16 (by omega), h 17 (by omega), h 18 (by omega), h 19 (by omega), h 20 (by omega), h 21 (by omega), h 22 (by omega), h 23 (by omega), h 24 (by omega), h 25 (by omega), h 26 (by omega), h 27 (by omega), h 28 (by omega), h 29 (by omega), h 30 (by omega), h 31 (by omega), h 32 (by omega), h 33 (by omega), h 34 (by omega), h 35 (by omega), h 36 (by omega), h 37 (by omega), h 38 (by omega), h 39 (by omega), h 40 (by omega), h 41 (by omega), h 42 (by omega), hS 2 (by decide), hS 3 (by decide), hS 4 (by decide), hS 6 (by decide), hS 7 (by decide), hS 8 (by decide), hS 9 (by decide), hS 10 (by decide), hS 11 (by decide), hS 13 (by decide), hS 14 (by decide), hS 16 (by decide), hS 17 (by decide), hS 19 (by decide), hS 20 (by decide), hS 21 (by decide), hS 22 (by decide), hS 23 (by decide), hS 24 (by decide), hS 25 (by decide), hS 26 (by decide), hS 27 (by decide), hS 28 (by decide), hS 29 (by decide), hS 33 (by decide), hS 34 (by decide), hS 36 (by decide), hS 38 (by decide), hS 40 (by decide), hS 42 (by decide), hS 100 (by decide), hS 101 (by decide), hS 102 (by decide), hS 103 (by decide), hS 104 (by decide), hS 105 (by decide), hS 106 (by decide), hS 107 (by decide), hS 108 (by decide), hS 109 (by decide), hS 110 (by decide), hS 111 (by decide), hS 112 (by decide), hS 113 (by decide), hS 114 (by decide), hS 115 (by decide), hS 116 (by decide), hS 117 (by decide), hS 118 (by decide), hS 119 (by decide), hS 120 (by decide), hS 121 (by decide), hS 122 (by decide), hS 123 (by decide), hS 124 (by decide), hS 160 (by decide), hS 161 (by decide), hS 162 (by decide), hS 163 (by decide), hS 170 (by decide), hS 171 (by decide), hS 172 (by decide), hS 173 (by decide), h (43 + 3 * (S 114 0).toNatClampNeg) (by omega)]
    rfl
  have e3 : wCt g ad' (dk_nS S T s1 s2) T = dk_nT g (S 14) s1 s2 t w f := by
    unfold wCt dk_nT
    rw [show 44 + 3 * T + 1 = 45 + 3 * T by omega, show 44 + 3 * T + 0 = 44 + 3 * T from rfl, ht, hw, hf, show 1001 + 4 * T + 2 * 1 = 1003 + 4 * T by omega, show 1000 + 4 * T + 2 * 1 = 1002 + 4 * T by omega, show 1001 + 4 * T + 2 * 0 = 1001 + 4 * T from rfl, show 1000 + 4 * T + 2 * 0 = 1000 + 4 * T from rfl, dk_nS_0, dk_nS_1, dk_nS_2, dk_nS_3, nI_clamp h1, nI_clamp (show s2 - s1 < 2 ^ 31 by omega)]
  unfold wC
  rw [wCT, e1, e3, wCT_cong T h (fun k hk => dk_nS_lt hk), List.set_append_left _ _ (show 30 < (wC0 g ad T S).length from Nat.le_of_ble_eq_true rfl), List.append_assoc]
def H_text (n T : Nat) (S : dk_S) : Option (Int32 × Nat × dk_S) := if S 100 0 < 6 then (dk_cv (F_Reader_readText n T S) fun S1 => dk_p S1 105 (0 : Int32) fun S2 => if S2 106 0 < 0 then (if S2 100 0 = nI T ∧ T < 6 ∧ (S2 114 0).toNatClampNeg < T ∧ S2 108 0 = nI (S2 108 0).toNatClampNeg ∧ S2 107 0 = nI (S2 107 0).toNatClampNeg ∧ 1 ≤ (S2 108 0).toNatClampNeg ∧ (S2 108 0).toNatClampNeg < (S2 107 0).toNatClampNeg ∧ (S2 107 0).toNatClampNeg ≤ 160 then some (nI T, T + 1, dk_U (dk_nS S2 T (S2 108 0).toNatClampNeg (S2 107 0).toNatClampNeg) 100 0 (nI T + 1)) else none) else some ((-100 : Int32) - S2 106 0, T, S2)) else some ((-4 : Int32), T, S)
abbrev rm_Hare_text : Room := { frames := 82, cells := 3, slots := 162, locals := 3020 }
theorem c_Hare_text (l : Launch) (g : dk_G) (ad : Nat → Nat) (T n : Nat) (S : dk_S) (res : Int32 × Nat × dk_S) (hF : H_text n T S = some res) : dk_Ni l g y_Hare_text b_Hare_text 1 rm_Hare_text [.ref (ad 0)] (wC g ad T S) ((Nat → Nat) × Nat × dk_S) (fun r u => (r, u.2) = res ∧ u.1 0 = ad 0) (fun u => wC g u.1 u.2.1 u.2.2) 3 162 :=
  dk_enterM (by decide) (Nat.le_of_ble_eq_true rfl) (fun p e s m args below meth c A Q X hR => by
    unfold H_text at hF
    refine dk_aload_n (k := 0) (i := 0) X 0 rfl rfl d_Hare_text_0 ?_
    refine dk_get X q_Hare 0 8 (by decide) (oC_Hare g ad T S) rfl f_Hare_57 d_Hare_text_1 ?_
    refine dk_bipush (v := 6) X (by decide) d_Hare_text_4 ?_
    refine dk_icmp_lt (tgt := 12) X (by decide) d_Hare_text_6 hF (fun hF => ?_) (fun hF => ?_)
    · refine dk_aload_n (k := 0) (i := 0) X 0 rfl rfl d_Hare_text_12 ?_
      refine dk_get X q_Hare 0 2 (by decide) (oC_Hare g ad T S) rfl f_Hare_26 d_Hare_text_13 ?_
      refine dk_callVv X v_Reader_readText [] (c_Reader_readText l g ad T n S) 12 (oC_Reader g ad T S) rfl rfl m_Hare_142 rfl rfl ⟨rfl, rfl, Nat.le_of_ble_eq_true rfl, Nat.le_of_ble_eq_true rfl, Nat.zero_le _, Nat.zero_le _⟩ (Nat.le_of_ble_eq_true rfl) d_Hare_text_16 hF (fun S1 hF => ?_)
      refine dk_aload_n (k := 0) (i := 0) X 0 rfl rfl d_Hare_text_19 ?_
      refine dk_get X q_Hare 0 2 (by decide) (oC_Hare g ad T S1) rfl f_Hare_26 d_Hare_text_20 ?_
      refine dk_iconst (v := 0) X (by decide) d_Hare_text_23 ?_
      refine dk_puti X q_Reader 12 1 (by decide) (oC_Reader g ad T S1) f_Hare_145 rfl rfl (Nat.le_of_ble_eq_true rfl) (sC_Reader_size g ad T S1 _) d_Hare_text_24 hF (fun S2 hF => ?_)
      refine dk_aload_n (k := 0) (i := 0) X 0 rfl rfl d_Hare_text_27 ?_
      refine dk_get X q_Hare 0 2 (by decide) (oC_Hare g ad T S2) rfl f_Hare_26 d_Hare_text_28 ?_
      refine dk_get X q_Reader 12 2 (by decide) (oC_Reader g ad T S2) rfl f_Hare_148 d_Hare_text_31 ?_
      refine dk_if_lt (tgt := 48) X (by decide) d_Hare_text_34 hF (fun hF => ?_) (fun hF => ?_)
      · split at hF
        · rename_i hc
          obtain ⟨e0, hT, hx, hp1, hp2, h01, h12, h26⟩ := hc
          injection hF with hF
          generalize hs1 : (S2 108 0).toNatClampNeg = s1 at hp1 h01 h12 hF
          generalize hs2 : (S2 107 0).toNatClampNeg = s2 at hp2 h12 h26 hF
          refine dk_aload_n (k := 0) (i := 0) X 0 rfl rfl d_Hare_text_48 ?_
          refine dk_get X q_Hare 0 5 (by decide) (oC_Hare g ad T S2) rfl f_Hare_53 d_Hare_text_49 ?_
          refine dk_aload_n (k := 0) (i := 0) X 0 rfl rfl d_Hare_text_52 ?_
          refine dk_get X q_Hare 0 8 (by decide) (oC_Hare g ad T S2) rfl f_Hare_57 d_Hare_text_53 ?_
          refine dk_aload_n (k := 0) (i := 0) X 0 rfl rfl d_Hare_text_56 ?_
          refine dk_get X q_Hare 0 2 (by decide) (oC_Hare g ad T S2) rfl f_Hare_26 d_Hare_text_57 ?_
          refine dk_nVrW X v_Reader_textRead m_Hare_151 [] (c_Reader_textRead l g ad T S2 s1 s2 hp1 hp2 h01 h12 h26) (oC_Reader g ad T S2) (q0 := 12) rfl rfl rfl rfl ⟨rfl, rfl, Nat.le_of_ble_eq_true rfl, Nat.le_of_ble_eq_true rfl, Nat.le_of_ble_eq_true rfl, Nat.le_of_ble_eq_true rfl⟩ (Nat.le_of_ble_eq_true rfl) d_Hare_text_60 (fun u t => ?_)
          obtain ⟨w, f⟩ := u
          rw [e0]
          refine dk_astq X 30 4 (wC g ad T S2).length (ws' := (wC g ad T S2).set 30 (ad 30, .inl (g.2.1 4, 6, .inr (.inr (.inr (.inr (va_up (fun j => if j < T then some (ad (43 + 3 * j)) else none) T (some t))))))) ++ dk_nT g (S2 14) s1 s2 t w f) (dk_al (aC_30 g ad T S2)) rfl dk_ae (ci := 5) rfl (nI_in hT (by decide)) (by rw [nI_clamp (by omega), List.set_append_left _ _ (show 30 < (wC g ad T S2).length from by unfold wC; rw [List.length_append]; show 30 < 43 + _; omega)]) d_Hare_text_63 ?_
          obtain ⟨ad', a0, a1, a2, a3⟩ : ∃ ad' : Nat → Nat, (∀ k, k < 43 + 3 * T → ad' k = ad k) ∧ ad' (43 + 3 * T) = t ∧ ad' (44 + 3 * T) = w ∧ ad' (45 + 3 * T) = f := ⟨fun k => if k = 43 + 3 * T then t else if k = 44 + 3 * T then w else if k = 45 + 3 * T then f else ad k, fun k hk => by show (if _ then _ else _) = _; rw [if_neg (by omega), if_neg (by omega), if_neg (by omega)], if_pos rfl, by show (if _ then _ else _) = _; rw [if_neg (by omega), if_pos rfl], by show (if _ then _ else _) = _; rw [if_neg (by omega), if_neg (by omega), if_pos rfl]⟩
          refine dk_wsE (wC_new a0 a1 a2 a3 hx (by omega) (by omega)) ?_
          show dk_J p l e rm_Hare_text s m args below meth c g A Q 1 3 162 64 [(0, .ref (ad 0))] [] _
          rw [← a0 0 (by omega)]
          refine dk_aload_n (k := 0) (i := 0) X 0 rfl rfl d_Hare_text_64 ?_
          refine dk_dup X rfl d_Hare_text_65 ?_
          refine dk_get X q_Hare 0 8 (by decide) (oC_Hare g ad' (T + 1) _) (v := .int (nI T)) (by rw [← e0, ← dk_nS_lt (S := S2) (T := T) (s1 := s1) (s2 := s2) (k := 100) (by omega)]; rfl) f_Hare_57 d_Hare_text_66 ?_
          refine dk_dup_x1 X rfl rfl d_Hare_text_69 ?_
          refine dk_iconst (v := 1) X (by decide) d_Hare_text_70 ?_
          refine dk_iadd X d_Hare_text_71 ?_
          refine dk_put (ws' := wC g ad' (T + 1) (dk_U (dk_nS S2 T s1 s2) 100 0 (nI T + 1))) X q_Hare 0 8 (by decide) (oC_Hare g ad' (T + 1) _) f_Hare_57 rfl rfl rfl rfl (Nat.le_of_ble_eq_true rfl) (sC_Hare_textCount g ad' (T + 1) _ _) d_Hare_text_72 ?_
          exact hR (nI T) (ad', T + 1, dk_U (dk_nS S2 T s1 s2) 100 0 (nI T + 1)) _ _ d_Hare_text_75 ⟨hF, a0 0 (by omega)⟩
        · cases hF
      · refine dk_bipush (v := -100) X (by decide) d_Hare_text_37 ?_
        refine dk_aload_n (k := 0) (i := 0) X 0 rfl rfl d_Hare_text_39 ?_
        refine dk_get X q_Hare 0 2 (by decide) (oC_Hare g ad T S2) rfl f_Hare_26 d_Hare_text_40 ?_
        refine dk_get X q_Reader 12 2 (by decide) (oC_Reader g ad T S2) rfl f_Hare_148 d_Hare_text_43 ?_
        refine dk_isub X d_Hare_text_46 ?_
        refine dk_wid (k := 3) (n := 162) (Nat.zero_le _) (Nat.zero_le _) ?_
        injection hF with hF
        exact hR _ (ad, T, S2) _ _ d_Hare_text_47 ⟨hF, rfl⟩
    · refine dk_bipush (v := -4) X (by decide) d_Hare_text_9 ?_
      refine dk_wid (k := 3) (n := 162) (Nat.zero_le _) (Nat.zero_le _) ?_
      injection hF with hF
      exact hR _ (ad, T, S) _ _ d_Hare_text_11 ⟨hF, rfl⟩)
