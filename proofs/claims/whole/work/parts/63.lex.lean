/-! PURE: both scanners tell the same token -/
theorem wd_inj : ∀ i, i < 11 → ∀ j, j < 11 → wd i = wd j → i = j := by decide +kernel
section LE
variable {n T z i p e : Nat} {t : Nat → Nat} {C M : dk_S}
theorem isW_inj {w u : List Nat} (h1 : isW t p e w) (h2 : isW t p e u) : w = u := by
  have hl : w.length = u.length := by have := h1.1; have := h2.1; omega
  refine List.ext_getElem hl (fun k k1 k2 => ?_)
  have a := h1.2 k k1
  have b := h2.2 k k2
  rw [List.getD_eq_getElem?_getD, List.getElem?_eq_getElem k1] at a
  rw [List.getD_eq_getElem?_getD, List.getElem?_eq_getElem k2] at b
  exact a.symm.trans b
theorem lex_word (ht : tpe z t) (hi : i ≤ z) (hn : 400 ≤ n) (hp : p = rn isB t (z - i) i) (hpz : p < z) (hL : isL (t p) = true) (he : e = rn isL t (z - p) p) : ∃ k v, lxC n T z t i p e k v ∧ lxM n z t i p e k v ∧ k ≠ 0 ∧ kOK k ∧ k ≠ 2 ∧ (k = 3 → v < 6) := by
  have hz := ht.1
  have hez : e ≤ z := by rw [he]; have := rn_le (P := isL) (t := t) (z - p) p; omega
  have hpe : p < e := by rw [he]; exact rn_gt (by omega) hL
  have hl : ∀ j, p ≤ j → j < e → isL (t j) = true := fun j h1 h2 => rn_all (z - p) p j h1 (by rw [← he]; exact h2)
  have cC : ∀ C, tkC z t C → C 112 0 = nI i → ∃ C3 r, F_Reader_scan n T C = (dk_cv (B_Reader_scanWord_39 n T C3) fun S17 => some S17) ∧ C3 112 0 = nI e ∧ C3 110 0 = nI p ∧ F_Reader_numberOfWord n T C3 = some (r, C3) ∧ ((∃ i, i < 11 ∧ isW t p e (wd i) ∧ r = nI i) ∨ (r = -1 ∧ ∀ i, i < 11 → ¬ isW t p e (wd i))) := by
    intro C hC h112
    obtain ⟨C2, e1, e2, e3, e4⟩ := c_41 (n := n) (T := T) (p := p) hC
    obtain ⟨C3, f1, f2, f3⟩ := sw_loop (n := n) (T := T) ht (z - p) p n C2 e2 e4 (by omega) (by omega)
    rw [← he] at f2
    have h110 : C3 110 0 = nI p := by rw [f3 110 (by decide)]; exact e3
    obtain ⟨r, r1, r2⟩ := e_nw (n := n) (T := T) ht (e2.cg f3 (by decide)) h110 f2 hez (by omega) hn
    refine ⟨C3, r, ?_, f2, h110, r1, r2⟩
    rw [c_start ht hC h112 hi hn, ← hp, e1, if_pos (nI_lt hpz (by omega)), pu_r (by omega) (by decide), e2.2 p hpz, e_letC (ht.2 p hpz), pu_c, pu_et hL]
    unfold F_Reader_scanWord
    rw [f1]
  have cM : ∀ M, tkM z t M → M 40 0 = nI i → ∃ M3 w2, F_Model_next n M = B_Model_next_111 n n w2 0 M3 ∧ M3 40 0 = nI e ∧ M3 41 0 = nI p ∧ (e - p ≤ 6 → w2 = lN (pk t p (e - p))) ∧ (¬ e - p ≤ 6 → w2 = 0) := by
    intro M hM h40
    obtain ⟨M1, e1, e2, e3⟩ := m_start ht hM h40 hi hn
    rw [← hp] at e2
    obtain ⟨M2, f1, f2, f3, f4, f5, -, f6⟩ := m_52 (n := n) e3 e2 (by omega) hz
    obtain ⟨w2, M3, g1, g2, g3, g4, g5⟩ := lt_loop (n := n) (p := p) ht (z - p) 0 n 0 M2 f1 f2 (by omega) (by omega) (fun _ => rfl)
    rw [Nat.add_zero, ← he] at g2 g3 g4
    refine ⟨M3, w2, ?_, g2, by rw [g5 41 (by decide)]; exact f3, g3, g4⟩
    rw [e1, f6 hpz (ht.2 p hpz), pu_et hL]
    unfold F_Model_letters B_Model_letters_0
    have g1' : B_Model_letters_4 n n 0 0 M2 = some (w2, M3) := g1
    rw [g1', pu_c]
  by_cases hw : ∃ j, j < 11 ∧ isW t p e (wd j)
  · obtain ⟨j, hj, hW⟩ := hw
    have hk := wk_ok hj
    refine ⟨wk j, j, fun C hC h112 => ?_, fun M hM h40 => ?_, by omega, Or.inl hk.2, by omega, fun q => ?_⟩
    · obtain ⟨C3, r, a1, a2, a3, a4, a5⟩ := cC C hC h112
      have hr : r = nI j := by
        rcases a5 with ⟨i2, b1, b2, b3⟩ | ⟨-, b2⟩
        · rw [b3, wd_inj i2 b1 j hj (isW_inj b2 hW)]
        · exact absurd hW (b2 j hj)
      obtain ⟨C4, g1, g2, g3, g4⟩ := (c_39 a4).1 j hj hr
      refine ⟨C4, by rw [a1, g1, pu_cv], by rw [g4 112 (by decide)]; exact a2, by rw [g4 110 (by decide)]; exact a3, g2, fun q => by omega, g3⟩
    · obtain ⟨M3, w2, a1, a2, a3, a4, a5⟩ := cM M hM h40
      obtain ⟨M4, g1, g2, g3, g4, g5, g6⟩ := m_136 (n := n) (M := M3) hj
      refine ⟨M4, ?_, by rw [g6 40 (by decide)]; exact a2, by rw [g6 41 (by decide)]; exact a3, g2, g3, g4, g5⟩
      rw [a1, (m_word ht hez (by omega) hl a4 a5 hn).1 j hj hW]
      exact g1
    · unfold wk at q
      by_cases h6 : j < 6
      · exact h6
      · rw [if_neg h6] at q; omega
  · have hno : ∀ j, j < 11 → ¬ isW t p e (wd j) := fun j hj q => hw ⟨j, hj, q⟩
    refine ⟨1, 0, fun C hC h112 => ?_, fun M hM h40 => ?_, by decide, Or.inl (by decide), by decide, fun q => absurd q (by decide)⟩
    · obtain ⟨C3, r, a1, a2, a3, a4, a5⟩ := cC C hC h112
      have hr : r = -1 := by
        rcases a5 with ⟨i2, b1, b2, b3⟩ | ⟨b1, -⟩
        · exact absurd b2 (hno i2 b1)
        · exact b1
      obtain ⟨C4, g1, g2, g4⟩ := (c_39 a4).2 hr
      refine ⟨C4, by rw [a1, g1, pu_cv], by rw [g4 112 (by decide)]; exact a2, by rw [g4 110 (by decide)]; exact a3, g2, fun q => absurd q (by decide), fun q => absurd q (by decide)⟩
    · obtain ⟨M3, w2, a1, a2, a3, a4, a5⟩ := cM M hM h40
      obtain ⟨M4, g1, g2, g6⟩ := m_none (n := n) (M := M3)
      refine ⟨M4, ?_, by rw [g6 40 (by decide)]; exact a2, by rw [g6 41 (by decide)]; exact a3, g2, fun q => by omega, fun q => absurd q (by decide), fun q => absurd q (by decide)⟩
      rw [a1, (m_word ht hez (by omega) hl a4 a5 hn).2 hno]
      exact g1
theorem lex_num (ht : tpe z t) (hi : i ≤ z) (hn : 400 ≤ n) (hp : p = rn isB t (z - i) i) (hpz : p < z) (hL : ¬ isL (t p) = true) (hD : isD (t p) = true) (he : e = rn isD t (z - p) p) : ∃ k v, lxC n T z t i p e k v ∧ lxM n z t i p e k v ∧ k ≠ 0 ∧ kOK k ∧ (k = 2 → v ≤ 9999) ∧ k ≠ 3 := by
  have hz := ht.1
  have hez : e ≤ z := by rw [he]; have := rn_le (P := isD) (t := t) (z - p) p; omega
  have hpe : p < e := by rw [he]; exact rn_gt (by omega) hD
  have hl : ∀ j, p ≤ j → j < e → isD (t j) = true := fun j h1 h2 => rn_all (z - p) p j h1 (by rw [← he]; exact h2)
  have hv : e - p ≤ 4 → nv t p (e - p) ≤ 9999 := fun q => by
    have h1 := nv_lt (t := t) (p := p) (e - p) (fun j hj => hl (p + j) (by omega) (by omega))
    have h2 : 10 ^ (e - p) ≤ 10 ^ 4 := Nat.pow_le_pow_right (by decide) q
    omega
  have cC : ∀ C, tkC z t C → C 112 0 = nI i → ∃ C3, F_Reader_scan n T C = (dk_cv (B_Reader_scanNumber_68 n T C3) fun S15 => some S15) ∧ C3 112 0 = nI e ∧ C3 110 0 = nI p ∧ (e - p ≤ 4 → C3 111 0 = nI (nv t p (e - p))) := by
    intro C hC h112
    obtain ⟨C2, e1, e2, e3, e4⟩ := c_41 (n := n) (T := T) (p := p) hC
    have c : dk_fr [111] C2 (dk_U C2 111 0 0) := fr_U (by decide)
    obtain ⟨C3, f1, f2, f3, f4⟩ := sn_loop (n := n) (T := T) (p := p) ht (z - p) 0 n (dk_U C2 111 0 0) (e2.cg c (by decide)) (by rw [c 112 (by decide)]; exact e4) (by omega) (by omega) (fun _ => pu_Us)
    rw [Nat.add_zero, ← he] at f2 f3
    refine ⟨C3, ?_, f2, by rw [f4 110 (by decide), c 110 (by decide)]; exact e3, f3⟩
    rw [c_start ht hC h112 hi hn, ← hp, e1, if_pos (nI_lt hpz (by omega)), pu_r (by omega) (by decide), e2.2 p hpz, e_letC (ht.2 p hpz), pu_c, pu_ef hL, pu_r (by omega) (by decide), e2.2 p hpz, e_digC (ht.2 p hpz), pu_c, pu_et hD]
    unfold F_Reader_scanNumber B_Reader_scanNumber_0
    rw [pu_p, f1]
  have cM : ∀ M, tkM z t M → M 40 0 = nI i → ∃ M3, F_Model_next n M = B_Model_next_293 n (nI (e - p)) M3 ∧ M3 40 0 = nI e ∧ M3 41 0 = nI p ∧ (e - p ≤ 4 → M3 43 0 = nI (nv t p (e - p))) := by
    intro M hM h40
    obtain ⟨M1, e1, e2, e3⟩ := m_start ht hM h40 hi hn
    rw [← hp] at e2
    obtain ⟨M2, f1, f2, f3, f4, f5, -, f6⟩ := m_52 (n := n) e3 e2 (by omega) hz
    obtain ⟨M3, g1, g2, g3, g4⟩ := nn_loop (n := n) (p := p) ht (z - p) 0 n M2 f1 f2 (by omega) (by omega) (fun _ => f5)
    rw [Nat.add_zero, ← he] at g1 g2 g3
    refine ⟨M3, ?_, g2, by rw [g4 41 (by decide)]; exact f3, g3⟩
    rw [e1, f6 hpz (ht.2 p hpz), pu_ef hL, pu_et hD]
    exact g1
  have es : nI e - nI p = nI (e - p) := pk_sub (by omega)
  by_cases h4 : e - p ≤ 4
  · refine ⟨2, nv t p (e - p), fun C hC h112 => ?_, fun M hM h40 => ?_, by decide, Or.inl (by decide), fun _ => hv h4, by decide⟩
    · obtain ⟨C3, a1, a2, a3, a4⟩ := cC C hC h112
      have c : dk_fr [109] C3 (dk_U C3 109 0 2) := fr_U (by decide)
      refine ⟨dk_U C3 109 0 2, ?_, by rw [c 112 (by decide)]; exact a2, by rw [c 110 (by decide)]; exact a3, by rw [pu_Us]; rfl, fun _ => by rw [c 111 (by decide)]; exact a4 h4, fun q => absurd q (by decide)⟩
      rw [a1]
      unfold B_Reader_scanNumber_68 B_Reader_scanNumber_87
      rw [a2, a3, es, if_pos (show nI (e - p) ≤ (4 : Int32) from nI_le (b := 4) h4 (by decide)), pu_p, pu_cv]
    · obtain ⟨M3, a1, a2, a3, a4⟩ := cM M hM h40
      have c : dk_fr [42] M3 (dk_U M3 42 0 1) := fr_U (by decide)
      refine ⟨dk_U M3 42 0 1, ?_, by rw [c 40 (by decide)]; exact a2, by rw [c 41 (by decide)]; exact a3, by rw [pu_Us]; rfl, fun _ => by rw [c 43 (by decide)]; exact a4 h4, fun q => absurd q (by decide), fun q => absurd q (by decide)⟩
      rw [a1]
      unfold B_Model_next_293 B_Model_next_304
      rw [if_pos (show nI (e - p) ≤ (4 : Int32) from nI_le (b := 4) h4 (by decide)), pu_p]
  · refine ⟨1, 0, fun C hC h112 => ?_, fun M hM h40 => ?_, by decide, Or.inl (by decide), fun q => absurd q (by decide), by decide⟩
    · obtain ⟨C3, a1, a2, a3, a4⟩ := cC C hC h112
      have c : dk_fr [109] C3 (dk_U C3 109 0 1) := fr_U (by decide)
      refine ⟨dk_U C3 109 0 1, ?_, by rw [c 112 (by decide)]; exact a2, by rw [c 110 (by decide)]; exact a3, by rw [pu_Us]; rfl, fun q => absurd q (by decide), fun q => absurd q (by decide)⟩
      rw [a1]
      unfold B_Reader_scanNumber_68 B_Reader_scanNumber_87
      rw [a2, a3, es, if_neg (show ¬ nI (e - p) ≤ (4 : Int32) from nI_ge (a := 4) (by omega) (by omega)), pu_p, pu_cv]
    · obtain ⟨M3, a1, a2, a3, a4⟩ := cM M hM h40
      have c : dk_fr [42] M3 (dk_U M3 42 0 (-1)) := fr_U (by decide)
      refine ⟨dk_U M3 42 0 (-1), ?_, by rw [c 40 (by decide)]; exact a2, by rw [c 41 (by decide)]; exact a3, by rw [pu_Us]; rfl, fun q => by omega, fun q => absurd q (by decide), fun q => absurd q (by decide)⟩
      rw [a1]
      unfold B_Model_next_293 B_Model_next_304
      rw [if_neg (show ¬ nI (e - p) ≤ (4 : Int32) from nI_ge (a := 4) (by omega) (by omega)), pu_p]
theorem lex_sign (ht : tpe z t) (hi : i ≤ z) (hn : 400 ≤ n) (hp : p = rn isB t (z - i) i) (hpz : p < z) (hL : ¬ isL (t p) = true) (hD : ¬ isD (t p) = true) : ∃ k v, lxC n T z t i p (p + 1) k v ∧ lxM n z t i p (p + 1) k v ∧ k ≠ 0 ∧ kOK k ∧ k ≠ 2 ∧ k ≠ 3 := by
  have hz := ht.1
  have hv := ht.2 p hpz
  have cC : ∀ C, tkC z t C → C 112 0 = nI i → ∃ C2 x, F_Reader_scan n T C = some C2 ∧ C2 112 0 = nI (p + 1) ∧ C2 110 0 = nI p ∧ C2 109 0 = x ∧ (isS (t p) = true → x = nI (t p)) ∧ (¬ isS (t p) = true → x = 1) := by
    intro C hC h112
    obtain ⟨C2, e1, e2, e3, e4⟩ := c_41 (n := n) (T := T) (p := p) hC
    have st : ∀ x, ∃ C3, B_Reader_scan_128 n T x C2 = some C3 ∧ C3 112 0 = nI (p + 1) ∧ C3 110 0 = nI p ∧ C3 109 0 = x := by
      intro x
      unfold B_Reader_scan_128
      rw [pu_p, pu_p, dk_U_n (show 112 ≠ 109 by decide), e4, nI_1]
      exact ⟨_, rfl, pu_Us, by rw [dk_U_n (by decide), dk_U_n (by decide)]; exact e3, by rw [dk_U_n (by decide), pu_Us]⟩
    rw [c_start ht hC h112 hi hn, ← hp, e1, if_pos (nI_lt hpz (by omega)), pu_r (by omega) (by decide), e2.2 p hpz, e_letC hv, pu_c, pu_ef hL, pu_r (by omega) (by decide), e2.2 p hpz, e_digC hv, pu_c, pu_ef hD, pu_r (by omega) (by decide), e2.2 p hpz, e_sigC hv, pu_c, pu_r (by omega) (by decide), e2.2 p hpz]
    by_cases hS : isS (t p) = true
    · rw [if_pos hS, if_neg (show ¬ (1 : Int32) = 0 by decide), sb_lo (by have := isS_i.mp hS; omega)]
      obtain ⟨C3, g1, g2, g3, g4⟩ := st (nI (t p))
      exact ⟨C3, nI (t p), g1, g2, g3, g4, fun _ => rfl, fun q => absurd hS q⟩
    · rw [if_neg hS, if_pos rfl]
      obtain ⟨C3, g1, g2, g3, g4⟩ := st 1
      exact ⟨C3, 1, g1, g2, g3, g4, fun q => absurd q hS, fun _ => rfl⟩
  have cM : ∀ M, tkM z t M → M 40 0 = nI i → ∃ M2 x, F_Model_next n M = some M2 ∧ M2 40 0 = nI (p + 1) ∧ M2 41 0 = nI p ∧ M2 42 0 = x ∧ (isS (t p) = true → x = nI (t p)) ∧ (¬ isS (t p) = true → x = -1) := by
    intro M hM h40
    obtain ⟨M1, e1, e2, e3⟩ := m_start ht hM h40 hi hn
    rw [← hp] at e2
    obtain ⟨M2, f1, f2, f3, f4, f5, -, f6⟩ := m_52 (n := n) e3 e2 (by omega) hz
    have st : ∀ x, ∃ M3, B_Model_next_374 n x M2 = some M3 ∧ M3 40 0 = nI (p + 1) ∧ M3 41 0 = nI p ∧ M3 42 0 = x := by
      intro x
      unfold B_Model_next_374
      rw [pu_p, pu_p, dk_U_n (show 40 ≠ 42 by decide), f2, nI_1]
      exact ⟨_, rfl, pu_Us, by rw [dk_U_n (by decide), dk_U_n (by decide)]; exact f3, by rw [dk_U_n (by decide), pu_Us]⟩
    rw [e1, f6 hpz hv, pu_ef hL, pu_ef hD]
    unfold B_Model_next_363
    by_cases hS : isS (t p) = true
    · rw [if_pos hS, if_neg (show ¬ (1 : Int32) = 0 by decide)]
      obtain ⟨M3, g1, g2, g3, g4⟩ := st (nI (t p))
      exact ⟨M3, nI (t p), g1, g2, g3, g4, fun _ => rfl, fun q => absurd hS q⟩
    · rw [if_neg hS, if_pos rfl]
      obtain ⟨M3, g1, g2, g3, g4⟩ := st (-1)
      exact ⟨M3, -1, g1, g2, g3, g4, fun q => absurd q hS, fun _ => rfl⟩
  by_cases hS : isS (t p) = true
  · have hs := isS_i.mp hS
    refine ⟨t p, 0, fun C hC h112 => ?_, fun M hM h40 => ?_, by omega, Or.inr hs, by omega, by omega⟩
    · obtain ⟨C2, x, a1, a2, a3, a4, a5, -⟩ := cC C hC h112
      exact ⟨C2, a1, a2, a3, by rw [a4, a5 hS], fun q => by omega, fun q => by omega⟩
    · obtain ⟨M2, x, a1, a2, a3, a4, a5, -⟩ := cM M hM h40
      refine ⟨M2, a1, a2, a3, ?_, fun q => by omega, fun q => by omega, fun q => by omega⟩
      rw [a4, a5 hS]
      unfold mtk
      rw [if_neg (by omega), if_neg (by omega), if_neg (by omega), if_neg (by omega), if_neg (by omega), if_neg (by omega), if_neg (by omega), if_neg (by omega), if_neg (by omega)]
  · refine ⟨1, 0, fun C hC h112 => ?_, fun M hM h40 => ?_, by decide, Or.inl (by decide), by decide, by decide⟩
    · obtain ⟨C2, x, a1, a2, a3, a4, -, a5⟩ := cC C hC h112
      exact ⟨C2, a1, a2, a3, by rw [a4, a5 hS]; rfl, fun q => absurd q (by decide), fun q => absurd q (by decide)⟩
    · obtain ⟨M2, x, a1, a2, a3, a4, -, a5⟩ := cM M hM h40
      exact ⟨M2, a1, a2, a3, by rw [a4, a5 hS]; rfl, fun q => by omega, fun q => absurd q (by decide), fun q => absurd q (by decide)⟩
/-- THE token from place i on: its first byte, where it ends, its kind and number, on both sides -/
theorem lex (ht : tpe z t) (hi : i ≤ z) (hn : 400 ≤ n) : ∃ p e k v, lxC n T z t i p e k v ∧ lxM n z t i p e k v ∧ i ≤ p ∧ p ≤ e ∧ e ≤ z ∧ (k = 0 → p = z) ∧ (k ≠ 0 → p < e) ∧ kOK k ∧ (k = 2 → v ≤ 9999) ∧ (k = 3 → v < 6) := by
  have hz := ht.1
  have h1 := rn_ge (P := isB) (t := t) (z - i) i
  have h2 := rn_le (P := isB) (t := t) (z - i) i
  by_cases hpz : rn isB t (z - i) i = z
  · refine ⟨z, z, 0, 0, fun C hC h112 => ?_, fun M hM h40 => ?_, by omega, by omega, by omega, fun _ => rfl, fun q => absurd rfl q, Or.inl (by decide), fun q => absurd q (by decide), fun q => absurd q (by decide)⟩
    · obtain ⟨C2, e1, e2, e3, e4⟩ := c_41 (n := n) (T := T) (p := z) hC
      have c : dk_fr [109] C2 (dk_U C2 109 0 0) := fr_U (by decide)
      refine ⟨dk_U C2 109 0 0, ?_, by rw [c 112 (by decide)]; exact e4, by rw [c 110 (by decide)]; exact e3, by rw [pu_Us]; rfl, fun q => absurd q (by decide), fun q => absurd q (by decide)⟩
      rw [c_start ht hC h112 hi hn, hpz, e1, if_neg (nI_nlt (Nat.le_refl _) (by omega)), pu_p]
    · obtain ⟨M1, e1, e2, e3⟩ := m_start ht hM h40 hi hn
      rw [hpz] at e2
      obtain ⟨M2, f1, f2, f3, f4, f5, f6, -⟩ := m_52 (n := n) e3 e2 (by omega) hz
      exact ⟨M2, by rw [e1]; exact f6 rfl, f2, f3, by rw [f4]; rfl, fun q => by omega, fun q => absurd q (by decide), fun q => absurd q (by decide)⟩
  · have hlt : rn isB t (z - i) i < z := by omega
    by_cases hL : isL (t (rn isB t (z - i) i)) = true
    · obtain ⟨k, v, a1, a2, a3, a4, a5, a6⟩ := lex_word (T := T) ht hi hn rfl hlt hL rfl
      have b1 := rn_le (P := isL) (t := t) (z - rn isB t (z - i) i) (rn isB t (z - i) i)
      have b2 := rn_gt (P := isL) (t := t) (d := z - rn isB t (z - i) i) (by omega) hL
      exact ⟨_, _, k, v, a1, a2, h1, by omega, by omega, fun q => absurd q a3, fun _ => b2, a4, fun q => absurd q a5, a6⟩
    · by_cases hD : isD (t (rn isB t (z - i) i)) = true
      · obtain ⟨k, v, a1, a2, a3, a4, a5, a6⟩ := lex_num (T := T) ht hi hn rfl hlt hL hD rfl
        have b1 := rn_le (P := isD) (t := t) (z - rn isB t (z - i) i) (rn isB t (z - i) i)
        have b2 := rn_gt (P := isD) (t := t) (d := z - rn isB t (z - i) i) (by omega) hD
        exact ⟨_, _, k, v, a1, a2, h1, by omega, by omega, fun q => absurd q a3, fun _ => b2, a4, a5, fun q => absurd q a6⟩
      · obtain ⟨k, v, a1, a2, a3, a4, a5, a6⟩ := lex_sign (T := T) ht hi hn rfl hlt hL hD
        exact ⟨_, _, k, v, a1, a2, h1, by omega, by omega, fun q => absurd q a3, fun _ => by omega, a4, fun q => absurd q a5, fun q => absurd q a6⟩
end LE
