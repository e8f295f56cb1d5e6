section T2
variable {n T z : Nat} {t : Nat → Nat} {C C2 M M2 : dk_S}
theorem e_eRead : F_Model_eRead n M = B_Model_eRead_14 n n 1 1 (dk_U (dk_U M 46 0 0) 47 0 0) := by
  unfold F_Model_eRead B_Model_eRead_0
  rw [pu_p, pu_p]
theorem mtk_0 {k : Nat} (hk : kOK k) : mtk k = 0 ↔ k = 0 := by
  rcases hk with hk | rfl | rfl | rfl | rfl | rfl | rfl | rfl | rfl
  · rcases (show k = 0 ∨ k = 1 ∨ k = 2 ∨ k = 3 ∨ k = 4 ∨ k = 5 ∨ k = 6 ∨ k = 7 ∨ k = 8 by omega) with rfl | rfl | rfl | rfl | rfl | rfl | rfl | rfl | rfl <;> decide
  all_goals decide
/-- where an E begins -/
theorem t_start {i p e k v o : Nat} {g0 h0 : Nat → Int32} (hz : z ≤ 160) (hT : T < 6) (hl : la n T z t C i p e k v) (ho : o ≤ i) (hi : i ≤ z) (hM : tkM z t M) (h16 : M 16 0 = nI T) (h40 : M 40 0 = nI i) (h48 : M 48 0 = nI o) (c6 : C 106 0 = -1) (c7 : C 107 0 = nI o) (c13 : C 113 0 = 0) (hc : ∀ j, j < o → iO (C 14 j) (M 14 (200 * T + j))) (hg : ∀ x, x < 200 * T → M 14 x = g0 x) (hh : ∀ j, j < o → C 14 j = h0 j) : pR T z o t g0 h0 C (dk_U (dk_U M 46 0 0) 47 0 0) [] [] i o 0 := by
  have c : dk_fr [46, 47] M (dk_U (dk_U M 46 0 0) 47 0 0) := (fr_U (by decide)).tr (fr_U (by decide))
  refine ⟨⟨hz, hT, hi, by show o + 0 + 0 ≤ i; omega, Nat.le_refl _, by decide⟩, ⟨hM.cg c (by decide), by rw [c 16 (by decide)]; exact h16, by rw [c 40 (by decide)]; exact h40, by rw [dk_U_n (by decide), pu_Us]; rfl, trivial, by rw [pu_Us]; rfl, by rw [c 48 (by decide)]; exact h48⟩, ⟨c6, c7, by rw [c13]; rfl⟩, ⟨?_, trivial, ?_, hh, ?_⟩⟩
  · rw [c 14 (by decide)]; exact hc
  · rw [c 14 (by decide)]; exact hg
  · show dpth (fun j => C 14 (o + j)) (o + 0 - o) = some 0
    rw [show o + 0 - o = 0 by omega]
    rfl
theorem fl_fail {q x2 f : Nat} {g0 : Nat → Int32} {M9 : dk_S} (h : fl T g0 (B_Model_eRead_14 n n 1 1 (dk_U (dk_U M9 46 0 0) 47 0 0)) f) (hg : ∀ x, x < 200 * T → M9 14 x = g0 x) (h16 : M9 16 0 = nI T) (hT : T < 6) (hx : x2 < 10) {K : Int32 → dk_S → Option (Int32 × dk_S)} : ∃ M2, (dk_c (F_Model_eRead n M9) fun r3 S2 => if r3 = 0 then (B_Model_text_26 n (q + 1) 0 (nI x2) S2) else K r3 S2) = some (-100 - nI f, M2) ∧ low T M9 M2 ∧ M2 13 0 = 0 := by
  obtain ⟨M3, a1, a2, a3⟩ := h
  have e : F_Model_eRead n M9 = some (0, M3) := by rw [e_eRead]; exact a1
  have c : dk_fr [14, 40, 41, 42, 43, 45, 46, 47, 48] M9 M3 := fr_Model_eRead e
  have hl : low T M9 M3 := ⟨fun x hx => by rw [a3 x hx, hg x hx], fun x hx => by rw [c 15 (by decide)], by rw [c 16 (by decide)]⟩
  obtain ⟨M4, b1, b2, b3⟩ := x_fail (n := n) (q := q) (x2 := x2) (T := T) (M := M3) (by rw [hl.2.2]; exact h16) hT hx
  rw [e, pu_c, if_pos rfl, b1, a2]
  exact ⟨M4, rfl, hl.tr b2, b3⟩
theorem e_text (hC : tkC z t C) (hM : tkM z t M) (ht : tpe z t) (h16 : M 16 0 = nI T) (hT : T < 6) (hn : 400 ≤ n) : tBad n T M (F_Reader_readText n T C) (F_Model_text n M) ∨ tOk n T M (F_Reader_readText n T C) (F_Model_text n M) := by
  have hz := ht.1
  obtain ⟨N, hN⟩ : ∃ N, n = N + 3 := ⟨n - 3, by omega⟩
  -- the class up to the first word
  have cc0 : dk_fr [106, 107, 112, 113] C (dk_U (dk_U (dk_U (dk_U C 106 0 (-1)) 107 0 0) 112 0 0) 113 0 0) := (((fr_U (by decide)).tr (fr_U (by decide))).tr (fr_U (by decide))).tr (fr_U (by decide))
  have k6 : (dk_U (dk_U (dk_U (dk_U C 106 0 (-1)) 107 0 0) 112 0 0) 113 0 0) 106 0 = -1 := by rw [dk_U_n (by decide), dk_U_n (by decide), dk_U_n (by decide), pu_Us]
  have k7 : (dk_U (dk_U (dk_U (dk_U C 106 0 (-1)) 107 0 0) 112 0 0) 113 0 0) 107 0 = 0 := by rw [dk_U_n (by decide), dk_U_n (by decide), pu_Us]
  have k12 : (dk_U (dk_U (dk_U (dk_U C 106 0 (-1)) 107 0 0) 112 0 0) 113 0 0) 112 0 = nI 0 := by rw [dk_U_n (by decide), pu_Us]; rfl
  have k13 : (dk_U (dk_U (dk_U (dk_U C 106 0 (-1)) 107 0 0) 112 0 0) 113 0 0) 113 0 = 0 := pu_Us
  obtain ⟨p, e, k, v, a1, a2, a3⟩ := lex (T := T) ht (Nat.zero_le z) hn
  obtain ⟨C1, bb1, bb2, bb3, bb4, bb5, bb6⟩ := a1 _ (hC.cg cc0 (by decide)) k12
  have cc1 := fr_Reader_scan bb1
  have hl1 : la n T z t C1 0 p e k v := ⟨⟨ht, (hC.cg cc0 (by decide)).cg cc1 (by decide), a2⟩, ⟨bb2, bb3, bb4, bb5, bb6⟩, a3⟩
  obtain ⟨y1, y2, y3, y4, y5⟩ := la_ord hl1
  have d0 : dk_fr [40, 48] M (dk_U (dk_U M 40 0 0) 48 0 0) := (fr_U (by decide)).tr (fr_U (by decide))
  have hc : F_Reader_readText n T C = dk_cv (F_Reader_expect n T (nI (4 + 0)) C1) fun S7 => dk_cv (F_Reader_readEither n T S7) fun S9 => tlA n T S9 := by
    unfold F_Reader_readText B_Reader_readText_0
    rw [pu_p, pu_p, pu_p, pu_p, bb1, pu_cv]
    rfl
  have hm : F_Model_text n M = B_Model_text_26 n (N + 2 + 1) 1 (nI 0) (dk_U (dk_U M 40 0 0) 48 0 0) := by
    unfold F_Model_text B_Model_text_0
    rw [h16, if_pos (show ¬ nI T = (6 : Int32) from fun q => by have := (nI_eq (b := 6) (by omega) (by decide)).mp q; omega), pu_p, pu_p]
    rw [show N + 2 + 1 = n by omega]
    rfl
  have m40 : (dk_U (dk_U M 40 0 0) 48 0 0) 40 0 = nI 0 := by rw [dk_U_n (by decide), pu_Us]; rfl
  have m48 : (dk_U (dk_U M 40 0 0) 48 0 0) 48 0 = nI 0 := pu_Us
  have l0 : low T M (dk_U (dk_U M 40 0 0) 48 0 0) := low.fr d0 (by decide)
  obtain ⟨M9, f1, f2, f3, f4, f5, f6, f7, f8, f9⟩ := t_word (q := N + 2) (x := 0) (hM.cg d0 (by decide)) m40 (by rw [d0 16 (by decide)]; exact h16) hT hl1 (by rw [cc1 106 (by decide)]; exact k6) (by decide) hn
  have l9 := l0.tr f1
  have h9 : M9 16 0 = nI T := by rw [l9.2.2]; exact h16
  rcases f9 with ⟨g1, ⟨C3, p3, e3, k3, v3, r1, r2, r3⟩, g2⟩ | ⟨g1, ⟨C3, r1, r2⟩, g2⟩
  rotate_left
  · -- the first word isn't worth
    obtain ⟨C4, s1, s2⟩ := f_tlA (T := T) r2 (by omega) hn
    obtain ⟨M4, w1, w2, w3⟩ := x_fail (n := n) (q := N + 1) (x2 := 0 + 1) (T := T) (M := M9) h9 hT (by decide)
    refine Or.inl ⟨C4, M4, p, ?_, s2, by omega, ?_, l9.tr w2, w3⟩
    · rw [hc, r1, pu_cv]
      unfold F_Reader_readEither
      rw [f_G r2 (by omega) hn 64 0 (by decide) (by decide), pu_cv, s1]
    · rw [hm, g2, ← f4]
      exact w1
  -- the first E
  have hpe := y5 (by omega)
  have c6 : C3 106 0 = -1 := by rw [r3 106 (by decide), cc1 106 (by decide)]; exact k6
  have c7 : C3 107 0 = nI 0 := by rw [r3 107 (by decide), cc1 107 (by decide), k7]; rfl
  have c13 : C3 113 0 = 0 := by rw [r3 113 (by decide), cc1 113 (by decide)]; exact k13
  have hg9 : ∀ x, x < 200 * T → M9 14 x = M 14 x := l9.1
  have st1 : pR T z 0 t (M 14) (C3 14) C3 (dk_U (dk_U M9 46 0 0) 47 0 0) [] [] e 0 0 := t_start hz hT r2 (Nat.zero_le _) y3 f2 h9 f3 (by rw [f5, m48]) c6 c7 c13 (fun j hj => absurd hj (Nat.not_lt_zero _)) hg9 (fun j hj => rfl)
  obtain ⟨C4, s1, s2⟩ := t_part st1 r2 hn
  rw [hc, hm, g2, r1, pu_cv, s1, pu_cv]
  unfold tlA
  rcases s2 with ⟨f, u1, u2, u3⟩ | ⟨C5, f, u1, u2, u3, u4⟩ | ⟨C5, M3, i5, p5, e5, k5, v5, o5, u1, u2, u3, u4⟩
  · obtain ⟨C6, w1, w2⟩ := f_tlA (T := T) u2 (by omega) hn
    unfold tlA at w1
    obtain ⟨M4, x1, x2, x3⟩ := fl_fail (q := N + 1) (x2 := 0 + 1) u3 hg9 h9 hT (by decide) (K := fun r3 S2 => B_Model_text_26 n (N + 2) 1 (nI (0 + 1)) S2)
    exact Or.inl ⟨C6, M4, f, w1, w2, by omega, x1, l9.tr x2, x3⟩
  · have h2 : (dk_U C5 108 0 (C5 107 0)) 106 0 = nI f := by rw [dk_U_n (by decide)]; exact u3
    obtain ⟨M4, x1, x2, x3⟩ := fl_fail (q := N + 1) (x2 := 0 + 1) u4 hg9 h9 hT (by decide) (K := fun r3 S2 => B_Model_text_26 n (N + 2) 1 (nI (0 + 1)) S2)
    refine Or.inl ⟨_, M4, f, ?_, h2, by omega, x1, l9.tr x2, x3⟩
    rw [u2, pu_cv, pu_p, f_tlB h2 (by omega) hn]
  -- the second word
  obtain ⟨⟨q1, q2, q3, q4, q5, q6⟩, ⟨q7, q8, q9, q10, q11, q12, q13⟩, ⟨q14, q15, q16⟩, ⟨q17, q18, q19, q20, q21⟩⟩ := u3
  have q15' : C5 107 0 = nI o5 := q15
  have eR : F_Model_eRead n M9 = some (1, M3) := by rw [e_eRead]; exact u2
  have cR : dk_fr [14, 40, 41, 42, 43, 45, 46, 47, 48] M9 M3 := fr_Model_eRead eR
  have l3 : low T M9 M3 := ⟨fun x hx => by rw [q19 x hx, hg9 x hx], fun x hx => by rw [cR 15 (by decide)], by rw [cR 16 (by decide)]⟩
  have cc6 : dk_fr [108] C5 (dk_U C5 108 0 (C5 107 0)) := fr_U (by decide)
  have hl6 := u4.cg cc6 (by decide)
  obtain ⟨z1, z2, z3, z4, z5⟩ := la_ord hl6
  rw [u1, pu_cv, pu_p, eR, pu_c, if_neg (show ¬ (1 : Int32) = 0 by decide)]
  unfold tlB
  obtain ⟨N9, t1, t2, t3, t4, t5, t6, t7, t8, t9⟩ := t_word (q := N + 1) (x := 1) q7 q9 q8 hT hl6 (by rw [cc6 106 (by decide)]; exact q14) (by decide) hn
  have l10 := (l9.tr l3).tr t1
  have h10 : N9 16 0 = nI T := by rw [l10.2.2]; exact h16
  rcases t9 with ⟨g1', ⟨D3, p7, e7, k7', v7, r1', r2', r3'⟩, g2'⟩ | ⟨g1', ⟨D3, r1', r2'⟩, g2'⟩
  rotate_left
  · obtain ⟨M4, w1, w2, w3⟩ := x_fail (n := n) (q := N) (x2 := 1 + 1) (T := T) (M := N9) h10 hT (by decide)
    have r1'' : F_Reader_expect n T 5 (dk_U C5 108 0 (C5 107 0)) = some D3 := r1'
    refine Or.inl ⟨D3, M4, p5, ?_, r2', by omega, ?_, l10.tr w2, w3⟩
    · rw [r1'', pu_cv]
      unfold F_Reader_readEither
      rw [f_G r2' (by omega) hn 64 0 (by decide) (by decide), pu_cv, f_expect r2' (by omega), pu_cv, f_expect r2' (by omega), pu_cv]
    · have g2'' : B_Model_text_26 n (N + 2) 1 (nI (0 + 1)) M3 = B_Model_text_26 n (N + 1) 0 (nI (1 + 1)) N9 := g2'
      rw [g2'', ← t4]
      exact w1
  have r1'' : F_Reader_expect n T 5 (dk_U C5 108 0 (C5 107 0)) = some D3 := r1'
  have g2'' : B_Model_text_26 n (N + 2) 1 (nI (0 + 1)) M3 = _ := g2'
  -- the second E
  have hpe2 := z5 (by omega)
  have ccD : dk_fr [108, 109, 110, 111, 112] C5 D3 := (cc6.up (by decide)).tr (r3'.up (by decide))
  have hg10 : ∀ x, x < 200 * T → N9 14 x = M 14 x := l10.1
  have eb : 0 + o5 = o5 := by omega
  have st2 : pR T z o5 t (M 14) (D3 14) D3 (dk_U (dk_U N9 46 0 0) 47 0 0) [] [] e5 o5 0 := t_start hz hT r2' (by have : o5 + 0 + 0 ≤ i5 := q4; omega) z3 t2 h10 t3 (by rw [t5, q13]) (by rw [ccD 106 (by decide)]; exact q14) (by rw [ccD 107 (by decide)]; exact q15') (by rw [ccD 113 (by decide), q16]; rfl) (fun j hj => by rw [ccD 14 (by decide), t8]; exact q17 j hj) hg10 (fun j hj => rfl)
  obtain ⟨D4, v1, v2⟩ := t_part st2 r2' hn
  rw [r1'', pu_cv, v1, pu_cv, g2'']
  rcases v2 with ⟨f, u1', u2', u3'⟩ | ⟨D5, f, u1', u2', u3', u4'⟩ | ⟨D5, N3, i8, p8, e8, k8, v8, o8, u1', u2', u3', u4'⟩
  · obtain ⟨M4, x1, x2, x3⟩ := fl_fail (q := N) (x2 := 1 + 1) u3' hg10 h10 hT (by decide) (K := fun r3 S2 => B_Model_text_26 n (N + 1) 1 (nI (1 + 1)) S2)
    refine Or.inl ⟨D4, M4, f, ?_, u2', by omega, x1, l10.tr x2, x3⟩
    rw [f_expect u2' (by omega), pu_cv, f_expect u2' (by omega), pu_cv]
  · obtain ⟨M4, x1, x2, x3⟩ := fl_fail (q := N) (x2 := 1 + 1) u4' hg10 h10 hT (by decide) (K := fun r3 S2 => B_Model_text_26 n (N + 1) 1 (nI (1 + 1)) S2)
    refine Or.inl ⟨D5, M4, f, ?_, u3', by omega, x1, l10.tr x2, x3⟩
    rw [u2', pu_cv, f_expect u3' (by omega), pu_cv]
  -- the end
  have eR2 : F_Model_eRead n N9 = some (1, N3) := by rw [e_eRead]; exact u2'
  have cR2 : dk_fr [14, 40, 41, 42, 43, 45, 46, 47, 48] N9 N3 := fr_Model_eRead eR2
  obtain ⟨M6, w1, w2, w3, w4, -⟩ := e_next u3' u4'
  have cN := fr_Model_next w1
  obtain ⟨⟨_, _, _, hs8, ho8, _⟩, ⟨p7', p8', p9', p10', p11', p12', p13'⟩, ⟨p14', p15', p16'⟩, ⟨p17', p18', p19', p20', p21'⟩⟩ := u3'
  have p15'' : D5 107 0 = nI o8 := p15'
  have l6 : low T N9 M6 := ⟨fun x hx => by rw [cN 14 (by decide), p19' x hx, hg10 x hx], fun x hx => by rw [cN 15 (by decide), cR2 15 (by decide)], by rw [cN 16 (by decide), cR2 16 (by decide)]⟩
  have l66 := l10.tr l6
  have h66 : M6 16 0 = nI T := by rw [l66.2.2]; exact h16
  have hmend : B_Model_text_26 n (N + 1) 1 (nI (1 + 1)) N3 = if ¬ (M6 42 0) = 0 then (B_Model_text_122 n 0 M6) else (B_Model_text_122 n 1 M6) := by
    show B_Model_text_26b n (fun x1 x2 S => B_Model_text_26 n N x1 x2 S) 1 (nI (1 + 1)) N3 = _
    unfold B_Model_text_26b B_Model_text_101 B_Model_text_121
    rw [if_pos (show (2 : Int32) ≤ nI (1 + 1) by decide), if_neg (show ¬ (1 : Int32) = 0 by decide), w1, pu_cv]
  obtain ⟨o1, o2, o3, o4, o5'⟩ := la_ord u4'
  rw [u1', pu_cv, eR2, pu_c, if_neg (show ¬ (1 : Int32) = 0 by decide), hmend, w4]
  unfold F_Reader_expect B_Reader_expect_0
  rw [show F_Reader_sees n T 0 D5 = some (b2 (k8 = 0), D5) from e_sees p14' (la_c u4') (la_k u4') (by decide), pu_c]
  by_cases hk0 : k8 = 0
  · right
    obtain ⟨D6, p6, e6, k6', v6, x1, x2, x3⟩ := e_scan u4' hn
    have cD4 : dk_fr [14, 106, 107, 109, 110, 111, 112, 113] D3 D4 := fr_Reader_readEither v1
    have cD5 : dk_fr [106, 109, 110, 111, 112] D4 D5 := fr_Reader_expect u1'
    have h108 : D6 108 0 = nI o5 := by
      rw [x3 108 (by decide), cD5 108 (by decide), cD4 108 (by decide), r3' 108 (by decide), pu_Us]
      exact q15'
    have m15 : M6 15 = N9 15 := by rw [cN 15 (by decide), cR2 15 (by decide)]
    have m14 : M6 14 = N3 14 := cN 14 (by decide)
    rw [pu_et hk0, x1, pu_cv, pu_cv, if_neg (show ¬ ¬ mtk k8 = 0 from fun q => q ((mtk_0 (la_k u4')).mpr hk0))]
    have hs8' : o8 + 0 + 0 ≤ i8 := hs8
    have hfin : B_Model_text_122 n 1 M6 = some (nI T, dk_U (dk_U (dk_U M6 15 (4 * T + 2) (M6 48 0)) 13 0 0) 16 0 (nI (T + 1))) := by
      unfold B_Model_text_122
      rw [w_15 (x := 2) (a := 2) h66 hT (by decide) rfl, pu_p, if_pos (show ¬ (1 : Int32) = 0 by decide), pu_p, dk_U_n (show 16 ≠ 13 by decide), dk_U_n (show 16 ≠ 15 by decide), h66, nI_1, pu_Us, nI_pred]
    have e15 : ∀ y, (dk_U (dk_U (dk_U M6 15 (4 * T + 2) (M6 48 0)) 13 0 0) 16 0 (nI (T + 1))) 15 y = upd (M6 15) (4 * T + 2) (M6 48 0) y := fun y => by rw [dk_U_n (by decide), dk_U_n (by decide), dk_U_s]
    have e14 : ∀ y, (dk_U (dk_U (dk_U M6 15 (4 * T + 2) (M6 48 0)) 13 0 0) 16 0 (nI (T + 1))) 14 y = M6 14 y := fun y => by rw [dk_U_n (by decide), dk_U_n (by decide), dk_U_n (by decide)]
    have m48' : M6 48 0 = nI o8 := by rw [cN 48 (by decide)]; exact p13'
    have x14 : D6 14 = D5 14 := x3 14 (by decide)
    refine ⟨D6, _, o5, o8, rfl, by rw [x3 106 (by decide)]; exact p14', h108, by rw [x3 107 (by decide)]; exact p15'', ho8, by omega, hfin, fun x hx => by rw [e14]; exact l66.1 x hx, fun x hx => by rw [e15, upd_n2 (by omega)]; exact l66.2.1 x hx, by rw [dk_U_n (by decide), pu_Us], pu_Us, ?_, ?_, ?_, fun j hj => ?_, fun j hj => ?_, ?_, ?_⟩
    · rw [e15, upd_n2 (by omega), m15, t7 (4 * T) (by omega), cR 15 (by decide)]
      have : M9 15 (4 * T + 0) = nI 0 := by rw [f6, m48]
      exact this
    · rw [e15, upd_n2 (by omega), m15, t6, q13]
    · rw [e15, upd_s2, m48']
    · rw [x14, e14, m14]
      exact p17' j (by omega)
    · rw [x14, e14, m14]
      exact p17' (o5 + j) (by omega)
    · rw [x14]
      have h1 : dpth (fun j => C5 14 (0 + j)) (o5 + 0 - 0) = some 1 := q21
      rw [show o5 + 0 - 0 = o5 by omega] at h1
      rw [← h1]
      refine dp_cg o5 (fun j hj => ?_)
      rw [p20' j hj, ccD 14 (by decide), Nat.zero_add]
    · rw [x14]
      have h1 : dpth (fun j => D5 14 (o5 + j)) (o8 + 0 - o5) = some 1 := p21'
      exact h1
  · left
    obtain ⟨D6, x1, x2⟩ := e_fail (n := n) (T := T) p14' (la_b u4')
    obtain ⟨M7, y1', y2', y3'⟩ := x_122 (n := n) h66 hT
    rw [pu_ef hk0, x1, pu_cv, pu_cv, if_pos (show ¬ mtk k8 = 0 from fun q => hk0 ((mtk_0 (la_k u4')).mp q))]
    exact ⟨D6, M7, p8, rfl, x2, by omega, by rw [y1', w3], l66.tr y2', y3'⟩
end T2
