section S4
variable {n T G B m r z j : Nat} {C M : dk_S}
theorem i_40 (j i : Nat) : (40 : Int32) * nI j + nI i = nI (40 * j + i) := by
  show nI 40 * nI j + nI i = _
  rw [pk_mul, nI_add]
theorem pu_sh {β : Type} {K : Nat → Option β} (h : j < 4) : dk_sh (nI j) K = K j := by
  unfold dk_sh
  rw [if_neg (nI_in h (by decide)), nI_clamp (by omega)]
theorem e_isSheet (x : Int32) : F_Hare_isSheet n T x C = some (b2 (0 ≤ x.toInt ∧ x.toInt ≤ 3), C) := by
  unfold F_Hare_isSheet B_Hare_isSheet_0
  have := e_below (C := C) (x := x) (g := 4) (G := 4) (by decide)
  rw [this]
  congr 3
  exact propext (by omega)
theorem e_in3 (x : Int32) : F_Model_in n x 0 3 M = some (b2 (0 ≤ x.toInt ∧ x.toInt ≤ 3), M) := e_in x _ _
theorem pS_put {i : Nat} {v : Int32} (h : pS C M) (hj : j < 4) (hi : i < 40) : pS (dk_U C (36 + 2 * j) i v) (dk_U M 39 (40 * j + i) v) := by
  intro a ha
  obtain ⟨sz, h1, h2, h3, h4, h5, h6⟩ := h a ha
  refine ⟨sz, h1, ?_, ?_, ?_, ?_, fun b hb => ?_⟩
  · rw [dk_U_n (by omega), dk_U_n (by decide)]; exact h2
  · rw [dk_U_n (by decide)]; exact h3
  · rw [dk_U_n (by omega)]; exact h4
  · rw [dk_U_n (by decide)]; exact h5
  · by_cases e : a = j
    · subst e
      by_cases e2 : b = i
      · subst e2; rw [pu_Us, pu_Us]
      · rw [pu_Uj e2, pu_Uj (by omega)]; exact h6 b hb
    · rw [dk_U_n (by omega), pu_Uj (by omega)]; exact h6 b hb
theorem e_fill (v : Int32) (hj : j < 4) : ∀ (d i q : Nat) (C : dk_S), i + d = 40 → d < q → ∃ C2, B_Arrays_fill_5 n T q j v (nI i) (nI 40) C = some C2 ∧ dk_fr [36 + 2 * j] C C2 ∧ (∀ a, a < i → C2 (36 + 2 * j) a = C (36 + 2 * j) a) ∧ ∀ a, i ≤ a → a < 40 → C2 (36 + 2 * j) a = v
  | d, i, 0, _, _, hq => absurd hq (Nat.not_lt_zero _)
  | 0, i, q + 1, C, hi, hq => by
    unfold B_Arrays_fill_5 B_Arrays_fill_5b
    rw [if_pos (nI_le (by omega) (by omega))]
    exact ⟨C, rfl, dk_fr.rf, fun _ _ => rfl, fun a h1 h2 => by omega⟩
  | d + 1, i, q + 1, C, hi, hq => by
    unfold B_Arrays_fill_5 B_Arrays_fill_5b
    rw [if_neg (nI_ge (by omega) (by omega)), pu_w (by omega) (by decide), nI_1]
    obtain ⟨C2, h1, h2, h3, h4⟩ := e_fill v hj d (i + 1) q (dk_U C (36 + 2 * j) i v) (by omega) (by omega)
    refine ⟨C2, h1, (fr_U (by simp)).tr h2, fun a ha => ?_, fun a h5 h6 => ?_⟩
    · rw [h3 a (by omega), pu_Uj (by omega)]
    · by_cases e : a = i
      · subst e; rw [h3 a (by omega), pu_Us]
      · exact h4 a (by omega) h6
theorem e_zero (hj : j < 4) : ∀ (d i q : Nat) (M : dk_S), i + d = 40 → d < q → ∃ M2, B_Model_sheet_70 n q (nI j) (nI i) M = some (1, M2) ∧ dk_fr [39] M M2 ∧ (∀ p, (p < 40 * j + i ∨ 40 * j + 40 ≤ p) → M2 39 p = M 39 p) ∧ ∀ a, i ≤ a → a < 40 → M2 39 (40 * j + a) = 0
  | d, i, 0, _, _, hq => absurd hq (Nat.not_lt_zero _)
  | 0, i, q + 1, M, hi, hq => by
    unfold B_Model_sheet_70 B_Model_sheet_70b
    rw [if_pos (show (40 : Int32) ≤ nI i from nI_le (a := 40) (by omega) (by omega))]
    exact ⟨M, rfl, dk_fr.rf, fun _ _ => rfl, fun a h1 h2 => by omega⟩
  | d + 1, i, q + 1, M, hi, hq => by
    unfold B_Model_sheet_70 B_Model_sheet_70b
    rw [if_neg (show ¬ (40 : Int32) ≤ nI i from nI_ge (b := 40) (by omega) (by omega)), i_40, pu_w (by omega) (by decide), nI_1]
    obtain ⟨M2, h1, h2, h3, h4⟩ := e_zero hj d (i + 1) q (dk_U M 39 (40 * j + i) 0) (by omega) (by omega)
    refine ⟨M2, h1, (fr_U (by simp)).tr h2, fun p hp => ?_, fun a h5 h6 => ?_⟩
    · rw [h3 p (by omega), pu_Uj (by omega)]
    · by_cases e : a = i
      · subst e; rw [h3 _ (by omega), pu_Us]
      · exact h4 a (by omega) h6
theorem s_sheetSet (h : pInv T G B m r z C M) (hn : 400 ≤ n) (hj : j < 4) {so : Int32} {sz : Nat} (hso : so = -1 ∨ so = 0 ∨ so = 1 ∨ so = 2) (hsz : sz ≤ 40) : ∃ C2, F_Sheet_become n T j so (nI sz) C = some C2 ∧ Sim T (some (1, C2)) (dk_w M 37 4 (nI j) so fun S3 => B_Model_sheet_66 n (nI j) (nI j) (nI sz) S3) := by
  obtain ⟨hG, hB, hM, hT, hU, hN, hZ, hI, hS⟩ := id h
  unfold F_Sheet_become B_Sheet_become_0 F_Arrays_fill B_Arrays_fill_0 B_Model_sheet_66
  rw [pu_p, pu_p, pu_w hj (by decide), pu_w hj (by decide)]
  obtain ⟨C2, c1, c2, c3, c4⟩ := e_fill (n := n) (T := T) 0 hj 40 0 n (dk_U (dk_U C (160 + j) 0 so) (170 + j) 0 (nI sz)) (by omega) (by omega)
  obtain ⟨M2, d1, d2, d3, d4⟩ := e_zero (n := n) hj 40 0 n (dk_U (dk_U M 37 j so) 38 j (nI sz)) (by omega) (by omega)
  rw [show (0 : Int32) = nI 0 from rfl] at *
  rw [c1]
  refine ⟨C2, rfl, ?_⟩
  rw [d1]
  have c : dk_fr [160, 161, 162, 163, 170, 171, 172, 173, 36, 38, 40, 42] C C2 := ((fr_U (by simp only [List.mem_cons, List.not_mem_nil, or_false]; omega)).tr (fr_U (by simp only [List.mem_cons, List.not_mem_nil, or_false]; omega))).tr (c2.up (by intro k hk; simp only [List.mem_cons, List.not_mem_nil, or_false] at hk ⊢; omega))
  have d : dk_fr [37, 38, 39] M M2 := ((fr_U (by decide)).tr (fr_U (by decide))).tr (d2.up (by decide))
  refine Sim.mk (G := G) (B := B) (m := m) (r := r) (z := z) ⟨hG.cg c d (by decide) (by decide), hB.cg c d (by decide) (by decide), hM.cg c d (by decide) (by decide), hT.cg c d (by decide) (by decide), hU.cg c d (by decide) (by decide), hN.cg c d (by decide) (by decide), hZ.cg c d (by decide) (by decide), hI.cg c d (by decide) (by decide), fun a ha => ?_⟩
  have q : ∀ k, k ≠ 36 + 2 * j → C2 k = dk_U (dk_U C (160 + j) 0 so) (170 + j) 0 (nI sz) k := fun k hk => c2 k (by simpa using hk)
  have q7 : M2 37 = upd (M 37) j so := by rw [d2 37 (by decide), dk_U_n (by decide), dk_U_s]
  have q8 : M2 38 = upd (M 38) j (nI sz) := by rw [d2 38 (by decide), dk_U_s, dk_U_n (by decide)]
  by_cases e : a = j
  · subst e
    refine ⟨sz, hsz, ?_, ?_, ?_, ?_, fun i hi => ?_⟩
    · rw [q _ (by omega), dk_U_n (by omega), pu_Us, q7, upd_s2]
    · rw [q7, upd_s2]; exact hso
    · rw [q _ (by omega), pu_Us]
    · rw [q8, upd_s2]
    · rw [c4 i (by omega) hi, d4 i (by omega) hi]
  · obtain ⟨sz2, a1, a2, a3, a4, a5, a6⟩ := hS a ha
    refine ⟨sz2, a1, ?_, ?_, ?_, ?_, fun i hi => ?_⟩
    · rw [q _ (by omega), dk_U_n (by omega), dk_U_n (by omega), q7, upd_n2 e]; exact a2
    · rw [q7, upd_n2 e]; exact a3
    · rw [q _ (by omega), dk_U_n (by omega), dk_U_n (by omega)]; exact a4
    · rw [q8, upd_n2 e]; exact a5
    · rw [q _ (by omega), dk_U_n (by omega), dk_U_n (by omega), d3 _ (by omega), dk_U_n (by decide), dk_U_n (by decide)]
      exact a6 i hi
theorem s_sheet (h : Inv T C M) (hn : 400 ≤ n) (x y w : Int32) : Sim T (F_Hare_sheet n T x y w C) (F_Model_sheet n x y w M) := by
  obtain ⟨G, B, m, r, z, hp⟩ := h
  unfold F_Hare_sheet B_Hare_sheet_0 F_Model_sheet B_Model_sheet_0
  rw [e_isSheet, e_in3, pu_c, pu_c]
  by_cases hx : 0 ≤ x.toInt ∧ x.toInt ≤ 3
  · rw [pu_et hx, pu_et hx, e_in, pu_c]
    obtain ⟨j, hj, rfl⟩ := i_ix (x := x) (k := 4) ⟨by omega, by omega⟩ (by decide)
    have tm : (-1 : Int32).toInt = -1 := by decide
    have t2 : (2 : Int32).toInt = 2 := by decide
    have t3 : (3 : Int32).toInt = 3 := by decide
    have t40 : (40 : Int32).toInt = 40 := by decide
    simp only [Int32.lt_iff_toInt_lt, Int32.le_iff_toInt_le, tm, t2, t3, t40, Int32.toInt_zero]
    by_cases h1 : y.toInt < -1
    · rw [if_pos h1, pu_ef (by omega)]; exact Sim.mk hp
    rw [if_neg h1]
    by_cases h2 : y.toInt < 3
    · rw [if_pos h2, pu_et (by omega)]
      unfold B_Model_sheet_32 B_Model_sheet_44
      by_cases h3 : y = -1
      · rw [if_neg (by simp [h3]), if_pos h3, if_pos h3, pu_sh hj]
        obtain ⟨C2, c1, c2⟩ := s_sheetSet (n := n) (j := j) hp hn hj (so := y) (sz := 0) (Or.inl h3) (by omega)
        have e0 : F_Sheet_become n T j y 0 C = some C2 := c1
        rw [e0, pu_cv]
        have e1 : (fun S3 => if ¬ y = (-1 : Int32) then B_Model_sheet_66 n (nI j) (nI j) w S3 else B_Model_sheet_66 n (nI j) (nI j) 0 S3) = (fun S3 => B_Model_sheet_66 n (nI j) (nI j) (nI 0) S3) := by
          funext S3
          rw [if_neg (by simp [h3])]; rfl
        rw [e1]
        exact c2
      · rw [if_pos h3, if_neg h3]
        by_cases h4 : w.toInt ≤ 40
        · rw [if_pos h4, if_pos h4, if_neg h3]
          simp only [Int32.le_iff_toInt_le, Int32.toInt_zero]
          by_cases h5 : 0 ≤ w.toInt
          · rw [if_pos h5, if_pos h5, pu_sh hj]
            obtain ⟨sz, hsz, rfl⟩ := i_ix (x := w) (k := 41) ⟨by omega, by omega⟩ (by decide)
            have q1 : ¬ y.toInt = -1 := fun q => h3 (Int32.toInt_inj.mp (by rw [q]; decide))
            have hy : y = -1 ∨ y = 0 ∨ y = 1 ∨ y = 2 := by
              rcases (show y.toInt = 0 ∨ y.toInt = 1 ∨ y.toInt = 2 by omega) with q | q | q
              · exact Or.inr (Or.inl (Int32.toInt_inj.mp (by rw [q]; decide)))
              · exact Or.inr (Or.inr (Or.inl (Int32.toInt_inj.mp (by rw [q]; decide))))
              · exact Or.inr (Or.inr (Or.inr (Int32.toInt_inj.mp (by rw [q]; decide))))
            obtain ⟨C2, c1, c2⟩ := s_sheetSet (n := n) (j := j) hp hn hj (so := y) (sz := sz) hy (by omega)
            rw [c1, pu_cv]
            have e1 : (fun S3 => if ¬ y = (-1 : Int32) then B_Model_sheet_66 n (nI j) (nI j) (nI sz) S3 else B_Model_sheet_66 n (nI j) (nI j) 0 S3) = (fun S3 => B_Model_sheet_66 n (nI j) (nI j) (nI sz) S3) := by
              funext S3
              rw [if_pos h3]
            rw [e1]
            exact c2
          · rw [if_neg h5, if_neg h5]; exact Sim.mk hp
        · rw [if_neg h4, if_neg h4]; exact Sim.mk hp
    · rw [if_neg h2, pu_ef (by omega)]; exact Sim.mk hp
  · rw [pu_ef hx, pu_ef hx]; exact Sim.mk hp
theorem e_missing (hj : j < 4) : F_Sheet_isMissing n T j C = some (b2 (C (160 + j) 0 = -1), C) := by
  unfold F_Sheet_isMissing B_Sheet_isMissing_0
  by_cases h : C (160 + j) 0 = -1
  · rw [if_neg (by simp [h]), b2_t h]; rfl
  · rw [if_pos h, b2_f h]; rfl
theorem e_shas {x : Int32} {sz : Nat} (h : C (170 + j) 0 = nI sz) (hs : sz ≤ 40) : F_Sheet_has n T j x C = some (b2 (0 ≤ x.toInt ∧ x.toInt < (sz : Int)), C) := by
  unfold F_Sheet_has B_Sheet_has_0
  exact e_below (by rw [h]; exact nI_toInt (by omega))
theorem s_cell (h : Inv T C M) (x y w : Int32) : Sim T (F_Hare_cell n T x y w C) (F_Model_cell n x y w M) := by
  obtain ⟨G, B, m, r, z, hp⟩ := h
  obtain ⟨hG, hB, hM, hT, hU, hN, hZ, hI, hS⟩ := id hp
  unfold F_Hare_cell B_Hare_cell_0 F_Model_cell B_Model_cell_0
  rw [e_isSheet, e_in3, pu_c, pu_c]
  by_cases hx : 0 ≤ x.toInt ∧ x.toInt ≤ 3
  · rw [pu_t hx, pu_t hx]
    obtain ⟨j, hj, rfl⟩ := i_ix (x := x) (k := 4) ⟨by omega, by omega⟩ (by decide)
    obtain ⟨sz, a1, a2, a3, a4, a5, a6⟩ := hS j hj
    rw [pu_sh hj, e_missing hj, pu_c, pu_r hj (by decide), a2]
    have put : ∀ v : Int32, ∀ k : Nat, k < 40 → Sim T (some (1, dk_U C (36 + 2 * j) k v)) (some (1, dk_U M 39 (40 * j + k) v)) := by
      intro v k hk
      have c : dk_fr [36, 38, 40, 42] C (dk_U C (36 + 2 * j) k v) := fr_U (by simp only [List.mem_cons, List.not_mem_nil, or_false]; omega)
      have d : dk_fr [39] M (dk_U M 39 (40 * j + k) v) := fr_U (by decide)
      exact Sim.mk (G := G) (B := B) (m := m) (r := r) (z := z) ⟨hG.cg c d (by decide) (by decide), hB.cg c d (by decide) (by decide), hM.cg c d (by decide) (by decide), hT.cg c d (by decide) (by decide), hU.cg c d (by decide) (by decide), hN.cg c d (by decide) (by decide), hZ.cg c d (by decide) (by decide), hI.cg c d (by decide) (by decide), pS_put hS hj hk⟩
    by_cases h1 : M 37 j = -1
    · rw [b2_t h1, if_neg (by decide), if_neg (by simp [h1])]; exact Sim.mk hp
    rw [b2_f h1, if_pos rfl, if_pos h1, e_shas a4 a1, pu_c, pu_r hj (by decide), a5, e_in, pu_c, nI_s1 (by omega), Int32.toInt_zero]
    by_cases h2 : 0 ≤ y.toInt ∧ y.toInt < (sz : Int)
    · rw [pu_t h2, pu_t (by omega), pu_r hj (by decide)]
      obtain ⟨k, hk, rfl⟩ := i_ix h2 (by omega)
      unfold F_Sheet_put B_Sheet_put_0 B_Model_cell_84
      rw [a2, i_40]
      by_cases h3 : M 37 j = 0
      · rw [if_pos h3, if_neg (by simp [h3]), pu_w (by omega) (by decide), pu_w (by omega) (by decide), pu_cv]
        exact put _ k (by omega)
      · rw [if_neg h3, if_pos h3, pu_r hj (by decide)]
        by_cases h4 : M 37 j = 1
        · rw [if_pos h4, if_neg (by simp [h4]), pu_w (by omega) (by decide), pu_w (by omega) (by decide), pu_cv]
          exact put _ k (by omega)
        · rw [if_neg h4, if_pos h4, pu_w (by omega) (by decide), pu_w (by omega) (by decide), pu_cv]
          exact put _ k (by omega)
    · rw [pu_f h2, pu_f (by omega)]; exact Sim.mk hp
  · rw [pu_f hx, pu_f hx]; exact Sim.mk hp
end S4
