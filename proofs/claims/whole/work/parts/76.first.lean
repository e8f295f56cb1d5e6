/-! PURE: text() on both sides; the first numbers -/
theorem dpth_cg {f g : Nat → Int32} : ∀ k, (∀ i, i < k → f i = g i) → dpth f k = dpth g k
  | 0, _ => rfl
  | k + 1, h => by
    unfold dpth
    rw [dpth_cg k (fun i hi => h i (by omega)), h k (by omega)]
def SimT (fc : Option (Int32 × Nat × dk_S)) (fm : Option (Int32 × dk_S)) : Prop := ∃ (r : Int32) (T2 : Nat) (C2 M2 : dk_S), fc = some (r, T2, C2) ∧ fm = some (r, M2) ∧ Inv T2 C2 M2
theorem iT.low {T t : Nat} {C C2 M M2 : dk_S} (h : iT t C M) (ht : t < T) (hc : ∀ k, 1000 ≤ k → k < 1000 + 4 * T → C2 k = C k) (h14 : ∀ x, x < 200 * T → M2 14 x = M 14 x) (h15 : ∀ x, x < 4 * T → M2 15 x = M 15 x) : iT t C2 M2 := by
  obtain ⟨s1, s2, a1, a2, a3, a4, a5, a6, a7, a8, a9, a10, a11⟩ := h
  refine ⟨s1, s2, a1, a2, ?_, ?_, ?_, ?_, ?_, ?_, ?_, ?_, ?_⟩
  · rw [h15 _ (by omega)]; exact a3
  · rw [h15 _ (by omega)]; exact a4
  · rw [h15 _ (by omega)]; exact a5
  · rw [hc _ (by omega) (by omega)]; exact a6
  · rw [hc _ (by omega) (by omega)]; exact a7
  · intro i hi
    rw [hc _ (by omega) (by omega), h14 _ (by omega)]; exact a8 i hi
  · intro i hi
    rw [hc _ (by omega) (by omega), h14 _ (by omega)]; exact a9 i hi
  · rw [hc _ (by omega) (by omega)]; exact a10
  · rw [hc _ (by omega) (by omega)]; exact a11
theorem s_text {n T : Nat} {C M : dk_S} (h : Inv T C M) (hn : 400 ≤ n) : SimT (H_text n T C) (F_Model_text n M) := by
  obtain ⟨G, B, m, r, z, h1, h2, h3, h4, h5, h6, h7, h8, h9⟩ := id h
  obtain ⟨n1, n2, n3, n4⟩ := id h6
  by_cases hT : T = 6
  · subst hT
    refine ⟨-4, 6, C, M, ?_, ?_, h⟩
    · unfold H_text
      rw [n2, if_neg (by decide)]
    · unfold F_Model_text B_Model_text_0
      rw [n3, if_neg (by decide)]
  have hT6 : T < 6 := by have := h4.1; omega
  obtain ⟨z1, z2, z3, z4⟩ := id h7
  have hv : ∀ i, i < z → (M 12 i).toNatClampNeg < 256 ∧ M 12 i = nI (M 12 i).toNatClampNeg ∧ C 13 i = (nI (M 12 i).toNatClampNeg).toInt8.toInt32 := by
    intro i hi
    obtain ⟨v, b1, b2, b3⟩ := z4 i hi
    have e : (M 12 i).toNatClampNeg = v := by rw [b2, nI_clamp (by omega)]
    rw [e]
    exact ⟨b1, b2, b3⟩
  have hlt : C 100 0 < 6 := by rw [n2]; exact nI_lt (b := 6) hT6 (by decide)
  rcases e_text (n := n) (T := T) (z := z) (t := fun i => (M 12 i).toNatClampNeg) (C := C) (M := M) ⟨z2, fun i hi => (hv i hi).2.2⟩ ⟨z3, fun i hi => (hv i hi).2.1⟩ ⟨z1, fun i hi => (hv i hi).1⟩ n3 hT6 hn with ⟨C2, M2, f, e1, k1, k2, e2, l, k3⟩ | ⟨C2, M2, s1, s2, e1, k1, k2, k3, k4, k5, e2, l14, l15, k6, k7, k8, k9, k10, k11, k12, k13, k14⟩
  · have c0 := fr_Reader_readText e1
    have d := fr_Model_text e2
    have c : dk_fr [14, 105, 106, 107, 108, 109, 110, 111, 112, 113] C (dk_U C2 105 0 0) := (c0.up (by decide)).tr (fr_U (by decide))
    refine ⟨-100 - nI f, T, dk_U C2 105 0 0, M2, ?_, e2, G, B, m, r, 0, h1.cg c d (by decide) (by decide), h2.cg c d (by decide) (by decide), h3.cg c d (by decide) (by decide), ⟨h4.1, fun t ht => (h4.2 t ht).low ht (fun k hk _ => c k (fun q => by simp only [List.mem_cons, List.not_mem_nil, or_false] at q; omega)) l.1 l.2.1⟩, h5.cg c d (by decide) (by decide), ⟨n1, by rw [c 100 (by decide)]; exact n2, by rw [l.2.2]; exact n3, by rw [c 101 (by decide)]; exact n4⟩, ⟨Nat.zero_le _, pu_Us, k3, fun i hi => absurd hi (Nat.not_lt_zero _)⟩, h8.cg c d (by decide) (by decide), h9.cg c d (by decide) (by decide)⟩
    unfold H_text
    rw [if_pos hlt, e1, pu_cv, pu_p, dk_U_n (show 106 ≠ 105 by decide), k1, if_neg (nI_pos (by omega))]
  · have c0 := fr_Reader_readText e1
    have d := fr_Model_text e2
    have hs1 : 1 ≤ s1 := by
      rcases Nat.eq_zero_or_pos s1 with q | q
      · rw [q] at k13; cases k13
      · exact q
    have hs2 : s1 < s2 := by
      rcases Nat.eq_zero_or_pos (s2 - s1) with q | q
      · rw [q] at k14; cases k14
      · omega
    have c1 : dk_fr [14, 105, 106, 107, 108, 109, 110, 111, 112, 113] C (dk_U C2 105 0 0) := (c0.up (by decide)).tr (fr_U (by decide))
    have c : dk_fr [14, 100, 105, 106, 107, 108, 109, 110, 111, 112, 113, 1000 + 4 * T, 1001 + 4 * T, 1002 + 4 * T, 1003 + 4 * T] C (dk_U (dk_nS (dk_U C2 105 0 0) T s1 s2) 100 0 (nI T + 1)) := by
      intro k hk
      simp only [List.mem_cons, List.not_mem_nil, or_false, not_or] at hk
      obtain ⟨q1, q2, q3, q4, q5, q6, q7, q8, q9, q10, q11, q12, q13, q14, q15⟩ := hk
      rw [dk_U_n q2]
      unfold dk_nS
      rw [if_neg q12, if_neg q13, if_neg q14, if_neg q15]
      exact c1 k (by simp only [List.mem_cons, List.not_mem_nil, or_false, not_or]; exact ⟨q1, q3, q4, q5, q6, q7, q8, q9, q10, q11⟩)
    have hw : ∀ {L : List Nat}, (∀ k ∈ L, k < 1000 ∧ k ∉ [14, 100, 105, 106, 107, 108, 109, 110, 111, 112, 113]) → ∀ k ∈ L, k ∉ [14, 100, 105, 106, 107, 108, 109, 110, 111, 112, 113, 1000 + 4 * T, 1001 + 4 * T, 1002 + 4 * T, 1003 + 4 * T] := by
      intro L hL k hk
      obtain ⟨w1, w2⟩ := hL k hk
      simp only [List.mem_cons, List.not_mem_nil, or_false, not_or] at w2 ⊢
      obtain ⟨q1, q2, q3, q4, q5, q6, q7, q8, q9, q10, q11⟩ := w2
      exact ⟨q1, q2, q3, q4, q5, q6, q7, q8, q9, q10, q11, by omega, by omega, by omega, by omega⟩
    have u0 : dk_U (dk_nS (dk_U C2 105 0 0) T s1 s2) 100 0 (nI T + 1) (1000 + 4 * T + 2 * 0) = va_cpy (C2 14) (fun _ => 0) 0 0 s1 := by
      rw [dk_U_n (by omega)]; exact dk_nS_0
    have u1 : dk_U (dk_nS (dk_U C2 105 0 0) T s1 s2) 100 0 (nI T + 1) (1001 + 4 * T + 2 * 0) = fun _ => nI s1 := by
      rw [dk_U_n (by omega)]; exact dk_nS_1
    have u2 : dk_U (dk_nS (dk_U C2 105 0 0) T s1 s2) 100 0 (nI T + 1) (1000 + 4 * T + 2 * 1) = va_cpy (C2 14) (fun _ => 0) s1 0 (s2 - s1) := by
      rw [dk_U_n (by omega), show 1000 + 4 * T + 2 * 1 = 1002 + 4 * T by omega]; exact dk_nS_2
    have u3 : dk_U (dk_nS (dk_U C2 105 0 0) T s1 s2) 100 0 (nI T + 1) (1001 + 4 * T + 2 * 1) = fun _ => nI (s2 - s1) := by
      rw [dk_U_n (by omega), show 1001 + 4 * T + 2 * 1 = 1003 + 4 * T by omega]; exact dk_nS_3
    have v0 : ∀ i, i < s1 → va_cpy (C2 14) (fun _ => 0) 0 0 s1 i = C2 14 i := by
      intro i hi
      unfold va_cpy
      rw [if_pos (by omega)]
      congr 1
      omega
    have v2 : ∀ i, i < s2 - s1 → va_cpy (C2 14) (fun _ => 0) s1 0 (s2 - s1) i = C2 14 (s1 + i) := by
      intro i hi
      unfold va_cpy
      rw [if_pos (by omega)]
      congr 1
    have hnew : iT T (dk_U (dk_nS (dk_U C2 105 0 0) T s1 s2) 100 0 (nI T + 1)) M2 := by
      refine ⟨s1, s2, k4, k5, k8, k9, k10, by rw [u1], by rw [u3], ?_, ?_, ?_, ?_⟩
      · intro i hi
        rw [u0, v0 i hi]; exact k11 i hi
      · intro i hi
        rw [u2, v2 i hi]; exact k12 i hi
      · rw [u0, dpth_cg s1 v0]; exact k13
      · rw [u2, dpth_cg (s2 - s1) v2]; exact k14
    refine ⟨nI T, T + 1, dk_U (dk_nS (dk_U C2 105 0 0) T s1 s2) 100 0 (nI T + 1), M2, ?_, e2, G, B, m, r, 0, h1.cg c d (hw (by decide)) (by decide), h2.cg c d (hw (by decide)) (by decide), h3.cg c d (hw (by decide)) (by decide), ⟨by omega, fun t ht => ?_⟩, h5.cg c d (hw (L := [114]) (by decide) 114 (by decide)) (by decide), ⟨by omega, by rw [pu_Us, nI_1], k7, by rw [c 101 (hw (L := [101]) (by decide) 101 (by decide))]; exact n4⟩, ⟨Nat.zero_le _, ?_, k6, fun i hi => absurd hi (Nat.not_lt_zero _)⟩, (h8.cg c d (hw (by decide)) (by decide)).mono (by omega) (Nat.le_refl _), h9.cg c d (hw (by decide)) (by decide)⟩
    · unfold H_text
      have e108 : (dk_U C2 105 0 0) 108 0 = nI s1 := by rw [dk_U_n (by decide)]; exact k2
      have e107 : (dk_U C2 105 0 0) 107 0 = nI s2 := by rw [dk_U_n (by decide)]; exact k3
      have e114 : (dk_U C2 105 0 0) 114 0 = nI r := by rw [c1 114 (by decide)]; exact h5.1
      rw [if_pos hlt, e1, pu_cv, pu_p, dk_U_n (show 106 ≠ 105 by decide), k1, if_pos (by decide), e108, e107, e114, nI_clamp (show s1 < 2 ^ 31 by omega), nI_clamp (show s2 < 2 ^ 31 by omega), nI_clamp (show r < 2 ^ 31 by omega), if_pos ⟨by rw [c1 100 (by decide)]; exact n2, hT6, n1, rfl, rfl, hs1, hs2, k5⟩]
    · by_cases q : t = T
      · rw [q]; exact hnew
      · refine (h4.2 t (by omega)).low (show t < T by omega) (fun k hk1 hk2 => c k ?_) l14 l15
        intro w
        simp only [List.mem_cons, List.not_mem_nil, or_false] at w
        omega
    · rw [dk_U_n (by decide), dk_nS_lt (by omega)]; exact pu_Us
theorem i_first : Inv 1 hS0 mS0 := by
  refine ⟨0, 0, 0, 0, 0, ⟨by decide, rfl, rfl, fun i hi => absurd hi (Nat.not_lt_zero _)⟩, ⟨by decide, rfl, rfl, fun i hi => absurd hi (Nat.not_lt_zero _)⟩, ⟨by decide, rfl, rfl, fun i hi => absurd hi (Nat.not_lt_zero _), by decide⟩, ⟨by decide, ?_⟩, ⟨rfl, rfl⟩, ⟨by decide, rfl, rfl, rfl⟩, ⟨by decide, rfl, rfl, fun i hi => absurd hi (Nat.not_lt_zero _)⟩, Or.inl ⟨rfl, rfl⟩, ?_⟩
  · intro t ht
    have e : t = 0 := by omega
    subst e
    refine ⟨7, 8, by decide, by decide, rfl, rfl, rfl, rfl, rfl, ?_, ?_, by decide +kernel, by decide +kernel⟩
    · intro i hi
      rcases (show i = 0 ∨ i = 1 ∨ i = 2 ∨ i = 3 ∨ i = 4 ∨ i = 5 ∨ i = 6 by omega) with rfl | rfl | rfl | rfl | rfl | rfl | rfl
      · exact Or.inr (Or.inl ⟨2, by decide, rfl, rfl⟩)
      · exact Or.inl ⟨10, by decide, rfl, rfl⟩
      · exact Or.inr (Or.inr (Or.inr (Or.inr (Or.inr (Or.inr (Or.inr (Or.inr (Or.inr (Or.inr ⟨rfl, rfl⟩)))))))))
      · exact Or.inr (Or.inl ⟨3, by decide, rfl, rfl⟩)
      · exact Or.inl ⟨5, by decide, rfl, rfl⟩
      · exact Or.inr (Or.inr (Or.inr (Or.inr (Or.inr (Or.inr (Or.inr (Or.inr (Or.inr (Or.inr ⟨rfl, rfl⟩)))))))))
      · exact Or.inr (Or.inr (Or.inr (Or.inr (Or.inr (Or.inr (Or.inr (Or.inr (Or.inl ⟨rfl, rfl⟩))))))))
    · intro i hi
      have e : i = 0 := by omega
      subst e
      exact Or.inl ⟨1, by decide, rfl, rfl⟩
  · intro j hj
    refine ⟨0, by decide, ?_, Or.inl ?_, ?_, rfl, ?_⟩
    all_goals rcases (show j = 0 ∨ j = 1 ∨ j = 2 ∨ j = 3 by omega) with rfl | rfl | rfl | rfl
    all_goals first | rfl | (intro i hi; rfl)
