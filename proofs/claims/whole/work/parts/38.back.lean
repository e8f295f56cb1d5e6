theorem cnt_mono {f : Nat → Int32} {a : Nat} : ∀ b, a ≤ b → cnt f a ≤ cnt f b
  | 0, h => by rw [show a = 0 by omega]; exact Nat.le_refl _
  | b + 1, h => by
    by_cases e : a = b + 1
    · rw [e]; exact Nat.le_refl _
    · have := cnt_mono (f := f) (a := a) b (by omega)
      rw [cnt]; omega
section S7
variable {n T G B m r z : Nat} {C M : dk_S}
theorem bk1 {ig : Nat} (hg : ig ≤ 8) : ∀ (d i q : Nat) (M : dk_S), i + d = ig → d < q → M 32 0 = nI ig → ∃ M2, B_Model_back_20 n q (nI i) M = (if (M2 33 0) ≤ (M2 5 0) then (B_Model_back_69 n (M2 33 0) M2) else (B_Model_back_69 n (M2 5 0) M2)) ∧ dk_fr [1] M M2 ∧ (∀ p, (p < i ∨ ig ≤ p) → M2 1 p = M 1 p) ∧ ∀ p, i ≤ p → p < ig → M2 1 p = M 35 p
  | d, i, 0, _, _, hq, _ => absurd hq (Nat.not_lt_zero _)
  | 0, i, q + 1, M, hi, hq, hM => by
    unfold B_Model_back_20 B_Model_back_20b
    rw [hM, if_pos (nI_le (by omega) (by omega))]
    exact ⟨M, rfl, dk_fr.rf, fun _ _ => rfl, fun p h1 h2 => by omega⟩
  | d + 1, i, q + 1, M, hi, hq, hM => by
    unfold B_Model_back_20 B_Model_back_20b
    rw [hM, if_neg (nI_ge (by omega) (by omega)), pu_r (by omega) (by decide), pu_w (by omega) (by decide), nI_1]
    obtain ⟨M2, h1, h2, h3, h4⟩ := bk1 hg d (i + 1) q (dk_U M 1 i (M 35 i)) (by omega) (by omega) (by rw [dk_U_n (by decide)]; exact hM)
    refine ⟨M2, h1, (fr_U (by decide)).tr h2, fun p hp => ?_, fun p h5 h6 => ?_⟩
    · rw [h3 p (by omega), pu_Uj (by omega)]
    · by_cases e : p = i
      · subst e; rw [h3 p (by omega), pu_Us]
      · rw [h4 p (by omega) h6, dk_U_n (by decide)]
theorem bk2 {m2 : Nat} (hm : m2 ≤ 32) : ∀ (d i q : Nat) (M : dk_S), i + d = 32 → d < q → M 5 0 = nI m2 → ∃ M2, B_Model_back_74 n q (nI i) M = some (nI m2, M2) ∧ dk_fr [11] M M2 ∧ (∀ p, p < i → M2 11 p = M 11 p) ∧ ∀ p, i ≤ p → p < m2 → M2 11 p = M 36 p
  | d, i, 0, _, _, hq, _ => absurd hq (Nat.not_lt_zero _)
  | 0, i, q + 1, M, hi, hq, hM => by
    unfold B_Model_back_74 B_Model_back_74b
    rw [if_pos (show (32 : Int32) ≤ nI i from nI_le (a := 32) (by omega) (by omega)), hM]
    exact ⟨M, rfl, dk_fr.rf, fun _ _ => rfl, fun p h1 h2 => by omega⟩
  | d + 1, i, q + 1, M, hi, hq, hM => by
    unfold B_Model_back_74 B_Model_back_74b B_Model_back_103
    rw [if_neg (show ¬ (32 : Int32) ≤ nI i from nI_ge (b := 32) (by omega) (by decide)), hM, pu_r (by omega) (by decide), pu_w (by omega) (by decide), pu_w (by omega) (by decide), nI_1]
    have both : ∀ v : Int32, (i < m2 → v = M 36 i) → ∃ M2, B_Model_back_74 n q (nI (i + 1)) (dk_U M 11 i v) = some (nI m2, M2) ∧ dk_fr [11] M M2 ∧ (∀ p, p < i → M2 11 p = M 11 p) ∧ ∀ p, i ≤ p → p < m2 → M2 11 p = M 36 p := by
      intro v hv
      obtain ⟨M2, h1, h2, h3, h4⟩ := bk2 hm d (i + 1) q (dk_U M 11 i v) (by omega) (by omega) (by rw [dk_U_n (by decide)]; exact hM)
      refine ⟨M2, h1, (fr_U (by decide)).tr h2, fun p hp => ?_, fun p h5 h6 => ?_⟩
      · rw [h3 p (by omega), pu_Uj (by omega)]
      · by_cases e : p = i
        · subst e; rw [h3 p (by omega), pu_Us]; exact hv h6
        · rw [h4 p (by omega) h6, dk_U_n (by decide)]
    by_cases h : m2 ≤ i
    · rw [if_pos (nI_le h (by omega))]
      exact both 0 (fun q => by omega)
    · rw [if_neg (nI_ge (by omega) (by omega))]
      exact both _ (fun _ => rfl)
theorem s_back (h : Inv T C M) (hn : 400 ≤ n) : Sim T (F_Hare_back n T C) (F_Model_back n M) := by
  obtain ⟨G, B, m, r, z, hp⟩ := h
  obtain ⟨hG, hB, hM, hT, hU, hN, hZ, hI, hS⟩ := id hp
  obtain ⟨g1, g2, g3, g4⟩ := id hG
  obtain ⟨m1, m2, m3, m4, m5⟩ := id hM
  obtain ⟨n1, n2, n3, n4⟩ := id hN
  unfold F_Hare_back B_Hare_back_0 F_Image_restore B_Image_restore_0 F_Model_back B_Model_back_0
  rcases id hI with ⟨i1, i2⟩ | ⟨i1, i2, ig, im, ir, j1, j2, j3, j4, j5, j6, j7, j8, j9, j10, j11, j12⟩
  · rw [i1, i2, if_neg (by decide), if_neg (by decide)]; exact Sim.mk hp
  rw [i1, i2, if_pos (by decide), if_pos (by decide), j4, pu_p, j9]
  have e1 := pu_cp (S := C) (k0 := 33) (k1 := 2) (n0 := 8) (n1 := 8) (a := 0) (b := 0) (N := ig) (K := fun S1 => dk_p S1 104 (if (S1 124 0) < (S1 104 0) then (S1 124 0) else (S1 104 0)) fun S2 => dk_cp S2 34 11 32 32 (0 : Int32) (0 : Int32) (S2 104 0) fun S3 => some S3) (by omega) (by omega) (by decide) (by decide)
  have e1' : dk_cp C 33 2 8 8 0 0 (nI ig) (fun S1 => dk_p S1 104 (if (S1 124 0) < (S1 104 0) then (S1 124 0) else (S1 104 0)) fun S2 => dk_cp S2 34 11 32 32 (0 : Int32) (0 : Int32) (S2 104 0) fun S3 => some S3) = _ := e1
  rw [e1']
  generalize hC1 : dk_F C 2 (va_cpy (C 33) (C 2) 0 0 ig) = C1
  have c1 : dk_fr [2] C C1 := by rw [← hC1]; exact fr_F (by decide)
  generalize hM1 : dk_U M 17 0 (nI ir) = M1
  have d1 : dk_fr [17] M M1 := by rw [← hM1]; exact fr_U (by decide)
  obtain ⟨M2, a1, a2, a3, a4⟩ := bk1 (n := n) (ig := ig) (by omega) ig 0 n M1 (by omega) (by omega) (by rw [d1 32 (by decide)]; exact j5)
  have a1' : B_Model_back_20 n n 0 M1 = _ := a1
  rw [a1', c1 124 (by decide), c1 104 (by decide), j6, m2, a2 33 (by decide), a2 5 (by decide), d1 33 (by decide), d1 5 (by decide), j7, m3, pu_p]
  obtain ⟨k, hk1, hk2, hk3, hk4, hk5⟩ : ∃ k : Nat, k ≤ m ∧ k ≤ im ∧ k ≤ 32 ∧ (if nI im < nI m then nI im else nI m) = nI k ∧ (if nI im ≤ nI m then B_Model_back_69 n (nI im) M2 else B_Model_back_69 n (nI m) M2) = B_Model_back_69 n (nI k) M2 := by
    by_cases q : im < m
    · exact ⟨im, by omega, by omega, by omega, if_pos (nI_lt q (by omega)), if_pos (nI_le (by omega) (by omega))⟩
    · refine ⟨m, by omega, by omega, by omega, if_neg (nI_nlt (by omega) (by omega)), ?_⟩
      by_cases q2 : im = m
      · rw [q2, if_pos (nI_le (by omega) (by omega))]
      · rw [if_neg (nI_ge (by omega) (by omega))]
  rw [hk4, hk5]
  generalize hC2 : dk_U C1 104 0 (nI k) = C2
  have c2 : dk_fr [104] C1 C2 := by rw [← hC2]; exact fr_U (by decide)
  have e104 : C2 104 0 = nI k := by rw [← hC2]; exact pu_Us
  rw [e104]
  have e2 := pu_cp (S := C2) (k0 := 34) (k1 := 11) (n0 := 32) (n1 := 32) (a := 0) (b := 0) (N := k) (K := fun S3 => some S3) (by omega) (by omega) (by decide) (by decide)
  have e2' : dk_cp C2 34 11 32 32 0 0 (nI k) (fun S3 => some S3) = _ := e2
  rw [e2', pu_cv]
  generalize hC3 : dk_F C2 11 (va_cpy (C2 34) (C2 11) 0 0 k) = C3
  have c3 : dk_fr [11] C2 C3 := by rw [← hC3]; exact fr_F (by decide)
  rw [show C3 122 0 = nI ir by rw [c3 122 (by decide), c2 122 (by decide), c1 122 (by decide)]; exact j8, pu_p, pu_Us, e_use (by rw [dk_U_n (by decide), c3 100 (by decide), c2 100 (by decide), c1 100 (by decide)]; exact n2) hT.1 j3, pu_cv]
  unfold B_Model_back_69
  rw [pu_p]
  obtain ⟨M3, b1, b2, b3, b4⟩ := bk2 (n := n) (m2 := k) hk3 32 0 n (dk_U M2 5 0 (nI k)) (by omega) (by omega) pu_Us
  have b1' : B_Model_back_74 n n 0 (dk_U M2 5 0 (nI k)) = _ := b1
  rw [b1']
  generalize hC4 : dk_U (dk_U C3 101 0 (nI ir)) 114 0 (nI ir) = C4
  have c4 : dk_fr [101, 114] C3 C4 := by rw [← hC4]; exact (fr_U (by decide)).tr (fr_U (by decide))
  have c : dk_fr [2, 104, 11, 101, 114] C C4 := (((c1.up (by decide)).tr (c2.up (by decide))).tr (c3.up (by decide))).tr (c4.up (by decide))
  have d5 : dk_fr [5] M2 (dk_U M2 5 0 (nI k)) := fr_U (by decide)
  have d : dk_fr [17, 1, 5, 11] M M3 := (((d1.up (by decide)).tr (a2.up (by decide))).tr (d5.up (by decide))).tr (b2.up (by decide))
  have o104 : C4 104 0 = nI k := by rw [c4 104 (by decide), c3 104 (by decide)]; exact e104
  rw [o104]
  have o2 : ∀ i, C4 2 i = if i < ig then C 33 i else C 2 i := fun i => by
    rw [c4 2 (by decide), c3 2 (by decide), c2 2 (by decide), ← hC1, dk_F_s]
    unfold va_cpy
    by_cases q : i < ig
    · rw [if_pos (by omega), if_pos q]; congr 1; omega
    · rw [if_neg (by omega), if_neg q]
  have o1 : ∀ i, M3 1 i = if i < ig then M 35 i else M 1 i := fun i => by
    rw [b2 1 (by decide), d5 1 (by decide)]
    by_cases q : i < ig
    · rw [if_pos q, a4 i (by omega) q, d1 35 (by decide)]
    · rw [if_neg q, a3 i (by omega), d1 1 (by decide)]
  have o11 : ∀ i, i < k → C4 11 i = C 34 i := fun i hi => by
    rw [c4 11 (by decide), ← hC3, dk_F_s]
    unfold va_cpy
    rw [if_pos (by omega), c2 34 (by decide), c1 34 (by decide)]
    congr 1; omega
  have u11 : ∀ i, i < k → M3 11 i = M 36 i := fun i hi => by rw [b4 i (by omega) hi, d5 36 (by decide), a2 36 (by decide), d1 36 (by decide)]
  refine Sim.mk (G := G) (B := B) (m := k) (r := ir) (z := z) ⟨⟨g1, ?_, ?_, fun i hi => ?_⟩, hB.cg c d (by decide) (by decide), ⟨hk3, o104, ?_, fun i hi => ?_, ?_⟩, hT.cg c d (by decide) (by decide), ⟨?_, ?_⟩, ⟨j3, ?_, ?_, ?_⟩, hZ.cg c d (by decide) (by decide), hI.cg c d (by decide) (by decide), hS.cg c d (by decide) (by decide)⟩
  · rw [c 102 (by decide)]; exact g2
  · rw [d 0 (by decide)]; exact g3
  · rw [o2, o1]
    by_cases q : i < ig
    · rw [if_pos q, if_pos q]; exact j10 i q
    · rw [if_neg q, if_neg q]; exact g4 i hi
  · rw [b2 5 (by decide)]; exact pu_Us
  · obtain ⟨x1, x2, x3, x4, x5, x6, x7, x8⟩ := m4 i (by omega)
    unfold pm1
    rw [o11 i hi, u11 i hi, c 6 (by decide), c 7 (by decide), c 8 (by decide), c 9 (by decide), c 10 (by decide), d 6 (by decide), d 7 (by decide), d 8 (by decide), d 9 (by decide), d 10 (by decide)]
    exact ⟨x1, x2, x3, x4, x5, (j11 i (by omega)).1, (j11 i (by omega)).2, x8⟩
  · rw [cnt_cg k u11]
    have := cnt_mono (f := M 36) (a := k) im hk2
    omega
  · rw [← hC4]; exact pu_Us
  · rw [b2 17 (by decide), d5 17 (by decide), a2 17 (by decide), ← hM1]; exact pu_Us
  · rw [c 100 (by decide)]; exact n2
  · rw [d 16 (by decide)]; exact n3
  · rw [← hC4]; simp (decide := true) only [dk_U_n, pu_Us]
end S7
