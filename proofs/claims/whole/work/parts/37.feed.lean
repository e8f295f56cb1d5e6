section S6
variable {n T G B m r z : Nat} {C M : dk_S}
theorem sx_l32 (y : Int64) : y.toInt32.toBitVec.toNat = y.toBitVec.toNat % 2 ^ 32 := by
  show (BitVec.signExtend 32 y.toBitVec).toNat = _
  rw [BitVec.signExtend_eq_setWidth_of_le _ (by decide), BitVec.toNat_setWidth]
theorem sx_i8 (y : Int32) : y.toInt8.toBitVec.toNat = y.toBitVec.toNat % 2 ^ 8 := by
  show (BitVec.signExtend 8 y.toBitVec).toNat = _
  rw [BitVec.signExtend_eq_setWidth_of_le _ (by decide), BitVec.toNat_setWidth]
theorem i_byte (y : Int64) : ∃ v : Nat, v < 256 ∧ (y &&& 255).toInt32 = nI v ∧ (nI v).toInt8.toInt32 = y.toInt32.toInt8.toInt32 := by
  refine ⟨y.toBitVec.toNat % 256, Nat.mod_lt _ (by decide), ?_, ?_⟩
  · apply Int32.toBitVec_inj.mp
    apply BitVec.eq_of_toNat_eq
    have h1 : ((y &&& 255).toInt32).toBitVec.toNat = (y &&& 255).toBitVec.toNat % 2 ^ 32 := sx_l32 _
    have h2 : (y &&& 255).toBitVec.toNat = y.toBitVec.toNat &&& 255 := by
      show (y.toBitVec &&& (255 : Int64).toBitVec).toNat = _
      rw [BitVec.toNat_and]; rfl
    have h3 : y.toBitVec.toNat &&& 255 = y.toBitVec.toNat % 256 := Nat.and_two_pow_sub_one_eq_mod _ 8
    rw [h1, h2, h3, pk_tn (by omega)]
    omega
  · congr 1
    apply Int8.toBitVec_inj.mp
    apply BitVec.eq_of_toNat_eq
    rw [sx_i8, sx_i8, sx_l32, pk_tn (by omega)]
    omega
theorem feed_loop (w : Int64) {L : Nat} (hL : L ≤ 160) : ∀ (k q z : Nat) (C M : dk_S), k < q → z + k = L → pInv T G B m r z C M → Sim T (B_Reader_append_20 n T q w (nI k - 1) C) (B_Model_feed_33 n q w (nI k - 1) M)
  | k, 0, _, _, _, hq, _, _ => absurd hq (Nat.not_lt_zero _)
  | 0, q + 1, z, C, M, hq, hz, hp => by
    obtain ⟨hG, hB, hM, hT, hU, hN, hZ, hI, hS⟩ := id hp
    unfold B_Reader_append_20 B_Reader_append_20b B_Model_feed_33 B_Model_feed_33b
    rw [if_pos (show nI 0 - 1 < 0 by decide), if_pos (show nI 0 - 1 < 0 by decide), hZ.2.1, hZ.2.2.1]
    exact Sim.mk hp
  | k + 1, q + 1, z, C, M, hq, hz, hp => by
    obtain ⟨hG, hB, hM, hT, hU, hN, hZ, hI, hS⟩ := id hp
    obtain ⟨z1, z2, z3, z4⟩ := id hZ
    unfold B_Reader_append_20 B_Reader_append_20b B_Model_feed_33 B_Model_feed_33b
    have hz2 : z < 160 := by omega
    rw [nI_pred, if_neg (nI_pos (by omega)), if_neg (nI_pos (by omega)), z2, z3, pu_w hz2 (by decide), pu_w hz2 (by decide), pk_vb]
    simp (decide := true) only [dk_U_n, z2, z3, pu_p, nI_1]
    obtain ⟨v, v1, v2, v3⟩ := i_byte (w >>> (((8 : Int32) * nI k).toInt64 &&& 63))
    rw [v2, ← v3]
    have c : dk_fr [13, 105] C (dk_U (dk_U C 13 z (nI v).toInt8.toInt32) 105 0 (nI (z + 1))) := (fr_U (by decide)).tr (fr_U (by decide))
    have d : dk_fr [12, 13] M (dk_U (dk_U M 12 z (nI v)) 13 0 (nI (z + 1))) := (fr_U (by decide)).tr (fr_U (by decide))
    have e : nI k + (-1) = nI k - 1 := by rw [Int32.sub_eq_add_neg]
    rw [e]
    refine feed_loop w hL k q (z + 1) _ _ (by omega) (by omega) ⟨hG.cg c d (by decide) (by decide), hB.cg c d (by decide) (by decide), hM.cg c d (by decide) (by decide), hT.cg c d (by decide) (by decide), hU.cg c d (by decide) (by decide), hN.cg c d (by decide) (by decide), ⟨by omega, pu_Us, pu_Us, fun i hi => ?_⟩, hI.cg c d (by decide) (by decide), hS.cg c d (by decide) (by decide)⟩
    by_cases h : i = z
    · subst h
      exact ⟨v, v1, by simp (decide := true) only [dk_U_n, pu_Us], by simp (decide := true) only [dk_U_n, pu_Us]⟩
    · simp (decide := true) only [dk_U_n, pu_Uj h]
      exact z4 i (by omega)
theorem s_feed (h : Inv T C M) (hn : 400 ≤ n) (w : Int64) (x : Int32) : Sim T (F_Hare_feed n T w x C) (F_Model_feed n w x M) := by
  obtain ⟨G, B, m, r, z, hp⟩ := h
  have hZ := hp.2.2.2.2.2.2.1
  have z1 := hZ.1
  unfold F_Hare_feed B_Hare_feed_0 F_Reader_append B_Reader_append_0 F_Model_feed B_Model_feed_0
  have t1 : (1 : Int32).toInt = 1 := by decide
  have t8 : (8 : Int32).toInt = 8 := by decide
  rw [e_in, pu_c, t1, t8]
  simp only [Int32.lt_iff_toInt_lt, t1]
  by_cases h1 : x.toInt < 1
  · rw [if_pos h1, pu_f (by omega)]; exact Sim.mk hp
  rw [if_neg h1]
  by_cases h2 : x ≤ 8
  · have q2 := Int32.le_iff_toInt_le.mp h2
    rw [t8] at q2
    rw [if_pos h2, pu_t (by omega)]
    obtain ⟨k, hk, rfl⟩ := i_ix (x := x) (k := 9) ⟨by omega, by omega⟩ (by decide)
    rw [hZ.2.1, hZ.2.2.1, nI_add]
    by_cases h3 : nI (z + k) ≤ 160
    · have q3 : z + k ≤ 160 := by
        have := Int32.le_iff_toInt_le.mp h3
        rw [nI_toInt (by omega), show (160 : Int32).toInt = 160 by decide] at this
        omega
      rw [if_pos h3, if_pos h3]
      obtain ⟨rr, C2, M2, e1, e2, hI⟩ := feed_loop (n := n) w q3 k n z C M (by omega) rfl hp
      rw [e1, pu_c, e2]
      exact ⟨rr, C2, M2, rfl, rfl, hI⟩
    · rw [if_neg h3, if_neg h3]; exact Sim.mk hp
  · have q2 : ¬ x.toInt ≤ 8 := fun z => h2 (Int32.le_iff_toInt_le.mpr (by rw [t8]; exact z))
    rw [if_neg h2, pu_f (by omega)]; exact Sim.mk hp
/-- a row copied place by place -/
theorem img1 {K : dk_S → Option (Int32 × dk_S)} : ∀ (d i q : Nat) (M : dk_S), i + d = 8 → d < q → ∃ M2, B_Model_image_31 n q (nI i) M = B_Model_image_57 n n 0 M2 ∧ dk_fr [35] M M2 ∧ (∀ p, p < i → M2 35 p = M 35 p) ∧ ∀ p, i ≤ p → p < 8 → M2 35 p = M 1 p
  | d, i, 0, _, _, hq => absurd hq (Nat.not_lt_zero _)
  | 0, i, q + 1, M, hi, hq => by
    unfold B_Model_image_31 B_Model_image_31b
    rw [if_pos (show (8 : Int32) ≤ nI i from nI_le (a := 8) (by omega) (by omega))]
    exact ⟨M, rfl, dk_fr.rf, fun _ _ => rfl, fun p h1 h2 => by omega⟩
  | d + 1, i, q + 1, M, hi, hq => by
    unfold B_Model_image_31 B_Model_image_31b
    rw [if_neg (show ¬ (8 : Int32) ≤ nI i from nI_ge (b := 8) (by omega) (by decide)), pu_r (by omega) (by decide), pu_w (by omega) (by decide), nI_1]
    obtain ⟨M2, h1, h2, h3, h4⟩ := img1 (K := K) d (i + 1) q (dk_U M 35 i (M 1 i)) (by omega) (by omega)
    refine ⟨M2, h1, (fr_U (by decide)).tr h2, fun p hp => ?_, fun p h5 h6 => ?_⟩
    · rw [h3 p (by omega), pu_Uj (by omega)]
    · by_cases e : p = i
      · subst e; rw [h3 p (by omega), pu_Us]
      · rw [h4 p (by omega) h6, dk_U_n (by decide)]
theorem img2 : ∀ (d i q : Nat) (M : dk_S), i + d = 32 → d < q → ∃ M2, B_Model_image_57 n q (nI i) M = some (M 5 0, M2) ∧ dk_fr [36] M M2 ∧ (∀ p, p < i → M2 36 p = M 36 p) ∧ ∀ p, i ≤ p → p < 32 → M2 36 p = M 11 p
  | d, i, 0, _, _, hq => absurd hq (Nat.not_lt_zero _)
  | 0, i, q + 1, M, hi, hq => by
    unfold B_Model_image_57 B_Model_image_57b
    rw [if_pos (show (32 : Int32) ≤ nI i from nI_le (a := 32) (by omega) (by omega))]
    exact ⟨M, rfl, dk_fr.rf, fun _ _ => rfl, fun p h1 h2 => by omega⟩
  | d + 1, i, q + 1, M, hi, hq => by
    unfold B_Model_image_57 B_Model_image_57b
    rw [if_neg (show ¬ (32 : Int32) ≤ nI i from nI_ge (b := 32) (by omega) (by decide)), pu_r (by omega) (by decide), pu_w (by omega) (by decide), nI_1]
    obtain ⟨M2, h1, h2, h3, h4⟩ := img2 d (i + 1) q (dk_U M 36 i (M 11 i)) (by omega) (by omega)
    refine ⟨M2, by rw [dk_U_n (by decide)] at h1; exact h1, (fr_U (by decide)).tr h2, fun p hp => ?_, fun p h5 h6 => ?_⟩
    · rw [h3 p (by omega), pu_Uj (by omega)]
    · by_cases e : p = i
      · subst e; rw [h3 p (by omega), pu_Us]
      · rw [h4 p (by omega) h6, dk_U_n (by decide)]
theorem s_image (h : Inv T C M) (hn : 400 ≤ n) : Sim T (F_Hare_image n T C) (F_Model_image n M) := by
  obtain ⟨G, B, m, r, z, hp⟩ := h
  obtain ⟨hG, hB, hM, hT, hU, hN, hZ, hI, hS⟩ := id hp
  obtain ⟨g1, g2, g3, g4⟩ := id hG
  obtain ⟨m1, m2, m3, m4, m5⟩ := id hM
  obtain ⟨n1, n2, n3, n4⟩ := id hN
  unfold F_Hare_image B_Hare_image_0 F_Image_keep B_Image_keep_0 F_Model_image B_Model_image_0
  rw [pu_b1, pu_b1]
  simp (decide := true) only [pu_p, dk_U_n, pu_Us, g2, g3, m2, m3, n4, hU.2]
  generalize hC1 : dk_U (dk_U (dk_U (dk_U C 121 0 1) 122 0 (nI r)) 123 0 (nI G)) 124 0 (nI m) = C1
  generalize hM1 : dk_U (dk_U (dk_U (dk_U M 31 0 1) 32 0 (nI G)) 33 0 (nI m)) 34 0 (nI r) = M1
  have e1 := pu_cp (S := C1) (k0 := 2) (k1 := 33) (n0 := 8) (n1 := 8) (a := 0) (b := 0) (N := 8) (K := fun S5 => dk_cp S5 11 34 32 32 (0 : Int32) (0 : Int32) (32 : Int32) fun S6 => some S6) (by omega) (by omega) (by decide) (by decide)
  have e1' : dk_cp C1 2 33 8 8 0 0 8 (fun S5 => dk_cp S5 11 34 32 32 (0 : Int32) (0 : Int32) (32 : Int32) fun S6 => some S6) = _ := e1
  rw [e1']
  generalize hC2 : dk_F C1 33 (va_cpy (C1 2) (C1 33) 0 0 8) = C2
  have e2 := pu_cp (S := C2) (k0 := 11) (k1 := 34) (n0 := 32) (n1 := 32) (a := 0) (b := 0) (N := 32) (K := fun S6 => some S6) (by omega) (by omega) (by decide) (by decide)
  have e2' : dk_cp C2 11 34 32 32 0 0 32 (fun S6 => some S6) = _ := e2
  rw [e2', pu_cv]
  generalize hC3 : dk_F C2 34 (va_cpy (C2 11) (C2 34) 0 0 32) = C3
  obtain ⟨M2, a1, a2, a3, a4⟩ := img1 (n := n) (K := fun _ => none) 8 0 n M1 (by omega) (by omega)
  obtain ⟨M3, b1, b2, b3, b4⟩ := img2 (n := n) 32 0 n M2 (by omega) (by omega)
  have a1' : B_Model_image_31 n n 0 M1 = B_Model_image_57 n n 0 M2 := a1
  have b1' : B_Model_image_57 n n 0 M2 = some (M2 5 0, M3) := b1
  rw [a1', b1']
  have c1 : dk_fr [121, 122, 123, 124] C C1 := by rw [← hC1]; exact (((fr_U (by decide)).tr (fr_U (by decide))).tr (fr_U (by decide))).tr (fr_U (by decide))
  have c2 : dk_fr [33] C1 C2 := by rw [← hC2]; exact fr_F (by decide)
  have c3 : dk_fr [34] C2 C3 := by rw [← hC3]; exact fr_F (by decide)
  have d1 : dk_fr [31, 32, 33, 34] M M1 := by rw [← hM1]; exact (((fr_U (by decide)).tr (fr_U (by decide))).tr (fr_U (by decide))).tr (fr_U (by decide))
  have c : dk_fr [121, 122, 123, 124, 33, 34] C C3 := ((c1.up (by decide)).tr (c2.up (by decide))).tr (c3.up (by decide))
  have d : dk_fr [31, 32, 33, 34, 35, 36] M M3 := ((d1.up (by decide)).tr (a2.up (by decide))).tr (b2.up (by decide))
  rw [show C3 104 0 = nI m by rw [c 104 (by decide)]; exact m2, show M2 5 0 = nI m by rw [a2 5 (by decide), d1 5 (by decide)]; exact m3]
  have q1 : ∀ k, k = 121 ∨ k = 122 ∨ k = 123 ∨ k = 124 → C3 k = C1 k := fun k hk => by
    rw [c3 k (by rcases hk with rfl | rfl | rfl | rfl <;> decide), c2 k (by rcases hk with rfl | rfl | rfl | rfl <;> decide)]
  have q2 : ∀ k, k = 31 ∨ k = 32 ∨ k = 33 ∨ k = 34 → M3 k = M1 k := fun k hk => by
    rw [b2 k (by rcases hk with rfl | rfl | rfl | rfl <;> decide), a2 k (by rcases hk with rfl | rfl | rfl | rfl <;> decide)]
  have o33 : ∀ i, i < 8 → C3 33 i = C 2 i := fun i hi => by
    rw [c3 33 (by decide), ← hC2, dk_F_s]
    unfold va_cpy
    rw [if_pos (by omega), c1 2 (by decide)]
    congr 1; omega
  have o34 : ∀ i, i < 32 → C3 34 i = C 11 i := fun i hi => by
    rw [← hC3, dk_F_s]
    unfold va_cpy
    rw [if_pos (by omega), c2 11 (by decide), c1 11 (by decide)]
    congr 1; omega
  have o35 : ∀ i, i < 8 → M3 35 i = M 1 i := fun i hi => by rw [b2 35 (by decide), a4 i (by omega) hi, d1 1 (by decide)]
  have o36 : ∀ i, i < 32 → M3 36 i = M 11 i := fun i hi => by rw [b4 i (by omega) hi, a2 11 (by decide), d1 11 (by decide)]
  refine Sim.mk (G := G) (B := B) (m := m) (r := r) (z := z) ⟨hG.cg c d (by decide) (by decide), hB.cg c d (by decide) (by decide), hM.cg c d (by decide) (by decide), hT.cg c d (by decide) (by decide), hU.cg c d (by decide) (by decide), hN.cg c d (by decide) (by decide), hZ.cg c d (by decide) (by decide), Or.inr ⟨?_, ?_, G, m, r, Nat.le_refl _, m1, n1, ?_, ?_, ?_, ?_, ?_, ?_, fun i hi => ?_, fun i hi => ?_, ?_⟩, hS.cg c d (by decide) (by decide)⟩
  · rw [q1 121 (by decide), ← hC1]; simp (decide := true) only [dk_U_n, pu_Us]
  · rw [q2 31 (by decide), ← hM1]; simp (decide := true) only [dk_U_n, pu_Us]
  · rw [q1 123 (by decide), ← hC1]; simp (decide := true) only [dk_U_n, pu_Us]
  · rw [q2 32 (by decide), ← hM1]; simp (decide := true) only [dk_U_n, pu_Us]
  · rw [q1 124 (by decide), ← hC1]; simp (decide := true) only [dk_U_n, pu_Us]
  · rw [q2 33 (by decide), ← hM1]; simp (decide := true) only [dk_U_n, pu_Us]
  · rw [q1 122 (by decide), ← hC1]; simp (decide := true) only [dk_U_n, pu_Us]
  · rw [q2 34 (by decide), ← hM1]; simp (decide := true) only [dk_U_n, pu_Us]
  · rw [o33 i (by omega), o35 i (by omega)]; exact g4 i hi
  · rw [o34 i (by omega), o36 i (by omega)]; exact ⟨(m4 i hi).2.2.2.2.2.1, (m4 i hi).2.2.2.2.2.2.1⟩
  · rw [cnt_cg m (fun i hi => o36 i (by omega))]; exact m5
end S6
