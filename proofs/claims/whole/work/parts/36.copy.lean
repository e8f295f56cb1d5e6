section S5
variable {n T G B m r z : Nat} {C M : dk_S}
theorem e_cpf {a b N : Nat} {o : Nat → Int32} (hba : b ≤ a) (ha : a + N ≤ 160) : ∀ (d k q : Nat) (M : dk_S), k + d = N → d < q → (∀ p, M 39 p = if b ≤ p ∧ p < b + k then o (a + (p - b)) else o p) → ∃ M2, B_Model_copy_147 n q (nI N) (nI a) (nI b) (nI k) M = some (nI N, M2) ∧ dk_fr [39] M M2 ∧ ∀ p, M2 39 p = if b ≤ p ∧ p < b + N then o (a + (p - b)) else o p
  | d, k, 0, _, _, hq, _ => absurd hq (Nat.not_lt_zero _)
  | 0, k, q + 1, M, hk, hq, hM => by
    unfold B_Model_copy_147 B_Model_copy_147b
    rw [if_pos (nI_le (by omega) (by omega))]
    refine ⟨M, rfl, dk_fr.rf, fun p => ?_⟩
    rw [hM p, show k = N by omega]
  | d + 1, k, q + 1, M, hk, hq, hM => by
    unfold B_Model_copy_147 B_Model_copy_147b B_Model_copy_173
    rw [if_neg (nI_ge (by omega) (by omega)), if_pos (nI_le hba (by omega)), nI_add, nI_add, pu_r (by omega) (by decide), pu_w (by omega) (by decide), nI_1]
    obtain ⟨M2, h1, h2, h3⟩ := e_cpf hba ha d (k + 1) q (dk_U M 39 (b + k) (M 39 (a + k))) (by omega) (by omega) (fun p => by
      by_cases e : p = b + k
      · subst e
        rw [pu_Us, if_pos (by omega), hM (a + k), if_neg (by omega)]
        congr 1; omega
      · rw [pu_Uj e, hM p]
        by_cases q : b ≤ p ∧ p < b + k
        · rw [if_pos q, if_pos (by omega)]
        · rw [if_neg q, if_neg (by omega)])
    exact ⟨M2, h1, (fr_U (by decide)).tr h2, h3⟩
theorem e_cpb {a b N : Nat} {o : Nat → Int32} (hba : a < b) (ha : b + N ≤ 160) : ∀ (d k q : Nat) (M : dk_S), k + d = N → d < q → (∀ p, M 39 p = if b + d ≤ p ∧ p < b + N then o (a + (p - b)) else o p) → ∃ M2, B_Model_copy_147 n q (nI N) (nI a) (nI b) (nI k) M = some (nI N, M2) ∧ dk_fr [39] M M2 ∧ ∀ p, M2 39 p = if b ≤ p ∧ p < b + N then o (a + (p - b)) else o p
  | d, k, 0, _, _, hq, _ => absurd hq (Nat.not_lt_zero _)
  | 0, k, q + 1, M, hk, hq, hM => by
    unfold B_Model_copy_147 B_Model_copy_147b
    rw [if_pos (nI_le (by omega) (by omega))]
    exact ⟨M, rfl, dk_fr.rf, fun p => hM p⟩
  | d + 1, k, q + 1, M, hk, hq, hM => by
    unfold B_Model_copy_147 B_Model_copy_147b B_Model_copy_173
    have e1 : nI N - 1 - nI k = nI d := by
      rw [show nI N - 1 = nI (N - 1) from pk_sub (a := N) (b := 1) (by omega), pk_sub (by omega)]
      congr 1; omega
    rw [if_neg (nI_ge (by omega) (by omega)), if_neg (nI_ge hba (by omega)), e1, nI_add, nI_add, pu_r (by omega) (by decide), pu_w (by omega) (by decide), nI_1]
    obtain ⟨M2, h1, h2, h3⟩ := e_cpb hba ha d (k + 1) q (dk_U M 39 (b + d) (M 39 (a + d))) (by omega) (by omega) (fun p => by
      by_cases e : p = b + d
      · subst e
        rw [pu_Us, if_pos (by omega), hM (a + d), if_neg (by omega)]
        congr 1; omega
      · rw [pu_Uj e, hM p]
        by_cases q : b + (d + 1) ≤ p ∧ p < b + N
        · rw [if_pos q, if_pos (by omega)]
        · rw [if_neg q, if_neg (by omega)])
    exact ⟨M2, h1, (fr_U (by decide)).tr h2, h3⟩
theorem e_cp {a b N : Nat} (ha : a + N ≤ 160) (hb : b + N ≤ 160) (hn : 400 ≤ n) : ∃ M2, B_Model_copy_147 n n (nI N) (nI a) (nI b) 0 M = some (nI N, M2) ∧ dk_fr [39] M M2 ∧ ∀ p, M2 39 p = if b ≤ p ∧ p < b + N then M 39 (a + (p - b)) else M 39 p := by
  by_cases h : b ≤ a
  · exact e_cpf h ha N 0 n M (by omega) (by omega) (fun p => by rw [if_neg (by omega)])
  · exact e_cpb (by omega) hb N 0 n M (by omega) (by omega) (fun p => by rw [if_neg (by omega)])
theorem e_run {j sz : Nat} (x y : Int32) (h : C (170 + j) 0 = nI sz) (hs : sz ≤ 40) : F_Sheet_hasRun n T j x y C = some (b2 (0 ≤ x.toInt ∧ 0 ≤ y.toInt ∧ x.toInt + y.toInt ≤ (sz : Int)), C) := by
  unfold F_Sheet_hasRun B_Sheet_hasRun_0
  rw [h, pu_b0, pu_b1]
  by_cases h1 : x < 0
  · have q := Int32.lt_iff_toInt_lt.mp h1
    rw [Int32.toInt_zero] at q
    rw [if_pos h1, b2_f (by omega)]
  have q1 : ¬ x.toInt < 0 := fun z => h1 (Int32.lt_iff_toInt_lt.mpr (by rw [Int32.toInt_zero]; exact z))
  rw [if_neg h1]
  by_cases h2 : y < 0
  · have q := Int32.lt_iff_toInt_lt.mp h2
    rw [Int32.toInt_zero] at q
    rw [if_pos h2, b2_f (by omega)]
  have q2 : ¬ y.toInt < 0 := fun z => h2 (Int32.lt_iff_toInt_lt.mpr (by rw [Int32.toInt_zero]; exact z))
  rw [if_neg h2]
  by_cases h3 : nI sz < x
  · have q := Int32.lt_iff_toInt_lt.mp h3
    rw [nI_toInt (by omega)] at q
    rw [if_pos h3, b2_f (by omega)]
  have q3 : ¬ (sz : Int) < x.toInt := fun z => h3 (Int32.lt_iff_toInt_lt.mpr (by rw [nI_toInt (by omega)]; exact z))
  rw [if_neg h3]
  obtain ⟨k, hk, rfl⟩ := i_ix (x := x) (k := sz + 1) ⟨by omega, by omega⟩ (by omega)
  have e1 : (nI sz - nI k).toInt = (sz : Int) - k := pk_sub_toInt (by omega) (by omega)
  have e2 : (nI k).toInt = (k : Int) := nI_toInt (by omega)
  by_cases h4 : nI sz - nI k < y
  · have q := Int32.lt_iff_toInt_lt.mp h4
    rw [e1] at q
    rw [if_pos h4, b2_f (by omega)]
  have q4 : ¬ (sz : Int) - k < y.toInt := fun z => h4 (Int32.lt_iff_toInt_lt.mpr (by rw [e1]; exact z))
  rw [if_neg h4, b2_t (by omega)]
theorem pu_cp {β : Type} {S : dk_S} {k0 k1 n0 n1 a b N : Nat} {K : dk_S → Option β} (ha : a + N ≤ n0) (hb : b + N ≤ n1) (h0 : n0 < 2 ^ 31) (h1 : n1 < 2 ^ 31) : dk_cp S k0 k1 n0 n1 (nI a) (nI b) (nI N) K = K (dk_F S k1 (va_cpy (S k0) (S k1) a b N)) := by
  unfold dk_cp
  rw [nI_clamp (by omega), nI_clamp (by omega), nI_clamp (by omega), if_neg]
  intro q
  rcases q with q | q | q | q | q
  · exact nI_pos (by omega) q
  · exact nI_pos (by omega) q
  · exact nI_pos (by omega) q
  · omega
  · omega
theorem s_copy (h : Inv T C M) (hn : 400 ≤ n) (x1 x2 x3 x4 x5 : Int32) : Sim T (F_Hare_copy n T x1 x2 x3 x4 x5 C) (F_Model_copy n x1 x2 x3 x4 x5 M) := by
  obtain ⟨G, B, m, r, z, hp⟩ := h
  obtain ⟨hG, hB, hM, hT, hU, hN, hZ, hI, hS⟩ := id hp
  unfold F_Hare_copy B_Hare_copy_0 F_Model_copy B_Model_copy_0
  rw [e_isSheet, e_in3, pu_c, pu_c]
  by_cases hx : 0 ≤ x1.toInt ∧ x1.toInt ≤ 3
  · rw [pu_et hx, pu_et hx, e_isSheet, e_in3, pu_c, pu_c]
    by_cases hy : 0 ≤ x3.toInt ∧ x3.toInt ≤ 3
    · rw [pu_t hy, pu_t hy]
      obtain ⟨j, hj, rfl⟩ := i_ix (x := x1) (k := 4) ⟨by omega, by omega⟩ (by decide)
      obtain ⟨k, hk, rfl⟩ := i_ix (x := x3) (k := 4) ⟨by omega, by omega⟩ (by decide)
      obtain ⟨sj, a1, a2, a3, a4, a5, a6⟩ := hS j hj
      obtain ⟨sk, b1, b2, b3, b4, b5, b6⟩ := hS k hk
      rw [pu_sh hj, pu_sh hk, e_missing hj, pu_c, pu_r hj (by decide), a2]
      by_cases h1 : M 37 j = -1
      · rw [pu_t h1, if_pos h1]; exact Sim.mk hp
      rw [pu_f h1, if_neg h1, e_missing hk, pu_c, pu_r hk (by decide), b2]
      by_cases h2 : M 37 k = -1
      · rw [b2_t h2, if_neg (by decide), if_neg (by simp [h2])]; exact Sim.mk hp
      rw [b2_f h2, if_pos rfl, if_pos h2, pu_r hj (by decide), pu_r hk (by decide)]
      rw [a2]
      by_cases h3 : M 37 j = M 37 k
      · rw [if_pos h3, if_pos h3, e_run x2 x5 a4 a1, pu_c]
        simp only [pu_r hj (show 4 < 2 ^ 31 by decide), pu_r hk (show 4 < 2 ^ 31 by decide), a5, b5]
        by_cases c1 : x5 < 0
        · have q := Int32.lt_iff_toInt_lt.mp c1
          rw [Int32.toInt_zero] at q
          rw [pu_ef (by omega), if_pos c1]; exact Sim.mk hp
        have q1 : ¬ x5.toInt < 0 := fun z => c1 (Int32.lt_iff_toInt_lt.mpr (by rw [Int32.toInt_zero]; exact z))
        rw [if_neg c1]
        by_cases c2 : x2 < 0
        · have q := Int32.lt_iff_toInt_lt.mp c2
          rw [Int32.toInt_zero] at q
          rw [pu_ef (by omega), if_pos c2]; exact Sim.mk hp
        have q2 : ¬ x2.toInt < 0 := fun z => c2 (Int32.lt_iff_toInt_lt.mpr (by rw [Int32.toInt_zero]; exact z))
        rw [if_neg c2]
        by_cases d1 : 0 ≤ x2.toInt ∧ 0 ≤ x5.toInt ∧ x2.toInt + x5.toInt ≤ (sj : Int)
        · rw [pu_et d1, e_run x4 x5 b4 b1, pu_c]
          obtain ⟨a, ha, rfl⟩ := i_ix (x := x2) (k := sj + 1) ⟨by omega, by omega⟩ (by omega)
          obtain ⟨N, hN2, rfl⟩ := i_ix (x := x5) (k := sj + 1) ⟨by omega, by omega⟩ (by omega)
          have ta : (nI a).toInt = (a : Int) := nI_toInt (by omega)
          have tN : (nI N).toInt = (N : Int) := nI_toInt (by omega)
          by_cases c3 : x4 < 0
          · have q := Int32.lt_iff_toInt_lt.mp c3
            rw [Int32.toInt_zero] at q
            rw [pu_f (by omega), if_pos c3]; exact Sim.mk hp
          have q3 : ¬ x4.toInt < 0 := fun z => c3 (Int32.lt_iff_toInt_lt.mpr (by rw [Int32.toInt_zero]; exact z))
          rw [if_neg c3, if_neg (nI_nlt (by omega) (by omega))]
          by_cases c4 : nI sk < x4
          · have q := Int32.lt_iff_toInt_lt.mp c4
            rw [nI_toInt (by omega)] at q
            rw [pu_f (by omega), if_pos c4]; exact Sim.mk hp
          have q4 : ¬ (sk : Int) < x4.toInt := fun z => c4 (Int32.lt_iff_toInt_lt.mpr (by rw [nI_toInt (by omega)]; exact z))
          obtain ⟨b, hb, rfl⟩ := i_ix (x := x4) (k := sk + 1) ⟨by omega, by omega⟩ (by omega)
          have tb : (nI b).toInt = (b : Int) := nI_toInt (by omega)
          rw [if_neg c4, pk_sub (by omega), pk_sub (by omega), if_neg (nI_nlt (by omega) (by omega))]
          by_cases c5 : b + N ≤ sk
          · rw [pu_t (by omega), if_pos (nI_le (by omega) (by omega)), i_40, i_40, pu_cp (by omega) (by omega) (by decide) (by decide)]
            obtain ⟨M2, m1, m2, m3⟩ := e_cp (n := n) (M := M) (a := 40 * j + a) (b := 40 * k + b) (N := N) (by omega) (by omega) hn
            rw [m1]
            have c : dk_fr [36, 38, 40, 42] C (dk_F C (36 + 2 * k) (va_cpy (C (36 + 2 * j)) (C (36 + 2 * k)) a b N)) := fr_F (by simp only [List.mem_cons, List.not_mem_nil, or_false]; omega)
            refine Sim.mk (G := G) (B := B) (m := m) (r := r) (z := z) ⟨hG.cg c m2 (by decide) (by decide), hB.cg c m2 (by decide) (by decide), hM.cg c m2 (by decide) (by decide), hT.cg c m2 (by decide) (by decide), hU.cg c m2 (by decide) (by decide), hN.cg c m2 (by decide) (by decide), hZ.cg c m2 (by decide) (by decide), hI.cg c m2 (by decide) (by decide), fun e he => ?_⟩
            obtain ⟨se, e1, e2, e3, e4, e5, e6⟩ := hS e he
            refine ⟨se, e1, ?_, ?_, ?_, ?_, fun i hi => ?_⟩
            · rw [dk_F_n (by omega), m2 37 (by decide)]; exact e2
            · rw [m2 37 (by decide)]; exact e3
            · rw [dk_F_n (by omega)]; exact e4
            · rw [m2 38 (by decide)]; exact e5
            · rw [m3]
              by_cases ek : e = k
              · subst ek
                rw [dk_F_s]
                unfold va_cpy
                by_cases q : b ≤ i ∧ i < b + N
                · rw [if_pos q, if_pos (by omega), a6 _ (by omega)]
                  congr 1; omega
                · rw [if_neg q, if_neg (by omega)]; exact e6 i hi
              · rw [dk_F_n (by omega), if_neg (by omega)]; exact e6 i hi
          · rw [pu_f (by omega), if_neg (nI_ge (by omega) (by omega))]; exact Sim.mk hp
        · rw [pu_ef d1]
          by_cases c3 : x4 < 0
          · rw [if_pos c3]; exact Sim.mk hp
          rw [if_neg c3]
          by_cases c4 : nI sj < x2
          · rw [if_pos c4]; exact Sim.mk hp
          have q4 : ¬ (sj : Int) < x2.toInt := fun z => c4 (Int32.lt_iff_toInt_lt.mpr (by rw [nI_toInt (by omega)]; exact z))
          obtain ⟨a, ha, rfl⟩ := i_ix (x := x2) (k := sj + 1) ⟨by omega, by omega⟩ (by omega)
          have ta : (nI a).toInt = (a : Int) := nI_toInt (by omega)
          rw [if_neg c4]
          by_cases c5 : nI sk < x4
          · rw [if_pos c5]; exact Sim.mk hp
          rw [if_neg c5, if_pos (Int32.lt_iff_toInt_lt.mpr (by rw [pk_sub_toInt (by omega) (by omega)]; omega))]; exact Sim.mk hp
      · rw [if_neg h3, if_neg h3]; exact Sim.mk hp
    · rw [pu_f hy, pu_f hy]; exact Sim.mk hp
  · rw [pu_ef hx, pu_ef hx]; exact Sim.mk hp
theorem tell_loop {j : Nat} (hj : j < 4) {N a : Nat} (hN : N ≤ 8) (ha : a ≤ 40) : ∀ (d k q : Nat) (cm : Int32) (C M : dk_S), k + d = N → d < q → Inv T C M → Sim T (B_Hare_tell_68 n T q (nI a) (nI N) j cm (nI k) C) (B_Model_tell_64 n q (nI j) (nI a) (nI N) cm (nI k) M)
  | d, k, 0, _, _, _, _, hq, _ => absurd hq (Nat.not_lt_zero _)
  | 0, k, q + 1, cm, C, M, hk, hq, hI => by
    unfold B_Hare_tell_68 B_Hare_tell_68b B_Model_tell_64 B_Model_tell_64b
    rw [if_pos (nI_le (by omega) (by omega)), if_pos (nI_le (by omega) (by omega))]
    exact ⟨cm, C, M, rfl, rfl, hI⟩
  | d + 1, k, q + 1, cm, C, M, hk, hq, hI => by
    obtain ⟨G, B, m, r, z, hp⟩ := id hI
    obtain ⟨sz, a1, a2, a3, a4, a5, a6⟩ := hp.2.2.2.2.2.2.2.2 j hj
    unfold B_Hare_tell_68 B_Hare_tell_68b B_Model_tell_64 B_Model_tell_64b
    have e5 : nI a + (5 : Int32) * nI k = nI (a + 5 * k) := by
      show nI a + nI 5 * nI k = _
      rw [pk_mul, nI_add]
    have ep : (nI (a + 5 * k)).toInt = ((a + 5 * k : Nat) : Int) := nI_toInt (by omega)
    have t5 : (5 : Int32).toInt = 5 := by decide
    rw [if_neg (nI_ge (by omega) (by omega)), if_neg (nI_ge (by omega) (by omega)), e5, if_neg (nI_pos (by omega)), if_neg (nI_nlt (by omega) (by omega)), pu_r hj (by decide), a5, e_run _ _ a4 a1, pu_c]
    by_cases h1 : a + 5 * k + 5 ≤ sz
    · have hle : nI (a + 5 * k) ≤ nI sz - 5 := by
        rw [show nI sz - 5 = nI (sz - 5) from pk_sub (b := 5) (by omega)]
        exact nI_le (by omega) (by omega)
      rw [pu_t (by omega), if_pos hle, i_40]
      have o1 : ∀ p : Nat, nI p + 1 = nI (p + 1) := nI_1
      have o2 : ∀ p : Nat, nI p + 2 = nI (p + 2) := fun p => nI_add p 2
      have o3 : ∀ p : Nat, nI p + 3 = nI (p + 3) := fun p => nI_add p 3
      have o4 : ∀ p : Nat, nI p + 4 = nI (p + 4) := fun p => nI_add p 4
      rw [o1, o2, o3, o4, o1, o2, o3, o4, pu_r (by omega) (by decide), pu_r (by omega) (by decide), pu_r (by omega) (by decide), pu_r (by omega) (by decide), pu_r (by omega) (by decide), pu_r (by omega) (by decide), pu_r (by omega) (by decide), pu_r (by omega) (by decide), pu_r (by omega) (by decide), pu_r (by omega) (by decide), a6 _ (by omega), a6 _ (by omega), a6 _ (by omega), a6 _ (by omega), a6 _ (by omega)]
      rw [Nat.add_assoc (40 * j) (a + 5 * k) 1, Nat.add_assoc (40 * j) (a + 5 * k) 2, Nat.add_assoc (40 * j) (a + 5 * k) 3, Nat.add_assoc (40 * j) (a + 5 * k) 4]
      obtain ⟨rr, C2, M2, e1, e2, hI2⟩ := s_moment (n := n) hI (M 39 (40 * j + (a + 5 * k))) (M 39 (40 * j + (a + 5 * k + 1))) (M 39 (40 * j + (a + 5 * k + 2))) (M 39 (40 * j + (a + 5 * k + 3))) (M 39 (40 * j + (a + 5 * k + 4)))
      rw [e1, e2, pu_c, pu_c]
      unfold B_Hare_tell_147 B_Model_tell_171
      rw [nI_1]
      by_cases h2 : rr < 0
      · rw [if_pos h2, if_pos h2, Int32.add_zero]
        exact tell_loop hj hN ha d (k + 1) q cm C2 M2 (by omega) (by omega) hI2
      · rw [if_neg h2, if_neg h2]
        exact tell_loop hj hN ha d (k + 1) q (cm + 1) C2 M2 (by omega) (by omega) hI2
    · have hle : ¬ nI (a + 5 * k) ≤ nI sz - 5 := fun q => by
        have q := Int32.le_iff_toInt_le.mp q
        rw [show (nI sz - 5).toInt = (sz : Int) - 5 from pk_sub_toInt (b := 5) (by omega) (by decide), ep] at q
        omega
      rw [pu_f (by omega), if_neg hle]
      exact ⟨_, C, M, rfl, rfl, hI⟩
theorem s_tell (h : Inv T C M) (hn : 400 ≤ n) (x1 x2 x3 x4 : Int32) : Sim T (F_Hare_tell n T x1 x2 x3 x4 C) (F_Model_tell n x1 x2 x3 x4 M) := by
  obtain ⟨G, B, m, r, z, hp⟩ := id h
  have hS := hp.2.2.2.2.2.2.2.2
  unfold F_Hare_tell B_Hare_tell_0 F_Model_tell B_Model_tell_0
  rw [e_isSheet, e_in3, pu_c, pu_c]
  have t2 : (2 : Int32).toInt = 2 := by decide
  have t3 : (3 : Int32).toInt = 3 := by decide
  have t8 : (8 : Int32).toInt = 8 := by decide
  by_cases hx : 0 ≤ x1.toInt ∧ x1.toInt ≤ 3
  · rw [pu_et hx, pu_et hx, e_in, pu_c]
    obtain ⟨j, hj, rfl⟩ := i_ix (x := x1) (k := 4) ⟨by omega, by omega⟩ (by decide)
    obtain ⟨sz, a1, a2, a3, a4, a5, a6⟩ := hS j hj
    simp only [Int32.lt_iff_toInt_lt, Int32.le_iff_toInt_le, Int32.toInt_zero, t2, t3, t8]
    by_cases h1 : x2.toInt < 0
    · rw [if_pos h1, pu_ef (by omega)]; exact Sim.mk hp
    rw [if_neg h1]
    by_cases h2 : 3 ≤ x2.toInt
    · rw [if_pos h2, pu_ef (by omega)]; exact Sim.mk hp
    rw [if_neg h2, pu_et (by omega), e_in, pu_c, Int32.toInt_zero, t8]
    by_cases h3 : x4.toInt < 0
    · rw [if_pos h3, pu_f (by omega)]; exact Sim.mk hp
    rw [if_neg h3]
    by_cases h4 : x4.toInt ≤ 8
    · rw [if_pos h4, pu_t (by omega), pu_sh hj, e_missing hj, pu_c, pu_r hj (by decide), a2]
      by_cases h5 : M 37 j = -1
      · rw [b2_t h5, if_neg (by decide), if_neg (by simp [h5])]; exact Sim.mk hp
      rw [b2_f h5, if_pos rfl, if_pos h5, pu_r hj (by decide)]
      by_cases h6 : M 37 j = x2
      · rw [if_pos h6, if_pos h6]
        obtain ⟨N, hN, rfl⟩ := i_ix (x := x4) (k := 9) ⟨by omega, by omega⟩ (by decide)
        by_cases h7 : 0 ≤ x3.toInt ∧ x3.toInt < ((41 : Nat) : Int)
        · obtain ⟨a, ha, rfl⟩ := i_ix h7 (by decide)
          exact tell_loop hj (by omega) (by omega) N 0 n 0 C M (by omega) (by omega) h
        · obtain ⟨q, rfl⟩ : ∃ q, n = q + 1 := ⟨n - 1, by omega⟩
          unfold B_Hare_tell_68 B_Hare_tell_68b B_Model_tell_64 B_Model_tell_64b
          by_cases h8 : nI N ≤ 0
          · rw [if_pos h8, if_pos h8]; exact Sim.mk hp
          rw [if_neg h8, if_neg h8]
          have e5 : x3 + (5 : Int32) * 0 = x3 := by rw [Int32.mul_zero, Int32.add_zero]
          have t5 : (5 : Int32).toInt = 5 := by decide
          rw [e5, e_run _ _ a4 a1, pu_c, pu_f (by omega)]
          by_cases h9 : x3 < 0
          · rw [if_pos h9]; exact Sim.mk hp
          have q9 : ¬ x3.toInt < 0 := fun z => h9 (Int32.lt_iff_toInt_lt.mpr (by rw [Int32.toInt_zero]; exact z))
          have h10 : ¬ x3 < x3 := fun q => by have := Int32.lt_iff_toInt_lt.mp q; omega
          have h11 : ¬ x3 ≤ nI sz - 5 := fun q => by
            have q := Int32.le_iff_toInt_le.mp q
            rw [show (nI sz - 5).toInt = (sz : Int) - 5 from pk_sub_toInt (b := 5) (by omega) (by decide)] at q
            omega
          rw [if_neg h9, if_neg h10, pu_r hj (by decide), a5, if_neg h11]; exact Sim.mk hp
      · rw [if_neg h6, if_neg h6]; exact Sim.mk hp
    · rw [if_neg h4, pu_f (by omega)]; exact Sim.mk hp
  · rw [pu_ef hx, pu_ef hx]; exact Sim.mk hp
end S5
