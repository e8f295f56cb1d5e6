theorem pu_if {α : Type} {c d : Prop} [Decidable c] [Decidable d] {a b : α} (h : c ↔ d) : (if c then a else b) = (if d then a else b) := by
  by_cases q : c
  · rw [if_pos q, if_pos (h.mp q)]
  · rw [if_neg q, if_neg (fun z => q (h.mpr z))]
theorem cnt_le (f : Nat → Int32) : ∀ m, cnt f m ≤ m
  | 0 => Nat.le_refl 0
  | m + 1 => by have := cnt_le f m; unfold cnt; split <;> omega
theorem cnt_cg {f g : Nat → Int32} : ∀ m, (∀ i, i < m → f i = g i) → cnt f m = cnt g m
  | 0, _ => rfl
  | m + 1, h => by unfold cnt; rw [cnt_cg m (fun i hi => h i (by omega)), h m (by omega)]
theorem cnt_s {f : Nat → Int32} {i : Nat} (h : f i = 0 ∨ f i = 1) : nI (cnt f i) + f i = nI (cnt f (i + 1)) := by
  rcases h with h | h
  · rw [h, cnt, h, if_neg (by decide)]; exact nI_add _ 0
  · rw [h, cnt, h, if_pos rfl]; exact nI_1 _
section S2
variable {n T G B m r z : Nat} {C M : dk_S}
theorem e_cuC (h : C 104 0 = nI m) (hm : m ≤ 32) (hb : ∀ i, i < m → C 11 i = 0 ∨ C 11 i = 1) : ∀ (d i q : Nat), i + d = m → d < q → B_Diary_countUnsure_4 n T q (nI (cnt (C 11) i)) (nI i) C = some (nI (cnt (C 11) m), C)
  | d, i, 0, _, hq => absurd hq (Nat.not_lt_zero _)
  | 0, i, q + 1, hi, hq => by
    unfold B_Diary_countUnsure_4 B_Diary_countUnsure_4b
    rw [h, if_pos (nI_le (by omega) (by omega)), show i = m by omega]
  | d + 1, i, q + 1, hi, hq => by
    unfold B_Diary_countUnsure_4 B_Diary_countUnsure_4b
    rw [h, if_neg (nI_ge (by omega) (by omega)), pu_r (by omega) (by decide), cnt_s (hb i (by omega)), nI_1]
    exact e_cuC h hm hb d (i + 1) q (by omega) (by omega)
theorem e_cuM (h : M 5 0 = nI m) (hm : m ≤ 32) (hb : ∀ i, i < m → M 11 i = 0 ∨ M 11 i = 1) : ∀ (d i q : Nat), i + d = m → d < q → B_Model_unsureMany_4 n q (nI (cnt (M 11) i)) (nI i) M = some (nI (cnt (M 11) m), M)
  | d, i, 0, _, hq => absurd hq (Nat.not_lt_zero _)
  | 0, i, q + 1, hi, hq => by
    unfold B_Model_unsureMany_4 B_Model_unsureMany_4b
    rw [h, if_pos (nI_le (by omega) (by omega)), show i = m by omega]
  | d + 1, i, q + 1, hi, hq => by
    unfold B_Model_unsureMany_4 B_Model_unsureMany_4b
    rw [h, if_neg (nI_ge (by omega) (by omega)), pu_r (by omega) (by decide), cnt_s (hb i (by omega)), nI_1]
    exact e_cuM h hm hb d (i + 1) q (by omega) (by omega)
theorem pM.cu (h : pM G B m C M) : cnt (C 11) m = cnt (M 11) m := cnt_cg m (fun i hi => (h.2.2.2.1 i hi).2.2.2.2.2.1)
theorem pM.uM (h : pM G B m C M) : ∀ i, i < m → M 11 i = 0 ∨ M 11 i = 1 := fun i hi => (h.2.2.2.1 i hi).2.2.2.2.2.2.1
theorem pM.uC (h : pM G B m C M) : ∀ i, i < m → C 11 i = 0 ∨ C 11 i = 1 := fun i hi => by rw [(h.2.2.2.1 i hi).2.2.2.2.2.1]; exact h.uM i hi
theorem e_countC (h : pM G B m C M) (hn : 400 ≤ n) : F_Diary_countUnsure n T C = some (nI (cnt (M 11) m), C) := by
  unfold F_Diary_countUnsure B_Diary_countUnsure_0
  rw [← h.cu]
  exact e_cuC h.2.1 h.1 h.uC m 0 n (by omega) (by have := h.1; omega)
theorem e_countM (h : pM G B m C M) (hn : 400 ≤ n) : F_Model_unsureMany n M = some (nI (cnt (M 11) m), M) := by
  unfold F_Model_unsureMany B_Model_unsureMany_0
  exact e_cuM h.2.2.1 h.1 h.uM m 0 n (by omega) (by have := h.1; omega)
theorem s_momentTold (h : Inv T C M) (x y : Int32) : Sim T (F_Hare_momentTold n T x y C) (F_Model_momentTold n x y M) := by
  obtain ⟨G, B, m, r, z, hG, hB, hM, hT, hU, hN, hZ, hI, hS⟩ := h
  obtain ⟨m1, m2, m3, m4, m5⟩ := id hM
  have hp : pInv T G B m r z C M := ⟨hG, hB, hM, hT, hU, hN, hZ, hI, hS⟩
  unfold F_Hare_momentTold B_Hare_momentTold_0 F_Model_momentTold B_Model_momentTold_0
  rw [eC_has m2 (by omega), eM_isMoment m3 (by omega), pu_c, pu_c]
  by_cases hx : 0 ≤ x.toInt ∧ x.toInt < (m : Int)
  · rw [pu_t hx, pu_t hx]
    obtain ⟨k, hk, rfl⟩ := i_ix hx (by omega)
    obtain ⟨a1, a2, a3, a4, a5, a6, -⟩ := m4 k hk
    have hk2 : k < 32 := by omega
    simp only [pu_r hk2 (by decide), a1, a2, a3, a4, a5, a6]
    by_cases h0 : y = 0
    · rw [if_pos h0, if_pos h0]; exact Sim.mk hp
    rw [if_neg h0, if_neg h0]
    by_cases h1 : y = 1
    · rw [if_pos h1, if_pos h1]; exact Sim.mk hp
    rw [if_neg h1, if_neg h1]
    by_cases h2 : y = 2
    · rw [if_pos h2, if_pos h2]; exact Sim.mk hp
    rw [if_neg h2, if_neg h2]
    by_cases h3 : y = 3
    · rw [if_pos h3, if_pos h3]; exact Sim.mk hp
    rw [if_neg h3, if_neg h3]
    by_cases h4 : y = 4
    · rw [if_pos h4, if_pos h4]; exact Sim.mk hp
    rw [if_neg h4, if_neg h4]
    by_cases h5 : y = 5
    · rw [if_pos h5, if_pos h5]; exact Sim.mk hp
    rw [if_neg h5, if_neg h5]; exact Sim.mk hp
  · rw [pu_f hx, pu_f hx]; exact Sim.mk hp
theorem s_undo (h : Inv T C M) : Sim T (F_Hare_undo n T C) (F_Model_undo n M) := by
  obtain ⟨G, B, m, r, z, hG, hB, hM, hT, hU, hN, hZ, hI, hS⟩ := h
  obtain ⟨m1, m2, m3, m4, m5⟩ := id hM
  have hp : pInv T G B m r z C M := ⟨hG, hB, hM, hT, hU, hN, hZ, hI, hS⟩
  unfold F_Hare_undo B_Hare_undo_0 F_Diary_dropLast B_Diary_dropLast_0 F_Model_undo B_Model_undo_0
  rw [m2, m3]
  cases m with
  | zero => exact Sim.mk hp
  | succ k =>
    rw [if_pos (nI_ne0 (by omega) (by omega)), if_pos (nI_ne0 (by omega) (by omega)), nI_pred]
    have hk2 : k < 32 := by omega
    simp (decide := true) only [pu_p, pu_Us, dk_U_n, pu_r hk2, pu_w hk2, pu_c]
    rw [(m4 k (by omega)).2.1]
    have c : dk_fr [104] C (dk_U C 104 0 (nI k)) := fr_U (by decide)
    have d : dk_fr [5, 11] M (dk_U (dk_U M 5 0 (nI k)) 11 k 0) := (fr_U (by decide)).tr (fr_U (by decide))
    refine Sim.mk (G := G) (B := B) (m := k) (r := r) (z := z) ⟨hG.cg c d (by decide) (by decide), hB.cg c d (by decide) (by decide), ⟨by omega, pu_Us, ?_, fun i hi => (m4 i (by omega)).cg (fun k hk => ?_) (fun k2 hk => ?_), ?_⟩, hT.cg c d (by decide) (by decide), hU.cg c d (by decide) (by decide), hN.cg c d (by decide) (by decide), hZ.cg c d (by decide) (by decide), hI.cg c d (by decide) (by decide), hS.cg c d (by decide) (by decide)⟩
    · simp (decide := true) only [dk_U_n, pu_Us]
    · rw [c k (by intro z; revert hk z; revert k; decide)]
    · by_cases e : k2 = 11
      · subst e; rw [pu_Uj (show i ≠ k by omega), dk_U_n (by decide)]
      · rw [dk_U_n e, dk_U_n (by intro z; subst z; revert hk; decide)]
    · have e : cnt (dk_U (dk_U M 5 0 (nI k)) 11 k 0 11) k = cnt (M 11) k := cnt_cg k (fun i hi => by rw [pu_Uj (show i ≠ k by omega), dk_U_n (by decide)])
      rw [e]
      have : cnt (M 11) k ≤ cnt (M 11) (k + 1) := by rw [cnt]; omega
      omega
theorem pu_tx {β : Type} {t : Nat} {K : Nat → Option β} (h : t < T) (h6 : t < 6) : dk_tx T (nI t) K = K t := by
  unfold dk_tx
  rw [nI_clamp (by omega), if_neg]
  intro q
  rcases q with q | q | q
  · exact nI_pos (by omega) q
  · omega
  · omega
theorem e_use {t : Nat} (h : C 100 0 = nI T) (hT : T ≤ 6) (ht : t < T) : F_Hare_useText n T (nI t) C = some (dk_U C 114 0 (nI t)) := by
  unfold F_Hare_useText B_Hare_useText_0
  rw [if_neg (nI_pos (by omega)), h, if_neg (nI_ge ht (by omega)), pu_tx ht (by omega), pu_tx ht (by omega), pu_p]
theorem s_force (h : Inv T C M) (x : Int32) : Sim T (F_Hare_force n T x C) (F_Model_force n x M) := by
  obtain ⟨G, B, m, r, z, hG, hB, hM, hT, hU, hN, hZ, hI, hS⟩ := h
  obtain ⟨n1, n2, n3, n4⟩ := id hN
  have hp : pInv T G B m r z C M := ⟨hG, hB, hM, hT, hU, hN, hZ, hI, hS⟩
  have hT6 := hT.1
  unfold F_Hare_force B_Hare_force_0 F_Model_force B_Model_force_0
  rw [e_in, pu_c, n2, n3, nI_s1 (by omega), Int32.toInt_zero]
  by_cases h0 : x < 0
  · have q := Int32.lt_iff_toInt_lt.mp h0
    rw [Int32.toInt_zero] at q
    rw [if_pos h0, pu_f (by omega)]
    exact Sim.mk hp
  · have q : ¬ x.toInt < 0 := fun z => h0 (Int32.lt_iff_toInt_lt.mpr (by rw [Int32.toInt_zero]; exact z))
    rw [if_neg h0]
    by_cases h1 : x < nI T
    · have q1 := Int32.lt_iff_toInt_lt.mp h1
      rw [nI_toInt (by omega)] at q1
      rw [if_pos h1, pu_t (by omega)]
      obtain ⟨t, ht, rfl⟩ := i_ix (x := x) (k := T) ⟨by omega, q1⟩ (by omega)
      rw [pu_p, pu_p, e_use (by rw [dk_U_n (by decide)]; exact n2) hT6 ht, pu_cv, n4, hU.2]
      have c : dk_fr [101, 114] C (dk_U (dk_U C 101 0 (nI t)) 114 0 (nI t)) := (fr_U (by decide)).tr (fr_U (by decide))
      have d : dk_fr [17] M (dk_U M 17 0 (nI t)) := fr_U (by decide)
      refine Sim.mk (G := G) (B := B) (m := m) (r := t) (z := z) ⟨hG.cg c d (by decide) (by decide), hB.cg c d (by decide) (by decide), hM.cg c d (by decide) (by decide), hT.cg c d (by decide) (by decide), ⟨pu_Us, pu_Us⟩, ⟨ht, ?_, ?_, ?_⟩, hZ.cg c d (by decide) (by decide), hI.cg c d (by decide) (by decide), hS.cg c d (by decide) (by decide)⟩
      · rw [c 100 (by decide)]; exact n2
      · rw [d 16 (by decide)]; exact n3
      · rw [dk_U_n (by decide), pu_Us]
    · have q1 : ¬ x.toInt < (T : Int) := fun z => h1 (Int32.lt_iff_toInt_lt.mpr (by rw [nI_toInt (by omega)]; exact z))
      rw [if_neg h1, pu_f (by omega)]
      exact Sim.mk hp
theorem s_count (h : Inv T C M) (hn : 400 ≤ n) (x : Int32) : Sim T (F_Hare_count n T x C) (F_Model_count n x M) := by
  obtain ⟨G, B, m, r, z, hp⟩ := h
  obtain ⟨hG, hB, hM, hT, hU, hN, hZ, hI, hS⟩ := id hp
  unfold F_Hare_count B_Hare_count_0 F_Model_count B_Model_count_0
  rw [e_countC hM hn, e_countM hM hn, hG.2.1, hG.2.2.1, hB.2.1, hB.2.2.1, hM.2.1, hM.2.2.1, hN.2.1, hN.2.2.1, hN.2.2.2, hU.2, hZ.2.1, hZ.2.2.1, pu_c, pu_c]
  by_cases h0 : x = 0
  · rw [if_pos h0, if_pos h0]; exact Sim.mk hp
  rw [if_neg h0, if_neg h0]
  by_cases h1 : x = 1
  · rw [if_pos h1, if_pos h1]; exact Sim.mk hp
  rw [if_neg h1, if_neg h1]
  by_cases h2 : x = 2
  · rw [if_pos h2, if_pos h2]; exact Sim.mk hp
  rw [if_neg h2, if_neg h2]
  by_cases h3 : x = 3
  · rw [if_pos h3, if_pos h3]; exact Sim.mk hp
  rw [if_neg h3, if_neg h3]
  by_cases h4 : x = 4
  · rw [if_pos h4, if_pos h4]; exact Sim.mk hp
  rw [if_neg h4, if_neg h4]
  by_cases h5 : x = 5
  · rw [if_pos h5, if_pos h5]; exact Sim.mk hp
  rw [if_neg h5, if_neg h5]
  by_cases h6 : x = 6
  · rw [if_pos h6, if_pos h6]; exact Sim.mk hp
  rw [if_neg h6, if_neg h6]; exact Sim.mk hp
end S2
