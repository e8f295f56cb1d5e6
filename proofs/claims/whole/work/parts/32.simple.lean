/-! PURE: the small calls, both sides alike -/
def Sim (T : Nat) (fc fm : Option (Int32 × dk_S)) : Prop := ∃ (r : Int32) (C M : dk_S), fc = some (r, C) ∧ fm = some (r, M) ∧ Inv T C M
theorem Sim.mk {T G B m r z : Nat} {v : Int32} {C M : dk_S} (h : pInv T G B m r z C M) : Sim T (some (v, C)) (some (v, M)) := ⟨v, C, M, rfl, rfl, G, B, m, r, z, h⟩
section IT
variable {α : Type} {a b : α} {p : Prop}
theorem pu_t [Decidable p] (h : p) : (if ¬ b2 p = 0 then a else b) = a := by rw [b2_t h]; exact if_pos (by decide)
theorem pu_f [Decidable p] (h : ¬ p) : (if ¬ b2 p = 0 then a else b) = b := by rw [b2_f h]; exact if_neg (by decide)
theorem pu_et [Decidable p] (h : p) : (if b2 p = 0 then a else b) = b := by rw [b2_t h]; exact if_neg (by decide)
theorem pu_ef [Decidable p] (h : ¬ p) : (if b2 p = 0 then a else b) = a := by rw [b2_f h]; exact if_pos (by decide)
end IT
section SI
variable {n T G B m r z : Nat} {C M : dk_S}
theorem e_one (x : Int32) : F_Hare_isOne n T x C = some (b2 (0 ≤ x.toInt ∧ x.toInt ≤ 9), C) := by
  unfold F_Hare_isOne B_Hare_isOne_0
  have := e_below (C := C) (x := x) (g := 10) (G := 10) (by decide)
  rw [this]
  congr 3
  exact propext (by omega)
theorem e_oneN (x : Int32) : F_Hare_isOneOrNobody n T x C = some (b2 (-1 ≤ x.toInt ∧ x.toInt ≤ 9), C) := by
  unfold F_Hare_isOneOrNobody B_Hare_isOneOrNobody_0
  rw [e_one, pu_c]
  by_cases h1 : x = -1
  · rw [if_pos h1, b2_t (by rw [h1]; decide)]; rfl
  · have h2 : ¬ x.toInt = -1 := fun q => h1 (Int32.toInt_inj.mp (by rw [q]; decide))
    rw [if_neg h1]
    by_cases h3 : 0 ≤ x.toInt ∧ x.toInt ≤ 9
    · rw [pu_et h3, b2_t (by omega)]; rfl
    · rw [pu_ef h3, b2_f (by omega)]; rfl
theorem e_inN (x : Int32) : F_Model_in n x (-1) 9 M = some (b2 (-1 ≤ x.toInt ∧ x.toInt ≤ 9), M) := e_in x _ _
theorem e_in9 (x : Int32) : F_Model_in n x 0 9 M = some (b2 (0 ≤ x.toInt ∧ x.toInt ≤ 9), M) := e_in x _ _
theorem e_in1 (x : Int32) : F_Model_in n x 0 1 M = some (b2 (0 ≤ x.toInt ∧ x.toInt ≤ 1), M) := e_in x _ _
theorem i_ix {x : Int32} {k : Nat} (h : 0 ≤ x.toInt ∧ x.toInt < (k : Int)) (hk : k < 2 ^ 31) : ∃ j : Nat, j < k ∧ x = nI j := vp_in_of (vp_in_iff.mpr h) hk
theorem s_ground (h : Inv T C M) (x : Int32) : Sim T (F_Hare_ground n T x C) (F_Model_ground n x M) := by
  obtain ⟨G, B, m, r, z, hG, hB, hM, hT, hU, hN, hZ, hI, hS⟩ := h
  unfold F_Hare_ground B_Hare_ground_0 F_Model_ground B_Model_ground_0
  rw [e_oneN, e_inN, pu_c, pu_c]
  by_cases hx : -1 ≤ x.toInt ∧ x.toInt ≤ 9
  · rw [pu_t hx, pu_t hx]
    unfold F_Land_addGround B_Land_addGround_0
    obtain ⟨g1, g2, g3, g4⟩ := id hG
    rw [g2, g3]
    by_cases h8 : G = 8
    · subst h8
      exact Sim.mk ⟨hG, hB, hM, hT, hU, hN, hZ, hI, hS⟩
    · have hlt : G < 8 := by omega
      rw [if_pos (show nI G < 8 from nI_lt hlt (by decide)), if_pos (show ¬ nI G = 8 from fun q => h8 ((nI_eq (by omega) (by decide)).mp q)), pu_w hlt (by decide), pu_w hlt (by decide), pu_p, pu_p]
      simp (decide := true) only [dk_U_n, pu_Us, pu_c, g2, g3, nI_1, nI_pred]
      have c : dk_fr [2, 102] C (dk_U (dk_U C 2 G x) 102 0 (nI (G + 1))) := (fr_U (by decide)).tr (fr_U (by decide))
      have d : dk_fr [1, 0] M (dk_U (dk_U M 1 G x) 0 0 (nI (G + 1))) := (fr_U (by decide)).tr (fr_U (by decide))
      refine Sim.mk (G := G + 1) (B := B) (m := m) (r := r) (z := z) ⟨⟨by omega, pu_Us, pu_Us, fun i hi => ?_⟩, ⟨hB.1, ?_, ?_, fun i hi => ?_⟩, ⟨hM.1, ?_, ?_, fun i hi => ?_, ?_⟩, hT.cg c d (by decide) (by decide), hU.cg c d (by decide) (by decide), hN.cg c d (by decide) (by decide), hZ.cg c d (by decide) (by decide), (hI.cg c d (by decide) (by decide)).mono (Nat.le_refl _) (by omega), hS.cg c d (by decide) (by decide)⟩
      · by_cases e : i = G
        · subst e; simp (decide := true) only [dk_U_n, pu_Us]; exact ⟨trivial, hx⟩
        · simp (decide := true) only [dk_U_n, pu_Uj e]; exact g4 i (by omega)
      · rw [c 103 (by decide)]; exact hB.2.1
      · rw [d 2 (by decide)]; exact hB.2.2.1
      · rw [c 3 (by decide), c 4 (by decide), d 3 (by decide), d 4 (by decide)]
        obtain ⟨q1, q2, q3, k, q4, q5⟩ := hB.2.2.2 i hi
        exact ⟨q1, q2, q3, k, by omega, q5⟩
      · rw [c 104 (by decide)]; exact hM.2.1
      · rw [d 5 (by decide)]; exact hM.2.2.1
      · have q := hM.2.2.2.1 i hi
        have q2 : pm1 (G + 1) B C M i := by
          obtain ⟨a1, a2, a3, a4, a5, a6, a7, t, w, b, p, x, b1, b2, b3, b4, b5, b6, b7⟩ := q
          exact ⟨a1, a2, a3, a4, a5, a6, a7, t, w, b, p, x, b1, b2, b3, b4, b5, fun z => by have := b6 z; omega, b7⟩
        refine q2.cg (fun k hk => ?_) (fun k hk => ?_)
        · rw [c k (by intro z; revert hk z; revert k; decide)]
        · rw [d k (by intro z; revert hk z; revert k; decide)]
      · rw [d 11 (by decide)]; exact hM.2.2.2.2
  · rw [pu_f hx, pu_f hx]
    exact Sim.mk ⟨hG, hB, hM, hT, hU, hN, hZ, hI, hS⟩
theorem s_owns (h : Inv T C M) (x y : Int32) : Sim T (F_Hare_owns n T x y C) (F_Model_owns n x y M) := by
  obtain ⟨G, B, m, r, z, hG, hB, hM, hT, hU, hN, hZ, hI, hS⟩ := h
  obtain ⟨g1, g2, g3, g4⟩ := id hG
  unfold F_Hare_owns B_Hare_owns_0 F_Model_owns B_Model_owns_0
  rw [eC_hasGround g2 (by omega), eM_isGround g3 (by omega), pu_c, pu_c]
  by_cases hx : 0 ≤ x.toInt ∧ x.toInt < (G : Int)
  · rw [pu_t hx, pu_t hx, e_oneN, e_inN, pu_c, pu_c]
    by_cases hy : -1 ≤ y.toInt ∧ y.toInt ≤ 9
    · rw [pu_t hy, pu_t hy]
      obtain ⟨k, hk, rfl⟩ := i_ix hx (by omega)
      rw [pu_r (by omega) (by decide), pu_r (by omega) (by decide), pu_w (by omega) (by decide), pu_w (by omega) (by decide), (g4 k hk).1]
      have c : dk_fr [2] C (dk_U C 2 k y) := fr_U (by decide)
      have d : dk_fr [1] M (dk_U M 1 k y) := fr_U (by decide)
      refine Sim.mk (G := G) (B := B) (m := m) (r := r) (z := z) ⟨⟨g1, ?_, ?_, fun i hi => ?_⟩, hB.cg c d (by decide) (by decide), hM.cg c d (by decide) (by decide), hT.cg c d (by decide) (by decide), hU.cg c d (by decide) (by decide), hN.cg c d (by decide) (by decide), hZ.cg c d (by decide) (by decide), hI.cg c d (by decide) (by decide), hS.cg c d (by decide) (by decide)⟩
      · rw [c 102 (by decide)]; exact g2
      · rw [d 0 (by decide)]; exact g3
      · by_cases e : i = k
        · subst e; rw [pu_Us, pu_Us]; exact ⟨rfl, hy⟩
        · rw [pu_Uj e, pu_Uj e]; exact g4 i hi
    · rw [pu_f hy, pu_f hy]
      exact Sim.mk ⟨hG, hB, hM, hT, hU, hN, hZ, hI, hS⟩
  · rw [pu_f hx, pu_f hx]
    exact Sim.mk ⟨hG, hB, hM, hT, hU, hN, hZ, hI, hS⟩
theorem s_beast (h : Inv T C M) (x y : Int32) : Sim T (F_Hare_beast n T x y C) (F_Model_beast n x y M) := by
  obtain ⟨G, B, m, r, z, hG, hB, hM, hT, hU, hN, hZ, hI, hS⟩ := h
  obtain ⟨g1, g2, g3, g4⟩ := id hG
  obtain ⟨f1, f2, f3, f4⟩ := id hB
  unfold F_Hare_beast B_Hare_beast_0 F_Model_beast B_Model_beast_0
  rw [eC_hasGround g2 (by omega), eM_isGround g3 (by omega), pu_c, pu_c]
  by_cases hx : 0 ≤ x.toInt ∧ x.toInt < (G : Int)
  · rw [pu_t hx, pu_t hx, e_oneN, e_inN, pu_c, pu_c]
    by_cases hy : -1 ≤ y.toInt ∧ y.toInt ≤ 9
    · rw [pu_t hy, pu_t hy]
      unfold F_Land_addBeast B_Land_addBeast_0
      rw [f2, f3]
      obtain ⟨k, hk, rfl⟩ := i_ix hx (by omega)
      by_cases h8 : B = 6
      · subst h8
        exact Sim.mk ⟨hG, hB, hM, hT, hU, hN, hZ, hI, hS⟩
      · have hlt : B < 6 := by omega
        rw [if_pos (show nI B < 6 from nI_lt hlt (by decide)), if_pos (show ¬ nI B = 6 from fun q => h8 ((nI_eq (by omega) (by decide)).mp q)), pu_w hlt (by decide), pu_w hlt (by decide)]
        simp (decide := true) only [dk_U_n, f2, f3, pu_w hlt, pu_p, pu_c, pu_Us, nI_1, nI_pred]
        have c : dk_fr [3, 4, 103] C (dk_U (dk_U (dk_U C 3 B (nI k)) 4 B y) 103 0 (nI (B + 1))) := ((fr_U (by decide)).tr (fr_U (by decide))).tr (fr_U (by decide))
        have d : dk_fr [3, 4, 2] M (dk_U (dk_U (dk_U M 3 B (nI k)) 4 B y) 2 0 (nI (B + 1))) := ((fr_U (by decide)).tr (fr_U (by decide))).tr (fr_U (by decide))
        refine Sim.mk (G := G) (B := B + 1) (m := m) (r := r) (z := z) ⟨hG.cg c d (by decide) (by decide), ⟨by omega, pu_Us, pu_Us, fun i hi => ?_⟩, ⟨hM.1, ?_, ?_, fun i hi => ?_, ?_⟩, hT.cg c d (by decide) (by decide), hU.cg c d (by decide) (by decide), hN.cg c d (by decide) (by decide), hZ.cg c d (by decide) (by decide), hI.cg c d (by decide) (by decide), hS.cg c d (by decide) (by decide)⟩
        · by_cases e : i = B
          · subst e; simp (decide := true) only [dk_U_n, pu_Us]; exact ⟨trivial, trivial, hy, k, hk, rfl⟩
          · simp (decide := true) only [dk_U_n, pu_Uj e]; exact f4 i (by omega)
        · rw [c 104 (by decide)]; exact hM.2.1
        · rw [d 5 (by decide)]; exact hM.2.2.1
        · have q := hM.2.2.2.1 i hi
          have q2 : pm1 G (B + 1) C M i := by
            obtain ⟨a1, a2, a3, a4, a5, a6, a7, t, w, b, p, x, b1, b2, b3, b4⟩ := q
            exact ⟨a1, a2, a3, a4, a5, a6, a7, t, w, b, p, x, b1, b2, by omega, b4⟩
          refine q2.cg (fun k hk => ?_) (fun k hk => ?_)
          · rw [c k (by intro z; revert hk z; revert k; decide)]
          · rw [d k (by intro z; revert hk z; revert k; decide)]
        · rw [d 11 (by decide)]; exact hM.2.2.2.2
    · rw [pu_f hy, pu_f hy]
      exact Sim.mk ⟨hG, hB, hM, hT, hU, hN, hZ, hI, hS⟩
  · rw [pu_f hx, pu_f hx]
    exact Sim.mk ⟨hG, hB, hM, hT, hU, hN, hZ, hI, hS⟩
end SI
