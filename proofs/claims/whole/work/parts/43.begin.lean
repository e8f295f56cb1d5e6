section BG
variable {n T G B N m r c : Nat} {C M : dk_S}
theorem nI_m1 {p : Nat} (h : p < 2 ^ 31) : ¬ nI p = -1 := by
  intro z
  have := congrArg Int32.toInt z
  rw [nI_toInt h] at this
  have e : (-1 : Int32).toInt = -1 := by decide
  omega
theorem bg_set {i h : Nat} (hS : pSc G B i c C M) (hg : h < G) : pSc G B (i + 1) c (dk_U (dk_U (dk_U C 27 i (nI h)) 28 i 0) 29 i 0) (dk_U (dk_U (dk_U M 27 i (nI h)) 28 i 0) 29 i 0) := by
  obtain ⟨h1, h2, h3, h4, h5⟩ := hS
  refine ⟨h1, by simp (decide := true) only [dk_U_n]; exact h2, by simp (decide := true) only [dk_U_n]; exact h3, fun j hj => (h4 j hj).cg (fun k hk => ?_) (fun k hk => ?_), fun b hb => ?_⟩
  · simp only [List.mem_cons, List.not_mem_nil, or_false] at hk
    rcases hk with rfl | rfl | rfl | rfl | rfl | rfl | rfl | rfl <;> simp (decide := true) only [dk_U_n]
  · simp only [List.mem_cons, List.not_mem_nil, or_false] at hk
    rcases hk with rfl | rfl | rfl | rfl | rfl | rfl | rfl | rfl <;> simp (decide := true) only [dk_U_n]
  · by_cases e : b = i
    · subst e
      refine ⟨?_, ?_, ?_, ⟨h, hg, ?_⟩, ⟨0, by decide, ?_⟩, Or.inl ?_⟩ <;> simp (decide := true) only [dk_U_n, pu_Us]
    · refine (h5 b (by omega)).cg (fun k hk => ?_) (fun k hk => ?_)
      · simp only [List.mem_cons, List.not_mem_nil, or_false] at hk
        rcases hk with rfl | rfl | rfl <;> simp (decide := true) only [dk_U_n, pu_Uj e]
      · simp only [List.mem_cons, List.not_mem_nil, or_false] at hk
        rcases hk with rfl | rfl | rfl <;> simp (decide := true) only [dk_U_n, pu_Uj e]
theorem bg_loop {x1 x2 : Int32} : ∀ (d i q c : Nat) (C M : dk_S), i + d = B → d < q → pE T G B m r C M → pSc G B i c C M → c ≤ 2 * i → ∃ C2 M2 c2, B_Scene_begin_12 n T q (nI i) C = some C2 ∧ B_Model_works_12 n q x1 x2 (nI i) M = B_Model_works_119 n n x1 x2 0 M2 ∧ c2 ≤ 2 * B ∧ pSc G B B c2 C2 M2 ∧ dk_fr kC C C2 ∧ dk_fr kM M M2 ∧ C2 116 = C 116 ∧ M2 30 = M 30
  | d, i, 0, _, _, _, _, hq, _, _, _ => absurd hq (Nat.not_lt_zero _)
  | 0, i, q + 1, c, C, M, hi, hq, hE, hS, hc => by
    unfold B_Scene_begin_12 B_Scene_begin_12b B_Model_works_12 B_Model_works_12b
    have hB := hE.2.1
    have hB6 := hB.1
    rw [hB.2.1, hB.2.2.1, if_pos (nI_le (by omega) (by omega)), if_pos (nI_le (by omega) (by omega))]
    exact ⟨C, M, c, rfl, rfl, by omega, by rw [show B = i by omega] at hS ⊢; exact hS, dk_fr.rf, dk_fr.rf, rfl, rfl⟩
  | d + 1, i, q + 1, c, C, M, hi, hq, hE, hS, hc => by
    unfold B_Scene_begin_12 B_Scene_begin_12b B_Model_works_12 B_Model_works_12b
    have hB := hE.2.1
    have hB6 := hB.1
    obtain ⟨f1, f2, f3, h, hh, f4⟩ := hB.2.2.2 i (by omega)
    have hi6 : i < 6 := by omega
    rw [hB.2.1, hB.2.2.1, if_neg (nI_ge (by omega) (by omega)), if_neg (nI_ge (by omega) (by omega)), pu_r hi6 (by decide), pu_r hi6 (by decide), f1, f4, pu_w hi6 (by decide), pu_w hi6 (by decide), pu_w hi6 (by decide), pu_w hi6 (by decide), pu_w hi6 (by decide), pu_w hi6 (by decide), nar0]
    have hS1 := bg_set (h := h) hS hh
    have cc1 : dk_fr kC C (dk_U (dk_U (dk_U C 27 i (nI h)) 28 i 0) 29 i 0) := ((fr_U (by decide)).tr (fr_U (by decide))).tr (fr_U (by decide))
    have dd1 : dk_fr kM M (dk_U (dk_U (dk_U M 27 i (nI h)) 28 i 0) 29 i 0) := ((fr_U (by decide)).tr (fr_U (by decide))).tr (fr_U (by decide))
    have e27a : (dk_U (dk_U (dk_U C 27 i (nI h)) 28 i 0) 29 i 0) 27 i = nI h := by simp (decide := true) only [dk_U_n, pu_Us]
    have n1 : (dk_U (dk_U (dk_U C 27 i (nI h)) 28 i 0) 29 i 0) 116 = C 116 := by simp (decide := true) only [dk_U_n]
    have n2 : (dk_U (dk_U (dk_U M 27 i (nI h)) 28 i 0) 29 i 0) 30 = M 30 := by simp (decide := true) only [dk_U_n]
    generalize (dk_U (dk_U (dk_U C 27 i (nI h)) 28 i 0) 29 i 0) = C1 at hS1 cc1 n1 e27a ⊢
    generalize (dk_U (dk_U (dk_U M 27 i (nI h)) 28 i 0) 29 i 0) = M1 at hS1 dd1 n2 ⊢
    have hE1 := hE.cg cc1 dd1
    have e27 : C1 27 i = nI h := e27a
    -- what follows the tame claim
    have rest : ∀ (c1 : Nat) (C1 M1 : dk_S), pE T G B m r C1 M1 → pSc G B (i + 1) c1 C1 M1 → c1 ≤ 2 * i + 1 → C1 27 i = nI h → M1 3 i = nI h → dk_fr kC C C1 → dk_fr kM M M1 → C1 116 = C 116 → M1 30 = M 30 → ∃ C2 M2 c2, B_Scene_begin_80 n T (fun x1 S => B_Scene_begin_12 n T q x1 S) (nI i) C1 = some C2 ∧ B_Model_works_71 n (fun x1 x2 x3 S => B_Model_works_12 n q x1 x2 x3 S) x1 x2 (nI i) M1 = B_Model_works_119 n n x1 x2 0 M2 ∧ c2 ≤ 2 * B ∧ pSc G B B c2 C2 M2 ∧ dk_fr kC C C2 ∧ dk_fr kM M M2 ∧ C2 116 = C 116 ∧ M2 30 = M 30 := by
      intro c1 C1 M1 hE1 hS1 hc1 e27 e3 cc1 dd1 n1 n2
      have hG := hE1.1
      have hG8 := hG.1
      obtain ⟨C2, M2, c2, w1, w2, w3, w4, w5⟩ := e_mfg (n := n) (T := T) (t := 0) hS1 hG (by omega) (show i < B by omega) hB6 (by decide) hh e27
      have w1' : F_Scene_makeForGround n T (nI i) 0 C1 = some C2 := w1
      have fc := (fr_Scene_makeForGround w1')
      have fcc : dk_fr kC C1 C2 := fc.up (by decide)
      have fn : C2 116 = C1 116 := fc 116 (by decide)
      have fm : dk_fr kM M1 M2 ∧ M2 30 = M1 30 := by
        by_cases z : M1 1 h = -1
        · rw [if_pos z] at w2; cases w2; exact ⟨dk_fr.rf, rfl⟩
        · rw [if_neg z] at w2
          have := fr_Model_makes w2
          exact ⟨this.up (by decide), this 30 (by decide)⟩
      have hE2 := hE1.cg fcc fm.1
      obtain ⟨C3, M3, c3, y1, y2, y3, y4, y5, y6, y7, y8⟩ := bg_loop d (i + 1) q c2 C2 M2 (by omega) (by omega) hE2 w5 (by omega)
      refine ⟨C3, M3, c3, ?_, ?_, y3, y4, (cc1.tr fcc).tr y5, (dd1.tr fm.1).tr y6, by rw [y7, fn, n1], by rw [y8, fm.2, n2]⟩
      · unfold B_Scene_begin_80
        rw [w1', pu_cv, nI_1]
        exact y1
      · unfold B_Model_works_71 B_Model_works_111
        rw [pu_r hi6 (by decide), e3, pu_r (by omega) (by decide)]
        by_cases z : M1 1 h = -1
        · rw [if_pos z] at w2 ⊢
          cases w2
          rw [nI_1]
          exact y2
        · rw [if_neg z] at w2 ⊢
          have w2' : F_Model_makes n 4 (M1 1 h) (nI i) 0 0 (nI h) M1 = some M2 := w2
          rw [pu_r hi6 (by decide), e3, pu_r (by omega) (by decide), pu_r hi6 (by decide), e3, w2', pu_cv, nI_1]
          exact y2
    have e43 : M1 3 i = nI h := by rw [dd1 3 (by decide)]; exact f4
    have e44 : M1 4 i = M 4 i := by rw [dd1 4 (by decide)]
    have e44C : C1 4 i = M 4 i := by rw [cc1 4 (by decide)]; exact f2
    rw [e_isTame hE1.2.1 (by omega), pu_c]
    simp only [pu_r hi6 (show (6 : Nat) < 2 ^ 31 by decide), e44, e44C]
    rcases iW_of f3 with z | ⟨kp, hkp, z⟩
    · rw [b2_f (show ¬ ¬ M 4 i = -1 by rw [z]; simp), if_pos rfl, if_pos z]
      exact rest c C1 M1 hE1 hS1 (by omega) e27 e43 cc1 dd1 n1 n2
    · have z2 : ¬ M 4 i = -1 := by rw [z]; exact nI_m1 (by omega)
      rw [b2_t z2, if_neg (by decide), if_neg z2, z]
      obtain ⟨C2, M2, w1, w2, w3⟩ := e_make (n := n) (T := T) (k := 5) (p := kp) (b := i) (t := 0) (x := 0) (y := -1) hS1 (by omega) (by decide) hkp (show i < B by omega) hB6 (by decide) (by decide) (fun q => absurd q (by decide))
      have w1' : F_Scene_make n T 5 (nI i) (nI kp) 0 0 C1 = some C2 := w1
      have w2' : F_Model_makes n 5 (nI kp) (nI i) 0 0 (-1) M1 = some M2 := w2
      have fc := fr_Scene_make w1'
      have fm := fr_Model_makes w2'
      rw [w1', w2', pu_cv, pu_cv]
      have fcc : dk_fr kC C1 C2 := fc.up (by decide)
      have fmm : dk_fr kM M1 M2 := fm.up (by decide)
      exact rest (c + 1) C2 M2 (hE1.cg fcc fmm) w3 (by omega) (by rw [fc 27 (by decide)]; exact e27) (by rw [fm 3 (by decide)]; exact e43) (cc1.tr fcc) (dd1.tr fmm) (by rw [fc 116 (by decide)]; exact n1) (by rw [fm 30 (by decide)]; exact n2)
end BG
