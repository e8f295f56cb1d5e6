section S3
variable {n T G B m r z : Nat} {C M : dk_S}
theorem cnt_upd {f : Nat → Int32} {k : Nat} {x : Int32} : ∀ m, cnt (upd f k x) m + (if k < m then (if f k = 1 then 1 else 0) else 0) = cnt f m + (if k < m then (if x = 1 then 1 else 0) else 0)
  | 0 => rfl
  | m + 1 => by
    have ih := cnt_upd (f := f) (k := k) (x := x) m
    rw [cnt, cnt]
    by_cases h : k = m
    · subst h
      rw [upd_s2]
      simp only [Nat.lt_irrefl, if_false, Nat.lt_succ_self, if_true] at ih ⊢
      omega
    · rw [upd_n2 (show m ≠ k from fun q => h q.symm)]
      by_cases h2 : k < m
      · simp only [h2, show k < m + 1 from by omega, if_true] at ih ⊢; omega
      · simp only [h2, show ¬ k < m + 1 from by omega, if_false] at ih ⊢; omega
theorem s_unsure (h : Inv T C M) (hn : 400 ≤ n) (x y : Int32) : Sim T (F_Hare_unsure n T x y C) (F_Model_unsure n x y M) := by
  obtain ⟨G, B, m, r, z, hp⟩ := h
  obtain ⟨hG, hB, hM, hT, hU, hN, hZ, hI, hS⟩ := id hp
  obtain ⟨m1, m2, m3, m4, m5⟩ := id hM
  unfold F_Hare_unsure B_Hare_unsure_0 F_Model_unsure B_Model_unsure_0
  rw [eC_has m2 (by omega), eM_isMoment m3 (by omega), pu_c, pu_c]
  by_cases hx : 0 ≤ x.toInt ∧ x.toInt < (m : Int)
  · rw [pu_t hx, pu_t hx]
    obtain ⟨k, hk, rfl⟩ := i_ix hx (by omega)
    have hk2 : k < 32 := by omega
    have e6 := (m4 k hk).2.2.2.2.2.1
    have u6 := (m4 k hk).2.2.2.2.2.2.1
    rw [e_in1, pu_c]
    -- what a write gives
    have key : ∀ y : Int32, (y = 0 ∨ y = 1) → (y = 1 → M 11 k = 0 → cnt (M 11) m ≤ 5) → Sim T (some (M 11 k, dk_U C 11 k y)) (some (M 11 k, dk_U M 11 k y)) := by
      intro y hy hc
      have c : dk_fr [11] C (dk_U C 11 k y) := fr_U (by decide)
      have d : dk_fr [11] M (dk_U M 11 k y) := fr_U (by decide)
      refine Sim.mk (G := G) (B := B) (m := m) (r := r) (z := z) ⟨hG.cg c d (by decide) (by decide), hB.cg c d (by decide) (by decide), ⟨m1, ?_, ?_, fun i hi => ?_, ?_⟩, hT.cg c d (by decide) (by decide), hU.cg c d (by decide) (by decide), hN.cg c d (by decide) (by decide), hZ.cg c d (by decide) (by decide), hI.cg c d (by decide) (by decide), hS.cg c d (by decide) (by decide)⟩
      · rw [c 104 (by decide)]; exact m2
      · rw [d 5 (by decide)]; exact m3
      · by_cases e : i = k
        · subst e
          obtain ⟨a1, a2, a3, a4, a5, a6, a7, a8⟩ := m4 i hi
          unfold pm1
          simp (decide := true) only [dk_U_n, pu_Us]
          exact ⟨a1, a2, a3, a4, a5, trivial, hy, a8⟩
        · have q := m4 i hi
          unfold pm1 at q ⊢
          simp (decide := true) only [dk_U_n, pu_Uj e]
          exact q
      · rw [dk_U_s]
        have q := cnt_upd (f := M 11) (k := k) (x := y) m
        rw [if_pos hk, if_pos hk] at q
        rcases hy with hy | hy
        · have e0 : (if (0 : Int32) = 1 then (1 : Nat) else 0) = 0 := by decide
          rw [hy, e0] at q
          rw [hy]; omega
        · rcases u6 with u | u
          · have := hc hy u
            rw [hy] at q ⊢
            rw [u, if_neg (by decide), if_pos rfl] at q; omega
          · rw [hy] at q ⊢
            rw [u, if_pos rfl] at q; omega
    by_cases h0 : y = 0
    · subst h0
      rw [if_pos rfl, pu_t (by decide)]
      unfold B_Hare_unsure_25 B_Hare_unsure_55
      rw [if_pos (by decide)]
      unfold B_Model_unsure_48
      rw [pu_r hk2 (by decide), pu_r hk2 (by decide), e6]
      rw [if_pos (by rcases u6 with u | u <;> rw [u] <;> decide), pu_w hk2 (by decide), pu_w hk2 (by decide)]
      exact key 0 (Or.inl rfl) (fun q => absurd q (by decide))
    · rw [if_neg h0]
      by_cases h1 : y = 1
      · subst h1
        rw [if_pos rfl, pu_t (by decide)]
        unfold B_Hare_unsure_25 B_Hare_unsure_55
        rw [if_neg (by decide)]
        unfold B_Model_unsure_48
        rw [pu_r hk2 (by decide), pu_r hk2 (by decide), e6]
        rcases u6 with u | u
        · rw [u, if_neg (by decide), if_neg (by decide), e_countC hM hn, e_countM hM hn, pu_c, pu_c]
          by_cases h6 : cnt (M 11) m = 6
          · rw [h6, if_neg (by decide), if_neg (by decide)]
            exact Sim.mk hp
          · have hlt : cnt (M 11) m < 6 := by omega
            rw [if_pos (show nI (cnt (M 11) m) < 6 from nI_lt hlt (by decide)), if_pos (show ¬ nI (cnt (M 11) m) = 6 from fun q => h6 ((nI_eq (by omega) (by decide)).mp q)), pu_w hk2 (by decide), pu_r hk2 (by decide), pu_w hk2 (by decide), u, ← u]
            exact key 1 (Or.inr rfl) (fun _ _ => by omega)
        · rw [u, if_pos (by decide), if_pos (by decide), pu_w hk2 (by decide), pu_r hk2 (by decide), pu_w hk2 (by decide), u]
          have k1 := key 1 (Or.inr rfl) (fun _ q => by rw [u] at q; exact absurd q (by decide))
          rw [u] at k1
          exact k1
      · have q0 : ¬ y.toInt = 0 := fun q => h0 (Int32.toInt_inj.mp (by rw [q]; decide))
        have q1 : ¬ y.toInt = 1 := fun q => h1 (Int32.toInt_inj.mp (by rw [q]; decide))
        rw [if_neg h1, pu_f (by omega)]
        exact Sim.mk hp
  · rw [pu_f hx, pu_f hx]; exact Sim.mk hp
/-- the moments' last time -/
def lastT (m : Nat) (M : dk_S) : Int32 := if m = 0 then 0 else M 6 (m - 1)
theorem e_lastC (h : pM G B m C M) : F_Diary_lastTime n T C = some (lastT m M, C) := by
  unfold F_Diary_lastTime B_Diary_lastTime_0 lastT
  rw [h.2.1]
  cases m with
  | zero => rfl
  | succ k =>
    have hk : k < 32 := by have := h.1; omega
    rw [if_pos (nI_ne0 (by omega) (by have := h.1; omega)), nI_pred, pu_r hk (by decide), if_neg (by omega), Nat.add_sub_cancel, (h.2.2.2.1 k (by omega)).1]
theorem lastT_in (h : pM G B m C M) : ∃ t, t < 1000 ∧ lastT m M = nI t := by
  unfold lastT
  cases m with
  | zero => exact ⟨0, by decide, rfl⟩
  | succ k =>
    rw [if_neg (by omega), Nat.add_sub_cancel]
    obtain ⟨-, -, -, -, -, -, -, t, w, b, p, x, b1, -, -, -, -, -, b2, -⟩ := h.2.2.2.1 k (by omega)
    exact ⟨t, b1, b2⟩
theorem s_moment (h : Inv T C M) (x1 x2 x3 x4 x5 : Int32) : Sim T (F_Hare_moment n T x1 x2 x3 x4 x5 C) (F_Model_moment n x1 x2 x3 x4 x5 M) := by
  obtain ⟨G, B, m, r, z, hp⟩ := h
  obtain ⟨hG, hB, hM, hT, hU, hN, hZ, hI, hS⟩ := id hp
  obtain ⟨m1, m2, m3, m4, m5⟩ := id hM
  have hG8 := hG.1
  have hB6 := hB.1
  -- the write
  have add : ∀ (t w b p x : Nat), t < 1000 → w < 10 → b < B → p < 10 → x < 10 → (w = 5 → x < G) → ∀ (u1 u2 : Int32), u1.toInt ≤ (nI x).toInt → (nI x).toInt ≤ u2.toInt → Sim T (B_Hare_moment_84 n T (nI t) (nI w) (nI b) (nI p) (nI x) C) (B_Model_moment_86 n (nI t) (nI w) (nI b) (nI p) (nI x) (nI x) u1 u2 M) := by
    intro t w b p x ht hw hb hpp hx hwx u1 u2 hu1 hu2
    unfold B_Hare_moment_84 F_Diary_add B_Diary_add_0 B_Model_moment_86
    rw [e_in, pu_c, pu_t ⟨hu1, hu2⟩, m2, m3]
    by_cases h8 : m = 32
    · subst h8
      exact Sim.mk hp
    · have hlt : m < 32 := by omega
      rw [if_pos (show nI m < 32 from nI_lt hlt (by decide)), if_pos (show ¬ nI m = 32 from fun q => h8 ((nI_eq (by omega) (by decide)).mp q))]
      simp (decide := true) only [dk_U_n, m2, m3, pu_w hlt, pu_p, pu_c, pu_Us, nI_1, nI_pred]
      generalize hC2 : dk_U (dk_U (dk_U (dk_U (dk_U (dk_U (dk_U C 6 m (nI t)) 7 m (nI w)) 8 m (nI b)) 9 m (nI p)) 10 m (nI x)) 11 m 0) 104 0 (nI (m + 1)) = C2
      generalize hM2 : dk_U (dk_U (dk_U (dk_U (dk_U (dk_U (dk_U M 6 m (nI t)) 7 m (nI w)) 8 m (nI b)) 9 m (nI p)) 10 m (nI x)) 11 m 0) 5 0 (nI (m + 1)) = M2
      have c : dk_fr [6, 7, 8, 9, 10, 11, 104] C C2 := by
        rw [← hC2]
        exact ((((((fr_U (by decide)).tr (fr_U (by decide))).tr (fr_U (by decide))).tr (fr_U (by decide))).tr (fr_U (by decide))).tr (fr_U (by decide))).tr (fr_U (by decide))
      have d : dk_fr [6, 7, 8, 9, 10, 11, 5] M M2 := by
        rw [← hM2]
        exact ((((((fr_U (by decide)).tr (fr_U (by decide))).tr (fr_U (by decide))).tr (fr_U (by decide))).tr (fr_U (by decide))).tr (fr_U (by decide))).tr (fr_U (by decide))
      refine Sim.mk (G := G) (B := B) (m := m + 1) (r := r) (z := z) ⟨hG.cg c d (by decide) (by decide), hB.cg c d (by decide) (by decide), ⟨by omega, by rw [← hC2]; exact pu_Us, by rw [← hM2]; exact pu_Us, fun i hi => ?_, ?_⟩, hT.cg c d (by decide) (by decide), hU.cg c d (by decide) (by decide), hN.cg c d (by decide) (by decide), hZ.cg c d (by decide) (by decide), hI.cg c d (by decide) (by decide), hS.cg c d (by decide) (by decide)⟩
      · by_cases e : i = m
        · subst e
          rw [← hC2, ← hM2]
          unfold pm1
          simp (decide := true) only [dk_U_n, pu_Us]
          exact ⟨trivial, trivial, trivial, trivial, trivial, trivial, trivial, t, w, b, p, x, ht, hw, hb, hpp, hx, hwx, rfl, rfl, rfl, rfl, rfl⟩
        · have q := m4 i (by omega)
          rw [← hC2, ← hM2]
          unfold pm1 at q ⊢
          simp (decide := true) only [dk_U_n, pu_Uj e]
          exact q
      · have e : cnt (M2 11) m = cnt (M 11) m := cnt_cg m (fun i hi => by rw [← hM2]; simp (decide := true) only [dk_U_n, pu_Uj (show i ≠ m by omega)])
        have e2 : M2 11 m = 0 := by rw [← hM2]; simp (decide := true) only [dk_U_n, pu_Us]
        rw [cnt, e, e2, if_neg (by decide)]; omega
  unfold F_Hare_moment B_Hare_moment_0 F_Model_moment B_Model_moment_0
  rw [eC_hasBeast hB.2.1 (by omega), eM_isBeast hB.2.2.1 (by omega), pu_c, pu_c]
  by_cases hx : 0 ≤ x3.toInt ∧ x3.toInt < (B : Int)
  · rw [pu_t hx, pu_t hx, e_lastC hM, pu_c]
    have eL : (if ¬ M 5 0 = 0 then dk_r 32 (M 6) (M 5 0 - 1) (fun v18 => B_Model_moment_32 n x1 x2 x3 x4 x5 v18 M) else B_Model_moment_32 n x1 x2 x3 x4 x5 0 M) = B_Model_moment_32 n x1 x2 x3 x4 x5 (lastT m M) M := by
      rw [m3]
      unfold lastT
      cases m with
      | zero => rfl
      | succ k =>
        have hk : k < 32 := by omega
        rw [if_pos (nI_ne0 (by omega) (by omega)), nI_pred, pu_r hk (by decide), if_neg (by omega), Nat.add_sub_cancel]
    rw [eL]
    obtain ⟨tl, htl, eT⟩ := lastT_in hM
    rw [eT]
    unfold B_Model_moment_32
    rw [e_in, pu_c]
    have t999 : (999 : Int32).toInt = 999 := by decide
    have t1000 : (1000 : Int32).toInt = 1000 := by decide
    have t9 : (9 : Int32).toInt = 9 := by decide
    have t10 : (10 : Int32).toInt = 10 := by decide
    rw [nI_toInt (by omega), t999]
    simp only [Int32.lt_iff_toInt_lt, Int32.le_iff_toInt_le, nI_toInt (show tl < 2 ^ 31 by omega), Int32.toInt_zero, t1000, t9, t10]
    by_cases h1 : x1.toInt < (tl : Int)
    · rw [if_pos h1, pu_ef (by omega)]; exact Sim.mk hp
    rw [if_neg h1]
    by_cases h2 : 1000 ≤ x1.toInt
    · rw [if_pos h2, pu_ef (by omega)]; exact Sim.mk hp
    rw [if_neg h2, pu_et (by omega), e_in9, pu_c]
    by_cases h3 : x2.toInt < 0
    · rw [if_pos h3, pu_ef (by omega)]; exact Sim.mk hp
    rw [if_neg h3]
    by_cases h4 : 9 < x2.toInt
    · rw [if_pos h4, pu_ef (by omega)]; exact Sim.mk hp
    rw [if_neg h4, pu_et (by omega), e_in9, e_one, pu_c, pu_c]
    by_cases h5 : 0 ≤ x4.toInt ∧ x4.toInt ≤ 9
    · rw [pu_t h5, pu_et h5]
      obtain ⟨t, ht, rfl⟩ := i_ix (x := x1) (k := 1000) ⟨by omega, by omega⟩ (by decide)
      obtain ⟨w, hw, rfl⟩ := i_ix (x := x2) (k := 10) ⟨by omega, by omega⟩ (by decide)
      obtain ⟨b, hb, rfl⟩ := i_ix hx (by omega)
      obtain ⟨p, hpp, rfl⟩ := i_ix (x := x4) (k := 10) ⟨by omega, by omega⟩ (by decide)
      by_cases h6 : x5.toInt < 0
      · rw [if_pos h6]
        by_cases h7 : nI w = 5
        · rw [if_neg (by simp [h7])]
          unfold B_Model_moment_86
          rw [e_in, pu_c, pu_f (by rw [Int32.toInt_zero]; omega)]; exact Sim.mk hp
        · rw [if_pos h7]
          unfold B_Model_moment_86
          rw [e_in, pu_c, pu_f (by rw [Int32.toInt_zero]; omega)]; exact Sim.mk hp
      rw [if_neg h6]
      by_cases h8 : 10 ≤ x5.toInt
      · rw [if_pos h8]
        by_cases h7 : nI w = 5
        · rw [if_neg (by simp [h7])]
          unfold B_Model_moment_86
          rw [e_in, pu_c, hG.2.2.1, nI_s1 (by omega), pu_f (by omega)]; exact Sim.mk hp
        · rw [if_pos h7]
          unfold B_Model_moment_86
          rw [e_in, pu_c, t9, pu_f (by omega)]; exact Sim.mk hp
      rw [if_neg h8]
      obtain ⟨x, hx5, rfl⟩ := i_ix (x := x5) (k := 10) ⟨by omega, by omega⟩ (by decide)
      have tx : (nI x).toInt = (x : Int) := nI_toInt (by omega)
      by_cases h7 : nI w = 5
      · have hw5 : w = 5 := (nI_eq (by omega) (by decide)).mp h7
        rw [if_neg (by simp [h7]), if_neg (by simp [h7]), eC_hasGround hG.2.1 (by omega), pu_c]
        by_cases h9 : 0 ≤ (nI x).toInt ∧ (nI x).toInt < (G : Int)
        · rw [pu_t h9]
          exact add t w b p x ht hw hb hpp hx5 (fun _ => by omega) _ _ (by rw [Int32.toInt_zero]; omega) (by rw [hG.2.2.1, nI_s1 (by omega)]; omega)
        · rw [pu_f h9]
          unfold B_Model_moment_86
          rw [e_in, pu_c, hG.2.2.1, nI_s1 (by omega), pu_f (by omega)]; exact Sim.mk hp
      · rw [if_pos h7, if_pos h7]
        exact add t w b p x ht hw hb hpp hx5 (fun q => absurd (by rw [q]; rfl) h7) _ _ (by rw [Int32.toInt_zero]; omega) (by rw [t9]; omega)
    · rw [pu_f h5, pu_ef h5]; exact Sim.mk hp
  · rw [pu_f hx, pu_f hx]; exact Sim.mk hp
end S3
