/-! PURE: the calls that ask once of the claims behind n moments -/
theorem Sim.fr {T : Nat} {C M : dk_S} {fc fm : Option (Int32 × dk_S)} (h : Inv T C M) (e : ∃ (r : Int32) (C2 M2 : dk_S), fc = some (r, C2) ∧ fm = some (r, M2)) (hc : ∀ q, fc = some q → ∃ W, dk_fr W C q.2 ∧ ∀ k ∈ W, k ∈ kC) (hm : ∀ q, fm = some q → ∃ W, dk_fr W M q.2 ∧ ∀ k ∈ W, k ∈ kM) : Sim T fc fm := by
  obtain ⟨r, C2, M2, e1, e2⟩ := e
  obtain ⟨W, c, c2⟩ := hc _ e1
  obtain ⟨V, d, d2⟩ := hm _ e2
  obtain ⟨G, B, m, r2, z, hp⟩ := h
  rw [e1, e2]
  exact Sim.mk (hp.cg (c.up c2) (d.up d2))
section CA
variable {n T G B m r z : Nat} {C M : dk_S}
theorem e_reC {x : Int32} (h : C 104 0 = nI m) (hm : m ≤ 32) : F_Diary_reaches n T x C = some (b2 (0 ≤ x.toInt ∧ x.toInt ≤ (m : Int)), C) := by
  unfold F_Diary_reaches B_Diary_reaches_0
  simp only [Int32.lt_iff_toInt_lt, pu_b0, pu_b1, h, Int32.toInt_zero, nI_toInt (show m < 2 ^ 31 by omega)]
  by_cases h1 : x.toInt < 0
  · rw [if_pos h1, b2_f (by omega)]
  · rw [if_neg h1]
    by_cases h2 : (m : Int) < x.toInt
    · rw [if_pos h2, b2_f (by omega)]
    · rw [if_neg h2, b2_t (by omega)]
theorem e_reM {x : Int32} (h : M 5 0 = nI m) (hm : m ≤ 32) : F_Model_in n x 0 (M 5 0) M = some (b2 (0 ≤ x.toInt ∧ x.toInt ≤ (m : Int)), M) := by
  rw [e_in, h, nI_toInt (by omega), Int32.toInt_zero]
theorem i_ix2 {x : Int32} {k : Nat} (h : 0 ≤ x.toInt ∧ x.toInt ≤ (k : Int)) (hk : k < 2 ^ 30) : ∃ j : Nat, j ≤ k ∧ x = nI j := by
  obtain ⟨j, h1, h2⟩ := i_ix (x := x) (k := k + 1) ⟨h.1, by omega⟩ (by omega)
  exact ⟨j, by omega, h2⟩
theorem e_at {k : Nat} (hE : pE T G B m r C M) (hk : k ≤ m) (hn : 400 ≤ n) : ∃ C2 M2 c, F_Scene_reach n T (nI k) C = some C2 ∧ F_Model_works n (nI k) 0 M = some M2 ∧ pX T G B m r c C2 M2 := by
  obtain ⟨C2, e1, e2⟩ := At0_reach hE hk hn
  obtain ⟨c, M2, f1, f2, f3, f4, f5, f6⟩ := At0_get e2 hk hn (dk_fr.rf (S := M))
  exact ⟨C2, M2, c, e1, f2, f6, f3, f4⟩
theorem s_follow (h : Inv T C M) (hn : 400 ≤ n) (x y w : Int32) : Sim T (F_Hare_follow n T x y w C) (F_Model_follow n x y w M) := by
  refine Sim.fr h ?_ (fun q e => ⟨_, fr_Hare_follow e, by decide⟩) (fun q e => ⟨_, fr_Model_follow e, by decide⟩)
  obtain ⟨G, B, m, r, z, hp⟩ := h
  have hE := hp.E
  obtain ⟨hG, hB, -⟩ := id hp
  have hG8 := hG.1
  have hB6 := hB.1
  unfold F_Hare_follow B_Hare_follow_0 F_Model_follow B_Model_follow_0
  rw [e_one, e_in9, pu_c, pu_c]
  by_cases h1 : 0 ≤ x.toInt ∧ x.toInt ≤ 9
  · rw [pu_et h1, pu_et h1, eC_hasGround hG.2.1 (by omega), eM_isGround hG.2.2.1 (by omega), pu_c, pu_c]
    by_cases h2 : 0 ≤ y.toInt ∧ y.toInt < (G : Int)
    · rw [pu_et h2, pu_et h2, eC_hasBeast hB.2.1 (by omega), eM_isBeast hB.2.2.1 (by omega), pu_c, pu_c]
      by_cases h3 : 0 ≤ w.toInt ∧ w.toInt < (B : Int)
      · rw [pu_t h3, pu_t h3]
        obtain ⟨g, hg, rfl⟩ := i_ix h2 (by omega)
        obtain ⟨b, hb, rfl⟩ := i_ix h3 (by omega)
        obtain ⟨C2, e1⟩ := e_mayC (n := n) (x := x) hE hg hb hn
        obtain ⟨M2, e2⟩ := e_mayM (n := n) (x := x) hE hg hb hn
        rw [e1, e2, pu_c, pu_c]
        by_cases q : mayV r g b x C M = 0
        · rw [if_pos q, if_pos q]; exact ⟨_, _, _, rfl, rfl⟩
        · rw [if_neg q, if_neg q]; exact ⟨_, _, _, rfl, rfl⟩
      · rw [pu_f h3, pu_f h3]; exact ⟨_, _, _, rfl, rfl⟩
    · rw [pu_ef h2, pu_ef h2]; exact ⟨_, _, _, rfl, rfl⟩
  · rw [pu_ef h1, pu_ef h1]; exact ⟨_, _, _, rfl, rfl⟩
theorem s_claims (h : Inv T C M) (hn : 400 ≤ n) (x : Int32) : Sim T (F_Hare_claims n T x C) (F_Model_claims n x M) := by
  refine Sim.fr h ?_ (fun q e => ⟨_, fr_Hare_claims e, by decide⟩) (fun q e => ⟨_, fr_Model_claims e, by decide⟩)
  obtain ⟨G, B, m, r, z, hp⟩ := h
  have hE := hp.E
  have hM := hp.2.2.1
  have hm := hM.1
  unfold F_Hare_claims B_Hare_claims_0 F_Model_claims B_Model_claims_0
  rw [e_reC hM.2.1 hM.1, e_reM hM.2.2.1 hM.1, pu_c, pu_c]
  by_cases h1 : 0 ≤ x.toInt ∧ x.toInt ≤ (m : Int)
  · rw [pu_t h1, pu_t h1]
    obtain ⟨k, hk, rfl⟩ := i_ix2 h1 (by omega)
    obtain ⟨C2, M2, c, e1, e2, hX⟩ := e_at hE hk hn
    rw [e1, e2, pu_cv, pu_cv, hX.2.1.2.1, hX.2.1.2.2.1]
    exact ⟨_, _, _, rfl, rfl⟩
  · rw [pu_f h1, pu_f h1]; exact ⟨_, _, _, rfl, rfl⟩
theorem e_hasC {c : Nat} {x : Int32} (h : C 115 0 = nI c) (hc : c ≤ 44) : F_Scene_has n T x C = some (b2 (0 ≤ x.toInt ∧ x.toInt < (c : Int)), C) := by
  unfold F_Scene_has B_Scene_has_0
  exact e_below (by rw [h]; exact nI_toInt (by omega))
theorem e_hasM {c : Nat} {x : Int32} (h : M 18 0 = nI c) (hc : c ≤ 44) : F_Model_in n x 0 (M 18 0 - 1) M = some (b2 (0 ≤ x.toInt ∧ x.toInt < (c : Int)), M) := by
  rw [e_in, h, nI_s1 (by omega), Int32.toInt_zero]
  congr 3
  exact propext (by omega)
theorem s_claimTold (h : Inv T C M) (hn : 400 ≤ n) (x y w : Int32) : Sim T (F_Hare_claimTold n T x y w C) (F_Model_claimTold n x y w M) := by
  refine Sim.fr h ?_ (fun q e => ⟨_, fr_Hare_claimTold e, by decide⟩) (fun q e => ⟨_, fr_Model_claimTold e, by decide⟩)
  obtain ⟨G, B, m, r, z, hp⟩ := h
  have hE := hp.E
  have hM := hp.2.2.1
  have hm := hM.1
  unfold F_Hare_claimTold B_Hare_claimTold_0 F_Model_claimTold B_Model_claimTold_0
  rw [e_reC hM.2.1 hM.1, e_reM hM.2.2.1 hM.1, pu_c, pu_c]
  by_cases h1 : 0 ≤ x.toInt ∧ x.toInt ≤ (m : Int)
  · rw [pu_t h1, pu_t h1]
    obtain ⟨k, hk, rfl⟩ := i_ix2 h1 (by omega)
    obtain ⟨C2, M2, c, e1, e2, hX⟩ := e_at hE hk hn
    have hc := hX.2.1.1
    rw [e1, e2, pu_cv, pu_cv, e_hasC hX.2.1.2.1 hc, e_hasM hX.2.1.2.2.1 hc, pu_c, pu_c]
    by_cases h2 : 0 ≤ y.toInt ∧ y.toInt < (c : Int)
    · rw [pu_t h2, pu_t h2]
      obtain ⟨i, hi, rfl⟩ := i_ix h2 (by omega)
      have hi44 : i < 44 := by omega
      have hs := hX.2.1.2.2.2.1 i hi
      simp only [pu_r hi44 (show (44 : Nat) < 2 ^ 31 by decide), hs.1, hs.2.1, hs.2.2.1, hs.2.2.2.1, hs.2.2.2.2.1]
      by_cases q0 : w = 0
      · rw [if_pos q0, if_pos q0]; exact ⟨_, _, _, rfl, rfl⟩
      rw [if_neg q0, if_neg q0]
      by_cases q1 : w = 1
      · rw [if_pos q1, if_pos q1]; exact ⟨_, _, _, rfl, rfl⟩
      rw [if_neg q1, if_neg q1]
      by_cases q2 : w = 2
      · rw [if_pos q2, if_pos q2]; exact ⟨_, _, _, rfl, rfl⟩
      rw [if_neg q2, if_neg q2]
      by_cases q3 : w = 3
      · rw [if_pos q3, if_pos q3]; exact ⟨_, _, _, rfl, rfl⟩
      rw [if_neg q3, if_neg q3]
      by_cases q4 : w = 4
      · rw [if_pos q4, if_pos q4]; exact ⟨_, _, _, rfl, rfl⟩
      rw [if_neg q4, if_neg q4]
      by_cases q5 : w = 5
      · rw [if_pos q5, if_pos q5]
        obtain ⟨C3, M3, f1, f2, -⟩ := st_at hX (dk_fr.rf (S := C2)) (dk_fr.rf (S := M2)) hi hn
        rw [f1, f2, pu_c, pu_c]
        by_cases u : stN n M2 i = 0
        · rw [if_pos u, if_pos u]; exact ⟨_, _, _, rfl, rfl⟩
        · rw [if_neg u, if_neg u]; exact ⟨_, _, _, rfl, rfl⟩
      rw [if_neg q5, if_neg q5]
      by_cases q6 : w = 6
      · rw [if_pos q6, if_pos q6, e_wgtC hs hi44, e_wgtM hs hi44, pu_c, pu_c]; exact ⟨_, _, _, rfl, rfl⟩
      rw [if_neg q6, if_neg q6]
      by_cases q7 : w = 7
      · rw [if_pos q7, if_pos q7]
        obtain ⟨C3, M3, f1, f2, -⟩ := wo_at hX (dk_fr.rf (S := C2)) (dk_fr.rf (S := M2)) hi hn
        rw [f1, f2, pu_c, pu_c]; exact ⟨_, _, _, rfl, rfl⟩
      rw [if_neg q7, if_neg q7]
      exact ⟨_, _, _, rfl, rfl⟩
    · rw [pu_f h2, pu_f h2]; exact ⟨_, _, _, rfl, rfl⟩
  · rw [pu_f h1, pu_f h1]; exact ⟨_, _, _, rfl, rfl⟩
theorem s_whoseIs (h : Inv T C M) (hn : 400 ≤ n) (x y : Int32) : Sim T (F_Hare_whoseIs n T x y C) (F_Model_whoseIs n x y M) := by
  refine Sim.fr h ?_ (fun q e => ⟨_, fr_Hare_whoseIs e, by decide⟩) (fun q e => ⟨_, fr_Model_whoseIs e, by decide⟩)
  obtain ⟨G, B, m, r, z, hp⟩ := h
  have hE := hp.E
  have hB := hp.2.1
  have hM := hp.2.2.1
  have hm := hM.1
  have hB6 := hB.1
  unfold F_Hare_whoseIs B_Hare_whoseIs_0 F_Model_whoseIs B_Model_whoseIs_0
  rw [eC_hasBeast hB.2.1 (by omega), eM_isBeast hB.2.2.1 (by omega), pu_c, pu_c]
  by_cases h3 : 0 ≤ x.toInt ∧ x.toInt < (B : Int)
  · rw [pu_t h3, pu_t h3, e_reC hM.2.1 hM.1, e_reM hM.2.2.1 hM.1, pu_c, pu_c]
    by_cases h1 : 0 ≤ y.toInt ∧ y.toInt ≤ (m : Int)
    · rw [pu_t h1, pu_t h1]
      obtain ⟨b, hb, rfl⟩ := i_ix h3 (by omega)
      obtain ⟨k, hk, rfl⟩ := i_ix2 h1 (by omega)
      obtain ⟨C2, M2, c, e1, e2, hX⟩ := e_at hE hk hn
      obtain ⟨C3, f1, -⟩ := e_poss (b := b) hX hn (dk_fr.rf (S := C2))
      obtain ⟨M3, f2, -⟩ := e_whose (b := b) hX hn (dk_fr.rf (S := M2))
      rw [e1, e2, pu_cv, pu_cv, f1, f2, pu_c, pu_c]
      exact ⟨_, _, _, rfl, rfl⟩
    · rw [pu_f h1, pu_f h1]; exact ⟨_, _, _, rfl, rfl⟩
  · rw [pu_f h3, pu_f h3]; exact ⟨_, _, _, rfl, rfl⟩
theorem s_why (h : Inv T C M) (hn : 400 ≤ n) (x y : Int32) : Sim T (F_Hare_why n T x y C) (F_Model_why n x y M) := by
  refine Sim.fr h ?_ (fun q e => ⟨_, fr_Hare_why e, by decide⟩) (fun q e => ⟨_, fr_Model_why e, by decide⟩)
  obtain ⟨G, B, m, r, z, hp⟩ := h
  have hE := hp.E
  have hB := hp.2.1
  have hM := hp.2.2.1
  have hm := hM.1
  have hB6 := hB.1
  unfold F_Hare_why B_Hare_why_0 F_Model_why B_Model_why_0
  rw [eC_hasBeast hB.2.1 (by omega), eM_isBeast hB.2.2.1 (by omega), pu_c, pu_c]
  by_cases h3 : 0 ≤ x.toInt ∧ x.toInt < (B : Int)
  · rw [pu_t h3, pu_t h3, e_reC hM.2.1 hM.1, e_reM hM.2.2.1 hM.1, pu_c, pu_c]
    by_cases h1 : 0 ≤ y.toInt ∧ y.toInt ≤ (m : Int)
    · rw [pu_t h1, pu_t h1]
      obtain ⟨b, hb, rfl⟩ := i_ix h3 (by omega)
      obtain ⟨k, hk, rfl⟩ := i_ix2 h1 (by omega)
      obtain ⟨C2, M2, c, e1, e2, hX⟩ := e_at hE hk hn
      obtain ⟨C3, f1, -, f3, -⟩ := e_weigh (b := b) hX hn (dk_fr.rf (S := C2))
      obtain ⟨M3, f2, -⟩ := e_winner (b := b) hX hn (dk_fr.rf (S := M2))
      rw [e1, e2, pu_cv, pu_cv, f1, f2, pu_cv, pu_c, f3]
      exact ⟨_, _, _, rfl, rfl⟩
    · rw [pu_f h1, pu_f h1]; exact ⟨_, _, _, rfl, rfl⟩
  · rw [pu_f h3, pu_f h3]; exact ⟨_, _, _, rfl, rfl⟩
theorem s_where (h : Inv T C M) (hn : 400 ≤ n) (x y w : Int32) : Sim T (F_Hare_where n T x y w C) (F_Model_where n x y w M) := by
  refine Sim.fr h ?_ (fun q e => ⟨_, fr_Hare_where e, by decide⟩) (fun q e => ⟨_, fr_Model_where e, by decide⟩)
  obtain ⟨G, B, m, r, z, hp⟩ := h
  have hE := hp.E
  have hB := hp.2.1
  have hM := hp.2.2.1
  have hm := hM.1
  have hB6 := hB.1
  unfold F_Hare_where B_Hare_where_0 F_Model_where B_Model_where_0
  rw [eC_hasBeast hB.2.1 (by omega), eM_isBeast hB.2.2.1 (by omega), pu_c, pu_c]
  by_cases h3 : 0 ≤ x.toInt ∧ x.toInt < (B : Int)
  · rw [pu_t h3, pu_t h3, e_reC hM.2.1 hM.1, e_reM hM.2.2.1 hM.1, pu_c, pu_c]
    by_cases h1 : 0 ≤ y.toInt ∧ y.toInt ≤ (m : Int)
    · rw [pu_t h1, pu_et h1, e_in, pu_c]
      obtain ⟨b, hb, rfl⟩ := i_ix h3 (by omega)
      obtain ⟨k, hk, rfl⟩ := i_ix2 h1 (by omega)
      obtain ⟨C2, M2, c, e1, e2, hX⟩ := e_at hE hk hn
      have hb2 : b < 6 := by omega
      have sb := hX.2.1.2.2.2.2 b hb
      rw [e1, e2, pu_cv, pu_cv]
      simp only [pu_r hb2 (show (6 : Nat) < 2 ^ 31 by decide), sb.1, sb.2.1, sb.2.2.1]
      by_cases q0 : w = 0
      · rw [if_pos q0, pu_t (by rw [q0]; decide), if_neg (fun z => z q0)]; exact ⟨_, _, _, rfl, rfl⟩
      · rw [if_neg q0]
        by_cases q1 : w = 1
        · rw [if_pos q1, pu_t (by rw [q1]; decide), if_pos q0, if_neg (fun z => z q1)]; exact ⟨_, _, _, rfl, rfl⟩
        · rw [if_neg q1]
          by_cases q2 : w = 2
          · rw [if_pos q2, pu_t (by rw [q2]; decide), if_pos q0, if_pos q1]
            by_cases u : M2 29 b = 0
            · rw [if_pos u, if_pos u]; exact ⟨_, _, _, rfl, rfl⟩
            · rw [if_neg u, if_neg u]; exact ⟨_, _, _, rfl, rfl⟩
          · rw [if_neg q2, pu_f]
            · exact ⟨_, _, _, rfl, rfl⟩
            · intro u
              have e2 : (2 : Int32).toInt = 2 := by decide
              rw [e2, Int32.toInt_zero] at u
              have h0 : w.toInt ≠ 0 := fun v => q0 (Int32.toInt_inj.mp (by rw [v]; decide))
              have h1 : w.toInt ≠ 1 := fun v => q1 (Int32.toInt_inj.mp (by rw [v]; decide))
              have h2 : w.toInt ≠ 2 := fun v => q2 (Int32.toInt_inj.mp (by rw [v]; decide))
              omega
    · rw [pu_f h1, pu_ef h1]; exact ⟨_, _, _, rfl, rfl⟩
  · rw [pu_f h3, pu_f h3]; exact ⟨_, _, _, rfl, rfl⟩
theorem e_kindOf {k : Nat} (hk : k < 6) {x : Int32} (h : x = 0 ∨ x = 1 ∨ x = 2 ∨ x = 3 ∨ x = 4 ∨ x = 5) (hn : 400 ≤ n) : ∃ v : Int32, F_Hare_isOfKind n T (nI k) x C = some (v, C) ∧ F_Model_isUnder n (nI k) x M = some (v, M) := by
  obtain ⟨q, rfl⟩ : ∃ q, n = q + 4 := ⟨n - 4, by omega⟩
  rcases (show k = 0 ∨ k = 1 ∨ k = 2 ∨ k = 3 ∨ k = 4 ∨ k = 5 by omega) with rfl | rfl | rfl | rfl | rfl | rfl <;> rcases h with rfl | rfl | rfl | rfl | rfl | rfl <;> exact ⟨_, rfl, rfl⟩
theorem e_kind6 {k : Nat} (hk : k < 6) (hn : 400 ≤ n) : F_Hare_isOfKind n T (nI k) 6 C = some (0, C) := by
  obtain ⟨q, rfl⟩ : ∃ q, n = q + 4 := ⟨n - 4, by omega⟩
  rcases (show k = 0 ∨ k = 1 ∨ k = 2 ∨ k = 3 ∨ k = 4 ∨ k = 5 by omega) with rfl | rfl | rfl | rfl | rfl | rfl <;> rfl
theorem s_taken (h : Inv T C M) (hn : 400 ≤ n) (x y : Int32) : Sim T (F_Hare_taken n T x y C) (F_Model_taken n x y M) := by
  refine Sim.fr h ?_ (fun q e => ⟨_, fr_Hare_taken e, by decide⟩) (fun q e => ⟨_, fr_Model_taken e, by decide⟩)
  obtain ⟨G, B, m, r, z, hp⟩ := h
  have hE := hp.E
  have hB := hp.2.1
  have hM := hp.2.2.1
  have hm := hM.1
  have hB6 := hB.1
  have e6 : (6 : Int32).toInt = 6 := by decide
  have e49 : (49 : Int32).toInt = 49 := by decide
  have e50 : (50 : Int32).toInt = 50 := by decide
  unfold F_Hare_taken B_Hare_taken_0 F_Model_taken B_Model_taken_0
  rw [e_in, pu_c, Int32.toInt_zero, e6]
  by_cases h1 : y < 0
  · have h1' := Int32.lt_iff_toInt_lt.mp h1
    rw [Int32.toInt_zero] at h1'
    rw [if_pos h1, pu_f (by omega)]; exact ⟨_, _, _, rfl, rfl⟩
  have h1' : ¬ y.toInt < 0 := fun z => h1 (Int32.lt_iff_toInt_lt.mpr (by rw [Int32.toInt_zero]; exact z))
  rw [if_neg h1]
  by_cases h2 : y ≤ 6
  case neg =>
    have h2' : ¬ y.toInt ≤ 6 := fun z => h2 (Int32.le_iff_toInt_le.mpr (by rw [e6]; exact z))
    rw [if_neg h2, pu_f (by omega)]; exact ⟨_, _, _, rfl, rfl⟩
  have h2' := Int32.le_iff_toInt_le.mp h2
  rw [e6] at h2'
  rw [if_pos h2, pu_t (by omega), e_in, pu_c, Int32.toInt_zero, e49]
  by_cases h3 : x < 0
  · have h3' := Int32.lt_iff_toInt_lt.mp h3
    rw [Int32.toInt_zero] at h3'
    rw [if_pos h3, pu_f (by omega)]; exact ⟨_, _, _, rfl, rfl⟩
  have h3' : ¬ x.toInt < 0 := fun z => h3 (Int32.lt_iff_toInt_lt.mpr (by rw [Int32.toInt_zero]; exact z))
  rw [if_neg h3]
  by_cases h4 : x < 50
  case neg =>
    have h4' : ¬ x.toInt < 50 := fun z => h4 (Int32.lt_iff_toInt_lt.mpr (by rw [e50]; exact z))
    rw [if_neg h4, pu_f (by omega)]; exact ⟨_, _, _, rfl, rfl⟩
  have h4' := Int32.lt_iff_toInt_lt.mp h4
  rw [e50] at h4'
  rw [if_pos h4, pu_t (by omega)]
  obtain ⟨y6, hy6, rfl⟩ := i_ix2 (x := y) (k := 6) ⟨by omega, h2'⟩ (by decide)
  by_cases h5 : (6 : Int32) ≤ x
  · have h5' := Int32.le_iff_toInt_le.mp h5
    rw [e6] at h5'
    rw [if_pos h5, if_pos h5]
    obtain ⟨xi, hxi, rfl⟩ := i_ix (x := x) (k := 50) ⟨by omega, h4'⟩ (by decide)
    rw [nI_toInt (by omega)] at h5'
    have es : nI xi - 6 = nI (xi - 6) := pk_sub (b := 6) (by omega)
    rw [es]
    unfold F_Hare_claimTaken B_Hare_claimTaken_0
    rw [hM.2.1, hM.2.2.1]
    obtain ⟨C2, M2, c, e1, e2, hX⟩ := e_at hE (Nat.le_refl m) hn
    have hc := hX.2.1.1
    rw [e1, e2, pu_cv, pu_cv, e_hasC hX.2.1.2.1 hc, hX.2.1.2.2.1, pu_c, nI_toInt (by omega)]
    by_cases h6 : xi - 6 < c
    · rw [pu_t (by omega), if_pos (nI_lt h6 (by omega))]
      have hi44 : xi - 6 < 44 := by omega
      have hs := hX.2.1.2.2.2.1 _ h6
      obtain ⟨-, -, -, -, -, -, -, -, -, -, k, p, b, t, x, hk, hp, hb, ht, hx, y1, y2, -⟩ := id hs
      rw [pu_r hi44 (by decide), hs.1, y1]
      by_cases h7 : y6 = 6
      · subst h7
        have ek := e_kind6 (n := n) (T := T) (C := C2) hk hn
        have ek' : F_Hare_isOfKind n T (nI k) (nI 6) C2 = some (0, C2) := ek
        rw [ek', pu_c, if_pos rfl, if_pos (show (6 : Int32) ≤ nI 6 by decide), pu_c]
        exact ⟨_, _, _, rfl, rfl⟩
      · obtain ⟨v, f1, f2⟩ := e_kindOf (n := n) (T := T) (C := C2) (M := M2) hk (x := nI y6) (by
          rcases (show y6 = 0 ∨ y6 = 1 ∨ y6 = 2 ∨ y6 = 3 ∨ y6 = 4 ∨ y6 = 5 by omega) with rfl | rfl | rfl | rfl | rfl | rfl <;> decide) hn
        rw [f1, if_neg (show ¬ (6 : Int32) ≤ nI y6 from nI_ge (b := 6) (by omega) (by decide)), pu_r hi44 (by decide), y1, f2, pu_c, pu_c]
        by_cases u : v = 0
        · rw [if_pos u, if_pos u, pu_c]; exact ⟨_, _, _, rfl, rfl⟩
        · rw [if_neg u, if_neg u, pu_r hi44 (by decide), pu_r hi44 (by decide), hs.2.1, pu_c]; exact ⟨_, _, _, rfl, rfl⟩
    · rw [pu_f (by omega), if_neg (nI_nlt (by omega) (by omega)), pu_c]; exact ⟨_, _, _, rfl, rfl⟩
  · have h5' : ¬ (6 : Int) ≤ x.toInt := fun z => h5 (Int32.le_iff_toInt_le.mpr (by rw [e6]; exact z))
    rw [if_neg h5, if_neg h5]
    obtain ⟨xi, hxi, rfl⟩ := i_ix (x := x) (k := 6) ⟨by omega, by omega⟩ (by decide)
    unfold F_Hare_beastTaken B_Hare_beastTaken_0
    rw [eC_hasBeast hB.2.1 (by omega), pu_c, nI_toInt (by omega), hB.2.2.1]
    by_cases h6 : xi < B
    · rw [pu_t (by omega), if_pos (nI_lt h6 (by omega))]
      by_cases h7 : y6 = 6
      · subst h7
        rw [if_neg (show ¬ ¬ nI 6 = (6 : Int32) by decide), if_neg (show ¬ ¬ nI 6 = (6 : Int32) by decide), pu_r hxi (by decide), pu_r hxi (by decide), (hB.2.2.2 xi h6).1, pu_c]
        exact ⟨_, _, _, rfl, rfl⟩
      · have h8 : ¬ nI y6 = (6 : Int32) := fun z => h7 ((nI_eq (b := 6) (by omega) (by decide)).mp z)
        rw [if_pos h8, if_pos h8, pu_c]; exact ⟨_, _, _, rfl, rfl⟩
    · rw [pu_f (by omega), if_neg (nI_nlt (by omega) (by omega)), pu_c]; exact ⟨_, _, _, rfl, rfl⟩
end CA
