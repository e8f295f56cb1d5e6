/-! PURE: bits, and the moments that were left out -/
theorem sh_31 : ∀ i, i < 32 → ((nI i &&& 31).toBitVec.smod 32).toNat = i := by decide +kernel
theorem bit0_iff {w : Int32} {i : Nat} (hi : i < 32) : bit0 w i ↔ w.toBitVec.getLsbD i = false := by
  unfold bit0
  rw [pk_and _ 1 (by decide)]
  have e : (w >>> (nI i &&& 31)).toBitVec = w.toBitVec.sshiftRight i := by
    show w.toBitVec.sshiftRight ((nI i &&& 31).toBitVec.smod 32).toNat = _
    rw [sh_31 i hi]
  have e2 : (w.toBitVec.sshiftRight i).getLsbD 0 = w.toBitVec.getLsbD i := by
    rw [BitVec.getLsbD_sshiftRight]; simp [hi]
  rw [e, ← e2]
  have key : ∀ x : BitVec 32, nI (x.toNat % 2 ^ 1) = 0 ↔ x.getLsbD 0 = false := by
    intro x
    have lt : x.toNat % 2 ^ 1 < 2 := Nat.mod_lt _ (by decide)
    rw [show (0 : Int32) = nI 0 from rfl, nI_eq (by omega) (by decide)]
    show _ ↔ x.toNat.testBit 0 = false
    rw [Nat.testBit_zero, decide_eq_false_iff_not]
    omega
  exact key _
theorem bit_v (w : Int32) (i : Nat) : (w >>> (nI i &&& 31)) &&& (1 : Int32) = 0 ∨ (w >>> (nI i &&& 31)) &&& (1 : Int32) = 1 := by
  obtain ⟨j, hj, e⟩ := pk_andE (w >>> (nI i &&& 31)) (m := 1) 1 (by decide)
  rw [e]
  rcases (show j = 0 ∨ j = 1 by omega) with rfl | rfl
  · exact Or.inl rfl
  · exact Or.inr rfl
theorem sl_v {v : Int32} {j : Nat} (hj : j < 32) : (v <<< (nI j &&& 31)).toBitVec = v.toBitVec <<< j := by
  show v.toBitVec <<< ((nI j &&& 31).toBitVec.smod 32).toNat = _
  rw [sh_31 j hj]
theorem bit_or0 {x : Int32} {j : Nat} (hj : j < 32) : x ||| ((0 : Int32) <<< (nI j &&& 31)) = x := by
  apply Int32.toBitVec_inj.mp
  rw [Int32.toBitVec_or, sl_v hj]
  show x.toBitVec ||| ((0#32) <<< j) = _
  rw [BitVec.zero_shiftLeft, BitVec.or_zero]
theorem bit_or1 {x : Int32} {i j : Nat} (hi : i < 32) (hj : j < 32) : bit0 (x ||| ((1 : Int32) <<< (nI j &&& 31))) i ↔ bit0 x i ∧ i ≠ j := by
  rw [bit0_iff hi, bit0_iff hi, Int32.toBitVec_or, sl_v hj, BitVec.getLsbD_or, BitVec.getLsbD_shiftLeft]
  show (x.toBitVec.getLsbD i || (decide (i < 32) && !decide (i < j) && (1#32).getLsbD (i - j))) = false ↔ _
  rw [BitVec.getLsbD_one]
  by_cases q : i = j
  · subst q; simp [hi]
  · by_cases w : i < j
    · simp [q, w]
    · have : ¬ i - j = 0 := by omega
      simp [q, this]
section WT
variable {n T G B N m r z : Nat} {C C2 M M2 : dk_S}
theorem wit_loop {gone : Int32} (hM : pM G B m C M) : ∀ (d j q : Nat) (x2 : Int32), j + d = m → d < q → (∀ i, i < 32 → (bit0 x2 i ↔ (j ≤ i ∨ ¬ M 11 i = 1 ∨ bit0 gone (cnt (M 11) i)))) → ∃ w, B_Model_without_7 n q gone x2 (nI (cnt (M 11) j)) (nI j) M = some (w, M) ∧ ∀ i, i < m → (bit0 w i ↔ (¬ M 11 i = 1 ∨ bit0 gone (cnt (M 11) i)))
  | d, j, 0, _, _, hq, _ => absurd hq (Nat.not_lt_zero _)
  | 0, j, q + 1, x2, hj, hq, hx => by
    have hm := hM.1
    unfold B_Model_without_7 B_Model_without_7b
    rw [hM.2.2.1, if_pos (nI_le (by omega) (by omega))]
    refine ⟨x2, rfl, fun i hi => ?_⟩
    rw [hx i (by omega)]
    constructor
    · intro h
      rcases h with h | h
      · omega
      · exact h
    · exact fun h => Or.inr h
  | d + 1, j, q + 1, x2, hj, hq, hx => by
    have hm := hM.1
    unfold B_Model_without_7 B_Model_without_7b B_Model_without_41
    rw [hM.2.2.1, if_neg (nI_ge (by omega) (by omega)), pu_r (by omega) (by decide), nI_1]
    have hc6 := cnt_le (M 11) j
    by_cases q1 : M 11 j = 1
    · rw [if_neg (show ¬ ¬ M 11 j = 1 from fun z => z q1), nI_1]
      have ec : cnt (M 11) (j + 1) = cnt (M 11) j + 1 := by rw [cnt, if_pos q1]
      rw [← ec]
      rcases bit_v gone (cnt (M 11) j) with v | v
      · rw [v, bit_or0 (by omega)]
        refine wit_loop hM d (j + 1) q x2 (by omega) (by omega) (fun i hi => ?_)
        rw [hx i hi]
        by_cases e : i = j
        · subst e
          exact ⟨fun _ => Or.inr (Or.inr v), fun _ => Or.inl (Nat.le_refl _)⟩
        · constructor
          · rintro (h | h)
            · exact Or.inl (by omega)
            · exact Or.inr h
          · rintro (h | h)
            · exact Or.inl (by omega)
            · exact Or.inr h
      · rw [v]
        refine wit_loop hM d (j + 1) q _ (by omega) (by omega) (fun i hi => ?_)
        rw [bit_or1 hi (by omega), hx i hi]
        by_cases e : i = j
        · subst e
          constructor
          · exact fun h => absurd rfl h.2
          · rintro (h | h | h)
            · omega
            · exact absurd q1 h
            · unfold bit0 at h; rw [v] at h; exact absurd h (by decide)
        · constructor
          · rintro ⟨h | h, -⟩
            · exact Or.inl (by omega)
            · exact Or.inr h
          · rintro (h | h)
            · exact ⟨Or.inl (by omega), e⟩
            · exact ⟨Or.inr h, e⟩
    · rw [if_pos q1]
      have ec : cnt (M 11) (j + 1) = cnt (M 11) j := by rw [cnt, if_neg q1]; omega
      rw [← ec]
      refine wit_loop hM d (j + 1) q x2 (by omega) (by omega) (fun i hi => ?_)
      rw [hx i hi]
      by_cases e : i = j
      · subst e
        exact ⟨fun _ => Or.inr (Or.inl q1), fun _ => Or.inl (Nat.le_refl _)⟩
      · constructor
        · rintro (h | h)
          · exact Or.inl (by omega)
          · exact Or.inr h
        · rintro (h | h)
          · exact Or.inl (by omega)
          · exact Or.inr h
theorem e_without {gone : Int32} (hM : pM G B m C M) (hn : 400 ≤ n) : ∃ w, F_Model_without n gone M = some (w, M) ∧ ∀ i, i < m → (bit0 w i ↔ (¬ M 11 i = 1 ∨ bit0 gone (cnt (M 11) i))) := by
  have hm := hM.1
  unfold F_Model_without B_Model_without_0
  exact wit_loop (n := n) (gone := gone) hM m 0 n 0 (by omega) (by omega) (fun i hi => ⟨fun _ => Or.inl (Nat.zero_le _), fun _ => bit0_0 hi⟩)
theorem rw_loop {gone w : Int32} {u : Nat → Int32} (hw : ∀ i, i < m → (bit0 w i ↔ (¬ u i = 1 ∨ bit0 gone (cnt u i)))) (hn : 400 ≤ n) : ∀ (d i q c : Nat) (C M : dk_S), i + d = m → d < q → pE T G B m r C M → M 11 = u → pSc G B B c C M → pNow C M → c ≤ 2 * B + i → ∃ C2 M2 c2, B_Scene_reachWithout_8 n T q gone (nI (cnt u i)) (nI i) C = some C2 ∧ B_Model_works_119 n q (nI m) w (nI i) M = some M2 ∧ pX T G B m r c2 C2 M2 ∧ dk_fr kC C C2 ∧ dk_fr kM M M2
  | d, i, 0, _, _, _, _, hq, _, _, _, _, _ => absurd hq (Nat.not_lt_zero _)
  | 0, i, q + 1, c, C, M, hi, hq, hE, hu, hS, hN, hc => by
    have hm := hE.2.2.1.1
    unfold B_Scene_reachWithout_8 B_Scene_reachWithout_8b
    rw [hE.2.2.1.2.1, if_pos (nI_le (by omega) (by omega)), show i = m by omega, works_e hm]
    exact ⟨C, M, c, rfl, rfl, ⟨hE, hS, hN⟩, dk_fr.rf, dk_fr.rf⟩
  | d + 1, i, q + 1, c, C, M, hi, hq, hE, hu, hS, hN, hc => by
    have hm := hE.2.2.1.1
    have hB6 := hE.2.1.1
    have hi32 : i < 32 := by omega
    have eu : C 11 i = u i := by rw [(hE.2.2.1.2.2.2.1 i (by omega)).2.2.2.2.2.1, hu]
    have lv : bit0 w i → ∃ C2 M2 c2, (dk_cv (F_Scene_live n T (nI i) C) fun S1 => B_Scene_reachWithout_63 n T (fun x1 x2 x3 S => B_Scene_reachWithout_8 n T q x1 x2 x3 S) gone (nI (cnt u (i + 1))) (nI i) S1) = some C2 ∧ B_Model_works_119 n (q + 1) (nI m) w (nI i) M = some M2 ∧ pX T G B m r c2 C2 M2 ∧ dk_fr kC C C2 ∧ dk_fr kM M M2 := by
      intro hb
      obtain ⟨C3, M3, c3, f1, f2, f3, f4, f5, f6, f7⟩ := step_pair (n := n) hE hS (by omega) (show i < m by omega) hn
      obtain ⟨C4, M4, c4, g1, g2, g3, g4, g5⟩ := rw_loop hw hn d (i + 1) q c3 C3 (dk_U M3 30 0 (M3 6 i)) (by omega) (by omega) (hE.cg f6 f7) (by rw [f7 11 (by decide)]; exact hu) f4 f5 (by omega)
      refine ⟨C4, M4, c4, ?_, ?_, g3, f6.tr g4, f7.tr g5⟩
      · rw [f1, pu_cv]
        unfold B_Scene_reachWithout_63
        rw [nI_1]
        exact g1
      · rw [works_s hm (by omega) hb f2]
        exact g2
    unfold B_Scene_reachWithout_8 B_Scene_reachWithout_8b B_Scene_reachWithout_48 B_Scene_reachWithout_53
    rw [hE.2.2.1.2.1, if_neg (nI_ge (by omega) (by omega)), pu_r hi32 (by decide), eu]
    by_cases q1 : u i = 1
    · have ec : cnt u (i + 1) = cnt u i + 1 := by rw [cnt, if_pos q1]
      rw [if_neg (show ¬ ¬ u i = 1 from fun z => z q1), nI_1, ← ec]
      by_cases q2 : bit0 gone (cnt u i)
      · rw [if_neg (show ¬ ¬ ((gone >>> (nI (cnt u i) &&& 31)) &&& (1 : Int32)) = 0 from fun z => z q2), if_neg (show ¬ (1 : Int32) = 0 by decide)]
        exact lv ((hw i (by omega)).mpr (Or.inr q2))
      · rw [if_pos (show ¬ ((gone >>> (nI (cnt u i) &&& 31)) &&& (1 : Int32)) = 0 from q2), if_pos rfl]
        have hb : ¬ bit0 w i := fun z => by
          rcases (hw i (by omega)).mp z with h | h
          · exact h q1
          · exact q2 h
        obtain ⟨C4, M4, c4, g1, g2, g3, g4, g5⟩ := rw_loop hw hn d (i + 1) q c C M (by omega) (by omega) hE hu hS hN (by omega)
        refine ⟨C4, M4, c4, ?_, ?_, g3, g4, g5⟩
        · unfold B_Scene_reachWithout_63
          rw [nI_1]
          exact g1
        · rw [works_n hm (by omega) hb]
          exact g2
    · have ec : cnt u (i + 1) = cnt u i := by rw [cnt, if_neg q1]; omega
      rw [if_pos q1, if_neg (show ¬ (1 : Int32) = 0 by decide), ← ec]
      exact lv ((hw i (by omega)).mpr (Or.inl q1))
/-- whose a beast is without some moments, on both sides -/
theorem pw_pair {b : Nat} {gone : Int32} {C1 M1 : dk_S} (hE : pE T G B m r C M) (cc : dk_fr kC C C1) (dd : dk_fr kM M M1) (hn : 400 ≤ n) : ∃ v C2 M2, F_Scene_possessorWithout n T (nI b) gone C1 = some (v, C2) ∧ F_Model_whoseWithout n (nI b) gone M1 = some (v, M2) ∧ dk_fr kC C C2 ∧ dk_fr kM M M2 ∧ (v = -1 ∨ ∃ p, p < 10 ∧ v = nI p) := by
  have hE1 := hE.cg cc dd
  have hm := hE1.2.2.1.1
  obtain ⟨w, e1, e2⟩ := e_without (n := n) (gone := gone) hE1.2.2.1 hn
  obtain ⟨C2, M2, c, f1, f2, f3, f4, f5, f6, f7⟩ := bg_start (n := n) (x1 := nI m) (x2 := w) hE1 hn
  obtain ⟨C3, M3, c3, g1, g2, g3, g4, g5⟩ := rw_loop (gone := gone) (w := w) (u := M1 11) e2 hn m 0 n c C2 M2 (by omega) (by omega) (hE1.cg f6 f7) (by rw [f7 11 (by decide)]) f4 f5 (by omega)
  obtain ⟨C4, k1, k2⟩ := e_weigh (b := b) g3 hn (dk_fr.rf (S := C3))
  obtain ⟨k2, k3, -⟩ := k2
  obtain ⟨C5, p1, p2⟩ := e_poss (b := b) g3 hn (dk_fr.rf (S := C3))
  obtain ⟨M5, u1, u2⟩ := e_whose (b := b) g3 hn (dk_fr.rf (S := M3))
  refine ⟨whV n r b C3 M3 c3, C5, M5, ?_, ?_, ((cc.tr f6).tr g4).tr (p2.up (by decide)), ((dd.tr f7).tr g5).tr (u2.up (by decide)), whV_i g3⟩
  · unfold F_Scene_possessorWithout B_Scene_possessorWithout_0 F_Scene_reachWithout B_Scene_reachWithout_0
    unfold F_Scene_possessor B_Scene_possessor_0 at p1
    rw [f1, pu_cv]
    have g1' : B_Scene_reachWithout_8 n T n gone 0 0 C2 = some C3 := g1
    rw [g1', pu_cv]
    exact p1
  · unfold F_Model_whoseWithout B_Model_whoseWithout_0 F_Model_works
    rw [e1, pu_c, hE1.2.2.1.2.2.1, f2]
    have g2' : B_Model_works_119 n n (nI m) w 0 M2 = some M3 := g2
    rw [g2', pu_cv, u1, pu_c]
end WT
