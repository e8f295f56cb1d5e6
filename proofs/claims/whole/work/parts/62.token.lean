/-! PURE: the next token, both sides -/
def mtk (k : Nat) : Int32 := if k = 0 then 0 else if k = 1 then -1 else if k = 2 then 1 else if k = 3 then 2 else if k = 4 then 3 else if k = 5 then 3 else if k = 6 then 4 else if k = 7 then 5 else if k = 8 then 6 else nI k
def kOK (k : Nat) : Prop := k ≤ 8 ∨ k = 40 ∨ k = 41 ∨ k = 42 ∨ k = 43 ∨ k = 45 ∨ k = 59 ∨ k = 60 ∨ k = 61
def lxC (n T z : Nat) (t : Nat → Nat) (i p e k v : Nat) : Prop := ∀ C, tkC z t C → C 112 0 = nI i → ∃ C2, F_Reader_scan n T C = some C2 ∧ C2 112 0 = nI e ∧ C2 110 0 = nI p ∧ C2 109 0 = nI k ∧ (k = 2 → C2 111 0 = nI v) ∧ (k = 3 → C2 111 0 = -(nI (v + 1)))
def lxM (n z : Nat) (t : Nat → Nat) (i p e k v : Nat) : Prop := ∀ M, tkM z t M → M 40 0 = nI i → ∃ M2, F_Model_next n M = some M2 ∧ M2 40 0 = nI e ∧ M2 41 0 = nI p ∧ M2 42 0 = mtk k ∧ (k = 2 ∨ k = 3 → M2 43 0 = nI v) ∧ (k = 4 → M2 43 0 = 0) ∧ (k = 5 → M2 43 0 = 1)
def pm (j : Nat) : Nat := ([2, 3, 4, 5, 6, 7, 0, 1, 8, 9, 10] : List Nat).getD j 0
theorem pm_ok : ∀ j, j < 11 → pm j < 11 ∧ lN (pk (fun l => (wd j).getD l 0) 0 (wd j).length) = dk_words (pm j) ∧ (∀ k, k < pm j → ¬ dk_words k = dk_words (pm j)) ∧ ¬ dk_words (pm j) = 0 := by decide +kernel
theorem pm_onto : ∀ k, k < 11 → ∃ j, j < 11 ∧ pm j = k := by decide +kernel
def wk (j : Nat) : Nat := if j < 6 then 3 else 4 + (j - 6)
theorem pu_rl {β : Type} {n k : Nat} {f : Nat → Int64} {K : Int64 → Option β} (h : k < n) (hn : n < 2 ^ 31) : dk_rl n f (nI k) K = K (f k) := by
  unfold dk_rl
  rw [if_neg (nI_in h hn), nI_clamp (by omega)]
section LX
variable {n T z i p e : Nat} {t : Nat → Nat} {C M : dk_S}
theorem nx_loop {w : Int64} {k : Nat} (hk : k ≤ 11) (h1 : ∀ j, j < k → ¬ dk_words j = w) (h2 : k < 11 → dk_words k = w) : ∀ (d j q : Nat), j + d = k → d < q → B_Model_next_111 n q w (nI j) M = B_Model_next_136 n (nI k) M
  | d, j, 0, _, hq => absurd hq (Nat.not_lt_zero _)
  | 0, j, q + 1, hj, hq => by
    have e : j = k := by omega
    subst e
    unfold B_Model_next_111 B_Model_next_111b
    by_cases h : j = 11
    · subst h
      rw [if_pos (show (11 : Int32) ≤ nI 11 by decide)]
    · rw [if_neg (show ¬ (11 : Int32) ≤ nI j from nI_ge (b := 11) (by omega) (by decide))]
      rw [pu_rl (show j < 11 by omega) (by decide), if_pos ((lg_cmp_eq _ _).mpr (h2 (by omega)))]
  | d + 1, j, q + 1, hj, hq => by
    unfold B_Model_next_111 B_Model_next_111b
    rw [if_neg (show ¬ (11 : Int32) ≤ nI j from nI_ge (b := 11) (by omega) (by decide))]
    rw [pu_rl (show j < 11 by omega) (by decide), if_neg (fun q => h1 j (by omega) ((lg_cmp_eq _ _).mp q)), nI_1]
    exact nx_loop hk h1 h2 d (j + 1) q (by omega) (by omega)
/-- what the reference makes of a word -/
theorem m_136 {j : Nat} (hj : j < 11) : ∃ M2, B_Model_next_136 n (nI (pm j)) M = some M2 ∧ M2 42 0 = mtk (wk j) ∧ (wk j = 2 ∨ wk j = 3 → M2 43 0 = nI j) ∧ (wk j = 4 → M2 43 0 = 0) ∧ (wk j = 5 → M2 43 0 = 1) ∧ dk_fr [42, 43] M M2 := by
  unfold B_Model_next_136 B_Model_next_176 B_Model_next_195
  have c : ∀ x y : Int32, dk_fr [42, 43] M (dk_U (dk_U M 42 0 x) 43 0 y) := fun x y => (fr_U (by decide)).tr (fr_U (by decide))
  have r : ∀ x y : Int32, (dk_p M 42 x fun S3 => dk_p S3 43 y fun S2 => some S2) = some (dk_U (dk_U M 42 0 x) 43 0 y) := fun x y => rfl
  have f42 : ∀ x y : Int32, (dk_U (dk_U M 42 0 x) 43 0 y) 42 0 = x := fun x y => by rw [dk_U_n (by decide), pu_Us]
  have f43 : ∀ x y : Int32, (dk_U (dk_U M 42 0 x) 43 0 y) 43 0 = y := fun x y => pu_Us
  have done : ∀ x y : Int32, x = mtk (wk j) → (wk j = 2 ∨ wk j = 3 → y = nI j) → (wk j = 4 → y = 0) → (wk j = 5 → y = 1) → ∃ M2, some (dk_U (dk_U M 42 0 x) 43 0 y) = some M2 ∧ M2 42 0 = mtk (wk j) ∧ (wk j = 2 ∨ wk j = 3 → M2 43 0 = nI j) ∧ (wk j = 4 → M2 43 0 = 0) ∧ (wk j = 5 → M2 43 0 = 1) ∧ dk_fr [42, 43] M M2 := fun x y h1 h2 h3 h4 => ⟨_, rfl, by rw [f42]; exact h1, by rw [f43]; exact h2, by rw [f43]; exact h3, by rw [f43]; exact h4, c x y⟩
  rcases (show j = 0 ∨ j = 1 ∨ j = 2 ∨ j = 3 ∨ j = 4 ∨ j = 5 ∨ j = 6 ∨ j = 7 ∨ j = 8 ∨ j = 9 ∨ j = 10 by omega) with rfl | rfl | rfl | rfl | rfl | rfl | rfl | rfl | rfl | rfl | rfl
  · exact done 2 (nI 2 - 2) (by decide) (by decide) (by decide) (by decide)
  · exact done 2 (nI 3 - 2) (by decide) (by decide) (by decide) (by decide)
  · exact done 2 (nI 4 - 2) (by decide) (by decide) (by decide) (by decide)
  · exact done 2 (nI 5 - 2) (by decide) (by decide) (by decide) (by decide)
  · exact done 2 (nI 6 - 2) (by decide) (by decide) (by decide) (by decide)
  · exact done 2 (nI 7 - 2) (by decide) (by decide) (by decide) (by decide)
  · exact done 3 (nI 0) (by decide) (by decide) (by decide) (by decide)
  · exact done 3 (nI 1) (by decide) (by decide) (by decide) (by decide)
  · exact done (4 + nI 8 - 8) (nI 8 - 2) (by decide) (by decide) (by decide) (by decide)
  · exact done (4 + nI 9 - 8) (nI 9 - 2) (by decide) (by decide) (by decide) (by decide)
  · exact done (4 + nI 10 - 8) (nI 10 - 2) (by decide) (by decide) (by decide) (by decide)
theorem m_none : ∃ M2, B_Model_next_136 n (nI 11) M = some M2 ∧ M2 42 0 = mtk 1 ∧ dk_fr [42, 43] M M2 := by
  refine ⟨dk_U (dk_U M 42 0 (-1)) 43 0 (nI 11 - 2), rfl, by rw [dk_U_n (by decide), pu_Us]; rfl, (fr_U (by decide)).tr (fr_U (by decide))⟩
/-- what the class makes of a word -/
theorem c_39 {r : Int32} (h : F_Reader_numberOfWord n T C = some (r, C)) : (∀ j, j < 11 → r = nI j → ∃ C2, B_Reader_scanWord_39 n T C = some C2 ∧ C2 109 0 = nI (wk j) ∧ (wk j = 3 → C2 111 0 = -(nI (j + 1))) ∧ dk_fr [109, 111] C C2) ∧ (r = -1 → ∃ C2, B_Reader_scanWord_39 n T C = some C2 ∧ C2 109 0 = nI 1 ∧ dk_fr [109, 111] C C2) := by
  unfold B_Reader_scanWord_39
  rw [h, pu_c]
  constructor
  · intro j hj hr
    subst hr
    rw [if_pos (nI_pos' (by omega))]
    by_cases h6 : 6 ≤ j
    · rw [if_pos (show (6 : Int32) ≤ nI j from nI_le (a := 6) h6 (by omega)), pu_p]
      refine ⟨_, rfl, ?_, fun q => ?_, fr_U (by decide)⟩
      · rw [pu_Us, show nI j - 6 = nI (j - 6) from pk_sub (b := 6) h6, show (4 : Int32) + nI (j - 6) = nI (4 + (j - 6)) from nI_add 4 _]
        unfold wk
        rw [if_neg (by omega)]
      · unfold wk at q
        rw [if_neg (by omega)] at q
        omega
    · rw [if_neg (show ¬ (6 : Int32) ≤ nI j from nI_ge (b := 6) (by omega) (by decide)), pu_p, pu_p]
      refine ⟨_, rfl, ?_, fun _ => ?_, (fr_U (by decide)).tr (fr_U (by decide))⟩
      · rw [dk_U_n (by decide), pu_Us]
        unfold wk
        rw [if_pos (by omega)]
        rfl
      · rw [pu_Us]
        rcases (show j = 0 ∨ j = 1 ∨ j = 2 ∨ j = 3 ∨ j = 4 ∨ j = 5 by omega) with rfl | rfl | rfl | rfl | rfl | rfl <;> decide
  · intro hr
    subst hr
    rw [if_neg (show ¬ (0 : Int32) ≤ -1 by decide), pu_p]
    exact ⟨_, rfl, pu_Us, fr_U (by decide)⟩
theorem wk_ok {j : Nat} (hj : j < 11) : 3 ≤ wk j ∧ wk j ≤ 8 := by
  unfold wk
  split <;> omega
/-- the reference's word: which it is follows from the class's comparisons -/
theorem m_word {w2 : Int64} (ht : tpe z t) (he : e ≤ z) (hpe : p ≤ e) (hl : ∀ j, p ≤ j → j < e → isL (t j) = true) (h1 : e - p ≤ 6 → w2 = lN (pk t p (e - p))) (h2 : ¬ e - p ≤ 6 → w2 = 0) (hn : 400 ≤ n) : (∀ j, j < 11 → isW t p e (wd j) → B_Model_next_111 n n w2 0 M = B_Model_next_136 n (nI (pm j)) M) ∧ ((∀ j, j < 11 → ¬ isW t p e (wd j)) → B_Model_next_111 n n w2 0 M = B_Model_next_136 n (nI 11) M) := by
  constructor
  · intro j hj hW
    obtain ⟨a1, a2, a3, a4, a5⟩ := wd_ok j hj
    obtain ⟨b1, b2, b3, b4⟩ := pm_ok j hj
    have e1 : e - p = (wd j).length := by have := hW.1; omega
    have hw : w2 = dk_words (pm j) := by
      rw [h1 (by omega), e1, ← b2]
      congr 1
      refine pk_cg _ (fun i hi => ?_)
      rw [hW.2 i hi, Nat.zero_add]
    rw [hw]
    exact nx_loop (k := pm j) (by omega) b3 (fun _ => rfl) (pm j) 0 n (by omega) (by omega)
  · intro hno
    refine nx_loop (k := 11) (Nat.le_refl _) (fun k hk q => ?_) (fun q => absurd q (by omega)) 11 0 n (by omega) (by omega)
    obtain ⟨j, hj, rfl⟩ := pm_onto k hk
    obtain ⟨a1, a2, a3, a4, a5⟩ := wd_ok j hj
    obtain ⟨b1, b2, b3, b4⟩ := pm_ok j hj
    by_cases h6 : e - p ≤ 6
    · rw [← b2, h1 h6] at q
      have l1 : pk t p (e - p) < 256 ^ (e - p) := pkb_lt _ (fun i hi => ht.2 _ (by omega))
      have l2 : pk (fun l => (wd j).getD l 0) 0 (wd j).length < 256 ^ (wd j).length := pkb_lt _ (fun i hi => by
        have := a5 i hi
        rw [Nat.zero_add]
        show (wd j).getD i 0 < 256
        omega)
      have m1 : 256 ^ (e - p) ≤ 256 ^ 6 := Nat.pow_le_pow_right (by decide) h6
      have m2 : 256 ^ (wd j).length ≤ 256 ^ 6 := Nat.pow_le_pow_right (by decide) a4
      have qq := (pk_lEQ (by omega) (by omega)).mp q
      obtain ⟨c1, c2⟩ := pk_inj _ _ (fun i hi => by
        have := a5 i hi
        rw [Nat.zero_add]
        show 1 ≤ (wd j).getD i 0 ∧ (wd j).getD i 0 < 256
        omega) (fun i hi => by
        have := isL_i.mp (hl (p + i) (by omega) (by omega))
        omega) qq
      refine hno j hj ⟨by omega, fun l hl => ?_⟩
      have := c2 l hl
      rw [Nat.zero_add] at this
      exact this.symm
    · rw [h2 h6] at q
      exact b4 q
theorem c_start (ht : tpe z t) (hC : tkC z t C) (h : C 112 0 = nI i) (hi : i ≤ z) (hn : 400 ≤ n) : F_Reader_scan n T C = B_Reader_scan_41 n T (nI (rn isB t (z - i) i)) C := by
  have hz := ht.1
  unfold F_Reader_scan B_Reader_scan_0
  rw [h]
  exact sc_skip hC ht (z - i) i n (by omega) (by omega)
theorem m_start (ht : tpe z t) (hM : tkM z t M) (h : M 40 0 = nI i) (hi : i ≤ z) (hn : 400 ≤ n) : ∃ M2, F_Model_next n M = B_Model_next_52 n M2 ∧ M2 40 0 = nI (rn isB t (z - i) i) ∧ tkM z t M2 := by
  have hz := ht.1
  unfold F_Model_next
  obtain ⟨M2, e1, e2, e3⟩ := nx_skip ht (z - i) i n M hM h (by omega) (by omega)
  exact ⟨M2, e1, e2, hM.cg e3 (by decide)⟩
/-- the class at a token's first byte -/
theorem c_41 (hC : tkC z t C) : ∃ C2, B_Reader_scan_41 n T (nI p) C = (if nI p < nI z then (dk_r 160 (C2 13) (nI p) fun v5 => dk_c (F_Reader_isLetter n T v5 C2) fun r7 S6 => if r7 = 0 then (dk_r 160 (S6 13) (nI p) fun v8 => dk_c (F_Reader_isDigit n T v8 S6) fun r10 S9 => if r10 = 0 then (dk_r 160 (S9 13) (nI p) fun v11 => dk_c (F_Reader_isSign n T v11 S9) fun r13 S12 => if r13 = 0 then (B_Reader_scan_128 n T (1 : Int32) S12) else (dk_r 160 (S12 13) (nI p) fun v14 => B_Reader_scan_128 n T v14 S12)) else (dk_cv (F_Reader_scanNumber n T S9) fun S15 => some S15)) else (dk_cv (F_Reader_scanWord n T S6) fun S17 => some S17)) else (dk_p C2 109 (0 : Int32) fun S19 => some S19)) ∧ tkC z t C2 ∧ C2 110 0 = nI p ∧ C2 112 0 = nI p := by
  have c : dk_fr [110, 112] C (dk_U (dk_U C 110 0 (nI p)) 112 0 (nI p)) := (fr_U (by decide)).tr (fr_U (by decide))
  refine ⟨dk_U (dk_U C 110 0 (nI p)) 112 0 (nI p), ?_, hC.cg c (by decide), by rw [dk_U_n (by decide), pu_Us], pu_Us⟩
  unfold B_Reader_scan_41
  rw [pu_p, pu_p, (hC.cg c (by decide)).1]
/-- the reference at a token's first byte -/
theorem m_52 (hM : tkM z t M) (h : M 40 0 = nI p) (hp : p ≤ z) (hz : z ≤ 160) : ∃ M2, tkM z t M2 ∧ M2 40 0 = nI p ∧ M2 41 0 = nI p ∧ M2 42 0 = 0 ∧ M2 43 0 = 0 ∧ (p = z → B_Model_next_52 n M = some M2) ∧ (p < z → t p < 256 → B_Model_next_52 n M = (if b2 (isL (t p) = true) = 0 then (if b2 (isD (t p) = true) = 0 then (if isS (t p) = true then B_Model_next_363 n (nI (t p)) 1 M2 else B_Model_next_363 n (nI (t p)) 0 M2) else B_Model_next_214 n n 0 M2) else (dk_c (F_Model_letters n M2) fun r23 S22 => B_Model_next_111 n n r23 (0 : Int32) S22))) := by
  have c : dk_fr [41, 42, 43] M (dk_U (dk_U (dk_U M 41 0 (nI p)) 42 0 0) 43 0 0) := ((fr_U (by decide)).tr (fr_U (by decide))).tr (fr_U (by decide))
  have hM2 := hM.cg c (by decide)
  have h40 : (dk_U (dk_U (dk_U M 41 0 (nI p)) 42 0 0) 43 0 0) 40 0 = nI p := by rw [c 40 (by decide)]; exact h
  refine ⟨dk_U (dk_U (dk_U M 41 0 (nI p)) 42 0 0) 43 0 0, hM2, h40, by simp (decide := true) only [dk_U_n, pu_Us], by simp (decide := true) only [dk_U_n, pu_Us], pu_Us, fun e => ?_, fun e hv => ?_⟩
  · unfold B_Model_next_52
    rw [h, pu_p, pu_p, pu_p, h40, hM2.1, e, if_neg (show ¬ ¬ nI z = nI z from fun q => q rfl)]
  · unfold B_Model_next_52 B_Model_next_358
    rw [h, pu_p, pu_p, pu_p, h40, hM2.1, if_pos (show ¬ nI p = nI z from fun q => by have := (nI_eq (by omega) (by omega)).mp q; omega), pu_r (by omega) (by decide), hM2.2 p e, e_letM hv, pu_c]
    by_cases q1 : isL (t p) = true
    · rw [pu_et q1, pu_et q1]
    · rw [pu_ef q1, pu_ef q1, e_digM hv, pu_c]
      by_cases q2 : isD (t p) = true
      · rw [pu_et q2, pu_et q2]
      · rw [pu_ef q2, pu_ef q2]
        have E : ∀ k, k < 128 → (nI (t p) = nI k ↔ t p = k) := fun k hk => nI_eq (by omega) (by omega)
        by_cases q3 : isS (t p) = true
        · rw [if_pos q3]
          rcases isS_i.mp q3 with e | e | e | e | e | e | e | e <;> rw [e] <;> rfl
        · rw [if_neg q3]
          have N : ∀ k, (k = 40 ∨ k = 41 ∨ k = 42 ∨ k = 43 ∨ k = 45 ∨ k = 59 ∨ k = 60 ∨ k = 61) → ¬ nI (t p) = nI k := fun k hk q => q3 (isS_i.mpr (by have := (E k (by omega)).mp q; omega))
          rw [if_neg (show ¬ nI (t p) = 40 from N 40 (by decide)), if_neg (show ¬ nI (t p) = 41 from N 41 (by decide)), if_neg (show ¬ nI (t p) = 59 from N 59 (by decide)), if_neg (show ¬ nI (t p) = 43 from N 43 (by decide)), if_neg (show ¬ nI (t p) = 45 from N 45 (by decide)), if_neg (show ¬ nI (t p) = 42 from N 42 (by decide)), if_neg (show ¬ nI (t p) = 60 from N 60 (by decide)), if_pos (show ¬ nI (t p) = 61 from N 61 (by decide))]
end LX
