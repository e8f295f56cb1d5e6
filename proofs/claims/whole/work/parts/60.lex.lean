/-! PURE: tokens. The tape's bytes as numbers, runs of bytes, and what both scanners make of them -/
def tkC (z : Nat) (t : Nat → Nat) (C : dk_S) : Prop := C 105 0 = nI z ∧ ∀ i, i < z → C 13 i = (nI (t i)).toInt8.toInt32
def tkM (z : Nat) (t : Nat → Nat) (M : dk_S) : Prop := M 13 0 = nI z ∧ ∀ i, i < z → M 12 i = nI (t i)
def tpe (z : Nat) (t : Nat → Nat) : Prop := z ≤ 160 ∧ ∀ i, i < z → t i < 256
theorem tkC.cg {z : Nat} {t : Nat → Nat} {C C2 : dk_S} {W : List Nat} (h : tkC z t C) (c : dk_fr W C C2) (hW : ∀ k ∈ [105, 13], k ∉ W) : tkC z t C2 := by
  unfold tkC at h ⊢
  rw [c 105 (hW _ (by decide)), c 13 (hW _ (by decide))]
  exact h
theorem tkM.cg {z : Nat} {t : Nat → Nat} {M M2 : dk_S} {W : List Nat} (h : tkM z t M) (c : dk_fr W M M2) (hW : ∀ k ∈ [13, 12], k ∉ W) : tkM z t M2 := by
  unfold tkM at h ⊢
  rw [c 13 (hW _ (by decide)), c 12 (hW _ (by decide))]
  exact h
theorem sb_int : ∀ v, v < 256 → ((nI v).toInt8.toInt32).toInt = (if v < 128 then (v : Int) else (v : Int) - 256) := by decide +kernel
theorem sb_lo {v : Nat} (h : v < 128) : (nI v).toInt8.toInt32 = nI v := by
  apply Int32.toInt_inj.mp
  rw [sb_int v (by omega), if_pos h, nI_toInt (by omega)]
theorem sb_eq {v k : Nat} (hv : v < 256) (hk : k < 128) : (nI v).toInt8.toInt32 = nI k ↔ v = k := by
  rw [← Int32.toInt_inj, sb_int v hv, nI_toInt (by omega)]
  split <;> omega
def rn (P : Nat → Bool) (t : Nat → Nat) : Nat → Nat → Nat
  | 0, i => i
  | d + 1, i => if P (t i) = true then rn P t d (i + 1) else i
section RN
variable {P : Nat → Bool} {t : Nat → Nat}
theorem rn_ge : ∀ d i, i ≤ rn P t d i
  | 0, i => Nat.le_refl _
  | d + 1, i => by
    unfold rn
    split
    · have := rn_ge d (i + 1); omega
    · exact Nat.le_refl _
theorem rn_le : ∀ d i, rn P t d i ≤ i + d
  | 0, i => Nat.le_refl _
  | d + 1, i => by
    unfold rn
    split
    · have := rn_le d (i + 1); omega
    · omega
theorem rn_all : ∀ d i j, i ≤ j → j < rn P t d i → P (t j) = true
  | 0, i, j, h1, h2 => by unfold rn at h2; omega
  | d + 1, i, j, h1, h2 => by
    unfold rn at h2
    split at h2
    · rename_i h
      by_cases e : j = i
      · rw [e]; exact h
      · exact rn_all d (i + 1) j (by omega) h2
    · omega
theorem rn_stop : ∀ d i, rn P t d i < i + d → ¬ P (t (rn P t d i)) = true
  | 0, i, h => by unfold rn at h; omega
  | d + 1, i, h => by
    unfold rn at h ⊢
    split
    · rename_i hp
      rw [if_pos hp] at h
      exact rn_stop d (i + 1) (by omega)
    · rename_i hp
      exact hp
theorem rn_gt {d i : Nat} (hd : 0 < d) (h : P (t i) = true) : i < rn P t d i := by
  obtain ⟨d, rfl⟩ : ∃ k, d = k + 1 := ⟨d - 1, by omega⟩
  unfold rn
  rw [if_pos h]
  have := rn_ge (P := P) (t := t) d (i + 1)
  omega
end RN
def isB (v : Nat) : Bool := v == 32 || v == 10
def isL (v : Nat) : Bool := decide (97 ≤ v ∧ v ≤ 122)
def isD (v : Nat) : Bool := decide (48 ≤ v ∧ v ≤ 57)
def isS (v : Nat) : Bool := v == 40 || v == 41 || v == 42 || v == 43 || v == 45 || v == 59 || v == 60 || v == 61
theorem isB_i {v : Nat} : isB v = true ↔ v = 32 ∨ v = 10 := by unfold isB; simp
theorem isL_i {v : Nat} : isL v = true ↔ 97 ≤ v ∧ v ≤ 122 := by unfold isL; simp
theorem isD_i {v : Nat} : isD v = true ↔ 48 ≤ v ∧ v ≤ 57 := by unfold isD; simp
theorem isS_i {v : Nat} : isS v = true ↔ v = 40 ∨ v = 41 ∨ v = 42 ∨ v = 43 ∨ v = 45 ∨ v = 59 ∨ v = 60 ∨ v = 61 := by unfold isS; simp [or_assoc]
def sgV (x : Int32) : Int32 := ((F_Reader_isSign 0 0 x (fun _ _ => 0)).map Prod.fst).getD 0
theorem sgV_b : ∀ v, v < 256 → sgV ((nI v).toInt8.toInt32) = (if isS v = true then 1 else 0) := by decide +kernel
section LXC
variable {n T z : Nat} {t : Nat → Nat} {C M : dk_S}
theorem e_letC {v : Nat} (hv : v < 256) : F_Reader_isLetter n T ((nI v).toInt8.toInt32) C = some (b2 (isL v = true), C) := by
  unfold F_Reader_isLetter B_Reader_isLetter_0
  have e1 : (97 : Int32).toInt = 97 := by decide
  have e2 : (122 : Int32).toInt = 122 := by decide
  have hs := sb_int v hv
  simp only [Int32.lt_iff_toInt_lt, pu_b0, pu_b1, e1, e2, isL_i]
  generalize ((nI v).toInt8.toInt32).toInt = X at hs ⊢
  by_cases h1 : X < 97
  · rw [if_pos h1, b2_f (by split at hs <;> omega)]
  · rw [if_neg h1]
    by_cases h2 : 122 < X
    · rw [if_pos h2, b2_f (by split at hs <;> omega)]
    · rw [if_neg h2, b2_t (by split at hs <;> omega)]
theorem e_digC {v : Nat} (hv : v < 256) : F_Reader_isDigit n T ((nI v).toInt8.toInt32) C = some (b2 (isD v = true), C) := by
  unfold F_Reader_isDigit B_Reader_isDigit_0
  have e1 : (48 : Int32).toInt = 48 := by decide
  have e2 : (57 : Int32).toInt = 57 := by decide
  have hs := sb_int v hv
  simp only [Int32.lt_iff_toInt_lt, pu_b0, pu_b1, e1, e2, isD_i]
  generalize ((nI v).toInt8.toInt32).toInt = X at hs ⊢
  by_cases h1 : X < 48
  · rw [if_pos h1, b2_f (by split at hs <;> omega)]
  · rw [if_neg h1]
    by_cases h2 : 57 < X
    · rw [if_pos h2, b2_f (by split at hs <;> omega)]
    · rw [if_neg h2, b2_t (by split at hs <;> omega)]
theorem e_letM {v : Nat} (hv : v < 256) : F_Model_in n (nI v) 97 122 M = some (b2 (isL v = true), M) := by
  have e1 : (97 : Int32).toInt = 97 := by decide
  have e2 : (122 : Int32).toInt = 122 := by decide
  rw [e_in, e1, e2, nI_toInt (by omega)]
  congr 3
  exact propext (by rw [isL_i]; omega)
theorem e_digM {v : Nat} (hv : v < 256) : F_Model_in n (nI v) 48 57 M = some (b2 (isD v = true), M) := by
  have e1 : (48 : Int32).toInt = 48 := by decide
  have e2 : (57 : Int32).toInt = 57 := by decide
  rw [e_in, e1, e2, nI_toInt (by omega)]
  congr 3
  exact propext (by rw [isD_i]; omega)
theorem e_sign (x : Int32) : F_Reader_isSign n T x C = some (sgV x, C) := by
  by_cases h40 : x = 40
  · subst h40; rfl
  by_cases h41 : x = 41
  · subst h41; rfl
  by_cases h42 : x = 42
  · subst h42; rfl
  by_cases h43 : x = 43
  · subst h43; rfl
  by_cases h44 : x = 44
  · subst h44; rfl
  by_cases h45 : x = 45
  · subst h45; rfl
  by_cases h46 : x = 46
  · subst h46; rfl
  by_cases h47 : x = 47
  · subst h47; rfl
  by_cases h48 : x = 48
  · subst h48; rfl
  by_cases h49 : x = 49
  · subst h49; rfl
  by_cases h50 : x = 50
  · subst h50; rfl
  by_cases h51 : x = 51
  · subst h51; rfl
  by_cases h52 : x = 52
  · subst h52; rfl
  by_cases h53 : x = 53
  · subst h53; rfl
  by_cases h54 : x = 54
  · subst h54; rfl
  by_cases h55 : x = 55
  · subst h55; rfl
  by_cases h56 : x = 56
  · subst h56; rfl
  by_cases h57 : x = 57
  · subst h57; rfl
  by_cases h58 : x = 58
  · subst h58; rfl
  by_cases h59 : x = 59
  · subst h59; rfl
  by_cases h60 : x = 60
  · subst h60; rfl
  by_cases h61 : x = 61
  · subst h61; rfl
  have key : ∀ (n T : Nat) (C : dk_S), F_Reader_isSign n T x C = some (0, C) := by
    intro n T C
    unfold F_Reader_isSign B_Reader_isSign_0
    rw [if_neg h40, if_neg h41, if_neg h42, if_neg h43, if_neg h44, if_neg h45, if_neg h46, if_neg h47, if_neg h48, if_neg h49, if_neg h50, if_neg h51, if_neg h52, if_neg h53, if_neg h54, if_neg h55, if_neg h56, if_neg h57, if_neg h58, if_neg h59, if_neg h60, if_neg h61, pu_b0]
  unfold sgV
  rw [key, key]
  rfl
theorem e_sigC {v : Nat} (hv : v < 256) : F_Reader_isSign n T ((nI v).toInt8.toInt32) C = some (if isS v = true then 1 else 0, C) := by
  rw [e_sign, sgV_b v hv]
/-! blanks -/
theorem sc_skip (h : tkC z t C) (ht : tpe z t) : ∀ (d i q : Nat), i + d = z → d < q → B_Reader_scan_5 n T q (nI i) C = B_Reader_scan_41 n T (nI (rn isB t d i)) C
  | d, i, 0, _, hq => absurd hq (Nat.not_lt_zero _)
  | 0, i, q + 1, hi, hq => by
    have hz := ht.1
    unfold B_Reader_scan_5 B_Reader_scan_5b
    rw [h.1, if_pos (nI_le (by omega) (by omega))]
    rfl
  | d + 1, i, q + 1, hi, hq => by
    have hz := ht.1
    have hv := ht.2 i (by omega)
    unfold B_Reader_scan_5 B_Reader_scan_5b B_Reader_scan_35 rn
    have ih := sc_skip h ht d (i + 1) q (by omega) (by omega)
    rw [h.1, if_neg (nI_ge (by omega) (by omega)), pu_r (by omega) (by decide), h.2 i (by omega)]
    have e32 := sb_eq (k := 32) hv (by decide)
    have e10 := sb_eq (k := 10) hv (by decide)
    by_cases h1 : t i = 32
    · rw [if_pos (show (nI (t i)).toInt8.toInt32 = 32 from e32.mpr h1), if_pos (isB_i.mpr (Or.inl h1)), nI_1]
      exact ih
    · rw [if_neg (show ¬ (nI (t i)).toInt8.toInt32 = 32 from fun q => h1 (e32.mp q)), pu_r (by omega) (by decide), h.2 i (by omega)]
      by_cases h2 : t i = 10
      · rw [if_neg (show ¬ ¬ (nI (t i)).toInt8.toInt32 = 10 from fun q => q (e10.mpr h2)), if_pos (isB_i.mpr (Or.inr h2)), nI_1]
        exact ih
      · have hb : ¬ isB (t i) = true := fun q => by
          rcases isB_i.mp q with q | q
          · exact h1 q
          · exact h2 q
        rw [if_pos (show ¬ (nI (t i)).toInt8.toInt32 = 10 from fun q => h2 (e10.mp q)), if_neg hb]
theorem nx_skip (ht : tpe z t) : ∀ (d i q : Nat) (M : dk_S), tkM z t M → M 40 0 = nI i → i + d = z → d < q → ∃ M2, B_Model_next_0 n q M = B_Model_next_52 n M2 ∧ M2 40 0 = nI (rn isB t d i) ∧ dk_fr [40] M M2
  | d, i, 0, _, _, _, _, hq => absurd hq (Nat.not_lt_zero _)
  | 0, i, q + 1, M, h, h4, hi, hq => by
    have hz := ht.1
    unfold B_Model_next_0 B_Model_next_0b
    rw [h.1, h4, if_pos (nI_le (by omega) (by omega))]
    exact ⟨M, rfl, h4, dk_fr.rf⟩
  | d + 1, i, q + 1, M, h, h4, hi, hq => by
    have hz := ht.1
    have hv := ht.2 i (by omega)
    have h32 : nI (t i) = 32 ↔ t i = 32 := nI_eq (b := 32) (by omega) (by decide)
    have h10 : nI (t i) = 10 ↔ t i = 10 := nI_eq (b := 10) (by omega) (by decide)
    unfold B_Model_next_0 B_Model_next_0b B_Model_next_39 rn
    have c : dk_fr [40] M (dk_U M 40 0 (nI (i + 1))) := fr_U (by decide)
    obtain ⟨M2, e1, e2, e3⟩ := nx_skip ht d (i + 1) q (dk_U M 40 0 (nI (i + 1))) (h.cg c (by decide)) pu_Us (by omega) (by omega)
    rw [h.1, h4, if_neg (nI_ge (by omega) (by omega)), pu_r (by omega) (by decide), h.2 i (by omega)]
    by_cases h1 : t i = 32
    · rw [if_pos (show nI (t i) = 32 from h32.mpr h1), if_pos (isB_i.mpr (Or.inl h1)), pu_p, nI_1]
      exact ⟨M2, e1, e2, c.tr e3⟩
    · rw [if_neg (show ¬ nI (t i) = 32 from fun q => h1 (h32.mp q)), pu_r (by omega) (by decide), h.2 i (by omega)]
      by_cases h2 : t i = 10
      · rw [if_neg (show ¬ ¬ nI (t i) = 10 from fun q => q (h10.mpr h2)), if_pos (isB_i.mpr (Or.inr h2)), pu_p, nI_1]
        exact ⟨M2, e1, e2, c.tr e3⟩
      · have hb : ¬ isB (t i) = true := fun q => by
          rcases isB_i.mp q with q | q
          · exact h1 q
          · exact h2 q
        rw [if_pos (show ¬ nI (t i) = 10 from fun q => h2 (h10.mp q)), if_neg hb]
        exact ⟨M, rfl, h4, dk_fr.rf⟩
/-! letters, digits -/
theorem sw_loop (ht : tpe z t) : ∀ (d j q : Nat) (C : dk_S), tkC z t C → C 112 0 = nI j → j + d = z → d < q → ∃ C2, B_Reader_scanWord_0 n T q C = B_Reader_scanWord_39 n T C2 ∧ C2 112 0 = nI (rn isL t d j) ∧ dk_fr [112] C C2
  | d, j, 0, _, _, _, _, hq => absurd hq (Nat.not_lt_zero _)
  | 0, j, q + 1, C, h, h4, hj, hq => by
    have hz := ht.1
    unfold B_Reader_scanWord_0 B_Reader_scanWord_0b
    rw [h.1, h4, if_pos (nI_le (by omega) (by omega))]
    exact ⟨C, rfl, h4, dk_fr.rf⟩
  | d + 1, j, q + 1, C, h, h4, hj, hq => by
    have hz := ht.1
    unfold B_Reader_scanWord_0 B_Reader_scanWord_0b rn
    rw [h.1, h4, if_neg (nI_ge (by omega) (by omega)), pu_r (by omega) (by decide), h.2 j (by omega), e_letC (ht.2 j (by omega)), pu_c, h4, pu_p, nI_1]
    have c : dk_fr [112] C (dk_U C 112 0 (nI (j + 1))) := fr_U (by decide)
    by_cases h1 : isL (t j) = true
    · rw [pu_et h1, if_pos h1]
      obtain ⟨C2, e1, e2, e3⟩ := sw_loop ht d (j + 1) q (dk_U C 112 0 (nI (j + 1))) (h.cg c (by decide)) pu_Us (by omega) (by omega)
      exact ⟨C2, e1, e2, c.tr e3⟩
    · rw [pu_ef h1, if_neg h1]
      exact ⟨C, rfl, h4, dk_fr.rf⟩
def nv (t : Nat → Nat) (p : Nat) : Nat → Nat
  | 0 => 0
  | l + 1 => nv t p l * 10 + (t (p + l) - 48)
theorem nv_lt {p : Nat} : ∀ l, (∀ j, j < l → isD (t (p + j)) = true) → nv t p l < 10 ^ l
  | 0, _ => by
    show (0 : Nat) < 10 ^ 0
    decide
  | l + 1, h => by
    have h1 := nv_lt l (fun j hj => h j (by omega))
    have h2 := isD_i.mp (h l (by omega))
    unfold nv
    rw [Nat.pow_succ]
    omega
theorem sn_loop {p : Nat} (ht : tpe z t) : ∀ (d l q : Nat) (C : dk_S), tkC z t C → C 112 0 = nI (p + l) → p + l + d = z → d < q → (l ≤ 4 → C 111 0 = nI (nv t p l)) → ∃ C2, B_Reader_scanNumber_5 n T q C = B_Reader_scanNumber_68 n T C2 ∧ C2 112 0 = nI (rn isD t d (p + l)) ∧ (rn isD t d (p + l) - p ≤ 4 → C2 111 0 = nI (nv t p (rn isD t d (p + l) - p))) ∧ dk_fr [111, 112] C C2
  | d, l, 0, _, _, _, _, hq, _ => absurd hq (Nat.not_lt_zero _)
  | 0, l, q + 1, C, h, h4, hj, hq, hv => by
    have hz := ht.1
    unfold B_Reader_scanNumber_5 B_Reader_scanNumber_5b
    rw [h.1, h4, if_pos (nI_le (by omega) (by omega))]
    refine ⟨C, rfl, h4, ?_, dk_fr.rf⟩
    unfold rn
    rw [show p + l - p = l by omega]
    exact hv
  | d + 1, l, q + 1, C, h, h4, hj, hq, hv => by
    have hz := ht.1
    unfold B_Reader_scanNumber_5 B_Reader_scanNumber_5b rn
    rw [h.1, h4, if_neg (nI_ge (by omega) (by omega)), pu_r (by omega) (by decide), h.2 (p + l) (by omega), e_digC (ht.2 (p + l) (by omega)), pu_c, h4, pu_r (by omega) (by decide), h.2 (p + l) (by omega), pu_p, pu_p]
    by_cases h1 : isD (t (p + l)) = true
    · have h2 := isD_i.mp h1
      rw [pu_et h1, if_pos h1, dk_U_n (show 112 ≠ 111 by decide), h4, nI_1, sb_lo (by omega), show nI (t (p + l)) - 48 = nI (t (p + l) - 48) from pk_sub (b := 48) (by omega)]
      have c : dk_fr [111, 112] C (dk_U (dk_U C 111 0 (C 111 0 * 10 + nI (t (p + l) - 48))) 112 0 (nI (p + l + 1))) := (fr_U (by decide)).tr (fr_U (by decide))
      have key := sn_loop (p := p) ht d (l + 1) q (dk_U (dk_U C 111 0 (C 111 0 * 10 + nI (t (p + l) - 48))) 112 0 (nI (p + l + 1))) (h.cg c (by decide)) pu_Us (by omega) (by omega) (fun hl => by
        rw [dk_U_n (by decide), pu_Us, hv (by omega), show (10 : Int32) = nI 10 from rfl, pk_mul, nI_add]
        rfl)
      obtain ⟨C2, e1, e2, e3, e4⟩ := key
      exact ⟨C2, e1, e2, e3, c.tr e4⟩
    · rw [pu_ef h1, if_neg h1]
      refine ⟨C, rfl, h4, ?_, dk_fr.rf⟩
      rw [show p + l - p = l by omega]
      exact hv
theorem nn_loop {p : Nat} (ht : tpe z t) : ∀ (d l q : Nat) (M : dk_S), tkM z t M → M 40 0 = nI (p + l) → p + l + d = z → d < q → (l ≤ 4 → M 43 0 = nI (nv t p l)) → ∃ M2, B_Model_next_214 n q (nI l) M = B_Model_next_293 n (nI (rn isD t d (p + l) - p)) M2 ∧ M2 40 0 = nI (rn isD t d (p + l)) ∧ (rn isD t d (p + l) - p ≤ 4 → M2 43 0 = nI (nv t p (rn isD t d (p + l) - p))) ∧ dk_fr [40, 43] M M2
  | d, l, 0, _, _, _, _, hq, _ => absurd hq (Nat.not_lt_zero _)
  | 0, l, q + 1, M, h, h4, hj, hq, hv => by
    have hz := ht.1
    unfold B_Model_next_214 B_Model_next_214b
    rw [h.1, h4, if_pos (nI_le (by omega) (by omega))]
    unfold rn
    rw [show p + l - p = l by omega]
    exact ⟨M, rfl, h4, hv, dk_fr.rf⟩
  | d + 1, l, q + 1, M, h, h4, hj, hq, hv => by
    have hz := ht.1
    have ht2 := ht.2 (p + l) (by omega)
    unfold B_Model_next_214 B_Model_next_214b B_Model_next_274 rn
    rw [h.1, h4, if_neg (nI_ge (by omega) (by omega)), pu_r (by omega) (by decide), h.2 (p + l) (by omega), e_digM ht2, pu_c, h4, pu_r (by omega) (by decide), h.2 (p + l) (by omega)]
    by_cases h1 : isD (t (p + l)) = true
    · have h2 := isD_i.mp h1
      rw [pu_et h1, if_pos h1]
      have go : ∀ x : Int32, (l + 1 ≤ 4 → x = nI (nv t p (l + 1))) → ∃ M2, (dk_p M 43 x fun S5 => dk_p S5 40 ((S5 40 0) + (1 : Int32)) fun S6 => B_Model_next_214 n q (nI l + 1) S6) = B_Model_next_293 n (nI (rn isD t d (p + l + 1) - p)) M2 ∧ M2 40 0 = nI (rn isD t d (p + l + 1)) ∧ (rn isD t d (p + l + 1) - p ≤ 4 → M2 43 0 = nI (nv t p (rn isD t d (p + l + 1) - p))) ∧ dk_fr [40, 43] M M2 := by
        intro x hx
        rw [pu_p, pu_p, dk_U_n (show 40 ≠ 43 by decide), h4, nI_1, nI_1]
        have c : dk_fr [40, 43] M (dk_U (dk_U M 43 0 x) 40 0 (nI (p + l + 1))) := (fr_U (by decide)).tr (fr_U (by decide))
        obtain ⟨M2, e1, e2, e3, e4⟩ := nn_loop (p := p) ht d (l + 1) q (dk_U (dk_U M 43 0 x) 40 0 (nI (p + l + 1))) (h.cg c (by decide)) pu_Us (by omega) (by omega) (fun hl => by
          rw [dk_U_n (by decide), pu_Us]
          exact hx hl)
        exact ⟨M2, e1, e2, e3, c.tr e4⟩
      by_cases h3 : 4 ≤ l
      · rw [if_pos (show (4 : Int32) ≤ nI l from nI_le (a := 4) h3 (by omega))]
        exact go 0 (fun hl => by omega)
      · rw [if_neg (show ¬ (4 : Int32) ≤ nI l from nI_ge (b := 4) (by omega) (by decide))]
        refine go _ (fun hl => ?_)
        rw [hv (by omega), show (10 : Int32) = nI 10 from rfl, pk_mul, nI_add, show (48 : Int32) = nI 48 from rfl, pk_sub (by omega)]
        show nI (10 * nv t p l + t (p + l) - 48) = nI (nv t p l * 10 + (t (p + l) - 48))
        congr 1
        omega
    · rw [pu_ef h1, if_neg h1, show p + l - p = l by omega]
      exact ⟨M, rfl, h4, hv, dk_fr.rf⟩
end LXC
