/-! PURE: numbers, reads and writes of the told functions -/
def b2 (p : Prop) [Decidable p] : Int32 := if p then 1 else 0
theorem b2_t {p : Prop} [Decidable p] (h : p) : b2 p = 1 := if_pos h
theorem b2_f {p : Prop} [Decidable p] (h : ¬ p) : b2 p = 0 := if_neg h
section PU
variable {β : Type} {n key : Nat} {f : Nat → Int32} {k : Nat} {x : Int32} {S : dk_S}
theorem pu_cl {k : Nat} (h : k < 2 ^ 31) : (nI k).toNatClampNeg = k := nI_clamp h
theorem pu_r {K : Int32 → Option β} (h : k < n) (hn : n < 2 ^ 31) : dk_r n f (nI k) K = K (f k) := by
  unfold dk_r
  rw [if_neg (nI_in h hn), nI_clamp (by omega)]
theorem pu_w {K : dk_S → Option β} (h : k < n) (hn : n < 2 ^ 31) : dk_w S key n (nI k) x K = K (dk_U S key k x) := by
  unfold dk_w
  rw [if_neg (nI_in h hn), nI_clamp (by omega)]
theorem pu_p {K : dk_S → Option β} : dk_p S key x K = K (dk_U S key 0 x) := rfl
theorem pu_c {α : Type} {a : α} {K : α → dk_S → Option β} : dk_c (some (a, S)) K = K a S := rfl
theorem pu_cv {K : dk_S → Option β} : dk_cv (some S) K = K S := rfl
theorem pu_b0 {k : Option β} : dk_b 0 k = k := rfl
theorem pu_b1 {k : Option β} : dk_b 1 k = k := rfl
theorem pu_b {k : Option β} (h : x = 0 ∨ x = 1) : dk_b x k = k := if_pos h
theorem pu_b2 {p : Prop} [Decidable p] {k : Option β} : dk_b (b2 p) k = k := by
  by_cases h : p
  · rw [b2_t h]; rfl
  · rw [b2_f h]; rfl
theorem pu_g {c : Prop} [Decidable c] {k : Option β} (h : c) : dk_g c k = k := if_pos h
theorem pu_Us {j : Nat} : dk_U S key j x key j = x := by rw [dk_U_s, upd_s2]
theorem pu_Un {k2 j : Nat} (h : k2 ≠ key) : dk_U S key j x k2 = S k2 := dk_U_n h
theorem pu_Uj {j i : Nat} (h : i ≠ j) : dk_U S key j x key i = S key i := by rw [dk_U_s, upd_n2 h]
end PU
theorem b2_ne {p : Prop} [Decidable p] : (¬ b2 p = 0) = p := by
  by_cases h : p
  · rw [b2_t h]; simp [h]
  · rw [b2_f h]; simp [h]
theorem b2_eq {p : Prop} [Decidable p] : (b2 p = 0) = ¬ p := by
  by_cases h : p
  · rw [b2_t h]; simp [h]
  · rw [b2_f h]; simp [h]
theorem nI_s1 {a : Nat} (h : a < 2 ^ 30) : (nI a - 1).toInt = (a : Int) - 1 := by
  have := pk_sub_toInt (a := a) (b := 1) h (by decide)
  exact this
/-! the small tests -/
section T1
variable {n T G : Nat} {C M : dk_S}
theorem e_in (x lo hi : Int32) : F_Model_in n x lo hi M = some (b2 (lo.toInt ≤ x.toInt ∧ x.toInt ≤ hi.toInt), M) := by
  unfold F_Model_in B_Model_in_0
  simp only [Int32.lt_iff_toInt_lt, pu_b0, pu_b1]
  by_cases h1 : x.toInt < lo.toInt
  · rw [if_pos h1, b2_f (by omega)]
  · rw [if_neg h1]
    by_cases h2 : hi.toInt < x.toInt
    · rw [if_pos h2, b2_f (by omega)]
    · rw [if_neg h2, b2_t (by omega)]
theorem e_below {x : Int32} {g : Int32} (hg : g.toInt = (G : Int)) : (if x < 0 then (dk_b (0 : Int32) (some ((0 : Int32), C))) else (if g ≤ x then (dk_b (0 : Int32) (some ((0 : Int32), C))) else (dk_b (1 : Int32) (some ((1 : Int32), C))))) = some (b2 (0 ≤ x.toInt ∧ x.toInt < (G : Int)), C) := by
  simp only [Int32.lt_iff_toInt_lt, Int32.le_iff_toInt_le, pu_b0, pu_b1, hg, Int32.toInt_zero]
  by_cases h1 : x.toInt < 0
  · rw [if_pos h1, b2_f (by omega)]
  · rw [if_neg h1]
    by_cases h2 : (G : Int) ≤ x.toInt
    · rw [if_pos h2, b2_f (by omega)]
    · rw [if_neg h2, b2_t (by omega)]
theorem eC_hasGround {x : Int32} (h : C 102 0 = nI G) (hG : G < 2 ^ 30) : F_Land_hasGround n T x C = some (b2 (0 ≤ x.toInt ∧ x.toInt < (G : Int)), C) := by
  unfold F_Land_hasGround B_Land_hasGround_0
  exact e_below (by rw [h]; exact nI_toInt (by omega))
theorem eC_hasBeast {x : Int32} (h : C 103 0 = nI G) (hG : G < 2 ^ 30) : F_Land_hasBeast n T x C = some (b2 (0 ≤ x.toInt ∧ x.toInt < (G : Int)), C) := by
  unfold F_Land_hasBeast B_Land_hasBeast_0
  exact e_below (by rw [h]; exact nI_toInt (by omega))
theorem eC_has {x : Int32} (h : C 104 0 = nI G) (hG : G < 2 ^ 30) : F_Diary_has n T x C = some (b2 (0 ≤ x.toInt ∧ x.toInt < (G : Int)), C) := by
  unfold F_Diary_has B_Diary_has_0
  exact e_below (by rw [h]; exact nI_toInt (by omega))
theorem eM_isGround {x : Int32} (h : M 0 0 = nI G) (hG : G < 2 ^ 30) : F_Model_isGround n x M = some (b2 (0 ≤ x.toInt ∧ x.toInt < (G : Int)), M) := by
  unfold F_Model_isGround B_Model_isGround_0
  rw [e_in, h, pu_c, pu_b2, nI_s1 hG, Int32.toInt_zero]
  congr 3
  exact propext (by omega)
theorem eM_isBeast {x : Int32} (h : M 2 0 = nI G) (hG : G < 2 ^ 30) : F_Model_isBeast n x M = some (b2 (0 ≤ x.toInt ∧ x.toInt < (G : Int)), M) := by
  unfold F_Model_isBeast B_Model_isBeast_0
  rw [e_in, h, pu_c, pu_b2, nI_s1 hG, Int32.toInt_zero]
  congr 3
  exact propext (by omega)
theorem eM_isMoment {x : Int32} (h : M 5 0 = nI G) (hG : G < 2 ^ 30) : F_Model_isMoment n x M = some (b2 (0 ≤ x.toInt ∧ x.toInt < (G : Int)), M) := by
  unfold F_Model_isMoment B_Model_isMoment_0
  rw [e_in, h, pu_c, pu_b2, nI_s1 hG, Int32.toInt_zero]
  congr 3
  exact propext (by omega)
end T1
