/-! PURE: does a claim stand, on both sides -/
section ST
variable {n T G B N m r c : Nat} {C C2 M M2 : dk_S}
theorem e_isHold {i b : Nat} (h : sc1 G B C M i) (hi : i < 44) : F_Scene_isHoldOf n T (nI i) (nI b) C = some (b2 (M 19 i = 3 ∧ M 21 i = nI b), C) := by
  unfold F_Scene_isHoldOf B_Scene_isHoldOf_0
  rw [pu_r hi (by decide), h.1]
  by_cases q : M 19 i = 3
  · rw [if_neg (fun z => z q), pu_r hi (by decide), h.2.2.1]
    by_cases q2 : M 21 i = nI b
    · rw [if_neg (fun z => z q2), b2_t ⟨q, q2⟩]; rfl
    · rw [if_pos q2, b2_f (fun z => q2 z.2)]; rfl
  · rw [if_pos q, b2_f (fun z => q z.1)]; rfl
theorem e_held_loop {b : Nat} (hS : pSc G B N c C M) : ∀ (d i q : Nat), i + d = c → d < q → ∃ v, B_Scene_isHeld_2 n T q (nI b) (nI i) C = some (v, C) ∧ B_Model_isHeld_2 n q (nI b) (nI i) M = some (v, M) ∧ (v = 0 ∨ v = 1)
  | d, i, 0, _, hq => absurd hq (Nat.not_lt_zero _)
  | 0, i, q + 1, hi, hq => by
    have hc := hS.1
    unfold B_Scene_isHeld_2 B_Scene_isHeld_2b B_Model_isHeld_2 B_Model_isHeld_2b
    rw [hS.2.1, hS.2.2.1, if_pos (nI_le (by omega) (by omega)), if_pos (nI_le (by omega) (by omega))]
    exact ⟨0, rfl, rfl, Or.inl rfl⟩
  | d + 1, i, q + 1, hi, hq => by
    have hc := hS.1
    have h := hS.2.2.2.1 i (by omega)
    have hi44 : i < 44 := by omega
    obtain ⟨v, e1, e2, e3⟩ := e_held_loop (b := b) hS d (i + 1) q (by omega) (by omega)
    unfold B_Scene_isHeld_2 B_Scene_isHeld_2b B_Model_isHeld_2 B_Model_isHeld_2b
    rw [hS.2.1, hS.2.2.1, if_neg (nI_ge (by omega) (by omega)), if_neg (nI_ge (by omega) (by omega)), e_isHold h hi44, pu_c, pu_r hi44 (by decide), pu_r hi44 (by decide), pu_r hi44 (by decide), pu_r hi44 (by decide), h.2.2.2.2.2.2.1]
    unfold B_Scene_isHeld_30 B_Model_isHeld_41
    rw [nI_1]
    by_cases q1 : M 21 i = nI b
    · by_cases q2 : M 19 i = 3
      · rw [pu_et ⟨q2, q1⟩, if_neg (show ¬ ¬ M 21 i = nI b from fun z => z q1), if_neg (show ¬ ¬ M 19 i = 3 from fun z => z q2)]
        by_cases q3 : M 26 i = 0
        · rw [if_neg (show ¬ ¬ M 26 i = 0 from fun z => z q3), if_neg (show ¬ ¬ M 26 i = 0 from fun z => z q3)]
          exact ⟨1, rfl, rfl, Or.inr rfl⟩
        · rw [if_pos q3, if_pos q3]
          exact ⟨v, e1, e2, e3⟩
      · rw [pu_ef (fun z => q2 z.1), if_neg (show ¬ ¬ M 21 i = nI b from fun z => z q1), if_pos q2]
        exact ⟨v, e1, e2, e3⟩
    · rw [pu_ef (fun z => q1 z.2), if_pos q1]
      exact ⟨v, e1, e2, e3⟩
theorem e_held {b : Nat} (hS : pSc G B N c C M) (hn : 400 ≤ n) : ∃ v, F_Scene_isHeld n T (nI b) C = some (v, C) ∧ F_Model_isHeld n (nI b) M = some (v, M) ∧ (v = 0 ∨ v = 1) := by
  have hc := hS.1
  exact e_held_loop hS c 0 n (by omega) (by omega)
theorem late {t t1 x : Nat} (ht : t < 1000) (h1 : t1 < 1000) (hx : x < 100) : (nI t1 + nI x < nI t) = ¬ (nI t - nI t1 ≤ nI x) := by
  rw [nI_add, Int32.lt_iff_toInt_lt, Int32.le_iff_toInt_le, pk_sub_toInt (by omega) (by omega), nI_toInt (by omega), nI_toInt (by omega), nI_toInt (by omega)]
  exact propext (by omega)
theorem early {t t1 x : Nat} (ht : t < 1000) (h1 : t1 < 1000) (hx : x < 100) : (nI x < nI t - nI t1) = (nI t1 + nI x < nI t) := by
  rw [nI_add, Int32.lt_iff_toInt_lt, Int32.lt_iff_toInt_lt, pk_sub_toInt (by omega) (by omega), nI_toInt (by omega), nI_toInt (by omega), nI_toInt (by omega)]
  exact propext (by omega)
theorem e_lost {i : Nat} (h : sc1 G B C M i) (hN : pNow C M) (hi : i < 44) : F_Scene_isLostForLong n T (nI i) C = some (b2 (¬ M 25 i = -1 ∧ M 25 i + M 23 i < M 30 0), C) := by
  obtain ⟨t, ht, n1, n2⟩ := hN
  obtain ⟨-, -, -, -, a23, a25, -, -, l25, -, k, p, b, t9, x, hk, hp, hb, ht9, hx, y1, y2, y3, y4, y5⟩ := h
  unfold F_Scene_isLostForLong B_Scene_isLostForLong_0
  rw [pu_r hi (by decide), pu_r hi (by decide), pu_r hi (by decide), a23, a25, n1, n2, y5]
  rcases l25 with q | ⟨t1, ht1, q⟩
  · rw [if_pos q, b2_f (fun z => z.1 q)]; rfl
  · have qn : ¬ M 25 i = -1 := by rw [q]; exact nI_m1 (by omega)
    rw [if_neg qn, q]
    by_cases z : nI t - nI t1 ≤ nI x
    · rw [if_pos z, b2_f (fun w => by rw [late ht ht1 (by omega)] at w; exact w.2 z)]; rfl
    · rw [if_neg z, b2_t ⟨by rw [← q]; exact qn, by rw [late ht ht1 (by omega)]; exact z⟩]; rfl
end ST
