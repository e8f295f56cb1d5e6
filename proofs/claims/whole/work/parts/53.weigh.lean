/-! PURE: who wins a beast, on both sides -/
def wI : Option Nat → Int32
  | none => -1
  | some a => nI a
/-- the winner, the best worth and whether it is disputed, after j claims -/
def wg (n r b : Nat) (C M : dk_S) : Nat → Option Nat × Int32 × Int32
  | 0 => (none, 0, 0)
  | j + 1 => if ¬ M 21 j = nI b then wg n r b C M j else if stN n M j = 0 then wg n r b C M j else if woN r C M j ≤ (wg n r b C M j).2.1 then (match (wg n r b C M j).1 with
    | none => wg n r b C M j
    | some a => if ¬ woN r C M j = (wg n r b C M j).2.1 then wg n r b C M j else if M 20 j = M 20 a then wg n r b C M j else (some a, (wg n r b C M j).2.1, 1)) else (some j, woN r C M j, 0)
section WG
variable {n T G B N m r c : Nat} {C C2 M M2 : dk_S}
theorem wg_lt {b : Nat} : ∀ (j a : Nat), (wg n r b C M j).1 = some a → a < j
  | 0, a, h => by cases h
  | j + 1, a, h => by
    have ih := wg_lt (b := b) j
    unfold wg at h
    split at h
    · have := ih a h; omega
    · split at h
      · have := ih a h; omega
      · split at h
        · split at h
          · have := ih a h; omega
          · rename_i a2 e2
            split at h
            · have := ih a h; omega
            · split at h
              · have := ih a h; omega
              · cases h
                have := ih a e2
                omega
        · cases h; omega
theorem weigh_loop {b : Nat} (h : pX T G B m r c C M) (hn : 400 ≤ n) : ∀ (d j q : Nat) (C1 : dk_S), j + d = c → d < q → dk_fr sC C C1 → C1 117 0 = wI (wg n r b C M j).1 → C1 118 0 = (wg n r b C M j).2.2 → ∃ C2, B_Scene_weigh_14 n T q (nI b) (wg n r b C M j).2.1 (nI j) C1 = some C2 ∧ dk_fr sC C C2 ∧ C2 117 0 = wI (wg n r b C M c).1 ∧ C2 118 0 = (wg n r b C M c).2.2
  | d, j, 0, _, _, hq, _, _, _ => absurd hq (Nat.not_lt_zero _)
  | 0, j, q + 1, C1, hj, hq, cc, h1, h2 => by
    have hc := h.2.1.1
    unfold B_Scene_weigh_14 B_Scene_weigh_14b
    rw [cc 115 (by decide), h.2.1.2.1, if_pos (nI_le (by omega) (by omega))]
    exact ⟨C1, rfl, cc, by rw [h1, show j = c by omega], by rw [h2, show j = c by omega]⟩
  | d + 1, j, q + 1, C1, hj, hq, cc, h1, h2 => by
    have hc := h.2.1.1
    have hj44 : j < 44 := by omega
    have hs := h.2.1.2.2.2.1 j (by omega)
    have go := weigh_loop (b := b) h hn d (j + 1) q
    unfold B_Scene_weigh_14 B_Scene_weigh_14b
    unfold B_Scene_weigh_108
    rw [cc 115 (by decide), h.2.1.2.1, if_neg (nI_ge (by omega) (by omega)), pu_r hj44 (by decide), cc 21 (by decide), hs.2.2.1, nI_1]
    by_cases q1 : M 21 j = nI b
    · rw [if_neg (show ¬ ¬ M 21 j = nI b from fun z => z q1)]
      obtain ⟨C2, -, e1, -, -, cc2, -⟩ := st_at h cc (dk_fr.rf (S := M)) (show j < c by omega) hn
      have d1 : dk_fr [16, 17] C1 C2 := fr_Scene_stands e1
      rw [e1, pu_c]
      by_cases q2 : stN n M j = 0
      · rw [if_neg (show ¬ ¬ stN n M j = 0 from fun z => z q2)]
        have hw : wg n r b C M (j + 1) = wg n r b C M j := by
          rw [wg, if_neg (show ¬ ¬ M 21 j = nI b from fun z => z q1), if_pos q2]
        rw [hw] at go
        exact go C2 (by omega) (by omega) cc2 (by rw [d1 117 (by decide)]; exact h1) (by rw [d1 118 (by decide)]; exact h2)
      · rw [if_pos q2]
        obtain ⟨C3, -, f1, -, cc3, -⟩ := wo_at h cc2 (dk_fr.rf (S := M)) (show j < c by omega) hn
        have d2 : dk_fr [16, 17] C2 C3 := fr_Scene_worth f1
        rw [f1, pu_c]
        have k117 : C3 117 0 = wI (wg n r b C M j).1 := by rw [d2 117 (by decide), d1 117 (by decide)]; exact h1
        have k118 : C3 118 0 = (wg n r b C M j).2.2 := by rw [d2 118 (by decide), d1 118 (by decide)]; exact h2
        have hw : wg n r b C M (j + 1) = if woN r C M j ≤ (wg n r b C M j).2.1 then (match (wg n r b C M j).1 with
            | none => wg n r b C M j
            | some a => if ¬ woN r C M j = (wg n r b C M j).2.1 then wg n r b C M j else if M 20 j = M 20 a then wg n r b C M j else (some a, (wg n r b C M j).2.1, 1)) else (some j, woN r C M j, 0) := by
          rw [wg, if_neg (show ¬ ¬ M 21 j = nI b from fun z => z q1), if_neg q2]
        by_cases q3 : woN r C M j ≤ (wg n r b C M j).2.1
        · rw [if_pos q3, k117]
          rw [if_pos q3] at hw
          cases ew : (wg n r b C M j).1 with
          | none =>
            rw [ew] at hw
            rw [if_pos (show wI none < 0 by decide)]
            rw [show wg n r b C M (j + 1) = wg n r b C M j from hw] at go
            exact go C3 (by omega) (by omega) cc3 k117 k118
          | some a =>
            have ha := wg_lt j a ew
            rw [ew] at hw
            rw [if_neg (show ¬ wI (some a) < 0 from nI_pos (by omega))]
            have hw2 : wg n r b C M (j + 1) = if ¬ woN r C M j = (wg n r b C M j).2.1 then wg n r b C M j else if M 20 j = M 20 a then wg n r b C M j else (some a, (wg n r b C M j).2.1, 1) := hw
            by_cases q4 : woN r C M j = (wg n r b C M j).2.1
            · rw [if_neg (show ¬ ¬ woN r C M j = (wg n r b C M j).2.1 from fun z => z q4), pu_r hj44 (by decide), show wI (some a) = nI a from rfl, pu_r (f := C3 20) (k := a) (n := 44) (by omega) (by decide), cc3 20 (by decide), hs.2.1, (h.2.1.2.2.2.1 a (by omega)).2.1]
              rw [if_neg (show ¬ ¬ woN r C M j = (wg n r b C M j).2.1 from fun z => z q4)] at hw2
              by_cases q5 : M 20 j = M 20 a
              · rw [if_pos q5]
                rw [if_pos q5] at hw2
                rw [hw2] at go
                exact go C3 (by omega) (by omega) cc3 k117 k118
              · rw [if_neg q5, pu_p]
                rw [if_neg q5] at hw2
                rw [hw2] at go
                exact go (dk_U C3 118 0 1) (by omega) (by omega) (cc3.tr (fr_U (by decide))) (by rw [dk_U_n (by decide), k117, ew]) pu_Us
            · rw [if_pos q4]
              rw [if_pos q4] at hw2
              rw [hw2] at go
              exact go C3 (by omega) (by omega) cc3 k117 k118
        · rw [if_neg q3, pu_p, pu_p]
          rw [if_neg q3] at hw
          rw [hw] at go
          exact go (dk_U (dk_U C3 117 0 (nI j)) 118 0 0) (by omega) (by omega) ((cc3.tr (fr_U (by decide))).tr (fr_U (by decide))) (by rw [dk_U_n (by decide)]; exact pu_Us) pu_Us
    · rw [if_pos q1]
      have hw : wg n r b C M (j + 1) = wg n r b C M j := by rw [wg, if_pos q1]
      rw [hw] at go
      exact go C1 (by omega) (by omega) cc h1 h2
theorem winner_loop {b : Nat} (h : pX T G B m r c C M) (hn : 400 ≤ n) : ∀ (d j q : Nat) (M1 : dk_S), j + d = c → d < q → dk_fr sM M M1 → ∃ M2, B_Model_winner_7 n q (nI b) (wI (wg n r b C M j).1) (wg n r b C M j).2.1 (nI j) M1 = some (wI (wg n r b C M c).1, M2) ∧ dk_fr sM M M2
  | d, j, 0, _, _, hq, _ => absurd hq (Nat.not_lt_zero _)
  | 0, j, q + 1, M1, hj, hq, dd => by
    have hc := h.2.1.1
    unfold B_Model_winner_7 B_Model_winner_7b
    rw [dd 18 (by decide), h.2.1.2.2.1, if_pos (nI_le (by omega) (by omega))]
    exact ⟨M1, by rw [show j = c by omega], dd⟩
  | d + 1, j, q + 1, M1, hj, hq, dd => by
    have hc := h.2.1.1
    have hj44 : j < 44 := by omega
    have go := winner_loop (b := b) h hn d (j + 1) q
    unfold B_Model_winner_7 B_Model_winner_7b
    unfold B_Model_winner_56 B_Model_winner_69 B_Model_winner_70
    rw [dd 18 (by decide), h.2.1.2.2.1, if_neg (nI_ge (by omega) (by omega)), pu_r hj44 (by decide), dd 21 (by decide), nI_1]
    by_cases q1 : M 21 j = nI b
    · rw [if_neg (show ¬ ¬ M 21 j = nI b from fun z => z q1)]
      obtain ⟨-, M2, -, e1, -, -, dd2⟩ := st_at h (dk_fr.rf (S := C)) dd (show j < c by omega) hn
      rw [e1, pu_c]
      by_cases q2 : stN n M j = 0
      · rw [if_pos q2]
        have hw : wg n r b C M (j + 1) = wg n r b C M j := by
          rw [wg, if_neg (show ¬ ¬ M 21 j = nI b from fun z => z q1), if_pos q2]
        rw [hw] at go
        exact go M2 (by omega) (by omega) dd2
      · rw [if_neg q2]
        obtain ⟨-, M3, -, f1, -, dd3⟩ := wo_at h (dk_fr.rf (S := C)) dd2 (show j < c by omega) hn
        rw [f1, pu_c]
        have hw : (wg n r b C M (j + 1)).1 = (if woN r C M j ≤ (wg n r b C M j).2.1 then (wg n r b C M j).1 else some j) ∧ (wg n r b C M (j + 1)).2.1 = (if woN r C M j ≤ (wg n r b C M j).2.1 then (wg n r b C M j).2.1 else woN r C M j) := by
          rw [wg, if_neg (show ¬ ¬ M 21 j = nI b from fun z => z q1), if_neg q2]
          by_cases q3 : woN r C M j ≤ (wg n r b C M j).2.1
          · rw [if_pos q3, if_pos q3, if_pos q3]
            cases ew : (wg n r b C M j).1 with
            | none => exact ⟨ew, rfl⟩
            | some a =>
              dsimp only
              by_cases q4 : woN r C M j = (wg n r b C M j).2.1
              · rw [if_neg (show ¬ ¬ woN r C M j = (wg n r b C M j).2.1 from fun z => z q4)]
                by_cases q5 : M 20 j = M 20 a
                · rw [if_pos q5]; exact ⟨ew, rfl⟩
                · rw [if_neg q5]; exact ⟨rfl, rfl⟩
              · rw [if_pos q4]; exact ⟨ew, rfl⟩
          · rw [if_neg q3, if_neg q3, if_neg q3]
            exact ⟨rfl, rfl⟩
        rw [hw.1, hw.2] at go
        by_cases q3 : woN r C M j ≤ (wg n r b C M j).2.1
        · rw [if_pos q3, if_pos q3]
          rw [if_pos q3, if_pos q3] at go
          exact go M3 (by omega) (by omega) dd3
        · rw [if_neg q3, if_neg q3]
          rw [if_neg q3, if_neg q3] at go
          exact go M3 (by omega) (by omega) dd3
    · rw [if_pos q1]
      have hw : wg n r b C M (j + 1) = wg n r b C M j := by rw [wg, if_pos q1]
      rw [hw] at go
      exact go M1 (by omega) (by omega) dd
end WG
