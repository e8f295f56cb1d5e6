/-! PURE: who wins, whose a beast is, and whether they quarrel: both sides -/
def whV (n r b : Nat) (C M : dk_S) (c : Nat) : Int32 := match (wg n r b C M c).1 with
  | none => -1
  | some a => M 20 a
def qz (n r b : Nat) (C M : dk_S) (a i : Nat) : Prop := M 21 i = nI b ∧ ¬ M 20 i = M 20 a ∧ ¬ stN n M i = 0 ∧ woN r C M i = woN r C M a
section WH
variable {n T G B N m r c : Nat} {C C2 M M2 : dk_S}
theorem e_weigh {b : Nat} {C1 : dk_S} (h : pX T G B m r c C M) (hn : 400 ≤ n) (cc : dk_fr sC C C1) : ∃ C2, F_Scene_weigh n T (nI b) C1 = some C2 ∧ dk_fr sC C C2 ∧ C2 117 0 = wI (wg n r b C M c).1 ∧ C2 118 0 = (wg n r b C M c).2.2 := by
  have hc := h.2.1.1
  unfold F_Scene_weigh B_Scene_weigh_0
  rw [pu_p, pu_b0, pu_p]
  have cc2 : dk_fr sC C (dk_U (dk_U C1 117 0 (-1)) 118 0 0) := (cc.tr (fr_U (by decide))).tr (fr_U (by decide))
  exact weigh_loop (b := b) h hn c 0 n (dk_U (dk_U C1 117 0 (-1)) 118 0 0) (by omega) (by omega) cc2 (by rw [dk_U_n (by decide), pu_Us]; rfl) (by rw [pu_Us]; rfl)
theorem e_winner {b : Nat} {M1 : dk_S} (h : pX T G B m r c C M) (hn : 400 ≤ n) (dd : dk_fr sM M M1) : ∃ M2, F_Model_winner n (nI b) M1 = some (wI (wg n r b C M c).1, M2) ∧ dk_fr sM M M2 := by
  have hc := h.2.1.1
  unfold F_Model_winner B_Model_winner_0
  exact winner_loop (b := b) h hn c 0 n M1 (by omega) (by omega) dd
theorem e_poss {b : Nat} {C1 : dk_S} (h : pX T G B m r c C M) (hn : 400 ≤ n) (cc : dk_fr sC C C1) : ∃ C2, F_Scene_possessor n T (nI b) C1 = some (whV n r b C M c, C2) ∧ dk_fr sC C C2 := by
  have hc := h.2.1.1
  unfold F_Scene_possessor B_Scene_possessor_0 whV
  obtain ⟨C2, e1, e2, e3, e4⟩ := e_weigh (b := b) h hn cc
  rw [e1, pu_cv, e3]
  cases ew : (wg n r b C M c).1 with
  | none =>
    rw [if_neg (show ¬ (0 : Int32) ≤ wI none by decide)]
    exact ⟨C2, rfl, e2⟩
  | some a =>
    have ha := wg_lt c a ew
    rw [if_pos (show (0 : Int32) ≤ wI (some a) from nI_pos' (by omega)), show wI (some a) = nI a from rfl, pu_r (f := C2 20) (k := a) (n := 44) (by omega) (by decide), e2 20 (by decide), (h.2.1.2.2.2.1 a ha).2.1]
    exact ⟨C2, rfl, e2⟩
theorem e_whose {b : Nat} {M1 : dk_S} (h : pX T G B m r c C M) (hn : 400 ≤ n) (dd : dk_fr sM M M1) : ∃ M2, F_Model_whose n (nI b) M1 = some (whV n r b C M c, M2) ∧ dk_fr sM M M2 := by
  have hc := h.2.1.1
  unfold F_Model_whose B_Model_whose_0 whV
  obtain ⟨M2, e1, e2⟩ := e_winner (b := b) h hn dd
  rw [e1, pu_c]
  cases ew : (wg n r b C M c).1 with
  | none =>
    rw [if_neg (show ¬ ¬ wI none = -1 from fun z => z rfl)]
    exact ⟨M2, rfl, e2⟩
  | some a =>
    have ha := wg_lt c a ew
    rw [if_pos (show ¬ wI (some a) = -1 from nI_m1 (by omega)), show wI (some a) = nI a from rfl, pu_r (f := M2 20) (k := a) (n := 44) (by omega) (by decide), e2 20 (by decide)]
    exact ⟨M2, rfl, e2⟩
theorem whV_i {b : Nat} (h : pX T G B m r c C M) : whV n r b C M c = -1 ∨ ∃ p, p < 10 ∧ whV n r b C M c = nI p := by
  unfold whV
  cases ew : (wg n r b C M c).1 with
  | none => exact Or.inl rfl
  | some a =>
    obtain ⟨-, -, -, -, -, -, -, -, -, -, k, p, b, t, x, hk, hp, hb, ht, hx, y1, y2, -⟩ := h.2.1.2.2.2.1 a (wg_lt c a ew)
    exact Or.inr ⟨p, hp, y2⟩
theorem wg_inv {b : Nat} : ∀ j : Nat, (∀ a, (wg n r b C M j).1 = some a → woN r C M a = (wg n r b C M j).2.1 ∧ (((wg n r b C M j).2.2 = 0 ∧ ∀ i, i < j → ¬ qz n r b C M a i) ∨ ((wg n r b C M j).2.2 = 1 ∧ ∃ i, i < j ∧ qz n r b C M a i))) ∧ ((wg n r b C M j).1 = none → (wg n r b C M j).2.2 = 0) ∧ (∀ i, i < j → M 21 i = nI b → ¬ stN n M i = 0 → (woN r C M i).toInt ≤ (wg n r b C M j).2.1.toInt)
  | 0 => ⟨fun a h => (by cases h), fun _ => rfl, fun i h => absurd h (Nat.not_lt_zero _)⟩
  | j + 1 => by
    obtain ⟨i1, i2, i3⟩ := wg_inv (b := b) j
    -- a claim that changes nothing of a winner a's
    have keep : wg n r b C M (j + 1) = wg n r b C M j → (∀ a, (wg n r b C M j).1 = some a → ¬ qz n r b C M a j) → (M 21 j = nI b → ¬ stN n M j = 0 → (woN r C M j).toInt ≤ (wg n r b C M j).2.1.toInt) → (∀ a, (wg n r b C M (j + 1)).1 = some a → woN r C M a = (wg n r b C M (j + 1)).2.1 ∧ (((wg n r b C M (j + 1)).2.2 = 0 ∧ ∀ i, i < j + 1 → ¬ qz n r b C M a i) ∨ ((wg n r b C M (j + 1)).2.2 = 1 ∧ ∃ i, i < j + 1 ∧ qz n r b C M a i))) ∧ ((wg n r b C M (j + 1)).1 = none → (wg n r b C M (j + 1)).2.2 = 0) ∧ (∀ i, i < j + 1 → M 21 i = nI b → ¬ stN n M i = 0 → (woN r C M i).toInt ≤ (wg n r b C M (j + 1)).2.1.toInt) := by
      intro e h1 h2
      rw [e]
      refine ⟨fun a ha => ⟨(i1 a ha).1, ?_⟩, i2, fun i hi => ?_⟩
      · rcases (i1 a ha).2 with ⟨q1, q2⟩ | ⟨q1, i, q2, q3⟩
        · refine Or.inl ⟨q1, fun i hi => ?_⟩
          by_cases z : i = j
          · rw [z]; exact h1 a ha
          · exact q2 i (by omega)
        · exact Or.inr ⟨q1, i, by omega, q3⟩
      · by_cases z : i = j
        · rw [z]; exact h2
        · exact i3 i (by omega)
    by_cases q1 : M 21 j = nI b
    · by_cases q2 : stN n M j = 0
      · exact keep (by rw [wg, if_neg (show ¬ ¬ M 21 j = nI b from fun z => z q1), if_pos q2]) (fun a _ z => z.2.2.1 q2) (fun _ z => absurd q2 z)
      · by_cases q3 : woN r C M j ≤ (wg n r b C M j).2.1
        · have q3' := Int32.le_iff_toInt_le.mp q3
          cases ew : (wg n r b C M j).1 with
          | none =>
            refine keep ?_ (fun a ha => by rw [ew] at ha; cases ha) (fun _ _ => q3')
            rw [wg, if_neg (show ¬ ¬ M 21 j = nI b from fun z => z q1), if_neg q2, if_pos q3, ew]
          | some a =>
            have ia := i1 a ew
            by_cases q4 : woN r C M j = (wg n r b C M j).2.1
            · by_cases q5 : M 20 j = M 20 a
              · refine keep ?_ (fun a2 ha z => ?_) (fun _ _ => q3')
                · rw [wg, if_neg (show ¬ ¬ M 21 j = nI b from fun z => z q1), if_neg q2, if_pos q3, ew]
                  dsimp only
                  rw [if_neg (show ¬ ¬ woN r C M j = (wg n r b C M j).2.1 from fun z => z q4), if_pos q5]
                · rw [ew] at ha; cases ha; exact z.2.1 q5
              · have e : wg n r b C M (j + 1) = (some a, (wg n r b C M j).2.1, 1) := by
                  rw [wg, if_neg (show ¬ ¬ M 21 j = nI b from fun z => z q1), if_neg q2, if_pos q3, ew]
                  dsimp only
                  rw [if_neg (show ¬ ¬ woN r C M j = (wg n r b C M j).2.1 from fun z => z q4), if_neg q5]
                rw [e]
                refine ⟨fun a2 ha => ?_, fun z => (by cases z), fun i hi => ?_⟩
                · cases ha
                  exact ⟨ia.1, Or.inr ⟨rfl, j, by omega, q1, q5, q2, by rw [q4, ia.1]⟩⟩
                · by_cases z : i = j
                  · rw [z]; exact fun _ _ => q3'
                  · exact i3 i (by omega)
            · refine keep ?_ (fun a2 ha z => ?_) (fun _ _ => q3')
              · rw [wg, if_neg (show ¬ ¬ M 21 j = nI b from fun z => z q1), if_neg q2, if_pos q3, ew]
                dsimp only
                rw [if_pos q4]
              · rw [ew] at ha; cases ha; exact q4 (by rw [z.2.2.2, ia.1])
        · have e : wg n r b C M (j + 1) = (some j, woN r C M j, 0) := by
            rw [wg, if_neg (show ¬ ¬ M 21 j = nI b from fun z => z q1), if_neg q2, if_neg q3]
          have q3' : ¬ (woN r C M j).toInt ≤ (wg n r b C M j).2.1.toInt := fun z => q3 (Int32.le_iff_toInt_le.mpr z)
          rw [e]
          refine ⟨fun a2 ha => ?_, fun z => (by cases z), fun i hi h1 h2 => ?_⟩
          · cases ha
            refine ⟨rfl, Or.inl ⟨rfl, fun i hi z => ?_⟩⟩
            by_cases w : i = j
            · rw [w] at z; exact z.2.1 rfl
            · have := i3 i (by omega) z.1 z.2.2.1
              rw [z.2.2.2] at this
              exact q3' this
          · show (woN r C M i).toInt ≤ (woN r C M j).toInt
            by_cases w : i = j
            · rw [w]; exact Int.le_refl _
            · have := i3 i (by omega) h1 h2
              omega
    · exact keep (by rw [wg, if_pos q1]) (fun a _ z => q1 z.1) (fun z => absurd z q1)
theorem dq_loop {a b : Nat} (h : pX T G B m r c C M) (ha : a < c) (hn : 400 ≤ n) : ∀ (d j q : Nat) (M1 : dk_S), j + d = c → d < q → dk_fr sM M M1 → (∀ i, i < j → ¬ qz n r b C M a i) → ∃ v M2, B_Model_doQuarrel_22 n q (nI b) (nI a) (woN r C M a) (nI j) M1 = some (v, M2) ∧ dk_fr sM M M2 ∧ ((v = 0 ∧ ∀ i, i < c → ¬ qz n r b C M a i) ∨ (v = 1 ∧ ∃ i, i < c ∧ qz n r b C M a i))
  | d, j, 0, _, _, hq, _, _ => absurd hq (Nat.not_lt_zero _)
  | 0, j, q + 1, M1, hj, hq, dd, hz => by
    have hc := h.2.1.1
    unfold B_Model_doQuarrel_22 B_Model_doQuarrel_22b
    rw [dd 18 (by decide), h.2.1.2.2.1, if_pos (nI_le (by omega) (by omega)), pu_b0]
    exact ⟨0, M1, rfl, dd, Or.inl ⟨rfl, fun i hi => hz i (by omega)⟩⟩
  | d + 1, j, q + 1, M1, hj, hq, dd, hz => by
    have hc := h.2.1.1
    have hj44 : j < 44 := by omega
    have go : ∀ M2, dk_fr sM M M2 → ¬ qz n r b C M a j → _ := fun M2 dd2 z => dq_loop (b := b) h ha hn d (j + 1) q M2 (by omega) (by omega) dd2 (fun i hi => by
      by_cases w : i = j
      · rw [w]; exact z
      · exact hz i (by omega))
    unfold B_Model_doQuarrel_22 B_Model_doQuarrel_22b B_Model_doQuarrel_79
    rw [dd 18 (by decide), h.2.1.2.2.1, if_neg (nI_ge (by omega) (by omega)), pu_r hj44 (by decide), dd 21 (by decide), nI_1]
    by_cases q1 : M 21 j = nI b
    · rw [if_neg (show ¬ ¬ M 21 j = nI b from fun z => z q1), pu_r hj44 (by decide), pu_r (k := a) (by omega) (by decide), dd 20 (by decide)]
      by_cases q2 : M 20 j = M 20 a
      · rw [if_pos q2]; exact go M1 dd (fun z => z.2.1 q2)
      · rw [if_neg q2]
        obtain ⟨-, M2, -, e1, -, -, dd2⟩ := st_at h (dk_fr.rf (S := C)) dd (show j < c by omega) hn
        rw [e1, pu_c]
        by_cases q3 : stN n M j = 0
        · rw [if_pos q3]; exact go M2 dd2 (fun z => z.2.2.1 q3)
        · rw [if_neg q3]
          obtain ⟨-, M3, -, f1, -, dd3⟩ := wo_at h (dk_fr.rf (S := C)) dd2 (show j < c by omega) hn
          rw [f1, pu_c]
          by_cases q4 : woN r C M j = woN r C M a
          · rw [if_neg (show ¬ ¬ woN r C M j = woN r C M a from fun z => z q4), pu_b1]
            exact ⟨1, M3, rfl, dd3, Or.inr ⟨rfl, j, by omega, q1, q2, q3, q4⟩⟩
          · rw [if_pos q4]; exact go M3 dd3 (fun z => q4 z.2.2.2)
    · rw [if_pos q1]; exact go M1 dd (fun z => q1 z.1)
theorem e_doQ {b : Nat} {M1 : dk_S} (h : pX T G B m r c C M) (hn : 400 ≤ n) (dd : dk_fr sM M M1) : ∃ M2, F_Model_doQuarrel n (nI b) M1 = some ((wg n r b C M c).2.2, M2) ∧ dk_fr sM M M2 := by
  have hc := h.2.1.1
  unfold F_Model_doQuarrel B_Model_doQuarrel_0
  obtain ⟨i1, i2, i3⟩ := wg_inv (n := n) (r := r) (C := C) (M := M) (b := b) c
  obtain ⟨M2, e1, e2⟩ := e_winner (b := b) h hn dd
  rw [e1, pu_c]
  cases ew : (wg n r b C M c).1 with
  | none =>
    rw [if_neg (show ¬ ¬ wI none = -1 from fun z => z rfl), pu_b0, i2 ew]
    exact ⟨M2, rfl, e2⟩
  | some a =>
    have ha := wg_lt c a ew
    rw [if_pos (show ¬ wI (some a) = -1 from nI_m1 (by omega)), show wI (some a) = nI a from rfl]
    obtain ⟨-, M3, -, f1, -, dd3⟩ := wo_at h (dk_fr.rf (S := C)) e2 ha hn
    rw [f1, pu_c]
    obtain ⟨v, M4, g1, g2, g3⟩ := dq_loop (b := b) h ha hn c 0 n M3 (by omega) (by omega) dd3 (fun i hi => absurd hi (Nat.not_lt_zero _))
    have g1' : B_Model_doQuarrel_22 n n (nI b) (nI a) (woN r C M a) 0 M3 = some (v, M4) := g1
    have hv : v = (wg n r b C M c).2.2 := by
      rcases g3 with ⟨rfl, g4⟩ | ⟨rfl, i, g4, g5⟩
      · rcases (i1 a ew).2 with ⟨q1, -⟩ | ⟨-, i, q2, q3⟩
        · exact q1.symm
        · exact absurd q3 (g4 i q2)
      · rcases (i1 a ew).2 with ⟨-, q2⟩ | ⟨q1, -⟩
        · exact absurd g5 (q2 i g4)
        · exact q1.symm
    rw [g1', hv]
    exact ⟨M4, rfl, g2⟩
theorem dis_01 {b : Nat} (j : Nat) : (wg n r b C M j).2.2 = 0 ∨ (wg n r b C M j).2.2 = 1 := by
  obtain ⟨i1, i2, -⟩ := wg_inv (n := n) (r := r) (C := C) (M := M) (b := b) j
  cases ew : (wg n r b C M j).1 with
  | none => exact Or.inl (i2 ew)
  | some a =>
    rcases (i1 a ew).2 with ⟨q, -⟩ | ⟨q, -⟩
    · exact Or.inl q
    · exact Or.inr q
end WH
