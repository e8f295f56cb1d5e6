section LM
variable {n T : Nat} {C M : dk_S}
def iB2 (c o : Int32) : Prop := (o = 11 ∧ c = -15) ∨ (o = 12 ∧ c = -14) ∨ (o = 14 ∧ c = -12) ∨ (o = 15 ∧ c = -13) ∨ (o = 16 ∧ c = -10) ∨ (o = 17 ∧ c = -11) ∨ (o = 18 ∧ c = -9)
theorem e_twoM {c o : Int32} (h : iB2 c o) (a b : Int32) : F_Model_two n o a b M = some (tw2 c a b, M) := by
  unfold F_Model_two B_Model_two_0 B_Model_two_102 tw2
  rcases h with ⟨rfl, rfl⟩ | ⟨rfl, rfl⟩ | ⟨rfl, rfl⟩ | ⟨rfl, rfl⟩ | ⟨rfl, rfl⟩ | ⟨rfl, rfl⟩ | ⟨rfl, rfl⟩ <;> simp (decide := true) only [if_true, if_false] <;> first | rfl | (split <;> first | rfl | (split <;> rfl))
theorem i_sub5 {v : Nat} : nI (100000 + v) - 100000 = nI v := by
  have h : nI (100000 + v) - nI 100000 = nI (100000 + v - 100000) := pk_sub (Nat.le_add_right _ _)
  rw [Nat.add_sub_cancel_left] at h
  have e : (100000 : Int32) = nI 100000 := by decide +kernel
  rw [e]
  exact h
theorem vM {r s L p : Nat} {f nm : Nat → Int32} (hL : s + L ≤ 160) (hr : r < 6) (hp : p < 2) (hd : dpth f L = some 1) : ∀ (j k q d : Nat) (M : dk_S), k + j = L → j < q → dpth f k = some d → M 17 0 = nI r → M 15 (4 * r + p + 1) = nI (s + L) → (∀ i, i < L → iO (f i) (M 14 (200 * r + (s + i)))) → (∀ i, i < 6 → M 50 i = nm i) → (∀ i, i < d → M 49 i = evs nm f k i) → ∃ M2, B_Model_worth_16 n q (nI p) (nI d) (nI (s + k)) M = some (evs nm f L 0, M2)
  | j, k, 0, _, _, _, hq, _, _, _, _, _, _ => absurd hq (Nat.not_lt_zero _)
  | j, k, q + 1, d, M, hk, hq, hdk, h17, h15, ho, hn, hs => by
    unfold B_Model_worth_16 B_Model_worth_16b
    have e15 : (4 : Int32) * (M 17 0) + nI p + 1 = nI (4 * r + p + 1) := by
      rw [h17]
      show nI 4 * nI r + nI p + 1 = _
      rw [pk_mul, nI_add, nI_1]
    have e14 : (200 : Int32) * (M 17 0) + nI (s + k) = nI (200 * r + (s + k)) := by
      rw [h17]
      show nI 200 * nI r + _ = _
      rw [pk_mul, nI_add]
    rw [e15, pu_r (by omega) (by decide), h15]
    cases j with
    | zero =>
      have e : k = L := by omega
      subst e
      have d1 : d = 1 := by rw [hdk] at hd; exact Option.some.inj hd
      subst d1
      rw [if_pos (nI_le (by omega) (by omega)), show (0 : Int32) = nI 0 from rfl, pu_r (by decide) (by decide), hs 0 (by decide)]
      exact ⟨M, rfl⟩
    | succ j =>
    have hdle := dp_le k d hdk
    obtain ⟨d1, hd1⟩ := dp_pre (k := k + 1) L hd (by omega)
    obtain ⟨e, he1, he2⟩ := dp_s hd1
    have hed : e = d := by rw [hdk] at he1; exact (Option.some.inj he1).symm
    subst hed
    have hev : evs nm f (k + 1) = stp nm (f k) e (evs nm f k) := by
      show stp nm (f k) ((dpth f k).getD 0) (evs nm f k) = _
      rw [hdk]; rfl
    rw [if_neg (nI_ge (by omega) (by omega)), e14, pu_r (by omega) (by decide)]
    have push : ∀ v : Int32, d1 = e + 1 → evs nm f (k + 1) = upd (evs nm f k) e v → ∃ M2, B_Model_worth_93 n (fun x1 x2 x3 S => B_Model_worth_16 n q x1 x2 x3 S) (nI p) (nI e) (nI (s + k)) (nI e) v M = some (evs nm f L 0, M2) := by
      intro v h1 h2
      unfold B_Model_worth_93 B_Model_worth_191
      rw [pu_w (by omega) (by decide), nI_1, nI_1, ← h1]
      refine vM hL hr hp hd j (k + 1) q d1 _ (by omega) (by omega) hd1 ?_ ?_ ?_ ?_ ?_
      · rw [dk_U_n (by decide)]; exact h17
      · rw [dk_U_n (by decide)]; exact h15
      · rw [dk_U_n (by decide)]; exact ho
      · rw [dk_U_n (by decide)]; exact hn
      · rw [dk_U_s, h2]; exact hold_up hs (by omega) (Or.inl rfl)
    have put : ∀ (v : Int32) (a : Nat), d1 ≤ e → a < e → evs nm f (k + 1) = upd (evs nm f k) a v → ∃ M2, B_Model_worth_16 n q (nI p) (nI d1) (nI (s + k) + 1) (dk_U M 49 a v) = some (evs nm f L 0, M2) := by
      intro v a h1 h3 h2
      rw [nI_1]
      refine vM hL hr hp hd j (k + 1) q d1 _ (by omega) (by omega) hd1 ?_ ?_ ?_ ?_ ?_
      · rw [dk_U_n (by decide)]; exact h17
      · rw [dk_U_n (by decide)]; exact h15
      · rw [dk_U_n (by decide)]; exact ho
      · rw [dk_U_n (by decide)]; exact hn
      · rw [dk_U_s, h2]; exact hold_up hs (by omega) (Or.inr h1)
    have one : ∀ c : Int32, f k = c → ¬ (-6 : Int32) ≤ c → (-8 : Int32) ≤ c → 0 < e ∧ d1 = e ∧ evs nm f (k + 1) = upd (evs nm f k) (e - 1) (on1 c (evs nm f k (e - 1))) := by
      intro c hc h1 h2
      rw [hc, if_neg h1, if_pos h2] at he2
      by_cases z : e = 0
      · rw [if_pos z] at he2; cases he2
      · rw [if_neg z] at he2
        exact ⟨by omega, (Option.some.inj he2).symm, by rw [hev, hc]; unfold stp; rw [if_neg h1, if_pos h2]⟩
    have two : ∀ c : Int32, f k = c → ¬ (-6 : Int32) ≤ c → ¬ (-8 : Int32) ≤ c → 1 < e ∧ d1 = e - 1 ∧ evs nm f (k + 1) = upd (evs nm f k) (e - 2) (tw2 c (evs nm f k (e - 2)) (evs nm f k (e - 1))) := by
      intro c hc h1 h2
      rw [hc, if_neg h1, if_neg h2] at he2
      by_cases z : e ≤ 1
      · rw [if_pos z] at he2; cases he2
      · rw [if_neg z] at he2
        exact ⟨by omega, (Option.some.inj he2).symm, by rw [hev, hc]; unfold stp; rw [if_neg h1, if_neg h2]⟩
    have name : ∀ (c : Int32) (a : Nat), f k = c → (-6 : Int32) ≤ c → c < 0 → (-1 : Int32) - c = nI a → a < 6 → d1 = e + 1 ∧ evs nm f (k + 1) = upd (evs nm f k) e (nm a) := by
      intro c a hc h1 h2 h3 h4
      rw [hc, if_pos h1] at he2
      exact ⟨(Option.some.inj he2).symm, by rw [hev, hc]; unfold stp; rw [if_pos h1, if_pos h2, h3, nI_clamp (by omega)]⟩
    have bin : ∀ c o : Int32, f k = c → iB2 c o → ¬ (-6 : Int32) ≤ c → ¬ (-8 : Int32) ≤ c → ∃ M2, (dk_r 200 (M 49) ((nI e + (-1 : Int32)) - (1 : Int32)) fun v7 => dk_r 200 (M 49) (nI e + (-1 : Int32)) fun v8 => dk_c (F_Model_two n o v7 v8 M) fun r10 S9 => dk_w S9 49 200 ((nI e + (-1 : Int32)) - (1 : Int32)) r10 fun S11 => B_Model_worth_191 n (fun x1 x2 x3 S => B_Model_worth_16 n q x1 x2 x3 S) (nI p) (nI e + (-1 : Int32)) (nI (s + k)) S11) = some (evs nm f L 0, M2) := by
      intro c o hc hb h1 h2
      obtain ⟨p1, p2, p3⟩ := two c hc h1 h2
      rw [show nI e + (-1) = nI (e - 1) from by rw [show nI e + (-1) = nI e - 1 from (Int32.sub_eq_add_neg _ _).symm]; exact pk_sub (b := 1) (by omega), show nI (e - 1) - 1 = nI (e - 2) from pk_sub (a := e - 1) (b := 1) (by omega), pu_r (by omega) (by decide), pu_r (by omega) (by decide), e_twoM hb, pu_c, pu_w (by omega) (by decide), hs _ (by omega), hs _ (by omega)]
      unfold B_Model_worth_191
      have key := put _ _ (by omega) (by omega) p3
      rw [p2] at key
      exact key
    rcases ho k (by omega) with ⟨v, hv1, hc2, hc⟩ | ⟨a, ha, hc2, hc⟩ | ⟨hc2, hc⟩ | ⟨hc2, hc⟩ | ⟨hc2, hc⟩ | ⟨hc2, hc⟩ | ⟨hc2, hc⟩ | ⟨hc2, hc⟩ | ⟨hc2, hc⟩ | ⟨hc2, hc⟩ | ⟨hc2, hc⟩
    · rw [hc2, if_pos (show (100000 : Int32) ≤ nI (100000 + v) from nI_le (a := 100000) (by omega) (by omega))]
      unfold B_Model_worth_66
      rw [if_pos (show (11 : Int32) ≤ nI (100000 + v) from nI_le (a := 11) (by omega) (by omega)), i_sub5]
      rw [hc, if_pos (nI_p6 (by omega))] at he2
      exact push _ (Option.some.inj he2).symm (by rw [hev, hc]; unfold stp; rw [if_pos (nI_p6 (by omega)), if_neg (nI_pos (by omega))])
    · rw [hc2, if_neg (show ¬ (100000 : Int32) ≤ nI a from nI_ge (b := 100000) (by omega) (by decide)), if_neg (show ¬ (11 : Int32) ≤ nI a from nI_ge (b := 11) (by omega) (by decide))]
      unfold B_Model_worth_66
      rw [if_neg (show ¬ (11 : Int32) ≤ nI a from nI_ge (b := 11) (by omega) (by decide)), pu_r ha (by decide), hn a ha]
      rcases (show a = 0 ∨ a = 1 ∨ a = 2 ∨ a = 3 ∨ a = 4 ∨ a = 5 by omega) with rfl | rfl | rfl | rfl | rfl | rfl
      · obtain ⟨p1, p2⟩ := name _ 0 hc (by decide) (by decide) (by decide) (by decide); exact push _ p1 p2
      · obtain ⟨p1, p2⟩ := name _ 1 hc (by decide) (by decide) (by decide) (by decide); exact push _ p1 p2
      · obtain ⟨p1, p2⟩ := name _ 2 hc (by decide) (by decide) (by decide) (by decide); exact push _ p1 p2
      · obtain ⟨p1, p2⟩ := name _ 3 hc (by decide) (by decide) (by decide) (by decide); exact push _ p1 p2
      · obtain ⟨p1, p2⟩ := name _ 4 hc (by decide) (by decide) (by decide) (by decide); exact push _ p1 p2
      · obtain ⟨p1, p2⟩ := name _ 5 hc (by decide) (by decide) (by decide) (by decide); exact push _ p1 p2
    · obtain ⟨p1, p2, p3⟩ := one (-8) hc (by decide) (by decide)
      subst p2
      rw [hc2, if_neg (by decide), if_pos (by decide), if_neg (by decide), show nI d1 - 1 = nI (d1 - 1) from pk_sub (b := 1) (by omega), pu_r (by omega) (by decide), hs _ (by omega)]
      unfold B_Model_worth_130 B_Model_worth_191
      unfold on1 at p3
      rw [if_pos (by decide)] at p3
      by_cases z : ¬ evs nm f k (d1 - 1) = 0
      · rw [if_pos z, pu_w (by omega) (by decide)]
        rw [if_pos z] at p3
        exact put _ _ (Nat.le_refl _) (by omega) p3
      · rw [if_neg z, pu_w (by omega) (by decide)]
        rw [if_neg z] at p3
        exact put _ _ (Nat.le_refl _) (by omega) p3
    · obtain ⟨p1, p2, p3⟩ := one (-7) hc (by decide) (by decide)
      subst p2
      rw [hc2, if_neg (by decide), if_pos (by decide), if_pos (by decide), if_neg (by decide), show nI d1 - 1 = nI (d1 - 1) from pk_sub (b := 1) (by omega), pu_r (by omega) (by decide), pu_w (by omega) (by decide), hs _ (by omega)]
      unfold B_Model_worth_191
      unfold on1 at p3
      rw [if_neg (by decide)] at p3
      exact put _ _ (Nat.le_refl _) (by omega) p3
    all_goals
      rw [hc2, if_neg (by decide), if_pos (by decide), if_pos (by decide), if_pos (by decide)]
      exact bin _ _ hc (by unfold iB2; decide) (by decide) (by decide)
end LM
