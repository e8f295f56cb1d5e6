/-! PURE: a text's code, worked out by both stack machines -/
theorem dp_s {f : Nat → Int32} {k d : Nat} (h : dpth f (k + 1) = some d) : ∃ e, dpth f k = some e ∧ (if (-6 : Int32) ≤ f k then some (e + 1) else if (-8 : Int32) ≤ f k then (if e = 0 then none else some e) else (if e ≤ 1 then none else some (e - 1))) = some d := by
  unfold dpth at h
  split at h
  · cases h
  · rename_i e he; exact ⟨e, he, h⟩
theorem dp_pre {f : Nat → Int32} {k x : Nat} : ∀ L, dpth f L = some x → k ≤ L → ∃ d, dpth f k = some d
  | 0, h, hk => ⟨x, by rw [show k = 0 by omega]; exact h⟩
  | L + 1, h, hk => by
    by_cases e : k = L + 1
    · exact ⟨x, by rw [e]; exact h⟩
    · obtain ⟨y, hy, -⟩ := dp_s h
      have key : ∀ (L y : Nat), dpth f L = some y → k ≤ L → ∃ d, dpth f k = some d := by
        intro L
        induction L with
        | zero => intro y h hk; exact ⟨y, by rw [show k = 0 by omega]; exact h⟩
        | succ L ih =>
          intro y h hk
          by_cases e : k = L + 1
          · exact ⟨y, by rw [e]; exact h⟩
          · obtain ⟨z, hz, -⟩ := dp_s h
            exact ih z hz (by omega)
      exact key L y hy (by omega)
theorem dp_le {f : Nat → Int32} : ∀ (k d : Nat), dpth f k = some d → d ≤ k
  | 0, d, h => by cases h; exact Nat.le_refl _
  | k + 1, d, h => by
    obtain ⟨e, h1, h2⟩ := dp_s h
    have := dp_le k e h1
    split at h2
    · cases h2; omega
    · split at h2
      · split at h2
        · cases h2
        · cases h2; omega
      · split at h2
        · cases h2
        · cases h2; omega
def on1 (c a : Int32) : Int32 := if ¬ c = -7 then (if ¬ a = 0 then 0 else 1) else -a
def tw2 (c a b : Int32) : Int32 := if c = -14 then (if a = 0 then 0 else if b = 0 then 0 else 1) else if c = -13 then (if ¬ a = b then 0 else 1) else if c = -12 then (if b ≤ a then 0 else 1) else if c = -11 then a - b else if c = -10 then a + b else if c = -9 then a * b else (if ¬ a = 0 then 1 else if b = 0 then 0 else 1)
def stp (nm : Nat → Int32) (c : Int32) (d : Nat) (st : Nat → Int32) : Nat → Int32 :=
  if (-6 : Int32) ≤ c then upd st d (if c < 0 then nm ((-1 : Int32) - c).toNatClampNeg else c)
  else if (-8 : Int32) ≤ c then upd st (d - 1) (on1 c (st (d - 1)))
  else upd st (d - 2) (tw2 c (st (d - 2)) (st (d - 1)))
def evs (nm f : Nat → Int32) : Nat → Nat → Int32
  | 0 => fun _ => 0
  | k + 1 => stp nm (f k) ((dpth f k).getD 0) (evs nm f k)
theorem nI_p6 {v : Nat} (h : v < 2 ^ 31) : (-6 : Int32) ≤ nI v := by
  rw [Int32.le_iff_toInt_le, nI_toInt h]
  show (-6 : Int) ≤ v
  omega
theorem nI_q6 {v : Nat} (h : v < 2 ^ 31) : ¬ nI v < (-6 : Int32) := by
  rw [Int32.lt_iff_toInt_lt, nI_toInt h]
  show ¬ (v : Int) < -6
  omega
section LW
variable {n T : Nat} {C M : dk_S}
theorem e_one1 (c a : Int32) : F_Scales_ofOne n T c a C = some (on1 c a, C) := by
  unfold F_Scales_ofOne B_Scales_ofOne_0 on1
  split
  · split <;> rfl
  · rfl
theorem e_two2 (c a b : Int32) : F_Scales_ofTwo n T c a b C = some (tw2 c a b, C) := by
  unfold F_Scales_ofTwo B_Scales_ofTwo_0 tw2
  split
  · split
    · rfl
    · split <;> rfl
  · split
    · split <;> rfl
    · split
      · split <;> rfl
      · split
        · rfl
        · split
          · rfl
          · split
            · rfl
            · split
              · rfl
              · split <;> rfl
theorem hold_up {g st : Nat → Int32} {d e j : Nat} {x : Int32} (h : ∀ i, i < d → g i = st i) (he : e ≤ d + 1) (hj : j = d ∨ e ≤ d) : ∀ i, i < e → upd g j x i = upd st j x i := by
  intro i hi
  by_cases q : i = j
  · subst q; rw [upd_s2, upd_s2]
  · rw [upd_n2 q, upd_n2 q]; exact h i (by omega)
theorem vC {t b L : Nat} {f nm : Nat → Int32} (hL : L ≤ 160) (hv : ∀ i, i < L → ∃ o, iO (f i) o) (hd : dpth f L = some 1) : ∀ (j k q d : Nat) (C : dk_S), k + j = L → j < q → dpth f k = some d → C (1001 + 4 * t + 2 * b) 0 = nI L → C (1000 + 4 * t + 2 * b) = f → (∀ i, i < 6 → C 16 i = nm i) → (∀ i, i < d → C 17 i = evs nm f k i) → ∃ C2, B_Scales_value_4 n T q t b (nI d) (nI k) C = some (evs nm f L 0, C2)
  | j, k, 0, _, _, _, hq, _, _, _, _, _ => absurd hq (Nat.not_lt_zero _)
  | 0, k, q + 1, d, C, hk, hq, hdk, hl, hf, hn, hs => by
    unfold B_Scales_value_4 B_Scales_value_4b
    have e : k = L := by omega
    subst e
    have d1 : d = 1 := by rw [hdk] at hd; exact Option.some.inj hd
    subst d1
    rw [hl, nI_clamp (by omega), if_pos (nI_le (by omega) (by omega)), if_neg (by decide), show nI 1 - 1 = nI 0 by decide, pu_r (by decide) (by decide), hs 0 (by decide)]
    exact ⟨C, rfl⟩
  | j + 1, k, q + 1, d, C, hk, hq, hdk, hl, hf, hn, hs => by
    unfold B_Scales_value_4 B_Scales_value_4b
    have hdle := dp_le k d hdk
    obtain ⟨d1, hd1⟩ := dp_pre (k := k + 1) L hd (by omega)
    obtain ⟨e, he1, he2⟩ := dp_s hd1
    have hed : e = d := by rw [hdk] at he1; exact (Option.some.inj he1).symm
    subst hed
    have hev : evs nm f (k + 1) = stp nm (f k) e (evs nm f k) := by
      show stp nm (f k) ((dpth f k).getD 0) (evs nm f k) = _
      rw [hdk]; rfl
    rw [hl, nI_clamp (by omega), if_neg (nI_ge (by omega) (by omega)), hf, pu_r (by omega) (by omega)]
    -- the three kinds of steps
    have push : ∀ v : Int32, d1 = e + 1 → evs nm f (k + 1) = upd (evs nm f k) e v → ∃ C2, B_Scales_value_55 n T (fun tx1 bx1 x2 x3 S => B_Scales_value_4 n T q tx1 bx1 x2 x3 S) t b (nI e) (nI k) (nI e) v C = some (evs nm f L 0, C2) := by
      intro v h1 h2
      unfold B_Scales_value_55 B_Scales_value_133
      rw [pu_w (by omega) (by decide), nI_1, nI_1, ← h1]
      refine vC hL hv hd j (k + 1) q d1 _ (by omega) (by omega) hd1 ?_ ?_ ?_ ?_
      · rw [dk_U_n (by omega)]; exact hl
      · rw [dk_U_n (by omega)]; exact hf
      · rw [dk_U_n (by decide)]; exact hn
      · rw [dk_U_s, h2]; exact hold_up hs (by omega) (Or.inl rfl)
    have put : ∀ (v : Int32) (p : Nat), d1 ≤ e → p < e → evs nm f (k + 1) = upd (evs nm f k) p v → ∃ C2, B_Scales_value_4 n T q t b (nI d1) (nI k + 1) (dk_U C 17 p v) = some (evs nm f L 0, C2) := by
      intro v p h1 h3 h2
      rw [nI_1]
      refine vC hL hv hd j (k + 1) q d1 _ (by omega) (by omega) hd1 ?_ ?_ ?_ ?_
      · rw [dk_U_n (by omega)]; exact hl
      · rw [dk_U_n (by omega)]; exact hf
      · rw [dk_U_n (by decide)]; exact hn
      · rw [dk_U_s, h2]; exact hold_up hs (by omega) (Or.inr h1)
    have one : ∀ c : Int32, f k = c → ¬ (-6 : Int32) ≤ c → (-8 : Int32) ≤ c → 0 < e ∧ d1 = e ∧ evs nm f (k + 1) = upd (evs nm f k) (e - 1) (on1 c (evs nm f k (e - 1))) := by
      intro c hc h1 h2
      rw [hc, if_neg h1, if_pos h2] at he2
      by_cases z : e = 0
      · rw [if_pos z] at he2; cases he2
      · rw [if_neg z] at he2
        exact ⟨by omega, (Option.some.inj he2).symm, by rw [hev, hc]; unfold stp; rw [if_neg h1, if_pos h2]⟩
    have two : ∀ c : Int32, f k = c → ¬ (-6 : Int32) ≤ c → ¬ (-8 : Int32) ≤ c → 1 < e ∧ d1 = e - 1 ∧ evs nm f (k + 1) = upd (evs nm f k) (e - 2) (tw2 c (evs nm f k (e - 2)) (evs nm f k (e - 1))) := by
      intro c hc h1 h2
      rw [hc, if_neg h1, if_neg h2] at he2
      by_cases z : e ≤ 1
      · rw [if_pos z] at he2; cases he2
      · rw [if_neg z] at he2
        exact ⟨by omega, (Option.some.inj he2).symm, by rw [hev, hc]; unfold stp; rw [if_neg h1, if_neg h2]⟩
    have name : ∀ (c : Int32) (a : Nat), f k = c → (-6 : Int32) ≤ c → c < 0 → (-1 : Int32) - c = nI a → a < 6 → d1 = e + 1 ∧ evs nm f (k + 1) = upd (evs nm f k) e (nm a) := by
      intro c a hc h1 h2 h3 h4
      rw [hc, if_pos h1] at he2
      exact ⟨(Option.some.inj he2).symm, by rw [hev, hc]; unfold stp; rw [if_pos h1, if_pos h2, h3, nI_clamp (by omega)]⟩
    have h160 : ¬ nI 160 ≤ nI e := nI_ge (by omega) (by decide)
    obtain ⟨o, ho⟩ := hv k (by omega)
    rcases ho with ⟨v, hv1, -, hc⟩ | ⟨a, ha, -, hc⟩ | ⟨-, hc⟩ | ⟨-, hc⟩ | ⟨-, hc⟩ | ⟨-, hc⟩ | ⟨-, hc⟩ | ⟨-, hc⟩ | ⟨-, hc⟩ | ⟨-, hc⟩ | ⟨-, hc⟩
    · rw [hc, if_neg (nI_q6 (by omega)), if_neg h160, if_neg (nI_pos (by omega))]
      rw [hc, if_pos (nI_p6 (by omega))] at he2
      exact push _ (Option.some.inj he2).symm (by rw [hev, hc]; unfold stp; rw [if_pos (nI_p6 (by omega)), if_neg (nI_pos (by omega))])
    · have go : ∀ (c : Int32) (a : Nat), f k = c → (-6 : Int32) ≤ c → ¬ c < -6 → c < 0 → (-1 : Int32) - c = nI a → a < 6 → ∃ C2, (if c < (-6 : Int32) then (none : Option (Int32 × dk_S)) else (dk_r 6 (C 16) ((-1 : Int32) - c) fun v13 => B_Scales_value_55 n T (fun tx1 bx1 x2 x3 S => B_Scales_value_4 n T q tx1 bx1 x2 x3 S) t b (nI e) (nI k) (nI e) v13 C)) = some (evs nm f L 0, C2) := by
        intro c a hc h1 h2 h3 h4 h5
        obtain ⟨p1, p2⟩ := name c a hc h1 h3 h4 h5
        rw [if_neg h2, h4, pu_r h5 (by decide), hn a h5]
        exact push _ p1 p2
      rcases (show a = 0 ∨ a = 1 ∨ a = 2 ∨ a = 3 ∨ a = 4 ∨ a = 5 by omega) with rfl | rfl | rfl | rfl | rfl | rfl
      · rw [hc, if_neg (by decide), if_neg h160, if_pos (by decide)]; exact go _ 0 hc (by decide) (by decide) (by decide) (by decide) (by decide)
      · rw [hc, if_neg (by decide), if_neg h160, if_pos (by decide)]; exact go _ 1 hc (by decide) (by decide) (by decide) (by decide) (by decide)
      · rw [hc, if_neg (by decide), if_neg h160, if_pos (by decide)]; exact go _ 2 hc (by decide) (by decide) (by decide) (by decide) (by decide)
      · rw [hc, if_neg (by decide), if_neg h160, if_pos (by decide)]; exact go _ 3 hc (by decide) (by decide) (by decide) (by decide) (by decide)
      · rw [hc, if_neg (by decide), if_neg h160, if_pos (by decide)]; exact go _ 4 hc (by decide) (by decide) (by decide) (by decide) (by decide)
      · rw [hc, if_neg (by decide), if_neg h160, if_pos (by decide)]; exact go _ 5 hc (by decide) (by decide) (by decide) (by decide) (by decide)
    · obtain ⟨p1, p2, p3⟩ := one (-8) hc (by decide) (by decide)
      rw [hc, if_pos (by decide), if_neg (by decide), if_neg (show ¬ nI e < 1 from nI_nlt (b := 1) (by omega) (by omega)), show nI e - 1 = nI (e - 1) from pk_sub (b := 1) (by omega), pu_r (by omega) (by decide), e_one1, pu_c, pu_w (by omega) (by decide), hs _ (by omega)]
      unfold B_Scales_value_133
      subst p2
      exact put _ _ (Nat.le_refl _) (by omega) p3
    · obtain ⟨p1, p2, p3⟩ := one (-7) hc (by decide) (by decide)
      rw [hc, if_pos (by decide), if_neg (by decide), if_neg (show ¬ nI e < 1 from nI_nlt (b := 1) (by omega) (by omega)), show nI e - 1 = nI (e - 1) from pk_sub (b := 1) (by omega), pu_r (by omega) (by decide), e_one1, pu_c, pu_w (by omega) (by decide), hs _ (by omega)]
      unfold B_Scales_value_133
      subst p2
      exact put _ _ (Nat.le_refl _) (by omega) p3
    all_goals
      obtain ⟨p1, p2, p3⟩ := two _ hc (by decide) (by decide)
      rw [hc, if_pos (by decide), if_pos (by decide), if_neg (show ¬ nI e < 2 from nI_nlt (b := 2) (by omega) (by omega)), show nI e + (-1) = nI (e - 1) from by rw [show nI e + (-1) = nI e - 1 from (Int32.sub_eq_add_neg _ _).symm]; exact pk_sub (b := 1) (by omega), show nI (e - 1) - 1 = nI (e - 2) from pk_sub (a := e - 1) (b := 1) (by omega), pu_r (by omega) (by decide), pu_r (by omega) (by decide), e_two2, pu_c, pu_w (by omega) (by decide), hs _ (by omega), hs _ (by omega)]
      unfold B_Scales_value_133
      have key := put _ _ (by omega) (by omega) p3
      rw [p2] at key
      exact key
end LW
