section LV
variable {n T G B N m r c : Nat} {C M : dk_S}
/-- one number of a claim written on both sides -/
theorem sc_w {i key : Nat} {v : Int32} (hS : pSc G B N c C M) (hi : i < c) (hk : key = 20 ∨ key = 25 ∨ key = 26) (hv : sc1 G B (dk_U C key i v) (dk_U M key i v) i) : pSc G B N c (dk_U C key i v) (dk_U M key i v) := by
  obtain ⟨h1, h2, h3, h4, h5⟩ := hS
  refine ⟨h1, by rw [dk_U_n (by omega)]; exact h2, by rw [dk_U_n (by omega)]; exact h3, fun j hj => ?_, fun b hb => (h5 b hb).cg (fun k hk2 => ?_) (fun k hk2 => ?_)⟩
  · by_cases e : j = i
    · subst e; exact hv
    · refine (h4 j hj).cg (fun k _ => ?_) (fun k _ => ?_)
      · by_cases q : k = key
        · subst q; rw [pu_Uj e]
        · rw [dk_U_n q]
      · by_cases q : k = key
        · subst q; rw [pu_Uj e]
        · rw [dk_U_n q]
  · rw [dk_U_n (by intro z; subst z; simp only [List.mem_cons, List.not_mem_nil, or_false] at hk2; omega)]
  · rw [dk_U_n (by intro z; subst z; simp only [List.mem_cons, List.not_mem_nil, or_false] at hk2; omega)]
theorem sc_w25 {i t : Nat} (hS : pSc G B N c C M) (hi : i < c) (ht : t < 1000) : pSc G B N c (dk_U C 25 i (nI t)) (dk_U M 25 i (nI t)) := by
  refine sc_w hS hi (by decide) ?_
  obtain ⟨a1, a2, a3, a4, a5, a6, a7, a8, a9, a10, a11⟩ := hS.2.2.2.1 i hi
  unfold sc1
  rw [pu_Us, pu_Us, dk_U_n (show 19 ≠ 25 by decide), dk_U_n (show 20 ≠ 25 by decide), dk_U_n (show 21 ≠ 25 by decide), dk_U_n (show 22 ≠ 25 by decide), dk_U_n (show 23 ≠ 25 by decide), dk_U_n (show 24 ≠ 25 by decide), dk_U_n (show 26 ≠ 25 by decide), dk_U_n (show 19 ≠ 25 by decide), dk_U_n (show 20 ≠ 25 by decide), dk_U_n (show 21 ≠ 25 by decide), dk_U_n (show 22 ≠ 25 by decide), dk_U_n (show 23 ≠ 25 by decide), dk_U_n (show 24 ≠ 25 by decide), dk_U_n (show 26 ≠ 25 by decide)]
  exact ⟨a1, a2, a3, a4, a5, rfl, a7, a8, Or.inr ⟨t, ht, rfl⟩, a10, a11⟩
theorem sc_w26 {i : Nat} (hS : pSc G B N c C M) (hi : i < c) : pSc G B N c (dk_U C 26 i 1) (dk_U M 26 i 1) := by
  refine sc_w hS hi (by decide) ?_
  obtain ⟨a1, a2, a3, a4, a5, a6, a7, a8, a9, a10, a11⟩ := hS.2.2.2.1 i hi
  unfold sc1
  rw [pu_Us, pu_Us, dk_U_n (show 19 ≠ 26 by decide), dk_U_n (show 20 ≠ 26 by decide), dk_U_n (show 21 ≠ 26 by decide), dk_U_n (show 22 ≠ 26 by decide), dk_U_n (show 23 ≠ 26 by decide), dk_U_n (show 24 ≠ 26 by decide), dk_U_n (show 25 ≠ 26 by decide), dk_U_n (show 19 ≠ 26 by decide), dk_U_n (show 20 ≠ 26 by decide), dk_U_n (show 21 ≠ 26 by decide), dk_U_n (show 22 ≠ 26 by decide), dk_U_n (show 23 ≠ 26 by decide), dk_U_n (show 24 ≠ 26 by decide), dk_U_n (show 25 ≠ 26 by decide)]
  exact ⟨a1, a2, a3, a4, a5, a6, rfl, a8, a9, Or.inr rfl, a11⟩
theorem sc_w20 {i p : Nat} (hS : pSc G B N c C M) (hi : i < c) (hp : p < 10) : pSc G B N c (dk_U C 20 i (nI p)) (dk_U M 20 i (nI p)) := by
  refine sc_w hS hi (by decide) ?_
  obtain ⟨a1, a2, a3, a4, a5, a6, a7, a8, a9, a10, k, p0, b, t, x, b1, b2, b3, b4, b5, b6, b7, b8, b9, b10⟩ := hS.2.2.2.1 i hi
  unfold sc1
  rw [pu_Us, pu_Us, dk_U_n (show 19 ≠ 20 by decide), dk_U_n (show 26 ≠ 20 by decide), dk_U_n (show 21 ≠ 20 by decide), dk_U_n (show 22 ≠ 20 by decide), dk_U_n (show 23 ≠ 20 by decide), dk_U_n (show 24 ≠ 20 by decide), dk_U_n (show 25 ≠ 20 by decide), dk_U_n (show 19 ≠ 20 by decide), dk_U_n (show 26 ≠ 20 by decide), dk_U_n (show 21 ≠ 20 by decide), dk_U_n (show 22 ≠ 20 by decide), dk_U_n (show 23 ≠ 20 by decide), dk_U_n (show 24 ≠ 20 by decide), dk_U_n (show 25 ≠ 20 by decide)]
  exact ⟨a1, rfl, a3, a4, a5, a6, a7, a8, a9, a10, k, p, b, t, x, b1, hp, b3, b4, b5, b6, rfl, b8, b9, b10⟩
/-- writing what is there already changes nothing -/
theorem dk_U_id {S : dk_S} {k j : Nat} : dk_U S k j (S k j) = S := by
  funext a b
  by_cases q : a = k
  · subst q
    rw [dk_U_s]
    by_cases z : b = j
    · subst z; rw [upd_s2]
    · rw [upd_n2 z]
  · rw [dk_U_n q]
theorem lv_lose {x1 b p : Int32} {t : Nat} (ht : t < 1000) : ∀ (d i q : Nat) (C M : dk_S), i + d = c → d < q → pSc G B N c C M → ∃ C2 M2, B_Scene_lose_3 n T q b p (nI t) (nI i) C = some C2 ∧ B_Model_passes_138 n q x1 b p (nI t) 4 (nI i) M = B_Model_passes_270 n n x1 b p 4 0 M2 ∧ pSc G B N c C2 M2 ∧ dk_fr [25] M M2
  | d, i, 0, _, _, _, hq, _ => absurd hq (Nat.not_lt_zero _)
  | 0, i, q + 1, C, M, hi, hq, hS => by
    unfold B_Scene_lose_3 B_Scene_lose_3b B_Model_passes_138 B_Model_passes_138b
    have := hS.1
    rw [hS.2.1, hS.2.2.1, if_pos (nI_le (by omega) (by omega)), if_pos (nI_le (by omega) (by omega))]
    exact ⟨C, M, rfl, rfl, hS, dk_fr.rf⟩
  | d + 1, i, q + 1, C, M, hi, hq, hS => by
    unfold B_Scene_lose_3 B_Scene_lose_3b B_Model_passes_138 B_Model_passes_138b
    have h44 := hS.1
    have hi44 : i < 44 := by omega
    obtain ⟨a1, a2, a3, a4, a5, a6, a7, a8, a9, a10, a11⟩ := hS.2.2.2.1 i (by omega)
    have skip : ∀ C M : dk_S, pSc G B N c C M → ∃ C2 M2, B_Scene_lose_53 n T (fun x1 x2 x3 x4 S => B_Scene_lose_3 n T q x1 x2 x3 x4 S) b p (nI t) (nI i) C = some C2 ∧ B_Model_passes_195 n (fun x1 x2 x3 x4 x5 x6 S => B_Model_passes_138 n q x1 x2 x3 x4 x5 x6 S) x1 b p (nI t) 4 (nI i) M = B_Model_passes_270 n n x1 b p 4 0 M2 ∧ pSc G B N c C2 M2 ∧ dk_fr [25] M M2 := by
      intro C M hS
      obtain ⟨C2, M2, e1, e2, e3, e4⟩ := lv_lose (x1 := x1) (b := b) (p := p) ht d (i + 1) q C M (by omega) (by omega) hS
      refine ⟨C2, M2, ?_, ?_, e3, e4⟩
      · unfold B_Scene_lose_53; rw [nI_1]; exact e1
      · unfold B_Model_passes_195 B_Model_passes_235 B_Model_passes_261
        rw [if_pos (by decide), if_pos (by decide), nI_1]; exact e2
    rw [hS.2.1, hS.2.2.1, if_neg (nI_ge (by omega) (by omega)), if_neg (nI_ge (by omega) (by omega)), if_neg (by decide)]
    simp only [pu_r hi44 (show (44 : Nat) < 2 ^ 31 by decide), a3, a2, a6]
    by_cases h1 : M 21 i = b
    · rw [if_neg (show ¬ ¬ M 21 i = b from fun z => z h1), if_neg (show ¬ ¬ M 21 i = b from fun z => z h1)]
      by_cases h2 : M 20 i = p
      · rw [if_neg (show ¬ ¬ M 20 i = p from fun z => z h2), if_neg (show ¬ ¬ M 20 i = p from fun z => z h2)]
        by_cases h3 : M 25 i = -1
        · rw [if_neg (show ¬ ¬ M 25 i = -1 from fun z => z h3), if_neg (show ¬ ¬ M 25 i = -1 from fun z => z h3), pu_w hi44 (by decide), pu_w hi44 (by decide)]
          obtain ⟨C2, M2, e1, e2, e3, e4⟩ := skip _ _ (sc_w25 (i := i) hS (by omega) ht)
          exact ⟨C2, M2, e1, e2, e3, (fr_U (by decide)).tr e4⟩
        · rw [if_pos h3, if_pos h3]; exact skip C M hS
      · rw [if_pos h2, if_pos h2]; exact skip C M hS
    · rw [if_pos h1, if_pos h1]; exact skip C M hS
theorem e_yields {i k : Nat} (hS : sc1 G B C M i) (hi : i < 44) (hk : k < 6) (hki : M 19 i = nI k) : F_Scene_yields n T (nI i) C = some (b2 (k < 3), C) := by
  unfold F_Scene_yields B_Scene_yields_0
  simp only [pu_r hi (show (44 : Nat) < 2 ^ 31 by decide), hS.1, hki]
  rcases (show k = 0 ∨ k = 1 ∨ k = 2 ∨ k = 3 ∨ k = 4 ∨ k = 5 by omega) with rfl | rfl | rfl | rfl | rfl | rfl <;> rfl
theorem lv_kill {x1 t p : Int32} {b : Nat} (hb : b < N) (hN : N ≤ 6) : ∀ (d i q : Nat) (C M : dk_S), i + d = c → d < q → pSc G B N c C M → ∃ C2 M2, B_Scene_kill_2 n T q (nI b) p (nI i) C = some (dk_U C2 29 b 1) ∧ B_Model_passes_138 n q x1 (nI b) p t 6 (nI i) M = B_Model_passes_270 n n x1 (nI b) p 6 0 M2 ∧ pSc G B N c C2 M2 ∧ dk_fr [26] M M2
  | d, i, 0, _, _, _, hq, _ => absurd hq (Nat.not_lt_zero _)
  | 0, i, q + 1, C, M, hi, hq, hS => by
    unfold B_Scene_kill_2 B_Scene_kill_2b B_Model_passes_138 B_Model_passes_138b
    have := hS.1
    rw [hS.2.1, hS.2.2.1, if_pos (nI_le (by omega) (by omega)), if_pos (nI_le (by omega) (by omega)), pu_w (by omega) (by decide), nar1]
    exact ⟨C, M, rfl, rfl, hS, dk_fr.rf⟩
  | d + 1, i, q + 1, C, M, hi, hq, hS => by
    unfold B_Scene_kill_2 B_Scene_kill_2b B_Model_passes_138 B_Model_passes_138b
    have h44 := hS.1
    have hi44 : i < 44 := by omega
    have hs := hS.2.2.2.1 i (by omega)
    obtain ⟨a1, a2, a3, a4, a5, a6, a7, a8, a9, a10, kk, p0, b0, t0, x0, b1, b2x, b3, b4, b5, b6, b7, b8, b9, b10⟩ := id hs
    have next : ∀ C M : dk_S, pSc G B N c C M → ∃ C2 M2, B_Scene_kill_45 n T (fun x1 x2 x3 S => B_Scene_kill_2 n T q x1 x2 x3 S) (nI b) p (nI i) C = some (dk_U C2 29 b 1) ∧ B_Model_passes_261 n (fun x1 x2 x3 x4 x5 x6 S => B_Model_passes_138 n q x1 x2 x3 x4 x5 x6 S) x1 (nI b) p t 6 (nI i) M = B_Model_passes_270 n n x1 (nI b) p 6 0 M2 ∧ pSc G B N c C2 M2 ∧ dk_fr [26] M M2 := by
      intro C M hS
      obtain ⟨C2, M2, e1, e2, e3, e4⟩ := lv_kill (x1 := x1) (t := t) (p := p) hb hN d (i + 1) q C M (by omega) (by omega) hS
      refine ⟨C2, M2, ?_, ?_, e3, e4⟩
      · unfold B_Scene_kill_45; rw [nI_1]; exact e1
      · unfold B_Model_passes_261; rw [nI_1]; exact e2
    rw [hS.2.1, hS.2.2.1, if_neg (nI_ge (by omega) (by omega)), if_neg (nI_ge (by omega) (by omega)), if_pos (by decide)]
    unfold B_Model_passes_195 B_Model_passes_235 B_Model_passes_253
    rw [if_neg (by decide), if_pos (by decide), e_yields hs hi44 b1 b6, pu_c]
    simp only [pu_r hi44 (show (44 : Nat) < 2 ^ 31 by decide), pu_w hi44 (show (44 : Nat) < 2 ^ 31 by decide), a3, a2, nar1]
    by_cases h1 : M 21 i = nI b
    · rw [if_neg (show ¬ ¬ M 21 i = nI b from fun z => z h1), if_neg (show ¬ ¬ M 21 i = nI b from fun z => z h1)]
      by_cases h2 : M 20 i = p
      · rw [if_pos h2, if_pos h2]; exact next C M hS
      · rw [if_neg h2, if_neg h2, b6]
        by_cases h3 : kk < 3
        · rw [pu_et h3, if_pos (show nI kk < 3 from nI_lt h3 (by decide))]
          obtain ⟨C2, M2, e1, e2, e3, e4⟩ := next _ _ (sc_w26 (i := i) hS (by omega))
          exact ⟨C2, M2, e1, e2, e3, (fr_U (by decide)).tr e4⟩
        · rw [pu_ef h3, if_neg (show ¬ nI kk < 3 from nI_nlt (b := 3) (by omega) (by omega))]; exact next C M hS
    · rw [if_pos h1, if_pos h1]; exact next C M hS
theorem e_holdC {i : Nat} (hS : sc1 G B C M i) (hi : i < 44) (b : Int32) : F_Scene_isHoldOf n T (nI i) b C = some (b2 (M 19 i = 3 ∧ M 21 i = b), C) := by
  unfold F_Scene_isHoldOf B_Scene_isHoldOf_0
  simp only [pu_r hi (show (44 : Nat) < 2 ^ 31 by decide), hS.1, hS.2.2.1]
  by_cases h1 : M 19 i = 3
  · rw [if_neg (by simp [h1])]
    by_cases h2 : M 21 i = b
    · rw [if_neg (by simp [h2]), b2_t ⟨h1, h2⟩]; rfl
    · rw [if_pos h2, b2_f (fun z => h2 z.2)]; rfl
  · rw [if_pos h1, b2_f (fun z => h1 z.1)]; rfl
theorem e_holdM {i : Nat} (hi : i < 44) (b p : Int32) : F_Model_isHeldBy n (nI i) b p M = some (b2 ((M 19 i = 3 ∧ M 21 i = b) ∧ M 20 i = p), M) := by
  unfold F_Model_isHeldBy B_Model_isHeldBy_0
  simp only [pu_r hi (show (44 : Nat) < 2 ^ 31 by decide)]
  by_cases h2 : M 21 i = b
  · rw [if_neg (by simp [h2])]
    by_cases h1 : M 19 i = 3
    · rw [if_neg (by simp [h1])]
      by_cases h3 : M 20 i = p
      · rw [if_neg (by simp [h3]), b2_t ⟨⟨h1, h2⟩, h3⟩]; rfl
      · rw [if_pos h3, b2_f (fun z => h3 z.2)]; rfl
    · rw [if_pos h1, b2_f (fun z => h1 z.1.1)]; rfl
  · rw [if_pos h2, b2_f (fun z => h2 z.1.2)]; rfl
theorem lv_let {x1 t b p : Int32} : ∀ (d i q : Nat) (C M : dk_S), i + d = c → d < q → pSc G B N c C M → ∃ C2 M2, B_Scene_letGo_2 n T q b p (nI i) C = some C2 ∧ B_Model_passes_138 n q x1 b p t 8 (nI i) M = B_Model_passes_270 n n x1 b p 8 0 M2 ∧ pSc G B N c C2 M2 ∧ dk_fr [26] M M2
  | d, i, 0, _, _, _, hq, _ => absurd hq (Nat.not_lt_zero _)
  | 0, i, q + 1, C, M, hi, hq, hS => by
    unfold B_Scene_letGo_2 B_Scene_letGo_2b B_Model_passes_138 B_Model_passes_138b
    have := hS.1
    rw [hS.2.1, hS.2.2.1, if_pos (nI_le (by omega) (by omega)), if_pos (nI_le (by omega) (by omega))]
    exact ⟨C, M, rfl, rfl, hS, dk_fr.rf⟩
  | d + 1, i, q + 1, C, M, hi, hq, hS => by
    unfold B_Scene_letGo_2 B_Scene_letGo_2b B_Model_passes_138 B_Model_passes_138b
    have h44 := hS.1
    have hi44 : i < 44 := by omega
    have hs := hS.2.2.2.1 i (by omega)
    have a2 := hs.2.1
    have next : ∀ C M : dk_S, pSc G B N c C M → ∃ C2 M2, B_Scene_letGo_36 n T (fun x1 x2 x3 S => B_Scene_letGo_2 n T q x1 x2 x3 S) b p (nI i) C = some C2 ∧ B_Model_passes_261 n (fun x1 x2 x3 x4 x5 x6 S => B_Model_passes_138 n q x1 x2 x3 x4 x5 x6 S) x1 b p t 8 (nI i) M = B_Model_passes_270 n n x1 b p 8 0 M2 ∧ pSc G B N c C2 M2 ∧ dk_fr [26] M M2 := by
      intro C M hS
      obtain ⟨C2, M2, e1, e2, e3, e4⟩ := lv_let (x1 := x1) (t := t) (b := b) (p := p) d (i + 1) q C M (by omega) (by omega) hS
      refine ⟨C2, M2, ?_, ?_, e3, e4⟩
      · unfold B_Scene_letGo_36; rw [nI_1]; exact e1
      · unfold B_Model_passes_261; rw [nI_1]; exact e2
    rw [hS.2.1, hS.2.2.1, if_neg (nI_ge (by omega) (by omega)), if_neg (nI_ge (by omega) (by omega)), if_pos (by decide)]
    unfold B_Model_passes_195 B_Model_passes_235 B_Model_passes_253
    rw [if_pos (by decide), if_neg (by decide), e_holdC hs hi44, e_holdM hi44, pu_c, pu_c]
    simp only [pu_r hi44 (show (44 : Nat) < 2 ^ 31 by decide), pu_w hi44 (show (44 : Nat) < 2 ^ 31 by decide), a2, nar1]
    by_cases h1 : M 19 i = 3 ∧ M 21 i = b
    · rw [pu_et h1]
      by_cases h2 : M 20 i = p
      · rw [if_neg (show ¬ ¬ M 20 i = p from fun z => z h2), pu_et ⟨h1, h2⟩]
        obtain ⟨C2, M2, e1, e2, e3, e4⟩ := next _ _ (sc_w26 (i := i) hS (by omega))
        exact ⟨C2, M2, e1, e2, e3, (fr_U (by decide)).tr e4⟩
      · rw [if_pos h2, pu_ef (fun z => h2 z.2)]; exact next C M hS
    · rw [pu_ef h1, pu_ef (fun z => h1 z.1)]; exact next C M hS
/-- a moment of a kind that the first loop passes over -/
theorem lv_nop {x1 t b p w : Int32} (h4 : ¬ w = 4) (h6 : ¬ w = 6) (h8 : ¬ w = 8) : ∀ (d i q : Nat) (M : dk_S), i + d = c → d < q → c ≤ 44 → M 18 0 = nI c → B_Model_passes_138 n q x1 b p t w (nI i) M = B_Model_passes_270 n n x1 b p w 0 M
  | d, i, 0, _, _, hq, _, _ => absurd hq (Nat.not_lt_zero _)
  | 0, i, q + 1, M, hi, hq, hc, hM => by
    unfold B_Model_passes_138 B_Model_passes_138b
    rw [hM, if_pos (nI_le (by omega) (by omega))]
  | d + 1, i, q + 1, M, hi, hq, hc, hM => by
    unfold B_Model_passes_138 B_Model_passes_138b B_Model_passes_195 B_Model_passes_235 B_Model_passes_261
    rw [hM, if_neg (nI_ge (by omega) (by omega)), if_pos h4, if_pos h6, if_pos h8, nI_1]
    exact lv_nop h4 h6 h8 d (i + 1) q M (by omega) (by omega) hc hM
theorem lv_give {b p : Int32} {x1 to : Nat} (hx : x1 < 32) (hto : to < 10) : ∀ (d i q : Nat) (C M : dk_S), i + d = c → d < q → pSc G B N c C M → M 10 x1 = nI to → ∃ C2 M2, B_Scene_give_3 n T q b p (nI to) (nI i) C = some C2 ∧ B_Model_passes_270 n q (nI x1) b p 9 (nI i) M = B_Model_passes_326 n b 9 M2 ∧ pSc G B N c C2 M2 ∧ dk_fr [20] M M2
  | d, i, 0, _, _, _, hq, _, _ => absurd hq (Nat.not_lt_zero _)
  | 0, i, q + 1, C, M, hi, hq, hS, hM => by
    unfold B_Scene_give_3 B_Scene_give_3b B_Model_passes_270 B_Model_passes_270b
    have := hS.1
    rw [hS.2.1, hS.2.2.1, if_pos (nI_le (by omega) (by omega)), if_pos (nI_le (by omega) (by omega))]
    exact ⟨C, M, rfl, rfl, hS, dk_fr.rf⟩
  | d + 1, i, q + 1, C, M, hi, hq, hS, hM => by
    unfold B_Scene_give_3 B_Scene_give_3b B_Model_passes_270 B_Model_passes_270b
    have h44 := hS.1
    have hi44 : i < 44 := by omega
    have hs := hS.2.2.2.1 i (by omega)
    have a2 := hs.2.1
    have next : ∀ C M : dk_S, pSc G B N c C M → M 10 x1 = nI to → ∃ C2 M2, B_Scene_give_41 n T (fun x1 x2 x3 x4 S => B_Scene_give_3 n T q x1 x2 x3 x4 S) b p (nI to) (nI i) C = some C2 ∧ B_Model_passes_270 n q (nI x1) b p 9 (nI i + 1) M = B_Model_passes_326 n b 9 M2 ∧ pSc G B N c C2 M2 ∧ dk_fr [20] M M2 := by
      intro C M hS hM
      obtain ⟨C2, M2, e1, e2, e3, e4⟩ := lv_give (b := b) (p := p) hx hto d (i + 1) q C M (by omega) (by omega) hS hM
      refine ⟨C2, M2, ?_, ?_, e3, e4⟩
      · unfold B_Scene_give_41; rw [nI_1]; exact e1
      · rw [nI_1]; exact e2
    rw [hS.2.1, hS.2.2.1, if_neg (nI_ge (by omega) (by omega)), if_neg (nI_ge (by omega) (by omega)), if_neg (by decide), e_holdC hs hi44, e_holdM hi44, pu_c, pu_c]
    unfold B_Model_passes_319
    simp only [pu_r hi44 (show (44 : Nat) < 2 ^ 31 by decide), pu_w hi44 (show (44 : Nat) < 2 ^ 31 by decide), pu_r hx (show (32 : Nat) < 2 ^ 31 by decide), a2, hM, dk_U_id]
    by_cases h1 : M 19 i = 3 ∧ M 21 i = b
    · rw [pu_et h1]
      by_cases h2 : M 20 i = p
      · rw [if_neg (show ¬ ¬ M 20 i = p from fun z => z h2), pu_et ⟨h1, h2⟩]
        obtain ⟨C2, M2, e1, e2, e3, e4⟩ := next _ _ (sc_w20 (i := i) hS (by omega) hto) (by rw [dk_U_n (by decide)]; exact hM)
        exact ⟨C2, M2, e1, e2, e3, (fr_U (by decide)).tr e4⟩
      · rw [if_pos h2, pu_ef (fun z => h2 z.2)]; exact next C M hS hM
    · rw [pu_ef h1, pu_ef (fun z => h1 z.1)]; exact next C M hS hM
end LV
