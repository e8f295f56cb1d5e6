section L2
variable {n T G B N m r c : Nat} {C M : dk_S}
theorem sb_w {b g a : Nat} (hS : pSc G B N c C M) (hb : b < N) (hg : g < G) (ha : a < 1000) : pSc G B N c (dk_U (dk_U C 28 b (nI a)) 27 b (nI g)) (dk_U (dk_U M 28 b (nI a)) 27 b (nI g)) := by
  obtain ⟨h1, h2, h3, h4, h5⟩ := hS
  refine ⟨h1, by simp (decide := true) only [dk_U_n]; exact h2, by simp (decide := true) only [dk_U_n]; exact h3, fun j hj => (h4 j hj).cg (fun k hk => ?_) (fun k hk => ?_), fun e he => ?_⟩
  · simp only [List.mem_cons, List.not_mem_nil, or_false] at hk
    rcases hk with rfl | rfl | rfl | rfl | rfl | rfl | rfl | rfl <;> simp (decide := true) only [dk_U_n]
  · simp only [List.mem_cons, List.not_mem_nil, or_false] at hk
    rcases hk with rfl | rfl | rfl | rfl | rfl | rfl | rfl | rfl <;> simp (decide := true) only [dk_U_n]
  · by_cases q : e = b
    · subst q
      obtain ⟨a1, a2, a3, a4, a5, a6⟩ := h5 e he
      refine ⟨?_, ?_, ?_, ⟨g, hg, ?_⟩, ⟨a, ha, ?_⟩, ?_⟩
      · rw [pu_Us, pu_Us]
      · rw [dk_U_n (by decide), pu_Us, dk_U_n (by decide), pu_Us]
      · rw [dk_U_n (by decide), dk_U_n (by decide), dk_U_n (by decide), dk_U_n (by decide)]; exact a3
      · rw [pu_Us]
      · rw [dk_U_n (by decide), pu_Us]
      · rw [dk_U_n (by decide), dk_U_n (by decide)]; exact a6
    · refine (h5 e he).cg (fun k hk => ?_) (fun k hk => ?_)
      · simp only [List.mem_cons, List.not_mem_nil, or_false] at hk
        rcases hk with rfl | rfl | rfl <;> simp (decide := true) only [dk_U_n, pu_Uj q]
      · simp only [List.mem_cons, List.not_mem_nil, or_false] at hk
        rcases hk with rfl | rfl | rfl <;> simp (decide := true) only [dk_U_n, pu_Uj q]
theorem sb_k {b : Nat} (hS : pSc G B N c C M) (hb : b < N) : pSc G B N c (dk_U C 29 b 1) (dk_U M 29 b 1) := by
  obtain ⟨h1, h2, h3, h4, h5⟩ := hS
  refine ⟨h1, by simp (decide := true) only [dk_U_n]; exact h2, by simp (decide := true) only [dk_U_n]; exact h3, fun j hj => (h4 j hj).cg (fun k hk => ?_) (fun k hk => ?_), fun e he => ?_⟩
  · simp only [List.mem_cons, List.not_mem_nil, or_false] at hk
    rcases hk with rfl | rfl | rfl | rfl | rfl | rfl | rfl | rfl <;> simp (decide := true) only [dk_U_n]
  · simp only [List.mem_cons, List.not_mem_nil, or_false] at hk
    rcases hk with rfl | rfl | rfl | rfl | rfl | rfl | rfl | rfl <;> simp (decide := true) only [dk_U_n]
  · by_cases q : e = b
    · subst q
      obtain ⟨a1, a2, a3, a4, a5, a6⟩ := h5 e he
      unfold sb1
      rw [dk_U_n (show 27 ≠ 29 by decide), dk_U_n (show 28 ≠ 29 by decide), dk_U_n (show 27 ≠ 29 by decide), dk_U_n (show 28 ≠ 29 by decide), pu_Us, pu_Us]
      exact ⟨a1, a2, rfl, a4, a5, Or.inr rfl⟩
    · refine (h5 e he).cg (fun k hk => ?_) (fun k hk => ?_)
      · simp only [List.mem_cons, List.not_mem_nil, or_false] at hk
        rcases hk with rfl | rfl | rfl <;> simp (decide := true) only [dk_U_n, pu_Uj q]
      · simp only [List.mem_cons, List.not_mem_nil, or_false] at hk
        rcases hk with rfl | rfl | rfl <;> simp (decide := true) only [dk_U_n, pu_Uj q]
theorem e_270 {x1 b p w : Int32} (hw : ¬ w = 9) (hn : 400 ≤ n) : B_Model_passes_270 n n x1 b p w 0 M = B_Model_passes_326 n b w M := by
  obtain ⟨q, hq⟩ : ∃ q, n = q + 1 := ⟨n - 1, by omega⟩
  conv => lhs; arg 2; rw [hq]
  unfold B_Model_passes_270 B_Model_passes_270b
  by_cases h : M 18 0 ≤ 0
  · rw [if_pos h]
  · rw [if_neg h, if_pos hw]
theorem e_326 {b : Nat} {w : Int32} (hw : ¬ w = 6) (hb : b < 6) (h01 : M 29 b = 0 ∨ M 29 b = 1) : B_Model_passes_326 n (nI b) w M = some M := by
  unfold B_Model_passes_326 B_Model_passes_347 B_Model_passes_352
  rw [pu_r hb (by decide), pu_w hb (by decide), pu_w hb (by decide), nar0, nar1]
  rcases h01 with h | h
  · rw [if_neg (by simp [h]), if_pos hw, ← h, dk_U_id]
  · rw [if_pos (by rw [h]; decide), ← h, dk_U_id]
theorem e_326k {b : Nat} (hb : b < 6) : B_Model_passes_326 n (nI b) 6 M = some (dk_U M 29 b 1) := by
  unfold B_Model_passes_326 B_Model_passes_347 B_Model_passes_352
  rw [pu_r hb (by decide), pu_w hb (by decide), nar1]
  by_cases h : M 29 b = 0
  · rw [if_neg (by simp [h]), if_neg (by decide)]
  · rw [if_pos h]
theorem e_cross {b g t : Nat} (hE : pE T G B m r C M) (hS : pSc G B B c C M) (hc : c < 44) (hb : b < B) (hg : g < G) (ht : t < 1000) : ∃ C2 M2 c2, F_Scene_cross n T (nI b) (nI g) (nI t) C = some C2 ∧ F_Model_crosses n (nI b) (nI g) (nI t) M = some M2 ∧ c ≤ c2 ∧ c2 ≤ c + 1 ∧ pSc G B B c2 C2 M2 := by
  obtain ⟨hG, hB, -⟩ := id hE
  have hG8 := hG.1
  have hB6 := hB.1
  have hb6 : b < 6 := by omega
  obtain ⟨a1, a2, a3, ⟨g0, hg0, a4⟩, ⟨t0, ht0, a5⟩, a6⟩ := hS.2.2.2.2 b hb
  obtain ⟨f1, f2, f3, h, hh, f4⟩ := hB.2.2.2 b hb
  unfold F_Scene_cross B_Scene_cross_0 F_Model_crosses B_Model_crosses_0
  simp only [pu_r hb6 (show (6 : Nat) < 2 ^ 31 by decide), a1, a3, a4, f1, f4, a5]
  by_cases h1 : M 29 b = 0
  · rw [if_neg (show ¬ ¬ M 29 b = 0 from fun z => z h1), if_neg (show ¬ ¬ M 29 b = 0 from fun z => z h1)]
    by_cases h2 : nI g0 = nI g
    · rw [if_neg (show ¬ ¬ nI g0 = nI g from fun z => z h2), if_neg (show ¬ ¬ nI g0 = nI g from fun z => z h2)]
      exact ⟨C, M, c, rfl, rfl, by omega, by omega, hS⟩
    · rw [if_pos h2, if_pos h2]
      -- what follows
      have rest : ∀ a : Nat, a < 1000 → ∃ C2 M2 c2, B_Scene_cross_45 n T (nI b) (nI g) (nI t) (dk_U C 28 b (nI a)) = some C2 ∧ B_Model_crosses_50 n (nI b) (nI g) (nI t) (nI b) (nI a) M = some M2 ∧ c ≤ c2 ∧ c2 ≤ c + 1 ∧ pSc G B B c2 C2 M2 := by
        intro a ha
        unfold B_Scene_cross_45 B_Model_crosses_50
        rw [pu_w hb6 (by decide), pu_w hb6 (by decide), pu_w hb6 (by decide)]
        have hS1 := sb_w (a := a) hS hb hg ha
        have hG1 := hG.cg (C2 := dk_U (dk_U C 28 b (nI a)) 27 b (nI g)) (M2 := dk_U (dk_U M 28 b (nI a)) 27 b (nI g)) (W := [28, 27]) (V := [28, 27]) ((fr_U (by decide)).tr (fr_U (by decide))) ((fr_U (by decide)).tr (fr_U (by decide))) (by decide) (by decide)
        obtain ⟨C2, M2, c2, w1, w2, w3, w4, w5⟩ := e_mfg (n := n) (T := T) (t := t) hS1 hG1 hc hb hB6 ht hg pu_Us
        refine ⟨C2, M2, c2, by rw [w1, pu_cv], ?_, w3, w4, w5⟩
        rw [pu_r (by omega) (by decide), pu_r (by omega) (by decide)]
        by_cases z : dk_U (dk_U M 28 b (nI a)) 27 b (nI g) 1 g = -1
        · rw [if_pos z] at w2 ⊢; exact w2
        · rw [if_neg z] at w2 ⊢
          rw [w2, pu_cv]
      by_cases h3 : nI g0 = nI h
      · rw [if_neg (show ¬ ¬ nI g0 = nI h from fun z => z h3), if_neg (show ¬ ¬ nI g0 = nI h from fun z => z h3), pu_w hb6 (by decide)]
        exact rest t ht
      · rw [if_pos h3, if_pos h3]
        have e : dk_U C 28 b (nI t0) = C := by rw [← a5, ← a2, dk_U_id]
        have := rest t0 ht0
        rw [e] at this
        exact this
  · rw [if_pos h1, if_pos h1]
    exact ⟨C, M, c, rfl, rfl, by omega, by omega, hS⟩
theorem e_live {i : Nat} (hE : pE T G B m r C M) (hS : pSc G B B c C M) (hc : c < 44) (hi : i < m) (hn : 400 ≤ n) : ∃ C2 M2 c2, F_Scene_live n T (nI i) C = some C2 ∧ F_Model_passes n (nI i) M = some M2 ∧ c ≤ c2 ∧ c2 ≤ c + 1 ∧ pSc G B B c2 C2 M2 ∧ C2 116 0 = M 6 i := by
  obtain ⟨hG, hB, hM, -⟩ := id hE
  have hG8 := hG.1
  have hB6 := hB.1
  have hm32 := hM.1
  have hi32 : i < 32 := by omega
  obtain ⟨x1, x2, x3, x4, x5, x6, x7, t, w, b, p, x, ht, hw, hb, hp, hx, hwx, y6, y7, y8, y9, y10⟩ := hM.2.2.2.1 i hi
  have hb6 : b < 6 := by omega
  have ti : (nI i).toInt = (i : Int) := nI_toInt (by omega)
  have tb : (nI b).toInt = (b : Int) := nI_toInt (by omega)
  unfold F_Scene_live B_Scene_live_0
  rw [eC_has hM.2.1 (by omega), pu_c, pu_et (by omega)]
  simp (decide := true) only [pu_r hi32, pu_p, dk_U_n]
  rw [x3, y8, eC_hasBeast hB.2.1 (by omega), pu_c, pu_t (by omega)]
  simp only [x1, x2, x3, x4, x5, y6, y7, y8, y9, y10]
  unfold F_Model_passes B_Model_passes_0
  simp only [pu_r hi32 (show (32 : Nat) < 2 ^ 31 by decide), y6, y7, y8, y9, y10]
  generalize hC1 : dk_U C 116 0 (nI t) = C1
  have c1 : dk_fr [116] C C1 := by rw [← hC1]; exact fr_U (by decide)
  have n1 : C1 116 0 = nI t := by rw [← hC1]; exact pu_Us
  have hS1 := hS.cg c1 (dk_fr.rf (W := []) (S := M)) (by decide) (by decide)
  have hE1 := hE.cg (c1.up (by decide)) (dk_fr.rf (S := M))
  obtain ⟨a1, a2, a3, ⟨g0, hg0, a4⟩, ⟨t0, ht0, a5⟩, a6⟩ := hS1.2.2.2.2 b hb
  have hc2 : c ≤ 44 := hS1.1
  -- a claim
  have mk : ∀ (k x : Nat), k < 4 → x < 10 → ∃ C2 M2, F_Scene_make n T (nI k) (nI b) (nI p) (nI t) (nI x) C1 = some C2 ∧ F_Model_makes n (nI k) (nI p) (nI b) (nI t) (nI x) (-1) M = some M2 ∧ pSc G B B (c + 1) C2 M2 ∧ C2 116 0 = nI t := by
    intro k x hk hx
    obtain ⟨C2, M2, e1, e2, e3⟩ := e_make (n := n) (T := T) (k := k) (p := p) (b := b) (t := t) (x := x) (y := -1) hS1 hc (by omega) hp hb hB6 ht hx (fun q => by omega)
    exact ⟨C2, M2, e1, e2, e3, by rw [fr_Scene_make e1 116 (by decide)]; exact n1⟩
  have mol : ∀ (k x : Nat), k < 4 → x < 10 → ∃ C2 M2 c2, F_Scene_makeOfLiving n T (nI k) (nI b) (nI p) (nI t) (nI x) C1 = some C2 ∧ (if ¬ M 29 b = 0 then some M else B_Model_passes_68 n (nI k) (nI p) (nI b) (nI t) (nI x) M) = some M2 ∧ c ≤ c2 ∧ c2 ≤ c + 1 ∧ pSc G B B c2 C2 M2 ∧ C2 116 0 = nI t := by
    intro k x hk hx
    unfold F_Scene_makeOfLiving B_Scene_makeOfLiving_0 B_Model_passes_68
    rw [pu_r hb6 (by decide), a3]
    by_cases z : M 29 b = 0
    · obtain ⟨C2, M2, e1, e2, e3, e4⟩ := mk k x hk hx
      rw [if_neg (show ¬ ¬ M 29 b = 0 from fun q => q z), if_neg (show ¬ ¬ M 29 b = 0 from fun q => q z), e1, e2]
      exact ⟨C2, M2, c + 1, rfl, rfl, by omega, by omega, e3, e4⟩
    · rw [if_pos z, if_pos z]
      exact ⟨C1, M, c, rfl, rfl, by omega, by omega, hS1, n1⟩
  rcases (show w = 0 ∨ w = 1 ∨ w = 2 ∨ w = 3 ∨ w = 4 ∨ w = 5 ∨ w = 6 ∨ w = 7 ∨ w = 8 ∨ w = 9 by omega) with rfl | rfl | rfl | rfl | rfl | rfl | rfl | rfl | rfl | rfl
  · obtain ⟨C2, M2, c2, e1, e2, e3, e4, e5, e6⟩ := mol 0 0 (by decide) (by decide)
    have e1' : F_Scene_makeOfLiving n T 0 (nI b) (nI p) (nI t) 0 C1 = some C2 := e1
    rw [if_pos (by decide), e1', if_neg (by decide), pu_r hb6 (by decide), if_pos (show ¬ nI 0 = 2 by decide)]
    exact ⟨C2, M2, c2, rfl, e2, e3, e4, e5, e6⟩
  · obtain ⟨C2, M2, c2, e1, e2, e3, e4, e5, e6⟩ := mol 1 0 (by decide) (by decide)
    have e1' : F_Scene_makeOfLiving n T 1 (nI b) (nI p) (nI t) 0 C1 = some C2 := e1
    rw [if_neg (by decide), if_pos (by decide), e1', if_neg (by decide), pu_r hb6 (by decide), if_pos (show ¬ nI 1 = 2 by decide)]
    exact ⟨C2, M2, c2, rfl, e2, e3, e4, e5, e6⟩
  · obtain ⟨C2, M2, c2, e1, e2, e3, e4, e5, e6⟩ := mol 2 x (by decide) hx
    have e1' : F_Scene_makeOfLiving n T 2 (nI b) (nI p) (nI t) (nI x) C1 = some C2 := e1
    rw [if_neg (by decide), if_neg (by decide), if_pos (by decide), e1', if_neg (by decide), pu_r hb6 (by decide), if_neg (show ¬ ¬ nI 2 = 2 by decide)]
    exact ⟨C2, M2, c2, rfl, e2, e3, e4, e5, e6⟩
  · obtain ⟨C2, M2, e1, e2, e3, e4⟩ := mk 3 0 (by decide) (by decide)
    have e1' : F_Scene_make n T 3 (nI b) (nI p) (nI t) 0 C1 = some C2 := e1
    have e2' : F_Model_makes n 3 (nI p) (nI b) (nI t) 0 (-1) M = some M2 := e2
    rw [if_neg (by decide), if_neg (by decide), if_neg (by decide), if_pos (by decide), e1', if_pos (by decide), if_pos (by decide)]
    unfold B_Model_passes_88 B_Model_passes_106
    rw [if_pos (by decide), e2']
    exact ⟨C2, M2, c + 1, rfl, rfl, by omega, by omega, e3, e4⟩
  · obtain ⟨C2, M2, e1, e2, e3, e4⟩ := lv_lose (n := n) (T := T) (x1 := nI i) (b := nI b) (p := nI p) ht c 0 n C1 M (by omega) (by omega) hS1
    have e1' : F_Scene_lose n T (nI b) (nI p) (nI t) C1 = some C2 := e1
    have e2' : B_Model_passes_138 n n (nI i) (nI b) (nI p) (nI t) (nI 4) 0 M = _ := e2
    rw [if_neg (by decide), if_neg (by decide), if_neg (by decide), if_neg (by decide), if_pos (by decide), e1', if_pos (by decide), if_neg (by decide), if_pos (by decide), if_pos (by decide), e2', e_270 (by decide) hn, e_326 (by decide) hb6 (by rw [e4 29 (by decide)]; exact a6)]
    exact ⟨C2, M2, c, rfl, rfl, by omega, by omega, e3, by rw [fr_Scene_lose e1' 116 (by decide)]; exact n1⟩
  · obtain ⟨C2, M2, c2, e1, e2, e3, e4, e5⟩ := e_cross (n := n) (g := x) (t := t) hE1 hS1 hc hb (hwx rfl) ht
    rw [if_neg (by decide), if_neg (by decide), if_neg (by decide), if_neg (by decide), if_neg (by decide), if_pos (by decide), e1, if_pos (by decide), if_neg (by decide), if_pos (by decide), if_neg (by decide), e2]
    exact ⟨C2, M2, c2, rfl, rfl, e3, e4, e5, by rw [fr_Scene_cross e1 116 (by decide)]; exact n1⟩
  · obtain ⟨C2, M2, e1, e2, e3, e4⟩ := lv_kill (n := n) (T := T) (x1 := nI i) (t := nI t) (p := nI p) hb hB6 c 0 n C1 M (by omega) (by omega) hS1
    have e1' : F_Scene_kill n T (nI b) (nI p) C1 = some (dk_U C2 29 b 1) := e1
    have e2' : B_Model_passes_138 n n (nI i) (nI b) (nI p) (nI t) (nI 6) 0 M = _ := e2
    rw [if_neg (by decide), if_neg (by decide), if_neg (by decide), if_neg (by decide), if_neg (by decide), if_neg (by decide), if_pos (by decide), e1', if_pos (by decide), if_neg (by decide), if_pos (by decide), if_pos (by decide), e2', e_270 (by decide) hn, e_326k hb6]
    exact ⟨_, _, c, rfl, rfl, by omega, by omega, sb_k e3 hb, by rw [fr_Scene_kill e1' 116 (by decide)]; exact n1⟩
  · obtain ⟨C2, M2, e1, e2, e3, e4⟩ := mk 3 5 (by decide) (by decide)
    have e1' : F_Scene_make n T 3 (nI b) (nI p) (nI t) 5 C1 = some C2 := e1
    have e2' : F_Model_makes n 3 (nI p) (nI b) (nI t) 5 (-1) M = some M2 := e2
    rw [if_neg (by decide), if_neg (by decide), if_neg (by decide), if_neg (by decide), if_neg (by decide), if_neg (by decide), if_neg (by decide), if_pos (by decide), e1', if_pos (by decide), if_neg (by decide), if_neg (by decide)]
    unfold B_Model_passes_88 B_Model_passes_106
    rw [if_neg (by decide), e2']
    exact ⟨C2, M2, c + 1, rfl, rfl, by omega, by omega, e3, e4⟩
  · obtain ⟨C2, M2, e1, e2, e3, e4⟩ := lv_let (n := n) (T := T) (x1 := nI i) (t := nI t) (b := nI b) (p := nI p) c 0 n C1 M (by omega) (by omega) hS1
    have e1' : F_Scene_letGo n T (nI b) (nI p) C1 = some C2 := e1
    have e2' : B_Model_passes_138 n n (nI i) (nI b) (nI p) (nI t) (nI 8) 0 M = _ := e2
    rw [if_neg (by decide), if_neg (by decide), if_neg (by decide), if_neg (by decide), if_neg (by decide), if_neg (by decide), if_neg (by decide), if_neg (by decide), if_pos (by decide), e1', if_pos (by decide), if_neg (by decide), if_pos (by decide), if_pos (by decide), e2', e_270 (by decide) hn, e_326 (by decide) hb6 (by rw [e4 29 (by decide)]; exact a6)]
    exact ⟨C2, M2, c, rfl, rfl, by omega, by omega, e3, by rw [fr_Scene_letGo e1' 116 (by decide)]; exact n1⟩
  · obtain ⟨C2, M2, e1, e2, e3, e4⟩ := lv_give (n := n) (T := T) (b := nI b) (p := nI p) (x1 := i) (to := x) hi32 hx c 0 n C1 M (by omega) (by omega) hS1 y10
    have e1' : F_Scene_give n T (nI b) (nI p) (nI x) C1 = some C2 := e1
    have e2' : B_Model_passes_270 n n (nI i) (nI b) (nI p) (nI 9) 0 M = _ := e2
    have e3' : B_Model_passes_138 n n (nI i) (nI b) (nI p) (nI t) (nI 9) 0 M = _ := lv_nop (n := n) (x1 := nI i) (t := nI t) (b := nI b) (p := nI p) (w := nI 9) (by decide) (by decide) (by decide) c 0 n M (by omega) (by omega) (by omega) hS1.2.2.1
    rw [if_neg (by decide), if_neg (by decide), if_neg (by decide), if_neg (by decide), if_neg (by decide), if_neg (by decide), if_neg (by decide), if_neg (by decide), if_neg (by decide), if_pos (by decide), e1', if_pos (by decide), if_neg (by decide), if_pos (by decide), if_pos (by decide), e3', e2', e_326 (by decide) hb6 (by rw [e4 29 (by decide)]; exact a6)]
    exact ⟨C2, M2, c, rfl, rfl, by omega, by omega, e3, by rw [fr_Scene_give e1' 116 (by decide)]; exact n1⟩
end L2
