/-! PURE: the claims, as both sides make them -/
def sc1 (G B : Nat) (C M : dk_S) (i : Nat) : Prop := C 19 i = M 19 i ∧ C 20 i = M 20 i ∧ C 21 i = M 21 i ∧ C 22 i = M 22 i ∧ C 23 i = M 23 i ∧ C 25 i = M 25 i ∧ C 26 i = M 26 i ∧ (M 19 i = 4 → C 24 i = M 24 i ∧ ∃ g, g < G ∧ M 24 i = nI g) ∧ (M 25 i = -1 ∨ ∃ t, t < 1000 ∧ M 25 i = nI t) ∧ (M 26 i = 0 ∨ M 26 i = 1) ∧ ∃ k p b t x : Nat, k < 6 ∧ p < 10 ∧ b < B ∧ t < 1000 ∧ x < 10 ∧ M 19 i = nI k ∧ M 20 i = nI p ∧ M 21 i = nI b ∧ M 22 i = nI t ∧ M 23 i = nI x
def sb1 (G : Nat) (C M : dk_S) (b : Nat) : Prop := C 27 b = M 27 b ∧ C 28 b = M 28 b ∧ C 29 b = M 29 b ∧ (∃ g, g < G ∧ M 27 b = nI g) ∧ (∃ t, t < 1000 ∧ M 28 b = nI t) ∧ (M 29 b = 0 ∨ M 29 b = 1)
def pSc (G B N c : Nat) (C M : dk_S) : Prop := c ≤ 44 ∧ C 115 0 = nI c ∧ M 18 0 = nI c ∧ (∀ i, i < c → sc1 G B C M i) ∧ ∀ b, b < N → sb1 G C M b
def pNow (C M : dk_S) : Prop := ∃ t, t < 1000 ∧ C 116 0 = nI t ∧ M 30 0 = nI t
section SC
variable {n T G B N m r c : Nat} {C M C2 M2 : dk_S} {W V : List Nat}
theorem sc1.cg {i : Nat} (h : sc1 G B C M i) (cc : ∀ k ∈ [19, 20, 21, 22, 23, 24, 25, 26], C2 k i = C k i) (dd : ∀ k ∈ [19, 20, 21, 22, 23, 24, 25, 26], M2 k i = M k i) : sc1 G B C2 M2 i := by
  unfold sc1 at h ⊢
  rw [cc 19 (by decide), cc 20 (by decide), cc 21 (by decide), cc 22 (by decide), cc 23 (by decide), cc 24 (by decide), cc 25 (by decide), cc 26 (by decide), dd 19 (by decide), dd 20 (by decide), dd 21 (by decide), dd 22 (by decide), dd 23 (by decide), dd 24 (by decide), dd 25 (by decide), dd 26 (by decide)]
  exact h
theorem sb1.cg {b : Nat} (h : sb1 G C M b) (cc : ∀ k ∈ [27, 28, 29], C2 k b = C k b) (dd : ∀ k ∈ [27, 28, 29], M2 k b = M k b) : sb1 G C2 M2 b := by
  unfold sb1 at h ⊢
  rw [cc 27 (by decide), cc 28 (by decide), cc 29 (by decide), dd 27 (by decide), dd 28 (by decide), dd 29 (by decide)]
  exact h
theorem pSc.cg (h : pSc G B N c C M) (cc : dk_fr W C C2) (dd : dk_fr V M M2) (hW : ∀ k ∈ [115, 19, 20, 21, 22, 23, 24, 25, 26, 27, 28, 29], k ∉ W) (hV : ∀ k ∈ [18, 19, 20, 21, 22, 23, 24, 25, 26, 27, 28, 29], k ∉ V) : pSc G B N c C2 M2 := by
  obtain ⟨h1, h2, h3, h4, h5⟩ := h
  refine ⟨h1, by rw [cc 115 (hW _ (by decide))]; exact h2, by rw [dd 18 (hV _ (by decide))]; exact h3, fun i hi => (h4 i hi).cg (fun k hk => ?_) (fun k hk => ?_), fun i hi => (h5 i hi).cg (fun k hk => ?_) (fun k hk => ?_)⟩
  · rw [cc k (hW k (List.mem_cons_of_mem _ (List.mem_append_left [27, 28, 29] hk)))]
  · rw [dd k (hV k (List.mem_cons_of_mem _ (List.mem_append_left [27, 28, 29] hk)))]
  · rw [cc k (hW k (List.mem_cons_of_mem _ (List.mem_append_right [19, 20, 21, 22, 23, 24, 25, 26] hk)))]
  · rw [dd k (hV k (List.mem_cons_of_mem _ (List.mem_append_right [19, 20, 21, 22, 23, 24, 25, 26] hk)))]
theorem pNow.cg (h : pNow C M) (cc : dk_fr W C C2) (dd : dk_fr V M M2) (hW : 116 ∉ W) (hV : 30 ∉ V) : pNow C2 M2 := by
  unfold pNow at h ⊢
  rw [cc 116 hW, dd 30 hV]
  exact h
theorem nar0 : vp_nar .boolean 0 = 0 := rfl
theorem nar1 : vp_nar .boolean 1 = 1 := rfl
set_option maxRecDepth 20000 in
theorem e_make {k p b t x : Nat} {y : Int32} (h : pSc G B N c C M) (hc : c < 44) (hk : k < 6) (hp : p < 10) (hb : b < B) (hB : B ≤ 6) (ht : t < 1000) (hx : x < 10) (hy : k = 4 → ∃ g, g < G ∧ y = nI g ∧ C 27 b = nI g) : ∃ C2 M2, F_Scene_make n T (nI k) (nI b) (nI p) (nI t) (nI x) C = some C2 ∧ F_Model_makes n (nI k) (nI p) (nI b) (nI t) (nI x) y M = some M2 ∧ pSc G B N (c + 1) C2 M2 := by
  obtain ⟨h1, h2, h3, h4, h5⟩ := h
  unfold F_Scene_make B_Scene_make_0 F_Model_makes B_Model_makes_0
  rw [h2, h3, if_pos (show nI c < 44 from nI_lt hc (by decide))]
  have hb6 : b < 6 := by omega
  simp (decide := true) only [dk_U_n, h2, h3, pu_w hc, pu_r hb6, pu_p, pu_c, pu_cv, pu_Us, nI_1, nar0]
  refine ⟨_, _, rfl, rfl, by omega, pu_Us, pu_Us, fun i hi => ?_, fun i hi => ?_⟩
  · by_cases e : i = c
    · subst e
      unfold sc1
      simp (decide := true) only [dk_U_n, pu_Us]
      refine ⟨trivial, trivial, trivial, trivial, trivial, trivial, trivial, fun q => ?_, trivial, trivial, k, p, b, t, x, hk, hp, hb, ht, hx, rfl, rfl, rfl, rfl, rfl⟩
      have hk4 : k = 4 := (nI_eq (by omega) (by decide)).mp q
      obtain ⟨g, g1, g2, g3⟩ := hy hk4
      exact ⟨by rw [g2, g3], g, g1, g2⟩
    · refine (h4 i (by omega)).cg (fun k hk => ?_) (fun k hk => ?_)
      · simp only [List.mem_cons, List.not_mem_nil, or_false] at hk
        rcases hk with rfl | rfl | rfl | rfl | rfl | rfl | rfl | rfl <;> simp (decide := true) only [dk_U_n, pu_Uj e]
      · simp only [List.mem_cons, List.not_mem_nil, or_false] at hk
        rcases hk with rfl | rfl | rfl | rfl | rfl | rfl | rfl | rfl <;> simp (decide := true) only [dk_U_n, pu_Uj e]
  · refine (h5 i hi).cg (fun k hk => ?_) (fun k hk => ?_)
    · simp only [List.mem_cons, List.not_mem_nil, or_false] at hk
      rcases hk with rfl | rfl | rfl <;> simp (decide := true) only [dk_U_n]
    · simp only [List.mem_cons, List.not_mem_nil, or_false] at hk
      rcases hk with rfl | rfl | rfl <;> simp (decide := true) only [dk_U_n]
theorem iW_of {x : Int32} (h : iW x) : x = -1 ∨ ∃ p, p < 10 ∧ x = nI p := by
  by_cases q : x.toInt = -1
  · exact Or.inl (Int32.toInt_inj.mp (by rw [q]; decide))
  · have := h.1
    have := h.2
    exact Or.inr (i_ix (x := x) (k := 10) ⟨by omega, by omega⟩ (by decide))
theorem e_ownerOf {g : Nat} (h : pG G C M) (hg : g < G) : F_Land_ownerOf n T (nI g) C = some (M 1 g, C) := by
  have := h.1
  unfold F_Land_ownerOf B_Land_ownerOf_0
  rw [if_neg (nI_pos (by omega)), h.2.1, if_neg (nI_ge hg (by omega)), pu_r (by omega) (by decide), (h.2.2.2 g hg).1]
theorem e_isTame {b : Nat} (h : pB G B C M) (hb : b < B) : F_Land_isTame n T (nI b) C = some (b2 (¬ M 4 b = -1), C) := by
  have := h.1
  unfold F_Land_isTame B_Land_isTame_0
  rw [if_neg (nI_pos (by omega)), h.2.1, if_neg (nI_ge hb (by omega)), pu_r (by omega) (by decide), (h.2.2.2 b hb).2.1]
  by_cases q : M 4 b = -1
  · rw [if_pos q, b2_f (by simp [q])]; rfl
  · rw [if_neg q, b2_t q]; rfl
theorem e_mfg {b t g : Nat} (h : pSc G B N c C M) (hg : pG G C M) (hc : c < 44) (hb : b < B) (hB : B ≤ 6) (ht : t < 1000) (hg2 : g < G) (hC : C 27 b = nI g) : ∃ C2 M2 c2, F_Scene_makeForGround n T (nI b) (nI t) C = some C2 ∧ (if M 1 g = (-1 : Int32) then some M else F_Model_makes n 4 (M 1 g) (nI b) (nI t) 0 (nI g) M) = some M2 ∧ c ≤ c2 ∧ c2 ≤ c + 1 ∧ pSc G B N c2 C2 M2 := by
  unfold F_Scene_makeForGround B_Scene_makeForGround_0
  rw [pu_r (by omega) (by decide), hC, e_ownerOf hg hg2, pu_c]
  rcases iW_of (hg.2.2.2 g hg2).2 with q | ⟨p, hp, q⟩
  · rw [if_pos q, if_pos q]
    exact ⟨C, M, c, rfl, rfl, by omega, by omega, h⟩
  · have q2 : ¬ M 1 g = -1 := by
      rw [q]; intro z
      have := congrArg Int32.toInt z
      rw [nI_toInt (by omega)] at this
      have e : (-1 : Int32).toInt = -1 := by decide
      omega
    rw [if_neg q2, if_neg q2, q]
    obtain ⟨C2, M2, e1, e2, e3⟩ := e_make (n := n) (T := T) (k := 4) (p := p) (b := b) (t := t) (x := 0) (y := nI g) h hc (by decide) hp hb hB ht (by decide) (fun _ => ⟨g, hg2, rfl, hC⟩)
    have e1' : F_Scene_make n T 4 (nI b) (nI p) (nI t) 0 C = some C2 := e1
    have e2' : F_Model_makes n 4 (nI p) (nI b) (nI t) 0 (nI g) M = some M2 := e2
    rw [e1', pu_cv]
    exact ⟨C2, M2, c + 1, rfl, e2', by omega, by omega, e3⟩
end SC
