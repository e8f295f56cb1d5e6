/-! PURE: a whole text read, on both sides -/
def low (T : Nat) (M M2 : dk_S) : Prop := (∀ x, x < 200 * T → M2 14 x = M 14 x) ∧ (∀ x, x < 4 * T → M2 15 x = M 15 x) ∧ M2 16 0 = M 16 0
theorem low.tr {T : Nat} {M M2 M3 : dk_S} (h : low T M M2) (g : low T M2 M3) : low T M M3 := ⟨fun x hx => by rw [g.1 x hx, h.1 x hx], fun x hx => by rw [g.2.1 x hx, h.2.1 x hx], by rw [g.2.2, h.2.2]⟩
theorem low.fr {T : Nat} {W : List Nat} {M M2 : dk_S} (c : dk_fr W M M2) (hW : ∀ k ∈ [14, 15, 16], k ∉ W) : low T M M2 := ⟨fun x _ => by rw [c 14 (hW _ (by decide))], fun x _ => by rw [c 15 (hW _ (by decide))], by rw [c 16 (hW _ (by decide))]⟩
section TX
variable {n T z : Nat} {t : Nat → Nat} {g0 h0 : Nat → Int32} {C C2 M M2 : dk_S}
theorem f_G {f : Nat} (hf : C 106 0 = nI f) (hf2 : f < 2 ^ 31) (hn : 400 ≤ n) : ∀ D l, l ≤ 6 → 7 - l ≤ D → G_Reader n T D l C = some C
  | 0, l, h1, h2 => by omega
  | D + 1, l, h1, h2 => by
    have ih := f_G hf hf2 hn D
    rcases (show l = 0 ∨ l = 1 ∨ l = 2 ∨ l = 3 ∨ l = 4 ∨ l = 5 ∨ l = 6 by omega) with rfl | rfl | rfl | rfl | rfl | rfl | rfl
    · show B_Reader_readEither_0 n T (G_Reader n T D) C = some C
      unfold B_Reader_readEither_0
      rw [ih 1 (by decide) (by omega), pu_cv]
      exact f_lpE hf hf2 (by omega)
    · show B_Reader_readBoth_0 n T (G_Reader n T D) C = some C
      unfold B_Reader_readBoth_0
      rw [ih 2 (by decide) (by omega), pu_cv]
      exact f_lpB hf hf2 (by omega)
    · show B_Reader_readNot_0 n T (G_Reader n T D) C = some C
      unfold B_Reader_readNot_0
      rw [f_sees hf hf2, pu_c, if_neg (show ¬ ¬ (0 : Int32) = 0 by decide), ih 3 (by decide) (by omega), pu_cv]
    · show B_Reader_readCompared_0 n T (G_Reader n T D) C = some C
      unfold B_Reader_readCompared_0
      rw [ih 4 (by decide) (by omega), pu_cv, f_sees hf hf2, pu_c, if_neg (show ¬ ¬ (0 : Int32) = 0 by decide), f_sees hf hf2, pu_c, if_pos rfl]
    · show B_Reader_readSum_0 n T (G_Reader n T D) C = some C
      unfold B_Reader_readSum_0
      rw [ih 5 (by decide) (by omega), pu_cv]
      exact f_lpS hf hf2 (by omega)
    · show B_Reader_readTerm_0 n T (G_Reader n T D) C = some C
      unfold B_Reader_readTerm_0
      rw [ih 6 (by decide) (by omega), pu_cv]
      exact f_lpT hf hf2 (by omega)
    · show B_Reader_readOne_0 n T (G_Reader n T D) C = some C
      unfold B_Reader_readOne_0
      rw [f_sees hf hf2, pu_c, if_neg (show ¬ ¬ (0 : Int32) = 0 by decide), f_sees hf hf2, pu_c, if_pos rfl, f_sees hf hf2, pu_c, if_pos rfl, f_sees hf hf2, pu_c, if_pos rfl, f_fail hf hf2, pu_cv]
/-- the class's second half -/
def tlB (n T : Nat) (S11 : dk_S) : Option dk_S := dk_cv (F_Reader_expect n T (5 : Int32) S11) fun S14 => dk_cv (F_Reader_readEither n T S14) fun S16 => dk_cv (F_Reader_expect n T (59 : Int32) S16) fun S18 => dk_cv (F_Reader_expect n T (0 : Int32) S18) fun S20 => some S20
def tlA (n T : Nat) (S9 : dk_S) : Option dk_S := dk_cv (F_Reader_expect n T (59 : Int32) S9) fun S11 => dk_p S11 108 (S11 107 0) fun S13 => tlB n T S13
theorem f_tlB {f : Nat} (hf : C 106 0 = nI f) (hf2 : f < 2 ^ 31) (hn : 400 ≤ n) : tlB n T C = some C := by
  unfold tlB F_Reader_readEither
  rw [f_expect hf hf2, pu_cv, f_G hf hf2 hn 64 0 (by decide) (by decide), pu_cv, f_expect hf hf2, pu_cv, f_expect hf hf2, pu_cv]
theorem f_tlA {f : Nat} (hf : C 106 0 = nI f) (hf2 : f < 2 ^ 31) (hn : 400 ≤ n) : ∃ C2, tlA n T C = some C2 ∧ C2 106 0 = nI f := by
  unfold tlA
  have h2 : (dk_U C 108 0 (C 107 0)) 106 0 = nI f := by rw [dk_U_n (by decide)]; exact hf
  rw [f_expect hf hf2, pu_cv, pu_p, f_tlB h2 hf2 hn]
  exact ⟨_, rfl, h2⟩
/-! the reference's end -/
theorem w_15 {x : Nat} {v : Int32} {K : dk_S → Option (Int32 × dk_S)} {a : Int32} (h16 : M 16 0 = nI T) (hT : T < 6) (hx : x < 4) (ha : a = nI x) : dk_w M 15 24 ((4 : Int32) * (M 16 0) + a) v K = K (dk_U M 15 (4 * T + x) v) := by
  rw [h16, ha, show (4 : Int32) * nI T + nI x = nI (4 * T + x) by rw [show (4 : Int32) = nI 4 from rfl, pk_mul, nI_add], pu_w (by omega) (by decide)]
theorem low_15 {x : Nat} {v : Int32} : low T M (dk_U M 15 (4 * T + x) v) := ⟨fun y _ => by rw [dk_U_n (by decide)], fun y hy => pu_Uj (by omega), by rw [dk_U_n (by decide)]⟩
theorem x_122 (h16 : M 16 0 = nI T) (hT : T < 6) : ∃ M2, B_Model_text_122 n 0 M = some (-100 - M 41 0, M2) ∧ low T M M2 ∧ M2 13 0 = 0 := by
  unfold B_Model_text_122
  rw [w_15 (x := 2) (a := 2) h16 hT (by decide) rfl, pu_p, if_neg (show ¬ ¬ (0 : Int32) = 0 by decide), dk_U_n (show 41 ≠ 13 by decide), dk_U_n (show 41 ≠ 15 by decide)]
  exact ⟨_, rfl, low_15.tr (low.fr (fr_U (W := [13]) (by decide)) (by decide)), pu_Us⟩
theorem x_fail {q x2 : Nat} (h16 : M 16 0 = nI T) (hT : T < 6) (hx : x2 < 10) : ∃ M2, B_Model_text_26 n (q + 1) 0 (nI x2) M = some (-100 - M 41 0, M2) ∧ low T M M2 ∧ M2 13 0 = 0 := by
  have hb : B_Model_text_26 n (q + 1) 0 (nI x2) M = B_Model_text_122 n 0 M := by
    show B_Model_text_26b n (fun x1 x2 S => B_Model_text_26 n q x1 x2 S) 0 (nI x2) M = _
    unfold B_Model_text_26b B_Model_text_101
    by_cases h : (2 : Int32) ≤ nI x2
    · rw [if_pos h, if_pos rfl]
    · rw [if_neg h, if_pos rfl, if_pos rfl]
  rw [hb]
  exact x_122 h16 hT
/-- what both sides tell of a text that has a fault at place f -/
def tBad (n T : Nat) (M : dk_S) (fc : Option dk_S) (fm : Option (Int32 × dk_S)) : Prop := ∃ (C2 M2 : dk_S) (f : Nat), fc = some C2 ∧ C2 106 0 = nI f ∧ f ≤ 160 ∧ fm = some (-100 - nI f, M2) ∧ low T M M2 ∧ M2 13 0 = 0
def tOk (n T : Nat) (M : dk_S) (fc : Option dk_S) (fm : Option (Int32 × dk_S)) : Prop := ∃ (C2 M2 : dk_S) (s1 s2 : Nat), fc = some C2 ∧ C2 106 0 = -1 ∧ C2 108 0 = nI s1 ∧ C2 107 0 = nI s2 ∧ s1 ≤ s2 ∧ s2 ≤ 160 ∧ fm = some (nI T, M2) ∧ (∀ x, x < 200 * T → M2 14 x = M 14 x) ∧ (∀ x, x < 4 * T → M2 15 x = M 15 x) ∧ M2 13 0 = 0 ∧ M2 16 0 = nI (T + 1) ∧ M2 15 (4 * T) = nI 0 ∧ M2 15 (4 * T + 1) = nI s1 ∧ M2 15 (4 * T + 2) = nI s2 ∧ (∀ j, j < s1 → iO (C2 14 j) (M2 14 (200 * T + j))) ∧ (∀ j, j < s2 - s1 → iO (C2 14 (s1 + j)) (M2 14 (200 * T + (s1 + j)))) ∧ dpth (C2 14) s1 = some 1 ∧ dpth (fun j => C2 14 (s1 + j)) (s2 - s1) = some 1
/-- one E and its ; -/
theorem t_part {b i p e k v o : Nat} (h : pR T z b t g0 h0 C M [] [] i o 0) (hl : la n T z t C i p e k v) (hn : 400 ≤ n) : ∃ C2, F_Reader_readEither n T C = some C2 ∧ ((∃ f, f ≤ z ∧ C2 106 0 = nI f ∧ fl T g0 (B_Model_eRead_14 n n 1 1 M) f) ∨ (∃ (C3 : dk_S) (f : Nat), f ≤ z ∧ F_Reader_expect n T 59 C2 = some C3 ∧ C3 106 0 = nI f ∧ fl T g0 (B_Model_eRead_14 n n 1 1 M) f) ∨ (∃ (C3 M3 : dk_S) (i3 p3 e3 k3 v3 o3 : Nat), F_Reader_expect n T 59 C2 = some C3 ∧ B_Model_eRead_14 n n 1 1 M = some (1, M3) ∧ pR T z b t g0 h0 C3 M3 [] [] i3 o3 1 ∧ la n T z t C3 i3 p3 e3 k3 v3)) := by
  have hz := h.1.1
  obtain ⟨C2, e1, e2⟩ := (lvs hn 64).1 0 (by decide) [] C M i p e k v o 0 n 1 h hl ⟨fun _ => by show (0 : Nat) < 1; decide, fun q => absurd q (by decide), fun q => by omega, fun q => absurd q (by decide), fun q => absurd q (by decide), fun q => absurd q (by decide), fun _ => rfl, fun q => absurd q (by decide)⟩ (by show 7 * (5 - 0) + 7 ≤ 64; decide) (by omega)
  refine ⟨C2, e1, ?_⟩
  rcases e2 with e2 | ⟨M2, P, i2, p2, e2, k2, v2, o2, q2, mn2, a1, a2, a3, a4, a5, a6⟩
  · exact Or.inl e2
  · obtain ⟨x1, x2, x3, x4, x5⟩ := la_ord a2
    obtain ⟨Q, rfl⟩ : ∃ Q, q2 = Q + 1 := ⟨q2 - 1, by have := a1.1.2.2.1; omega⟩
    have hK0 : tr ([] : List Int32) < 1 := by show (0 : Nat) < 1; decide
    unfold F_Reader_expect B_Reader_expect_0
    rw [show F_Reader_sees n T 59 C2 = some (b2 (k2 = 59), C2) from e_sees a1.2.2.1.1 (la_c a2) (la_k a2) (by decide), pu_c]
    by_cases k59 : k2 = 59
    · subst k59
      obtain ⟨C3, p3, e3, k3, v3, r1, r2, r3⟩ := e_scan a2 hn
      obtain ⟨M3, s1, s2⟩ := (m_semi (q := Q) (x2 := mn2) a1 a2 a5.1 hK0 hn).1 rfl
      rw [pu_et rfl, r1, pu_cv]
      exact Or.inr (Or.inr ⟨C3, M3, e2, p3, e3, k3, v3, _, rfl, a6.trans s1, s2.cC r3 (by decide), r2⟩)
    · obtain ⟨C3, r1, r2⟩ := e_fail (n := n) (T := T) a1.2.2.1.1 (la_b a2)
      rw [pu_ef k59, r1, pu_cv]
      exact Or.inr (Or.inl ⟨C3, p2, by omega, rfl, r2, by rw [a6]; exact e_end a1 a2 a5 hK0 (Or.inl ⟨rfl, k59⟩) hn⟩)
/-- the word ahead of an E -/
theorem t_word {q i p e k v x : Nat} (hM : tkM z t M) (h40 : M 40 0 = nI i) (h16 : M 16 0 = nI T) (hT : T < 6) (hl : la n T z t C i p e k v) (h106 : C 106 0 = -1) (hx : x < 2) (hn : 400 ≤ n) : ∃ M9, low T M M9 ∧ tkM z t M9 ∧ M9 40 0 = nI e ∧ M9 41 0 = nI p ∧ M9 48 0 = M 48 0 ∧ M9 15 (4 * T + x) = M 48 0 ∧ (∀ y, y < 4 * T + x → M9 15 y = M 15 y) ∧ M9 14 = M 14 ∧ ((k = 4 + x ∧ (∃ C3 p3 e3 k3 v3, F_Reader_expect n T (nI (4 + x)) C = some C3 ∧ la n T z t C3 e p3 e3 k3 v3 ∧ dk_fr [109, 110, 111, 112] C C3) ∧ B_Model_text_26 n (q + 1) 1 (nI x) M = dk_c (F_Model_eRead n M9) fun r3 S2 => if r3 = 0 then (B_Model_text_26 n q 0 (nI (x + 1)) S2) else (B_Model_text_26 n q 1 (nI (x + 1)) S2)) ∨ (k ≠ 4 + x ∧ (∃ C3, F_Reader_expect n T (nI (4 + x)) C = some C3 ∧ C3 106 0 = nI p) ∧ B_Model_text_26 n (q + 1) 1 (nI x) M = B_Model_text_26 n q 0 (nI (x + 1)) M9)) := by
  obtain ⟨⟨h1, h2, h3⟩, -, -⟩ := id hl
  obtain ⟨M8, a1, a2, a3, a4, a5, a6, a7⟩ := h3 M hM h40
  have c8 := fr_Model_next a1
  have c9 : dk_fr [40, 41, 42, 43, 15] M (dk_U M8 15 (4 * T + x) (M8 48 0)) := (c8.up (by decide)).tr (fr_U (by decide))
  have h48 : M8 48 0 = M 48 0 := by rw [c8 48 (by decide)]
  have hlow : low T M (dk_U M8 15 (4 * T + x) (M8 48 0)) := (low.fr c8 (by decide)).tr low_15
  have hk := la_k hl
  have hbase : B_Model_text_26 n (q + 1) 1 (nI x) M = (if ¬ (M8 42 0) = (3 : Int32) then (B_Model_text_59 n (fun x1 x2 S => B_Model_text_26 n q x1 x2 S) (nI x) M8) else (if ¬ (M8 43 0) = nI x then (B_Model_text_59 n (fun x1 x2 S => B_Model_text_26 n q x1 x2 S) (nI x) M8) else (B_Model_text_60 n (fun x1 x2 S => B_Model_text_26 n q x1 x2 S) (nI x) (1 : Int32) M8))) := by
    show B_Model_text_26b n (fun x1 x2 S => B_Model_text_26 n q x1 x2 S) 1 (nI x) M = _
    unfold B_Model_text_26b
    rw [if_neg (show ¬ (2 : Int32) ≤ nI x from nI_ge (b := 2) (by omega) (by decide)), if_neg (show ¬ (1 : Int32) = 0 by decide), a1, pu_cv]
  have h16' : M8 16 0 = nI T := by rw [c8 16 (by decide)]; exact h16
  have e60 : ∀ u : Int32, B_Model_text_60 n (fun x1 x2 S => B_Model_text_26 n q x1 x2 S) (nI x) u M8 = if u = 0 then (B_Model_text_93 n (fun x1 x2 S => B_Model_text_26 n q x1 x2 S) (nI x) (dk_U M8 15 (4 * T + x) (M8 48 0))) else (dk_c (F_Model_eRead n (dk_U M8 15 (4 * T + x) (M8 48 0))) fun r3 S2 => if r3 = 0 then (B_Model_text_93 n (fun x1 x2 S => B_Model_text_26 n q x1 x2 S) (nI x) S2) else (B_Model_text_94 n (fun x1 x2 S => B_Model_text_26 n q x1 x2 S) (nI x) (1 : Int32) S2)) := by
    intro u
    unfold B_Model_text_60
    rw [w_15 (x := x) h16' hT (by omega) rfl]
  refine ⟨dk_U M8 15 (4 * T + x) (M8 48 0), hlow, hM.cg c9 (by decide), by rw [dk_U_n (by decide)]; exact a2, by rw [dk_U_n (by decide)]; exact a3, by rw [dk_U_n (by decide)]; exact h48, by rw [pu_Us]; exact h48, fun y hy => by rw [pu_Uj (by omega), c8 15 (by decide)], by rw [c9 14 (by decide)], ?_⟩
  unfold F_Reader_expect B_Reader_expect_0
  rw [show F_Reader_sees n T (nI (4 + x)) C = some (b2 (k = 4 + x), C) from e_sees h106 (la_c hl) hk (by omega), pu_c, hbase]
  by_cases q1 : k = 4 + x
  · obtain ⟨C3, p3, e3, k3, v3, r1, r2, r3⟩ := e_scan hl hn
    have hv : M8 42 0 = 3 ∧ M8 43 0 = nI x := by
      rcases (show x = 0 ∨ x = 1 by omega) with rfl | rfl
      · exact ⟨by rw [a4, q1]; rfl, a6 q1⟩
      · exact ⟨by rw [a4, q1]; rfl, a7 q1⟩
    refine Or.inl ⟨q1, ⟨C3, p3, e3, k3, v3, by rw [pu_et q1, r1, pu_cv], r2, r3⟩, ?_⟩
    rw [if_neg (show ¬ ¬ M8 42 0 = 3 from fun w => w hv.1), if_neg (show ¬ ¬ M8 43 0 = nI x from fun w => w hv.2), e60, if_neg (show ¬ (1 : Int32) = 0 by decide)]
    unfold B_Model_text_93 B_Model_text_94
    rw [nI_1]
  · obtain ⟨C3, r1, r2⟩ := e_fail (n := n) (T := T) h106 (la_b hl)
    refine Or.inr ⟨q1, ⟨C3, by rw [pu_ef q1, r1, pu_cv], r2⟩, ?_⟩
    have no : B_Model_text_59 n (fun x1 x2 S => B_Model_text_26 n q x1 x2 S) (nI x) M8 = B_Model_text_26 n q 0 (nI (x + 1)) (dk_U M8 15 (4 * T + x) (M8 48 0)) := by
      unfold B_Model_text_59
      rw [e60, if_pos rfl]
      unfold B_Model_text_93 B_Model_text_94
      rw [nI_1]
    by_cases w1 : M8 42 0 = 3
    · have w2 : ¬ M8 43 0 = nI x := by
        rw [a4] at w1
        have hk45 : k = 4 ∨ k = 5 := by
          rcases hk with hk | rfl | rfl | rfl | rfl | rfl | rfl | rfl | rfl
          · rcases (show k = 0 ∨ k = 1 ∨ k = 2 ∨ k = 3 ∨ k = 4 ∨ k = 5 ∨ k = 6 ∨ k = 7 ∨ k = 8 by omega) with rfl | rfl | rfl | rfl | rfl | rfl | rfl | rfl | rfl <;> first | exact Or.inl rfl | exact Or.inr rfl | exact absurd w1 (by decide)
          all_goals exact absurd w1 (by decide)
        rcases hk45 with rfl | rfl
        · rw [a6 rfl, show x = 1 by omega]; decide
        · rw [a7 rfl, show x = 0 by omega]; decide
      rw [if_neg (show ¬ ¬ M8 42 0 = 3 from fun w => w w1), if_pos w2, no]
    · rw [if_pos w1, no]
end TX
