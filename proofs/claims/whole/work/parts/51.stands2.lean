/-! PURE: does a claim stand, on both sides: put together -/
section SU
variable {n T G B N m r c : Nat} {C C2 M M2 : dk_S}
theorem e_onPlace {i b g2 : Nat} (hG : pG G C M) (hs : sc1 G B C M i) (hb : sb1 G C M b) (hi : i < 44) (hb6 : b < 6) (h21 : M 21 i = nI b) (h24 : M 24 i = nI g2) (hg2 : g2 < G) (h4 : M 19 i = 4) : F_Scene_isOnItsPlace n T (nI i) C = some (b2 (M 27 b = M 24 i ∧ M 1 g2 = M 20 i), C) := by
  have hG8 := hG.1
  have c24 := (hs.2.2.2.2.2.2.2.1 h4).1
  unfold F_Scene_isOnItsPlace B_Scene_isOnItsPlace_0
  rw [pu_r hi (by decide), hs.2.2.1, h21, pu_r hb6 (by decide), hb.1, pu_r hi (by decide), c24]
  by_cases q : M 27 b = M 24 i
  · rw [if_neg (show ¬ ¬ M 27 b = M 24 i from fun z => z q), pu_r hi (by decide), c24, h24, e_ownerOf hG hg2, pu_c, pu_r hi (by decide), hs.2.1]
    by_cases q2 : M 1 g2 = M 20 i
    · rw [if_neg (show ¬ ¬ M 1 g2 = M 20 i from fun z => z q2), b2_t ⟨by rw [q, h24], q2⟩]; rfl
    · rw [if_pos q2, b2_f (fun z => q2 z.2)]; rfl
  · rw [if_pos q, b2_f (fun z => q z.1)]; rfl
theorem e_stands {i : Nat} (hE : pE T G B m r C M) (hS : pSc G B B c C M) (hN : pNow C M) (hi : i < c) (hn : 400 ≤ n) : ∃ v C2 M2, F_Scene_stands n T (nI i) C = some (v, C2) ∧ F_Model_stands n (nI i) M = some (v, M2) ∧ (v = 0 ∨ v = 1) := by
  have hB6 := hE.2.1.1
  have hG8 := hE.1.1
  have hc := hS.1
  have hi44 : i < 44 := by omega
  have hs := hS.2.2.2.1 i hi
  have lostE := e_lost (n := n) (T := T) hs hN hi44
  obtain ⟨t, ht, n1, n2⟩ := id hN
  obtain ⟨-, a20, a21, -, a23, a25, a26, a24, l25, l26, k, p, b, t9, x, hk, hp, hb, ht9, hx, y1, y2, y3, y4, y5⟩ := id hs
  have sb := hS.2.2.2.2 b hb
  obtain ⟨c27, c28, c29, ⟨g, hg, y27⟩, ⟨t28, ht28, y28⟩, -⟩ := id sb
  obtain ⟨c3, c4, -, h3, hh3, y3h⟩ := hE.2.1.2.2.2 b hb
  have hb6 : b < 6 := by omega
  have e19 := hs.1
  unfold F_Scene_stands B_Scene_stands_0 F_Model_stands B_Model_stands_0
  rw [pu_r (f := C 26) hi44 (by decide), pu_r (f := M 26) hi44 (by decide), a26]
  rcases l26 with q | q
  · rw [if_pos q, if_pos q, pu_r (f := C 21) hi44 (by decide), pu_r (f := C 19) hi44 (by decide), pu_r (f := M 21) hi44 (by decide), pu_r (f := M 19) hi44 (by decide), a21, e19, y3, y1]
    have may : ∃ v C2 M2, (dk_r 44 (C 20) (nI i) fun v5 => dk_r 6 (C 27) (nI b) fun v6 => dk_c (F_Scene_mayFollow n T v5 v6 (nI b) C) fun r8 S7 => if r8 = 0 then (dk_b (0 : Int32) (some ((0 : Int32), S7))) else (dk_b (1 : Int32) (some ((1 : Int32), S7)))) = some (v, C2) ∧ (dk_r 44 (M 20) (nI i) fun v10 => dk_r 6 (M 27) (nI b) fun v11 => dk_c (F_Model_mayFollow n v10 v11 (nI b) M) fun r13 S12 => if r13 = 0 then (dk_b (0 : Int32) (some ((0 : Int32), S12))) else (dk_b (1 : Int32) (some ((1 : Int32), S12)))) = some (v, M2) ∧ (v = 0 ∨ v = 1) := by
      obtain ⟨C2, e1⟩ := e_mayC (n := n) (x := M 20 i) hE hg hb hn
      obtain ⟨M2, e2⟩ := e_mayM (n := n) (x := M 20 i) hE hg hb hn
      rw [pu_r hi44 (by decide), pu_r hi44 (by decide), pu_r hb6 (by decide), pu_r hb6 (by decide), a20, c27, y27, e1, e2, pu_c, pu_c]
      by_cases z : mayV r g b (M 20 i) C M = 0
      · rw [if_pos z, if_pos z]; exact ⟨0, C2, M2, rfl, rfl, Or.inl rfl⟩
      · rw [if_neg z, if_neg z]; exact ⟨1, C2, M2, rfl, rfl, Or.inr rfl⟩
    have no : ∃ v C2 M2, (dk_b (0 : Int32) (some ((0 : Int32), C)) : Option (Int32 × dk_S)) = some (v, C2) ∧ (dk_b (0 : Int32) (some ((0 : Int32), M)) : Option (Int32 × dk_S)) = some (v, M2) ∧ (v = 0 ∨ v = 1) := ⟨0, C, M, rfl, rfl, Or.inl rfl⟩
    have yes : ∃ v C2 M2, (dk_b (1 : Int32) (some ((1 : Int32), C)) : Option (Int32 × dk_S)) = some (v, C2) ∧ (dk_b (1 : Int32) (some ((1 : Int32), M)) : Option (Int32 × dk_S)) = some (v, M2) ∧ (v = 0 ∨ v = 1) := ⟨1, C, M, rfl, rfl, Or.inr rfl⟩
    have i25C : ∀ {β : Type} {K : Int32 → Option β}, dk_r 44 (C 25) (nI i) K = K (M 25 i) := fun {β K} => by rw [pu_r hi44 (by decide), a25]
    have i25M : ∀ {β : Type} {K : Int32 → Option β}, dk_r 44 (M 25) (nI i) K = K (M 25 i) := fun {β K} => by rw [pu_r hi44 (by decide)]
    have hkk : k = 0 ∨ k = 1 ∨ k = 2 ∨ k = 3 ∨ k = 4 ∨ k = 5 := by omega
    rcases hkk with rfl | rfl | rfl | rfl | rfl | rfl
    · rw [if_neg (by decide), if_neg (by decide), if_neg (by decide), if_neg (by decide), if_neg (by decide), if_pos (show nI 0 = (0 : Int32) by decide), i25C, i25M]
      by_cases z : M 25 i = -1
      · rw [if_neg (show ¬ ¬ M 25 i = -1 from fun w => w z), if_neg (show ¬ ¬ M 25 i = -1 from fun w => w z)]; exact yes
      · rw [if_pos z, if_pos z]; exact no
    · rw [if_pos (show nI 1 = (1 : Int32) by decide), if_neg (show ¬ nI 1 = (0 : Int32) by decide), if_pos (show nI 1 = (1 : Int32) by decide), i25C, i25M]
      by_cases z : M 25 i = -1
      · rw [if_neg (show ¬ ¬ M 25 i = -1 from fun w => w z), if_neg (show ¬ ¬ M 25 i = -1 from fun w => w z)]; exact may
      · rw [if_pos z, if_pos z]; exact no
    · rw [if_neg (show ¬ nI 2 = (1 : Int32) by decide), if_pos (show nI 2 = (2 : Int32) by decide), if_neg (show ¬ nI 2 = (0 : Int32) by decide), if_neg (show ¬ nI 2 = (1 : Int32) by decide), if_pos (show nI 2 = (2 : Int32) by decide), lostE, pu_c, i25M]
      by_cases z : M 25 i = -1
      · rw [pu_f (fun w => w.1 z), if_pos z]; exact may
      · rw [if_neg z, i25M, pu_r (f := M 23) hi44 (by decide)]
        by_cases w : M 25 i + M 23 i < M 30 0
        · rw [pu_t ⟨z, w⟩, if_pos w]; exact no
        · rw [pu_f (fun v => w v.2), if_neg w]; exact may
    · rw [if_neg (show ¬ nI 3 = (1 : Int32) by decide), if_neg (show ¬ nI 3 = (2 : Int32) by decide), if_pos (show nI 3 = (3 : Int32) by decide), if_neg (show ¬ nI 3 = (0 : Int32) by decide), if_neg (show ¬ nI 3 = (1 : Int32) by decide), if_neg (show ¬ nI 3 = (2 : Int32) by decide), if_pos (show nI 3 = (3 : Int32) by decide)]
      exact yes
    · obtain ⟨e24, g2, hg2, y24⟩ := a24 (by rw [y1]; decide)
      rw [if_neg (show ¬ nI 4 = (1 : Int32) by decide), if_neg (show ¬ nI 4 = (2 : Int32) by decide), if_neg (show ¬ nI 4 = (3 : Int32) by decide), if_pos (show nI 4 = (4 : Int32) by decide), if_neg (show ¬ nI 4 = (0 : Int32) by decide), if_neg (show ¬ nI 4 = (1 : Int32) by decide), if_neg (show ¬ nI 4 = (2 : Int32) by decide), if_neg (show ¬ nI 4 = (3 : Int32) by decide), if_pos (show nI 4 = (4 : Int32) by decide), i25C, i25M]
      by_cases z : M 25 i = -1
      · rw [if_neg (show ¬ ¬ M 25 i = -1 from fun w => w z), if_neg (show ¬ ¬ M 25 i = -1 from fun w => w z), e_onPlace (n := n) (T := T) (B := B) (g2 := g2) hE.1 hs sb hi44 hb6 y3 y24 hg2 (by rw [y1]; decide), pu_c, pu_r (f := M 27) hb6 (by decide), pu_r (f := M 24) hi44 (by decide)]
        by_cases w1 : M 27 b = M 24 i
        · rw [if_neg (show ¬ ¬ M 27 b = M 24 i from fun v => v w1), pu_r (f := M 24) hi44 (by decide), y24, pu_r (f := M 1) (n := 8) (k := g2) (by omega) (by decide), pu_r (f := M 20) hi44 (by decide)]
          by_cases w2 : M 1 g2 = M 20 i
          · obtain ⟨v, f1, f2, f3⟩ := e_held (n := n) (T := T) (b := b) hS hn
            rw [pu_et ⟨by rw [w1, y24], w2⟩, if_neg (show ¬ ¬ M 1 g2 = M 20 i from fun v => v w2), f1, f2, pu_c, pu_c]
            by_cases u : v = 0
            · rw [if_neg (show ¬ ¬ v = 0 from fun w => w u), if_neg (show ¬ ¬ v = 0 from fun w => w u)]; exact yes
            · rw [if_pos u, if_pos u]; exact no
          · rw [pu_ef (fun v => w2 v.2), if_pos w2]; exact no
        · rw [pu_ef (fun v => w1 v.1), if_pos w1]; exact no
      · rw [if_pos z, if_pos z]; exact no
    · rw [if_neg (show ¬ nI 5 = (1 : Int32) by decide), if_neg (show ¬ nI 5 = (2 : Int32) by decide), if_neg (show ¬ nI 5 = (3 : Int32) by decide), if_neg (show ¬ nI 5 = (4 : Int32) by decide), if_pos (show nI 5 = (5 : Int32) by decide), if_neg (show ¬ nI 5 = (0 : Int32) by decide), if_neg (show ¬ nI 5 = (1 : Int32) by decide), if_neg (show ¬ nI 5 = (2 : Int32) by decide), if_neg (show ¬ nI 5 = (3 : Int32) by decide), if_neg (show ¬ nI 5 = (4 : Int32) by decide), pu_r (f := C 27) hb6 (by decide), pu_r (f := C 3) hb6 (by decide), pu_r (f := M 27) hb6 (by decide), pu_r (f := M 3) hb6 (by decide), c27, c3]
      by_cases z : M 27 b = M 3 b
      · rw [if_pos z, if_pos z]; exact yes
      · rw [if_neg z, if_neg z, pu_r (f := C 28) hb6 (by decide), pu_r (f := M 28) hb6 (by decide), c28, y28, n1, n2]
        by_cases w : nI t28 + nI 30 < nI t
        · have w' : (30 : Int32) < nI t - nI t28 := by
            have := (early ht ht28 (x := 30) (by decide)).mpr w
            exact this
          have w2 : nI t28 + (30 : Int32) < nI t := w
          rw [if_pos w', if_pos w2]; exact no
        · have w' : ¬ (30 : Int32) < nI t - nI t28 := fun v => w ((early ht ht28 (x := 30) (by decide)).mp v)
          have w2 : ¬ nI t28 + (30 : Int32) < nI t := w
          rw [if_neg w', if_neg w2]; exact yes
  · have q0 : ¬ M 26 i = 0 := by rw [q]; decide
    rw [if_neg q0, if_neg q0]
    exact ⟨0, C, M, rfl, rfl, Or.inl rfl⟩
end SU
