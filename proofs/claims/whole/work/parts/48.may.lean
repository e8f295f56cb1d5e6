/-! PURE: may a person follow, on both sides -/
section MY
variable {n T G B N m r c : Nat} {C C2 M M2 : dk_S}
theorem e_mayC {g b : Nat} {x : Int32} (hE : pE T G B m r C M) (hg : g < G) (hb : b < B) (hn : 400 ≤ n) : ∃ C2, F_Scene_mayFollow n T x (nI g) (nI b) C = some (mayV r g b x C M, C2) := by
  have hB6 := hE.2.1.1
  unfold F_Scene_mayFollow B_Scene_mayFollow_0
  rw [e_ownerOf hE.1 hg, pu_c, e_setName (k := 0) (by decide) (by decide) (by decide) (by decide), pu_cv, e_setName (k := 1) (by decide) (by decide) (by decide) (by decide), pu_cv, e_setName (k := 2) (by decide) (by decide) (by decide) (by decide), pu_cv, ite_n2 (f := fun u2 => B_Scene_mayFollow_59 n T x (nI b) (-4 : Int32) u2 (dk_U (dk_U (dk_U C 16 0 (-1)) 16 1 0) 16 2 (M 1 g + 1)))]
  unfold B_Scene_mayFollow_59
  rw [e_setName (k := 3) (by decide) (by decide) (by decide) (by decide), pu_cv]
  have c4 : dk_fr [16] C (dk_U (dk_U (dk_U (dk_U C 16 0 (-1)) 16 1 0) 16 2 (M 1 g + 1)) 16 3 (b2 (M 1 g = x))) := (((fr_U (by decide)).tr (fr_U (by decide))).tr (fr_U (by decide))).tr (fr_U (by decide))
  rw [e_isTame (hE.2.1.cg c4 (dk_fr.rf (W := []) (S := M)) (by decide) (by decide)) hb, pu_c, ite_b2 (f := fun u2 => B_Scene_mayFollow_84 n T x (-5 : Int32) u2 (dk_U (dk_U (dk_U (dk_U C 16 0 (-1)) 16 1 0) 16 2 (M 1 g + 1)) 16 3 (b2 (M 1 g = x))))]
  unfold B_Scene_mayFollow_84
  rw [e_setName (k := 4) (by decide) (by decide) (by decide) (by decide), pu_cv, e_setName (k := 5) (by decide) (by decide) (by decide) (by decide), pu_cv]
  have c6 : dk_fr [16] C (dk_U (dk_U (dk_U (dk_U (dk_U (dk_U C 16 0 (-1)) 16 1 0) 16 2 (M 1 g + 1)) 16 3 (b2 (M 1 g = x))) 16 4 (b2 (¬ M 4 b = -1))) 16 5 x) := (c4.tr (fr_U (by decide))).tr (fr_U (by decide))
  have hT6 := hE.2.2.2.1.1
  have hr := hE.2.2.2.2.1
  unfold dk_t
  rw [c6 114 (by decide), hE.2.2.2.2.2.1, nI_clamp (by omega), if_pos hr]
  obtain ⟨C2, e1⟩ := e_valC (n := n) (T := T) (b := 1) (nm := nm6 (-1) 0 (M 1 g + 1) (b2 (M 1 g = x)) (b2 (¬ M 4 b = -1)) x) ((hE.2.2.2.1.2 r hr).cg c6 (dk_fr.rf (W := []) (S := M)) (by decide) (by decide)) (by decide) hn (six (by simp (decide := true) only [pu_Us, pu_Uj]; rfl) (by simp (decide := true) only [pu_Us, pu_Uj]; rfl) (by simp (decide := true) only [pu_Us, pu_Uj]; rfl) (by simp (decide := true) only [pu_Us, pu_Uj]; rfl) (by simp (decide := true) only [pu_Us, pu_Uj]; rfl) (by simp (decide := true) only [pu_Us, pu_Uj]; rfl))
  dsimp only
  rw [e1, pu_c, val_cg c6 (by decide)]
  unfold mayV
  by_cases q : val r 1 (nm6 (-1) 0 (M 1 g + 1) (b2 (M 1 g = x)) (b2 (¬ M 4 b = -1)) x) C = 0
  · rw [if_pos q, b2_f (fun z => z q)]
    exact ⟨C2, rfl⟩
  · rw [if_neg q, b2_t q]
    exact ⟨C2, rfl⟩
theorem e_mayM {g b : Nat} {x : Int32} (hE : pE T G B m r C M) (hg : g < G) (hb : b < B) (hn : 400 ≤ n) : ∃ M2, F_Model_mayFollow n x (nI g) (nI b) M = some (mayV r g b x C M, M2) := by
  have hB6 := hE.2.1.1
  have hG8 := hE.1.1
  have hT6 := hE.2.2.2.1.1
  have hr := hE.2.2.2.2.1
  unfold F_Model_mayFollow B_Model_mayFollow_0
  rw [pu_r (by omega) (by decide), pu_r (by omega) (by decide), ite_n2 (f := fun u4 => B_Model_mayFollow_26 n x (nI b) (-1 : Int32) (0 : Int32) (M 1 g + 1) u4 M)]
  unfold B_Model_mayFollow_26
  obtain ⟨M2, e1, e2⟩ := e_names (n := n) (M := M) (x1 := -1) (x2 := 0) (x3 := M 1 g + 1) (x4 := b2 (M 1 g = x)) (x6 := x) (b := b) (by omega)
  have d := fr_Model_names e1
  rw [e1, pu_cv]
  obtain ⟨M3, e3⟩ := e_valM (n := n) (t := r) (b := 1) ((hE.2.2.2.1.2 r hr).cg (dk_fr.rf (W := []) (S := C)) d (by decide) (by decide)) (by omega) (by rw [d 17 (by decide)]; exact hE.2.2.2.2.2.2) (by decide) hn e2
  have e3' : F_Model_worth n (1 : Int32) M2 = some (val r 1 (nm6 (-1) 0 (M 1 g + 1) (b2 (M 1 g = x)) (b2 (¬ M 4 b = -1)) x) C, M3) := e3
  rw [e3', pu_c]
  unfold mayV
  by_cases q : val r 1 (nm6 (-1) 0 (M 1 g + 1) (b2 (M 1 g = x)) (b2 (¬ M 4 b = -1)) x) C = 0
  · rw [if_pos q, b2_f (fun z => z q)]
    exact ⟨M3, rfl⟩
  · rw [if_neg q, b2_t q]
    exact ⟨M3, rfl⟩
/-- what a claim weighs -/
def wgt (k x : Int32) : Int32 := if k = 1 then 3 else if k = 2 then 3 + x else if k = 3 then 10 + x else if k = 4 then 4 else if k = 5 then 6 + x else 1
theorem e_wgtC {i : Nat} (h : sc1 G B C M i) (hi : i < 44) : F_Scene_weight n T (nI i) C = some (wgt (M 19 i) (M 23 i), C) := by
  unfold F_Scene_weight B_Scene_weight_0 wgt
  rw [pu_r hi (by decide), pu_r hi (by decide), pu_r hi (by decide), pu_r hi (by decide), h.1, h.2.2.2.2.1]
  repeat' split
  all_goals rfl
theorem e_wgtM {i : Nat} (h : sc1 G B C M i) (hi : i < 44) : F_Model_weight n (nI i) M = some (wgt (M 19 i) (M 23 i), M) := by
  obtain ⟨-, -, -, -, -, -, -, -, -, -, k, p, b, t, x, hk, hp, hb, ht, hx, y1, -⟩ := h
  unfold F_Model_weight B_Model_weight_0 wgt
  rw [pu_r hi (by decide), pu_r hi (by decide), pu_r hi (by decide), pu_r hi (by decide), y1]
  rcases (show k = 0 ∨ k = 1 ∨ k = 2 ∨ k = 3 ∨ k = 4 ∨ k = 5 by omega) with rfl | rfl | rfl | rfl | rfl | rfl <;> rfl
end MY
