/-! PURE: a claim's worth, on both sides -/
def clp (v : Int32) : Int32 := if 0 ≤ v then (if v ≤ (9999 : Int32) then v else 9999) else 0
theorem clp_C (v : Int32) : (if (0 : Int32) < (if v < (9999 : Int32) then v else (9999 : Int32)) then (if v < (9999 : Int32) then v else (9999 : Int32)) else (0 : Int32)) = clp v := by
  unfold clp
  have e9 : (9999 : Int32).toInt = 9999 := by decide
  have inj : ∀ a b : Int32, a.toInt = b.toInt → a = b := fun a b h => Int32.toInt_inj.mp h
  simp only [Int32.lt_iff_toInt_lt, Int32.le_iff_toInt_le, Int32.toInt_zero, e9]
  by_cases h1 : v.toInt < 9999
  · rw [if_pos h1]
    by_cases h2 : 0 < v.toInt
    · rw [if_pos h2, if_pos (by omega), if_pos (by omega)]
    · rw [if_neg h2]
      by_cases h3 : 0 ≤ v.toInt
      · rw [if_pos h3, if_pos (by omega)]
        exact inj _ _ (by rw [Int32.toInt_zero]; omega)
      · rw [if_neg h3]
  · rw [if_neg h1, if_pos (by rw [e9]; omega), if_pos (by omega)]
    by_cases h3 : v.toInt ≤ 9999
    · rw [if_pos h3]
      exact inj _ _ (by rw [e9]; omega)
    · rw [if_neg h3]
def worV (r i g b : Nat) (C M : dk_S) : Int32 := clp (val r 0 (nm6 (M 19 i) (M 30 0 - M 22 i) (wgt (M 19 i) (M 23 i)) (b2 (M 1 g = M 20 i)) (b2 (¬ M 4 b = -1)) (M 20 i)) C)
section WO
variable {n T G B N m r c : Nat} {C C2 M M2 : dk_S}
theorem e_worC {i g b : Nat} (hE : pE T G B m r C M) (hi : i < 44) (hs : sc1 G B C M i) (hb : sb1 G C M b) (hn0 : pNow C M) (hg : g < G) (hb2 : b < B) (h21 : M 21 i = nI b) (h27 : M 27 b = nI g) (hn : 400 ≤ n) : ∃ C2, F_Scene_worth n T (nI i) C = some (worV r i g b C M, C2) := by
  have hB6 := hE.2.1.1
  obtain ⟨t0, ht0, n1, n2⟩ := hn0
  unfold F_Scene_worth B_Scene_worth_0
  rw [pu_r hi (by decide), pu_r hi (by decide), hs.2.2.1, h21, hs.1, e_setName (k := 0) (by decide) (by decide) (by decide) (by decide), pu_cv, pu_r hi (by decide), e_setName (k := 1) (by decide) (by decide) (by decide) (by decide), pu_cv]
  have x1 : (dk_U C 16 0 (M 19 i)) 22 i = M 22 i := by rw [dk_U_n (by decide)]; exact hs.2.2.2.1
  have x2 : (dk_U C 16 0 (M 19 i)) 116 0 = M 30 0 := by rw [dk_U_n (by decide), n1, n2]
  rw [x1, x2]
  have c2 : dk_fr [16] C (dk_U (dk_U C 16 0 (M 19 i)) 16 1 (M 30 0 - M 22 i)) := (fr_U (by decide)).tr (fr_U (by decide))
  rw [e_wgtC (hs.cg (fun k hk => by rw [c2 k (by simp only [List.mem_cons, List.not_mem_nil, or_false] at hk ⊢; omega)]) (fun k hk => rfl)) hi, pu_c, e_setName (k := 2) (by decide) (by decide) (by decide) (by decide), pu_cv, pu_r (by omega) (by decide)]
  have c3 : dk_fr [16] C (dk_U (dk_U (dk_U C 16 0 (M 19 i)) 16 1 (M 30 0 - M 22 i)) 16 2 (wgt (M 19 i) (M 23 i))) := c2.tr (fr_U (by decide))
  rw [c3 27 (by decide), hb.1, h27, e_ownerOf (hE.1.cg c3 (dk_fr.rf (W := []) (S := M)) (by decide) (by decide)) hg, pu_c, pu_r hi (by decide), c3 20 (by decide), hs.2.1, ite_n2 (f := fun u2 => B_Scene_worth_88 n T (nI i) (nI b) (-4 : Int32) u2 (dk_U (dk_U (dk_U C 16 0 (M 19 i)) 16 1 (M 30 0 - M 22 i)) 16 2 (wgt (M 19 i) (M 23 i))))]
  unfold B_Scene_worth_88
  rw [e_setName (k := 3) (by decide) (by decide) (by decide) (by decide), pu_cv]
  have c4 := c3.tr (fr_U (S := dk_U (dk_U (dk_U C 16 0 (M 19 i)) 16 1 (M 30 0 - M 22 i)) 16 2 (wgt (M 19 i) (M 23 i))) (k := 16) (W := [16]) (j := 3) (x := b2 (M 1 g = M 20 i)) (by decide))
  rw [e_isTame (hE.2.1.cg c4 (dk_fr.rf (W := []) (S := M)) (by decide) (by decide)) hb2, pu_c, ite_b2 (f := fun u2 => B_Scene_worth_113 n T (nI i) (-5 : Int32) u2 (dk_U (dk_U (dk_U (dk_U C 16 0 (M 19 i)) 16 1 (M 30 0 - M 22 i)) 16 2 (wgt (M 19 i) (M 23 i))) 16 3 (b2 (M 1 g = M 20 i))))]
  unfold B_Scene_worth_113
  rw [e_setName (k := 4) (by decide) (by decide) (by decide) (by decide), pu_cv, pu_r hi (by decide), e_setName (k := 5) (by decide) (by decide) (by decide) (by decide), pu_cv, dk_U_n (by decide), c4 20 (by decide), hs.2.1]
  have c6 : dk_fr [16] C (dk_U (dk_U (dk_U (dk_U (dk_U (dk_U C 16 0 (M 19 i)) 16 1 (M 30 0 - M 22 i)) 16 2 (wgt (M 19 i) (M 23 i))) 16 3 (b2 (M 1 g = M 20 i))) 16 4 (b2 (¬ M 4 b = -1))) 16 5 (M 20 i)) := (c4.tr (fr_U (by decide))).tr (fr_U (by decide))
  have hT6 := hE.2.2.2.1.1
  have hr := hE.2.2.2.2.1
  unfold dk_t
  rw [c6 114 (by decide), hE.2.2.2.2.2.1, nI_clamp (by omega), if_pos hr]
  obtain ⟨C2, e1⟩ := e_valC (n := n) (T := T) (b := 0) (nm := nm6 (M 19 i) (M 30 0 - M 22 i) (wgt (M 19 i) (M 23 i)) (b2 (M 1 g = M 20 i)) (b2 (¬ M 4 b = -1)) (M 20 i)) ((hE.2.2.2.1.2 r hr).cg c6 (dk_fr.rf (W := []) (S := M)) (by decide) (by decide)) (by decide) hn (six (by simp (decide := true) only [pu_Us, pu_Uj]; rfl) (by simp (decide := true) only [pu_Us, pu_Uj]; rfl) (by simp (decide := true) only [pu_Us, pu_Uj]; rfl) (by simp (decide := true) only [pu_Us, pu_Uj]; rfl) (by simp (decide := true) only [pu_Us, pu_Uj]; rfl) (by simp (decide := true) only [pu_Us, pu_Uj]; rfl))
  dsimp only
  rw [e1, pu_c, val_cg c6 (by decide), clp_C]
  exact ⟨C2, rfl⟩
theorem e_worM {i g b : Nat} (hE : pE T G B m r C M) (hi : i < 44) (hs : sc1 G B C M i) (hg : g < G) (hb2 : b < B) (h21 : M 21 i = nI b) (h27 : M 27 b = nI g) (hn : 400 ≤ n) : ∃ M2, F_Model_worthOf n (nI i) M = some (worV r i g b C M, M2) := by
  have hB6 := hE.2.1.1
  have hG8 := hE.1.1
  have hT6 := hE.2.2.2.1.1
  have hr := hE.2.2.2.2.1
  unfold F_Model_worthOf B_Model_worthOf_0
  rw [pu_r hi (by decide), pu_r hi (by decide), pu_r hi (by decide), e_wgtM hs hi, pu_c, h21, pu_r (by omega) (by decide), h27, pu_r (by omega) (by decide), pu_r hi (by decide), ite_n2 (f := fun u4 => B_Model_worthOf_55 n (nI i) (nI b) (M 19 i) (M 30 0 - M 22 i) (wgt (M 19 i) (M 23 i)) u4 M)]
  unfold B_Model_worthOf_55
  rw [pu_r hi (by decide)]
  obtain ⟨M2, e1, e2⟩ := e_names (n := n) (M := M) (x1 := M 19 i) (x2 := M 30 0 - M 22 i) (x3 := wgt (M 19 i) (M 23 i)) (x4 := b2 (M 1 g = M 20 i)) (x6 := M 20 i) (b := b) (by omega)
  have d := fr_Model_names e1
  rw [e1, pu_cv]
  obtain ⟨M3, e3⟩ := e_valM (n := n) (t := r) (b := 0) ((hE.2.2.2.1.2 r hr).cg (dk_fr.rf (W := []) (S := C)) d (by decide) (by decide)) (by omega) (by rw [d 17 (by decide)]; exact hE.2.2.2.2.2.2) (by decide) hn e2
  have e3' : F_Model_worth n (0 : Int32) M2 = _ := e3
  rw [e3', pu_c]
  unfold worV clp
  refine ⟨M3, ?_⟩
  repeat' split
  all_goals rfl
end WO
