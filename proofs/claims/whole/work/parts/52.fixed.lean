/-! PURE: standing and worth as numbers of one fixed pair of states, whatever the scratch holds -/
def sC : List Nat := [16, 17, 117, 118, 119, 120]
def sM : List Nat := [49, 50]
def pX (T G B m r c : Nat) (C M : dk_S) : Prop := pE T G B m r C M ∧ pSc G B B c C M ∧ pNow C M
def stN (n : Nat) (M : dk_S) (i : Nat) : Int32 := ((F_Model_stands n (nI i) M).map Prod.fst).getD 0
def woN (r : Nat) (C M : dk_S) (i : Nat) : Int32 := worV r i (M 27 (M 21 i).toNatClampNeg).toNatClampNeg (M 21 i).toNatClampNeg C M
section FX
variable {n T G B N m r c : Nat} {C C2 M M2 : dk_S}
theorem pX.cg (h : pX T G B m r c C M) (cc : dk_fr sC C C2) (dd : dk_fr sM M M2) : pX T G B m r c C2 M2 := ⟨h.1.cg (cc.up (by decide)) (dd.up (by decide)), h.2.1.cg cc dd (by decide) (by decide), h.2.2.cg cc dd (by decide) (by decide)⟩
theorem st_at {i : Nat} {C1 M1 : dk_S} (h : pX T G B m r c C M) (hC : dk_fr sC C C1) (hM : dk_fr sM M M1) (hi : i < c) (hn : 400 ≤ n) : ∃ C2 M2, F_Scene_stands n T (nI i) C1 = some (stN n M i, C2) ∧ F_Model_stands n (nI i) M1 = some (stN n M i, M2) ∧ (stN n M i = 0 ∨ stN n M i = 1) ∧ dk_fr sC C C2 ∧ dk_fr sM M M2 := by
  have h1 := h.cg hC hM
  have h2 := h.cg hC (dk_fr.rf (S := M))
  obtain ⟨v, C2, M2, e1, e2, e3⟩ := e_stands (n := n) h1.1 h1.2.1 h1.2.2 hi hn
  obtain ⟨w, C3, M3, f1, f2, f3⟩ := e_stands (n := n) h2.1 h2.2.1 h2.2.2 hi hn
  rw [e1] at f1
  cases f1
  have hv : stN n M i = v := by unfold stN; rw [f2]; rfl
  rw [hv]
  exact ⟨C2, M2, e1, e2, e3, hC.tr ((fr_Scene_stands e1).up (by decide)), hM.tr ((fr_Model_stands e2).up (by decide))⟩
theorem wo_at {i : Nat} {C1 M1 : dk_S} (h : pX T G B m r c C M) (hC : dk_fr sC C C1) (hM : dk_fr sM M M1) (hi : i < c) (hn : 400 ≤ n) : ∃ C2 M2, F_Scene_worth n T (nI i) C1 = some (woN r C M i, C2) ∧ F_Model_worthOf n (nI i) M1 = some (woN r C M i, M2) ∧ dk_fr sC C C2 ∧ dk_fr sM M M2 := by
  have h1 := h.cg hC hM
  have hc := h.2.1.1
  have hi44 : i < 44 := by omega
  have hs := h1.2.1.2.2.2.1 i hi
  obtain ⟨-, -, -, -, -, -, -, -, -, -, k, p, b, t, x, hk, hp, hb, ht, hx, y1, y2, y3, y4, y5⟩ := id hs
  have sb := h1.2.1.2.2.2.2 b hb
  obtain ⟨-, -, -, ⟨g, hg, y27⟩, -, -⟩ := id sb
  obtain ⟨C2, e1⟩ := e_worC (n := n) h1.1 hi44 hs sb h1.2.2 hg hb y3 y27 hn
  obtain ⟨M2, e2⟩ := e_worM (n := n) h1.1 hi44 hs hg hb y3 y27 hn
  have hB6 := h.1.2.1.1
  have hG8 := h.1.1.1
  have hw : worV r i g b C1 M1 = woN r C M i := by
    unfold woN
    rw [← hM 21 (by decide), ← hM 27 (by decide), y3, nI_clamp (by omega), y27, nI_clamp (by omega)]
    unfold worV
    rw [hM 19 (by decide), hM 30 (by decide), hM 22 (by decide), hM 23 (by decide), hM 1 (by decide), hM 20 (by decide), hM 4 (by decide), val_cg hC (by decide)]
  rw [hw] at e1 e2
  exact ⟨C2, M2, e1, e2, hC.tr ((fr_Scene_worth e1).up (by decide)), hM.tr ((fr_Model_worthOf e2).up (by decide))⟩
end FX
