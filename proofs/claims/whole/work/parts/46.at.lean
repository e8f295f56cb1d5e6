/-! PURE: the class's claims behind j moments, and what the reference works out anew from any scratch -/
def bit0 (w : Int32) (i : Nat) : Prop := (w >>> (nI i &&& 31)) &&& (1 : Int32) = 0
def At0 (n T G B m r : Nat) (C M : dk_S) (j : Nat) : Prop := pE T G B m r C M ∧ ∀ K, j ≤ K → K ≤ m → ∀ M1, dk_fr kM M M1 → ∃ c M2, c ≤ 2 * B + j ∧ B_Model_works_0 n (nI K) 0 M1 = B_Model_works_119 n (n - j) (nI K) 0 (nI j) M2 ∧ pSc G B B c C M2 ∧ pNow C M2 ∧ dk_fr kM M M2
section AT
variable {n T G B N m r c : Nat} {C C2 M : dk_S}
theorem At0.cg {j : Nat} {W : List Nat} (h : At0 n T G B m r C M j) (cc : dk_fr W C C2) (hW : ∀ k ∈ W, k ∈ [16, 17, 117, 118, 119, 120]) : At0 n T G B m r C2 M j := by
  have cc2 : dk_fr [16, 17, 117, 118, 119, 120] C C2 := cc.up hW
  refine ⟨h.1.cg (cc2.up (by decide)) (dk_fr.rf (S := M)), fun K h1 h2 M1 h3 => ?_⟩
  obtain ⟨c, M2, e1, e2, e3, e4, e5⟩ := h.2 K h1 h2 M1 h3
  exact ⟨c, M2, e1, e2, e3.cg cc2 (dk_fr.rf (W := []) (S := M2)) (by decide) (by decide), e4.cg cc2 (dk_fr.rf (W := []) (S := M2)) (by decide) (by decide), e5⟩
theorem bg_start {x1 x2 : Int32} {C M1 : dk_S} (hE : pE T G B m r C M1) (hn : 400 ≤ n) : ∃ C2 M2 c, F_Scene_begin n T C = some C2 ∧ B_Model_works_0 n x1 x2 M1 = B_Model_works_119 n n x1 x2 0 M2 ∧ c ≤ 2 * B ∧ pSc G B B c C2 M2 ∧ pNow C2 M2 ∧ dk_fr kC C C2 ∧ dk_fr kM M1 M2 := by
  have hB6 := hE.2.1.1
  unfold F_Scene_begin B_Scene_begin_0 B_Model_works_0
  simp only [pu_p]
  have cc : dk_fr kC C (dk_U (dk_U C 115 0 0) 116 0 0) := (fr_U (by decide)).tr (fr_U (by decide))
  have dd : dk_fr kM M1 (dk_U (dk_U M1 18 0 0) 30 0 0) := (fr_U (by decide)).tr (fr_U (by decide))
  obtain ⟨C2, M2, c, e1, e2, e3, e4, e5, e6, e7, e8⟩ := bg_loop (n := n) (x1 := x1) (x2 := x2) B 0 n 0 (dk_U (dk_U C 115 0 0) 116 0 0) (dk_U (dk_U M1 18 0 0) 30 0 0) (by omega) (by omega) (hE.cg cc dd) ⟨by omega, by rw [dk_U_n (by decide), pu_Us]; rfl, by rw [dk_U_n (by decide), pu_Us]; rfl, fun i hi => by omega, fun i hi => by omega⟩ (by omega)
  have e1' : B_Scene_begin_12 n T n 0 (dk_U (dk_U C 115 0 0) 116 0 0) = some C2 := e1
  have e2' : B_Model_works_12 n n x1 x2 0 (dk_U (dk_U M1 18 0 0) 30 0 0) = _ := e2
  exact ⟨C2, M2, c, e1', e2', e3, e4, ⟨0, by decide, by rw [e7, pu_Us]; rfl, by rw [e8, pu_Us]; rfl⟩, cc.tr e5, dd.tr e6⟩
theorem At0_begin (hE : pE T G B m r C M) (hn : 400 ≤ n) : ∃ C2, F_Scene_begin n T C = some C2 ∧ At0 n T G B m r C2 M 0 := by
  obtain ⟨C2, -, -, e1, -, -, -, -, e5, -⟩ := bg_start (x1 := 0) (x2 := 0) hE hn
  refine ⟨C2, e1, hE.cg e5 (dk_fr.rf (S := M)), fun K h1 h2 M1 h3 => ?_⟩
  have hE1 : pE T G B m r C M1 := hE.cg (dk_fr.rf (S := C)) h3
  obtain ⟨C3, M2, c, f1, f2, f3, f4, f5, f6, f7⟩ := bg_start (x1 := nI K) (x2 := 0) hE1 hn
  rw [e1] at f1
  cases f1
  exact ⟨c, M2, by omega, f2, f4, f5, h3.tr f7⟩
/-- a moment that wasn't left out -/
theorem works_s {q i K : Nat} {w : Int32} {M M2 : dk_S} (hK : K ≤ 32) (hi : i < K) (hb : bit0 w i) (h : F_Model_passes n (nI i) M = some M2) : B_Model_works_119 n (q + 1) (nI K) w (nI i) M = B_Model_works_119 n q (nI K) w (nI (i + 1)) (dk_U M2 30 0 (M2 6 i)) := by
  show B_Model_works_119b n (fun x1 x2 x3 S => B_Model_works_119 n q x1 x2 x3 S) (nI K) w (nI i) M = _
  unfold B_Model_works_119b B_Model_works_147
  rw [if_neg (nI_ge hi (by omega)), if_neg (show ¬ ¬ (w >>> (nI i &&& 31)) &&& (1 : Int32) = 0 from fun z => z hb), h, pu_cv, pu_r (by omega) (by decide), pu_p, nI_1]
theorem works_n {q i K : Nat} {w : Int32} {M : dk_S} (hK : K ≤ 32) (hi : i < K) (hb : ¬ bit0 w i) : B_Model_works_119 n (q + 1) (nI K) w (nI i) M = B_Model_works_119 n q (nI K) w (nI (i + 1)) M := by
  show B_Model_works_119b n (fun x1 x2 x3 S => B_Model_works_119 n q x1 x2 x3 S) (nI K) w (nI i) M = _
  unfold B_Model_works_119b B_Model_works_147
  rw [if_neg (nI_ge hi (by omega)), if_pos (show ¬ (w >>> (nI i &&& 31)) &&& (1 : Int32) = 0 from hb), nI_1]
theorem works_e {q K : Nat} {w : Int32} {M : dk_S} (hK : K ≤ 32) : B_Model_works_119 n (q + 1) (nI K) w (nI K) M = some M := by
  show B_Model_works_119b n (fun x1 x2 x3 S => B_Model_works_119 n q x1 x2 x3 S) (nI K) w (nI K) M = _
  unfold B_Model_works_119b
  rw [if_pos (nI_le (Nat.le_refl _) (by omega))]
theorem bit0_0 {i : Nat} (h : i < 32) : bit0 0 i := by
  unfold bit0
  have : ∀ i, i < 32 → ((0 : Int32) >>> (nI i &&& 31)) &&& (1 : Int32) = 0 := by decide +kernel
  exact this i h
/-- one moment more, both sides -/
theorem step_pair {i : Nat} {C M : dk_S} (hE : pE T G B m r C M) (hS : pSc G B B c C M) (hc : c < 44) (hi : i < m) (hn : 400 ≤ n) : ∃ C2 M2 c2, F_Scene_live n T (nI i) C = some C2 ∧ F_Model_passes n (nI i) M = some M2 ∧ c2 ≤ c + 1 ∧ pSc G B B c2 C2 (dk_U M2 30 0 (M2 6 i)) ∧ pNow C2 (dk_U M2 30 0 (M2 6 i)) ∧ dk_fr kC C C2 ∧ dk_fr kM M (dk_U M2 30 0 (M2 6 i)) := by
  obtain ⟨C2, M2, c2, e1, e2, e3, e4, e5, e6⟩ := e_live (n := n) hE hS hc hi hn
  have d1 := fr_Model_passes e2
  have d2 : dk_fr [30] M2 (dk_U M2 30 0 (M2 6 i)) := fr_U (by decide)
  obtain ⟨-, -, -, -, -, -, -, t, w, b, p, x, ht, -, -, -, -, -, y6, -⟩ := hE.2.2.1.2.2.2.1 i hi
  refine ⟨C2, M2, c2, e1, e2, e4, e5.cg (dk_fr.rf (W := []) (S := C2)) d2 (by decide) (by decide), ⟨t, ht, by rw [e6]; exact y6, by rw [pu_Us, d1 6 (by decide)]; exact y6⟩, (fr_Scene_live e1).up (by decide), (d1.up (by decide)).tr (d2.up (by decide))⟩
theorem At0_step {j : Nat} (h : At0 n T G B m r C M j) (hj : j < m) (hn : 400 ≤ n) : ∃ C2, F_Scene_live n T (nI j) C = some C2 ∧ At0 n T G B m r C2 M (j + 1) := by
  have hm := h.1.2.2.1.1
  have hB6 := h.1.2.1.1
  have one : ∀ K, j + 1 ≤ K → K ≤ m → ∀ M1, dk_fr kM M M1 → ∃ C2 c M2, F_Scene_live n T (nI j) C = some C2 ∧ dk_fr kC C C2 ∧ c ≤ 2 * B + (j + 1) ∧ B_Model_works_0 n (nI K) 0 M1 = B_Model_works_119 n (n - (j + 1)) (nI K) 0 (nI (j + 1)) M2 ∧ pSc G B B c C2 M2 ∧ pNow C2 M2 ∧ dk_fr kM M M2 := by
    intro K h1 h2 M1 h3
    obtain ⟨c, M2, e1, e2, e3, e4, e5⟩ := h.2 K (by omega) h2 M1 h3
    have hE2 : pE T G B m r C M2 := h.1.cg (dk_fr.rf (S := C)) e5
    obtain ⟨C3, M3, c3, f1, f2, f3, f4, f5, f6, f7⟩ := step_pair (n := n) hE2 e3 (by omega) hj hn
    refine ⟨C3, c3, _, f1, f6, by omega, ?_, f4, f5, e5.tr f7⟩
    rw [e2, show n - j = (n - (j + 1)) + 1 by omega, works_s (by omega) (by omega) (bit0_0 (by omega)) f2]
  obtain ⟨C2, -, -, e1, e6, -⟩ := one m (by omega) (Nat.le_refl _) M dk_fr.rf
  refine ⟨C2, e1, h.1.cg e6 (dk_fr.rf (S := M)), fun K h1 h2 M1 h3 => ?_⟩
  obtain ⟨C3, c, M2, f1, -, f2, f3, f4, f5, f6⟩ := one K h1 h2 M1 h3
  rw [e1] at f1
  cases f1
  exact ⟨c, M2, f2, f3, f4, f5, f6⟩
theorem At0_get {j : Nat} (h : At0 n T G B m r C M j) (hj : j ≤ m) (hn : 400 ≤ n) {M1 : dk_S} (h1 : dk_fr kM M M1) : ∃ c M2, c ≤ 44 ∧ F_Model_works n (nI j) 0 M1 = some M2 ∧ pSc G B B c C M2 ∧ pNow C M2 ∧ dk_fr kM M M2 ∧ pE T G B m r C M2 := by
  have hm := h.1.2.2.1.1
  obtain ⟨c, M2, e1, e2, e3, e4, e5⟩ := h.2 j (Nat.le_refl _) hj M1 h1
  refine ⟨c, M2, e3.1, ?_, e3, e4, e5, h.1.cg (dk_fr.rf (S := C)) e5⟩
  unfold F_Model_works
  rw [e2, show n - j = (n - j - 1) + 1 by omega]
  exact works_e (by omega)
theorem At0_reach_loop {k : Nat} (hk : k ≤ m) (hn : 400 ≤ n) : ∀ (d j q : Nat) (C : dk_S), j + d = k → d < q → At0 n T G B m r C M j → ∃ C2, B_Scene_reach_6 n T q (nI k) (nI j) C = some C2 ∧ At0 n T G B m r C2 M k
  | d, j, 0, _, _, hq, _ => absurd hq (Nat.not_lt_zero _)
  | 0, j, q + 1, C, hj, hq, h => by
    have hm := h.1.2.2.1.1
    unfold B_Scene_reach_6 B_Scene_reach_6b
    rw [if_pos (nI_le (by omega) (by omega))]
    exact ⟨C, rfl, by rw [show k = j by omega]; exact h⟩
  | d + 1, j, q + 1, C, hj, hq, h => by
    have hm := h.1.2.2.1.1
    unfold B_Scene_reach_6 B_Scene_reach_6b
    obtain ⟨C2, e1, e2⟩ := At0_step h (by omega) hn
    rw [if_neg (nI_ge (by omega) (by omega)), e1, pu_cv, nI_1]
    exact At0_reach_loop hk hn d (j + 1) q C2 (by omega) (by omega) e2
theorem At0_reach {k : Nat} (hE : pE T G B m r C M) (hk : k ≤ m) (hn : 400 ≤ n) : ∃ C2, F_Scene_reach n T (nI k) C = some C2 ∧ At0 n T G B m r C2 M k := by
  have hm := hE.2.2.1.1
  unfold F_Scene_reach B_Scene_reach_0
  obtain ⟨C2, e1, e2⟩ := At0_begin hE hn
  obtain ⟨C3, f1, f2⟩ := At0_reach_loop hk hn k 0 n C2 (by omega) (by omega) e2
  refine ⟨C3, ?_, f2⟩
  rw [e1, pu_cv]
  exact f1
end AT
