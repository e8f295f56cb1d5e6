/-! PURE: what is told behind k moments, as numbers that no scratch changes; the calls that count over all moments -/
def wiN (n b k : Nat) (M : dk_S) : Int32 := (((F_Model_works n (nI k) 0 M).bind fun S => F_Model_winner n (nI b) S).map Prod.fst).getD 0
def dqN (n b k : Nat) (M : dk_S) : Int32 := (((F_Model_works n (nI k) 0 M).bind fun S => F_Model_doQuarrel n (nI b) S).map Prod.fst).getD 0
def whN (n b k : Nat) (M : dk_S) : Int32 := (((F_Model_works n (nI k) 0 M).bind fun S => F_Model_whose n (nI b) S).map Prod.fst).getD 0
def unN (n b k : Nat) (M : dk_S) : Int32 := if wiN n b k M = -1 then 1 else 0
def sumN (f : Nat → Int32) : Nat → Int32
  | 0 => 0
  | k + 1 => sumN f k + f k
section TA
variable {n T G B N m r z : Nat} {C C2 M M2 : dk_S}
theorem at_mod {b k : Nat} {M1 : dk_S} (h : At0 n T G B m r C M k) (hk : k ≤ m) (hn : 400 ≤ n) (h1 : dk_fr kM M M1) : ∃ C2 C3 M2 M3 M4 M5, F_Scene_weigh n T (nI b) C = some C2 ∧ C2 117 0 = wiN n b k M ∧ C2 118 0 = dqN n b k M ∧ F_Scene_possessor n T (nI b) C = some (whN n b k M, C3) ∧ F_Model_works n (nI k) 0 M1 = some M2 ∧ F_Model_winner n (nI b) M2 = some (wiN n b k M, M3) ∧ F_Model_doQuarrel n (nI b) M2 = some (dqN n b k M, M4) ∧ F_Model_whose n (nI b) M2 = some (whN n b k M, M5) ∧ (wiN n b k M = -1 ∨ ∃ a, a < 44 ∧ wiN n b k M = nI a) ∧ (dqN n b k M = 0 ∨ dqN n b k M = 1) := by
  obtain ⟨c0, M0, g1, g2, g3, g4, g5, g6⟩ := At0_get h hk hn (dk_fr.rf (S := M))
  obtain ⟨c1, M2, k1, k2, k3, k4, k5, k6⟩ := At0_get h hk hn h1
  have x0 : pX T G B m r c0 C M0 := ⟨g6, g3, g4⟩
  have x1 : pX T G B m r c1 C M2 := ⟨k6, k3, k4⟩
  obtain ⟨Ca, a1, -, a3, a4⟩ := e_weigh (b := b) x0 hn (dk_fr.rf (S := C))
  obtain ⟨Cb, b1, -, b3, b4⟩ := e_weigh (b := b) x1 hn (dk_fr.rf (S := C))
  obtain ⟨Cc, p1, -⟩ := e_poss (b := b) x0 hn (dk_fr.rf (S := C))
  obtain ⟨Cd, q1, -⟩ := e_poss (b := b) x1 hn (dk_fr.rf (S := C))
  obtain ⟨Ma, c1', -⟩ := e_winner (b := b) x0 hn (dk_fr.rf (S := M0))
  obtain ⟨Mb, d1, -⟩ := e_winner (b := b) x1 hn (dk_fr.rf (S := M2))
  obtain ⟨Mc, r1, -⟩ := e_doQ (b := b) x0 hn (dk_fr.rf (S := M0))
  obtain ⟨Md, s1, -⟩ := e_doQ (b := b) x1 hn (dk_fr.rf (S := M2))
  obtain ⟨Me, t1, -⟩ := e_whose (b := b) x0 hn (dk_fr.rf (S := M0))
  obtain ⟨Mf, u1, -⟩ := e_whose (b := b) x1 hn (dk_fr.rf (S := M2))
  rw [a1] at b1
  cases b1
  rw [p1] at q1
  have q2 : whV n r b C M0 c0 = whV n r b C M2 c1 := congrArg Prod.fst (Option.some.inj q1)
  have w1 : wiN n b k M = wI (wg n r b C M0 c0).1 := by
    unfold wiN; rw [g2]; show ((F_Model_winner n (nI b) M0).map Prod.fst).getD 0 = _; rw [c1']; rfl
  have w2 : dqN n b k M = (wg n r b C M0 c0).2.2 := by
    unfold dqN; rw [g2]; show ((F_Model_doQuarrel n (nI b) M0).map Prod.fst).getD 0 = _; rw [r1]; rfl
  have w3 : whN n b k M = whV n r b C M0 c0 := by
    unfold whN; rw [g2]; show ((F_Model_whose n (nI b) M0).map Prod.fst).getD 0 = _; rw [t1]; rfl
  refine ⟨Ca, Cc, M2, Mb, Md, Mf, a1, by rw [w1]; exact a3, by rw [w2]; exact a4, by rw [w3]; exact p1, k2, ?_, ?_, ?_, ?_, ?_⟩
  · rw [d1, w1, ← a3, b3]
  · rw [s1, w2, ← a4, b4]
  · rw [u1, w3, q2]
  · rw [w1]
    cases ew : (wg n r b C M0 c0).1 with
    | none => exact Or.inl rfl
    | some a => exact Or.inr ⟨a, by have := wg_lt c0 a ew; omega, rfl⟩
  · rw [w2]; exact dis_01 c0
theorem tally_38 {b k : Nat} {K : Int32 → Int32 → dk_S → Option dk_S} (h : At0 n T G B m r C M k) (hk : k ≤ m) (hn : 400 ≤ n) : ∃ C2, B_Scene_tally_38 n T K (nI b) (nI k) C = K (nI b) (nI (k + 1)) C2 ∧ At0 n T G B m r C2 M k ∧ C2 119 0 = C 119 0 + dqN n b k M ∧ C2 120 0 = C 120 0 + unN n b k M := by
  obtain ⟨Ca, -, -, -, -, -, a1, a3, a4, -, -, -, -, -, a5, a6⟩ := at_mod (b := b) h hk hn (dk_fr.rf (S := M))
  have f1 := fr_Scene_weigh a1
  have hA := h.cg f1 (by decide)
  have last : ∀ C3 : dk_S, At0 n T G B m r C3 M k → C3 119 0 = C 119 0 + dqN n b k M → C3 120 0 = C 120 0 → C3 117 0 = wiN n b k M → ∃ C2, (if 0 ≤ (C3 117 0) then (B_Scene_tally_81 n T K (nI b) (nI k) (C3 120 0) (0 : Int32) C3) else (B_Scene_tally_81 n T K (nI b) (nI k) (C3 120 0) (1 : Int32) C3)) = K (nI b) (nI (k + 1)) C2 ∧ At0 n T G B m r C2 M k ∧ C2 119 0 = C 119 0 + dqN n b k M ∧ C2 120 0 = C 120 0 + unN n b k M := by
    intro C3 hA3 e1 e2 e3
    unfold B_Scene_tally_81
    rw [e3, pu_p, pu_p, nI_1]
    unfold unN
    have cc : ∀ x : Int32, dk_fr [120] C3 (dk_U C3 120 0 x) := fun x => fr_U (by decide)
    rcases a5 with q | ⟨a, ha, q⟩
    · rw [q, if_neg (by decide), if_pos rfl]
      exact ⟨_, rfl, hA3.cg (cc _) (by decide), by rw [dk_U_n (by decide)]; exact e1, by rw [pu_Us, e2]⟩
    · rw [q, if_pos (nI_pos' (by omega)), if_neg (nI_m1 (by omega))]
      exact ⟨_, rfl, hA3.cg (cc _) (by decide), by rw [dk_U_n (by decide)]; exact e1, by rw [pu_Us, e2]⟩
  unfold B_Scene_tally_38 B_Scene_tally_60
  rw [a1, pu_cv, a4, pu_p, pu_p]
  have cc : ∀ x : Int32, dk_fr [119] Ca (dk_U Ca 119 0 x) := fun x => fr_U (by decide)
  have k119 : Ca 119 0 = C 119 0 := by rw [f1 119 (by decide)]
  have k120 : Ca 120 0 = C 120 0 := by rw [f1 120 (by decide)]
  rcases a6 with q | q
  · rw [q, if_pos rfl]
    rw [q] at last
    refine last (dk_U Ca 119 0 (Ca 119 0 + 0)) (hA.cg (cc _) (by decide)) (by rw [pu_Us, k119]) (by rw [dk_U_n (by decide)]; exact k120) (by rw [dk_U_n (by decide)]; exact a3)
  · rw [q, if_neg (by decide)]
    rw [q] at last
    refine last (dk_U Ca 119 0 (Ca 119 0 + 1)) (hA.cg (cc _) (by decide)) (by rw [pu_Us, k119]) (by rw [dk_U_n (by decide)]; exact k120) (by rw [dk_U_n (by decide)]; exact a3)
theorem At0.size {j : Nat} (h : At0 n T G B m r C M j) : C 104 0 = nI m := h.1.2.2.1.2.1
theorem tally_loop {b : Nat} (hn : 400 ≤ n) : ∀ (d j q : Nat) (C : dk_S), j + d = m + 1 → d < q → At0 n T G B m r C M (j - 1) → C 119 0 = sumN (fun k => dqN n b k M) j → C 120 0 = sumN (fun k => unN n b k M) j → ∃ C2, B_Scene_tally_16 n T q (nI b) (nI j) C = some C2 ∧ C2 119 0 = sumN (fun k => dqN n b k M) (m + 1) ∧ C2 120 0 = sumN (fun k => unN n b k M) (m + 1)
  | d, j, 0, _, _, hq, _, _, _ => absurd hq (Nat.not_lt_zero _)
  | 0, j, q + 1, C, hj, hq, h, h1, h2 => by
    have hm := h.1.2.2.1.1
    unfold B_Scene_tally_16 B_Scene_tally_16b
    rw [h.size, if_pos (nI_lt (by omega) (by omega))]
    exact ⟨C, rfl, by rw [h1, show j = m + 1 by omega], by rw [h2, show j = m + 1 by omega]⟩
  | d + 1, j, q + 1, C, hj, hq, h, h1, h2 => by
    have hm := h.1.2.2.1.1
    unfold B_Scene_tally_16 B_Scene_tally_16b
    rw [h.size, if_neg (nI_nlt (by omega) (by omega))]
    have go : ∀ C3 : dk_S, At0 n T G B m r C3 M j → C3 119 0 = C 119 0 → C3 120 0 = C 120 0 → ∃ C2, B_Scene_tally_38 n T (fun x1 x2 S => B_Scene_tally_16 n T q x1 x2 S) (nI b) (nI j) C3 = some C2 ∧ C2 119 0 = sumN (fun k => dqN n b k M) (m + 1) ∧ C2 120 0 = sumN (fun k => unN n b k M) (m + 1) := by
      intro C3 hA e1 e2
      obtain ⟨C4, g1, g2, g3, g4⟩ := tally_38 (b := b) (K := fun x1 x2 S => B_Scene_tally_16 n T q x1 x2 S) hA (by omega) hn
      rw [g1]
      exact tally_loop hn d (j + 1) q C4 (by omega) (by omega) g2 (by rw [g3, e1, h1]; rfl) (by rw [g4, e2, h2]; rfl)
    cases j with
    | zero =>
      rw [if_pos (show nI 0 ≤ 0 by decide)]
      exact go C h rfl rfl
    | succ j =>
      rw [if_neg (nI_nle (by omega) (by omega)), nI_pred]
      obtain ⟨C2, e1, e2⟩ := At0_step h (by omega) hn
      have f1 := fr_Scene_live e1
      rw [show j + 1 - 1 = j by omega] at e1
      rw [e1, pu_cv]
      exact go C2 e2 (by rw [f1 119 (by decide)]) (by rw [f1 120 (by decide)])
theorem e_tally {b : Nat} (hE : pE T G B m r C M) (hn : 400 ≤ n) : ∃ C2, F_Scene_tally n T (nI b) C = some C2 ∧ C2 119 0 = sumN (fun k => dqN n b k M) (m + 1) ∧ C2 120 0 = sumN (fun k => unN n b k M) (m + 1) := by
  have hm := hE.2.2.1.1
  unfold F_Scene_tally B_Scene_tally_0
  rw [pu_p, pu_p]
  have cc : dk_fr kC C (dk_U (dk_U C 119 0 0) 120 0 0) := (fr_U (by decide)).tr (fr_U (by decide))
  obtain ⟨C2, e1, e2⟩ := At0_begin (hE.cg cc (dk_fr.rf (S := M))) hn
  have f1 := fr_Scene_begin e1
  rw [e1, pu_cv]
  exact tally_loop (b := b) hn (m + 1) 0 n C2 (by omega) (by omega) e2 (by rw [f1 119 (by decide), dk_U_n (by decide), pu_Us]; rfl) (by rw [f1 120 (by decide), pu_Us]; rfl)
theorem e_at_mod {b k : Nat} {M1 : dk_S} (hE : pE T G B m r C M) (hk : k ≤ m) (hn : 400 ≤ n) (h1 : dk_fr kM M M1) : ∃ M2 M3 M4 M5, F_Model_works n (nI k) 0 M1 = some M2 ∧ F_Model_winner n (nI b) M2 = some (wiN n b k M, M3) ∧ F_Model_doQuarrel n (nI b) M2 = some (dqN n b k M, M4) ∧ F_Model_whose n (nI b) M2 = some (whN n b k M, M5) ∧ (wiN n b k M = -1 ∨ ∃ a, a < 44 ∧ wiN n b k M = nI a) ∧ (dqN n b k M = 0 ∨ dqN n b k M = 1) := by
  obtain ⟨C2, -, e2⟩ := At0_reach hE hk hn
  obtain ⟨-, -, M2, M3, M4, M5, -, -, -, -, e3⟩ := at_mod (b := b) e2 hk hn h1
  exact ⟨M2, M3, M4, M5, e3⟩
theorem nob_loop {b : Nat} (hE : pE T G B m r C M) (hn : 400 ≤ n) : ∀ (d j q : Nat) (M1 : dk_S), j + d = m + 1 → d < q → dk_fr kM M M1 → ∃ M2, B_Model_nobodyOf_4 n q (nI b) (sumN (fun k => unN n b k M) j) (nI j) M1 = some (sumN (fun k => unN n b k M) (m + 1), M2) ∧ dk_fr kM M M2
  | d, j, 0, _, _, hq, _ => absurd hq (Nat.not_lt_zero _)
  | 0, j, q + 1, M1, hj, hq, dd => by
    have hm := hE.2.2.1.1
    unfold B_Model_nobodyOf_4 B_Model_nobodyOf_4b
    rw [dd 5 (by decide), hE.2.2.1.2.2.1, if_pos (nI_lt (by omega) (by omega))]
    exact ⟨M1, by rw [show j = m + 1 by omega], dd⟩
  | d + 1, j, q + 1, M1, hj, hq, dd => by
    have hm := hE.2.2.1.1
    unfold B_Model_nobodyOf_4 B_Model_nobodyOf_4b B_Model_nobodyOf_33
    rw [dd 5 (by decide), hE.2.2.1.2.2.1, if_neg (nI_nlt (by omega) (by omega))]
    obtain ⟨M2, M3, -, -, e1, e2, -, -, e5, -⟩ := e_at_mod (b := b) hE (show j ≤ m by omega) hn dd
    have d1 : dk_fr kM M1 M2 := (fr_Model_works e1).up (by decide)
    have d2 : dk_fr kM M2 M3 := (fr_Model_winner e2).up (by decide)
    have go := nob_loop (b := b) hE hn d (j + 1) q M3 (by omega) (by omega) ((dd.tr d1).tr d2)
    rw [e1, pu_cv, e2, pu_c, nI_1]
    rcases e5 with p | ⟨a, ha, p⟩
    · rw [if_neg (fun z => z p)]
      have e : sumN (fun k => unN n b k M) (j + 1) = sumN (fun k => unN n b k M) j + 1 := by
        show sumN (fun k => unN n b k M) j + unN n b j M = _
        unfold unN; rw [if_pos p]
      rw [e] at go
      exact go
    · have p2 : ¬ wiN n b j M = -1 := by rw [p]; exact nI_m1 (by omega)
      rw [if_pos p2]
      have e : sumN (fun k => unN n b k M) (j + 1) = sumN (fun k => unN n b k M) j + 0 := by
        show sumN (fun k => unN n b k M) j + unN n b j M = _
        unfold unN; rw [if_neg p2]
      rw [e] at go
      exact go
theorem e_nob {b : Nat} {M1 : dk_S} (hE : pE T G B m r C M) (hn : 400 ≤ n) (dd : dk_fr kM M M1) : ∃ M2, F_Model_nobodyOf n (nI b) M1 = some (sumN (fun k => unN n b k M) (m + 1), M2) ∧ dk_fr kM M M2 := by
  have hm := hE.2.2.1.1
  unfold F_Model_nobodyOf B_Model_nobodyOf_0
  exact nob_loop (b := b) hE hn (m + 1) 0 n M1 (by omega) (by omega) dd
theorem qua_loop {b : Nat} (hE : pE T G B m r C M) (hn : 400 ≤ n) : ∀ (d j q : Nat) (M1 : dk_S), j + d = m + 1 → d < q → dk_fr kM M M1 → ∃ M2, B_Model_quarrels_4 n q (nI b) (sumN (fun k => dqN n b k M) j) (nI j) M1 = some (sumN (fun k => dqN n b k M) (m + 1), M2) ∧ dk_fr kM M M2
  | d, j, 0, _, _, hq, _ => absurd hq (Nat.not_lt_zero _)
  | 0, j, q + 1, M1, hj, hq, dd => by
    have hm := hE.2.2.1.1
    unfold B_Model_quarrels_4 B_Model_quarrels_4b
    rw [dd 5 (by decide), hE.2.2.1.2.2.1, if_pos (nI_lt (by omega) (by omega))]
    exact ⟨M1, by rw [show j = m + 1 by omega], dd⟩
  | d + 1, j, q + 1, M1, hj, hq, dd => by
    have hm := hE.2.2.1.1
    unfold B_Model_quarrels_4 B_Model_quarrels_4b B_Model_quarrels_32
    rw [dd 5 (by decide), hE.2.2.1.2.2.1, if_neg (nI_nlt (by omega) (by omega))]
    obtain ⟨M2, -, M3, -, e1, -, e2, -, -, e5⟩ := e_at_mod (b := b) hE (show j ≤ m by omega) hn dd
    have d1 : dk_fr kM M1 M2 := (fr_Model_works e1).up (by decide)
    have d2 : dk_fr kM M2 M3 := (fr_Model_doQuarrel e2).up (by decide)
    have go := qua_loop (b := b) hE hn d (j + 1) q M3 (by omega) (by omega) ((dd.tr d1).tr d2)
    have e : sumN (fun k => dqN n b k M) (j + 1) = sumN (fun k => dqN n b k M) j + dqN n b j M := rfl
    rw [e1, pu_cv, e2, pu_c, nI_1]
    rw [e] at go
    rcases e5 with p | p
    · rw [if_pos p]
      rw [p] at go
      exact go
    · rw [if_neg (by rw [p]; decide)]
      rw [p] at go
      exact go
theorem e_qua {b : Nat} {M1 : dk_S} (hE : pE T G B m r C M) (hn : 400 ≤ n) (dd : dk_fr kM M M1) : ∃ M2, F_Model_quarrels n (nI b) M1 = some (sumN (fun k => dqN n b k M) (m + 1), M2) ∧ dk_fr kM M M2 := by
  have hm := hE.2.2.1.1
  unfold F_Model_quarrels B_Model_quarrels_0
  exact qua_loop (b := b) hE hn (m + 1) 0 n M1 (by omega) (by omega) dd
theorem s_nobody (h : Inv T C M) (hn : 400 ≤ n) (x : Int32) : Sim T (F_Hare_nobody n T x C) (F_Model_nobody n x M) := by
  refine Sim.fr h ?_ (fun q e => ⟨_, fr_Hare_nobody e, by decide⟩) (fun q e => ⟨_, fr_Model_nobody e, by decide⟩)
  obtain ⟨G, B, m, r, z, hp⟩ := h
  have hE := hp.E
  have hB := hp.2.1
  have hB6 := hB.1
  unfold F_Hare_nobody B_Hare_nobody_0 F_Model_nobody B_Model_nobody_0
  rw [eC_hasBeast hB.2.1 (by omega), eM_isBeast hB.2.2.1 (by omega), pu_c, pu_c]
  by_cases h3 : 0 ≤ x.toInt ∧ x.toInt < (B : Int)
  · rw [pu_t h3, pu_et h3]
    obtain ⟨b, hb, rfl⟩ := i_ix h3 (by omega)
    obtain ⟨C2, e1, -, e3⟩ := e_tally (b := b) hE hn
    obtain ⟨M2, f1, -⟩ := e_nob (b := b) hE hn (dk_fr.rf (S := M))
    rw [e1, f1, pu_cv, pu_c, e3]
    exact ⟨_, _, _, rfl, rfl⟩
  · rw [pu_f h3, pu_ef h3]; exact ⟨_, _, _, rfl, rfl⟩
theorem s_quarrel (h : Inv T C M) (hn : 400 ≤ n) (x : Int32) : Sim T (F_Hare_quarrel n T x C) (F_Model_quarrel n x M) := by
  refine Sim.fr h ?_ (fun q e => ⟨_, fr_Hare_quarrel e, by decide⟩) (fun q e => ⟨_, fr_Model_quarrel e, by decide⟩)
  obtain ⟨G, B, m, r, z, hp⟩ := h
  have hE := hp.E
  have hB := hp.2.1
  have hB6 := hB.1
  unfold F_Hare_quarrel B_Hare_quarrel_0 F_Model_quarrel B_Model_quarrel_0
  rw [eC_hasBeast hB.2.1 (by omega), eM_isBeast hB.2.2.1 (by omega), pu_c, pu_c]
  by_cases h3 : 0 ≤ x.toInt ∧ x.toInt < (B : Int)
  · rw [pu_t h3, pu_et h3]
    obtain ⟨b, hb, rfl⟩ := i_ix h3 (by omega)
    obtain ⟨C2, e1, e3, -⟩ := e_tally (b := b) hE hn
    obtain ⟨M2, f1, -⟩ := e_qua (b := b) hE hn (dk_fr.rf (S := M))
    rw [e1, f1, pu_cv, pu_c, e3]
    exact ⟨_, _, _, rfl, rfl⟩
  · rw [pu_f h3, pu_ef h3]; exact ⟨_, _, _, rfl, rfl⟩
end TA
