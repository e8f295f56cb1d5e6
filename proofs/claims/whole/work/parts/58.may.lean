/-! PURE: judge, may, hangs, least -/
def bcV (x : Int32) : Int32 := ((F_Integer_bitCount 0 0 x (fun _ _ => 0)).map Prod.fst).getD 0
def onV (x : Int32) : Int32 := 0 + ((x >>> ((0 : Int32) &&& 31)) &&& 1) + ((x >>> ((0 + 1 : Int32) &&& 31)) &&& 1) + ((x >>> ((0 + 1 + 1 : Int32) &&& 31)) &&& 1) + ((x >>> ((0 + 1 + 1 + 1 : Int32) &&& 31)) &&& 1) + ((x >>> ((0 + 1 + 1 + 1 + 1 : Int32) &&& 31)) &&& 1) + ((x >>> ((0 + 1 + 1 + 1 + 1 + 1 : Int32) &&& 31)) &&& 1)
theorem bc_on : ∀ g, g < 64 → bcV (nI g) = onV (nI g) := by decide +kernel
theorem or_z (x : Int32) : x ||| 0 = x := by
  apply Int32.toBitVec_inj.mp
  rw [Int32.toBitVec_or]
  show x.toBitVec ||| (0#32) = _
  rw [BitVec.or_zero]
section MH
variable {n T G B N m r z : Nat} {C C2 M M2 : dk_S}
theorem e_bc (x : Int32) : F_Integer_bitCount n T x C = some (bcV x, C) := rfl
theorem on_s {k q : Nat} {x0 x1 x2 : Int32} {S : dk_S} (h : ¬ (6 : Int32) ≤ x2) : B_Model_ones_4 k (q + 1) x0 x1 x2 S = B_Model_ones_4 k q x0 (x1 + ((x0 >>> (x2 &&& 31)) &&& (1 : Int32))) (x2 + (1 : Int32)) S := by
  show B_Model_ones_4b k (fun x0 x1 x2 S => B_Model_ones_4 k q x0 x1 x2 S) x0 x1 x2 S = _
  unfold B_Model_ones_4b
  rw [if_neg h]
theorem on_e {k q : Nat} {x0 x1 x2 : Int32} {S : dk_S} (h : (6 : Int32) ≤ x2) : B_Model_ones_4 k (q + 1) x0 x1 x2 S = some (x1, S) := by
  show B_Model_ones_4b k (fun x0 x1 x2 S => B_Model_ones_4 k q x0 x1 x2 S) x0 x1 x2 S = _
  unfold B_Model_ones_4b
  rw [if_pos h]
theorem e_ones (x : Int32) (hn : 400 ≤ n) : F_Model_ones n x M = some (onV x, M) := by
  unfold F_Model_ones B_Model_ones_0
  obtain ⟨q, e⟩ : ∃ q, n = q + 7 := ⟨n - 7, by omega⟩
  have key : ∀ k : Nat, B_Model_ones_4 k (q + 7) x 0 0 M = some (onV x, M) := by
    intro k
    rw [on_s (by decide), on_s (by decide), on_s (by decide), on_s (by decide), on_s (by decide), on_s (by decide), on_e (by decide)]
    rfl
  rw [show B_Model_ones_4 n n x 0 0 M = B_Model_ones_4 n (q + 7) x 0 0 M by rw [← e]]
  exact key n
theorem ways_v {k : Nat} (h : k ≤ 6) : (1 : Int32) <<< (nI k &&& 31) = nI (2 ^ k) := by
  have := pk_shlN (n := 1) (nI k &&& 31) k (sh_31 k (by omega)) (by
    have : 2 ^ k ≤ 2 ^ 6 := Nat.pow_le_pow_right (by decide) h
    omega)
  rw [Nat.one_mul] at this
  exact this
theorem ways_le {k : Nat} (h : k ≤ 6) : 2 ^ k ≤ 64 := Nat.pow_le_pow_right (by decide) h
theorem pM.count1 (h : pE T G B m r C M) (cc : dk_fr kC C C2) (dd : dk_fr kM M M2) (hn : 400 ≤ n) : F_Model_unsureMany n M2 = some (nI (cnt (M 11) m), M2) := by
  rw [e_countM (h.cg cc dd).2.2.1 hn, dd 11 (by decide)]
theorem may_loop {b W : Nat} (hE : pE T G B m r C M) (hW : W = 2 ^ cnt (M 11) m) (hn : 400 ≤ n) : ∀ (d g q : Nat) (bits : Int32) (C1 M1 : dk_S), g + d = W → d < q → dk_fr kC C C1 → dk_fr kM M M1 → ∃ v C2 M2, B_Hare_may_29 n T q (nI b) (nI W) bits (nI g) C1 = some (v, C2) ∧ B_Model_may_15 n q (nI b) bits (nI g) M1 = some (v, M2)
  | d, g, 0, _, _, _, _, hq, _, _ => absurd hq (Nat.not_lt_zero _)
  | 0, g, q + 1, bits, C1, M1, hg, hq, cc, dd => by
    have h6 := hE.2.2.1.2.2.2.2
    have hw := ways_le h6
    unfold B_Hare_may_29 B_Hare_may_29b B_Model_may_15 B_Model_may_15b
    rw [pM.count1 hE cc dd hn, pu_c, ways_v h6, ← hW, if_pos (nI_le (by omega) (by omega)), if_pos (nI_le (by omega) (by omega))]
    exact ⟨bits, C1, M1, rfl, rfl⟩
  | d + 1, g, q + 1, bits, C1, M1, hg, hq, cc, dd => by
    have h6 := hE.2.2.1.2.2.2.2
    have hw := ways_le h6
    unfold B_Hare_may_29 B_Hare_may_29b B_Model_may_15 B_Model_may_15b B_Hare_may_62 B_Model_may_48
    rw [pM.count1 hE cc dd hn, pu_c, ways_v h6, ← hW, if_neg (nI_ge (by omega) (by omega)), if_neg (nI_ge (by omega) (by omega)), nI_1]
    obtain ⟨v, C2, M2, e1, e2, e3, e4, -⟩ := pw_pair (n := n) (b := b) (gone := nI g) hE cc dd hn
    rw [e1, e2, pu_c, pu_c]
    by_cases q1 : v = -1
    · rw [if_neg (fun z => z q1), if_neg (fun z => z q1)]
      exact may_loop hE hW hn d (g + 1) q _ C2 M2 (by omega) (by omega) e3 e4
    · rw [if_pos q1, if_pos q1]
      exact may_loop hE hW hn d (g + 1) q _ C2 M2 (by omega) (by omega) e3 e4
theorem s_may (h : Inv T C M) (hn : 400 ≤ n) (x : Int32) : Sim T (F_Hare_may n T x C) (F_Model_may n x M) := by
  refine Sim.fr h ?_ (fun q e => ⟨_, fr_Hare_may e, by decide⟩) (fun q e => ⟨_, fr_Model_may e, by decide⟩)
  obtain ⟨G, B, m, r, z, hp⟩ := h
  have hE := hp.E
  have hB := hp.2.1
  have hB6 := hB.1
  have h6 := hE.2.2.1.2.2.2.2
  have hw := ways_le h6
  unfold F_Hare_may B_Hare_may_0 F_Model_may B_Model_may_0
  rw [eC_hasBeast hB.2.1 (by omega), eM_isBeast hB.2.2.1 (by omega), pu_c, pu_c]
  by_cases h3 : 0 ≤ x.toInt ∧ x.toInt < (B : Int)
  · rw [pu_t h3, pu_t h3]
    obtain ⟨b, hb, rfl⟩ := i_ix h3 (by omega)
    rw [e_countC hp.2.2.1 hn, pu_c, ways_v h6]
    obtain ⟨v, C2, M2, e1, e2⟩ := may_loop (n := n) (b := b) hE rfl hn (2 ^ cnt (M 11) m) 0 n 0 C M (by omega) (by omega) dk_fr.rf dk_fr.rf
    exact ⟨v, C2, M2, e1, e2⟩
  · rw [pu_f h3, pu_f h3]; exact ⟨_, _, _, rfl, rfl⟩
theorem hang_loop {b : Nat} {own : Int32} (hE : pE T G B m r C M) (hn : 400 ≤ n) : ∀ (d g q : Nat) (bits : Int32) (C1 M1 : dk_S), g + d = cnt (M 11) m → d < q → dk_fr kC C C1 → dk_fr kM M M1 → ∃ v C2 M2, B_Hare_hangs_38 n T q (nI b) (nI (cnt (M 11) m)) own bits (nI g) C1 = some (v, C2) ∧ B_Model_hangs_23 n q (nI b) own bits (nI g) M1 = some (v, M2)
  | d, g, 0, _, _, _, _, hq, _, _ => absurd hq (Nat.not_lt_zero _)
  | 0, g, q + 1, bits, C1, M1, hg, hq, cc, dd => by
    have h6 := hE.2.2.1.2.2.2.2
    unfold B_Hare_hangs_38 B_Hare_hangs_38b B_Model_hangs_23 B_Model_hangs_23b
    rw [pM.count1 hE cc dd hn, pu_c, if_pos (nI_le (by omega) (by omega)), if_pos (nI_le (by omega) (by omega))]
    exact ⟨bits, C1, M1, rfl, rfl⟩
  | d + 1, g, q + 1, bits, C1, M1, hg, hq, cc, dd => by
    have h6 := hE.2.2.1.2.2.2.2
    unfold B_Hare_hangs_38 B_Hare_hangs_38b B_Model_hangs_23 B_Model_hangs_23b B_Hare_hangs_69 B_Model_hangs_54
    rw [pM.count1 hE cc dd hn, pu_c, if_neg (nI_ge (by omega) (by omega)), if_neg (nI_ge (by omega) (by omega)), nI_1]
    obtain ⟨v, C2, M2, e1, e2, e3, e4, -⟩ := pw_pair (n := n) (b := b) (gone := (1 : Int32) <<< (nI g &&& 31)) hE cc dd hn
    rw [e1, e2, pu_c, pu_c]
    by_cases q1 : v = own
    · rw [if_pos q1, if_neg (fun z => z q1), or_z]
      exact hang_loop hE hn d (g + 1) q _ C2 M2 (by omega) (by omega) e3 e4
    · rw [if_neg q1, if_pos q1]
      exact hang_loop hE hn d (g + 1) q _ C2 M2 (by omega) (by omega) e3 e4
theorem s_hangs (h : Inv T C M) (hn : 400 ≤ n) (x : Int32) : Sim T (F_Hare_hangs n T x C) (F_Model_hangs n x M) := by
  refine Sim.fr h ?_ (fun q e => ⟨_, fr_Hare_hangs e, by decide⟩) (fun q e => ⟨_, fr_Model_hangs e, by decide⟩)
  obtain ⟨G, B, m, r, z, hp⟩ := h
  have hE := hp.E
  have hB := hp.2.1
  have hB6 := hB.1
  have h6 := hE.2.2.1.2.2.2.2
  unfold F_Hare_hangs B_Hare_hangs_0 F_Model_hangs B_Model_hangs_0
  rw [eC_hasBeast hB.2.1 (by omega), eM_isBeast hB.2.2.1 (by omega), pu_c, pu_c]
  by_cases h3 : 0 ≤ x.toInt ∧ x.toInt < (B : Int)
  · rw [pu_t h3, pu_t h3]
    obtain ⟨b, hb, rfl⟩ := i_ix h3 (by omega)
    obtain ⟨v, C2, M2, e1, e2, e3, e4, -⟩ := pw_pair (n := n) (b := b) (gone := 0) hE (dk_fr.rf (S := C)) (dk_fr.rf (S := M)) hn
    rw [e_countC hp.2.2.1 hn, pu_c, e1, e2, pu_c, pu_c]
    obtain ⟨v2, C3, M3, f1, f2⟩ := hang_loop (n := n) (b := b) (own := v) hE hn (cnt (M 11) m) 0 n 0 C2 M2 (by omega) (by omega) e3 e4
    exact ⟨v2, C3, M3, f1, f2⟩
  · rw [pu_f h3, pu_f h3]; exact ⟨_, _, _, rfl, rfl⟩
theorem lst_loop {b W : Nat} {p : Int32} (hE : pE T G B m r C M) (hW : W = 2 ^ cnt (M 11) m) (hn : 400 ≤ n) : ∀ (d g q : Nat) (o : Option Nat) (C1 M1 : dk_S), g + d = W → d < q → (∀ a, o = some a → a < 64) → dk_fr kC C C1 → dk_fr kM M M1 → ∃ v C2 M2, B_Hare_least_37 n T q (nI b) p (nI W) (wI o) (nI g) C1 = some (v, C2) ∧ B_Model_least_26 n q (nI b) p (wI o) (nI g) M1 = some (v, M2)
  | d, g, 0, _, _, _, _, hq, _, _, _ => absurd hq (Nat.not_lt_zero _)
  | 0, g, q + 1, o, C1, M1, hg, hq, ho, cc, dd => by
    have h6 := hE.2.2.1.2.2.2.2
    have hw := ways_le h6
    unfold B_Hare_least_37 B_Hare_least_37b B_Model_least_26 B_Model_least_26b
    rw [pM.count1 hE cc dd hn, pu_c, ways_v h6, ← hW, if_pos (nI_le (by omega) (by omega)), if_pos (nI_le (by omega) (by omega))]
    exact ⟨wI o, C1, M1, rfl, rfl⟩
  | d + 1, g, q + 1, o, C1, M1, hg, hq, ho, cc, dd => by
    have h6 := hE.2.2.1.2.2.2.2
    have hw := ways_le h6
    have ask : ∃ v C2 M2, B_Hare_least_66 n T (fun x1 x2 x3 x4 x5 S => B_Hare_least_37 n T q x1 x2 x3 x4 x5 S) (nI b) p (nI W) (wI o) (nI g) 1 C1 = some (v, C2) ∧ B_Model_least_54 n (fun x1 x2 x3 x4 S => B_Model_least_26 n q x1 x2 x3 x4 S) (nI b) p (wI o) (nI g) M1 = some (v, M2) := by
      unfold B_Hare_least_66 B_Model_least_54 B_Hare_least_91 B_Model_least_68
      obtain ⟨v, C2, M2, e1, e2, e3, e4, -⟩ := pw_pair (n := n) (b := b) (gone := nI g) hE cc dd hn
      rw [if_neg (show ¬ (1 : Int32) = 0 by decide), e1, e2, pu_c, pu_c, nI_1]
      by_cases q1 : v = p
      · rw [if_neg (fun z => z q1), if_neg (fun z => z q1)]
        exact lst_loop hE hW hn d (g + 1) q (some g) C2 M2 (by omega) (by omega) (fun a ha => by cases ha; omega) e3 e4
      · rw [if_pos q1, if_pos q1]
        exact lst_loop hE hW hn d (g + 1) q o C2 M2 (by omega) (by omega) ho e3 e4
    unfold B_Hare_least_37 B_Hare_least_37b B_Model_least_26 B_Model_least_26b B_Hare_least_61
    rw [pM.count1 hE cc dd hn, pu_c, ways_v h6, ← hW, if_neg (nI_ge (by omega) (by omega)), if_neg (nI_ge (by omega) (by omega))]
    cases o with
    | none =>
      rw [if_pos (show wI none < 0 by decide), if_pos (show wI none = -1 from rfl)]
      exact ask
    | some a =>
      have ha := ho a rfl
      rw [if_neg (show ¬ wI (some a) < 0 from nI_pos (by omega)), if_neg (show ¬ wI (some a) = -1 from nI_m1 (by omega)), e_bc, pu_c, e_bc, pu_c, e_ones _ hn, pu_c, e_ones _ hn, pu_c, show wI (some a) = nI a from rfl, bc_on g (by omega), bc_on a ha]
      by_cases q1 : onV (nI a) ≤ onV (nI g)
      · rw [if_pos q1, if_pos q1]
        unfold B_Hare_least_66 B_Hare_least_91 B_Model_least_68
        rw [if_pos rfl, nI_1]
        exact lst_loop hE hW hn d (g + 1) q (some a) C1 M1 (by omega) (by omega) ho cc dd
      · rw [if_neg q1, if_neg q1]
        exact ask
theorem s_least (h : Inv T C M) (hn : 400 ≤ n) (x y : Int32) : Sim T (F_Hare_least n T x y C) (F_Model_least n x y M) := by
  refine Sim.fr h ?_ (fun q e => ⟨_, fr_Hare_least e, by decide⟩) (fun q e => ⟨_, fr_Model_least e, by decide⟩)
  obtain ⟨G, B, m, r, z, hp⟩ := h
  have hE := hp.E
  have hB := hp.2.1
  have hB6 := hB.1
  have h6 := hE.2.2.1.2.2.2.2
  have hw := ways_le h6
  unfold F_Hare_least B_Hare_least_0 F_Model_least B_Model_least_0
  rw [eC_hasBeast hB.2.1 (by omega), eM_isBeast hB.2.2.1 (by omega), pu_c, pu_c]
  by_cases h3 : 0 ≤ x.toInt ∧ x.toInt < (B : Int)
  · rw [pu_et h3, pu_et h3, e_one, e_in9, pu_c, pu_c]
    by_cases h4 : 0 ≤ y.toInt ∧ y.toInt ≤ 9
    · rw [pu_t h4, pu_t h4]
      obtain ⟨b, hb, rfl⟩ := i_ix h3 (by omega)
      rw [e_countC hp.2.2.1 hn, pu_c, ways_v h6]
      obtain ⟨v, C2, M2, e1, e2⟩ := lst_loop (n := n) (b := b) (p := y) hE rfl hn (2 ^ cnt (M 11) m) 0 n none C M (by omega) (by omega) (fun a ha => by cases ha) dk_fr.rf dk_fr.rf
      exact ⟨v, C2, M2, e1, e2⟩
    · rw [pu_f h4, pu_f h4]; exact ⟨_, _, _, rfl, rfl⟩
  · rw [pu_ef h3, pu_ef h3]; exact ⟨_, _, _, rfl, rfl⟩
theorem jud_loop {b j : Nat} {C0 : dk_S} (hj : j < 4) (hS : pS C0 M) (h170 : C0 (170 + j) 0 = nI (m + 1)) (hm39 : m + 1 ≤ 40) (hn : 400 ≤ n) : ∀ (d k q : Nat) (C1 M1 : dk_S), k + d = m + 1 → d < q → At0 n T G B m r C1 M (k - 1) → dk_fr kC C0 C1 → dk_fr kM M M1 → ∃ v C2 M2, B_Hare_judge_70 n T q (nI b) j (nI k) C1 = some (v, C2) ∧ B_Model_judge_56 n q (nI b) (nI j) (nI k) M1 = some (v, M2)
  | d, k, 0, _, _, _, hq, _, _, _ => absurd hq (Nat.not_lt_zero _)
  | 0, k, q + 1, C1, M1, hk, hq, hA, cc, dd => by
    have hm := hA.1.2.2.1.1
    unfold B_Hare_judge_70 B_Hare_judge_70b B_Model_judge_56 B_Model_judge_56b
    rw [cc (170 + j) (by unfold kC; simp only [List.mem_cons, List.not_mem_nil, or_false]; omega), h170, if_pos (nI_le (by omega) (by omega)), dd 5 (by decide), hA.1.2.2.1.2.2.1, if_pos (nI_lt (by omega) (by omega))]
    exact ⟨-1, C1, M1, rfl, rfl⟩
  | d + 1, k, q + 1, C1, M1, hk, hq, hA, cc, dd => by
    have hm := hA.1.2.2.1.1
    obtain ⟨sz, s1, s2, s3, s4, s5, s6⟩ := hS j hj
    have go : ∀ C3 : dk_S, At0 n T G B m r C3 M k → dk_fr kC C0 C3 → ∃ v C2 M2, B_Hare_judge_95 n T (fun x1 jx3 x4 S => B_Hare_judge_70 n T q x1 jx3 x4 S) (nI b) j (nI k) C3 = some (v, C2) ∧ B_Model_judge_56 n (q + 1) (nI b) (nI j) (nI k) M1 = some (v, M2) := by
      intro C3 hA3 c3
      obtain ⟨-, C4, M2, -, -, M5, -, -, -, e1, e2, -, -, e3, -, -⟩ := at_mod (b := b) hA3 (by omega) hn dd
      have f1 := fr_Scene_possessor e1
      have d1 : dk_fr kM M1 M2 := (fr_Model_works e2).up (by decide)
      have d2 : dk_fr kM M2 M5 := (fr_Model_whose e3).up (by decide)
      have cc4 : dk_fr kC C0 C4 := c3.tr (f1.up (by decide))
      have dd5 : dk_fr kM M M5 := (dd.tr d1).tr d2
      have e39 : (40 : Int32) * nI j + nI k = nI (40 * j + k) := by
        rw [show (40 : Int32) = nI 40 from rfl, pk_mul, nI_add]
      have er : C4 (36 + 2 * j) k = M5 39 (40 * j + k) := by
        rw [cc4 (36 + 2 * j) (by unfold kC; simp only [List.mem_cons, List.not_mem_nil, or_false]; omega), dd5 39 (by decide)]
        exact s6 k (by omega)
      unfold B_Hare_judge_95 B_Model_judge_56 B_Model_judge_56b
      rw [e1, pu_c, dd 5 (by decide), hA.1.2.2.1.2.2.1, if_neg (nI_nlt (by omega) (by omega)), e2, pu_cv, e3, pu_c, e39, pu_r (k := k) (by omega) (by decide), pu_r (k := 40 * j + k) (by omega) (by decide), er, nI_1]
      by_cases q1 : whN n b k M = M5 39 (40 * j + k)
      · rw [if_pos q1, if_pos q1]
        exact jud_loop (b := b) hj hS h170 hm39 hn d (k + 1) q C4 M5 (by omega) (by omega) (hA3.cg f1 (by decide)) cc4 dd5
      · rw [if_neg q1, if_neg q1]
        exact ⟨_, _, _, rfl, rfl⟩
    show ∃ v C2 M2, B_Hare_judge_70b n T (fun x1 jx3 x4 S => B_Hare_judge_70 n T q x1 jx3 x4 S) (nI b) j (nI k) C1 = some (v, C2) ∧ B_Model_judge_56 n (q + 1) (nI b) (nI j) (nI k) M1 = some (v, M2)
    unfold B_Hare_judge_70b
    rw [cc (170 + j) (by unfold kC; simp only [List.mem_cons, List.not_mem_nil, or_false]; omega), h170, if_neg (nI_ge (by omega) (by omega))]
    cases k with
    | zero =>
      rw [if_pos (show nI 0 ≤ 0 by decide)]
      exact go C1 hA cc
    | succ k =>
      rw [if_neg (nI_nle (by omega) (by omega)), nI_pred]
      obtain ⟨C2, e1, e2⟩ := At0_step hA (by omega) hn
      have f1 := fr_Scene_live e1
      rw [show k + 1 - 1 = k by omega] at e1
      rw [e1, pu_cv]
      exact go C2 e2 (cc.tr (f1.up (by decide)))
theorem s_judge (h : Inv T C M) (hn : 400 ≤ n) (x y : Int32) : Sim T (F_Hare_judge n T x y C) (F_Model_judge n x y M) := by
  refine Sim.fr h ?_ (fun q e => ⟨_, fr_Hare_judge e, by decide⟩) (fun q e => ⟨_, fr_Model_judge e, by decide⟩)
  obtain ⟨G, B, m, r, z, hp⟩ := h
  have hE := hp.E
  have hB := hp.2.1
  have hM := hp.2.2.1
  have hS := hp.2.2.2.2.2.2.2.2
  have hB6 := hB.1
  have hm := hM.1
  have t3 : (3 : Int32).toInt = 3 := by decide
  unfold F_Hare_judge B_Hare_judge_0 F_Model_judge B_Model_judge_0
  rw [eC_hasBeast hB.2.1 (by omega), eM_isBeast hB.2.2.1 (by omega), pu_c, pu_c]
  by_cases h3 : 0 ≤ x.toInt ∧ x.toInt < (B : Int)
  · rw [pu_t h3, pu_t h3, e_isSheet, e_in3, pu_c, pu_c]
    by_cases h4 : 0 ≤ y.toInt ∧ y.toInt ≤ 3
    · rw [pu_t h4, pu_t h4]
      obtain ⟨b, hb, rfl⟩ := i_ix h3 (by omega)
      obtain ⟨j, hj, rfl⟩ := i_ix (x := y) (k := 4) ⟨by omega, by omega⟩ (by decide)
      obtain ⟨sz, s1, s2, s3, s4, s5, s6⟩ := hS j hj
      rw [pu_sh hj, e_missing hj, pu_c, pu_r hj (by decide), s2]
      by_cases h5 : M 37 j = -1
      · rw [b2_t h5, if_neg (by decide), if_neg (by simp [h5])]; exact ⟨_, _, _, rfl, rfl⟩
      · rw [b2_f h5, if_pos rfl, if_pos h5, pu_r hj (by decide), s4, s5, hM.2.1, hM.2.2.1, nI_1]
        by_cases h6 : sz = m + 1
        · rw [if_pos (by rw [h6]), if_pos (by rw [h6])]
          obtain ⟨C2, e1, e2⟩ := At0_begin hE hn
          have f1 := fr_Scene_begin e1
          rw [e1, pu_cv]
          obtain ⟨v, C3, M3, g1, g2⟩ := jud_loop (n := n) (b := b) (C0 := C) hj hS (by rw [s4, h6]) (by omega) hn (m + 1) 0 n C2 M (by omega) (by omega) e2 (f1.up (by decide)) (dk_fr.rf (S := M))
          exact ⟨v, C3, M3, g1, g2⟩
        · have h7 : ¬ nI sz = nI (m + 1) := fun z => h6 ((nI_eq (by omega) (by omega)).mp z)
          rw [if_neg h7, if_neg h7]; exact ⟨_, _, _, rfl, rfl⟩
    · rw [pu_f h4, pu_f h4]; exact ⟨_, _, _, rfl, rfl⟩
  · rw [pu_f h3, pu_f h3]; exact ⟨_, _, _, rfl, rfl⟩
end MH
