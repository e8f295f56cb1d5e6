/-! PURE: shares in lowest terms; the law by which they quarrel least -/
theorem clp_i (v : Int32) : ∃ k : Nat, k ≤ 9999 ∧ clp v = nI k := by
  unfold clp
  by_cases h1 : 0 ≤ v
  · rw [if_pos h1]
    by_cases h2 : v ≤ 9999
    · rw [if_pos h2]
      have e9 : (9999 : Int32).toInt = 9999 := by decide
      have q1 := Int32.le_iff_toInt_le.mp h1
      have q2 := Int32.le_iff_toInt_le.mp h2
      rw [Int32.toInt_zero] at q1
      rw [e9] at q2
      exact i_ix2 (x := v) (k := 9999) ⟨q1, q2⟩ (by decide)
    · rw [if_neg h2]; exact ⟨9999, Nat.le_refl _, rfl⟩
  · rw [if_neg h1]; exact ⟨0, Nat.zero_le _, rfl⟩
theorem gcd_half {a b e : Nat} (h : b ≤ a) (hb : 0 < b) (he : a * b < 2 ^ (e + 1)) : b * (a % b) < 2 ^ e := by
  have h1 := Nat.mod_lt a hb
  have h2 : b * (a / b) + a % b = a := Nat.div_add_mod a b
  have h3 : 1 ≤ a / b := Nat.div_pos h hb
  have h4 : b * 1 ≤ b * (a / b) := Nat.mul_le_mul_left b h3
  have h5 : 2 * (a % b) ≤ a := by omega
  have h6 : 2 * (a % b) * b ≤ a * b := Nat.mul_le_mul_right b h5
  have h7 : 2 * (a % b) * b = 2 * (b * (a % b)) := by rw [Nat.mul_assoc, Nat.mul_comm (a % b) b]
  have h8 : 2 ^ (e + 1) = 2 * 2 ^ e := by rw [Nat.pow_succ, Nat.mul_comm]
  omega
theorem gcd_step (a b : Nat) : Nat.gcd b (a % b) = Nat.gcd a b := by
  rw [Nat.gcd_comm a b, Nat.gcd_rec b a, Nat.gcd_comm]
section GC
variable {n T : Nat} {S : dk_S}
theorem cd_loop : ∀ (e a b i q : Nat), b ≤ a → a < 2 ^ 30 → a * b < 2 ^ e → i + e < 60 → e + 1 < q → B_Hare_commonDivisor_7 n T q (nI a) (nI b) (nI i) S = some (nI (Nat.gcd a b), S)
  | e, a, b, i, 0, _, _, _, _, hq => absurd hq (Nat.not_lt_zero _)
  | e, a, b, i, q + 1, hba, ha, hab, hi, hq => by
    unfold B_Hare_commonDivisor_7 B_Hare_commonDivisor_7b
    rw [if_neg (show ¬ (64 : Int32) ≤ nI i from nI_ge (b := 64) (by omega) (by decide))]
    by_cases hb : b = 0
    · subst hb
      rw [if_pos (show nI 0 = 0 from rfl), Nat.gcd_zero_right]
    · rw [if_neg (nI_ne0 (by omega) (by omega)), pu_g (nI_ne0 (by omega) (by omega)), pk_rem (by omega) (by omega) (by omega), nI_1]
      cases e with
      | zero =>
        have : 1 ≤ a * b := Nat.mul_pos (by omega) (by omega)
        omega
      | succ e =>
        show B_Hare_commonDivisor_7 n T q (nI b) (nI (a % b)) (nI (i + 1)) S = _
        rw [cd_loop e b (a % b) (i + 1) q (Nat.le_of_lt (Nat.mod_lt _ (by omega))) (by omega) (gcd_half hba (by omega) hab) (by omega) (by omega), gcd_step]
theorem lw_loop {A D : Int64} {x4 : Int32} : ∀ (e a b q : Nat), b ≤ a → a < 2 ^ 30 → a * b < 2 ^ e → e + 1 < q → B_Model_lowest_16 n q A D x4 (lN a) (lN b) S = B_Model_lowest_51 n (lN (Nat.gcd a b)) (if ¬ x4 = 0 then D else A) S
  | e, a, b, 0, _, _, _, hq => absurd hq (Nat.not_lt_zero _)
  | e, a, b, q + 1, hba, ha, hab, hq => by
    unfold B_Model_lowest_16 B_Model_lowest_16b
    by_cases hb : b = 0
    · subst hb
      rw [if_pos (show lg_cmp (lN 0) (0 : Int64) = 0 from (lg_cmp_eq _ _).mpr rfl), Nat.gcd_zero_right]
      by_cases h : x4 = 0
      · rw [if_neg (fun z => z h), if_neg (fun z => z h)]
      · rw [if_pos h, if_pos h]
    · have hne : ¬ lN b = 0 := fun z => hb ((pk_lEQ (b := 0) (by omega) (by decide)).mp z)
      rw [if_neg (fun z => hne ((lg_cmp_eq _ _).mp z)), pu_g hne, pk_lRem (by omega) (by omega) (by omega)]
      cases e with
      | zero =>
        have : 1 ≤ a * b := Nat.mul_pos (by omega) (by omega)
        omega
      | succ e =>
        show B_Model_lowest_16 n q A D x4 (lN b) (lN (a % b)) S = _
        rw [lw_loop e b (a % b) q (Nat.le_of_lt (Nat.mod_lt _ (by omega))) (by omega) (gcd_half hba (by omega) hab) (by omega), gcd_step]
theorem e_low {a d : Nat} {x4 : Int32} {C M : dk_S} (had : a ≤ d) (hd : d < 2 ^ 19) (hn : 400 ≤ n) (hx : x4 = 0 ∨ x4 = 1) : ∃ v, (dk_c (F_Hare_commonDivisor n T (nI d) (nI a) C) fun r2 S1 => if ¬ r2 = 0 then (if ¬ x4 = 0 then (dk_g (¬ r2 = 0) <| some ((nI d / r2).toInt64, S1)) else (dk_g (¬ r2 = 0) <| some ((nI a / r2).toInt64, S1))) else (some (x4.toInt64, S1))) = some (v, C) ∧ F_Model_lowest n (lN a) (lN d) x4 M = some (v, M) := by
  have hm : d * a < 2 ^ 38 := by
    have h1 : d * a ≤ d * d := Nat.mul_le_mul_left d had
    have h2 : d * d ≤ 524287 * 524287 := Nat.mul_le_mul (by omega) (by omega)
    omega
  have ec : F_Hare_commonDivisor n T (nI d) (nI a) C = some (nI (Nat.gcd d a), C) := by
    unfold F_Hare_commonDivisor B_Hare_commonDivisor_0
    exact cd_loop 38 d a 0 n had (by omega) hm (by decide) (by omega)
  rw [ec, pu_c]
  unfold F_Model_lowest B_Model_lowest_0
  by_cases ha : a = 0
  · subst ha
    rw [Nat.gcd_zero_right, if_neg (show ¬ ¬ lg_cmp (lN 0) (0 : Int64) = 0 from fun z => z ((lg_cmp_eq _ _).mpr rfl))]
    by_cases hd0 : d = 0
    · subst hd0
      rw [if_neg (fun z => z rfl)]
      exact ⟨_, rfl, rfl⟩
    · have hdn := nI_ne0 (n := d) (by omega) (by omega)
      rw [if_pos hdn, pu_g hdn, pu_g hdn]
      rcases hx with rfl | rfl
      · rw [if_neg (fun z => z rfl), show (0 : Int32) = nI 0 from rfl, pk_div (by omega) (by omega) (by omega), Nat.zero_div]
        exact ⟨_, rfl, rfl⟩
      · rw [if_pos (by decide), pk_div (by omega) (by omega) (by omega), Nat.div_self (by omega)]
        exact ⟨_, rfl, rfl⟩
  · have hane : ¬ lN a = 0 := fun z => ha ((pk_lEQ (b := 0) (by omega) (by decide)).mp z)
    have hg : 0 < Nat.gcd d a := Nat.gcd_pos_of_pos_right d (by omega)
    have hgl : Nat.gcd d a ≤ a := Nat.gcd_le_right d (by omega)
    have hgn := nI_ne0 (n := Nat.gcd d a) hg (by omega)
    have hgL : ¬ lN (Nat.gcd d a) = 0 := fun z => by have := (pk_lEQ (b := 0) (by omega) (by decide)).mp z; omega
    rw [if_pos hgn, pu_g hgn, pu_g hgn, if_pos (fun z => hane ((lg_cmp_eq _ _).mp z))]
    have el : B_Model_lowest_16 n n (lN a) (lN d) x4 (lN a) (lN d) M = B_Model_lowest_51 n (lN (Nat.gcd d a)) (if ¬ x4 = 0 then lN d else lN a) M := by
      obtain ⟨q, e⟩ : ∃ q, n = q + 1 := ⟨n - 1, by omega⟩
      have hd0 : 0 < d := by omega
      have hdn : ¬ lN d = 0 := fun z => by have := (pk_lEQ (b := 0) (by omega) (by decide)).mp z; omega
      have key : ∀ k : Nat, B_Model_lowest_16 k (q + 1) (lN a) (lN d) x4 (lN a) (lN d) M = B_Model_lowest_51 k (lN (Nat.gcd d a)) (if ¬ x4 = 0 then lN d else lN a) M := by
        intro k
        have hlt := Nat.mod_lt a hd0
        unfold B_Model_lowest_16 B_Model_lowest_16b
        rw [if_neg (fun z => hdn ((lg_cmp_eq _ _).mp z)), pu_g hdn, pk_lRem (by omega) hd0 (by omega)]
        show B_Model_lowest_16 k q (lN a) (lN d) x4 (lN d) (lN (a % d)) M = _
        rw [lw_loop 38 d (a % d) q (Nat.le_of_lt hlt) (by omega) (by
          have : d * (a % d) ≤ d * a := Nat.mul_le_mul_left d (Nat.mod_le a d)
          omega) (by omega), gcd_step, Nat.gcd_comm a d]
      rw [show B_Model_lowest_16 n n (lN a) (lN d) x4 (lN a) (lN d) M = B_Model_lowest_16 n (q + 1) (lN a) (lN d) x4 (lN a) (lN d) M by rw [← e]]
      exact key n
    rw [el]
    unfold B_Model_lowest_51
    rw [pu_g hgL]
    have dl : ∀ k, k < 2 ^ 30 → (nI k / nI (Nat.gcd d a)).toInt64 = lN k / lN (Nat.gcd d a) := by
      intro k hk
      have := Nat.div_le_self k (Nat.gcd d a)
      rw [pk_div (by omega) hg (by omega), nI_l (by omega), pk_lDiv (by omega) hg (by omega)]
    rcases hx with rfl | rfl
    · rw [if_neg (fun z => z rfl), if_neg (fun z => z rfl), dl a (by omega)]
      exact ⟨_, rfl, rfl⟩
    · rw [if_pos (by decide), if_pos (by decide), dl d (by omega)]
      exact ⟨_, rfl, rfl⟩
end GC
def SimL (T : Nat) (fc fm : Option (Int64 × dk_S)) : Prop := ∃ (r : Int64) (C M : dk_S), fc = some (r, C) ∧ fm = some (r, M) ∧ Inv T C M
theorem SimL.fr {T : Nat} {C M : dk_S} {fc fm : Option (Int64 × dk_S)} (h : Inv T C M) (e : ∃ (r : Int64) (C2 M2 : dk_S), fc = some (r, C2) ∧ fm = some (r, M2)) (hc : ∀ q, fc = some q → ∃ W, dk_fr W C q.2 ∧ ∀ k ∈ W, k ∈ kC) (hm : ∀ q, fm = some q → ∃ W, dk_fr W M q.2 ∧ ∀ k ∈ W, k ∈ kM) : SimL T fc fm := by
  obtain ⟨r, C2, M2, e1, e2⟩ := e
  obtain ⟨W, c, c2⟩ := hc _ e1
  obtain ⟨V, d, d2⟩ := hm _ e2
  obtain ⟨G, B, m, r2, z, hp⟩ := h
  rw [e1, e2]
  exact ⟨r, C2, M2, rfl, rfl, G, B, m, r2, z, hp.cg (c.up c2) (d.up d2)⟩
section SH
variable {n T G B N m r z c : Nat} {C C2 M M2 : dk_S}
theorem shr_loop {b : Nat} {p x4 : Int32} (h : pX T G B m r c C M) (hx : x4 = 0 ∨ x4 = 1) (hn : 400 ≤ n) : ∀ (d j q a s : Nat) (C1 M1 : dk_S), j + d = c → d < q → a ≤ s → s ≤ 9999 * j → dk_fr sC C C1 → dk_fr sM M M1 → ∃ v C2 M2, B_Hare_share_61 n T q (nI b) p x4 (nI a) (nI s) (nI j) C1 = some (v, C2) ∧ B_Model_share_59 n q (nI b) p x4 (lN a) (lN s) (nI j) M1 = some (v, M2)
  | d, j, 0, _, _, _, _, _, hq, _, _, _, _ => absurd hq (Nat.not_lt_zero _)
  | 0, j, q + 1, a, s, C1, M1, hj, hq, has, hs, cc, dd => by
    have hc := h.2.1.1
    unfold B_Hare_share_61 B_Hare_share_61b B_Model_share_59 B_Model_share_59b
    rw [cc 115 (by decide), h.2.1.2.1, if_pos (nI_le (by omega) (by omega)), dd 18 (by decide), h.2.1.2.2.1, if_pos (nI_le (by omega) (by omega))]
    obtain ⟨v, e1, e2⟩ := e_low (n := n) (T := T) (C := C1) (M := M1) has (by omega) hn hx
    rw [e2, pu_c]
    exact ⟨v, C1, M1, e1, rfl⟩
  | d + 1, j, q + 1, a, s, C1, M1, hj, hq, has, hs, cc, dd => by
    have hc := h.2.1.1
    have hj44 : j < 44 := by omega
    have hs1 := h.2.1.2.2.2.1 j (by omega)
    unfold B_Hare_share_61 B_Hare_share_61b B_Model_share_59 B_Model_share_59b B_Hare_share_139 B_Hare_share_142 B_Model_share_116 B_Model_share_127
    rw [cc 115 (by decide), h.2.1.2.1, if_neg (nI_ge (by omega) (by omega)), dd 18 (by decide), h.2.1.2.2.1, if_neg (nI_ge (by omega) (by omega)), pu_r hj44 (by decide), pu_r hj44 (by decide), cc 21 (by decide), dd 21 (by decide), hs1.2.2.1, nI_1]
    by_cases q1 : M 21 j = nI b
    · rw [if_neg (fun z => z q1), if_neg (fun z => z q1)]
      obtain ⟨C3, M3, e1, e2, -, cc3, dd3⟩ := st_at h cc dd (show j < c by omega) hn
      rw [e1, e2, pu_c, pu_c]
      by_cases q2 : stN n M j = 0
      · rw [if_pos q2, if_pos q2]
        exact shr_loop h hx hn d (j + 1) q a s C3 M3 (by omega) (by omega) has (by omega) cc3 dd3
      · rw [if_neg q2, if_neg q2]
        obtain ⟨C4, M4, f1, f2, cc4, dd4⟩ := wo_at h cc3 dd3 (show j < c by omega) hn
        obtain ⟨v, hv, ev⟩ : ∃ v : Nat, v ≤ 9999 ∧ woN r C M j = nI v := by unfold woN worV; exact clp_i _
        rw [f1, f2, pu_c, pu_c, pu_r hj44 (by decide), pu_r hj44 (by decide), cc4 20 (by decide), dd4 20 (by decide), hs1.2.1, ev, nI_add, nI_l (by omega), lN_add]
        by_cases q3 : M 20 j = p
        · rw [if_neg (fun z => z q3), if_neg (fun z => z q3), nI_add, lN_add]
          exact shr_loop h hx hn d (j + 1) q (a + v) (s + v) C4 M4 (by omega) (by omega) (by omega) (by omega) cc4 dd4
        · rw [if_pos q3, if_pos q3, show nI a + (0 : Int32) = nI (a + 0) from nI_add a 0, show lN a + (0 : Int64) = lN (a + 0) from lN_add a 0]
          exact shr_loop h hx hn d (j + 1) q a (s + v) C4 M4 (by omega) (by omega) (by omega) (by omega) cc4 dd4
    · rw [if_pos q1, if_pos q1]
      exact shr_loop h hx hn d (j + 1) q a s C1 M1 (by omega) (by omega) has (by omega) cc dd
theorem s_share (h : Inv T C M) (hn : 400 ≤ n) (x y w u : Int32) : SimL T (F_Hare_share n T x y w u C) (F_Model_share n x y w u M) := by
  refine SimL.fr h ?_ (fun q e => ⟨_, fr_Hare_share e, by decide⟩) (fun q e => ⟨_, fr_Model_share e, by decide⟩)
  obtain ⟨G, B, m, r, z, hp⟩ := h
  have hE := hp.E
  have hB := hp.2.1
  have hM := hp.2.2.1
  have hB6 := hB.1
  have hm := hM.1
  unfold F_Hare_share B_Hare_share_0 F_Model_share B_Model_share_0 B_Hare_share_40 B_Model_share_40
  rw [eC_hasBeast hB.2.1 (by omega), eM_isBeast hB.2.2.1 (by omega), pu_c, pu_c]
  by_cases h3 : 0 ≤ x.toInt ∧ x.toInt < (B : Int)
  · rw [pu_et h3, pu_et h3, e_reC hM.2.1 hM.1, e_reM hM.2.2.1 hM.1, pu_c, pu_c]
    by_cases h1 : 0 ≤ y.toInt ∧ y.toInt ≤ (m : Int)
    · rw [pu_et h1, pu_et h1, e_one, e_in9, pu_c, pu_c]
      by_cases h4 : 0 ≤ w.toInt ∧ w.toInt ≤ 9
      · rw [pu_et h4, pu_et h4, e_in1, pu_c]
        obtain ⟨b, hb, rfl⟩ := i_ix h3 (by omega)
        obtain ⟨k, hk, rfl⟩ := i_ix2 h1 (by omega)
        have go : u = 0 ∨ u = 1 → ∃ v C2 M2, B_Hare_share_44 n T (nI b) (nI k) w u C = some (v, C2) ∧ (dk_cv (F_Model_works n (nI k) 0 M) fun S17 => B_Model_share_59 n n (nI b) w u (0 : Int64) (0 : Int64) (0 : Int32) S17) = some (v, M2) := by
          intro hu
          obtain ⟨C2, M2, c, e1, e2, hX⟩ := e_at hE hk hn
          have hc := hX.2.1.1
          unfold B_Hare_share_44
          rw [e1, e2, pu_cv, pu_cv]
          obtain ⟨v, C3, M3, f1, f2⟩ := shr_loop (n := n) (b := b) (p := w) hX hu hn c 0 n 0 0 C2 M2 (by omega) (by omega) (Nat.le_refl _) (by omega) dk_fr.rf dk_fr.rf
          exact ⟨v, C3, M3, f1, f2⟩
        by_cases q0 : u = 0
        · rw [if_pos q0, pu_t (by rw [q0]; decide)]
          exact go (Or.inl q0)
        · rw [if_neg q0]
          by_cases q1 : u = 1
          · rw [if_pos q1, pu_t (by rw [q1]; decide)]
            exact go (Or.inr q1)
          · rw [if_neg q1, pu_f]
            · exact ⟨_, _, _, rfl, rfl⟩
            · intro v
              have h0 : u.toInt ≠ 0 := fun v => q0 (Int32.toInt_inj.mp (by rw [v]; decide))
              have h1 : u.toInt ≠ 1 := fun v => q1 (Int32.toInt_inj.mp (by rw [v]; decide))
              omega
      · rw [pu_ef h4, pu_ef h4]; exact ⟨_, _, _, rfl, rfl⟩
    · rw [pu_ef h1, pu_ef h1]; exact ⟨_, _, _, rfl, rfl⟩
  · rw [pu_ef h3, pu_ef h3]; exact ⟨_, _, _, rfl, rfl⟩
theorem pE.law {t : Nat} (h : pE T G B m r C M) (c : dk_fr (114 :: kC) C C2) (d : dk_fr (17 :: kM) M M2) (ht : t < T) (u1 : C2 114 0 = nI t) (u2 : M2 17 0 = nI t) : pE T G B m t C2 M2 := by
  obtain ⟨h1, h2, h3, h4, h5, h6⟩ := h
  exact ⟨h1.cg c d (by decide) (by decide), h2.cg c d (by decide) (by decide), h3.cg c d (by decide) (by decide), h4.cg c d (by decide) (by decide), ht, u1, u2⟩
theorem pInv.law (h : pInv T G B m r z C M) (c : dk_fr (114 :: kC) C C2) (d : dk_fr (17 :: kM) M M2) (u1 : C2 114 0 = nI r) (u2 : M2 17 0 = nI r) : pInv T G B m r z C2 M2 := by
  obtain ⟨h1, h2, h3, h4, h5, h6, h7, h8, h9⟩ := h
  exact ⟨h1.cg c d (by decide) (by decide), h2.cg c d (by decide) (by decide), h3.cg c d (by decide) (by decide), h4.cg c d (by decide) (by decide), ⟨u1, u2⟩, h6.cg c d (by decide) (by decide), h7.cg c d (by decide) (by decide), h8.cg c d (by decide) (by decide), h9.cg c d (by decide) (by decide)⟩
theorem cus_loop {b : Nat} (hE : pE T G B m r C M) (hN : pN T r C M) (hn : 400 ≤ n) : ∀ (d t q : Nat) (xc xm qv uv : Int32) (C1 M1 : dk_S), t + d = T → d < q → (t = 0 ∧ xm = -1 ∨ 0 < t ∧ xc = xm ∧ ∃ a, a < 6 ∧ xm = nI a) → dk_fr (114 :: kC) C C1 → dk_fr (17 :: kM) M M1 → ∃ v C2 M2, B_Hare_custom_24 n T q (nI b) xc qv uv (nI t) C1 = some (v, C2) ∧ B_Model_custom_27 n q (nI b) (nI r) xm qv uv (nI t) M1 = some (v, M2) ∧ dk_fr (114 :: kC) C C2 ∧ dk_fr (17 :: kM) M M2 ∧ C2 114 0 = nI r ∧ M2 17 0 = nI r
  | d, t, 0, _, _, _, _, _, _, _, hq, _, _, _ => absurd hq (Nat.not_lt_zero _)
  | 0, t, q + 1, xc, xm, qv, uv, C1, M1, ht, hq, ho, cc, dd => by
    have hT6 := hE.2.2.2.1.1
    have hr := hE.2.2.2.2.1
    unfold B_Hare_custom_24 B_Hare_custom_24b B_Model_custom_27 B_Model_custom_27b
    rw [cc 100 (by decide), hN.2.1, if_pos (nI_le (by omega) (by omega)), dd 16 (by decide), hN.2.2.1, if_pos (nI_le (by omega) (by omega)), cc 101 (by decide), hN.2.2.2, e_use (by rw [cc 100 (by decide)]; exact hN.2.1) hT6 hr, pu_cv, pu_p]
    rcases ho with ⟨h1, -⟩ | ⟨-, h2, -⟩
    · omega
    · rw [h2]
      exact ⟨_, _, _, rfl, rfl, cc.tr (fr_U (by decide)), dd.tr (fr_U (by decide)), pu_Us, pu_Us⟩
  | d + 1, t, q + 1, xc, xm, qv, uv, C1, M1, ht, hq, ho, cc, dd => by
    have hT6 := hE.2.2.2.1.1
    have hr := hE.2.2.2.2.1
    have htT : t < T := by omega
    have cc1 : dk_fr (114 :: kC) C (dk_U C1 114 0 (nI t)) := cc.tr (fr_U (by decide))
    have dd1 : dk_fr (17 :: kM) M (dk_U M1 17 0 (nI t)) := dd.tr (fr_U (by decide))
    have hE1 : pE T G B m t (dk_U C1 114 0 (nI t)) (dk_U M1 17 0 (nI t)) := hE.law cc1 dd1 htT pu_Us pu_Us
    obtain ⟨C3, e1, e2, e3⟩ := e_tally (b := b) hE1 hn
    have f1 := fr_Scene_tally e1
    obtain ⟨M3, g1, g2⟩ := e_qua (b := b) hE1 hn (dk_fr.rf (S := dk_U M1 17 0 (nI t)))
    obtain ⟨M4, k1, k2⟩ := e_nob (b := b) hE1 hn g2
    have cc3 : dk_fr (114 :: kC) C C3 := cc1.tr (f1.up (by decide))
    have dd4 : dk_fr (17 :: kM) M M4 := dd1.tr (k2.up (by decide))
    unfold B_Hare_custom_24 B_Hare_custom_24b B_Model_custom_27 B_Model_custom_27b
    rw [cc 100 (by decide), hN.2.1, if_neg (nI_ge (by omega) (by omega)), dd 16 (by decide), hN.2.2.1, if_neg (nI_ge (by omega) (by omega)), e_use (by rw [cc 100 (by decide)]; exact hN.2.1) hT6 htT, pu_cv, e1, pu_cv, pu_p, g1, pu_c, k1, pu_c, e2, e3]
    generalize sumN (fun k => dqN n b k (dk_U M1 17 0 (nI t))) (m + 1) = Q at *
    generalize sumN (fun k => unN n b k (dk_U M1 17 0 (nI t))) (m + 1) = U at *
    have take : ∃ v C2 M2, B_Hare_custom_98 n T (fun x1 x2 x3 x4 x5 S => B_Hare_custom_24 n T q x1 x2 x3 x4 x5 S) (nI b) (nI t) C3 = some (v, C2) ∧ B_Model_custom_82 n (fun x1 x2 x3 x4 x5 x6 S => B_Model_custom_27 n q x1 x2 x3 x4 x5 x6 S) (nI b) (nI r) (nI t) Q U M4 = some (v, M2) ∧ dk_fr (114 :: kC) C C2 ∧ dk_fr (17 :: kM) M M2 ∧ C2 114 0 = nI r ∧ M2 17 0 = nI r := by
      unfold B_Hare_custom_98 B_Hare_custom_118 B_Model_custom_82 B_Model_custom_93
      rw [e2, e3, nI_1]
      exact cus_loop hE hN hn d (t + 1) q (nI t) (nI t) Q U C3 M4 (by omega) (by omega) (Or.inr ⟨by omega, rfl, t, by omega, rfl⟩) cc3 dd4
    rcases ho with ⟨h1, h2⟩ | ⟨h1, h2, a, h3, h4⟩
    · rw [if_pos h2]
      unfold B_Hare_custom_81 B_Hare_custom_85 B_Hare_custom_86
      rw [if_pos (show nI t = 0 by rw [h1]; rfl)]
      obtain ⟨v, C2, M2, t1, t2, t3⟩ := take
      refine ⟨v, C2, M2, ?_, t2, t3⟩
      by_cases q1 : Q < qv
      · rw [if_pos q1]; exact t1
      · rw [if_neg q1]
        by_cases q2 : Q = qv
        · rw [if_neg (fun z => z q2), ]
          by_cases q3 : uv ≤ U
          · rw [if_pos q3, if_pos (show nI t = 0 by rw [h1]; rfl)]; exact t1
          · rw [if_neg q3]; exact t1
        · rw [if_pos q2, if_pos (show nI t = 0 by rw [h1]; rfl)]; exact t1
    · have h5 : ¬ nI t = 0 := nI_ne0 h1 (by omega)
      subst h2
      have hne : ¬ xc = -1 := by rw [h4]; exact nI_m1 (by omega)
      have keep : ∃ v C2 M2, B_Hare_custom_85 n T (fun x1 x2 x3 x4 x5 S => B_Hare_custom_24 n T q x1 x2 x3 x4 x5 S) (nI b) xc qv uv (nI t) C3 = some (v, C2) ∧ B_Model_custom_93 n (fun x1 x2 x3 x4 x5 x6 S => B_Model_custom_27 n q x1 x2 x3 x4 x5 x6 S) (nI b) (nI r) xc qv uv (nI t) M4 = some (v, M2) ∧ dk_fr (114 :: kC) C C2 ∧ dk_fr (17 :: kM) M M2 ∧ C2 114 0 = nI r ∧ M2 17 0 = nI r := by
        unfold B_Hare_custom_85 B_Hare_custom_86 B_Hare_custom_118 B_Model_custom_93
        rw [if_neg h5, if_pos rfl, nI_1]
        exact cus_loop hE hN hn d (t + 1) q xc xc qv uv C3 M4 (by omega) (by omega) (Or.inr ⟨by omega, rfl, a, h3, h4⟩) cc3 dd4
      have take2 : B_Hare_custom_81 n T (fun x1 x2 x3 x4 x5 S => B_Hare_custom_24 n T q x1 x2 x3 x4 x5 S) (nI b) xc qv uv (nI t) C3 = B_Hare_custom_98 n T (fun x1 x2 x3 x4 x5 S => B_Hare_custom_24 n T q x1 x2 x3 x4 x5 S) (nI b) (nI t) C3 := by
        unfold B_Hare_custom_81 B_Hare_custom_86
        rw [if_neg h5, if_neg (show ¬ (1 : Int32) = 0 by decide)]
      rw [if_neg hne, take2]
      by_cases q1 : Q < qv
      · rw [if_pos q1, if_pos q1]; exact take
      · rw [if_neg q1, if_neg q1]
        by_cases q2 : Q = qv
        · have q2' : ¬ ¬ Q = qv := fun z => z q2
          rw [if_neg q2', if_neg q2']
          by_cases q3 : uv ≤ U
          · rw [if_pos q3, if_pos q3]; exact keep
          · rw [if_neg q3, if_neg q3]; exact take
        · rw [if_pos q2, if_pos q2]; exact keep
theorem s_custom (h : Inv T C M) (hn : 400 ≤ n) (x : Int32) : Sim T (F_Hare_custom n T x C) (F_Model_custom n x M) := by
  obtain ⟨G, B, m, r, z, hp⟩ := h
  have hE := hp.E
  have hB := hp.2.1
  have hN := hp.2.2.2.2.2.1
  have hB6 := hB.1
  have hT6 := hE.2.2.2.1.1
  unfold F_Hare_custom B_Hare_custom_0 F_Model_custom B_Model_custom_0
  rw [eC_hasBeast hB.2.1 (by omega), eM_isBeast hB.2.2.1 (by omega), pu_c, pu_c]
  by_cases h3 : 0 ≤ x.toInt ∧ x.toInt < (B : Int)
  · rw [pu_t h3, pu_t h3]
    obtain ⟨b, hb, rfl⟩ := i_ix h3 (by omega)
    obtain ⟨v, C2, M2, e1, e2, e3, e4, e5, e6⟩ := cus_loop (n := n) (b := b) hE hN hn T 0 n 0 (-1) 0 0 C M (by omega) (by omega) (Or.inl ⟨rfl, rfl⟩) dk_fr.rf dk_fr.rf
    have e1' : B_Hare_custom_24 n T n (nI b) 0 0 0 0 C = some (v, C2) := e1
    have e2' : B_Model_custom_27 n n (nI b) (nI r) (-1) 0 0 0 M = some (v, M2) := e2
    rw [e1', hE.2.2.2.2.2.2, e2']
    exact Sim.mk (hp.law e3 e4 e5 e6)
  · rw [pu_f h3, pu_f h3]; exact Sim.mk hp
end SH
