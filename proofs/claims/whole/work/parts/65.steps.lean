/-! PURE: what a token does on either side -/
def sgo (k : Nat) : Int32 := if k = 6 then 11 else if k = 7 then 12 else if k = 60 then 14 else if k = 61 then 15 else if k = 43 then 16 else if k = 45 then 17 else if k = 42 then 18 else -1
def la (n T z : Nat) (t : Nat → Nat) (C : dk_S) (i p e k v : Nat) : Prop :=
  (tpe z t ∧ tkC z t C ∧ lxM n z t i p e k v) ∧ (C 112 0 = nI e ∧ C 110 0 = nI p ∧ C 109 0 = nI k ∧ (k = 2 → C 111 0 = nI v) ∧ (k = 3 → C 111 0 = -(nI (v + 1)))) ∧ (i ≤ p ∧ p ≤ e ∧ e ≤ z ∧ (k = 0 → p = z) ∧ (k ≠ 0 → p < e) ∧ kOK k ∧ (k = 2 → v ≤ 9999) ∧ (k = 3 → v < 6))
/-- the reference gives up at place f -/
def fl (T : Nat) (g0 : Nat → Int32) (o : Option (Int32 × dk_S)) (f : Nat) : Prop := ∃ M2, o = some (0, M2) ∧ M2 41 0 = nI f ∧ ∀ x, x < 200 * T → M2 14 x = g0 x
section SP
variable {n T z b i o d p e k v : Nat} {t : Nat → Nat} {g0 h0 : Nat → Int32} {C C2 M M2 : dk_S} {K P : List Int32} {s c : Int32} {W V : List Nat}
theorem e_putC {L : Nat} (h1 : C 106 0 = -1) (h2 : C 107 0 = nI L) (hL : L < 160) : F_Reader_put n T c C = some (dk_U (dk_U C 14 L c) 107 0 (nI (L + 1))) := by
  unfold F_Reader_put B_Reader_put_0
  rw [h1, if_neg (by decide), h2, if_neg (show ¬ (160 : Int32) ≤ nI L from nI_ge (b := 160) hL (by decide)), pu_w hL (by decide), pu_p, dk_U_n (show 107 ≠ 14 by decide), h2, nI_1]
theorem dp_sh {C : dk_S} {L x : Nat} {c : Int32} (hb : b ≤ L) (h : dpth (fun j => C 14 (b + j)) (L - b) = some d) (hd : dst c d = some x) : dpth (fun j => upd (C 14) L c (b + j)) (L + 1 - b) = some x := by
  rw [show L + 1 - b = (L - b) + 1 by omega]
  refine dp_put h (fun j hj => upd_n2 (by omega)) ?_ hd
  show upd (C 14) L c (b + (L - b)) = c
  rw [show b + (L - b) = L by omega, upd_s2]
/-- a number or name comes into both codes -/
theorem put_num (h : pR T z b t g0 h0 C M K [] i o d) (ho : iO c s) (hc : (-6 : Int32) ≤ c) (hi : o + K.length + 1 ≤ i) : ∃ C2 M2, F_Reader_put n T c C = some C2 ∧ F_Model_puts n s M = some M2 ∧ pR T z b t g0 h0 C2 M2 K [] i (o + 1) (d + 1) ∧ dk_fr [14, 107] C C2 ∧ dk_fr [14, 48] M M2 := by
  obtain ⟨⟨a1, a2, a3, a4, a5, a6⟩, ⟨b1, b2, b3, b4, b5, b6, b7⟩, ⟨c1, c2, c3⟩, ⟨d1, d2, d3, d4, d5⟩⟩ := h
  have c2' : C 107 0 = nI o := c2
  have d5' : dpth (fun j => C 14 (b + j)) (o - b) = some d := d5
  have cc : dk_fr [14, 107] C (dk_U (dk_U C 14 o c) 107 0 (nI (o + 1))) := (fr_U (by decide)).tr (fr_U (by decide))
  have cm : dk_fr [14, 48] M (dk_U (dk_U M 14 (200 * T + o) s) 48 0 (nI (o + 1))) := (fr_U (by decide)).tr (fr_U (by decide))
  have e14 : (dk_U (dk_U C 14 o c) 107 0 (nI (o + 1))) 14 = upd (C 14) o c := by rw [dk_U_n (by decide), dk_U_s]
  have m14 : (dk_U (dk_U M 14 (200 * T + o) s) 48 0 (nI (o + 1))) 14 = upd (M 14) (200 * T + o) s := by rw [dk_U_n (by decide), dk_U_s]
  refine ⟨_, _, e_putC c1 c2' (by omega), e_puts s b2 b7 a2 (by omega), ⟨⟨a1, a2, a3, by show o + 1 + 0 + K.length ≤ i; omega, by omega, a6⟩, ⟨b1.cg cm (by decide), by rw [cm 16 (by decide)]; exact b2, by rw [cm 40 (by decide)]; exact b3, by rw [cm 46 (by decide)]; exact b4, by rw [cm 45 (by decide)]; exact b5, by rw [cm 47 (by decide)]; exact b6, pu_Us⟩, ⟨by rw [cc 106 (by decide)]; exact c1, pu_Us, by rw [cc 113 (by decide)]; exact c3⟩, ⟨fun j hj => ?_, trivial, fun x hx => ?_, fun j hj => ?_, ?_⟩⟩, cc, cm⟩
  · rw [e14, m14]
    by_cases w : j = o
    · rw [w, upd_s2, upd_s2]; exact ho
    · rw [upd_n2 w, upd_n2 (by omega)]; exact d1 j (by omega)
  · rw [m14, upd_n2 (by omega)]; exact d3 x hx
  · rw [e14, upd_n2 (by omega)]; exact d4 j hj
  · rw [e14]
    exact dp_sh a5 d5' (by unfold dst; rw [if_pos hc])
/-- the class puts an operation whose sign the reference still holds -/
theorem put_op {x : Nat} (h : pR T z b t g0 h0 C M (s :: K) P i o d) (ho : iO c s) (hd : dst c d = some x) : ∃ C2, F_Reader_put n T c C = some C2 ∧ C2 113 0 = nI (opb s + opn K) ∧ pR T z b t g0 h0 (dk_U C2 113 0 (nI (opn K))) M K (P ++ [s]) i o x ∧ dk_fr [14, 107] C C2 := by
  obtain ⟨⟨a1, a2, a3, a4, a5, a6⟩, ⟨b1, b2, b3, b4, b5, b6, b7⟩, ⟨c1, c2, c3⟩, ⟨d1, d2, d3, d4, d5⟩⟩ := h
  have hl : (s :: K).length = K.length + 1 := rfl
  have hp : (P ++ [s]).length = P.length + 1 := by rw [List.length_append]; rfl
  have ha : P ++ [s] ++ K = P ++ (s :: K) := List.append_assoc P [s] K
  have hop : opn (s :: K) = opb s + opn K := rfl
  have cc : dk_fr [14, 107] C (dk_U (dk_U C 14 (o + P.length) c) 107 0 (nI (o + P.length + 1))) := (fr_U (by decide)).tr (fr_U (by decide))
  have e14 : (dk_U (dk_U (dk_U C 14 (o + P.length) c) 107 0 (nI (o + P.length + 1))) 113 0 (nI (opn K))) 14 = upd (C 14) (o + P.length) c := by rw [dk_U_n (by decide), dk_U_n (by decide), dk_U_s]
  refine ⟨_, e_putC c1 c2 (by omega), by rw [cc 113 (by decide), c3, hop], ⟨⟨a1, a2, a3, by rw [hp]; omega, a5, by omega⟩, ⟨b1, b2, b3, by rw [ha]; exact b4, by rw [ha]; exact b5, by rw [ha]; exact b6, b7⟩, ⟨by rw [dk_U_n (by decide), cc 106 (by decide)]; exact c1, by rw [dk_U_n (by decide), pu_Us, hp]; congr 1, pu_Us⟩, ⟨fun j hj => ?_, ?_, d3, fun j hj => ?_, ?_⟩⟩, cc⟩
  · rw [e14, upd_n2 (by omega)]; exact d1 j hj
  · rw [e14]
    exact penA_app P o (penA_cg P o d2 (fun j h1 h2 => upd_n2 (by omega))) (by rw [upd_s2]; exact ho)
  · rw [e14, upd_n2 (by omega)]; exact d4 j hj
  · rw [e14, hp, show o + (P.length + 1) - b = o + P.length + 1 - b by omega]
    exact dp_sh (by omega) d5 hd
theorem put_bin {x : Nat} (h : pR T z b t g0 h0 C M (s :: K) P i o d) (ho : iO c s) (hd : dst c d = some x) (hs : opb s = 0) : ∃ C2, F_Reader_put n T c C = some C2 ∧ pR T z b t g0 h0 C2 M K (P ++ [s]) i o x ∧ dk_fr [14, 107] C C2 := by
  obtain ⟨C2, e1, e2, e3, e4⟩ := put_op (n := n) h ho hd
  refine ⟨C2, e1, ?_, e4⟩
  have e : dk_U C2 113 0 (nI (opn K)) = C2 := by
    have : nI (opn K) = C2 113 0 := by rw [e2, hs, Nat.zero_add]
    rw [this]
    exact dk_U_id
  rw [e] at e3
  exact e3
/-- a sign between comes: what binds as much or more goes into the code, then it is held -/
theorem e_betw {u : Nat} (h : pR T z b t g0 h0 C M K P i o d) (hu : u = if rk s = 4 then 5 else rk s) (h1 : 1 ≤ rk s) (h6 : rk s ≤ 6) (hP : ∀ x ∈ P, u ≤ rk x) (hK : tr K < u) (h4 : rk s = 4 → tr K < 4) (hs : opb s = 0) (hi : o + P.length + K.length + 1 ≤ i) (hn : 400 ≤ n) : ∃ M2, F_Model_between n s M = some (1, M2) ∧ pR T z b t g0 h0 C M2 (s :: K) [] i (o + P.length) d ∧ dk_fr [14, 45, 46, 47, 48] M M2 := by
  have hu7 : u ≤ 7 ∧ 0 < u := by rw [hu]; split <;> omega
  obtain ⟨M2, e1, e2, e3⟩ := e_unw (n := n) h hK hu7.2 hu7.1 hP hn
  obtain ⟨M3, f1, f2, f3⟩ := e_hold (n := n) (s := s) e2 hs (by omega)
  have go : B_Model_between_17 n s (nI u) M = some (1, M3) := by
    unfold B_Model_between_17 B_Model_between_55
    rw [e1, pu_cv, e_rank, pu_c]
    by_cases q : rk s = 4
    · rw [q, if_neg (show ¬ ¬ nI 4 = (4 : Int32) by decide)]
      have hk := h4 q
      have b4 : M2 46 0 = nI K.length := e2.2.1.2.2.2.1
      cases K with
      | nil =>
        have b4' : M2 46 0 = nI 0 := b4
        rw [b4', if_pos (show nI 0 ≤ 0 by decide), f1, pu_cv, pu_b1]
      | cons x K =>
        have a4 := e2.1.2.2.2.1
        have hl : (x :: K).length = K.length + 1 := rfl
        have b4' : M2 46 0 = nI (K.length + 1) := b4
        have e45 : M2 45 K.length = x := e2.2.1.2.2.2.2.1.1
        have hx : rk x < 4 := hk
        have h160 := e2.1.1
        have hiz := e2.1.2.2.1
        rw [b4', if_neg (nI_nle (by omega) (by omega)), nI_pred, pu_r (k := K.length) (by omega) (by decide), e45, e_rank, pu_c, if_pos (show ¬ nI (rk x) = (4 : Int32) from fun q => by have := (nI_eq (b := 4) (by omega) (by decide)).mp q; omega), f1, pu_cv, pu_b1]
    · rw [if_pos (show ¬ nI (rk s) = (4 : Int32) from fun w => q ((nI_eq (b := 4) (by omega) (by decide)).mp w)), f1, pu_cv, pu_b1]
  refine ⟨M3, ?_, f2, (e3.up (by decide)).tr (f3.up (by decide))⟩
  unfold F_Model_between B_Model_between_0
  rw [e_rank, pu_c]
  by_cases q : rk s = 4
  · rw [q, if_neg (show ¬ ¬ nI 4 = (4 : Int32) by decide)]
    rw [if_pos q] at hu
    rw [hu] at go
    exact go
  · rw [if_pos (show ¬ nI (rk s) = (4 : Int32) from fun w => q ((nI_eq (b := 4) (by omega) (by decide)).mp w)), e_rank, pu_c]
    rw [if_neg q] at hu
    rw [hu] at go
    exact go
theorem e_cmpF (h : pR T z b t g0 h0 C M K P i o d) (hc : cmpd P) (hs : rk s = 4) (hn : 400 ≤ n) : ∃ M2, F_Model_between n s M = some (0, M2) ∧ dk_fr [14, 45, 46, 47, 48] M M2 ∧ ∀ x, x < 200 * T → M2 14 x = g0 x := by
  obtain ⟨M2, s2, P2, o2, e1, e2, e3, e4⟩ := un_c (n := n) P n o M (by have := h.1; omega) h hc
  refine ⟨M2, ?_, e4.up (by decide), e2.2.2.2.2.2.1⟩
  unfold F_Model_between B_Model_between_0
  have hl2 : (P2 ++ K).length = P2.length + K.length := List.length_append ..
  have b4' : M2 46 0 = nI ((P2 ++ K).length + 1) := e2.2.1.2.2.2.1
  have e45 : M2 45 (P2 ++ K).length = s2 := e2.2.1.2.2.2.2.1.1
  have a4 := e2.1.2.2.2.1
  have hl : (s2 :: P2).length = P2.length + 1 := rfl
  have h160 := e2.1.1
  have hiz := e2.1.2.2.1
  rw [e_rank, pu_c, hs, if_neg (show ¬ ¬ nI 4 = (4 : Int32) by decide)]
  unfold B_Model_between_17 F_Model_unwinds
  have e1' : B_Model_unwinds_0 n n 5 M = some M2 := e1
  rw [e1', pu_cv, e_rank, pu_c, hs, if_neg (show ¬ ¬ nI 4 = (4 : Int32) by decide), b4', if_neg (nI_nle (by omega) (by omega)), nI_pred, pu_r (k := (P2 ++ K).length) (by omega) (by decide), e45, e_rank, pu_c, e3, if_neg (show ¬ ¬ nI 4 = (4 : Int32) by decide), pu_b0]
theorem e_sgo (h : M 42 0 = mtk k) (hk : kOK k) : F_Model_signOf n M = some (sgo k, M) := by
  unfold F_Model_signOf B_Model_signOf_0
  rw [h]
  rcases hk with hk | rfl | rfl | rfl | rfl | rfl | rfl | rfl | rfl
  · rcases (show k = 0 ∨ k = 1 ∨ k = 2 ∨ k = 3 ∨ k = 4 ∨ k = 5 ∨ k = 6 ∨ k = 7 ∨ k = 8 by omega) with rfl | rfl | rfl | rfl | rfl | rfl | rfl | rfl | rfl <;> rfl
  all_goals rfl
theorem la.cg (h : la n T z t C i p e k v) (c : dk_fr W C C2) (hW : ∀ k ∈ [105, 13, 109, 110, 111, 112], k ∉ W) : la n T z t C2 i p e k v := by
  obtain ⟨⟨h1, h2, h3⟩, h4, h5⟩ := h
  refine ⟨⟨h1, h2.cg c (fun k hk => hW k (by simp only [List.mem_cons, List.not_mem_nil, or_false] at hk ⊢; omega)), h3⟩, ?_, h5⟩
  rw [c 112 (hW _ (by decide)), c 110 (hW _ (by decide)), c 109 (hW _ (by decide)), c 111 (hW _ (by decide))]
  exact h4
theorem e_scan (h : la n T z t C i p e k v) (hn : 400 ≤ n) : ∃ C2 p2 e2 k2 v2, F_Reader_scan n T C = some C2 ∧ la n T z t C2 e p2 e2 k2 v2 ∧ dk_fr [109, 110, 111, 112] C C2 := by
  obtain ⟨⟨h1, h2, h3⟩, ⟨h4, -⟩, ⟨-, -, h5, -⟩⟩ := h
  obtain ⟨p2, e2, k2, v2, a1, a2, a3⟩ := lex (T := T) h1 h5 hn
  obtain ⟨C2, b1, b2, b3, b4, b5, b6⟩ := a1 C h2 h4
  have c := fr_Reader_scan b1
  exact ⟨C2, p2, e2, k2, v2, b1, ⟨⟨h1, h2.cg c (by decide), a2⟩, ⟨b2, b3, b4, b5, b6⟩, a3⟩, c⟩
theorem e_next (h : pR T z b t g0 h0 C M K P i o d) (hl : la n T z t C i p e k v) : ∃ M9, F_Model_next n M = some M9 ∧ pR T z b t g0 h0 C M9 K P e o d ∧ M9 41 0 = nI p ∧ M9 42 0 = mtk k ∧ (k = 2 ∨ k = 3 → M9 43 0 = nI v) ∧ (k = 4 → M9 43 0 = 0) ∧ (k = 5 → M9 43 0 = 1) := by
  obtain ⟨⟨h1, h2, h3⟩, -, ⟨h4, h5, h6, -⟩⟩ := hl
  obtain ⟨M9, a1, a2, a3, a4, a5⟩ := h3 M h.2.1.1 h.2.1.2.2.1
  exact ⟨M9, a1, h.cM (fr_Model_next a1) a2 (by omega) h6, a3, a4, a5⟩
theorem mtk_59 (hk : kOK k) : mtk k = 59 ↔ k = 59 := by
  rcases hk with hk | rfl | rfl | rfl | rfl | rfl | rfl | rfl | rfl
  · rcases (show k = 0 ∨ k = 1 ∨ k = 2 ∨ k = 3 ∨ k = 4 ∨ k = 5 ∨ k = 6 ∨ k = 7 ∨ k = 8 by omega) with rfl | rfl | rfl | rfl | rfl | rfl | rfl | rfl | rfl <;> decide
  all_goals decide
theorem mtk_41 (hk : kOK k) : mtk k = 41 ↔ k = 41 := by
  rcases hk with hk | rfl | rfl | rfl | rfl | rfl | rfl | rfl | rfl
  · rcases (show k = 0 ∨ k = 1 ∨ k = 2 ∨ k = 3 ∨ k = 4 ∨ k = 5 ∨ k = 6 ∨ k = 7 ∨ k = 8 by omega) with rfl | rfl | rfl | rfl | rfl | rfl | rfl | rfl | rfl <;> decide
  all_goals decide
theorem sgo_k (h : ¬ sgo k = -1) : k = 6 ∨ k = 7 ∨ k = 60 ∨ k = 61 ∨ k = 43 ∨ k = 45 ∨ k = 42 := by
  unfold sgo at h
  repeat' split at h
  all_goals first | omega | exact absurd rfl h
theorem sgo_n (h1 : k ≠ 6) (h2 : k ≠ 7) (h3 : k ≠ 60) (h4 : k ≠ 61) (h5 : k ≠ 43) (h6 : k ≠ 45) (h7 : k ≠ 42) : sgo k = -1 := by
  unfold sgo
  rw [if_neg h1, if_neg h2, if_neg h3, if_neg h4, if_neg h5, if_neg h6, if_neg h7]
/-- the reference behind an operand: a sign between -/
theorem m_op {q u : Nat} {x2 : Int32} (h : pR T z b t g0 h0 C M K P i o d) (hl : la n T z t C i p e k v) (hs : ¬ sgo k = -1) (hu : u = if rk (sgo k) = 4 then 5 else rk (sgo k)) (hP : ∀ x ∈ P, u ≤ rk x) (hK : tr K < u) (h4 : rk (sgo k) = 4 → tr K < 4) (hn : 400 ≤ n) : ∃ M2, B_Model_eRead_14 n (q + 1) 0 x2 M = B_Model_eRead_14 n q 1 (if (12 : Int32) < sgo k then 0 else 1) M2 ∧ pR T z b t g0 h0 C M2 (sgo k :: K) [] e (o + P.length) d := by
  have hk := hl.2.2.2.2.2.2.2.1
  have h9 := sgo_k hs
  have hpe : p < e := hl.2.2.2.2.2.2.1 (by omega)
  have hip : i ≤ p := hl.2.2.1
  obtain ⟨M9, a1, a2, a3, a4, -⟩ := e_next h hl
  have hr : 1 ≤ rk (sgo k) ∧ rk (sgo k) ≤ 6 ∧ opb (sgo k) = 0 := by
    rcases h9 with rfl | rfl | rfl | rfl | rfl | rfl | rfl <;> decide
  have hb := h.1.2.2.2.1
  obtain ⟨M2, b1, b2, b3⟩ := e_betw (n := n) a2 hu hr.1 hr.2.1 hP hK h4 hr.2.2 (by omega) hn
  refine ⟨M2, ?_, b2⟩
  show B_Model_eRead_14b n (fun x1 x2 S => B_Model_eRead_14 n q x1 x2 S) 0 x2 M = _
  unfold B_Model_eRead_14b B_Model_eRead_262
  rw [a1, pu_cv, if_pos rfl, a4, if_pos (show ¬ mtk k = 59 from fun w => by have := (mtk_59 hk).mp w; omega), if_pos (show ¬ mtk k = 41 from fun w => by have := (mtk_41 hk).mp w; omega), e_sgo a4 hk, pu_c, if_neg hs, b1, pu_c, if_pos (show ¬ (1 : Int32) = 0 by decide)]
  by_cases w : (12 : Int32) < sgo k
  · rw [if_pos w, if_pos w]
  · rw [if_neg w, if_neg w]
theorem m_cmp {q : Nat} {x2 : Int32} (h : pR T z b t g0 h0 C M K P i o d) (hl : la n T z t C i p e k v) (hs : k = 60 ∨ k = 61) (hc : cmpd P) (hn : 400 ≤ n) : fl T g0 (B_Model_eRead_14 n (q + 1) 0 x2 M) p := by
  have hk := hl.2.2.2.2.2.2.2.1
  obtain ⟨M9, a1, a2, a3, a4, -⟩ := e_next h hl
  have hr : rk (sgo k) = 4 ∧ ¬ sgo k = -1 := by
    rcases hs with rfl | rfl <;> decide
  obtain ⟨M2, b1, b2, b3⟩ := e_cmpF (n := n) a2 hc hr.1 hn
  refine ⟨M2, ?_, by rw [b2 41 (by decide)]; exact a3, b3⟩
  show B_Model_eRead_14b n (fun x1 x2 S => B_Model_eRead_14 n q x1 x2 S) 0 x2 M = _
  unfold B_Model_eRead_14b
  rw [a1, pu_cv, if_pos rfl, a4, if_pos (show ¬ mtk k = 59 from fun w => by have := (mtk_59 hk).mp w; omega), if_pos (show ¬ mtk k = 41 from fun w => by have := (mtk_41 hk).mp w; omega), e_sgo a4 hk, pu_c, if_neg hr.2, b1, pu_c, if_neg (show ¬ ¬ (0 : Int32) = 0 by decide), pu_b0]
theorem m_bad {q : Nat} {x2 : Int32} (h : pR T z b t g0 h0 C M K P i o d) (hl : la n T z t C i p e k v) (hs : sgo k = -1) (h59 : k ≠ 59) (h41 : k ≠ 41) : fl T g0 (B_Model_eRead_14 n (q + 1) 0 x2 M) p := by
  have hk := hl.2.2.2.2.2.2.2.1
  obtain ⟨M9, a1, a2, a3, a4, -⟩ := e_next h hl
  refine ⟨M9, ?_, a3, a2.2.2.2.2.2.1⟩
  show B_Model_eRead_14b n (fun x1 x2 S => B_Model_eRead_14 n q x1 x2 S) 0 x2 M = _
  unfold B_Model_eRead_14b
  rw [a1, pu_cv, if_pos rfl, a4, if_pos (show ¬ mtk k = 59 from fun w => h59 ((mtk_59 hk).mp w)), if_pos (show ¬ mtk k = 41 from fun w => h41 ((mtk_41 hk).mp w)), e_sgo a4 hk, pu_c, if_pos hs, pu_b0]
/-- behind an operand, a ; -/
theorem m_semi {q : Nat} {x2 : Int32} (h : pR T z b t g0 h0 C M K P i o d) (hl : la n T z t C i p e 59 v) (hP : ∀ x ∈ P, 1 ≤ rk x) (hK : tr K < 1) (hn : 400 ≤ n) : (K = [] → ∃ M2, B_Model_eRead_14 n (q + 1) 0 x2 M = some (1, M2) ∧ pR T z b t g0 h0 C M2 K [] e (o + P.length) d) ∧ (K ≠ [] → fl T g0 (B_Model_eRead_14 n (q + 1) 0 x2 M) p) := by
  obtain ⟨M9, a1, a2, a3, a4, -⟩ := e_next h hl
  obtain ⟨M2, b1, b2, b3⟩ := e_unw (n := n) a2 hK (by decide) (by decide) hP hn
  have b1' : F_Model_unwinds n 1 M9 = some M2 := b1
  have hb : B_Model_eRead_14 n (q + 1) 0 x2 M = (if ¬ (M2 46 0) = 0 then (dk_b (0 : Int32) (some ((0 : Int32), M2))) else (dk_b (1 : Int32) (some ((1 : Int32), M2)))) := by
    show B_Model_eRead_14b n (fun x1 x2 S => B_Model_eRead_14 n q x1 x2 S) 0 x2 M = _
    unfold B_Model_eRead_14b
    rw [a1, pu_cv, if_pos rfl, a4, if_neg (show ¬ ¬ mtk 59 = 59 by decide), b1', pu_cv]
  have b4 : M2 46 0 = nI K.length := b2.2.1.2.2.2.1
  rw [hb, b4]
  constructor
  · intro hk
    subst hk
    rw [if_neg (show ¬ ¬ nI ([] : List Int32).length = 0 by decide), pu_b1]
    exact ⟨M2, rfl, b2⟩
  · intro hk
    have hlen : 0 < K.length := by
      cases K with
      | nil => exact absurd rfl hk
      | cons x K => show 0 < K.length + 1; omega
    have a5 := b2.1.2.2.2.1
    have a6 := b2.1.1
    have a7 := b2.1.2.2.1
    rw [if_pos (show ¬ nI K.length = 0 from nI_ne0 hlen (by omega)), pu_b0]
    exact ⟨M2, rfl, by rw [b3 41 (by decide)]; exact a3, b2.2.2.2.2.2.1⟩
/-- behind an operand, a ) -/
theorem m_close {q : Nat} {x2 : Int32} (h : pR T z b t g0 h0 C M K P i o d) (hl : la n T z t C i p e 41 v) (hP : ∀ x ∈ P, 1 ≤ rk x) (hK : tr K < 1) (hn : 400 ≤ n) : (K = [] → fl T g0 (B_Model_eRead_14 n (q + 1) 0 x2 M) p) ∧ (∀ K2, K = 0 :: K2 → ∃ M2, B_Model_eRead_14 n (q + 1) 0 x2 M = (dk_cv (F_Model_unwinds n 7 M2) fun S => B_Model_eRead_14 n q 0 x2 S) ∧ pR T z b t g0 h0 (dk_U C 113 0 (nI (opn K2))) M2 K2 [] e (o + P.length) d) := by
  obtain ⟨M9, a1, a2, a3, a4, -⟩ := e_next h hl
  obtain ⟨M2, b1, b2, b3⟩ := e_unw (n := n) a2 hK (by decide) (by decide) hP hn
  have b1' : F_Model_unwinds n 1 M9 = some M2 := b1
  have hb : B_Model_eRead_14 n (q + 1) 0 x2 M = (if ¬ (M2 46 0) = 0 then (dk_p M2 46 ((M2 46 0) - (1 : Int32)) fun S17 => dk_p S17 47 ((S17 47 0) - (1 : Int32)) fun S18 => dk_cv (F_Model_unwinds n (7 : Int32) S18) fun S19 => B_Model_eRead_14 n q 0 x2 S19) else (dk_b (0 : Int32) (some ((0 : Int32), M2)))) := by
    show B_Model_eRead_14b n (fun x1 x2 S => B_Model_eRead_14 n q x1 x2 S) 0 x2 M = _
    unfold B_Model_eRead_14b
    rw [a1, pu_cv, if_pos rfl, a4, if_pos (show ¬ mtk 41 = 59 by decide), if_neg (show ¬ ¬ mtk 41 = 41 by decide), b1', pu_cv]
  have b4 : M2 46 0 = nI K.length := b2.2.1.2.2.2.1
  rw [hb, b4]
  constructor
  · intro hk
    subst hk
    rw [if_neg (show ¬ ¬ nI ([] : List Int32).length = 0 by decide), pu_b0]
    exact ⟨M2, rfl, by rw [b3 41 (by decide)]; exact a3, b2.2.2.2.2.2.1⟩
  · intro K2 hk
    subst hk
    obtain ⟨⟨c1, c2, c3, c4, c5, c6⟩, ⟨d1, d2, d3, d4, d5, d6, d7⟩, ⟨f1, f2, f3⟩, hd⟩ := b2
    have hlen : (0 :: K2).length = K2.length + 1 := rfl
    have ho : opn (0 :: K2) = opn K2 + 1 := by show opb 0 + opn K2 = _; rw [show opb 0 = 1 by decide]; omega
    have d6' : M2 47 0 = nI (opn K2 + 1) := by rw [← ho]; exact d6
    rw [if_pos (show ¬ nI (0 :: K2).length = 0 from nI_ne0 (by omega) (by omega)), hlen, nI_pred, pu_p, pu_p, dk_U_n (show 47 ≠ 46 by decide), d6', nI_pred]
    have c : dk_fr [46, 47] M2 (dk_U (dk_U M2 46 0 (nI K2.length)) 47 0 (nI (opn K2))) := (fr_U (by decide)).tr (fr_U (by decide))
    refine ⟨_, rfl, ⟨c1, c2, c3, by show o + P.length + 0 + K2.length ≤ e; omega, c5, by omega⟩, ⟨d1.cg c (by decide), by rw [c 16 (by decide)]; exact d2, by rw [c 40 (by decide)]; exact d3, by rw [dk_U_n (by decide), pu_Us]; rfl, by rw [c 45 (by decide)]; exact d5.2, by rw [pu_Us]; rfl, by rw [c 48 (by decide)]; exact d7⟩, ⟨by rw [dk_U_n (by decide)]; exact f1, by rw [dk_U_n (by decide)]; exact f2, pu_Us⟩, ?_⟩
    rw [c 14 (by decide), dk_U_n (show 14 ≠ 113 by decide)]
    exact hd
end SP
