/-! PURE: the other three levels, and all of them -/
section L7
variable {n T z b i o d p e k v D l : Nat} {t : Nat → Nat} {g0 h0 : Nat → Int32} {C C2 M M2 : dk_S} {K P : List Int32} {s c : Int32} {G : Nat → dk_S → Option dk_S}
theorem lv3 (hG : Sm n T z b t g0 h0 (G 4) 4 D) (hn : 400 ≤ n) : Sm n T z b t g0 h0 (B_Reader_readCompared_0 n T G) 3 (D + 1) := by
  intro K C M i p e k v o d q mn h hl hp hD hq
  have hz := h.1.1
  have hK : tr K < 4 := hp.2.2.1 (Or.inr rfl)
  obtain ⟨C2, e1, e2⟩ := hG K C M i p e k v o d q mn h hl ⟨fun q => absurd q (by decide), fun q => absurd q (by decide), fun q => by omega, fun _ => by omega, fun q => absurd q (by decide), fun q => absurd q (by decide), fun q => absurd q (by decide), fun _ hk => hp.2.2.2.2.2.2.2 (by decide) hk⟩ (by omega) hq
  unfold B_Reader_readCompared_0
  rw [e1, pu_cv]
  rcases e2 with e2 | ⟨M2, P, i2, p2, e2, k2, v2, o2, q2, mn2, a1, a2, a3, a4, a5, a6⟩
  · obtain ⟨f, hf, hf2⟩ := bad_lt e2 hz
    rw [f_sees hf2 hf, pu_c, if_neg (show ¬ ¬ (0 : Int32) = 0 by decide), f_sees hf2 hf, pu_c, if_pos rfl]
    exact ⟨C2, rfl, Or.inl e2⟩
  · have go : ∀ (c s : Int32), sgo k2 = s → rk s = 4 → iO c s → ¬ sgo k2 = -1 → ((12 : Int32) < s) → ¬ (-6 : Int32) ≤ c → ¬ (-8 : Int32) ≤ c → ∃ C5, B_Reader_readCompared_38 n T G c C2 = some C5 ∧ (bad T z g0 C5 (B_Model_eRead_14 n q2 0 mn2 M2) ∨ okR n T z b t g0 h0 C5 K i (d + 1) 4 (B_Model_eRead_14 n q2 0 mn2 M2)) := by
      intro c s hs hr ho hne h12 hc1 hc2
      subst hs
      obtain ⟨C3, C4, b1, b2, b3⟩ := op_go (u := 5) (c := c) (mn := mn2) (qm := q2) hG a1 a2 hne (by rw [if_pos hr]) a5.1 (by omega) (fun _ => hK) (fun k' => ⟨fun q => absurd q (by decide), fun q => absurd q (by decide), fun q => by omega, fun _ => by show rk (sgo k2) < 5; omega, fun q => absurd q (by decide), fun q => absurd q (by decide), fun q => absurd q (by decide), fun _ _ => if_pos h12⟩) (by omega) a3 ho (dst2 hc1 hc2) hn
      unfold B_Reader_readCompared_38
      rw [b1, pu_cv, b2, pu_cv]
      rcases b3 with b3 | ⟨C5, M5, P5, i5, p5, e5, k5, v5, o5, q5, mn5, f1, f2, f3, f4, f5, f6, f7⟩
      · obtain ⟨f, hf, hf2⟩ := bad_lt b3 hz
        rw [f_put hf2 hf, pu_cv]
        exact ⟨C4, rfl, Or.inl b3⟩
      · rw [f1, pu_cv]
        refine ⟨C5, rfl, Or.inr ⟨M5, _, i5, p5, e5, k5, v5, o5, q5, mn5, f2, f3, f4, by omega, ⟨fun x hx => ?_, fun _ => f6.2.1 (by decide), fun _ => f6.2.2.1 (by decide), fun _ _ => cmpd_new hr P5 f6.1, fun q => by omega, fun q => by omega⟩, f7⟩⟩
        rcases List.mem_append.mp hx with hx | hx
        · have := f6.1 x hx; omega
        · rw [List.mem_singleton.mp hx]; omega
    rw [a6, show F_Reader_sees n T 60 C2 = some (b2 (k2 = 60), C2) from e_sees a1.2.2.1.1 (la_c a2) (la_k a2) (by decide), pu_c]
    unfold B_Reader_readCompared_22
    by_cases h60 : k2 = 60
    · rw [pu_t h60, la_c a2, h60, if_neg (show ¬ ¬ nI 60 = (60 : Int32) from fun q => q rfl)]
      exact go (-12) 14 (by rw [h60]; decide) (by decide) iO14 (by rw [h60]; decide) (by decide) (by decide) (by decide)
    · rw [pu_f h60, show F_Reader_sees n T 61 C2 = some (b2 (k2 = 61), C2) from e_sees a1.2.2.1.1 (la_c a2) (la_k a2) (by decide), pu_c]
      by_cases h61 : k2 = 61
      · rw [pu_et h61, la_c a2, h61, if_pos (show ¬ nI 61 = (60 : Int32) by decide)]
        exact go (-13) 15 (by rw [h61]; decide) (by decide) iO15 (by rw [h61]; decide) (by decide) (by decide) (by decide)
      · rw [pu_ef h61]
        refine ⟨C2, rfl, Or.inr ⟨M2, P, i2, p2, e2, k2, v2, o2, q2, mn2, a1, a2, a3, a4, ⟨fun x hx => by have := a5.1 x hx; omega, fun _ => a5.2.1 (by decide), fun _ => a5.2.2.1 (by decide), fun _ q => ?_, fun q => by omega, fun q => by omega⟩, rfl⟩⟩
        rcases q with q | q
        · exact absurd q h60
        · exact absurd q h61
/-- one that opens: both sides -/
theorem opens_go {M9 : dk_S} (h : pR T z b t g0 h0 C M9 K [] e o d) (hl : la n T z t C i p e k v) (hs : opb s = 1) (hi : o + K.length + 1 ≤ e) (hn : 400 ≤ n) : (opn K = 5 → ∃ C2, F_Reader_opens n T C = some (0, C2) ∧ C2 106 0 = nI p ∧ F_Model_opensOne n s M9 = some (0, M9)) ∧ (opn K < 5 → ∃ C3 M2 p3 e3 k3 v3, F_Reader_opens n T C = some (1, C3) ∧ F_Model_opensOne n s M9 = some (1, M2) ∧ pR T z b t g0 h0 C3 M2 (s :: K) [] e o d ∧ la n T z t C3 e p3 e3 k3 v3) := by
  obtain ⟨o1, o2⟩ := e_open (n := n) (s := s) h hs hi
  have c3 : C 113 0 = nI (opn K) := h.2.2.1.2.2
  have a6 := h.1.2.2.2.2.2
  unfold F_Reader_opens B_Reader_opens_0
  constructor
  · intro h5
    obtain ⟨C2, f1, f2⟩ := e_fail (n := n) (T := T) h.2.2.1.1 (la_b hl)
    rw [c3, if_neg (show ¬ nI (opn K) < (5 : Int32) from nI_nlt (b := 5) (by omega) (by omega)), f1, pu_cv, pu_b0]
    exact ⟨C2, rfl, f2, o1 h5⟩
  · intro h5
    obtain ⟨M2, b1, b2, b3⟩ := o2 h5
    have cc : dk_fr [113] C (dk_U C 113 0 (nI (opn K + 1))) := fr_U (by decide)
    obtain ⟨C3, p3, e3, k3, v3, f1, f2, f3⟩ := e_scan (hl.cg cc (by decide)) hn
    rw [c3, if_pos (show nI (opn K) < (5 : Int32) from nI_lt (b := 5) h5 (by decide)), pu_p, nI_1, f1, pu_cv, pu_b1]
    exact ⟨C3, M2, p3, e3, k3, v3, rfl, b1, b2.cC f3 (by decide), f2⟩
/-- and its end -/
theorem un_put {i2 o2 : Nat} (h : pR T z b t g0 h0 C M (s :: K) P i2 o2 (d + 1)) (ho : iO c s) (hs : opb s = 1) (hd : dst c (d + 1) = some (d + 1)) : ∃ C2, F_Reader_put n T c C = some C2 ∧ pR T z b t g0 h0 (dk_U C2 113 0 (C2 113 0 - 1)) M K (P ++ [s]) i2 o2 (d + 1) ∧ dk_fr [14, 107, 113] C (dk_U C2 113 0 (C2 113 0 - 1)) := by
  obtain ⟨C2, e1, e2, e3, e4⟩ := put_op (n := n) h ho hd
  have e : C2 113 0 - 1 = nI (opn K) := by rw [e2, hs, show 1 + opn K = opn K + 1 by omega, nI_pred]
  refine ⟨C2, e1, by rw [e]; exact e3, (e4.up (by decide)).tr (fr_U (by decide))⟩
theorem dst1 {c : Int32} {d : Nat} (h1 : ¬ (-6 : Int32) ≤ c) (h2 : (-8 : Int32) ≤ c) : dst c (d + 1) = some (d + 1) := by
  unfold dst
  rw [if_neg h1, if_pos h2, if_neg (by omega)]
theorem lv2 (h2 : Sm n T z b t g0 h0 (G 2) 2 D) (h3 : Sm n T z b t g0 h0 (G 3) 3 D) (hn : 400 ≤ n) : Sm n T z b t g0 h0 (B_Reader_readNot_0 n T G) 2 (D + 1) := by
  intro K C M i p e k v o d q mn h hl hp hD hq
  have hz := h.1.1
  have hK : tr K < 4 := hp.2.2.1 (Or.inl rfl)
  have hmn : mn = 1 := hp.2.2.2.2.2.2.1 (by decide)
  subst hmn
  obtain ⟨y1, y2, y3, y4, y5⟩ := la_ord hl
  have hsz : o + 0 + K.length ≤ i := h.1.2.2.2.1
  unfold B_Reader_readNot_0
  rw [show F_Reader_sees n T 8 C = some (b2 (k = 8), C) from e_sees h.2.2.1.1 (la_c hl) (la_k hl) (by decide), pu_c]
  by_cases hk : k = 8
  · subst hk
    have hpe := y5 (by decide)
    rw [pu_t rfl]
    obtain ⟨M9, m1, m2, m3, m4, -⟩ := e_next h hl
    obtain ⟨Q, rfl⟩ : ∃ Q, q = Q + 1 := ⟨q - 1, by have := h.1.2.2.1; omega⟩
    have hb : B_Model_eRead_14 n (Q + 1) 1 1 M = (dk_c (F_Model_opensOne n (13 : Int32) M9) fun r24 S23 => if ¬ r24 = 0 then (B_Model_eRead_14 n Q 1 1 S23) else (dk_b (0 : Int32) (some ((0 : Int32), S23)))) := by
      show B_Model_eRead_14b n (fun x1 x2 S => B_Model_eRead_14 n Q x1 x2 S) 1 1 M = _
      unfold B_Model_eRead_14b
      rw [m1, pu_cv, if_neg (show ¬ (1 : Int32) = 0 by decide), m4, if_neg (show ¬ mtk 8 = 1 by decide), if_pos (show ¬ mtk 8 = 2 by decide), if_neg (show ¬ ¬ mtk 8 = 6 by decide), if_neg (show ¬ (1 : Int32) = 0 by decide)]
    obtain ⟨g1, g2⟩ := opens_go (s := 13) m2 hl (by decide) (by omega) hn
    rw [hb]
    have a6 := h.1.2.2.2.2.2
    by_cases h5 : opn K = 5
    · obtain ⟨C2, f1, f2, f3⟩ := g1 h5
      rw [f1, f3, pu_c, pu_c, if_pos rfl, if_neg (show ¬ ¬ (0 : Int32) = 0 by decide), pu_b0]
      exact ⟨C2, rfl, Or.inl ⟨p, by omega, f2, M9, rfl, m3, m2.2.2.2.2.2.1⟩⟩
    · obtain ⟨C3, M2, p3, e3, k3, v3, f1, f2, f3, f4⟩ := g2 (by omega)
      have hop : opn (13 :: K) = opn K + 1 := by show opb 13 + opn K = _; rw [show opb 13 = 1 by decide]; omega
      rw [f1, f2, pu_c, pu_c, if_neg (show ¬ (1 : Int32) = 0 by decide), if_pos (show ¬ (1 : Int32) = 0 by decide)]
      obtain ⟨C4, c1, c2⟩ := h2 (13 :: K) C3 M2 e p3 e3 k3 v3 o d Q 1 f3 f4 ⟨fun q => absurd q (by decide), fun q => absurd q (by decide), fun _ => by show rk 13 < 4; decide, fun q => absurd q (by decide), fun q => absurd q (by decide), fun q => absurd q (by decide), fun _ => rfl, fun q => absurd q (by decide)⟩ (by rw [hop]; omega) (by omega)
      rw [c1, pu_cv]
      rcases c2 with c2 | ⟨M4, P4, i4, p4, e4, k4, v4, o4, q4, mn4, w1, w2, w3, w4, w5, w6⟩
      · obtain ⟨f, hf, hf2⟩ := bad_lt c2 hz
        rw [f_put hf2 hf, pu_cv, pu_p]
        obtain ⟨f, z1, z2, z3⟩ := c2
        exact ⟨_, rfl, Or.inl ⟨f, z1, by rw [dk_U_n (by decide)]; exact z2, z3⟩⟩
      · obtain ⟨C5, x1, x2, x3⟩ := un_put (n := n) (c := -8) w1 iO13 (by decide) (dst1 (by decide) (by decide))
        rw [x1, pu_cv, pu_p, w6]
        refine ⟨_, rfl, Or.inr ⟨M4, _, i4, p4, e4, k4, v4, o4, q4, mn4, x2, w2.cg x3 (by decide), w3, by omega, ⟨fun x hx => ?_, fun _ => w5.2.1 (by decide), fun _ => w5.2.2.1 (by decide), fun _ q => cmpd_app P4 (w5.2.2.2.1 (by decide) q), fun q => by omega, fun q => by omega⟩, rfl⟩⟩
        rcases List.mem_append.mp hx with hx | hx
        · exact w5.1 x hx
        · rw [List.mem_singleton.mp hx]; decide
  · rw [pu_f hk]
    obtain ⟨C2, e1, e2⟩ := h3 K C M i p e k v o d q 1 h hl ⟨fun q => absurd q (by decide), fun q => absurd q (by decide), fun _ => hK, fun q => absurd q (by decide), fun q => absurd q (by decide), fun q => absurd q (by decide), fun q => absurd q (by decide), fun _ q => absurd q hk⟩ (by omega) hq
    rw [e1, pu_cv]
    refine ⟨C2, rfl, ?_⟩
    rcases e2 with e2 | ⟨M2, P, i2, p2, e2, k2, v2, o2, q2, mn2, a1, a2, a3, a4, a5, a6⟩
    · exact Or.inl e2
    · exact Or.inr ⟨M2, P, i2, p2, e2, k2, v2, o2, q2, mn2, a1, a2, a3, a4, ⟨fun x hx => by have := a5.1 x hx; omega, fun _ => a5.2.1 (by decide), fun _ => a5.2.2.1 (by decide), fun _ => a5.2.2.2.1 (by decide), fun q => by omega, fun q => by omega⟩, a6⟩
/-- behind a whole E, a token that isn't the one due -/
theorem e_end {q : Nat} {x2 : Int32} (h : pR T z b t g0 h0 C M K P i o d) (hl : la n T z t C i p e k v) (hP : okp 1 P k) (hK : tr K < 1) (hc : K = [] ∧ k ≠ 59 ∨ K ≠ [] ∧ k ≠ 41) (hn : 400 ≤ n) : fl T g0 (B_Model_eRead_14 n (q + 1) 0 x2 M) p := by
  by_cases h59 : k = 59
  · subst h59
    rcases hc with hc | hc
    · exact absurd rfl hc.2
    · exact (m_semi h hl hP.1 hK hn).2 hc.1
  · by_cases h41 : k = 41
    · subst h41
      rcases hc with hc | hc
      · exact (m_close h hl hP.1 hK hn).1 hc.1
      · exact absurd rfl hc.2
    · by_cases h60 : k = 60 ∨ k = 61
      · exact m_cmp h hl h60 (hP.2.2.2.1 (by decide) h60) hn
      · have h43 := hP.2.2.1 (by decide)
        exact m_bad h hl (sgo_n (hP.2.2.2.2.2 (by decide)) (hP.2.2.2.2.1 (by decide)) (fun q => h60 (Or.inl q)) (fun q => h60 (Or.inr q)) h43.1 h43.2 (hP.2.1 (by decide))) h59 h41
theorem fr_U2 {W : List Nat} {A B : dk_S} {k j : Nat} {x : Int32} (h : dk_fr W A B) : dk_fr W (dk_U A k j x) (dk_U B k j x) := by
  intro k2 hk
  by_cases q : k2 = k
  · subst q; rw [dk_U_s, dk_U_s, h k2 hk]
  · rw [dk_U_n q, dk_U_n q]; exact h k2 hk
theorem lv6 (h0' : Sm n T z b t g0 h0 (G 0) 0 D) (h6 : Sm6 n T z b t g0 h0 (G 6) D) (hn : 400 ≤ n) : Sm6 n T z b t g0 h0 (B_Reader_readOne_0 n T G) (D + 1) := by
  intro K C M i p e k v o d q mn h hl hp hD hq
  have hz := h.1.1
  have a6 := h.1.2.2.2.2.2
  obtain ⟨y1, y2, y3, y4, y5⟩ := la_ord hl
  have hsz : o + 0 + K.length ≤ i := h.1.2.2.2.1
  have hk := la_k hl
  obtain ⟨M9, m1, m2, m3, m4, m5, -⟩ := e_next h hl
  obtain ⟨Q, rfl⟩ : ∃ Q, q = Q + 1 := ⟨q - 1, by have := h.1.2.2.1; omega⟩
  -- a number or a name
  have val : ∀ (c s : Int32), C 111 0 = c → iO c s → (-6 : Int32) ≤ c → p < e → ∃ C2, B_Reader_readOne_16 n T G C = some C2 ∧ okU n T z b t g0 h0 C2 K i (d + 1) (dk_cv (F_Model_puts n s M9) fun S1 => dk_cv (F_Model_unwinds n (7 : Int32) S1) fun S3 => B_Model_eRead_14 n Q 0 mn S3) := by
    intro c s h1 h2 h3 h4
    obtain ⟨C2, M2, b1, b2, b3, b4, b5⟩ := put_num (n := n) m2 h2 h3 (by omega)
    obtain ⟨C3, p3, e3, k3, v3, f1, f2, f3⟩ := e_scan (hl.cg b4 (by decide)) hn
    unfold B_Reader_readOne_16
    rw [h1, b1, pu_cv, f1, pu_cv, b2, pu_cv]
    exact ⟨C3, rfl, M2, [], e, p3, e3, k3, v3, o + 1, Q, mn, b3.cC f3 (by decide), f2, by omega, by omega, fun x hx => absurd hx (List.not_mem_nil), rfl⟩
  have hb : B_Model_eRead_14 n (Q + 1) 1 mn M = (if (M9 42 0) = (1 : Int32) then (B_Model_eRead_38 n (fun x1 x2 S => B_Model_eRead_14 n Q x1 x2 S) mn M9) else (if ¬ (M9 42 0) = (2 : Int32) then (if ¬ (M9 42 0) = (6 : Int32) then (B_Model_eRead_99 n (fun x1 x2 S => B_Model_eRead_14 n Q x1 x2 S) 1 M9) else (if mn = 0 then (B_Model_eRead_99 n (fun x1 x2 S => B_Model_eRead_14 n Q x1 x2 S) 1 M9) else (dk_c (F_Model_opensOne n (13 : Int32) M9) fun r24 S23 => if ¬ r24 = 0 then (B_Model_eRead_14 n Q 1 mn S23) else (dk_b (0 : Int32) (some ((0 : Int32), S23)))))) else (B_Model_eRead_38 n (fun x1 x2 S => B_Model_eRead_14 n Q x1 x2 S) mn M9))) := by
    show B_Model_eRead_14b n (fun x1 x2 S => B_Model_eRead_14 n Q x1 x2 S) 1 mn M = _
    unfold B_Model_eRead_14b
    rw [m1, pu_cv, if_neg (show ¬ (1 : Int32) = 0 by decide)]
  unfold B_Reader_readOne_0
  rw [hb, m4, show F_Reader_sees n T 2 C = some (b2 (k = 2), C) from e_sees h.2.2.1.1 (la_c hl) hk (by decide), pu_c]
  by_cases k2 : k = 2
  · subst k2
    have hv := hl.2.2.2.2.2.2.2.2.1 rfl
    obtain ⟨C2, b1, b2⟩ := val (nI v) (nI (100000 + v)) (hl.2.1.2.2.2.1 rfl) (Or.inl ⟨v, hv, rfl, rfl⟩) (nI_p6 (by omega)) (y5 (by decide))
    rw [pu_t rfl, if_pos (show mtk 2 = 1 by decide)]
    unfold B_Model_eRead_38 B_Model_eRead_61
    rw [m4, if_neg (show ¬ ¬ mtk 2 = 1 by decide), m5 (Or.inl rfl), show (100000 : Int32) + nI v = nI (100000 + v) from nI_add 100000 v]
    exact ⟨C2, b1, Or.inr b2⟩
  rw [pu_f k2, show F_Reader_sees n T 3 C = some (b2 (k = 3), C) from e_sees h.2.2.1.1 (la_c hl) hk (by decide), pu_c]
  by_cases k3 : k = 3
  · subst k3
    have hv := hl.2.2.2.2.2.2.2.2.2 rfl
    have hc : (-6 : Int32) ≤ -(nI (v + 1)) := by
      rcases (show v = 0 ∨ v = 1 ∨ v = 2 ∨ v = 3 ∨ v = 4 ∨ v = 5 by omega) with rfl | rfl | rfl | rfl | rfl | rfl <;> decide
    obtain ⟨C2, b1, b2⟩ := val (-(nI (v + 1))) (nI v) (hl.2.1.2.2.2.2 rfl) (Or.inr (Or.inl ⟨v, hv, rfl, rfl⟩)) hc (y5 (by decide))
    rw [pu_et rfl, if_neg (show ¬ mtk 3 = 1 by decide), if_neg (show ¬ ¬ mtk 3 = 2 by decide)]
    unfold B_Model_eRead_38 B_Model_eRead_61
    rw [m4, if_pos (show ¬ mtk 3 = 1 by decide), m5 (Or.inr rfl)]
    exact ⟨C2, b1, Or.inr b2⟩
  rw [pu_ef k3, show F_Reader_sees n T 45 C = some (b2 (k = 45), C) from e_sees h.2.2.1.1 (la_c hl) hk (by decide), pu_c]
  by_cases k45 : k = 45
  · subst k45
    have hpe := y5 (by decide)
    rw [pu_et rfl, if_neg (show ¬ mtk 45 = 1 by decide), if_pos (show ¬ mtk 45 = 2 by decide), if_pos (show ¬ mtk 45 = 6 by decide)]
    unfold B_Model_eRead_99
    rw [m4, if_neg (show ¬ ¬ mtk 45 = 45 by decide)]
    obtain ⟨g1, g2⟩ := opens_go (s := 19) m2 hl (by decide) (by omega) hn
    by_cases h5 : opn K = 5
    · obtain ⟨C2, f1, f2, f3⟩ := g1 h5
      rw [f1, f3, pu_c, pu_c, if_pos rfl, if_neg (show ¬ ¬ (0 : Int32) = 0 by decide), pu_b0]
      exact ⟨C2, rfl, Or.inl ⟨p, by omega, f2, M9, rfl, m3, m2.2.2.2.2.2.1⟩⟩
    · obtain ⟨C3, M2, p3, e3, k3', v3, f1, f2, f3, f4⟩ := g2 (by omega)
      have hop : opn (19 :: K) = opn K + 1 := by show opb 19 + opn K = _; rw [show opb 19 = 1 by decide]; omega
      rw [f1, f2, pu_c, pu_c, if_neg (show ¬ (1 : Int32) = 0 by decide), if_pos (show ¬ (1 : Int32) = 0 by decide)]
      obtain ⟨C4, c1, c2⟩ := h6 (19 :: K) C3 M2 e p3 e3 k3' v3 o d Q 0 f3 f4 (fun _ => rfl) (by rw [hop]; omega) (by omega)
      rw [c1, pu_cv]
      rcases c2 with c2 | ⟨M4, P4, i4, p4, e4, k4, v4, o4, q4, mn4, w1, w2, w3, w4, w5, w6⟩
      · obtain ⟨f, hf, hf2⟩ := bad_lt c2 hz
        rw [f_put hf2 hf, pu_cv, pu_p]
        obtain ⟨f, z1, z2, z3⟩ := c2
        exact ⟨_, rfl, Or.inl ⟨f, z1, by rw [dk_U_n (by decide)]; exact z2, z3⟩⟩
      · obtain ⟨C5, x1, x2, x3⟩ := un_put (n := n) (c := -7) w1 iO19 (by decide) (dst1 (by decide) (by decide))
        rw [x1, pu_cv, pu_p]
        refine ⟨_, rfl, Or.inr ⟨M4, _, i4, p4, e4, k4, v4, o4, q4, mn4, x2, w2.cg x3 (by decide), w3, by omega, fun x hx => ?_, w6⟩⟩
        rcases List.mem_append.mp hx with hx | hx
        · exact w5 x hx
        · rw [List.mem_singleton.mp hx]; decide
  rw [pu_ef k45, show F_Reader_sees n T 40 C = some (b2 (k = 40), C) from e_sees h.2.2.1.1 (la_c hl) hk (by decide), pu_c]
  by_cases k40 : k = 40
  · subst k40
    have hpe := y5 (by decide)
    rw [pu_et rfl, if_neg (show ¬ mtk 40 = 1 by decide), if_pos (show ¬ mtk 40 = 2 by decide), if_pos (show ¬ mtk 40 = 6 by decide)]
    unfold B_Model_eRead_99
    rw [m4, if_pos (show ¬ mtk 40 = 45 by decide), if_neg (show ¬ ¬ mtk 40 = 40 by decide)]
    obtain ⟨g1, g2⟩ := opens_go (s := 0) m2 hl (by decide) (by omega) hn
    by_cases h5 : opn K = 5
    · obtain ⟨C2, f1, f2, f3⟩ := g1 h5
      rw [f1, f3, pu_c, pu_c, if_pos rfl, if_neg (show ¬ ¬ (0 : Int32) = 0 by decide), pu_b0]
      exact ⟨C2, rfl, Or.inl ⟨p, by omega, f2, M9, rfl, m3, m2.2.2.2.2.2.1⟩⟩
    · obtain ⟨C3, M2, p3, e3, k3', v3, f1, f2, f3, f4⟩ := g2 (by omega)
      have hop : opn (0 :: K) = opn K + 1 := by show opb 0 + opn K = _; rw [show opb 0 = 1 by decide]; omega
      rw [f1, f2, pu_c, pu_c, if_neg (show ¬ (1 : Int32) = 0 by decide), if_pos (show ¬ (1 : Int32) = 0 by decide)]
      obtain ⟨C4, c1, c2⟩ := h0' (0 :: K) C3 M2 e p3 e3 k3' v3 o d Q 1 f3 f4 ⟨fun _ => by show rk 0 < 1; decide, fun q => absurd q (by decide), fun q => by omega, fun q => absurd q (by decide), fun q => absurd q (by decide), fun q => absurd q (by decide), fun _ => rfl, fun q => absurd q (by decide)⟩ (by rw [hop]; omega) (by omega)
      rw [c1, pu_cv]
      rcases c2 with c2 | ⟨M4, P4, i4, p4, e4, k4, v4, o4, q4, mn4, w1, w2, w3, w4, w5, w6⟩
      · obtain ⟨f, hf, hf2⟩ := bad_lt c2 hz
        rw [f_expect hf2 hf, pu_cv, pu_p]
        obtain ⟨f, z1, z2, z3⟩ := c2
        exact ⟨_, rfl, Or.inl ⟨f, z1, by rw [dk_U_n (by decide)]; exact z2, z3⟩⟩
      · obtain ⟨x1, x2, x3, x4, x5⟩ := la_ord w2
        obtain ⟨Q4, rfl⟩ : ∃ Q, q4 = Q + 1 := ⟨q4 - 1, by have := w1.1.2.2.1; omega⟩
        have hK0 : tr (0 :: K) < 1 := by show rk 0 < 1; decide
        unfold F_Reader_expect B_Reader_expect_0
        have w6' : (fun x1 x2 S => B_Model_eRead_14 n Q x1 x2 S) 1 1 M2 = B_Model_eRead_14 n (Q4 + 1) 0 mn4 M4 := w6
        rw [show F_Reader_sees n T 41 C4 = some (b2 (k4 = 41), C4) from e_sees w1.2.2.1.1 (la_c w2) (la_k w2) (by decide), pu_c, w6']
        by_cases k41 : k4 = 41
        · subst k41
          have hpe4 := x5 (by decide)
          obtain ⟨C5, p5, e5, k5, v5, r1, r2, r3⟩ := e_scan w2 hn
          obtain ⟨M5, s1, s2⟩ := (m_close (q := Q4) (x2 := mn4) w1 w2 w5.1 hK0 hn).2 K rfl
          have e113 : C5 113 0 - 1 = nI (opn K) := by rw [r3 113 (by decide), w1.2.2.1.2.2, hop, nI_pred]
          rw [pu_et rfl, r1, pu_cv, pu_cv, pu_p, e113, s1]
          have cc : dk_fr [109, 110, 111, 112] (dk_U C4 113 0 (nI (opn K))) (dk_U C5 113 0 (nI (opn K))) := fr_U2 r3
          have c5 : dk_fr [113] C5 (dk_U C5 113 0 (nI (opn K))) := fr_U (by decide)
          exact ⟨_, rfl, Or.inr ⟨M5, [], e4, p5, e5, k5, v5, _, Q4, mn4, s2.cC cc (by decide), r2.cg c5 (by decide), by omega, by omega, fun x hx => absurd hx (List.not_mem_nil), rfl⟩⟩
        · obtain ⟨C5, r1, r2⟩ := e_fail (n := n) (T := T) w1.2.2.1.1 (la_b w2)
          rw [pu_ef k41, r1, pu_cv, pu_cv, pu_p]
          exact ⟨_, rfl, Or.inl ⟨p4, by omega, by rw [dk_U_n (by decide)]; exact r2, e_end w1 w2 w5 hK0 (Or.inr ⟨List.cons_ne_nil _ _, k41⟩) hn⟩⟩
  · obtain ⟨C2, f1, f2⟩ := e_fail (n := n) (T := T) h.2.2.1.1 (la_b hl)
    rw [pu_ef k40, f1, pu_cv]
    have no : B_Model_eRead_99 n (fun x1 x2 S => B_Model_eRead_14 n Q x1 x2 S) 1 M9 = some (0, M9) := by
      unfold B_Model_eRead_99
      have n45 : ¬ mtk k = 45 := by
        rcases hk with hk | rfl | rfl | rfl | rfl | rfl | rfl | rfl | rfl
        · rcases (show k = 0 ∨ k = 1 ∨ k = 2 ∨ k = 3 ∨ k = 4 ∨ k = 5 ∨ k = 6 ∨ k = 7 ∨ k = 8 by omega) with rfl | rfl | rfl | rfl | rfl | rfl | rfl | rfl | rfl <;> decide
        all_goals first | decide | exact absurd rfl k45
      have n40 : ¬ mtk k = 40 := by
        rcases hk with hk | rfl | rfl | rfl | rfl | rfl | rfl | rfl | rfl
        · rcases (show k = 0 ∨ k = 1 ∨ k = 2 ∨ k = 3 ∨ k = 4 ∨ k = 5 ∨ k = 6 ∨ k = 7 ∨ k = 8 by omega) with rfl | rfl | rfl | rfl | rfl | rfl | rfl | rfl | rfl <;> decide
        all_goals first | decide | exact absurd rfl k40
      rw [m4, if_pos n45, if_pos n40, pu_b0]
    have n1 : ¬ mtk k = 1 := by
      rcases hk with hk | rfl | rfl | rfl | rfl | rfl | rfl | rfl | rfl
      · rcases (show k = 0 ∨ k = 1 ∨ k = 2 ∨ k = 3 ∨ k = 4 ∨ k = 5 ∨ k = 6 ∨ k = 7 ∨ k = 8 by omega) with rfl | rfl | rfl | rfl | rfl | rfl | rfl | rfl | rfl <;> first | decide | exact absurd rfl k2
      all_goals decide
    have n2 : ¬ mtk k = 2 := by
      rcases hk with hk | rfl | rfl | rfl | rfl | rfl | rfl | rfl | rfl
      · rcases (show k = 0 ∨ k = 1 ∨ k = 2 ∨ k = 3 ∨ k = 4 ∨ k = 5 ∨ k = 6 ∨ k = 7 ∨ k = 8 by omega) with rfl | rfl | rfl | rfl | rfl | rfl | rfl | rfl | rfl <;> first | decide | exact absurd rfl k3
      all_goals decide
    refine ⟨C2, rfl, Or.inl ⟨p, by omega, f2, M9, ?_, m3, m2.2.2.2.2.2.1⟩⟩
    rw [if_neg n1, if_pos n2, no]
    by_cases k8 : k = 8
    · rw [if_neg (show ¬ ¬ mtk k = 6 by rw [k8]; decide), if_pos (hp k8)]
    · have n6 : ¬ mtk k = 6 := by
        rcases hk with hk | rfl | rfl | rfl | rfl | rfl | rfl | rfl | rfl
        · rcases (show k = 0 ∨ k = 1 ∨ k = 2 ∨ k = 3 ∨ k = 4 ∨ k = 5 ∨ k = 6 ∨ k = 7 ∨ k = 8 by omega) with rfl | rfl | rfl | rfl | rfl | rfl | rfl | rfl | rfl <;> first | decide | exact absurd rfl k8
        all_goals decide
      rw [if_pos n6]
theorem lvs (hn : 400 ≤ n) : ∀ D, (∀ l, l ≤ 5 → Sm n T z b t g0 h0 (G_Reader n T D l) l D) ∧ Sm6 n T z b t g0 h0 (G_Reader n T D 6) D
  | 0 => ⟨fun l hl K C M i p e k v o d q mn _ _ _ hD _ => by omega, fun K C M i p e k v o d q mn _ _ _ hD _ => by omega⟩
  | D + 1 => by
    obtain ⟨i1, i2⟩ := lvs hn D
    refine ⟨fun l hl => ?_, lv6 (i1 0 (by decide)) i2 hn⟩
    rcases (show l = 0 ∨ l = 1 ∨ l = 2 ∨ l = 3 ∨ l = 4 ∨ l = 5 by omega) with rfl | rfl | rfl | rfl | rfl | rfl
    · exact lv0 (i1 1 (by decide)) hn
    · exact lv1 (i1 2 (by decide)) hn
    · exact lv2 (i1 2 (by decide)) (i1 3 (by decide)) hn
    · exact lv3 (i1 4 (by decide)) hn
    · exact lv4 (i1 5 (by decide)) hn
    · exact lv5 (Sm_of6 i2 hn) hn
end L7
