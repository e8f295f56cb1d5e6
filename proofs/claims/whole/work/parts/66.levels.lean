/-! PURE: the class's levels against the reference's loop -/
def okp (r : Nat) (P : List Int32) (k : Nat) : Prop := (∀ s ∈ P, r ≤ rk s) ∧ (r ≤ 6 → k ≠ 42) ∧ (r ≤ 5 → k ≠ 43 ∧ k ≠ 45) ∧ (r ≤ 4 → k = 60 ∨ k = 61 → cmpd P) ∧ (r ≤ 2 → k ≠ 7) ∧ (r ≤ 1 → k ≠ 6)
def pre (l : Nat) (K : List Int32) (mn : Int32) (k : Nat) : Prop := (l = 0 → tr K < 1) ∧ (l = 1 → tr K < 2) ∧ (l = 2 ∨ l = 3 → tr K < 4) ∧ (l = 4 → tr K < 5) ∧ (l = 5 → tr K < 6) ∧ (l = 6 → tr K < 7) ∧ (l ≤ 2 → mn = 1) ∧ (3 ≤ l → k = 8 → mn = 0)
def bad (T z : Nat) (g0 : Nat → Int32) (C2 : dk_S) (res : Option (Int32 × dk_S)) : Prop := ∃ f, f ≤ z ∧ C2 106 0 = nI f ∧ fl T g0 res f
def okR (n T z b : Nat) (t : Nat → Nat) (g0 h0 : Nat → Int32) (C2 : dk_S) (K : List Int32) (i0 d r : Nat) (res : Option (Int32 × dk_S)) : Prop := ∃ (M2 : dk_S) (P : List Int32) (i2 p2 e2 k2 v2 o2 q2 : Nat) (mn2 : Int32), pR T z b t g0 h0 C2 M2 K P i2 o2 d ∧ la n T z t C2 i2 p2 e2 k2 v2 ∧ z < q2 + i2 ∧ i0 < i2 ∧ okp r P k2 ∧ res = B_Model_eRead_14 n q2 0 mn2 M2
def okU (n T z b : Nat) (t : Nat → Nat) (g0 h0 : Nat → Int32) (C2 : dk_S) (K : List Int32) (i0 d : Nat) (res : Option (Int32 × dk_S)) : Prop := ∃ (M2 : dk_S) (P : List Int32) (i2 p2 e2 k2 v2 o2 q2 : Nat) (mn2 : Int32), pR T z b t g0 h0 C2 M2 K P i2 o2 d ∧ la n T z t C2 i2 p2 e2 k2 v2 ∧ z < q2 + i2 ∧ i0 < i2 ∧ (∀ s ∈ P, 7 ≤ rk s) ∧ res = dk_cv (F_Model_unwinds n 7 M2) fun S => B_Model_eRead_14 n q2 0 mn2 S
/-- level l of the class does as the reference does from an operand's place on -/
def Sm (n T z b : Nat) (t : Nat → Nat) (g0 h0 : Nat → Int32) (F : dk_S → Option dk_S) (l D : Nat) : Prop := ∀ (K : List Int32) (C M : dk_S) (i p e k v o d q : Nat) (mn : Int32), pR T z b t g0 h0 C M K [] i o d → la n T z t C i p e k v → pre l K mn k → 7 * (5 - opn K) + (7 - l) ≤ D → z < q + i → ∃ C2, F C = some C2 ∧ (bad T z g0 C2 (B_Model_eRead_14 n q 1 mn M) ∨ okR n T z b t g0 h0 C2 K i (d + 1) (l + 1) (B_Model_eRead_14 n q 1 mn M))
def Sm6 (n T z b : Nat) (t : Nat → Nat) (g0 h0 : Nat → Int32) (F : dk_S → Option dk_S) (D : Nat) : Prop := ∀ (K : List Int32) (C M : dk_S) (i p e k v o d q : Nat) (mn : Int32), pR T z b t g0 h0 C M K [] i o d → la n T z t C i p e k v → (k = 8 → mn = 0) → 7 * (5 - opn K) + 1 ≤ D → z < q + i → ∃ C2, F C = some C2 ∧ (bad T z g0 C2 (B_Model_eRead_14 n q 1 mn M) ∨ okU n T z b t g0 h0 C2 K i (d + 1) (B_Model_eRead_14 n q 1 mn M))
theorem iO13 : iO (-8) 13 := Or.inr (Or.inr (Or.inl ⟨rfl, rfl⟩))
theorem iO19 : iO (-7) 19 := Or.inr (Or.inr (Or.inr (Or.inl ⟨rfl, rfl⟩)))
theorem iO11 : iO (-15) 11 := Or.inr (Or.inr (Or.inr (Or.inr (Or.inl ⟨rfl, rfl⟩))))
theorem iO12 : iO (-14) 12 := Or.inr (Or.inr (Or.inr (Or.inr (Or.inr (Or.inl ⟨rfl, rfl⟩)))))
theorem iO14 : iO (-12) 14 := Or.inr (Or.inr (Or.inr (Or.inr (Or.inr (Or.inr (Or.inl ⟨rfl, rfl⟩))))))
theorem iO15 : iO (-13) 15 := Or.inr (Or.inr (Or.inr (Or.inr (Or.inr (Or.inr (Or.inr (Or.inl ⟨rfl, rfl⟩)))))))
theorem iO16 : iO (-10) 16 := Or.inr (Or.inr (Or.inr (Or.inr (Or.inr (Or.inr (Or.inr (Or.inr (Or.inl ⟨rfl, rfl⟩))))))))
theorem iO17 : iO (-11) 17 := Or.inr (Or.inr (Or.inr (Or.inr (Or.inr (Or.inr (Or.inr (Or.inr (Or.inr (Or.inl ⟨rfl, rfl⟩)))))))))
theorem iO18 : iO (-9) 18 := Or.inr (Or.inr (Or.inr (Or.inr (Or.inr (Or.inr (Or.inr (Or.inr (Or.inr (Or.inr ⟨rfl, rfl⟩)))))))))
theorem dst2 {c : Int32} {d : Nat} (h1 : ¬ (-6 : Int32) ≤ c) (h2 : ¬ (-8 : Int32) ≤ c) : dst c (d + 2) = some (d + 1) := by
  unfold dst
  rw [if_neg h1, if_neg h2, if_neg (by omega)]
  rfl
section LS
variable {n T z b i o d p e k v D l : Nat} {t : Nat → Nat} {g0 h0 : Nat → Int32} {C C2 M M2 : dk_S} {K P : List Int32} {s c : Int32} {F : dk_S → Option dk_S} {G : Nat → dk_S → Option dk_S}
theorem Sm_of6 (h6 : Sm6 n T z b t g0 h0 F D) (hn : 400 ≤ n) : Sm n T z b t g0 h0 F 6 D := by
  intro K C M i p e k v o d q mn h hl hp hD hq
  obtain ⟨C2, e1, e2⟩ := h6 K C M i p e k v o d q mn h hl (hp.2.2.2.2.2.2.2 (by decide)) hD hq
  refine ⟨C2, e1, ?_⟩
  rcases e2 with e2 | ⟨M2, P, i2, p2, e2, k2, v2, o2, q2, mn2, a1, a2, a3, a4, a5, a6⟩
  · exact Or.inl e2
  · obtain ⟨M3, f1, f2, f3⟩ := e_unw (n := n) a1 (hp.2.2.2.2.2.1 rfl) (by decide) (by decide) a5 hn
    have f1' : F_Model_unwinds n 7 M2 = some M3 := f1
    refine Or.inr ⟨M3, [], i2, p2, e2, k2, v2, _, q2, mn2, f2, a2, a3, a4, ⟨fun x hx => absurd hx (List.not_mem_nil), fun q => by omega, fun q => by omega, fun q => by omega, fun q => by omega, fun q => by omega⟩, ?_⟩
    rw [a6, f1', pu_cv]
/-! a class that has failed does nothing more -/
theorem f_sees {f : Nat} {x : Int32} (h : C 106 0 = nI f) (hf : f < 2 ^ 31) : F_Reader_sees n T x C = some (0, C) := by
  unfold F_Reader_sees B_Reader_sees_0
  rw [h, if_pos (nI_pos' hf), pu_b0]
theorem f_put {f : Nat} {x : Int32} (h : C 106 0 = nI f) (hf : f < 2 ^ 31) : F_Reader_put n T x C = some C := by
  unfold F_Reader_put B_Reader_put_0
  rw [h, if_pos (nI_pos' hf)]
theorem f_fail {f : Nat} (h : C 106 0 = nI f) (hf : f < 2 ^ 31) : F_Reader_fail n T C = some C := by
  unfold F_Reader_fail B_Reader_fail_0
  rw [h, if_pos (nI_pos' hf)]
theorem f_expect {f : Nat} {x : Int32} (h : C 106 0 = nI f) (hf : f < 2 ^ 31) : F_Reader_expect n T x C = some C := by
  unfold F_Reader_expect B_Reader_expect_0
  rw [f_sees h hf, pu_c, if_pos rfl, f_fail h hf, pu_cv]
/-! one that hasn't -/
theorem e_sees {x : Nat} (h : C 106 0 = -1) (hk : C 109 0 = nI k) (h1 : kOK k) (h2 : x < 2 ^ 31) : F_Reader_sees n T (nI x) C = some (b2 (k = x), C) := by
  have hk2 : k < 2 ^ 31 := by unfold kOK at h1; omega
  unfold F_Reader_sees B_Reader_sees_0
  rw [h, if_neg (by decide), hk, pu_b0, pu_b1]
  by_cases q : k = x
  · rw [if_neg (show ¬ ¬ nI k = nI x from fun w => w (by rw [q])), b2_t q]
  · rw [if_pos (show ¬ nI k = nI x from fun w => q ((nI_eq hk2 h2).mp w)), b2_f q]
theorem e_fail (h : C 106 0 = -1) (hp : C 110 0 = nI p) : ∃ C2, F_Reader_fail n T C = some C2 ∧ C2 106 0 = nI p := by
  unfold F_Reader_fail B_Reader_fail_0
  rw [h, if_neg (by decide), hp, pu_p]
  exact ⟨_, rfl, pu_Us⟩
theorem la_k (h : la n T z t C i p e k v) : kOK k := h.2.2.2.2.2.2.2.1
theorem la_c (h : la n T z t C i p e k v) : C 109 0 = nI k := h.2.1.2.2.1
theorem la_b (h : la n T z t C i p e k v) : C 110 0 = nI p := h.2.1.2.1
theorem la_ord (h : la n T z t C i p e k v) : i ≤ p ∧ p ≤ e ∧ e ≤ z ∧ (k = 0 → p = z) ∧ (k ≠ 0 → p < e) := ⟨h.2.2.1, h.2.2.2.1, h.2.2.2.2.1, h.2.2.2.2.2.1, h.2.2.2.2.2.2.1⟩
/-- behind a sign between: the level under it, and the operation that the class puts then -/
theorem op_go {qm u : Nat} {mn : Int32} (hG : Sm n T z b t g0 h0 F l D) (h : pR T z b t g0 h0 C M K P i o (d + 1)) (hl : la n T z t C i p e k v) (hs : ¬ sgo k = -1) (hu : u = if rk (sgo k) = 4 then 5 else rk (sgo k)) (hP : ∀ x ∈ P, u ≤ rk x) (hK : tr K < u) (h4 : rk (sgo k) = 4 → tr K < 4) (hpre : ∀ k', pre l (sgo k :: K) (if (12 : Int32) < sgo k then 0 else 1) k') (hD : 7 * (5 - opn K) + (7 - l) ≤ D) (hq : z < qm + i) (ho : iO c (sgo k)) (hd : dst c (d + 2) = some (d + 1)) (hn : 400 ≤ n) : ∃ C3 C4, F_Reader_scan n T C = some C3 ∧ F C3 = some C4 ∧ (bad T z g0 C4 (B_Model_eRead_14 n qm 0 mn M) ∨ ∃ (C5 M5 : dk_S) (P5 : List Int32) (i2 p2 e2 k2 v2 o2 q2 : Nat) (mn2 : Int32), F_Reader_put n T c C4 = some C5 ∧ pR T z b t g0 h0 C5 M5 K (P5 ++ [sgo k]) i2 o2 (d + 1) ∧ la n T z t C5 i2 p2 e2 k2 v2 ∧ z < q2 + i2 ∧ i < i2 ∧ okp (l + 1) P5 k2 ∧ B_Model_eRead_14 n qm 0 mn M = B_Model_eRead_14 n q2 0 mn2 M5) := by
  have h9 := sgo_k hs
  have hopb : opb (sgo k) = 0 := by rcases h9 with rfl | rfl | rfl | rfl | rfl | rfl | rfl <;> decide
  have hop : opn (sgo k :: K) = opn K := by show opb (sgo k) + opn K = _; omega
  have hiz := h.1.2.2.1
  obtain ⟨y1, y2, y3, y4, y5⟩ := la_ord hl
  obtain ⟨Q, rfl⟩ : ∃ Q, qm = Q + 1 := ⟨qm - 1, by omega⟩
  obtain ⟨M2, a1, a2⟩ := m_op (q := Q) (x2 := mn) h hl hs hu hP hK h4 hn
  obtain ⟨C3, p3, e3, k3, v3, b1, b2, b3⟩ := e_scan hl hn
  have a3 := a2.cC b3 (by decide)
  have := y5 (by omega)
  obtain ⟨C4, c1, c2⟩ := hG (sgo k :: K) C3 M2 e p3 e3 k3 v3 _ _ Q _ a3 b2 (hpre k3) (by rw [hop]; exact hD) (by omega)
  refine ⟨C3, C4, b1, c1, ?_⟩
  rw [a1]
  rcases c2 with c2 | ⟨M4, P4, i4, p4, e4, k4, v4, o4, q4, mn4, w1, w2, w3, w4, w5, w6⟩
  · exact Or.inl c2
  · obtain ⟨C5, f1, f2, f3⟩ := put_bin (n := n) w1 ho hd hopb
    exact Or.inr ⟨C5, M4, P4, i4, p4, e4, k4, v4, o4, q4, mn4, f1, f2, w2.cg f3 (by decide), w3, by omega, w5, w6⟩
/-- at the loop's last turn nothing is left to read -/
theorem la_end (h : la n T z t C i p e k v) (hz : z ≤ 160) (hi : 160 ≤ i) : k = 0 := by
  obtain ⟨y1, y2, y3, y4, y5⟩ := la_ord h
  by_cases q : k = 0
  · exact q
  · have := y5 q; omega
theorem bad_lt {res : Option (Int32 × dk_S)} (h : bad T z g0 C2 res) (hz : z ≤ 160) : ∃ f, f < 2 ^ 31 ∧ C2 106 0 = nI f := by
  obtain ⟨f, h1, h2, -⟩ := h
  exact ⟨f, by omega, h2⟩
/-! readTerm -/
theorem f_lpT {f q : Nat} {x1 : Int32} (hf : C 106 0 = nI f) (hf2 : f < 2 ^ 31) (hq : 0 < q) : B_Reader_readTerm_6 n T G q x1 C = some C := by
  obtain ⟨q, rfl⟩ : ∃ x, q = x + 1 := ⟨q - 1, by omega⟩
  show B_Reader_readTerm_6b n T G (fun x1 S => B_Reader_readTerm_6 n T G q x1 S) x1 C = _
  unfold B_Reader_readTerm_6b
  by_cases h : (160 : Int32) ≤ x1
  · rw [if_pos h]
  · rw [if_neg h, f_sees hf hf2, pu_c, if_pos rfl]
theorem lpT (hG : Sm n T z b t g0 h0 (G 6) 6 D) (hK : tr K < 6) (hD : 7 * (5 - opn K) + 1 ≤ D) (hz : z ≤ 160) (hn : 400 ≤ n) : ∀ (w c0 q i0 : Nat) (C M : dk_S) (P : List Int32) (i p e k v o qm : Nat) (mn : Int32), c0 + w = 160 → w < q → c0 ≤ i → i0 < i → pR T z b t g0 h0 C M K P i o (d + 1) → la n T z t C i p e k v → (∀ s ∈ P, 6 ≤ rk s) → (True) → z < qm + i → ∃ C2, B_Reader_readTerm_6 n T G q (nI c0) C = some C2 ∧ (bad T z g0 C2 (B_Model_eRead_14 n qm 0 mn M) ∨ okR n T z b t g0 h0 C2 K i0 (d + 1) 6 (B_Model_eRead_14 n qm 0 mn M))
  | w, c0, 0, _, _, _, _, _, _, _, _, _, _, _, _, _, hq, _, _, _, _, _, _, _ => absurd hq (Nat.not_lt_zero _)
  | w, c0, q + 1, i0, C, M, P, i, p, e, k, v, o, qm, mn, hc, hq, hci, hi0, h, hl, hP, h0k, hqm => by
    unfold B_Reader_readTerm_6 B_Reader_readTerm_6b
    have out : k ≠ 42 → okR n T z b t g0 h0 C K i0 (d + 1) 6 (B_Model_eRead_14 n qm 0 mn M) := fun hk => ⟨M, P, i, p, e, k, v, o, qm, mn, h, hl, hqm, hi0, ⟨hP, fun _ => hk, fun q => by omega, fun q => by omega, fun q => by omega, fun q => by omega⟩, rfl⟩
    cases w with
    | zero =>
      rw [if_pos (show (160 : Int32) ≤ nI c0 from nI_le (a := 160) (by omega) (by omega))]
      exact ⟨C, rfl, Or.inr (out (by rw [la_end hl hz (by omega)]; decide))⟩
    | succ w =>
      rw [if_neg (show ¬ (160 : Int32) ≤ nI c0 from nI_ge (b := 160) (by omega) (by decide)), show (42 : Int32) = nI 42 from rfl, e_sees h.2.2.1.1 (la_c hl) (la_k hl) (by decide), pu_c]
      by_cases hk : k = 42
      · rw [pu_et hk]
        subst hk
        obtain ⟨C3, C4, a1, a2, a3⟩ := op_go (u := 6) (c := -9) (mn := mn) (qm := qm) hG h hl (by decide) (by decide) hP hK (fun q => absurd q (by decide)) (fun k' => ⟨fun q => absurd q (by decide), fun q => absurd q (by decide), fun q => by omega, fun q => absurd q (by decide), fun q => absurd q (by decide), fun _ => by show rk (sgo 42) < 7; decide, fun q => absurd q (by decide), fun _ _ => by decide⟩) hD hqm (show iO (-9) 18 from iO18) (dst2 (by decide) (by decide)) hn
        rw [a1, pu_cv, a2, pu_cv]
        rcases a3 with a3 | ⟨C5, M5, P5, i2, p2, e2, k2, v2, o2, q2, mn2, f1, f2, f3, f4, f5, f6, f7⟩
        · obtain ⟨f, hf, hf2⟩ := bad_lt a3 hz
          rw [f_put hf2 hf, pu_cv]
          exact ⟨C4, f_lpT hf2 hf (by omega), Or.inl a3⟩
        · rw [f1, pu_cv, nI_1, f7]
          exact lpT hG hK hD hz hn w (c0 + 1) q i0 C5 M5 _ i2 p2 e2 k2 v2 o2 q2 mn2 (by omega) (by omega) (by omega) (by omega) f2 f3 (fun x hx => by
            rcases List.mem_append.mp hx with hx | hx
            · have := f6.1 x hx; omega
            · rw [List.mem_singleton.mp hx]; decide) (trivial) f4
      · rw [pu_ef hk]
        exact ⟨C, rfl, Or.inr (out hk)⟩
theorem lv5 (hG : Sm n T z b t g0 h0 (G 6) 6 D) (hn : 400 ≤ n) : Sm n T z b t g0 h0 (B_Reader_readTerm_0 n T G) 5 (D + 1) := by
  intro K C M i p e k v o d q mn h hl hp hD hq
  have hz := h.1.1
  have hK : tr K < 6 := hp.2.2.2.2.1 rfl
  obtain ⟨C2, e1, e2⟩ := hG K C M i p e k v o d q mn h hl ⟨fun q => absurd q (by decide), fun q => absurd q (by decide), fun q => by omega, fun q => absurd q (by decide), fun q => absurd q (by decide), fun _ => by omega, fun q => absurd q (by decide), fun _ hk => hp.2.2.2.2.2.2.2 (by decide) hk⟩ (by omega) hq
  unfold B_Reader_readTerm_0
  rw [e1, pu_cv]
  rcases e2 with e2 | ⟨M2, P, i2, p2, e2, k2, v2, o2, q2, mn2, a1, a2, a3, a4, a5, a6⟩
  · obtain ⟨f, hf, hf2⟩ := bad_lt e2 hz
    exact ⟨C2, f_lpT hf2 hf (by omega), Or.inl e2⟩
  · rw [a6]
    exact lpT hG hK (by omega) hz hn 160 0 n i C2 M2 P i2 p2 e2 k2 v2 o2 q2 mn2 (by omega) (by omega) (by omega) a4 a1 a2 (fun x hx => by have := a5.1 x hx; omega) (trivial) a3
/-! readSum -/
theorem f_lpS {f q : Nat} {x1 : Int32} (hf : C 106 0 = nI f) (hf2 : f < 2 ^ 31) (hq : 0 < q) : B_Reader_readSum_6 n T G q x1 C = some C := by
  obtain ⟨q, rfl⟩ : ∃ x, q = x + 1 := ⟨q - 1, by omega⟩
  show B_Reader_readSum_6b n T G (fun x1 S => B_Reader_readSum_6 n T G q x1 S) x1 C = _
  unfold B_Reader_readSum_6b
  by_cases h : (160 : Int32) ≤ x1
  · rw [if_pos h]
  · rw [if_neg h, f_sees hf hf2, pu_c, if_neg (show ¬ ¬ (0 : Int32) = 0 by decide), f_sees hf hf2, pu_c, if_pos rfl]
theorem lpS (hG : Sm n T z b t g0 h0 (G 5) 5 D) (hK : tr K < 5) (hD : 7 * (5 - opn K) + 2 ≤ D) (hz : z ≤ 160) (hn : 400 ≤ n) : ∀ (w c0 q i0 : Nat) (C M : dk_S) (P : List Int32) (i p e k v o qm : Nat) (mn : Int32), c0 + w = 160 → w < q → c0 ≤ i → i0 < i → pR T z b t g0 h0 C M K P i o (d + 1) → la n T z t C i p e k v → (∀ s ∈ P, 5 ≤ rk s) → (k ≠ 42) → z < qm + i → ∃ C2, B_Reader_readSum_6 n T G q (nI c0) C = some C2 ∧ (bad T z g0 C2 (B_Model_eRead_14 n qm 0 mn M) ∨ okR n T z b t g0 h0 C2 K i0 (d + 1) 5 (B_Model_eRead_14 n qm 0 mn M))
  | w, c0, 0, _, _, _, _, _, _, _, _, _, _, _, _, _, hq, _, _, _, _, _, _, _ => absurd hq (Nat.not_lt_zero _)
  | w, c0, q + 1, i0, C, M, P, i, p, e, k, v, o, qm, mn, hc, hq, hci, hi0, h, hl, hP, h0k, hqm => by
    unfold B_Reader_readSum_6 B_Reader_readSum_6b
    have out : k ≠ 43 ∧ k ≠ 45 → okR n T z b t g0 h0 C K i0 (d + 1) 5 (B_Model_eRead_14 n qm 0 mn M) := fun hk => ⟨M, P, i, p, e, k, v, o, qm, mn, h, hl, hqm, hi0, ⟨hP, fun _ => h0k, fun _ => hk, fun q => by omega, fun q => by omega, fun q => by omega⟩, rfl⟩
    cases w with
    | zero =>
      rw [if_pos (show (160 : Int32) ≤ nI c0 from nI_le (a := 160) (by omega) (by omega))]
      exact ⟨C, rfl, Or.inr (out (by rw [la_end hl hz (by omega)]; decide))⟩
    | succ w =>
      rw [if_neg (show ¬ (160 : Int32) ≤ nI c0 from nI_ge (b := 160) (by omega) (by decide)), show (43 : Int32) = nI 43 from rfl, e_sees h.2.2.1.1 (la_c hl) (la_k hl) (by decide), pu_c]
      unfold B_Reader_readSum_31 B_Reader_readSum_47
      by_cases hk : k = 43
      · rw [pu_t hk, la_c hl, hk, if_neg (show ¬ ¬ nI 43 = (43 : Int32) by decide)]
        subst hk
        obtain ⟨C3, C4, a1, a2, a3⟩ := op_go (u := 5) (c := -10) (mn := mn) (qm := qm) hG h hl (by decide) (by decide) hP hK (fun q => absurd q (by decide)) (fun k' => ⟨fun q => absurd q (by decide), fun q => absurd q (by decide), fun q => by omega, fun q => absurd q (by decide), fun _ => by show rk (sgo 43) < 6; decide, fun q => absurd q (by decide), fun q => absurd q (by decide), fun _ _ => by decide⟩) hD hqm (show iO (-10) 16 from iO16) (dst2 (by decide) (by decide)) hn
        rw [a1, pu_cv, a2, pu_cv]
        rcases a3 with a3 | ⟨C5, M5, P5, i2, p2, e2, k2, v2, o2, q2, mn2, f1, f2, f3, f4, f5, f6, f7⟩
        · obtain ⟨f, hf, hf2⟩ := bad_lt a3 hz
          rw [f_put hf2 hf, pu_cv]
          exact ⟨C4, f_lpS hf2 hf (by omega), Or.inl a3⟩
        · rw [f1, pu_cv, nI_1, f7]
          exact lpS hG hK hD hz hn w (c0 + 1) q i0 C5 M5 _ i2 p2 e2 k2 v2 o2 q2 mn2 (by omega) (by omega) (by omega) (by omega) f2 f3 (fun x hx => by
            rcases List.mem_append.mp hx with hx | hx
            · have := f6.1 x hx; omega
            · rw [List.mem_singleton.mp hx]; decide) (f6.2.1 (by decide)) f4
      · rw [pu_f hk, show (45 : Int32) = nI 45 from rfl, e_sees h.2.2.1.1 (la_c hl) (la_k hl) (by decide), pu_c]
        have hk43 := hk
        by_cases hk : k = 45
        · rw [pu_et hk, la_c hl, hk, if_pos (show ¬ nI 45 = (43 : Int32) by decide)]
          subst hk
          obtain ⟨C3, C4, a1, a2, a3⟩ := op_go (u := 5) (c := -11) (mn := mn) (qm := qm) hG h hl (by decide) (by decide) hP hK (fun q => absurd q (by decide)) (fun k' => ⟨fun q => absurd q (by decide), fun q => absurd q (by decide), fun q => by omega, fun q => absurd q (by decide), fun _ => by show rk (sgo 45) < 6; decide, fun q => absurd q (by decide), fun q => absurd q (by decide), fun _ _ => by decide⟩) hD hqm (show iO (-11) 17 from iO17) (dst2 (by decide) (by decide)) hn
          rw [a1, pu_cv, a2, pu_cv]
          rcases a3 with a3 | ⟨C5, M5, P5, i2, p2, e2, k2, v2, o2, q2, mn2, f1, f2, f3, f4, f5, f6, f7⟩
          · obtain ⟨f, hf, hf2⟩ := bad_lt a3 hz
            rw [f_put hf2 hf, pu_cv]
            exact ⟨C4, f_lpS hf2 hf (by omega), Or.inl a3⟩
          · rw [f1, pu_cv, nI_1, f7]
            exact lpS hG hK hD hz hn w (c0 + 1) q i0 C5 M5 _ i2 p2 e2 k2 v2 o2 q2 mn2 (by omega) (by omega) (by omega) (by omega) f2 f3 (fun x hx => by
              rcases List.mem_append.mp hx with hx | hx
              · have := f6.1 x hx; omega
              · rw [List.mem_singleton.mp hx]; decide) (f6.2.1 (by decide)) f4
        · rw [pu_ef hk]
          exact ⟨C, rfl, Or.inr (out ⟨hk43, hk⟩)⟩
theorem lv4 (hG : Sm n T z b t g0 h0 (G 5) 5 D) (hn : 400 ≤ n) : Sm n T z b t g0 h0 (B_Reader_readSum_0 n T G) 4 (D + 1) := by
  intro K C M i p e k v o d q mn h hl hp hD hq
  have hz := h.1.1
  have hK : tr K < 5 := hp.2.2.2.1 rfl
  obtain ⟨C2, e1, e2⟩ := hG K C M i p e k v o d q mn h hl ⟨fun q => absurd q (by decide), fun q => absurd q (by decide), fun q => by omega, fun q => absurd q (by decide), fun _ => by omega, fun q => absurd q (by decide), fun q => absurd q (by decide), fun _ hk => hp.2.2.2.2.2.2.2 (by decide) hk⟩ (by omega) hq
  unfold B_Reader_readSum_0
  rw [e1, pu_cv]
  rcases e2 with e2 | ⟨M2, P, i2, p2, e2, k2, v2, o2, q2, mn2, a1, a2, a3, a4, a5, a6⟩
  · obtain ⟨f, hf, hf2⟩ := bad_lt e2 hz
    exact ⟨C2, f_lpS hf2 hf (by omega), Or.inl e2⟩
  · rw [a6]
    exact lpS hG hK (by omega) hz hn 160 0 n i C2 M2 P i2 p2 e2 k2 v2 o2 q2 mn2 (by omega) (by omega) (by omega) a4 a1 a2 (fun x hx => by have := a5.1 x hx; omega) (a5.2.1 (by decide)) a3
/-! readBoth -/
theorem f_lpB {f q : Nat} {x1 : Int32} (hf : C 106 0 = nI f) (hf2 : f < 2 ^ 31) (hq : 0 < q) : B_Reader_readBoth_6 n T G q x1 C = some C := by
  obtain ⟨q, rfl⟩ : ∃ x, q = x + 1 := ⟨q - 1, by omega⟩
  show B_Reader_readBoth_6b n T G (fun x1 S => B_Reader_readBoth_6 n T G q x1 S) x1 C = _
  unfold B_Reader_readBoth_6b
  by_cases h : (160 : Int32) ≤ x1
  · rw [if_pos h]
  · rw [if_neg h, f_sees hf hf2, pu_c, if_pos rfl]
theorem lpB (hG : Sm n T z b t g0 h0 (G 2) 2 D) (hK : tr K < 2) (hD : 7 * (5 - opn K) + 5 ≤ D) (hz : z ≤ 160) (hn : 400 ≤ n) : ∀ (w c0 q i0 : Nat) (C M : dk_S) (P : List Int32) (i p e k v o qm : Nat) (mn : Int32), c0 + w = 160 → w < q → c0 ≤ i → i0 < i → pR T z b t g0 h0 C M K P i o (d + 1) → la n T z t C i p e k v → (∀ s ∈ P, 2 ≤ rk s) → ((k ≠ 42 ∧ k ≠ 43 ∧ k ≠ 45) ∧ (k = 60 ∨ k = 61 → cmpd P)) → z < qm + i → ∃ C2, B_Reader_readBoth_6 n T G q (nI c0) C = some C2 ∧ (bad T z g0 C2 (B_Model_eRead_14 n qm 0 mn M) ∨ okR n T z b t g0 h0 C2 K i0 (d + 1) 2 (B_Model_eRead_14 n qm 0 mn M))
  | w, c0, 0, _, _, _, _, _, _, _, _, _, _, _, _, _, hq, _, _, _, _, _, _, _ => absurd hq (Nat.not_lt_zero _)
  | w, c0, q + 1, i0, C, M, P, i, p, e, k, v, o, qm, mn, hc, hq, hci, hi0, h, hl, hP, h0k, hqm => by
    unfold B_Reader_readBoth_6 B_Reader_readBoth_6b
    have out : k ≠ 7 → okR n T z b t g0 h0 C K i0 (d + 1) 2 (B_Model_eRead_14 n qm 0 mn M) := fun hk => ⟨M, P, i, p, e, k, v, o, qm, mn, h, hl, hqm, hi0, ⟨hP, fun _ => h0k.1.1, fun _ => h0k.1.2, fun _ => h0k.2, fun _ => hk, fun q => by omega⟩, rfl⟩
    cases w with
    | zero =>
      rw [if_pos (show (160 : Int32) ≤ nI c0 from nI_le (a := 160) (by omega) (by omega))]
      exact ⟨C, rfl, Or.inr (out (by rw [la_end hl hz (by omega)]; decide))⟩
    | succ w =>
      rw [if_neg (show ¬ (160 : Int32) ≤ nI c0 from nI_ge (b := 160) (by omega) (by decide)), show (7 : Int32) = nI 7 from rfl, e_sees h.2.2.1.1 (la_c hl) (la_k hl) (by decide), pu_c]
      by_cases hk : k = 7
      · rw [pu_et hk]
        subst hk
        obtain ⟨C3, C4, a1, a2, a3⟩ := op_go (u := 2) (c := -14) (mn := mn) (qm := qm) hG h hl (by decide) (by decide) hP hK (fun q => absurd q (by decide)) (fun k' => ⟨fun q => absurd q (by decide), fun q => absurd q (by decide), fun _ => by show rk (sgo 7) < 4; decide, fun q => absurd q (by decide), fun q => absurd q (by decide), fun q => absurd q (by decide), fun _ => by decide, fun q => absurd q (by decide)⟩) hD hqm (show iO (-14) 12 from iO12) (dst2 (by decide) (by decide)) hn
        rw [a1, pu_cv, a2, pu_cv]
        rcases a3 with a3 | ⟨C5, M5, P5, i2, p2, e2, k2, v2, o2, q2, mn2, f1, f2, f3, f4, f5, f6, f7⟩
        · obtain ⟨f, hf, hf2⟩ := bad_lt a3 hz
          rw [f_put hf2 hf, pu_cv]
          exact ⟨C4, f_lpB hf2 hf (by omega), Or.inl a3⟩
        · rw [f1, pu_cv, nI_1, f7]
          exact lpB hG hK hD hz hn w (c0 + 1) q i0 C5 M5 _ i2 p2 e2 k2 v2 o2 q2 mn2 (by omega) (by omega) (by omega) (by omega) f2 f3 (fun x hx => by
            rcases List.mem_append.mp hx with hx | hx
            · have := f6.1 x hx; omega
            · rw [List.mem_singleton.mp hx]; decide) (⟨⟨f6.2.1 (by decide), f6.2.2.1 (by decide)⟩, fun q => cmpd_app P5 (f6.2.2.2.1 (by decide) q)⟩) f4
      · rw [pu_ef hk]
        exact ⟨C, rfl, Or.inr (out hk)⟩
theorem lv1 (hG : Sm n T z b t g0 h0 (G 2) 2 D) (hn : 400 ≤ n) : Sm n T z b t g0 h0 (B_Reader_readBoth_0 n T G) 1 (D + 1) := by
  intro K C M i p e k v o d q mn h hl hp hD hq
  have hz := h.1.1
  have hK : tr K < 2 := hp.2.1 rfl
  obtain ⟨C2, e1, e2⟩ := hG K C M i p e k v o d q mn h hl ⟨fun q => absurd q (by decide), fun q => absurd q (by decide), fun _ => by omega, fun q => absurd q (by decide), fun q => absurd q (by decide), fun q => absurd q (by decide), fun _ => hp.2.2.2.2.2.2.1 (by decide), fun q => absurd q (by decide)⟩ (by omega) hq
  unfold B_Reader_readBoth_0
  rw [e1, pu_cv]
  rcases e2 with e2 | ⟨M2, P, i2, p2, e2, k2, v2, o2, q2, mn2, a1, a2, a3, a4, a5, a6⟩
  · obtain ⟨f, hf, hf2⟩ := bad_lt e2 hz
    exact ⟨C2, f_lpB hf2 hf (by omega), Or.inl e2⟩
  · rw [a6]
    exact lpB hG hK (by omega) hz hn 160 0 n i C2 M2 P i2 p2 e2 k2 v2 o2 q2 mn2 (by omega) (by omega) (by omega) a4 a1 a2 (fun x hx => by have := a5.1 x hx; omega) (⟨⟨a5.2.1 (by decide), a5.2.2.1 (by decide)⟩, a5.2.2.2.1 (by decide)⟩) a3
/-! readEither -/
theorem f_lpE {f q : Nat} {x1 : Int32} (hf : C 106 0 = nI f) (hf2 : f < 2 ^ 31) (hq : 0 < q) : B_Reader_readEither_6 n T G q x1 C = some C := by
  obtain ⟨q, rfl⟩ : ∃ x, q = x + 1 := ⟨q - 1, by omega⟩
  show B_Reader_readEither_6b n T G (fun x1 S => B_Reader_readEither_6 n T G q x1 S) x1 C = _
  unfold B_Reader_readEither_6b
  by_cases h : (160 : Int32) ≤ x1
  · rw [if_pos h]
  · rw [if_neg h, f_sees hf hf2, pu_c, if_pos rfl]
theorem lpE (hG : Sm n T z b t g0 h0 (G 1) 1 D) (hK : tr K < 1) (hD : 7 * (5 - opn K) + 6 ≤ D) (hz : z ≤ 160) (hn : 400 ≤ n) : ∀ (w c0 q i0 : Nat) (C M : dk_S) (P : List Int32) (i p e k v o qm : Nat) (mn : Int32), c0 + w = 160 → w < q → c0 ≤ i → i0 < i → pR T z b t g0 h0 C M K P i o (d + 1) → la n T z t C i p e k v → (∀ s ∈ P, 1 ≤ rk s) → ((k ≠ 42 ∧ k ≠ 43 ∧ k ≠ 45 ∧ k ≠ 7) ∧ (k = 60 ∨ k = 61 → cmpd P)) → z < qm + i → ∃ C2, B_Reader_readEither_6 n T G q (nI c0) C = some C2 ∧ (bad T z g0 C2 (B_Model_eRead_14 n qm 0 mn M) ∨ okR n T z b t g0 h0 C2 K i0 (d + 1) 1 (B_Model_eRead_14 n qm 0 mn M))
  | w, c0, 0, _, _, _, _, _, _, _, _, _, _, _, _, _, hq, _, _, _, _, _, _, _ => absurd hq (Nat.not_lt_zero _)
  | w, c0, q + 1, i0, C, M, P, i, p, e, k, v, o, qm, mn, hc, hq, hci, hi0, h, hl, hP, h0k, hqm => by
    unfold B_Reader_readEither_6 B_Reader_readEither_6b
    have out : k ≠ 6 → okR n T z b t g0 h0 C K i0 (d + 1) 1 (B_Model_eRead_14 n qm 0 mn M) := fun hk => ⟨M, P, i, p, e, k, v, o, qm, mn, h, hl, hqm, hi0, ⟨hP, fun _ => h0k.1.1, fun _ => ⟨h0k.1.2.1, h0k.1.2.2.1⟩, fun _ => h0k.2, fun _ => h0k.1.2.2.2, fun _ => hk⟩, rfl⟩
    cases w with
    | zero =>
      rw [if_pos (show (160 : Int32) ≤ nI c0 from nI_le (a := 160) (by omega) (by omega))]
      exact ⟨C, rfl, Or.inr (out (by rw [la_end hl hz (by omega)]; decide))⟩
    | succ w =>
      rw [if_neg (show ¬ (160 : Int32) ≤ nI c0 from nI_ge (b := 160) (by omega) (by decide)), show (6 : Int32) = nI 6 from rfl, e_sees h.2.2.1.1 (la_c hl) (la_k hl) (by decide), pu_c]
      by_cases hk : k = 6
      · rw [pu_et hk]
        subst hk
        obtain ⟨C3, C4, a1, a2, a3⟩ := op_go (u := 1) (c := -15) (mn := mn) (qm := qm) hG h hl (by decide) (by decide) hP hK (fun q => absurd q (by decide)) (fun k' => ⟨fun q => absurd q (by decide), fun _ => by show rk (sgo 6) < 2; decide, fun q => by omega, fun q => absurd q (by decide), fun q => absurd q (by decide), fun q => absurd q (by decide), fun _ => by decide, fun q => absurd q (by decide)⟩) hD hqm (show iO (-15) 11 from iO11) (dst2 (by decide) (by decide)) hn
        rw [a1, pu_cv, a2, pu_cv]
        rcases a3 with a3 | ⟨C5, M5, P5, i2, p2, e2, k2, v2, o2, q2, mn2, f1, f2, f3, f4, f5, f6, f7⟩
        · obtain ⟨f, hf, hf2⟩ := bad_lt a3 hz
          rw [f_put hf2 hf, pu_cv]
          exact ⟨C4, f_lpE hf2 hf (by omega), Or.inl a3⟩
        · rw [f1, pu_cv, nI_1, f7]
          exact lpE hG hK hD hz hn w (c0 + 1) q i0 C5 M5 _ i2 p2 e2 k2 v2 o2 q2 mn2 (by omega) (by omega) (by omega) (by omega) f2 f3 (fun x hx => by
            rcases List.mem_append.mp hx with hx | hx
            · have := f6.1 x hx; omega
            · rw [List.mem_singleton.mp hx]; decide) (⟨⟨f6.2.1 (by decide), (f6.2.2.1 (by decide)).1, (f6.2.2.1 (by decide)).2, f6.2.2.2.2.1 (by decide)⟩, fun q => cmpd_app P5 (f6.2.2.2.1 (by decide) q)⟩) f4
      · rw [pu_ef hk]
        exact ⟨C, rfl, Or.inr (out hk)⟩
theorem lv0 (hG : Sm n T z b t g0 h0 (G 1) 1 D) (hn : 400 ≤ n) : Sm n T z b t g0 h0 (B_Reader_readEither_0 n T G) 0 (D + 1) := by
  intro K C M i p e k v o d q mn h hl hp hD hq
  have hz := h.1.1
  have hK : tr K < 1 := hp.1 rfl
  obtain ⟨C2, e1, e2⟩ := hG K C M i p e k v o d q mn h hl ⟨fun q => absurd q (by decide), fun _ => by omega, fun q => by omega, fun q => absurd q (by decide), fun q => absurd q (by decide), fun q => absurd q (by decide), fun _ => hp.2.2.2.2.2.2.1 (by decide), fun q => absurd q (by decide)⟩ (by omega) hq
  unfold B_Reader_readEither_0
  rw [e1, pu_cv]
  rcases e2 with e2 | ⟨M2, P, i2, p2, e2, k2, v2, o2, q2, mn2, a1, a2, a3, a4, a5, a6⟩
  · obtain ⟨f, hf, hf2⟩ := bad_lt e2 hz
    exact ⟨C2, f_lpE hf2 hf (by omega), Or.inl e2⟩
  · rw [a6]
    exact lpE hG hK (by omega) hz hn 160 0 n i C2 M2 P i2 p2 e2 k2 v2 o2 q2 mn2 (by omega) (by omega) (by omega) a4 a1 a2 (fun x hx => by have := a5.1 x hx; omega) (⟨⟨a5.2.1 (by decide), (a5.2.2.1 (by decide)).1, (a5.2.2.1 (by decide)).2, a5.2.2.2.2.1 (by decide)⟩, a5.2.2.2.1 (by decide)⟩) a3
end LS
