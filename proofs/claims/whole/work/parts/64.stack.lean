/-! PURE: the reader's code against the reference's code, its held signs K and those P that the class has put already -/
def rk (s : Int32) : Nat := if ¬ s = 0 then (if ¬ s = 11 then (if ¬ s = 12 then (if ¬ s = 13 then (if (15 : Int32) < s then (if (17 : Int32) < s then (if ¬ s = 18 then 7 else 6) else 5) else 4) else 3) else 2) else 1) else 0
def opb (s : Int32) : Nat := if s = 0 ∨ s = 13 ∨ s = 19 then 1 else 0
def opn : List Int32 → Nat
  | [] => 0
  | s :: L => opb s + opn L
def tr : List Int32 → Nat
  | [] => 0
  | s :: _ => rk s
def stkA (f : Nat → Int32) : List Int32 → Prop
  | [] => True
  | s :: L => f L.length = s ∧ stkA f L
def penA (f : Nat → Int32) (o : Nat) : List Int32 → Prop
  | [] => True
  | s :: P => iO (f o) s ∧ penA f (o + 1) P
def cmpd : List Int32 → Prop
  | [] => False
  | s :: P => if 5 ≤ rk s then cmpd P else rk s = 4
def pR (T z b : Nat) (t : Nat → Nat) (g0 h0 : Nat → Int32) (C M : dk_S) (K P : List Int32) (i o d : Nat) : Prop :=
  (z ≤ 160 ∧ T < 6 ∧ i ≤ z ∧ o + P.length + K.length ≤ i ∧ b ≤ o ∧ opn K ≤ 5) ∧
  (tkM z t M ∧ M 16 0 = nI T ∧ M 40 0 = nI i ∧ M 46 0 = nI (P ++ K).length ∧ stkA (M 45) (P ++ K) ∧ M 47 0 = nI (opn (P ++ K)) ∧ M 48 0 = nI o) ∧
  (C 106 0 = -1 ∧ C 107 0 = nI (o + P.length) ∧ C 113 0 = nI (opn K)) ∧
  ((∀ j, j < o → iO (C 14 j) (M 14 (200 * T + j))) ∧ penA (C 14) o P ∧ (∀ x, x < 200 * T → M 14 x = g0 x) ∧ (∀ j, j < b → C 14 j = h0 j) ∧ dpth (fun j => C 14 (b + j)) (o + P.length - b) = some d)
theorem opn_app : ∀ (P K : List Int32), opn (P ++ K) = opn P + opn K
  | [], K => by show opn K = 0 + opn K; omega
  | s :: P, K => by
    show opb s + opn (P ++ K) = (opb s + opn P) + opn K
    rw [opn_app P K]; omega
theorem stkA_cg {f g : Nat → Int32} : ∀ L, stkA f L → (∀ j, j < L.length → g j = f j) → stkA g L
  | [], _, _ => trivial
  | s :: L, h, c => ⟨by rw [c L.length (by simp)]; exact h.1, stkA_cg L h.2 (fun j hj => c j (by simp; omega))⟩
theorem penA_cg {f g : Nat → Int32} : ∀ (P : List Int32) (o : Nat), penA f o P → (∀ j, o ≤ j → j < o + P.length → g j = f j) → penA g o P
  | [], _, _, _ => trivial
  | s :: P, o, h, c => ⟨by rw [c o (Nat.le_refl _) (by simp)]; exact h.1, penA_cg P (o + 1) h.2 (fun j h1 h2 => c j (by omega) (by simp; omega))⟩
theorem penA_app {f : Nat → Int32} {s : Int32} : ∀ (P : List Int32) (o : Nat), penA f o P → iO (f (o + P.length)) s → penA f o (P ++ [s])
  | [], o, _, h => ⟨h, trivial⟩
  | x :: P, o, h, hs => ⟨h.1, penA_app P (o + 1) h.2 (by
    have e : o + 1 + P.length = o + (x :: P).length := by simp; omega
    rw [e]; exact hs)⟩
theorem cmpd_app {s : Int32} : ∀ P : List Int32, cmpd P → cmpd (P ++ [s])
  | [], h => absurd h (fun q => q)
  | x :: P, h => by
    show if 5 ≤ rk x then cmpd (P ++ [s]) else rk x = 4
    have h' : if 5 ≤ rk x then cmpd P else rk x = 4 := h
    by_cases q : 5 ≤ rk x
    · rw [if_pos q] at h' ⊢; exact cmpd_app P h'
    · rw [if_neg q] at h' ⊢; exact h'
theorem cmpd_new {s : Int32} (hs : rk s = 4) : ∀ P : List Int32, (∀ x ∈ P, 5 ≤ rk x) → cmpd (P ++ [s])
  | [], _ => by
    show if 5 ≤ rk s then cmpd [] else rk s = 4
    rw [if_neg (by omega)]; exact hs
  | x :: P, h => by
    show if 5 ≤ rk x then cmpd (P ++ [s]) else rk x = 4
    rw [if_pos (h x (List.mem_cons_self ..))]
    exact cmpd_new hs P (fun y hy => h y (List.mem_cons_of_mem _ hy))
theorem rk_le (s : Int32) : rk s ≤ 7 := by
  unfold rk
  repeat' split
  all_goals omega
def dst (c : Int32) (d : Nat) : Option Nat := if (-6 : Int32) ≤ c then some (d + 1) else if (-8 : Int32) ≤ c then (if d = 0 then none else some d) else (if d ≤ 1 then none else some (d - 1))
theorem dp_cg {f g : Nat → Int32} : ∀ L, (∀ j, j < L → f j = g j) → dpth f L = dpth g L
  | 0, _ => rfl
  | L + 1, h => by
    unfold dpth
    rw [dp_cg L (fun j hj => h j (by omega)), h L (by omega)]
theorem dp_put {f g : Nat → Int32} {c : Int32} {L d e : Nat} (h : dpth f L = some d) (h1 : ∀ j, j < L → g j = f j) (h2 : g L = c) (h3 : dst c d = some e) : dpth g (L + 1) = some e := by
  unfold dpth
  rw [dp_cg L h1, h]
  dsimp only
  rw [h2]
  exact h3
section ST
variable {n T z b i o d p e k v : Nat} {t : Nat → Nat} {g0 h0 : Nat → Int32} {C C2 M M2 : dk_S} {K P : List Int32} {s : Int32} {W V : List Nat}
theorem pR.cC (h : pR T z b t g0 h0 C M K P i o d) (c : dk_fr W C C2) (hW : ∀ k ∈ [106, 107, 113, 14], k ∉ W) : pR T z b t g0 h0 C2 M K P i o d := by
  unfold pR at h ⊢
  rw [c 106 (hW _ (by decide)), c 107 (hW _ (by decide)), c 113 (hW _ (by decide)), c 14 (hW _ (by decide))]
  exact h
theorem pR.cM {i2 : Nat} (h : pR T z b t g0 h0 C M K P i o d) (c : dk_fr [40, 41, 42, 43] M M2) (h40 : M2 40 0 = nI i2) (h1 : i ≤ i2) (h2 : i2 ≤ z) : pR T z b t g0 h0 C M2 K P i2 o d := by
  obtain ⟨⟨a1, a2, a3, a4, a5, a6⟩, ⟨b1, b2, b3, b4, b5, b6, b7⟩, hc, hd⟩ := h
  refine ⟨⟨a1, a2, h2, by omega, a5, a6⟩, ⟨b1.cg c (by decide), ?_, h40, ?_, ?_, ?_, ?_⟩, hc, ?_⟩
  · rw [c 16 (by decide)]; exact b2
  · rw [c 46 (by decide)]; exact b4
  · rw [c 45 (by decide)]; exact b5
  · rw [c 47 (by decide)]; exact b6
  · rw [c 48 (by decide)]; exact b7
  · rw [c 14 (by decide)]; exact hd
theorem e_rank (s : Int32) : F_Model_rank n s M = some (nI (rk s), M) := by
  unfold F_Model_rank B_Model_rank_0 rk
  repeat' split
  all_goals rfl
theorem e_puts (s : Int32) (h16 : M 16 0 = nI T) (h48 : M 48 0 = nI o) (hT : T < 6) (ho : o < 200) : F_Model_puts n s M = some (dk_U (dk_U M 14 (200 * T + o) s) 48 0 (nI (o + 1))) := by
  unfold F_Model_puts B_Model_puts_0
  rw [h16, h48, show (200 : Int32) * nI T + nI o = nI (200 * T + o) by rw [show (200 : Int32) = nI 200 from rfl, pk_mul, nI_add], pu_w (by omega) (by decide), pu_p, dk_U_n (show 48 ≠ 14 by decide), h48, nI_1]
/-- a sign that the class has put already goes from the held ones into the reference's code -/
theorem un1 {r q : Nat} (h : pR T z b t g0 h0 C M K (s :: P) i o d) (hr : r ≤ rk s) (hr0 : 0 < r) : ∃ M2, B_Model_unwinds_0 n (q + 1) (nI r) M = B_Model_unwinds_0 n q (nI r) M2 ∧ pR T z b t g0 h0 C M2 K P i (o + 1) d ∧ dk_fr [14, 46, 47, 48] M M2 := by
  obtain ⟨⟨a1, a2, a3, a4, a5, a6⟩, ⟨b1, b2, b3, b4, b5, b6, b7⟩, ⟨c1, c2, c3⟩, ⟨d1, d2, d3, d4, d5⟩⟩ := h
  have hlen : (s :: P ++ K).length = (P ++ K).length + 1 := rfl
  have hl2 : (P ++ K).length = P.length + K.length := List.length_append ..
  have hl3 : (s :: P).length = P.length + 1 := rfl
  have hs0 : ¬ s = 0 := fun q => by
    subst q
    have : rk 0 = 0 := by decide
    omega
  have hr7 := rk_le s
  have e46 : M 46 0 - 1 = nI (P ++ K).length := by rw [b4, hlen, nI_pred]
  have e45 : M 45 (P ++ K).length = s := b5.1
  have hb : B_Model_unwinds_0 n (q + 1) (nI r) M = B_Model_unwinds_0b n (fun x1 S => B_Model_unwinds_0 n q x1 S) (nI r) M := rfl
  -- what is left: the number of open ones, and the code
  have last : ∀ u : Int32, nI (opn (s :: P ++ K)) - u = nI (opn (P ++ K)) → ∃ M2, B_Model_unwinds_67 n (fun x1 S => B_Model_unwinds_0 n q x1 S) (nI r) s (nI (opn (s :: P ++ K))) u (dk_U M 46 0 (nI (P ++ K).length)) = B_Model_unwinds_0 n q (nI r) M2 ∧ pR T z b t g0 h0 C M2 K P i (o + 1) d ∧ dk_fr [14, 46, 47, 48] M M2 := by
    intro u hu
    unfold B_Model_unwinds_67
    rw [pu_p, hu, e_puts (T := T) (o := o) s (by rw [dk_U_n (by decide), dk_U_n (by decide)]; exact b2) (by rw [dk_U_n (by decide), dk_U_n (by decide)]; exact b7) a2 (by omega), pu_cv]
    have c : dk_fr [14, 46, 47, 48] M (dk_U (dk_U (dk_U (dk_U M 46 0 (nI (P ++ K).length)) 47 0 (nI (opn (P ++ K)))) 14 (200 * T + o) s) 48 0 (nI (o + 1))) := (((fr_U (by decide)).tr (fr_U (by decide))).tr (fr_U (by decide))).tr (fr_U (by decide))
    have e14 : ∀ x, (dk_U (dk_U (dk_U (dk_U M 46 0 (nI (P ++ K).length)) 47 0 (nI (opn (P ++ K)))) 14 (200 * T + o) s) 48 0 (nI (o + 1))) 14 x = upd (M 14) (200 * T + o) s x := fun x => by
      rw [dk_U_n (by decide), dk_U_s, dk_U_n (by decide), dk_U_n (by decide)]
    refine ⟨_, rfl, ⟨⟨a1, a2, a3, by omega, by omega, a6⟩, ⟨b1.cg c (by decide), by rw [c 16 (by decide)]; exact b2, by rw [c 40 (by decide)]; exact b3, ?_, ?_, ?_, pu_Us⟩, ⟨c1, by rw [c2]; congr 1; omega, c3⟩, ⟨fun j hj => ?_, d2.2, fun x hx => ?_, d4, ?_⟩⟩, c⟩
    · rw [dk_U_n (by decide), dk_U_n (by decide), dk_U_n (by decide), pu_Us]
    · rw [c 45 (by decide)]; exact b5.2
    · rw [dk_U_n (by decide), dk_U_n (by decide), pu_Us]
    · rw [e14]
      by_cases w : j = o
      · rw [w, upd_s2]; exact d2.1
      · rw [upd_n2 (by omega)]; exact d1 j (by omega)
    · rw [e14, upd_n2 (by omega)]; exact d3 x hx
    · rw [show o + 1 + P.length - b = o + (s :: P).length - b by omega]; exact d5
  rw [hb]
  unfold B_Model_unwinds_0b B_Model_unwinds_62
  rw [b4, if_neg (nI_nle (by omega) (by omega)), hlen, nI_pred, pu_r (k := (P ++ K).length) (by omega) (by decide), e45, e_rank, pu_c, if_neg (nI_nlt hr (by omega)), b4, hlen, nI_pred, pu_p, pu_Us, pu_r (k := (P ++ K).length) (by omega) (by decide), dk_U_n (show 45 ≠ 46 by decide), e45, dk_U_n (show 47 ≠ 46 by decide), b6]
  have ho : opn (s :: P ++ K) = opb s + opn (P ++ K) := rfl
  by_cases q13 : s = 13
  · rw [if_pos q13]
    refine last 1 ?_
    rw [ho, show opb s = 1 by rw [q13]; decide, show 1 + opn (P ++ K) = opn (P ++ K) + 1 by omega, nI_pred]
  · rw [if_neg q13]
    by_cases q19 : s = 19
    · rw [if_neg (show ¬ ¬ s = 19 from fun q => q q19)]
      refine last 1 ?_
      rw [ho, show opb s = 1 by rw [q19]; decide, show 1 + opn (P ++ K) = opn (P ++ K) + 1 by omega, nI_pred]
    · rw [if_pos (show ¬ s = 19 from q19)]
      refine last 0 ?_
      have : opb s = 0 := by unfold opb; rw [if_neg (by simp [hs0, q13, q19])]
      rw [ho, this, Nat.zero_add]
      exact pk_sub (b := 0) (Nat.zero_le _)
/-- unwinding stops at K -/
theorem un0 {r q : Nat} (h : pR T z b t g0 h0 C M K [] i o d) (hr : tr K < r) (hr7 : r ≤ 7) : B_Model_unwinds_0 n (q + 1) (nI r) M = some M := by
  obtain ⟨⟨a1, a2, a3, a4, a5, a6⟩, ⟨b1, b2, b3, b4, b5, b6, b7⟩, hc, hd⟩ := h
  show B_Model_unwinds_0b n (fun x1 S => B_Model_unwinds_0 n q x1 S) (nI r) M = _
  unfold B_Model_unwinds_0b
  cases K with
  | nil =>
    have b4' : M 46 0 = nI 0 := b4
    rw [b4', if_pos (show nI 0 ≤ 0 by decide)]
  | cons s K =>
    have b4' : M 46 0 = nI (K.length + 1) := b4
    have e45 : M 45 K.length = s := b5.1
    have hl : (s :: K).length = K.length + 1 := rfl
    have hs : rk s < r := hr
    rw [b4', if_neg (nI_nle (by omega) (by omega)), nI_pred, pu_r (k := K.length) (by omega) (by decide), e45, e_rank, pu_c, if_pos (nI_lt hs (by omega))]
theorem unw {r : Nat} (hr : tr K < r) (h0' : 0 < r) (hr7 : r ≤ 7) : ∀ (P : List Int32) (q o : Nat) (M : dk_S), P.length < q → pR T z b t g0 h0 C M K P i o d → (∀ x ∈ P, r ≤ rk x) → ∃ M2, B_Model_unwinds_0 n q (nI r) M = some M2 ∧ pR T z b t g0 h0 C M2 K [] i (o + P.length) d ∧ dk_fr [14, 46, 47, 48] M M2
  | [], 0, o, M, hq, h, hp => absurd hq (Nat.not_lt_zero _)
  | [], q + 1, o, M, hq, h, hp => ⟨M, un0 h hr hr7, h, dk_fr.rf⟩
  | s :: P, 0, o, M, hq, h, hp => absurd hq (Nat.not_lt_zero _)
  | s :: P, q + 1, o, M, hq, h, hp => by
    obtain ⟨M2, e1, e2, e3⟩ := un1 (n := n) (q := q) h (hp s (List.mem_cons_self ..)) h0'
    have hl : (s :: P).length = P.length + 1 := rfl
    obtain ⟨M3, f1, f2, f3⟩ := unw hr h0' hr7 P q (o + 1) M2 (by omega) e2 (fun x hx => hp x (List.mem_cons_of_mem _ hx))
    refine ⟨M3, e1.trans f1, ?_, e3.tr f3⟩
    rw [show o + (s :: P).length = o + 1 + P.length by omega]
    exact f2
theorem e_unw {r : Nat} (h : pR T z b t g0 h0 C M K P i o d) (hr : tr K < r) (h0' : 0 < r) (hr7 : r ≤ 7) (hp : ∀ x ∈ P, r ≤ rk x) (hn : 400 ≤ n) : ∃ M2, F_Model_unwinds n (nI r) M = some M2 ∧ pR T z b t g0 h0 C M2 K [] i (o + P.length) d ∧ dk_fr [14, 46, 47, 48] M M2 := by
  have h1 := h.1
  unfold F_Model_unwinds
  exact unw hr h0' hr7 P n o M (by omega) h hp
theorem un_c : ∀ (P : List Int32) (q o : Nat) (M : dk_S), P.length < q → pR T z b t g0 h0 C M K P i o d → cmpd P → ∃ M2 s P2 o2, B_Model_unwinds_0 n q (nI 5) M = some M2 ∧ pR T z b t g0 h0 C M2 K (s :: P2) i o2 d ∧ rk s = 4 ∧ dk_fr [14, 46, 47, 48] M M2
  | [], _, _, _, _, _, hc => absurd hc (fun q => q)
  | s :: P, 0, o, M, hq, h, hc => absurd hq (Nat.not_lt_zero _)
  | s :: P, q + 1, o, M, hq, h, hc => by
    have hc' : if 5 ≤ rk s then cmpd P else rk s = 4 := hc
    have hl : (s :: P).length = P.length + 1 := rfl
    by_cases h5 : 5 ≤ rk s
    · rw [if_pos h5] at hc'
      obtain ⟨M2, e1, e2, e3⟩ := un1 (n := n) (q := q) h h5 (by decide)
      obtain ⟨M3, s3, P3, o3, f1, f2, f3, f4⟩ := un_c P q (o + 1) M2 (by omega) e2 hc'
      exact ⟨M3, s3, P3, o3, e1.trans f1, f2, f3, e3.tr f4⟩
    · rw [if_neg h5] at hc'
      obtain ⟨⟨a1, a2, a3, a4, a5, a6⟩, ⟨b1, b2, b3, b4, b5, b6, b7⟩, -, -⟩ := id h
      have b4' : M 46 0 = nI ((P ++ K).length + 1) := b4
      have e45 : M 45 (P ++ K).length = s := b5.1
      have hl2 : (P ++ K).length = P.length + K.length := List.length_append ..
      refine ⟨M, s, P, o, ?_, h, hc', dk_fr.rf⟩
      show B_Model_unwinds_0b n (fun x1 S => B_Model_unwinds_0 n q x1 S) (nI 5) M = _
      unfold B_Model_unwinds_0b
      rw [b4', if_neg (nI_nle (by omega) (by omega)), nI_pred, pu_r (k := (P ++ K).length) (by omega) (by decide), e45, e_rank, pu_c, if_pos (nI_lt (by omega) (by decide))]
/-- a sign is held -/
theorem e_hold (h : pR T z b t g0 h0 C M K [] i o d) (hs : opb s = 0) (hi : o + K.length + 1 ≤ i) : ∃ M2, F_Model_holds n s M = some M2 ∧ pR T z b t g0 h0 C M2 (s :: K) [] i o d ∧ dk_fr [45, 46] M M2 := by
  obtain ⟨⟨a1, a2, a3, a4, a5, a6⟩, ⟨b1, b2, b3, b4, b5, b6, b7⟩, ⟨c1, c2, c3⟩, hd⟩ := h
  have b4' : M 46 0 = nI K.length := b4
  unfold F_Model_holds B_Model_holds_0
  rw [b4', pu_w (by omega) (by decide), pu_p, dk_U_n (show 46 ≠ 45 by decide), b4', nI_1]
  have c : dk_fr [45, 46] M (dk_U (dk_U M 45 K.length s) 46 0 (nI (K.length + 1))) := (fr_U (by decide)).tr (fr_U (by decide))
  have e45 : (dk_U (dk_U M 45 K.length s) 46 0 (nI (K.length + 1))) 45 = upd (M 45) K.length s := by rw [dk_U_n (by decide), dk_U_s]
  have ho : opn (s :: K) = opn K := by show opb s + opn K = _; omega
  refine ⟨_, rfl, ⟨⟨a1, a2, a3, by show o + 0 + (K.length + 1) ≤ i; omega, a5, by rw [ho]; exact a6⟩, ⟨b1.cg c (by decide), by rw [c 16 (by decide)]; exact b2, by rw [c 40 (by decide)]; exact b3, pu_Us, ?_, ?_, by rw [c 48 (by decide)]; exact b7⟩, ⟨c1, c2, by rw [ho]; exact c3⟩, ?_⟩, c⟩
  · rw [e45]
    exact ⟨upd_s2, stkA_cg _ b5 (fun j hj => upd_n2 (by show j ≠ K.length; have : j < K.length := hj; omega))⟩
  · rw [c 47 (by decide)]
    show M 47 0 = nI (opn (s :: K))
    rw [ho]; exact b6
  · rw [c 14 (by decide)]; exact hd
/-- one that opens -/
theorem e_open (h : pR T z b t g0 h0 C M K [] i o d) (hs : opb s = 1) (hi : o + K.length + 1 ≤ i) : (opn K = 5 → F_Model_opensOne n s M = some (0, M)) ∧ (opn K < 5 → ∃ M2, F_Model_opensOne n s M = some (1, M2) ∧ pR T z b t g0 h0 (dk_U C 113 0 (nI (opn K + 1))) M2 (s :: K) [] i o d ∧ dk_fr [45, 46, 47] M M2) := by
  obtain ⟨⟨a1, a2, a3, a4, a5, a6⟩, ⟨b1, b2, b3, b4, b5, b6, b7⟩, ⟨c1, c2, c3⟩, hd⟩ := h
  have b4' : M 46 0 = nI K.length := b4
  have b6' : M 47 0 = nI (opn K) := b6
  unfold F_Model_opensOne B_Model_opensOne_0 F_Model_holds B_Model_holds_0
  constructor
  · intro h5
    rw [b6', h5, if_neg (show ¬ ¬ nI 5 = (5 : Int32) by decide), pu_b0]
  · intro h5
    have e46 : (dk_U M 47 0 (nI (opn K + 1))) 46 0 = nI K.length := by rw [dk_U_n (by decide)]; exact b4'
    rw [b6', if_pos (show ¬ nI (opn K) = (5 : Int32) from fun q => by have := (nI_eq (b := 5) (by omega) (by decide)).mp q; omega), pu_p, nI_1, e46, pu_w (by omega) (by decide), pu_p, dk_U_n (show 46 ≠ 45 by decide), e46, nI_1, pu_cv, pu_b1]
    have c : dk_fr [45, 46, 47] M (dk_U (dk_U (dk_U M 47 0 (nI (opn K + 1))) 45 K.length s) 46 0 (nI (K.length + 1))) := ((fr_U (by decide)).tr (fr_U (by decide))).tr (fr_U (by decide))
    have e45 : (dk_U (dk_U (dk_U M 47 0 (nI (opn K + 1))) 45 K.length s) 46 0 (nI (K.length + 1))) 45 = upd (M 45) K.length s := by rw [dk_U_n (by decide), dk_U_s, dk_U_n (by decide)]
    have ho : opn (s :: K) = opn K + 1 := by show opb s + opn K = _; omega
    refine ⟨_, rfl, ⟨⟨a1, a2, a3, by show o + 0 + (K.length + 1) ≤ i; omega, a5, by rw [ho]; omega⟩, ⟨b1.cg c (by decide), by rw [c 16 (by decide)]; exact b2, by rw [c 40 (by decide)]; exact b3, pu_Us, ?_, ?_, by rw [c 48 (by decide)]; exact b7⟩, ⟨by rw [dk_U_n (by decide)]; exact c1, by rw [dk_U_n (by decide)]; exact c2, by rw [ho]; exact pu_Us⟩, ?_⟩, c⟩
    · rw [e45]
      exact ⟨upd_s2, stkA_cg _ b5 (fun j hj => upd_n2 (by show j ≠ K.length; have : j < K.length := hj; omega))⟩
    · rw [dk_U_n (by decide), dk_U_n (by decide), pu_Us]
      show _ = nI (opn (s :: K))
      rw [ho]
    · rw [c 14 (by decide), dk_U_n (show 14 ≠ 113 by decide)]; exact hd
end ST
