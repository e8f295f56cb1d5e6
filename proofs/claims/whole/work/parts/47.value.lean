/-! PURE: the worth of a text's two lists, for given names -/
def val (t b : Nat) (nm : Nat → Int32) (C : dk_S) : Int32 := evs nm (C (1000 + 4 * t + 2 * b)) (C (1001 + 4 * t + 2 * b) 0).toNatClampNeg 0
def nm6 (a b c d e f : Int32) : Nat → Int32
  | 0 => a
  | 1 => b
  | 2 => c
  | 3 => d
  | 4 => e
  | _ => f
def mayV (r g b : Nat) (x : Int32) (C M : dk_S) : Int32 := b2 (¬ val r 1 (nm6 (-1) 0 (M 1 g + 1) (b2 (M 1 g = x)) (b2 (¬ M 4 b = -1)) x) C = 0)
section VL
variable {n T G B N m r c : Nat} {C C2 M M2 : dk_S}
theorem val_cg {W : List Nat} {t b : Nat} {nm : Nat → Int32} (cc : dk_fr W C C2) (hW : ∀ k ∈ W, k < 1000) : val t b nm C2 = val t b nm C := by
  have q : ∀ k, 1000 ≤ k → C2 k = C k := fun k hk => cc k (fun z => by have := hW k z; omega)
  unfold val
  rw [q _ (by omega), q _ (by omega)]
theorem e_valC {t b : Nat} {nm : Nat → Int32} (h : iT t C M) (hb : b < 2) (hn : 400 ≤ n) (h16 : ∀ i, i < 6 → C 16 i = nm i) : ∃ C2, F_Scales_value n T t b C = some (val t b nm C, C2) := by
  obtain ⟨s1, s2, a1, a2, a3, a4, a5, a6, a7, a8, a9, a10, a11⟩ := h
  unfold F_Scales_value B_Scales_value_0 val
  rcases (show b = 0 ∨ b = 1 by omega) with rfl | rfl
  · rw [a6, nI_clamp (by omega)]
    exact vC (n := n) (T := T) (t := t) (b := 0) (L := s1) (nm := nm) (by omega) (fun i hi => ⟨_, a8 i hi⟩) a10 s1 0 n 0 C (by omega) (by omega) rfl a6 rfl h16 (fun i hi => absurd hi (Nat.not_lt_zero _))
  · rw [a7, nI_clamp (by omega)]
    exact vC (n := n) (T := T) (t := t) (b := 1) (L := s2 - s1) (nm := nm) (by omega) (fun i hi => ⟨_, a9 i hi⟩) a11 (s2 - s1) 0 n 0 C (by omega) (by omega) rfl a7 rfl h16 (fun i hi => absurd hi (Nat.not_lt_zero _))
theorem e_valM {t b : Nat} {nm : Nat → Int32} (h : iT t C M) (ht : t < 6) (hu : M 17 0 = nI t) (hb : b < 2) (hn : 400 ≤ n) (h50 : ∀ i, i < 6 → M 50 i = nm i) : ∃ M2, F_Model_worth n (nI b) M = some (val t b nm C, M2) := by
  obtain ⟨s1, s2, a1, a2, a3, a4, a5, a6, a7, a8, a9, a10, a11⟩ := h
  unfold F_Model_worth B_Model_worth_0 val
  rw [hu, show (4 : Int32) = nI 4 from rfl, pk_mul, nI_add, pu_r (by omega) (by decide)]
  rcases (show b = 0 ∨ b = 1 by omega) with rfl | rfl
  · rw [a6, nI_clamp (by omega), show 4 * t + 0 = 4 * t by omega, a3]
    exact vM (n := n) (r := t) (s := 0) (L := s1) (p := 0) (nm := nm) (by omega) ht (by decide) a10 s1 0 n 0 M (by omega) (by omega) rfl hu (by rw [show 4 * t + 0 + 1 = 4 * t + 1 by omega, a4]; congr 1; omega) (fun i hi => by rw [Nat.zero_add]; exact a8 i hi) h50 (fun i hi => absurd hi (Nat.not_lt_zero _))
  · rw [a7, nI_clamp (by omega), a4]
    exact vM (n := n) (r := t) (s := s1) (L := s2 - s1) (p := 1) (nm := nm) (by omega) ht (by decide) a11 (s2 - s1) 0 n 0 M (by omega) (by omega) rfl hu (by rw [show 4 * t + 1 + 1 = 4 * t + 2 by omega, a5]; congr 1; omega) a9 h50 (fun i hi => absurd hi (Nat.not_lt_zero _))
theorem e_setName {a v : Int32} {k : Nat} (h1 : ¬ (-1 : Int32) < a) (h2 : ¬ a < (-6 : Int32)) (h3 : (-1 : Int32) - a = nI k) (hk : k < 6) : F_Scales_setName n T a v C = some (dk_U C 16 k v) := by
  unfold F_Scales_setName B_Scales_setName_0
  rw [if_neg h1, if_neg h2, h3, pu_w hk (by decide)]
theorem ite_b2 {β : Type} {p : Prop} [Decidable p] {f : Int32 → β} : (if b2 p = 0 then f 0 else f 1) = f (b2 p) := by
  by_cases h : p
  · rw [pu_et h, b2_t h]
  · rw [pu_ef h, b2_f h]
theorem ite_n2 {β : Type} {p : Prop} [Decidable p] {f : Int32 → β} : (if ¬ p then f 0 else f 1) = f (b2 p) := by
  by_cases h : p
  · rw [if_neg (fun z => z h), b2_t h]
  · rw [if_pos h, b2_f h]
theorem six {P : Nat → Prop} (h0 : P 0) (h1 : P 1) (h2 : P 2) (h3 : P 3) (h4 : P 4) (h5 : P 5) : ∀ i, i < 6 → P i := by
  intro i hi
  rcases (show i = 0 ∨ i = 1 ∨ i = 2 ∨ i = 3 ∨ i = 4 ∨ i = 5 by omega) with rfl | rfl | rfl | rfl | rfl | rfl <;> assumption
theorem pu_wl {β : Type} {S : dk_S} {key q k : Nat} {a x : Int32} {K : dk_S → Option β} (ha : a = nI k) (h : k < q) (hq : q < 2 ^ 31) : dk_w S key q a x K = K (dk_U S key k x) := by
  rw [ha]
  exact pu_w h hq
theorem e_names {x1 x2 x3 x4 x6 : Int32} {b : Nat} (h : b < 6) : ∃ M2, F_Model_names n x1 x2 x3 x4 (nI b) x6 M = some M2 ∧ ∀ i, i < 6 → M2 50 i = nm6 x1 x2 x3 x4 (b2 (¬ M 4 b = -1)) x6 i := by
  unfold F_Model_names B_Model_names_0 B_Model_names_50
  simp only [pu_wl (show (0 : Int32) = nI 0 from rfl) (show 0 < 6 by decide) (show 6 < 2 ^ 31 by decide), pu_wl (show (1 : Int32) = nI 1 from rfl) (show 1 < 6 by decide) (show 6 < 2 ^ 31 by decide), pu_wl (show (2 : Int32) = nI 2 from rfl) (show 2 < 6 by decide) (show 6 < 2 ^ 31 by decide), pu_wl (show (3 : Int32) = nI 3 from rfl) (show 3 < 6 by decide) (show 6 < 2 ^ 31 by decide), pu_wl (show (4 : Int32) = nI 4 from rfl) (show 4 < 6 by decide) (show 6 < 2 ^ 31 by decide), pu_wl (show (5 : Int32) = nI 5 from rfl) (show 5 < 6 by decide) (show 6 < 2 ^ 31 by decide), pu_r h (show 6 < 2 ^ 31 by decide)]
  have e4 : (dk_U (dk_U (dk_U (dk_U M 50 0 x1) 50 1 x2) 50 2 x3) 50 3 x4) 4 b = M 4 b := by
    simp (decide := true) only [dk_U_n]
  rw [e4]
  by_cases q : M 4 b = -1
  · rw [if_neg (fun z => z q), b2_f (fun z => z q)]
    exact ⟨_, rfl, six (by simp (decide := true) only [pu_Us, pu_Uj]; rfl) (by simp (decide := true) only [pu_Us, pu_Uj]; rfl) (by simp (decide := true) only [pu_Us, pu_Uj]; rfl) (by simp (decide := true) only [pu_Us, pu_Uj]; rfl) (by simp (decide := true) only [pu_Us, pu_Uj]; rfl) (by simp (decide := true) only [pu_Us, pu_Uj]; rfl)⟩
  · rw [if_pos q, b2_t q]
    exact ⟨_, rfl, six (by simp (decide := true) only [pu_Us, pu_Uj]; rfl) (by simp (decide := true) only [pu_Us, pu_Uj]; rfl) (by simp (decide := true) only [pu_Us, pu_Uj]; rfl) (by simp (decide := true) only [pu_Us, pu_Uj]; rfl) (by simp (decide := true) only [pu_Us, pu_Uj]; rfl) (by simp (decide := true) only [pu_Us, pu_Uj]; rfl)⟩
end VL
