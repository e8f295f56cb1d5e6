/-! PURE: what the class's numbers C and the reference's numbers M have in common between two calls -/
def iW (x : Int32) : Prop := -1 ≤ x.toInt ∧ x.toInt ≤ 9
def cnt (f : Nat → Int32) : Nat → Nat
  | 0 => 0
  | m + 1 => cnt f m + (if f m = 1 then 1 else 0)
def pG (G : Nat) (C M : dk_S) : Prop := G ≤ 8 ∧ C 102 0 = nI G ∧ M 0 0 = nI G ∧ ∀ i, i < G → C 2 i = M 1 i ∧ iW (M 1 i)
def pB (G B : Nat) (C M : dk_S) : Prop := B ≤ 6 ∧ C 103 0 = nI B ∧ M 2 0 = nI B ∧ ∀ i, i < B → C 3 i = M 3 i ∧ C 4 i = M 4 i ∧ iW (M 4 i) ∧ ∃ h, h < G ∧ M 3 i = nI h
def pm1 (G B : Nat) (C M : dk_S) (i : Nat) : Prop := C 6 i = M 6 i ∧ C 7 i = M 7 i ∧ C 8 i = M 8 i ∧ C 9 i = M 9 i ∧ C 10 i = M 10 i ∧ C 11 i = M 11 i ∧ (M 11 i = 0 ∨ M 11 i = 1) ∧ ∃ t w b p x : Nat, t < 1000 ∧ w < 10 ∧ b < B ∧ p < 10 ∧ x < 10 ∧ (w = 5 → x < G) ∧ M 6 i = nI t ∧ M 7 i = nI w ∧ M 8 i = nI b ∧ M 9 i = nI p ∧ M 10 i = nI x
def pM (G B m : Nat) (C M : dk_S) : Prop := m ≤ 32 ∧ C 104 0 = nI m ∧ M 5 0 = nI m ∧ (∀ i, i < m → pm1 G B C M i) ∧ cnt (M 11) m ≤ 6
def iO (c o : Int32) : Prop := (∃ v : Nat, v ≤ 9999 ∧ o = nI (100000 + v) ∧ c = nI v) ∨ (∃ k : Nat, k < 6 ∧ o = nI k ∧ c = -(nI (k + 1))) ∨ (o = 13 ∧ c = -8) ∨ (o = 19 ∧ c = -7) ∨ (o = 11 ∧ c = -15) ∨ (o = 12 ∧ c = -14) ∨ (o = 14 ∧ c = -12) ∨ (o = 15 ∧ c = -13) ∨ (o = 16 ∧ c = -10) ∨ (o = 17 ∧ c = -11) ∨ (o = 18 ∧ c = -9)
def dpth (f : Nat → Int32) : Nat → Option Nat
  | 0 => some 0
  | n + 1 => match dpth f n with
    | none => none
    | some d => if (-6 : Int32) ≤ f n then some (d + 1) else if (-8 : Int32) ≤ f n then (if d = 0 then none else some d) else (if d ≤ 1 then none else some (d - 1))
def iT (t : Nat) (C M : dk_S) : Prop := ∃ s1 s2 : Nat, s1 ≤ s2 ∧ s2 ≤ 160 ∧ M 15 (4 * t) = nI 0 ∧ M 15 (4 * t + 1) = nI s1 ∧ M 15 (4 * t + 2) = nI s2 ∧ C (1001 + 4 * t + 2 * 0) 0 = nI s1 ∧ C (1001 + 4 * t + 2 * 1) 0 = nI (s2 - s1) ∧ (∀ i, i < s1 → iO (C (1000 + 4 * t + 2 * 0) i) (M 14 (200 * t + i))) ∧ (∀ i, i < s2 - s1 → iO (C (1000 + 4 * t + 2 * 1) i) (M 14 (200 * t + (s1 + i)))) ∧ dpth (C (1000 + 4 * t + 2 * 0)) s1 = some 1 ∧ dpth (C (1000 + 4 * t + 2 * 1)) (s2 - s1) = some 1
def pT (T : Nat) (C M : dk_S) : Prop := T ≤ 6 ∧ ∀ t, t < T → iT t C M
def pU (r : Nat) (C M : dk_S) : Prop := C 114 0 = nI r ∧ M 17 0 = nI r
def pN (T r : Nat) (C M : dk_S) : Prop := r < T ∧ C 100 0 = nI T ∧ M 16 0 = nI T ∧ C 101 0 = nI r
def pZ (z : Nat) (C M : dk_S) : Prop := z ≤ 160 ∧ C 105 0 = nI z ∧ M 13 0 = nI z ∧ ∀ i, i < z → ∃ v : Nat, v < 256 ∧ M 12 i = nI v ∧ C 13 i = (nI v).toInt8.toInt32
def pI (T G : Nat) (C M : dk_S) : Prop := (C 121 0 = 0 ∧ M 31 0 = 0) ∨ (C 121 0 = 1 ∧ M 31 0 = 1 ∧ ∃ ig im ir : Nat, ig ≤ G ∧ im ≤ 32 ∧ ir < T ∧ C 123 0 = nI ig ∧ M 32 0 = nI ig ∧ C 124 0 = nI im ∧ M 33 0 = nI im ∧ C 122 0 = nI ir ∧ M 34 0 = nI ir ∧ (∀ i, i < ig → C 33 i = M 35 i ∧ iW (M 35 i)) ∧ (∀ i, i < im → C 34 i = M 36 i ∧ (M 36 i = 0 ∨ M 36 i = 1)) ∧ cnt (M 36) im ≤ 6)
def pS (C M : dk_S) : Prop := ∀ j, j < 4 → ∃ sz : Nat, sz ≤ 40 ∧ C (160 + j) 0 = M 37 j ∧ (M 37 j = -1 ∨ M 37 j = 0 ∨ M 37 j = 1 ∨ M 37 j = 2) ∧ C (170 + j) 0 = nI sz ∧ M 38 j = nI sz ∧ ∀ i, i < 40 → C (36 + 2 * j) i = M 39 (40 * j + i)
/-- what is asked of a text, over any text in use -/
def pE (T G B m r : Nat) (C M : dk_S) : Prop := pG G C M ∧ pB G B C M ∧ pM G B m C M ∧ pT T C M ∧ r < T ∧ pU r C M
def pInv (T G B m r z : Nat) (C M : dk_S) : Prop := pG G C M ∧ pB G B C M ∧ pM G B m C M ∧ pT T C M ∧ pU r C M ∧ pN T r C M ∧ pZ z C M ∧ pI T G C M ∧ pS C M
def Inv (T : Nat) (C M : dk_S) : Prop := ∃ G B m r z : Nat, pInv T G B m r z C M
section CG
variable {T G B m r z : Nat} {C M C2 M2 : dk_S} {W V : List Nat}
theorem fr_U {S : dk_S} {k j : Nat} {x : Int32} (h : k ∈ W) : dk_fr W S (dk_U S k j x) := fun _ hk => dk_U_n (fun e => hk (e ▸ h))
theorem fr_F {S : dk_S} {k : Nat} {f : Nat → Int32} (h : k ∈ W) : dk_fr W S (dk_F S k f) := fun _ hk => dk_F_n (fun e => hk (e ▸ h))
theorem pG.cg (h : pG G C M) (c : dk_fr W C C2) (d : dk_fr V M M2) (hW : ∀ k ∈ [102, 2], k ∉ W) (hV : ∀ k ∈ [0, 1], k ∉ V) : pG G C2 M2 := by
  unfold pG at h ⊢
  rw [c 102 (hW _ (by decide)), c 2 (hW _ (by decide)), d 0 (hV _ (by decide)), d 1 (hV _ (by decide))]
  exact h
theorem pB.cg (h : pB G B C M) (c : dk_fr W C C2) (d : dk_fr V M M2) (hW : ∀ k ∈ [103, 3, 4], k ∉ W) (hV : ∀ k ∈ [2, 3, 4], k ∉ V) : pB G B C2 M2 := by
  unfold pB at h ⊢
  rw [c 103 (hW _ (by decide)), c 3 (hW _ (by decide)), c 4 (hW _ (by decide)), d 2 (hV _ (by decide)), d 3 (hV _ (by decide)), d 4 (hV _ (by decide))]
  exact h
theorem pm1.cg {i : Nat} (h : pm1 G B C M i) (c : ∀ k ∈ [6, 7, 8, 9, 10, 11], C2 k i = C k i) (d : ∀ k ∈ [6, 7, 8, 9, 10, 11], M2 k i = M k i) : pm1 G B C2 M2 i := by
  unfold pm1 at h ⊢
  rw [c 6 (by decide), c 7 (by decide), c 8 (by decide), c 9 (by decide), c 10 (by decide), c 11 (by decide), d 6 (by decide), d 7 (by decide), d 8 (by decide), d 9 (by decide), d 10 (by decide), d 11 (by decide)]
  exact h
theorem pM.cg (h : pM G B m C M) (c : dk_fr W C C2) (d : dk_fr V M M2) (hW : ∀ k ∈ [104, 6, 7, 8, 9, 10, 11], k ∉ W) (hV : ∀ k ∈ [5, 6, 7, 8, 9, 10, 11], k ∉ V) : pM G B m C2 M2 := by
  obtain ⟨h1, h2, h3, h4, h5⟩ := h
  refine ⟨h1, by rw [c 104 (hW _ (by decide))]; exact h2, by rw [d 5 (hV _ (by decide))]; exact h3, fun i hi => (h4 i hi).cg (fun k hk => ?_) (fun k hk => ?_), by rw [d 11 (hV _ (by decide))]; exact h5⟩
  · rw [c k (hW k (List.mem_cons_of_mem _ hk))]
  · rw [d k (hV k (List.mem_cons_of_mem _ hk))]
theorem iT.cg {t : Nat} (h : iT t C M) (c : dk_fr W C C2) (d : dk_fr V M M2) (hW : ∀ k ∈ W, k < 1000) (hV : ∀ k ∈ [14, 15], k ∉ V) : iT t C2 M2 := by
  have q : ∀ k, 1000 ≤ k → C2 k = C k := fun k hk => c k (fun z => by have := hW k z; omega)
  unfold iT at h ⊢
  rw [d 14 (hV _ (by decide)), d 15 (hV _ (by decide)), q (1001 + 4 * t + 2 * 0) (by omega), q (1001 + 4 * t + 2 * 1) (by omega), q (1000 + 4 * t + 2 * 0) (by omega), q (1000 + 4 * t + 2 * 1) (by omega)]
  exact h
theorem pT.cg (h : pT T C M) (c : dk_fr W C C2) (d : dk_fr V M M2) (hW : ∀ k ∈ W, k < 1000) (hV : ∀ k ∈ [14, 15], k ∉ V) : pT T C2 M2 := ⟨h.1, fun t ht => (h.2 t ht).cg c d hW hV⟩
theorem pU.cg (h : pU r C M) (c : dk_fr W C C2) (d : dk_fr V M M2) (hW : 114 ∉ W) (hV : 17 ∉ V) : pU r C2 M2 := by
  unfold pU at h ⊢
  rw [c 114 hW, d 17 hV]
  exact h
theorem pN.cg (h : pN T r C M) (c : dk_fr W C C2) (d : dk_fr V M M2) (hW : ∀ k ∈ [100, 101], k ∉ W) (hV : 16 ∉ V) : pN T r C2 M2 := by
  unfold pN at h ⊢
  rw [c 100 (hW _ (by decide)), c 101 (hW _ (by decide)), d 16 hV]
  exact h
theorem pZ.cg (h : pZ z C M) (c : dk_fr W C C2) (d : dk_fr V M M2) (hW : ∀ k ∈ [105, 13], k ∉ W) (hV : ∀ k ∈ [13, 12], k ∉ V) : pZ z C2 M2 := by
  unfold pZ at h ⊢
  rw [c 105 (hW _ (by decide)), c 13 (hW _ (by decide)), d 13 (hV _ (by decide)), d 12 (hV _ (by decide))]
  exact h
theorem pI.cg (h : pI T G C M) (c : dk_fr W C C2) (d : dk_fr V M M2) (hW : ∀ k ∈ [121, 122, 123, 124, 33, 34], k ∉ W) (hV : ∀ k ∈ [31, 32, 33, 34, 35, 36], k ∉ V) : pI T G C2 M2 := by
  unfold pI at h ⊢
  rw [c 121 (hW _ (by decide)), c 122 (hW _ (by decide)), c 123 (hW _ (by decide)), c 124 (hW _ (by decide)), c 33 (hW _ (by decide)), c 34 (hW _ (by decide)), d 31 (hV _ (by decide)), d 32 (hV _ (by decide)), d 33 (hV _ (by decide)), d 34 (hV _ (by decide)), d 35 (hV _ (by decide)), d 36 (hV _ (by decide))]
  exact h
theorem pI.mono (h : pI T G C M) {T2 G2 : Nat} (hT : T ≤ T2) (hG : G ≤ G2) : pI T2 G2 C M := by
  rcases h with h | ⟨a, b, ig, im, ir, c, d, e, f⟩
  · exact Or.inl h
  · exact Or.inr ⟨a, b, ig, im, ir, by omega, d, by omega, f⟩
theorem pS.cg (h : pS C M) (c : dk_fr W C C2) (d : dk_fr V M M2) (hW : ∀ k ∈ [160, 161, 162, 163, 170, 171, 172, 173, 36, 38, 40, 42], k ∉ W) (hV : ∀ k ∈ [37, 38, 39], k ∉ V) : pS C2 M2 := by
  intro j hj
  have q : ∀ k, k = 160 + j ∨ k = 170 + j ∨ k = 36 + 2 * j → C2 k = C k := fun k hk => c k (hW k (by simp only [List.mem_cons, List.not_mem_nil, or_false]; omega))
  obtain ⟨sz, h1⟩ := h j hj
  refine ⟨sz, ?_⟩
  rw [q (160 + j) (by omega), q (170 + j) (by omega), q (36 + 2 * j) (by omega), d 37 (hV _ (by decide)), d 38 (hV _ (by decide)), d 39 (hV _ (by decide))]
  exact h1
/-- keys that hold nothing between two calls -/
def kC : List Nat := [14, 16, 17, 19, 20, 21, 22, 23, 24, 25, 26, 27, 28, 29, 106, 107, 108, 109, 110, 111, 112, 113, 115, 116, 117, 118, 119, 120]
def kM : List Nat := [18, 19, 20, 21, 22, 23, 24, 25, 26, 27, 28, 29, 30, 40, 41, 42, 43, 45, 46, 47, 48, 49, 50]
theorem pE.cg (h : pE T G B m r C M) (c : dk_fr kC C C2) (d : dk_fr kM M M2) : pE T G B m r C2 M2 := by
  obtain ⟨h1, h2, h3, h4, h5, h6⟩ := h
  exact ⟨h1.cg c d (by decide) (by decide), h2.cg c d (by decide) (by decide), h3.cg c d (by decide) (by decide), h4.cg c d (by decide) (by decide), h5, h6.cg c d (by decide) (by decide)⟩
theorem pInv.cg (h : pInv T G B m r z C M) (c : dk_fr kC C C2) (d : dk_fr kM M M2) : pInv T G B m r z C2 M2 := by
  obtain ⟨h1, h2, h3, h4, h5, h6, h7, h8, h9⟩ := h
  exact ⟨h1.cg c d (by decide) (by decide), h2.cg c d (by decide) (by decide), h3.cg c d (by decide) (by decide), h4.cg c d (by decide) (by decide), h5.cg c d (by decide) (by decide), h6.cg c d (by decide) (by decide), h7.cg c d (by decide) (by decide), h8.cg c d (by decide) (by decide), h9.cg c d (by decide) (by decide)⟩
theorem pInv.E (h : pInv T G B m r z C M) : pE T G B m r C M := ⟨h.1, h.2.1, h.2.2.1, h.2.2.2.1, h.2.2.2.2.2.1.1, h.2.2.2.2.1⟩
end CG
