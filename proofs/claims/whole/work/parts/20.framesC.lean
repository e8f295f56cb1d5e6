/-! what a method does not write stays: printed by program from the functions -/
def dk_fr (W : List Nat) (S S2 : dk_S) : Prop := ∀ k, k ∉ W → S2 k = S k
theorem dk_fr.rf {W : List Nat} {S : dk_S} : dk_fr W S S := fun _ _ => rfl
theorem dk_fr.tr {W : List Nat} {S S1 S2 : dk_S} (h : dk_fr W S S1) (h2 : dk_fr W S1 S2) : dk_fr W S S2 := fun k hk => (h2 k hk).trans (h k hk)
theorem dk_fr.up {W W2 : List Nat} {S S2 : dk_S} (h : dk_fr W2 S S2) (hs : ∀ k ∈ W2, k ∈ W) : dk_fr W S S2 := fun k hk => h k (fun q => hk (hs k q))
section FR
variable {β : Type} {W W2 : List Nat} {S0 S : dk_S} {key n : Nat} {i x : Int32} {res : β}
theorem fr_w {K : dk_S → Option β} (g : dk_fr W S0 S) (hm : key ∈ W) (h : dk_w S key n i x K = some res) : ∃ S1, dk_fr W S0 S1 ∧ K S1 = some res :=
  ⟨_, g.tr (fun _ hk => dk_U_n (fun e => hk (e ▸ hm))), (dk_w_out h).2⟩
theorem fr_p {K : dk_S → Option β} (g : dk_fr W S0 S) (hm : key ∈ W) (h : dk_p S key x K = some res) : ∃ S1, dk_fr W S0 S1 ∧ K S1 = some res :=
  ⟨_, g.tr (fun _ hk => dk_U_n (fun e => hk (e ▸ hm))), h⟩
theorem fr_cp {K : dk_S → Option β} {k0 n0 n1 : Nat} {sp dp m : Int32} (g : dk_fr W S0 S) (hm : key ∈ W) (h : dk_cp S k0 key n0 n1 sp dp m K = some res) : ∃ S1, dk_fr W S0 S1 ∧ K S1 = some res :=
  ⟨_, g.tr (fun _ hk => dk_F_n (fun e => hk (e ▸ hm))), (dk_cp_out h).2⟩
theorem fr_c {α : Type} {o : Option (α × dk_S)} {K : α → dk_S → Option β} (g : dk_fr W S0 S) (hf : ∀ q, o = some q → dk_fr W2 S q.2) (hs : ∀ k ∈ W2, k ∈ W) (h : dk_c o K = some res) : ∃ r S1, dk_fr W S0 S1 ∧ K r S1 = some res := by
  obtain ⟨q, h1, h2⟩ := dk_c_out h
  exact ⟨q.1, q.2, g.tr ((hf q h1).up hs), h2⟩
theorem fr_cv {o : Option dk_S} {K : dk_S → Option β} (g : dk_fr W S0 S) (hf : ∀ q, o = some q → dk_fr W2 S q) (hs : ∀ k ∈ W2, k ∈ W) (h : dk_cv o K = some res) : ∃ S1, dk_fr W S0 S1 ∧ K S1 = some res := by
  obtain ⟨q, h1, h2⟩ := dk_cv_out h
  exact ⟨q, g.tr ((hf q h1).up hs), h2⟩
theorem fr_if {c : Prop} [Decidable c] {a b : Option β} (h : (if c then a else b) = some res) : a = some res ∨ b = some res := by
  by_cases q : c
  · rw [if_pos q] at h; exact Or.inl h
  · rw [if_neg q] at h; exact Or.inr h
theorem fr_r {f : Nat → Int32} {K : Int32 → Option β} (h : dk_r n f i K = some res) : ∃ v, K v = some res := ⟨_, (dk_r_out h).2⟩
theorem fr_rl {f : Nat → Int64} {K : Int64 → Option β} (h : dk_rl n f i K = some res) : ∃ v, K v = some res := ⟨_, (dk_rl_out h).2⟩
theorem fr_tx {T : Nat} {K : Nat → Option β} (h : dk_tx T i K = some res) : ∃ v, K v = some res := ⟨_, (dk_tx_out h).2⟩
theorem fr_nr {ty : FieldType} {k : Option β} (h : dk_nr ty x k = some res) : k = some res := by
  unfold dk_nr at h; split at h
  · exact h
  · cases h
theorem fr_rt {α : Type} {x : α} {res : α × dk_S} (h : some (x, S) = some res) (g : dk_fr W S0 S) : dk_fr W S0 res.2 := by cases h; exact g
theorem fr_rtv {res : dk_S} (h : some S = some res) (g : dk_fr W S0 S) : dk_fr W S0 res := by cases h; exact g
theorem fr_sh {K : Nat → Option β} (h : dk_sh i K = some res) : ∃ j, j < 4 ∧ K j = some res := by
  obtain ⟨h1, h2⟩ := dk_sh_out h
  exact ⟨_, Nat.not_le.mp fun q => h1 (Or.inr q), h2⟩
end FR
theorem fb_Land_hasGround_0 {n : Nat} {T : Nat} {res : (Int32 × dk_S)}  {x1 : Int32} {S : dk_S}  (hF : B_Land_hasGround_0 n T  x1 S = some res) : dk_fr [] S res.2 := by
  have g0 : dk_fr [] S S := dk_fr.rf
  unfold B_Land_hasGround_0 at hF
  rcases fr_if hF with hF | hF
  · have hF := (dk_b_out hF).2
    exact fr_rt hF g0
  · rcases fr_if hF with hF | hF
    · have hF := (dk_b_out hF).2
      exact fr_rt hF g0
    · have hF := (dk_b_out hF).2
      exact fr_rt hF g0
theorem fr_Land_hasGround {n : Nat} {T : Nat} {x1 : Int32} {S : dk_S} {res : (Int32 × dk_S)}  (h : F_Land_hasGround n T x1 S = some res) : dk_fr [] S res.2 := fb_Land_hasGround_0 (n := n) (T := T)  h
theorem fb_Land_hasBeast_0 {n : Nat} {T : Nat} {res : (Int32 × dk_S)}  {x1 : Int32} {S : dk_S}  (hF : B_Land_hasBeast_0 n T  x1 S = some res) : dk_fr [] S res.2 := by
  have g0 : dk_fr [] S S := dk_fr.rf
  unfold B_Land_hasBeast_0 at hF
  rcases fr_if hF with hF | hF
  · have hF := (dk_b_out hF).2
    exact fr_rt hF g0
  · rcases fr_if hF with hF | hF
    · have hF := (dk_b_out hF).2
      exact fr_rt hF g0
    · have hF := (dk_b_out hF).2
      exact fr_rt hF g0
theorem fr_Land_hasBeast {n : Nat} {T : Nat} {x1 : Int32} {S : dk_S} {res : (Int32 × dk_S)}  (h : F_Land_hasBeast n T x1 S = some res) : dk_fr [] S res.2 := fb_Land_hasBeast_0 (n := n) (T := T)  h
theorem fb_Land_ownerOf_0 {n : Nat} {T : Nat} {res : (Int32 × dk_S)}  {x1 : Int32} {S : dk_S}  (hF : B_Land_ownerOf_0 n T  x1 S = some res) : dk_fr [] S res.2 := by
  have g0 : dk_fr [] S S := dk_fr.rf
  unfold B_Land_ownerOf_0 at hF
  rcases fr_if hF with hF | hF
  · exact fr_rt hF g0
  · rcases fr_if hF with hF | hF
    · exact fr_rt hF g0
    · obtain ⟨v1, hF⟩ := fr_r hF
      exact fr_rt hF g0
theorem fr_Land_ownerOf {n : Nat} {T : Nat} {x1 : Int32} {S : dk_S} {res : (Int32 × dk_S)}  (h : F_Land_ownerOf n T x1 S = some res) : dk_fr [] S res.2 := fb_Land_ownerOf_0 (n := n) (T := T)  h
theorem fb_Land_isTame_0 {n : Nat} {T : Nat} {res : (Int32 × dk_S)}  {x1 : Int32} {S : dk_S}  (hF : B_Land_isTame_0 n T  x1 S = some res) : dk_fr [] S res.2 := by
  have g0 : dk_fr [] S S := dk_fr.rf
  unfold B_Land_isTame_0 at hF
  rcases fr_if hF with hF | hF
  · have hF := (dk_b_out hF).2
    exact fr_rt hF g0
  · rcases fr_if hF with hF | hF
    · have hF := (dk_b_out hF).2
      exact fr_rt hF g0
    · obtain ⟨v1, hF⟩ := fr_r hF
      rcases fr_if hF with hF | hF
      · have hF := (dk_b_out hF).2
        exact fr_rt hF g0
      · have hF := (dk_b_out hF).2
        exact fr_rt hF g0
theorem fr_Land_isTame {n : Nat} {T : Nat} {x1 : Int32} {S : dk_S} {res : (Int32 × dk_S)}  (h : F_Land_isTame n T x1 S = some res) : dk_fr [] S res.2 := fb_Land_isTame_0 (n := n) (T := T)  h
theorem fb_Land_addGround_0 {n : Nat} {T : Nat} {res : (Int32 × dk_S)}  {x1 : Int32} {S : dk_S}  (hF : B_Land_addGround_0 n T  x1 S = some res) : dk_fr [2, 102] S res.2 := by
  have g0 : dk_fr [2, 102] S S := dk_fr.rf
  unfold B_Land_addGround_0 at hF
  rcases fr_if hF with hF | hF
  · obtain ⟨S1, gS1, hF⟩ := fr_w g0 (by decide) hF
    obtain ⟨S2, gS2, hF⟩ := fr_p gS1 (by decide) hF
    exact fr_rt hF gS2
  · exact fr_rt hF g0
theorem fr_Land_addGround {n : Nat} {T : Nat} {x1 : Int32} {S : dk_S} {res : (Int32 × dk_S)}  (h : F_Land_addGround n T x1 S = some res) : dk_fr [2, 102] S res.2 := fb_Land_addGround_0 (n := n) (T := T)  h
theorem fb_Land_addBeast_0 {n : Nat} {T : Nat} {res : (Int32 × dk_S)}  {x1 : Int32} {x2 : Int32} {S : dk_S}  (hF : B_Land_addBeast_0 n T  x1 x2 S = some res) : dk_fr [3, 4, 103] S res.2 := by
  have g0 : dk_fr [3, 4, 103] S S := dk_fr.rf
  unfold B_Land_addBeast_0 at hF
  rcases fr_if hF with hF | hF
  · obtain ⟨S1, gS1, hF⟩ := fr_w g0 (by decide) hF
    obtain ⟨S2, gS2, hF⟩ := fr_w gS1 (by decide) hF
    obtain ⟨S3, gS3, hF⟩ := fr_p gS2 (by decide) hF
    exact fr_rt hF gS3
  · exact fr_rt hF g0
theorem fr_Land_addBeast {n : Nat} {T : Nat} {x1 : Int32} {x2 : Int32} {S : dk_S} {res : (Int32 × dk_S)}  (h : F_Land_addBeast n T x1 x2 S = some res) : dk_fr [3, 4, 103] S res.2 := fb_Land_addBeast_0 (n := n) (T := T)  h
theorem fb_Diary_has_0 {n : Nat} {T : Nat} {res : (Int32 × dk_S)}  {x1 : Int32} {S : dk_S}  (hF : B_Diary_has_0 n T  x1 S = some res) : dk_fr [] S res.2 := by
  have g0 : dk_fr [] S S := dk_fr.rf
  unfold B_Diary_has_0 at hF
  rcases fr_if hF with hF | hF
  · have hF := (dk_b_out hF).2
    exact fr_rt hF g0
  · rcases fr_if hF with hF | hF
    · have hF := (dk_b_out hF).2
      exact fr_rt hF g0
    · have hF := (dk_b_out hF).2
      exact fr_rt hF g0
theorem fr_Diary_has {n : Nat} {T : Nat} {x1 : Int32} {S : dk_S} {res : (Int32 × dk_S)}  (h : F_Diary_has n T x1 S = some res) : dk_fr [] S res.2 := fb_Diary_has_0 (n := n) (T := T)  h
theorem fb_Diary_reaches_0 {n : Nat} {T : Nat} {res : (Int32 × dk_S)}  {x1 : Int32} {S : dk_S}  (hF : B_Diary_reaches_0 n T  x1 S = some res) : dk_fr [] S res.2 := by
  have g0 : dk_fr [] S S := dk_fr.rf
  unfold B_Diary_reaches_0 at hF
  rcases fr_if hF with hF | hF
  · have hF := (dk_b_out hF).2
    exact fr_rt hF g0
  · rcases fr_if hF with hF | hF
    · have hF := (dk_b_out hF).2
      exact fr_rt hF g0
    · have hF := (dk_b_out hF).2
      exact fr_rt hF g0
theorem fr_Diary_reaches {n : Nat} {T : Nat} {x1 : Int32} {S : dk_S} {res : (Int32 × dk_S)}  (h : F_Diary_reaches n T x1 S = some res) : dk_fr [] S res.2 := fb_Diary_reaches_0 (n := n) (T := T)  h
theorem fb_Diary_lastTime_0 {n : Nat} {T : Nat} {res : (Int32 × dk_S)}   {S : dk_S}  (hF : B_Diary_lastTime_0 n T   S = some res) : dk_fr [] S res.2 := by
  have g0 : dk_fr [] S S := dk_fr.rf
  unfold B_Diary_lastTime_0 at hF
  rcases fr_if hF with hF | hF
  · obtain ⟨v1, hF⟩ := fr_r hF
    exact fr_rt hF g0
  · exact fr_rt hF g0
theorem fr_Diary_lastTime {n : Nat} {T : Nat}  {S : dk_S} {res : (Int32 × dk_S)}  (h : F_Diary_lastTime n T  S = some res) : dk_fr [] S res.2 := fb_Diary_lastTime_0 (n := n) (T := T)  h
theorem fb_Diary_countUnsure_4b {n : Nat} {T : Nat} {res : (Int32 × dk_S)} {k4 : Int32 → Int32 → dk_S → Option (Int32 × dk_S)} (hk4 : ∀ (x1 : Int32) (x2 : Int32)  (S : dk_S), k4 x1 x2 S = some res → dk_fr [] S res.2) {x1 : Int32} {x2 : Int32} {S : dk_S}  (hF : B_Diary_countUnsure_4b n T k4 x1 x2 S = some res) : dk_fr [] S res.2 := by
  have g0 : dk_fr [] S S := dk_fr.rf
  unfold B_Diary_countUnsure_4b at hF
  rcases fr_if hF with hF | hF
  · exact fr_rt hF g0
  · obtain ⟨v1, hF⟩ := fr_r hF
    exact g0.tr (hk4 (x1 + v1) (x2 + (1 : Int32)) S hF)
theorem fb_Diary_countUnsure_4 {n : Nat} {T : Nat} {res : (Int32 × dk_S)}  : ∀ (q : Nat) (x1 : Int32) (x2 : Int32)  (S : dk_S), B_Diary_countUnsure_4 n T  q x1 x2 S = some res → dk_fr [] S res.2 := by
  intro q
  induction q with
  | zero => intro x1 x2  S hF; cases hF
  | succ q ih => intro x1 x2  S hF; exact fb_Diary_countUnsure_4b (n := n) (T := T) ih  hF
theorem fb_Diary_countUnsure_0 {n : Nat} {T : Nat} {res : (Int32 × dk_S)}   {S : dk_S}  (hF : B_Diary_countUnsure_0 n T   S = some res) : dk_fr [] S res.2 := by
  have g0 : dk_fr [] S S := dk_fr.rf
  unfold B_Diary_countUnsure_0 at hF
  exact g0.tr (fb_Diary_countUnsure_4 (n := n) (T := T)  n (0 : Int32) (0 : Int32) S hF)
theorem fr_Diary_countUnsure {n : Nat} {T : Nat}  {S : dk_S} {res : (Int32 × dk_S)}  (h : F_Diary_countUnsure n T  S = some res) : dk_fr [] S res.2 := fb_Diary_countUnsure_0 (n := n) (T := T)  h
theorem fb_Diary_add_0 {n : Nat} {T : Nat} {res : (Int32 × dk_S)}  {x1 : Int32} {x2 : Int32} {x3 : Int32} {x4 : Int32} {x5 : Int32} {S : dk_S}  (hF : B_Diary_add_0 n T  x1 x2 x3 x4 x5 S = some res) : dk_fr [6, 7, 8, 9, 10, 11, 104] S res.2 := by
  have g0 : dk_fr [6, 7, 8, 9, 10, 11, 104] S S := dk_fr.rf
  unfold B_Diary_add_0 at hF
  rcases fr_if hF with hF | hF
  · obtain ⟨S1, gS1, hF⟩ := fr_w g0 (by decide) hF
    obtain ⟨S2, gS2, hF⟩ := fr_w gS1 (by decide) hF
    obtain ⟨S3, gS3, hF⟩ := fr_w gS2 (by decide) hF
    obtain ⟨S4, gS4, hF⟩ := fr_w gS3 (by decide) hF
    obtain ⟨S5, gS5, hF⟩ := fr_w gS4 (by decide) hF
    obtain ⟨S6, gS6, hF⟩ := fr_w gS5 (by decide) hF
    obtain ⟨S7, gS7, hF⟩ := fr_p gS6 (by decide) hF
    exact fr_rt hF gS7
  · exact fr_rt hF g0
theorem fr_Diary_add {n : Nat} {T : Nat} {x1 : Int32} {x2 : Int32} {x3 : Int32} {x4 : Int32} {x5 : Int32} {S : dk_S} {res : (Int32 × dk_S)}  (h : F_Diary_add n T x1 x2 x3 x4 x5 S = some res) : dk_fr [6, 7, 8, 9, 10, 11, 104] S res.2 := fb_Diary_add_0 (n := n) (T := T)  h
theorem fb_Diary_dropLast_0 {n : Nat} {T : Nat} {res : (Int32 × dk_S)}   {S : dk_S}  (hF : B_Diary_dropLast_0 n T   S = some res) : dk_fr [104] S res.2 := by
  have g0 : dk_fr [104] S S := dk_fr.rf
  unfold B_Diary_dropLast_0 at hF
  rcases fr_if hF with hF | hF
  · obtain ⟨S1, gS1, hF⟩ := fr_p g0 (by decide) hF
    obtain ⟨v2, hF⟩ := fr_r hF
    exact fr_rt hF gS1
  · exact fr_rt hF g0
theorem fr_Diary_dropLast {n : Nat} {T : Nat}  {S : dk_S} {res : (Int32 × dk_S)}  (h : F_Diary_dropLast n T  S = some res) : dk_fr [104] S res.2 := fb_Diary_dropLast_0 (n := n) (T := T)  h
theorem fb_Arrays_fill_5b {n : Nat} {T : Nat} {res : dk_S} {k5 : Nat → Int32 → Int32 → Int32 → dk_S → Option dk_S} (hk5 : ∀ (jx0 : Nat) (x1 : Int32) (x2 : Int32) (x3 : Int32) (hx0 : jx0 < 4) (S : dk_S), k5 jx0 x1 x2 x3 S = some res → dk_fr [36, 38, 40, 42] S res) {jx0 : Nat} {x1 : Int32} {x2 : Int32} {x3 : Int32} {S : dk_S} (hx0 : jx0 < 4) (hF : B_Arrays_fill_5b n T k5 jx0 x1 x2 x3 S = some res) : dk_fr [36, 38, 40, 42] S res := by
  have g0 : dk_fr [36, 38, 40, 42] S S := dk_fr.rf
  unfold B_Arrays_fill_5b at hF
  rcases fr_if hF with hF | hF
  · exact fr_rtv hF g0
  · obtain ⟨S1, gS1, hF⟩ := fr_w g0 (by simp only [List.mem_cons, List.not_mem_nil, or_false]; omega) hF
    exact gS1.tr (hk5 jx0 x1 (x2 + (1 : Int32)) x3 hx0 S1 hF)
theorem fb_Arrays_fill_5 {n : Nat} {T : Nat} {res : dk_S}  : ∀ (q : Nat) (jx0 : Nat) (x1 : Int32) (x2 : Int32) (x3 : Int32) (hx0 : jx0 < 4) (S : dk_S), B_Arrays_fill_5 n T  q jx0 x1 x2 x3 S = some res → dk_fr [36, 38, 40, 42] S res := by
  intro q
  induction q with
  | zero => intro jx0 x1 x2 x3 hx0 S hF; cases hF
  | succ q ih => intro jx0 x1 x2 x3 hx0 S hF; exact fb_Arrays_fill_5b (n := n) (T := T) ih hx0 hF
theorem fb_Arrays_fill_0 {n : Nat} {T : Nat} {res : dk_S}  {jx0 : Nat} {x1 : Int32} {S : dk_S} (hx0 : jx0 < 4) (hF : B_Arrays_fill_0 n T  jx0 x1 S = some res) : dk_fr [36, 38, 40, 42] S res := by
  have g0 : dk_fr [36, 38, 40, 42] S S := dk_fr.rf
  unfold B_Arrays_fill_0 at hF
  exact g0.tr (fb_Arrays_fill_5 (n := n) (T := T)  n jx0 x1 (0 : Int32) (nI 40) hx0 S hF)
theorem fr_Arrays_fill {n : Nat} {T : Nat} {jx0 : Nat} {x1 : Int32} {S : dk_S} {res : dk_S} (hx0 : jx0 < 4) (h : F_Arrays_fill n T jx0 x1 S = some res) : dk_fr [36, 38, 40, 42] S res := fb_Arrays_fill_0 (n := n) (T := T) hx0 h
theorem fb_Integer_bitCount_0 {n : Nat} {T : Nat} {res : (Int32 × dk_S)}  {x0 : Int32} {S : dk_S}  (hF : B_Integer_bitCount_0 n T  x0 S = some res) : dk_fr [] S res.2 := by
  have g0 : dk_fr [] S S := dk_fr.rf
  unfold B_Integer_bitCount_0 at hF
  exact fr_rt hF g0
theorem fr_Integer_bitCount {n : Nat} {T : Nat} {x0 : Int32} {S : dk_S} {res : (Int32 × dk_S)}  (h : F_Integer_bitCount n T x0 S = some res) : dk_fr [] S res.2 := fb_Integer_bitCount_0 (n := n) (T := T)  h
theorem fb_Sheet_isMissing_0 {n : Nat} {T : Nat} {res : (Int32 × dk_S)}  {jx0 : Nat} {S : dk_S} (hx0 : jx0 < 4) (hF : B_Sheet_isMissing_0 n T  jx0 S = some res) : dk_fr [] S res.2 := by
  have g0 : dk_fr [] S S := dk_fr.rf
  unfold B_Sheet_isMissing_0 at hF
  rcases fr_if hF with hF | hF
  · have hF := (dk_b_out hF).2
    exact fr_rt hF g0
  · have hF := (dk_b_out hF).2
    exact fr_rt hF g0
theorem fr_Sheet_isMissing {n : Nat} {T : Nat} {jx0 : Nat} {S : dk_S} {res : (Int32 × dk_S)} (hx0 : jx0 < 4) (h : F_Sheet_isMissing n T jx0 S = some res) : dk_fr [] S res.2 := fb_Sheet_isMissing_0 (n := n) (T := T) hx0 h
theorem fb_Sheet_has_0 {n : Nat} {T : Nat} {res : (Int32 × dk_S)}  {jx0 : Nat} {x1 : Int32} {S : dk_S} (hx0 : jx0 < 4) (hF : B_Sheet_has_0 n T  jx0 x1 S = some res) : dk_fr [] S res.2 := by
  have g0 : dk_fr [] S S := dk_fr.rf
  unfold B_Sheet_has_0 at hF
  rcases fr_if hF with hF | hF
  · have hF := (dk_b_out hF).2
    exact fr_rt hF g0
  · rcases fr_if hF with hF | hF
    · have hF := (dk_b_out hF).2
      exact fr_rt hF g0
    · have hF := (dk_b_out hF).2
      exact fr_rt hF g0
theorem fr_Sheet_has {n : Nat} {T : Nat} {jx0 : Nat} {x1 : Int32} {S : dk_S} {res : (Int32 × dk_S)} (hx0 : jx0 < 4) (h : F_Sheet_has n T jx0 x1 S = some res) : dk_fr [] S res.2 := fb_Sheet_has_0 (n := n) (T := T) hx0 h
theorem fb_Sheet_hasRun_0 {n : Nat} {T : Nat} {res : (Int32 × dk_S)}  {jx0 : Nat} {x1 : Int32} {x2 : Int32} {S : dk_S} (hx0 : jx0 < 4) (hF : B_Sheet_hasRun_0 n T  jx0 x1 x2 S = some res) : dk_fr [] S res.2 := by
  have g0 : dk_fr [] S S := dk_fr.rf
  unfold B_Sheet_hasRun_0 at hF
  rcases fr_if hF with hF | hF
  · have hF := (dk_b_out hF).2
    exact fr_rt hF g0
  · rcases fr_if hF with hF | hF
    · have hF := (dk_b_out hF).2
      exact fr_rt hF g0
    · rcases fr_if hF with hF | hF
      · have hF := (dk_b_out hF).2
        exact fr_rt hF g0
      · rcases fr_if hF with hF | hF
        · have hF := (dk_b_out hF).2
          exact fr_rt hF g0
        · have hF := (dk_b_out hF).2
          exact fr_rt hF g0
theorem fr_Sheet_hasRun {n : Nat} {T : Nat} {jx0 : Nat} {x1 : Int32} {x2 : Int32} {S : dk_S} {res : (Int32 × dk_S)} (hx0 : jx0 < 4) (h : F_Sheet_hasRun n T jx0 x1 x2 S = some res) : dk_fr [] S res.2 := fb_Sheet_hasRun_0 (n := n) (T := T) hx0 h
theorem fb_Sheet_become_0 {n : Nat} {T : Nat} {res : dk_S}  {jx0 : Nat} {x1 : Int32} {x2 : Int32} {S : dk_S} (hx0 : jx0 < 4) (hF : B_Sheet_become_0 n T  jx0 x1 x2 S = some res) : dk_fr [36, 38, 40, 42, 160, 161, 162, 163, 170, 171, 172, 173] S res := by
  have g0 : dk_fr [36, 38, 40, 42, 160, 161, 162, 163, 170, 171, 172, 173] S S := dk_fr.rf
  unfold B_Sheet_become_0 at hF
  obtain ⟨S1, gS1, hF⟩ := fr_p g0 (by simp only [List.mem_cons, List.not_mem_nil, or_false]; omega) hF
  obtain ⟨S2, gS2, hF⟩ := fr_p gS1 (by simp only [List.mem_cons, List.not_mem_nil, or_false]; omega) hF
  obtain ⟨S3, gS3, hF⟩ := fr_cv gS2 (fun _ h => fr_Arrays_fill (by first | assumption | decide) h) (by decide) hF
  exact fr_rtv hF gS3
theorem fr_Sheet_become {n : Nat} {T : Nat} {jx0 : Nat} {x1 : Int32} {x2 : Int32} {S : dk_S} {res : dk_S} (hx0 : jx0 < 4) (h : F_Sheet_become n T jx0 x1 x2 S = some res) : dk_fr [36, 38, 40, 42, 160, 161, 162, 163, 170, 171, 172, 173] S res := fb_Sheet_become_0 (n := n) (T := T) hx0 h
theorem fb_Sheet_put_0 {n : Nat} {T : Nat} {res : dk_S}  {jx0 : Nat} {x1 : Int32} {x2 : Int32} {S : dk_S} (hx0 : jx0 < 4) (hF : B_Sheet_put_0 n T  jx0 x1 x2 S = some res) : dk_fr [36, 38, 40, 42] S res := by
  have g0 : dk_fr [36, 38, 40, 42] S S := dk_fr.rf
  unfold B_Sheet_put_0 at hF
  rcases fr_if hF with hF | hF
  · obtain ⟨S1, gS1, hF⟩ := fr_w g0 (by simp only [List.mem_cons, List.not_mem_nil, or_false]; omega) hF
    exact fr_rtv hF gS1
  · rcases fr_if hF with hF | hF
    · obtain ⟨S2, gS2, hF⟩ := fr_w g0 (by simp only [List.mem_cons, List.not_mem_nil, or_false]; omega) hF
      exact fr_rtv hF gS2
    · obtain ⟨S3, gS3, hF⟩ := fr_w g0 (by simp only [List.mem_cons, List.not_mem_nil, or_false]; omega) hF
      exact fr_rtv hF gS3
theorem fr_Sheet_put {n : Nat} {T : Nat} {jx0 : Nat} {x1 : Int32} {x2 : Int32} {S : dk_S} {res : dk_S} (hx0 : jx0 < 4) (h : F_Sheet_put n T jx0 x1 x2 S = some res) : dk_fr [36, 38, 40, 42] S res := fb_Sheet_put_0 (n := n) (T := T) hx0 h
theorem fb_Image_keep_0 {n : Nat} {T : Nat} {res : dk_S}  {x3 : Int32} {S : dk_S}  (hF : B_Image_keep_0 n T  x3 S = some res) : dk_fr [33, 34, 121, 122, 123, 124] S res := by
  have g0 : dk_fr [33, 34, 121, 122, 123, 124] S S := dk_fr.rf
  unfold B_Image_keep_0 at hF
  have hF := (dk_b_out hF).2
  obtain ⟨S1, gS1, hF⟩ := fr_p g0 (by decide) hF
  obtain ⟨S2, gS2, hF⟩ := fr_p gS1 (by decide) hF
  obtain ⟨S3, gS3, hF⟩ := fr_p gS2 (by decide) hF
  obtain ⟨S4, gS4, hF⟩ := fr_p gS3 (by decide) hF
  obtain ⟨S5, gS5, hF⟩ := fr_cp gS4 (by decide) hF
  obtain ⟨S6, gS6, hF⟩ := fr_cp gS5 (by decide) hF
  exact fr_rtv hF gS6
theorem fr_Image_keep {n : Nat} {T : Nat} {x3 : Int32} {S : dk_S} {res : dk_S}  (h : F_Image_keep n T x3 S = some res) : dk_fr [33, 34, 121, 122, 123, 124] S res := fb_Image_keep_0 (n := n) (T := T)  h
theorem fb_Image_restore_0 {n : Nat} {T : Nat} {res : dk_S}   {S : dk_S}  (hF : B_Image_restore_0 n T   S = some res) : dk_fr [2, 11, 104] S res := by
  have g0 : dk_fr [2, 11, 104] S S := dk_fr.rf
  unfold B_Image_restore_0 at hF
  obtain ⟨S1, gS1, hF⟩ := fr_cp g0 (by decide) hF
  obtain ⟨S2, gS2, hF⟩ := fr_p gS1 (by decide) hF
  obtain ⟨S3, gS3, hF⟩ := fr_cp gS2 (by decide) hF
  exact fr_rtv hF gS3
theorem fr_Image_restore {n : Nat} {T : Nat}  {S : dk_S} {res : dk_S}  (h : F_Image_restore n T  S = some res) : dk_fr [2, 11, 104] S res := fb_Image_restore_0 (n := n) (T := T)  h
theorem fb_Scales_ofOne_0 {n : Nat} {T : Nat} {res : (Int32 × dk_S)}  {x0 : Int32} {x1 : Int32} {S : dk_S}  (hF : B_Scales_ofOne_0 n T  x0 x1 S = some res) : dk_fr [] S res.2 := by
  have g0 : dk_fr [] S S := dk_fr.rf
  unfold B_Scales_ofOne_0 at hF
  rcases fr_if hF with hF | hF
  · rcases fr_if hF with hF | hF
    · exact fr_rt hF g0
    · exact fr_rt hF g0
  · exact fr_rt hF g0
theorem fr_Scales_ofOne {n : Nat} {T : Nat} {x0 : Int32} {x1 : Int32} {S : dk_S} {res : (Int32 × dk_S)}  (h : F_Scales_ofOne n T x0 x1 S = some res) : dk_fr [] S res.2 := fb_Scales_ofOne_0 (n := n) (T := T)  h
theorem fb_Scales_ofTwo_0 {n : Nat} {T : Nat} {res : (Int32 × dk_S)}  {x0 : Int32} {x1 : Int32} {x2 : Int32} {S : dk_S}  (hF : B_Scales_ofTwo_0 n T  x0 x1 x2 S = some res) : dk_fr [] S res.2 := by
  have g0 : dk_fr [] S S := dk_fr.rf
  unfold B_Scales_ofTwo_0 at hF
  rcases fr_if hF with hF | hF
  · rcases fr_if hF with hF | hF
    · exact fr_rt hF g0
    · rcases fr_if hF with hF | hF
      · exact fr_rt hF g0
      · exact fr_rt hF g0
  · rcases fr_if hF with hF | hF
    · rcases fr_if hF with hF | hF
      · exact fr_rt hF g0
      · exact fr_rt hF g0
    · rcases fr_if hF with hF | hF
      · rcases fr_if hF with hF | hF
        · exact fr_rt hF g0
        · exact fr_rt hF g0
      · rcases fr_if hF with hF | hF
        · exact fr_rt hF g0
        · rcases fr_if hF with hF | hF
          · exact fr_rt hF g0
          · rcases fr_if hF with hF | hF
            · exact fr_rt hF g0
            · rcases fr_if hF with hF | hF
              · exact fr_rt hF g0
              · rcases fr_if hF with hF | hF
                · exact fr_rt hF g0
                · exact fr_rt hF g0
theorem fr_Scales_ofTwo {n : Nat} {T : Nat} {x0 : Int32} {x1 : Int32} {x2 : Int32} {S : dk_S} {res : (Int32 × dk_S)}  (h : F_Scales_ofTwo n T x0 x1 x2 S = some res) : dk_fr [] S res.2 := fb_Scales_ofTwo_0 (n := n) (T := T)  h
theorem fb_Scales_setName_0 {n : Nat} {T : Nat} {res : dk_S}  {x1 : Int32} {x2 : Int32} {S : dk_S}  (hF : B_Scales_setName_0 n T  x1 x2 S = some res) : dk_fr [16] S res := by
  have g0 : dk_fr [16] S S := dk_fr.rf
  unfold B_Scales_setName_0 at hF
  rcases fr_if hF with hF | hF
  · exact fr_rtv hF g0
  · rcases fr_if hF with hF | hF
    · exact fr_rtv hF g0
    · obtain ⟨S1, gS1, hF⟩ := fr_w g0 (by decide) hF
      exact fr_rtv hF gS1
theorem fr_Scales_setName {n : Nat} {T : Nat} {x1 : Int32} {x2 : Int32} {S : dk_S} {res : dk_S}  (h : F_Scales_setName n T x1 x2 S = some res) : dk_fr [16] S res := fb_Scales_setName_0 (n := n) (T := T)  h
theorem fb_Scales_value_133 {n : Nat} {T : Nat} {res : (Int32 × dk_S)} {k4 : Nat → Nat → Int32 → Int32 → dk_S → Option (Int32 × dk_S)} (hk4 : ∀ (tx1 : Nat) (bx1 : Nat) (x2 : Int32) (x3 : Int32) (hx1 : tx1 < T) (hbx1 : bx1 < 2) (S : dk_S), k4 tx1 bx1 x2 x3 S = some res → dk_fr [17] S res.2) {tx1 : Nat} {bx1 : Nat} {x2 : Int32} {x3 : Int32} {S : dk_S} (hx1 : tx1 < T) (hbx1 : bx1 < 2) (hF : B_Scales_value_133 n T k4 tx1 bx1 x2 x3 S = some res) : dk_fr [17] S res.2 := by
  have g0 : dk_fr [17] S S := dk_fr.rf
  unfold B_Scales_value_133 at hF
  exact g0.tr (hk4 tx1 bx1 x2 (x3 + (1 : Int32)) hx1 hbx1 S hF)
theorem fb_Scales_value_55 {n : Nat} {T : Nat} {res : (Int32 × dk_S)} {k4 : Nat → Nat → Int32 → Int32 → dk_S → Option (Int32 × dk_S)} (hk4 : ∀ (tx1 : Nat) (bx1 : Nat) (x2 : Int32) (x3 : Int32) (hx1 : tx1 < T) (hbx1 : bx1 < 2) (S : dk_S), k4 tx1 bx1 x2 x3 S = some res → dk_fr [17] S res.2) {tx1 : Nat} {bx1 : Nat} {x2 : Int32} {x3 : Int32} {u1 : Int32} {u2 : Int32} {S : dk_S} (hx1 : tx1 < T) (hbx1 : bx1 < 2) (hF : B_Scales_value_55 n T k4 tx1 bx1 x2 x3 u1 u2 S = some res) : dk_fr [17] S res.2 := by
  have g0 : dk_fr [17] S S := dk_fr.rf
  unfold B_Scales_value_55 at hF
  obtain ⟨S1, gS1, hF⟩ := fr_w g0 (by decide) hF
  exact gS1.tr (fb_Scales_value_133 (n := n) (T := T) hk4 hx1 hbx1 hF)
theorem fb_Scales_value_4b {n : Nat} {T : Nat} {res : (Int32 × dk_S)} {k4 : Nat → Nat → Int32 → Int32 → dk_S → Option (Int32 × dk_S)} (hk4 : ∀ (tx1 : Nat) (bx1 : Nat) (x2 : Int32) (x3 : Int32) (hx1 : tx1 < T) (hbx1 : bx1 < 2) (S : dk_S), k4 tx1 bx1 x2 x3 S = some res → dk_fr [17] S res.2) {tx1 : Nat} {bx1 : Nat} {x2 : Int32} {x3 : Int32} {S : dk_S} (hx1 : tx1 < T) (hbx1 : bx1 < 2) (hF : B_Scales_value_4b n T k4 tx1 bx1 x2 x3 S = some res) : dk_fr [17] S res.2 := by
  have g0 : dk_fr [17] S S := dk_fr.rf
  unfold B_Scales_value_4b at hF
  rcases fr_if hF with hF | hF
  · rcases fr_if hF with hF | hF
    · exact fr_rt hF g0
    · obtain ⟨v2, hF⟩ := fr_r hF
      exact fr_rt hF g0
  · obtain ⟨v3, hF⟩ := fr_r hF
    rcases fr_if hF with hF | hF
    · rcases fr_if hF with hF | hF
      · rcases fr_if hF with hF | hF
        · exact g0.tr (fb_Scales_value_133 (n := n) (T := T) hk4 hx1 hbx1 hF)
        · obtain ⟨v4, hF⟩ := fr_r hF
          obtain ⟨v5, hF⟩ := fr_r hF
          obtain ⟨r7, S6, gS6, hF⟩ := fr_c g0 (fun _ h => fr_Scales_ofTwo h) (by decide) hF
          obtain ⟨S8, gS8, hF⟩ := fr_w gS6 (by decide) hF
          exact gS8.tr (fb_Scales_value_133 (n := n) (T := T) hk4 hx1 hbx1 hF)
      · rcases fr_if hF with hF | hF
        · exact g0.tr (fb_Scales_value_133 (n := n) (T := T) hk4 hx1 hbx1 hF)
        · obtain ⟨v9, hF⟩ := fr_r hF
          obtain ⟨r11, S10, gS10, hF⟩ := fr_c g0 (fun _ h => fr_Scales_ofOne h) (by decide) hF
          obtain ⟨S12, gS12, hF⟩ := fr_w gS10 (by decide) hF
          exact gS12.tr (fb_Scales_value_133 (n := n) (T := T) hk4 hx1 hbx1 hF)
    · rcases fr_if hF with hF | hF
      · exact g0.tr (fb_Scales_value_133 (n := n) (T := T) hk4 hx1 hbx1 hF)
      · rcases fr_if hF with hF | hF
        · obtain ⟨v13, hF⟩ := fr_r hF
          exact g0.tr (fb_Scales_value_55 (n := n) (T := T) hk4 hx1 hbx1 hF)
        · exact g0.tr (fb_Scales_value_55 (n := n) (T := T) hk4 hx1 hbx1 hF)
theorem fb_Scales_value_4 {n : Nat} {T : Nat} {res : (Int32 × dk_S)}  : ∀ (q : Nat) (tx1 : Nat) (bx1 : Nat) (x2 : Int32) (x3 : Int32) (hx1 : tx1 < T) (hbx1 : bx1 < 2) (S : dk_S), B_Scales_value_4 n T  q tx1 bx1 x2 x3 S = some res → dk_fr [17] S res.2 := by
  intro q
  induction q with
  | zero => intro tx1 bx1 x2 x3 hx1 hbx1 S hF; cases hF
  | succ q ih => intro tx1 bx1 x2 x3 hx1 hbx1 S hF; exact fb_Scales_value_4b (n := n) (T := T) ih hx1 hbx1 hF
theorem fb_Scales_value_0 {n : Nat} {T : Nat} {res : (Int32 × dk_S)}  {tx1 : Nat} {bx1 : Nat} {S : dk_S} (hx1 : tx1 < T) (hbx1 : bx1 < 2) (hF : B_Scales_value_0 n T  tx1 bx1 S = some res) : dk_fr [17] S res.2 := by
  have g0 : dk_fr [17] S S := dk_fr.rf
  unfold B_Scales_value_0 at hF
  exact g0.tr (fb_Scales_value_4 (n := n) (T := T)  n tx1 bx1 (0 : Int32) (0 : Int32) hx1 hbx1 S hF)
theorem fr_Scales_value {n : Nat} {T : Nat} {tx1 : Nat} {bx1 : Nat} {S : dk_S} {res : (Int32 × dk_S)} (hx1 : tx1 < T) (hbx1 : bx1 < 2) (h : F_Scales_value n T tx1 bx1 S = some res) : dk_fr [17] S res.2 := fb_Scales_value_0 (n := n) (T := T) hx1 hbx1 h
theorem fb_Scene_mayFollow_84 {n : Nat} {T : Nat} {res : (Int32 × dk_S)}  {x1 : Int32} {u1 : Int32} {u2 : Int32} {S : dk_S}  (hF : B_Scene_mayFollow_84 n T  x1 u1 u2 S = some res) : dk_fr [16, 17] S res.2 := by
  have g0 : dk_fr [16, 17] S S := dk_fr.rf
  unfold B_Scene_mayFollow_84 at hF
  obtain ⟨S1, gS1, hF⟩ := fr_cv g0 (fun _ h => fr_Scales_setName h) (by decide) hF
  obtain ⟨S3, gS3, hF⟩ := fr_cv gS1 (fun _ h => fr_Scales_setName h) (by decide) hF
  obtain ⟨t5, ht5, et5, hF⟩ := dk_t_out hF
  obtain ⟨r7, S6, gS6, hF⟩ := fr_c gS3 (fun _ h => fr_Scales_value (by first | assumption | decide) (by first | assumption | decide) h) (by decide) hF
  rcases fr_if hF with hF | hF
  · have hF := (dk_b_out hF).2
    exact fr_rt hF gS6
  · have hF := (dk_b_out hF).2
    exact fr_rt hF gS6
theorem fb_Scene_mayFollow_59 {n : Nat} {T : Nat} {res : (Int32 × dk_S)}  {x1 : Int32} {x3 : Int32} {u1 : Int32} {u2 : Int32} {S : dk_S}  (hF : B_Scene_mayFollow_59 n T  x1 x3 u1 u2 S = some res) : dk_fr [16, 17] S res.2 := by
  have g0 : dk_fr [16, 17] S S := dk_fr.rf
  unfold B_Scene_mayFollow_59 at hF
  obtain ⟨S8, gS8, hF⟩ := fr_cv g0 (fun _ h => fr_Scales_setName h) (by decide) hF
  obtain ⟨r11, S10, gS10, hF⟩ := fr_c gS8 (fun _ h => fr_Land_isTame h) (by decide) hF
  rcases fr_if hF with hF | hF
  · exact gS10.tr (fb_Scene_mayFollow_84 (n := n) (T := T)   hF)
  · exact gS10.tr (fb_Scene_mayFollow_84 (n := n) (T := T)   hF)
theorem fb_Scene_mayFollow_0 {n : Nat} {T : Nat} {res : (Int32 × dk_S)}  {x1 : Int32} {x2 : Int32} {x3 : Int32} {S : dk_S}  (hF : B_Scene_mayFollow_0 n T  x1 x2 x3 S = some res) : dk_fr [16, 17] S res.2 := by
  have g0 : dk_fr [16, 17] S S := dk_fr.rf
  unfold B_Scene_mayFollow_0 at hF
  obtain ⟨r13, S12, gS12, hF⟩ := fr_c g0 (fun _ h => fr_Land_ownerOf h) (by decide) hF
  obtain ⟨S14, gS14, hF⟩ := fr_cv gS12 (fun _ h => fr_Scales_setName h) (by decide) hF
  obtain ⟨S16, gS16, hF⟩ := fr_cv gS14 (fun _ h => fr_Scales_setName h) (by decide) hF
  obtain ⟨S18, gS18, hF⟩ := fr_cv gS16 (fun _ h => fr_Scales_setName h) (by decide) hF
  rcases fr_if hF with hF | hF
  · exact gS18.tr (fb_Scene_mayFollow_59 (n := n) (T := T)   hF)
  · exact gS18.tr (fb_Scene_mayFollow_59 (n := n) (T := T)   hF)
theorem fr_Scene_mayFollow {n : Nat} {T : Nat} {x1 : Int32} {x2 : Int32} {x3 : Int32} {S : dk_S} {res : (Int32 × dk_S)}  (h : F_Scene_mayFollow n T x1 x2 x3 S = some res) : dk_fr [16, 17] S res.2 := fb_Scene_mayFollow_0 (n := n) (T := T)  h
theorem fb_Scene_make_0 {n : Nat} {T : Nat} {res : dk_S}  {x1 : Int32} {x2 : Int32} {x3 : Int32} {x4 : Int32} {x5 : Int32} {S : dk_S}  (hF : B_Scene_make_0 n T  x1 x2 x3 x4 x5 S = some res) : dk_fr [19, 20, 21, 22, 23, 24, 25, 26, 115] S res := by
  have g0 : dk_fr [19, 20, 21, 22, 23, 24, 25, 26, 115] S S := dk_fr.rf
  unfold B_Scene_make_0 at hF
  rcases fr_if hF with hF | hF
  · obtain ⟨S1, gS1, hF⟩ := fr_w g0 (by decide) hF
    obtain ⟨S2, gS2, hF⟩ := fr_w gS1 (by decide) hF
    obtain ⟨S3, gS3, hF⟩ := fr_w gS2 (by decide) hF
    obtain ⟨S4, gS4, hF⟩ := fr_w gS3 (by decide) hF
    obtain ⟨S5, gS5, hF⟩ := fr_w gS4 (by decide) hF
    obtain ⟨v6, hF⟩ := fr_r hF
    obtain ⟨S7, gS7, hF⟩ := fr_w gS5 (by decide) hF
    obtain ⟨S8, gS8, hF⟩ := fr_w gS7 (by decide) hF
    obtain ⟨S9, gS9, hF⟩ := fr_w gS8 (by decide) hF
    obtain ⟨S10, gS10, hF⟩ := fr_p gS9 (by decide) hF
    exact fr_rtv hF gS10
  · exact fr_rtv hF g0
theorem fr_Scene_make {n : Nat} {T : Nat} {x1 : Int32} {x2 : Int32} {x3 : Int32} {x4 : Int32} {x5 : Int32} {S : dk_S} {res : dk_S}  (h : F_Scene_make n T x1 x2 x3 x4 x5 S = some res) : dk_fr [19, 20, 21, 22, 23, 24, 25, 26, 115] S res := fb_Scene_make_0 (n := n) (T := T)  h
theorem fb_Scene_makeForGround_0 {n : Nat} {T : Nat} {res : dk_S}  {x1 : Int32} {x2 : Int32} {S : dk_S}  (hF : B_Scene_makeForGround_0 n T  x1 x2 S = some res) : dk_fr [19, 20, 21, 22, 23, 24, 25, 26, 115] S res := by
  have g0 : dk_fr [19, 20, 21, 22, 23, 24, 25, 26, 115] S S := dk_fr.rf
  unfold B_Scene_makeForGround_0 at hF
  obtain ⟨v1, hF⟩ := fr_r hF
  obtain ⟨r3, S2, gS2, hF⟩ := fr_c g0 (fun _ h => fr_Land_ownerOf h) (by decide) hF
  rcases fr_if hF with hF | hF
  · exact fr_rtv hF gS2
  · obtain ⟨S4, gS4, hF⟩ := fr_cv gS2 (fun _ h => fr_Scene_make h) (by decide) hF
    exact fr_rtv hF gS4
theorem fr_Scene_makeForGround {n : Nat} {T : Nat} {x1 : Int32} {x2 : Int32} {S : dk_S} {res : dk_S}  (h : F_Scene_makeForGround n T x1 x2 S = some res) : dk_fr [19, 20, 21, 22, 23, 24, 25, 26, 115] S res := fb_Scene_makeForGround_0 (n := n) (T := T)  h
theorem fb_Scene_begin_80 {n : Nat} {T : Nat} {res : dk_S} {k12 : Int32 → dk_S → Option dk_S} (hk12 : ∀ (x1 : Int32)  (S : dk_S), k12 x1 S = some res → dk_fr [19, 20, 21, 22, 23, 24, 25, 26, 27, 28, 29, 115, 116] S res) {x1 : Int32} {S : dk_S}  (hF : B_Scene_begin_80 n T k12 x1 S = some res) : dk_fr [19, 20, 21, 22, 23, 24, 25, 26, 27, 28, 29, 115, 116] S res := by
  have g0 : dk_fr [19, 20, 21, 22, 23, 24, 25, 26, 27, 28, 29, 115, 116] S S := dk_fr.rf
  unfold B_Scene_begin_80 at hF
  obtain ⟨S1, gS1, hF⟩ := fr_cv g0 (fun _ h => fr_Scene_makeForGround h) (by decide) hF
  exact gS1.tr (hk12 (x1 + (1 : Int32)) S1 hF)
theorem fb_Scene_begin_12b {n : Nat} {T : Nat} {res : dk_S} {k12 : Int32 → dk_S → Option dk_S} (hk12 : ∀ (x1 : Int32)  (S : dk_S), k12 x1 S = some res → dk_fr [19, 20, 21, 22, 23, 24, 25, 26, 27, 28, 29, 115, 116] S res) {x1 : Int32} {S : dk_S}  (hF : B_Scene_begin_12b n T k12 x1 S = some res) : dk_fr [19, 20, 21, 22, 23, 24, 25, 26, 27, 28, 29, 115, 116] S res := by
  have g0 : dk_fr [19, 20, 21, 22, 23, 24, 25, 26, 27, 28, 29, 115, 116] S S := dk_fr.rf
  unfold B_Scene_begin_12b at hF
  rcases fr_if hF with hF | hF
  · exact fr_rtv hF g0
  · obtain ⟨v3, hF⟩ := fr_r hF
    obtain ⟨S4, gS4, hF⟩ := fr_w g0 (by decide) hF
    obtain ⟨S5, gS5, hF⟩ := fr_w gS4 (by decide) hF
    obtain ⟨S6, gS6, hF⟩ := fr_w gS5 (by decide) hF
    obtain ⟨r8, S7, gS7, hF⟩ := fr_c gS6 (fun _ h => fr_Land_isTame h) (by decide) hF
    rcases fr_if hF with hF | hF
    · exact gS7.tr (fb_Scene_begin_80 (n := n) (T := T) hk12  hF)
    · obtain ⟨v9, hF⟩ := fr_r hF
      obtain ⟨S10, gS10, hF⟩ := fr_cv gS7 (fun _ h => fr_Scene_make h) (by decide) hF
      exact gS10.tr (fb_Scene_begin_80 (n := n) (T := T) hk12  hF)
theorem fb_Scene_begin_12 {n : Nat} {T : Nat} {res : dk_S}  : ∀ (q : Nat) (x1 : Int32)  (S : dk_S), B_Scene_begin_12 n T  q x1 S = some res → dk_fr [19, 20, 21, 22, 23, 24, 25, 26, 27, 28, 29, 115, 116] S res := by
  intro q
  induction q with
  | zero => intro x1  S hF; cases hF
  | succ q ih => intro x1  S hF; exact fb_Scene_begin_12b (n := n) (T := T) ih  hF
theorem fb_Scene_begin_0 {n : Nat} {T : Nat} {res : dk_S}   {S : dk_S}  (hF : B_Scene_begin_0 n T   S = some res) : dk_fr [19, 20, 21, 22, 23, 24, 25, 26, 27, 28, 29, 115, 116] S res := by
  have g0 : dk_fr [19, 20, 21, 22, 23, 24, 25, 26, 27, 28, 29, 115, 116] S S := dk_fr.rf
  unfold B_Scene_begin_0 at hF
  obtain ⟨S12, gS12, hF⟩ := fr_p g0 (by decide) hF
  obtain ⟨S13, gS13, hF⟩ := fr_p gS12 (by decide) hF
  exact gS13.tr (fb_Scene_begin_12 (n := n) (T := T)  n (0 : Int32) S13 hF)
theorem fr_Scene_begin {n : Nat} {T : Nat}  {S : dk_S} {res : dk_S}  (h : F_Scene_begin n T  S = some res) : dk_fr [19, 20, 21, 22, 23, 24, 25, 26, 27, 28, 29, 115, 116] S res := fb_Scene_begin_0 (n := n) (T := T)  h
theorem fb_Scene_cross_45 {n : Nat} {T : Nat} {res : dk_S}  {x1 : Int32} {x2 : Int32} {x3 : Int32} {S : dk_S}  (hF : B_Scene_cross_45 n T  x1 x2 x3 S = some res) : dk_fr [19, 20, 21, 22, 23, 24, 25, 26, 27, 28, 115] S res := by
  have g0 : dk_fr [19, 20, 21, 22, 23, 24, 25, 26, 27, 28, 115] S S := dk_fr.rf
  unfold B_Scene_cross_45 at hF
  obtain ⟨S1, gS1, hF⟩ := fr_w g0 (by decide) hF
  obtain ⟨S2, gS2, hF⟩ := fr_cv gS1 (fun _ h => fr_Scene_makeForGround h) (by decide) hF
  exact fr_rtv hF gS2
theorem fb_Scene_cross_0 {n : Nat} {T : Nat} {res : dk_S}  {x1 : Int32} {x2 : Int32} {x3 : Int32} {S : dk_S}  (hF : B_Scene_cross_0 n T  x1 x2 x3 S = some res) : dk_fr [19, 20, 21, 22, 23, 24, 25, 26, 27, 28, 115] S res := by
  have g0 : dk_fr [19, 20, 21, 22, 23, 24, 25, 26, 27, 28, 115] S S := dk_fr.rf
  unfold B_Scene_cross_0 at hF
  obtain ⟨v4, hF⟩ := fr_r hF
  rcases fr_if hF with hF | hF
  · exact fr_rtv hF g0
  · obtain ⟨v5, hF⟩ := fr_r hF
    rcases fr_if hF with hF | hF
    · obtain ⟨v6, hF⟩ := fr_r hF
      obtain ⟨v7, hF⟩ := fr_r hF
      rcases fr_if hF with hF | hF
      · exact g0.tr (fb_Scene_cross_45 (n := n) (T := T)   hF)
      · obtain ⟨S8, gS8, hF⟩ := fr_w g0 (by decide) hF
        exact gS8.tr (fb_Scene_cross_45 (n := n) (T := T)   hF)
    · exact fr_rtv hF g0
theorem fr_Scene_cross {n : Nat} {T : Nat} {x1 : Int32} {x2 : Int32} {x3 : Int32} {S : dk_S} {res : dk_S}  (h : F_Scene_cross n T x1 x2 x3 S = some res) : dk_fr [19, 20, 21, 22, 23, 24, 25, 26, 27, 28, 115] S res := fb_Scene_cross_0 (n := n) (T := T)  h
theorem fb_Scene_isHoldOf_0 {n : Nat} {T : Nat} {res : (Int32 × dk_S)}  {x1 : Int32} {x2 : Int32} {S : dk_S}  (hF : B_Scene_isHoldOf_0 n T  x1 x2 S = some res) : dk_fr [] S res.2 := by
  have g0 : dk_fr [] S S := dk_fr.rf
  unfold B_Scene_isHoldOf_0 at hF
  obtain ⟨v1, hF⟩ := fr_r hF
  rcases fr_if hF with hF | hF
  · have hF := (dk_b_out hF).2
    exact fr_rt hF g0
  · obtain ⟨v2, hF⟩ := fr_r hF
    rcases fr_if hF with hF | hF
    · have hF := (dk_b_out hF).2
      exact fr_rt hF g0
    · have hF := (dk_b_out hF).2
      exact fr_rt hF g0
theorem fr_Scene_isHoldOf {n : Nat} {T : Nat} {x1 : Int32} {x2 : Int32} {S : dk_S} {res : (Int32 × dk_S)}  (h : F_Scene_isHoldOf n T x1 x2 S = some res) : dk_fr [] S res.2 := fb_Scene_isHoldOf_0 (n := n) (T := T)  h
theorem fb_Scene_give_41 {n : Nat} {T : Nat} {res : dk_S} {k3 : Int32 → Int32 → Int32 → Int32 → dk_S → Option dk_S} (hk3 : ∀ (x1 : Int32) (x2 : Int32) (x3 : Int32) (x4 : Int32)  (S : dk_S), k3 x1 x2 x3 x4 S = some res → dk_fr [20] S res) {x1 : Int32} {x2 : Int32} {x3 : Int32} {x4 : Int32} {S : dk_S}  (hF : B_Scene_give_41 n T k3 x1 x2 x3 x4 S = some res) : dk_fr [20] S res := by
  have g0 : dk_fr [20] S S := dk_fr.rf
  unfold B_Scene_give_41 at hF
  exact g0.tr (hk3 x1 x2 x3 (x4 + (1 : Int32)) S hF)
theorem fb_Scene_give_3b {n : Nat} {T : Nat} {res : dk_S} {k3 : Int32 → Int32 → Int32 → Int32 → dk_S → Option dk_S} (hk3 : ∀ (x1 : Int32) (x2 : Int32) (x3 : Int32) (x4 : Int32)  (S : dk_S), k3 x1 x2 x3 x4 S = some res → dk_fr [20] S res) {x1 : Int32} {x2 : Int32} {x3 : Int32} {x4 : Int32} {S : dk_S}  (hF : B_Scene_give_3b n T k3 x1 x2 x3 x4 S = some res) : dk_fr [20] S res := by
  have g0 : dk_fr [20] S S := dk_fr.rf
  unfold B_Scene_give_3b at hF
  rcases fr_if hF with hF | hF
  · exact fr_rtv hF g0
  · obtain ⟨r2, S1, gS1, hF⟩ := fr_c g0 (fun _ h => fr_Scene_isHoldOf h) (by decide) hF
    rcases fr_if hF with hF | hF
    · exact gS1.tr (fb_Scene_give_41 (n := n) (T := T) hk3  hF)
    · obtain ⟨v3, hF⟩ := fr_r hF
      rcases fr_if hF with hF | hF
      · exact gS1.tr (fb_Scene_give_41 (n := n) (T := T) hk3  hF)
      · obtain ⟨S4, gS4, hF⟩ := fr_w gS1 (by decide) hF
        exact gS4.tr (fb_Scene_give_41 (n := n) (T := T) hk3  hF)
theorem fb_Scene_give_3 {n : Nat} {T : Nat} {res : dk_S}  : ∀ (q : Nat) (x1 : Int32) (x2 : Int32) (x3 : Int32) (x4 : Int32)  (S : dk_S), B_Scene_give_3 n T  q x1 x2 x3 x4 S = some res → dk_fr [20] S res := by
  intro q
  induction q with
  | zero => intro x1 x2 x3 x4  S hF; cases hF
  | succ q ih => intro x1 x2 x3 x4  S hF; exact fb_Scene_give_3b (n := n) (T := T) ih  hF
theorem fb_Scene_give_0 {n : Nat} {T : Nat} {res : dk_S}  {x1 : Int32} {x2 : Int32} {x3 : Int32} {S : dk_S}  (hF : B_Scene_give_0 n T  x1 x2 x3 S = some res) : dk_fr [20] S res := by
  have g0 : dk_fr [20] S S := dk_fr.rf
  unfold B_Scene_give_0 at hF
  exact g0.tr (fb_Scene_give_3 (n := n) (T := T)  n x1 x2 x3 (0 : Int32) S hF)
theorem fr_Scene_give {n : Nat} {T : Nat} {x1 : Int32} {x2 : Int32} {x3 : Int32} {S : dk_S} {res : dk_S}  (h : F_Scene_give n T x1 x2 x3 S = some res) : dk_fr [20] S res := fb_Scene_give_0 (n := n) (T := T)  h
theorem fb_Scene_yields_0 {n : Nat} {T : Nat} {res : (Int32 × dk_S)}  {x1 : Int32} {S : dk_S}  (hF : B_Scene_yields_0 n T  x1 S = some res) : dk_fr [] S res.2 := by
  have g0 : dk_fr [] S S := dk_fr.rf
  unfold B_Scene_yields_0 at hF
  obtain ⟨v1, hF⟩ := fr_r hF
  rcases fr_if hF with hF | hF
  · have hF := (dk_b_out hF).2
    exact fr_rt hF g0
  · obtain ⟨v2, hF⟩ := fr_r hF
    rcases fr_if hF with hF | hF
    · have hF := (dk_b_out hF).2
      exact fr_rt hF g0
    · obtain ⟨v3, hF⟩ := fr_r hF
      rcases fr_if hF with hF | hF
      · have hF := (dk_b_out hF).2
        exact fr_rt hF g0
      · have hF := (dk_b_out hF).2
        exact fr_rt hF g0
theorem fr_Scene_yields {n : Nat} {T : Nat} {x1 : Int32} {S : dk_S} {res : (Int32 × dk_S)}  (h : F_Scene_yields n T x1 S = some res) : dk_fr [] S res.2 := fb_Scene_yields_0 (n := n) (T := T)  h
theorem fb_Scene_kill_45 {n : Nat} {T : Nat} {res : dk_S} {k2 : Int32 → Int32 → Int32 → dk_S → Option dk_S} (hk2 : ∀ (x1 : Int32) (x2 : Int32) (x3 : Int32)  (S : dk_S), k2 x1 x2 x3 S = some res → dk_fr [26, 29] S res) {x1 : Int32} {x2 : Int32} {x3 : Int32} {S : dk_S}  (hF : B_Scene_kill_45 n T k2 x1 x2 x3 S = some res) : dk_fr [26, 29] S res := by
  have g0 : dk_fr [26, 29] S S := dk_fr.rf
  unfold B_Scene_kill_45 at hF
  exact g0.tr (hk2 x1 x2 (x3 + (1 : Int32)) S hF)
theorem fb_Scene_kill_2b {n : Nat} {T : Nat} {res : dk_S} {k2 : Int32 → Int32 → Int32 → dk_S → Option dk_S} (hk2 : ∀ (x1 : Int32) (x2 : Int32) (x3 : Int32)  (S : dk_S), k2 x1 x2 x3 S = some res → dk_fr [26, 29] S res) {x1 : Int32} {x2 : Int32} {x3 : Int32} {S : dk_S}  (hF : B_Scene_kill_2b n T k2 x1 x2 x3 S = some res) : dk_fr [26, 29] S res := by
  have g0 : dk_fr [26, 29] S S := dk_fr.rf
  unfold B_Scene_kill_2b at hF
  rcases fr_if hF with hF | hF
  · obtain ⟨S1, gS1, hF⟩ := fr_w g0 (by decide) hF
    exact fr_rtv hF gS1
  · obtain ⟨v2, hF⟩ := fr_r hF
    rcases fr_if hF with hF | hF
    · exact g0.tr (fb_Scene_kill_45 (n := n) (T := T) hk2  hF)
    · obtain ⟨v3, hF⟩ := fr_r hF
      rcases fr_if hF with hF | hF
      · exact g0.tr (fb_Scene_kill_45 (n := n) (T := T) hk2  hF)
      · obtain ⟨r5, S4, gS4, hF⟩ := fr_c g0 (fun _ h => fr_Scene_yields h) (by decide) hF
        rcases fr_if hF with hF | hF
        · exact gS4.tr (fb_Scene_kill_45 (n := n) (T := T) hk2  hF)
        · obtain ⟨S6, gS6, hF⟩ := fr_w gS4 (by decide) hF
          exact gS6.tr (fb_Scene_kill_45 (n := n) (T := T) hk2  hF)
theorem fb_Scene_kill_2 {n : Nat} {T : Nat} {res : dk_S}  : ∀ (q : Nat) (x1 : Int32) (x2 : Int32) (x3 : Int32)  (S : dk_S), B_Scene_kill_2 n T  q x1 x2 x3 S = some res → dk_fr [26, 29] S res := by
  intro q
  induction q with
  | zero => intro x1 x2 x3  S hF; cases hF
  | succ q ih => intro x1 x2 x3  S hF; exact fb_Scene_kill_2b (n := n) (T := T) ih  hF
theorem fb_Scene_kill_0 {n : Nat} {T : Nat} {res : dk_S}  {x1 : Int32} {x2 : Int32} {S : dk_S}  (hF : B_Scene_kill_0 n T  x1 x2 S = some res) : dk_fr [26, 29] S res := by
  have g0 : dk_fr [26, 29] S S := dk_fr.rf
  unfold B_Scene_kill_0 at hF
  exact g0.tr (fb_Scene_kill_2 (n := n) (T := T)  n x1 x2 (0 : Int32) S hF)
theorem fr_Scene_kill {n : Nat} {T : Nat} {x1 : Int32} {x2 : Int32} {S : dk_S} {res : dk_S}  (h : F_Scene_kill n T x1 x2 S = some res) : dk_fr [26, 29] S res := fb_Scene_kill_0 (n := n) (T := T)  h
theorem fb_Scene_letGo_36 {n : Nat} {T : Nat} {res : dk_S} {k2 : Int32 → Int32 → Int32 → dk_S → Option dk_S} (hk2 : ∀ (x1 : Int32) (x2 : Int32) (x3 : Int32)  (S : dk_S), k2 x1 x2 x3 S = some res → dk_fr [26] S res) {x1 : Int32} {x2 : Int32} {x3 : Int32} {S : dk_S}  (hF : B_Scene_letGo_36 n T k2 x1 x2 x3 S = some res) : dk_fr [26] S res := by
  have g0 : dk_fr [26] S S := dk_fr.rf
  unfold B_Scene_letGo_36 at hF
  exact g0.tr (hk2 x1 x2 (x3 + (1 : Int32)) S hF)
theorem fb_Scene_letGo_2b {n : Nat} {T : Nat} {res : dk_S} {k2 : Int32 → Int32 → Int32 → dk_S → Option dk_S} (hk2 : ∀ (x1 : Int32) (x2 : Int32) (x3 : Int32)  (S : dk_S), k2 x1 x2 x3 S = some res → dk_fr [26] S res) {x1 : Int32} {x2 : Int32} {x3 : Int32} {S : dk_S}  (hF : B_Scene_letGo_2b n T k2 x1 x2 x3 S = some res) : dk_fr [26] S res := by
  have g0 : dk_fr [26] S S := dk_fr.rf
  unfold B_Scene_letGo_2b at hF
  rcases fr_if hF with hF | hF
  · exact fr_rtv hF g0
  · obtain ⟨r2, S1, gS1, hF⟩ := fr_c g0 (fun _ h => fr_Scene_isHoldOf h) (by decide) hF
    rcases fr_if hF with hF | hF
    · exact gS1.tr (fb_Scene_letGo_36 (n := n) (T := T) hk2  hF)
    · obtain ⟨v3, hF⟩ := fr_r hF
      rcases fr_if hF with hF | hF
      · exact gS1.tr (fb_Scene_letGo_36 (n := n) (T := T) hk2  hF)
      · obtain ⟨S4, gS4, hF⟩ := fr_w gS1 (by decide) hF
        exact gS4.tr (fb_Scene_letGo_36 (n := n) (T := T) hk2  hF)
theorem fb_Scene_letGo_2 {n : Nat} {T : Nat} {res : dk_S}  : ∀ (q : Nat) (x1 : Int32) (x2 : Int32) (x3 : Int32)  (S : dk_S), B_Scene_letGo_2 n T  q x1 x2 x3 S = some res → dk_fr [26] S res := by
  intro q
  induction q with
  | zero => intro x1 x2 x3  S hF; cases hF
  | succ q ih => intro x1 x2 x3  S hF; exact fb_Scene_letGo_2b (n := n) (T := T) ih  hF
theorem fb_Scene_letGo_0 {n : Nat} {T : Nat} {res : dk_S}  {x1 : Int32} {x2 : Int32} {S : dk_S}  (hF : B_Scene_letGo_0 n T  x1 x2 S = some res) : dk_fr [26] S res := by
  have g0 : dk_fr [26] S S := dk_fr.rf
  unfold B_Scene_letGo_0 at hF
  exact g0.tr (fb_Scene_letGo_2 (n := n) (T := T)  n x1 x2 (0 : Int32) S hF)
theorem fr_Scene_letGo {n : Nat} {T : Nat} {x1 : Int32} {x2 : Int32} {S : dk_S} {res : dk_S}  (h : F_Scene_letGo n T x1 x2 S = some res) : dk_fr [26] S res := fb_Scene_letGo_0 (n := n) (T := T)  h
theorem fb_Scene_lose_53 {n : Nat} {T : Nat} {res : dk_S} {k3 : Int32 → Int32 → Int32 → Int32 → dk_S → Option dk_S} (hk3 : ∀ (x1 : Int32) (x2 : Int32) (x3 : Int32) (x4 : Int32)  (S : dk_S), k3 x1 x2 x3 x4 S = some res → dk_fr [25] S res) {x1 : Int32} {x2 : Int32} {x3 : Int32} {x4 : Int32} {S : dk_S}  (hF : B_Scene_lose_53 n T k3 x1 x2 x3 x4 S = some res) : dk_fr [25] S res := by
  have g0 : dk_fr [25] S S := dk_fr.rf
  unfold B_Scene_lose_53 at hF
  exact g0.tr (hk3 x1 x2 x3 (x4 + (1 : Int32)) S hF)
theorem fb_Scene_lose_3b {n : Nat} {T : Nat} {res : dk_S} {k3 : Int32 → Int32 → Int32 → Int32 → dk_S → Option dk_S} (hk3 : ∀ (x1 : Int32) (x2 : Int32) (x3 : Int32) (x4 : Int32)  (S : dk_S), k3 x1 x2 x3 x4 S = some res → dk_fr [25] S res) {x1 : Int32} {x2 : Int32} {x3 : Int32} {x4 : Int32} {S : dk_S}  (hF : B_Scene_lose_3b n T k3 x1 x2 x3 x4 S = some res) : dk_fr [25] S res := by
  have g0 : dk_fr [25] S S := dk_fr.rf
  unfold B_Scene_lose_3b at hF
  rcases fr_if hF with hF | hF
  · exact fr_rtv hF g0
  · obtain ⟨v1, hF⟩ := fr_r hF
    rcases fr_if hF with hF | hF
    · exact g0.tr (fb_Scene_lose_53 (n := n) (T := T) hk3  hF)
    · obtain ⟨v2, hF⟩ := fr_r hF
      rcases fr_if hF with hF | hF
      · exact g0.tr (fb_Scene_lose_53 (n := n) (T := T) hk3  hF)
      · obtain ⟨v3, hF⟩ := fr_r hF
        rcases fr_if hF with hF | hF
        · exact g0.tr (fb_Scene_lose_53 (n := n) (T := T) hk3  hF)
        · obtain ⟨S4, gS4, hF⟩ := fr_w g0 (by decide) hF
          exact gS4.tr (fb_Scene_lose_53 (n := n) (T := T) hk3  hF)
theorem fb_Scene_lose_3 {n : Nat} {T : Nat} {res : dk_S}  : ∀ (q : Nat) (x1 : Int32) (x2 : Int32) (x3 : Int32) (x4 : Int32)  (S : dk_S), B_Scene_lose_3 n T  q x1 x2 x3 x4 S = some res → dk_fr [25] S res := by
  intro q
  induction q with
  | zero => intro x1 x2 x3 x4  S hF; cases hF
  | succ q ih => intro x1 x2 x3 x4  S hF; exact fb_Scene_lose_3b (n := n) (T := T) ih  hF
theorem fb_Scene_lose_0 {n : Nat} {T : Nat} {res : dk_S}  {x1 : Int32} {x2 : Int32} {x3 : Int32} {S : dk_S}  (hF : B_Scene_lose_0 n T  x1 x2 x3 S = some res) : dk_fr [25] S res := by
  have g0 : dk_fr [25] S S := dk_fr.rf
  unfold B_Scene_lose_0 at hF
  exact g0.tr (fb_Scene_lose_3 (n := n) (T := T)  n x1 x2 x3 (0 : Int32) S hF)
theorem fr_Scene_lose {n : Nat} {T : Nat} {x1 : Int32} {x2 : Int32} {x3 : Int32} {S : dk_S} {res : dk_S}  (h : F_Scene_lose n T x1 x2 x3 S = some res) : dk_fr [25] S res := fb_Scene_lose_0 (n := n) (T := T)  h
theorem fb_Scene_makeOfLiving_0 {n : Nat} {T : Nat} {res : dk_S}  {x1 : Int32} {x2 : Int32} {x3 : Int32} {x4 : Int32} {x5 : Int32} {S : dk_S}  (hF : B_Scene_makeOfLiving_0 n T  x1 x2 x3 x4 x5 S = some res) : dk_fr [19, 20, 21, 22, 23, 24, 25, 26, 115] S res := by
  have g0 : dk_fr [19, 20, 21, 22, 23, 24, 25, 26, 115] S S := dk_fr.rf
  unfold B_Scene_makeOfLiving_0 at hF
  obtain ⟨v1, hF⟩ := fr_r hF
  rcases fr_if hF with hF | hF
  · exact fr_rtv hF g0
  · obtain ⟨S2, gS2, hF⟩ := fr_cv g0 (fun _ h => fr_Scene_make h) (by decide) hF
    exact fr_rtv hF gS2
theorem fr_Scene_makeOfLiving {n : Nat} {T : Nat} {x1 : Int32} {x2 : Int32} {x3 : Int32} {x4 : Int32} {x5 : Int32} {S : dk_S} {res : dk_S}  (h : F_Scene_makeOfLiving n T x1 x2 x3 x4 x5 S = some res) : dk_fr [19, 20, 21, 22, 23, 24, 25, 26, 115] S res := fb_Scene_makeOfLiving_0 (n := n) (T := T)  h
theorem fb_Scene_live_0 {n : Nat} {T : Nat} {res : dk_S}  {x1 : Int32} {S : dk_S}  (hF : B_Scene_live_0 n T  x1 S = some res) : dk_fr [19, 20, 21, 22, 23, 24, 25, 26, 27, 28, 29, 115, 116] S res := by
  have g0 : dk_fr [19, 20, 21, 22, 23, 24, 25, 26, 27, 28, 29, 115, 116] S S := dk_fr.rf
  unfold B_Scene_live_0 at hF
  obtain ⟨r2, S1, gS1, hF⟩ := fr_c g0 (fun _ h => fr_Diary_has h) (by decide) hF
  rcases fr_if hF with hF | hF
  · exact fr_rtv hF gS1
  · obtain ⟨v3, hF⟩ := fr_r hF
    obtain ⟨r5, S4, gS4, hF⟩ := fr_c gS1 (fun _ h => fr_Land_hasBeast h) (by decide) hF
    rcases fr_if hF with hF | hF
    · obtain ⟨v6, hF⟩ := fr_r hF
      obtain ⟨v7, hF⟩ := fr_r hF
      obtain ⟨v8, hF⟩ := fr_r hF
      obtain ⟨v9, hF⟩ := fr_r hF
      obtain ⟨S10, gS10, hF⟩ := fr_p gS4 (by decide) hF
      obtain ⟨v11, hF⟩ := fr_r hF
      rcases fr_if hF with hF | hF
      · obtain ⟨S12, gS12, hF⟩ := fr_cv gS10 (fun _ h => fr_Scene_makeOfLiving h) (by decide) hF
        exact fr_rtv hF gS12
      · rcases fr_if hF with hF | hF
        · obtain ⟨S14, gS14, hF⟩ := fr_cv gS10 (fun _ h => fr_Scene_makeOfLiving h) (by decide) hF
          exact fr_rtv hF gS14
        · rcases fr_if hF with hF | hF
          · obtain ⟨S16, gS16, hF⟩ := fr_cv gS10 (fun _ h => fr_Scene_makeOfLiving h) (by decide) hF
            exact fr_rtv hF gS16
          · rcases fr_if hF with hF | hF
            · obtain ⟨S18, gS18, hF⟩ := fr_cv gS10 (fun _ h => fr_Scene_make h) (by decide) hF
              exact fr_rtv hF gS18
            · rcases fr_if hF with hF | hF
              · obtain ⟨S20, gS20, hF⟩ := fr_cv gS10 (fun _ h => fr_Scene_lose h) (by decide) hF
                exact fr_rtv hF gS20
              · rcases fr_if hF with hF | hF
                · obtain ⟨S22, gS22, hF⟩ := fr_cv gS10 (fun _ h => fr_Scene_cross h) (by decide) hF
                  exact fr_rtv hF gS22
                · rcases fr_if hF with hF | hF
                  · obtain ⟨S24, gS24, hF⟩ := fr_cv gS10 (fun _ h => fr_Scene_kill h) (by decide) hF
                    exact fr_rtv hF gS24
                  · rcases fr_if hF with hF | hF
                    · obtain ⟨S26, gS26, hF⟩ := fr_cv gS10 (fun _ h => fr_Scene_make h) (by decide) hF
                      exact fr_rtv hF gS26
                    · rcases fr_if hF with hF | hF
                      · obtain ⟨S28, gS28, hF⟩ := fr_cv gS10 (fun _ h => fr_Scene_letGo h) (by decide) hF
                        exact fr_rtv hF gS28
                      · rcases fr_if hF with hF | hF
                        · obtain ⟨S30, gS30, hF⟩ := fr_cv gS10 (fun _ h => fr_Scene_give h) (by decide) hF
                          exact fr_rtv hF gS30
                        · exact fr_rtv hF gS10
    · exact fr_rtv hF gS4
theorem fr_Scene_live {n : Nat} {T : Nat} {x1 : Int32} {S : dk_S} {res : dk_S}  (h : F_Scene_live n T x1 S = some res) : dk_fr [19, 20, 21, 22, 23, 24, 25, 26, 27, 28, 29, 115, 116] S res := fb_Scene_live_0 (n := n) (T := T)  h
theorem fb_Scene_reach_6b {n : Nat} {T : Nat} {res : dk_S} {k6 : Int32 → Int32 → dk_S → Option dk_S} (hk6 : ∀ (x1 : Int32) (x2 : Int32)  (S : dk_S), k6 x1 x2 S = some res → dk_fr [19, 20, 21, 22, 23, 24, 25, 26, 27, 28, 29, 115, 116] S res) {x1 : Int32} {x2 : Int32} {S : dk_S}  (hF : B_Scene_reach_6b n T k6 x1 x2 S = some res) : dk_fr [19, 20, 21, 22, 23, 24, 25, 26, 27, 28, 29, 115, 116] S res := by
  have g0 : dk_fr [19, 20, 21, 22, 23, 24, 25, 26, 27, 28, 29, 115, 116] S S := dk_fr.rf
  unfold B_Scene_reach_6b at hF
  rcases fr_if hF with hF | hF
  · exact fr_rtv hF g0
  · obtain ⟨S1, gS1, hF⟩ := fr_cv g0 (fun _ h => fr_Scene_live h) (by decide) hF
    exact gS1.tr (hk6 x1 (x2 + (1 : Int32)) S1 hF)
theorem fb_Scene_reach_6 {n : Nat} {T : Nat} {res : dk_S}  : ∀ (q : Nat) (x1 : Int32) (x2 : Int32)  (S : dk_S), B_Scene_reach_6 n T  q x1 x2 S = some res → dk_fr [19, 20, 21, 22, 23, 24, 25, 26, 27, 28, 29, 115, 116] S res := by
  intro q
  induction q with
  | zero => intro x1 x2  S hF; cases hF
  | succ q ih => intro x1 x2  S hF; exact fb_Scene_reach_6b (n := n) (T := T) ih  hF
theorem fb_Scene_reach_0 {n : Nat} {T : Nat} {res : dk_S}  {x1 : Int32} {S : dk_S}  (hF : B_Scene_reach_0 n T  x1 S = some res) : dk_fr [19, 20, 21, 22, 23, 24, 25, 26, 27, 28, 29, 115, 116] S res := by
  have g0 : dk_fr [19, 20, 21, 22, 23, 24, 25, 26, 27, 28, 29, 115, 116] S S := dk_fr.rf
  unfold B_Scene_reach_0 at hF
  obtain ⟨S3, gS3, hF⟩ := fr_cv g0 (fun _ h => fr_Scene_begin h) (by decide) hF
  exact gS3.tr (fb_Scene_reach_6 (n := n) (T := T)  n x1 (0 : Int32) S3 hF)
theorem fr_Scene_reach {n : Nat} {T : Nat} {x1 : Int32} {S : dk_S} {res : dk_S}  (h : F_Scene_reach n T x1 S = some res) : dk_fr [19, 20, 21, 22, 23, 24, 25, 26, 27, 28, 29, 115, 116] S res := fb_Scene_reach_0 (n := n) (T := T)  h
theorem fb_Scene_has_0 {n : Nat} {T : Nat} {res : (Int32 × dk_S)}  {x1 : Int32} {S : dk_S}  (hF : B_Scene_has_0 n T  x1 S = some res) : dk_fr [] S res.2 := by
  have g0 : dk_fr [] S S := dk_fr.rf
  unfold B_Scene_has_0 at hF
  rcases fr_if hF with hF | hF
  · have hF := (dk_b_out hF).2
    exact fr_rt hF g0
  · rcases fr_if hF with hF | hF
    · have hF := (dk_b_out hF).2
      exact fr_rt hF g0
    · have hF := (dk_b_out hF).2
      exact fr_rt hF g0
theorem fr_Scene_has {n : Nat} {T : Nat} {x1 : Int32} {S : dk_S} {res : (Int32 × dk_S)}  (h : F_Scene_has n T x1 S = some res) : dk_fr [] S res.2 := fb_Scene_has_0 (n := n) (T := T)  h
theorem fb_Scene_isHeld_30 {n : Nat} {T : Nat} {res : (Int32 × dk_S)} {k2 : Int32 → Int32 → dk_S → Option (Int32 × dk_S)} (hk2 : ∀ (x1 : Int32) (x2 : Int32)  (S : dk_S), k2 x1 x2 S = some res → dk_fr [] S res.2) {x1 : Int32} {x2 : Int32} {S : dk_S}  (hF : B_Scene_isHeld_30 n T k2 x1 x2 S = some res) : dk_fr [] S res.2 := by
  have g0 : dk_fr [] S S := dk_fr.rf
  unfold B_Scene_isHeld_30 at hF
  exact g0.tr (hk2 x1 (x2 + (1 : Int32)) S hF)
theorem fb_Scene_isHeld_2b {n : Nat} {T : Nat} {res : (Int32 × dk_S)} {k2 : Int32 → Int32 → dk_S → Option (Int32 × dk_S)} (hk2 : ∀ (x1 : Int32) (x2 : Int32)  (S : dk_S), k2 x1 x2 S = some res → dk_fr [] S res.2) {x1 : Int32} {x2 : Int32} {S : dk_S}  (hF : B_Scene_isHeld_2b n T k2 x1 x2 S = some res) : dk_fr [] S res.2 := by
  have g0 : dk_fr [] S S := dk_fr.rf
  unfold B_Scene_isHeld_2b at hF
  rcases fr_if hF with hF | hF
  · have hF := (dk_b_out hF).2
    exact fr_rt hF g0
  · obtain ⟨r2, S1, gS1, hF⟩ := fr_c g0 (fun _ h => fr_Scene_isHoldOf h) (by decide) hF
    rcases fr_if hF with hF | hF
    · exact gS1.tr (fb_Scene_isHeld_30 (n := n) (T := T) hk2  hF)
    · obtain ⟨v3, hF⟩ := fr_r hF
      rcases fr_if hF with hF | hF
      · exact gS1.tr (fb_Scene_isHeld_30 (n := n) (T := T) hk2  hF)
      · have hF := (dk_b_out hF).2
        exact fr_rt hF gS1
theorem fb_Scene_isHeld_2 {n : Nat} {T : Nat} {res : (Int32 × dk_S)}  : ∀ (q : Nat) (x1 : Int32) (x2 : Int32)  (S : dk_S), B_Scene_isHeld_2 n T  q x1 x2 S = some res → dk_fr [] S res.2 := by
  intro q
  induction q with
  | zero => intro x1 x2  S hF; cases hF
  | succ q ih => intro x1 x2  S hF; exact fb_Scene_isHeld_2b (n := n) (T := T) ih  hF
theorem fb_Scene_isHeld_0 {n : Nat} {T : Nat} {res : (Int32 × dk_S)}  {x1 : Int32} {S : dk_S}  (hF : B_Scene_isHeld_0 n T  x1 S = some res) : dk_fr [] S res.2 := by
  have g0 : dk_fr [] S S := dk_fr.rf
  unfold B_Scene_isHeld_0 at hF
  exact g0.tr (fb_Scene_isHeld_2 (n := n) (T := T)  n x1 (0 : Int32) S hF)
theorem fr_Scene_isHeld {n : Nat} {T : Nat} {x1 : Int32} {S : dk_S} {res : (Int32 × dk_S)}  (h : F_Scene_isHeld n T x1 S = some res) : dk_fr [] S res.2 := fb_Scene_isHeld_0 (n := n) (T := T)  h
theorem fb_Scene_isLostForLong_0 {n : Nat} {T : Nat} {res : (Int32 × dk_S)}  {x1 : Int32} {S : dk_S}  (hF : B_Scene_isLostForLong_0 n T  x1 S = some res) : dk_fr [] S res.2 := by
  have g0 : dk_fr [] S S := dk_fr.rf
  unfold B_Scene_isLostForLong_0 at hF
  obtain ⟨v1, hF⟩ := fr_r hF
  rcases fr_if hF with hF | hF
  · have hF := (dk_b_out hF).2
    exact fr_rt hF g0
  · obtain ⟨v2, hF⟩ := fr_r hF
    obtain ⟨v3, hF⟩ := fr_r hF
    rcases fr_if hF with hF | hF
    · have hF := (dk_b_out hF).2
      exact fr_rt hF g0
    · have hF := (dk_b_out hF).2
      exact fr_rt hF g0
theorem fr_Scene_isLostForLong {n : Nat} {T : Nat} {x1 : Int32} {S : dk_S} {res : (Int32 × dk_S)}  (h : F_Scene_isLostForLong n T x1 S = some res) : dk_fr [] S res.2 := fb_Scene_isLostForLong_0 (n := n) (T := T)  h
theorem fb_Scene_isOnItsPlace_0 {n : Nat} {T : Nat} {res : (Int32 × dk_S)}  {x1 : Int32} {S : dk_S}  (hF : B_Scene_isOnItsPlace_0 n T  x1 S = some res) : dk_fr [] S res.2 := by
  have g0 : dk_fr [] S S := dk_fr.rf
  unfold B_Scene_isOnItsPlace_0 at hF
  obtain ⟨v1, hF⟩ := fr_r hF
  obtain ⟨v2, hF⟩ := fr_r hF
  obtain ⟨v3, hF⟩ := fr_r hF
  rcases fr_if hF with hF | hF
  · have hF := (dk_b_out hF).2
    exact fr_rt hF g0
  · obtain ⟨v4, hF⟩ := fr_r hF
    obtain ⟨r6, S5, gS5, hF⟩ := fr_c g0 (fun _ h => fr_Land_ownerOf h) (by decide) hF
    obtain ⟨v7, hF⟩ := fr_r hF
    rcases fr_if hF with hF | hF
    · have hF := (dk_b_out hF).2
      exact fr_rt hF gS5
    · have hF := (dk_b_out hF).2
      exact fr_rt hF gS5
theorem fr_Scene_isOnItsPlace {n : Nat} {T : Nat} {x1 : Int32} {S : dk_S} {res : (Int32 × dk_S)}  (h : F_Scene_isOnItsPlace n T x1 S = some res) : dk_fr [] S res.2 := fb_Scene_isOnItsPlace_0 (n := n) (T := T)  h
theorem fb_Scene_stands_0 {n : Nat} {T : Nat} {res : (Int32 × dk_S)}  {x1 : Int32} {S : dk_S}  (hF : B_Scene_stands_0 n T  x1 S = some res) : dk_fr [16, 17] S res.2 := by
  have g0 : dk_fr [16, 17] S S := dk_fr.rf
  unfold B_Scene_stands_0 at hF
  obtain ⟨v1, hF⟩ := fr_r hF
  rcases fr_if hF with hF | hF
  · obtain ⟨v2, hF⟩ := fr_r hF
    obtain ⟨v3, hF⟩ := fr_r hF
    rcases fr_if hF with hF | hF
    · obtain ⟨v4, hF⟩ := fr_r hF
      rcases fr_if hF with hF | hF
      · have hF := (dk_b_out hF).2
        exact fr_rt hF g0
      · obtain ⟨v5, hF⟩ := fr_r hF
        obtain ⟨v6, hF⟩ := fr_r hF
        obtain ⟨r8, S7, gS7, hF⟩ := fr_c g0 (fun _ h => fr_Scene_mayFollow h) (by decide) hF
        rcases fr_if hF with hF | hF
        · have hF := (dk_b_out hF).2
          exact fr_rt hF gS7
        · have hF := (dk_b_out hF).2
          exact fr_rt hF gS7
    · rcases fr_if hF with hF | hF
      · obtain ⟨r10, S9, gS9, hF⟩ := fr_c g0 (fun _ h => fr_Scene_isLostForLong h) (by decide) hF
        rcases fr_if hF with hF | hF
        · have hF := (dk_b_out hF).2
          exact fr_rt hF gS9
        · obtain ⟨v11, hF⟩ := fr_r hF
          obtain ⟨v12, hF⟩ := fr_r hF
          obtain ⟨r14, S13, gS13, hF⟩ := fr_c gS9 (fun _ h => fr_Scene_mayFollow h) (by decide) hF
          rcases fr_if hF with hF | hF
          · have hF := (dk_b_out hF).2
            exact fr_rt hF gS13
          · have hF := (dk_b_out hF).2
            exact fr_rt hF gS13
      · rcases fr_if hF with hF | hF
        · have hF := (dk_b_out hF).2
          exact fr_rt hF g0
        · rcases fr_if hF with hF | hF
          · obtain ⟨v15, hF⟩ := fr_r hF
            rcases fr_if hF with hF | hF
            · have hF := (dk_b_out hF).2
              exact fr_rt hF g0
            · obtain ⟨r17, S16, gS16, hF⟩ := fr_c g0 (fun _ h => fr_Scene_isOnItsPlace h) (by decide) hF
              rcases fr_if hF with hF | hF
              · have hF := (dk_b_out hF).2
                exact fr_rt hF gS16
              · obtain ⟨r19, S18, gS18, hF⟩ := fr_c gS16 (fun _ h => fr_Scene_isHeld h) (by decide) hF
                rcases fr_if hF with hF | hF
                · have hF := (dk_b_out hF).2
                  exact fr_rt hF gS18
                · have hF := (dk_b_out hF).2
                  exact fr_rt hF gS18
          · rcases fr_if hF with hF | hF
            · obtain ⟨v20, hF⟩ := fr_r hF
              obtain ⟨v21, hF⟩ := fr_r hF
              rcases fr_if hF with hF | hF
              · have hF := (dk_b_out hF).2
                exact fr_rt hF g0
              · obtain ⟨v22, hF⟩ := fr_r hF
                rcases fr_if hF with hF | hF
                · have hF := (dk_b_out hF).2
                  exact fr_rt hF g0
                · have hF := (dk_b_out hF).2
                  exact fr_rt hF g0
            · obtain ⟨v23, hF⟩ := fr_r hF
              rcases fr_if hF with hF | hF
              · have hF := (dk_b_out hF).2
                exact fr_rt hF g0
              · have hF := (dk_b_out hF).2
                exact fr_rt hF g0
  · have hF := (dk_b_out hF).2
    exact fr_rt hF g0
theorem fr_Scene_stands {n : Nat} {T : Nat} {x1 : Int32} {S : dk_S} {res : (Int32 × dk_S)}  (h : F_Scene_stands n T x1 S = some res) : dk_fr [16, 17] S res.2 := fb_Scene_stands_0 (n := n) (T := T)  h
theorem fb_Scene_weight_0 {n : Nat} {T : Nat} {res : (Int32 × dk_S)}  {x1 : Int32} {S : dk_S}  (hF : B_Scene_weight_0 n T  x1 S = some res) : dk_fr [] S res.2 := by
  have g0 : dk_fr [] S S := dk_fr.rf
  unfold B_Scene_weight_0 at hF
  obtain ⟨v1, hF⟩ := fr_r hF
  rcases fr_if hF with hF | hF
  · exact fr_rt hF g0
  · rcases fr_if hF with hF | hF
    · obtain ⟨v2, hF⟩ := fr_r hF
      exact fr_rt hF g0
    · rcases fr_if hF with hF | hF
      · obtain ⟨v3, hF⟩ := fr_r hF
        exact fr_rt hF g0
      · rcases fr_if hF with hF | hF
        · exact fr_rt hF g0
        · rcases fr_if hF with hF | hF
          · obtain ⟨v4, hF⟩ := fr_r hF
            exact fr_rt hF g0
          · exact fr_rt hF g0
theorem fr_Scene_weight {n : Nat} {T : Nat} {x1 : Int32} {S : dk_S} {res : (Int32 × dk_S)}  (h : F_Scene_weight n T x1 S = some res) : dk_fr [] S res.2 := fb_Scene_weight_0 (n := n) (T := T)  h
theorem fb_Scene_worth_113 {n : Nat} {T : Nat} {res : (Int32 × dk_S)}  {x1 : Int32} {u1 : Int32} {u2 : Int32} {S : dk_S}  (hF : B_Scene_worth_113 n T  x1 u1 u2 S = some res) : dk_fr [16, 17] S res.2 := by
  have g0 : dk_fr [16, 17] S S := dk_fr.rf
  unfold B_Scene_worth_113 at hF
  obtain ⟨S1, gS1, hF⟩ := fr_cv g0 (fun _ h => fr_Scales_setName h) (by decide) hF
  obtain ⟨v3, hF⟩ := fr_r hF
  obtain ⟨S4, gS4, hF⟩ := fr_cv gS1 (fun _ h => fr_Scales_setName h) (by decide) hF
  obtain ⟨t6, ht6, et6, hF⟩ := dk_t_out hF
  obtain ⟨r8, S7, gS7, hF⟩ := fr_c gS4 (fun _ h => fr_Scales_value (by first | assumption | decide) (by first | assumption | decide) h) (by decide) hF
  exact fr_rt hF gS7
theorem fb_Scene_worth_88 {n : Nat} {T : Nat} {res : (Int32 × dk_S)}  {x1 : Int32} {x2 : Int32} {u1 : Int32} {u2 : Int32} {S : dk_S}  (hF : B_Scene_worth_88 n T  x1 x2 u1 u2 S = some res) : dk_fr [16, 17] S res.2 := by
  have g0 : dk_fr [16, 17] S S := dk_fr.rf
  unfold B_Scene_worth_88 at hF
  obtain ⟨S9, gS9, hF⟩ := fr_cv g0 (fun _ h => fr_Scales_setName h) (by decide) hF
  obtain ⟨r12, S11, gS11, hF⟩ := fr_c gS9 (fun _ h => fr_Land_isTame h) (by decide) hF
  rcases fr_if hF with hF | hF
  · exact gS11.tr (fb_Scene_worth_113 (n := n) (T := T)   hF)
  · exact gS11.tr (fb_Scene_worth_113 (n := n) (T := T)   hF)
theorem fb_Scene_worth_0 {n : Nat} {T : Nat} {res : (Int32 × dk_S)}  {x1 : Int32} {S : dk_S}  (hF : B_Scene_worth_0 n T  x1 S = some res) : dk_fr [16, 17] S res.2 := by
  have g0 : dk_fr [16, 17] S S := dk_fr.rf
  unfold B_Scene_worth_0 at hF
  obtain ⟨v13, hF⟩ := fr_r hF
  obtain ⟨v14, hF⟩ := fr_r hF
  obtain ⟨S15, gS15, hF⟩ := fr_cv g0 (fun _ h => fr_Scales_setName h) (by decide) hF
  obtain ⟨v17, hF⟩ := fr_r hF
  obtain ⟨S18, gS18, hF⟩ := fr_cv gS15 (fun _ h => fr_Scales_setName h) (by decide) hF
  obtain ⟨r21, S20, gS20, hF⟩ := fr_c gS18 (fun _ h => fr_Scene_weight h) (by decide) hF
  obtain ⟨S22, gS22, hF⟩ := fr_cv gS20 (fun _ h => fr_Scales_setName h) (by decide) hF
  obtain ⟨v24, hF⟩ := fr_r hF
  obtain ⟨r26, S25, gS25, hF⟩ := fr_c gS22 (fun _ h => fr_Land_ownerOf h) (by decide) hF
  obtain ⟨v27, hF⟩ := fr_r hF
  rcases fr_if hF with hF | hF
  · exact gS25.tr (fb_Scene_worth_88 (n := n) (T := T)   hF)
  · exact gS25.tr (fb_Scene_worth_88 (n := n) (T := T)   hF)
theorem fr_Scene_worth {n : Nat} {T : Nat} {x1 : Int32} {S : dk_S} {res : (Int32 × dk_S)}  (h : F_Scene_worth n T x1 S = some res) : dk_fr [16, 17] S res.2 := fb_Scene_worth_0 (n := n) (T := T)  h
theorem fb_Scene_weigh_108 {n : Nat} {T : Nat} {res : dk_S} {k14 : Int32 → Int32 → Int32 → dk_S → Option dk_S} (hk14 : ∀ (x1 : Int32) (x2 : Int32) (x3 : Int32)  (S : dk_S), k14 x1 x2 x3 S = some res → dk_fr [16, 17, 117, 118] S res) {x1 : Int32} {x2 : Int32} {x3 : Int32} {S : dk_S}  (hF : B_Scene_weigh_108 n T k14 x1 x2 x3 S = some res) : dk_fr [16, 17, 117, 118] S res := by
  have g0 : dk_fr [16, 17, 117, 118] S S := dk_fr.rf
  unfold B_Scene_weigh_108 at hF
  exact g0.tr (hk14 x1 x2 (x3 + (1 : Int32)) S hF)
theorem fb_Scene_weigh_14b {n : Nat} {T : Nat} {res : dk_S} {k14 : Int32 → Int32 → Int32 → dk_S → Option dk_S} (hk14 : ∀ (x1 : Int32) (x2 : Int32) (x3 : Int32)  (S : dk_S), k14 x1 x2 x3 S = some res → dk_fr [16, 17, 117, 118] S res) {x1 : Int32} {x2 : Int32} {x3 : Int32} {S : dk_S}  (hF : B_Scene_weigh_14b n T k14 x1 x2 x3 S = some res) : dk_fr [16, 17, 117, 118] S res := by
  have g0 : dk_fr [16, 17, 117, 118] S S := dk_fr.rf
  unfold B_Scene_weigh_14b at hF
  rcases fr_if hF with hF | hF
  · exact fr_rtv hF g0
  · obtain ⟨v1, hF⟩ := fr_r hF
    rcases fr_if hF with hF | hF
    · exact g0.tr (fb_Scene_weigh_108 (n := n) (T := T) hk14  hF)
    · obtain ⟨r3, S2, gS2, hF⟩ := fr_c g0 (fun _ h => fr_Scene_stands h) (by decide) hF
      rcases fr_if hF with hF | hF
      · obtain ⟨r5, S4, gS4, hF⟩ := fr_c gS2 (fun _ h => fr_Scene_worth h) (by decide) hF
        rcases fr_if hF with hF | hF
        · rcases fr_if hF with hF | hF
          · exact gS4.tr (fb_Scene_weigh_108 (n := n) (T := T) hk14  hF)
          · rcases fr_if hF with hF | hF
            · exact gS4.tr (fb_Scene_weigh_108 (n := n) (T := T) hk14  hF)
            · obtain ⟨v6, hF⟩ := fr_r hF
              obtain ⟨v7, hF⟩ := fr_r hF
              rcases fr_if hF with hF | hF
              · exact gS4.tr (fb_Scene_weigh_108 (n := n) (T := T) hk14  hF)
              · have hF := (dk_b_out hF).2
                obtain ⟨S8, gS8, hF⟩ := fr_p gS4 (by decide) hF
                exact gS8.tr (fb_Scene_weigh_108 (n := n) (T := T) hk14  hF)
        · obtain ⟨S9, gS9, hF⟩ := fr_p gS4 (by decide) hF
          have hF := (dk_b_out hF).2
          obtain ⟨S10, gS10, hF⟩ := fr_p gS9 (by decide) hF
          exact gS10.tr (fb_Scene_weigh_108 (n := n) (T := T) hk14  hF)
      · exact gS2.tr (fb_Scene_weigh_108 (n := n) (T := T) hk14  hF)
theorem fb_Scene_weigh_14 {n : Nat} {T : Nat} {res : dk_S}  : ∀ (q : Nat) (x1 : Int32) (x2 : Int32) (x3 : Int32)  (S : dk_S), B_Scene_weigh_14 n T  q x1 x2 x3 S = some res → dk_fr [16, 17, 117, 118] S res := by
  intro q
  induction q with
  | zero => intro x1 x2 x3  S hF; cases hF
  | succ q ih => intro x1 x2 x3  S hF; exact fb_Scene_weigh_14b (n := n) (T := T) ih  hF
theorem fb_Scene_weigh_0 {n : Nat} {T : Nat} {res : dk_S}  {x1 : Int32} {S : dk_S}  (hF : B_Scene_weigh_0 n T  x1 S = some res) : dk_fr [16, 17, 117, 118] S res := by
  have g0 : dk_fr [16, 17, 117, 118] S S := dk_fr.rf
  unfold B_Scene_weigh_0 at hF
  obtain ⟨S11, gS11, hF⟩ := fr_p g0 (by decide) hF
  have hF := (dk_b_out hF).2
  obtain ⟨S12, gS12, hF⟩ := fr_p gS11 (by decide) hF
  exact gS12.tr (fb_Scene_weigh_14 (n := n) (T := T)  n x1 (0 : Int32) (0 : Int32) S12 hF)
theorem fr_Scene_weigh {n : Nat} {T : Nat} {x1 : Int32} {S : dk_S} {res : dk_S}  (h : F_Scene_weigh n T x1 S = some res) : dk_fr [16, 17, 117, 118] S res := fb_Scene_weigh_0 (n := n) (T := T)  h
theorem fb_Scene_possessor_0 {n : Nat} {T : Nat} {res : (Int32 × dk_S)}  {x1 : Int32} {S : dk_S}  (hF : B_Scene_possessor_0 n T  x1 S = some res) : dk_fr [16, 17, 117, 118] S res.2 := by
  have g0 : dk_fr [16, 17, 117, 118] S S := dk_fr.rf
  unfold B_Scene_possessor_0 at hF
  obtain ⟨S1, gS1, hF⟩ := fr_cv g0 (fun _ h => fr_Scene_weigh h) (by decide) hF
  rcases fr_if hF with hF | hF
  · obtain ⟨v3, hF⟩ := fr_r hF
    exact fr_rt hF gS1
  · exact fr_rt hF gS1
theorem fr_Scene_possessor {n : Nat} {T : Nat} {x1 : Int32} {S : dk_S} {res : (Int32 × dk_S)}  (h : F_Scene_possessor n T x1 S = some res) : dk_fr [16, 17, 117, 118] S res.2 := fb_Scene_possessor_0 (n := n) (T := T)  h
theorem fb_Scene_tally_81 {n : Nat} {T : Nat} {res : dk_S} {k16 : Int32 → Int32 → dk_S → Option dk_S} (hk16 : ∀ (x1 : Int32) (x2 : Int32)  (S : dk_S), k16 x1 x2 S = some res → dk_fr [16, 17, 19, 20, 21, 22, 23, 24, 25, 26, 27, 28, 29, 115, 116, 117, 118, 119, 120] S res) {x1 : Int32} {x2 : Int32} {u1 : Int32} {u2 : Int32} {S : dk_S}  (hF : B_Scene_tally_81 n T k16 x1 x2 u1 u2 S = some res) : dk_fr [16, 17, 19, 20, 21, 22, 23, 24, 25, 26, 27, 28, 29, 115, 116, 117, 118, 119, 120] S res := by
  have g0 : dk_fr [16, 17, 19, 20, 21, 22, 23, 24, 25, 26, 27, 28, 29, 115, 116, 117, 118, 119, 120] S S := dk_fr.rf
  unfold B_Scene_tally_81 at hF
  obtain ⟨S1, gS1, hF⟩ := fr_p g0 (by decide) hF
  exact gS1.tr (hk16 x1 (x2 + (1 : Int32)) S1 hF)
theorem fb_Scene_tally_60 {n : Nat} {T : Nat} {res : dk_S} {k16 : Int32 → Int32 → dk_S → Option dk_S} (hk16 : ∀ (x1 : Int32) (x2 : Int32)  (S : dk_S), k16 x1 x2 S = some res → dk_fr [16, 17, 19, 20, 21, 22, 23, 24, 25, 26, 27, 28, 29, 115, 116, 117, 118, 119, 120] S res) {x1 : Int32} {x2 : Int32} {u1 : Int32} {u2 : Int32} {S : dk_S}  (hF : B_Scene_tally_60 n T k16 x1 x2 u1 u2 S = some res) : dk_fr [16, 17, 19, 20, 21, 22, 23, 24, 25, 26, 27, 28, 29, 115, 116, 117, 118, 119, 120] S res := by
  have g0 : dk_fr [16, 17, 19, 20, 21, 22, 23, 24, 25, 26, 27, 28, 29, 115, 116, 117, 118, 119, 120] S S := dk_fr.rf
  unfold B_Scene_tally_60 at hF
  obtain ⟨S2, gS2, hF⟩ := fr_p g0 (by decide) hF
  rcases fr_if hF with hF | hF
  · exact gS2.tr (fb_Scene_tally_81 (n := n) (T := T) hk16  hF)
  · exact gS2.tr (fb_Scene_tally_81 (n := n) (T := T) hk16  hF)
theorem fb_Scene_tally_38 {n : Nat} {T : Nat} {res : dk_S} {k16 : Int32 → Int32 → dk_S → Option dk_S} (hk16 : ∀ (x1 : Int32) (x2 : Int32)  (S : dk_S), k16 x1 x2 S = some res → dk_fr [16, 17, 19, 20, 21, 22, 23, 24, 25, 26, 27, 28, 29, 115, 116, 117, 118, 119, 120] S res) {x1 : Int32} {x2 : Int32} {S : dk_S}  (hF : B_Scene_tally_38 n T k16 x1 x2 S = some res) : dk_fr [16, 17, 19, 20, 21, 22, 23, 24, 25, 26, 27, 28, 29, 115, 116, 117, 118, 119, 120] S res := by
  have g0 : dk_fr [16, 17, 19, 20, 21, 22, 23, 24, 25, 26, 27, 28, 29, 115, 116, 117, 118, 119, 120] S S := dk_fr.rf
  unfold B_Scene_tally_38 at hF
  obtain ⟨S3, gS3, hF⟩ := fr_cv g0 (fun _ h => fr_Scene_weigh h) (by decide) hF
  rcases fr_if hF with hF | hF
  · exact gS3.tr (fb_Scene_tally_60 (n := n) (T := T) hk16  hF)
  · exact gS3.tr (fb_Scene_tally_60 (n := n) (T := T) hk16  hF)
theorem fb_Scene_tally_16b {n : Nat} {T : Nat} {res : dk_S} {k16 : Int32 → Int32 → dk_S → Option dk_S} (hk16 : ∀ (x1 : Int32) (x2 : Int32)  (S : dk_S), k16 x1 x2 S = some res → dk_fr [16, 17, 19, 20, 21, 22, 23, 24, 25, 26, 27, 28, 29, 115, 116, 117, 118, 119, 120] S res) {x1 : Int32} {x2 : Int32} {S : dk_S}  (hF : B_Scene_tally_16b n T k16 x1 x2 S = some res) : dk_fr [16, 17, 19, 20, 21, 22, 23, 24, 25, 26, 27, 28, 29, 115, 116, 117, 118, 119, 120] S res := by
  have g0 : dk_fr [16, 17, 19, 20, 21, 22, 23, 24, 25, 26, 27, 28, 29, 115, 116, 117, 118, 119, 120] S S := dk_fr.rf
  unfold B_Scene_tally_16b at hF
  rcases fr_if hF with hF | hF
  · exact fr_rtv hF g0
  · rcases fr_if hF with hF | hF
    · exact g0.tr (fb_Scene_tally_38 (n := n) (T := T) hk16  hF)
    · obtain ⟨S5, gS5, hF⟩ := fr_cv g0 (fun _ h => fr_Scene_live h) (by decide) hF
      exact gS5.tr (fb_Scene_tally_38 (n := n) (T := T) hk16  hF)
theorem fb_Scene_tally_16 {n : Nat} {T : Nat} {res : dk_S}  : ∀ (q : Nat) (x1 : Int32) (x2 : Int32)  (S : dk_S), B_Scene_tally_16 n T  q x1 x2 S = some res → dk_fr [16, 17, 19, 20, 21, 22, 23, 24, 25, 26, 27, 28, 29, 115, 116, 117, 118, 119, 120] S res := by
  intro q
  induction q with
  | zero => intro x1 x2  S hF; cases hF
  | succ q ih => intro x1 x2  S hF; exact fb_Scene_tally_16b (n := n) (T := T) ih  hF
theorem fb_Scene_tally_0 {n : Nat} {T : Nat} {res : dk_S}  {x1 : Int32} {S : dk_S}  (hF : B_Scene_tally_0 n T  x1 S = some res) : dk_fr [16, 17, 19, 20, 21, 22, 23, 24, 25, 26, 27, 28, 29, 115, 116, 117, 118, 119, 120] S res := by
  have g0 : dk_fr [16, 17, 19, 20, 21, 22, 23, 24, 25, 26, 27, 28, 29, 115, 116, 117, 118, 119, 120] S S := dk_fr.rf
  unfold B_Scene_tally_0 at hF
  obtain ⟨S7, gS7, hF⟩ := fr_p g0 (by decide) hF
  obtain ⟨S8, gS8, hF⟩ := fr_p gS7 (by decide) hF
  obtain ⟨S9, gS9, hF⟩ := fr_cv gS8 (fun _ h => fr_Scene_begin h) (by decide) hF
  exact gS9.tr (fb_Scene_tally_16 (n := n) (T := T)  n x1 (0 : Int32) S9 hF)
theorem fr_Scene_tally {n : Nat} {T : Nat} {x1 : Int32} {S : dk_S} {res : dk_S}  (h : F_Scene_tally n T x1 S = some res) : dk_fr [16, 17, 19, 20, 21, 22, 23, 24, 25, 26, 27, 28, 29, 115, 116, 117, 118, 119, 120] S res := fb_Scene_tally_0 (n := n) (T := T)  h
theorem fb_Scene_reachWithout_63 {n : Nat} {T : Nat} {res : dk_S} {k8 : Int32 → Int32 → Int32 → dk_S → Option dk_S} (hk8 : ∀ (x1 : Int32) (x2 : Int32) (x3 : Int32)  (S : dk_S), k8 x1 x2 x3 S = some res → dk_fr [19, 20, 21, 22, 23, 24, 25, 26, 27, 28, 29, 115, 116] S res) {x1 : Int32} {x2 : Int32} {x3 : Int32} {S : dk_S}  (hF : B_Scene_reachWithout_63 n T k8 x1 x2 x3 S = some res) : dk_fr [19, 20, 21, 22, 23, 24, 25, 26, 27, 28, 29, 115, 116] S res := by
  have g0 : dk_fr [19, 20, 21, 22, 23, 24, 25, 26, 27, 28, 29, 115, 116] S S := dk_fr.rf
  unfold B_Scene_reachWithout_63 at hF
  exact g0.tr (hk8 x1 x2 (x3 + (1 : Int32)) S hF)
theorem fb_Scene_reachWithout_53 {n : Nat} {T : Nat} {res : dk_S} {k8 : Int32 → Int32 → Int32 → dk_S → Option dk_S} (hk8 : ∀ (x1 : Int32) (x2 : Int32) (x3 : Int32)  (S : dk_S), k8 x1 x2 x3 S = some res → dk_fr [19, 20, 21, 22, 23, 24, 25, 26, 27, 28, 29, 115, 116] S res) {x1 : Int32} {x2 : Int32} {x3 : Int32} {x4 : Int32} {S : dk_S}  (hF : B_Scene_reachWithout_53 n T k8 x1 x2 x3 x4 S = some res) : dk_fr [19, 20, 21, 22, 23, 24, 25, 26, 27, 28, 29, 115, 116] S res := by
  have g0 : dk_fr [19, 20, 21, 22, 23, 24, 25, 26, 27, 28, 29, 115, 116] S S := dk_fr.rf
  unfold B_Scene_reachWithout_53 at hF
  rcases fr_if hF with hF | hF
  · exact g0.tr (fb_Scene_reachWithout_63 (n := n) (T := T) hk8  hF)
  · obtain ⟨S1, gS1, hF⟩ := fr_cv g0 (fun _ h => fr_Scene_live h) (by decide) hF
    exact gS1.tr (fb_Scene_reachWithout_63 (n := n) (T := T) hk8  hF)
theorem fb_Scene_reachWithout_48 {n : Nat} {T : Nat} {res : dk_S} {k8 : Int32 → Int32 → Int32 → dk_S → Option dk_S} (hk8 : ∀ (x1 : Int32) (x2 : Int32) (x3 : Int32)  (S : dk_S), k8 x1 x2 x3 S = some res → dk_fr [19, 20, 21, 22, 23, 24, 25, 26, 27, 28, 29, 115, 116] S res) {x1 : Int32} {x2 : Int32} {x3 : Int32} {u0 : Int32} {S : dk_S}  (hF : B_Scene_reachWithout_48 n T k8 x1 x2 x3 u0 S = some res) : dk_fr [19, 20, 21, 22, 23, 24, 25, 26, 27, 28, 29, 115, 116] S res := by
  have g0 : dk_fr [19, 20, 21, 22, 23, 24, 25, 26, 27, 28, 29, 115, 116] S S := dk_fr.rf
  unfold B_Scene_reachWithout_48 at hF
  exact g0.tr (fb_Scene_reachWithout_53 (n := n) (T := T) hk8  hF)
theorem fb_Scene_reachWithout_8b {n : Nat} {T : Nat} {res : dk_S} {k8 : Int32 → Int32 → Int32 → dk_S → Option dk_S} (hk8 : ∀ (x1 : Int32) (x2 : Int32) (x3 : Int32)  (S : dk_S), k8 x1 x2 x3 S = some res → dk_fr [19, 20, 21, 22, 23, 24, 25, 26, 27, 28, 29, 115, 116] S res) {x1 : Int32} {x2 : Int32} {x3 : Int32} {S : dk_S}  (hF : B_Scene_reachWithout_8b n T k8 x1 x2 x3 S = some res) : dk_fr [19, 20, 21, 22, 23, 24, 25, 26, 27, 28, 29, 115, 116] S res := by
  have g0 : dk_fr [19, 20, 21, 22, 23, 24, 25, 26, 27, 28, 29, 115, 116] S S := dk_fr.rf
  unfold B_Scene_reachWithout_8b at hF
  rcases fr_if hF with hF | hF
  · exact fr_rtv hF g0
  · obtain ⟨v3, hF⟩ := fr_r hF
    rcases fr_if hF with hF | hF
    · exact g0.tr (fb_Scene_reachWithout_53 (n := n) (T := T) hk8  hF)
    · rcases fr_if hF with hF | hF
      · exact g0.tr (fb_Scene_reachWithout_48 (n := n) (T := T) hk8  hF)
      · exact g0.tr (fb_Scene_reachWithout_48 (n := n) (T := T) hk8  hF)
theorem fb_Scene_reachWithout_8 {n : Nat} {T : Nat} {res : dk_S}  : ∀ (q : Nat) (x1 : Int32) (x2 : Int32) (x3 : Int32)  (S : dk_S), B_Scene_reachWithout_8 n T  q x1 x2 x3 S = some res → dk_fr [19, 20, 21, 22, 23, 24, 25, 26, 27, 28, 29, 115, 116] S res := by
  intro q
  induction q with
  | zero => intro x1 x2 x3  S hF; cases hF
  | succ q ih => intro x1 x2 x3  S hF; exact fb_Scene_reachWithout_8b (n := n) (T := T) ih  hF
theorem fb_Scene_reachWithout_0 {n : Nat} {T : Nat} {res : dk_S}  {x1 : Int32} {S : dk_S}  (hF : B_Scene_reachWithout_0 n T  x1 S = some res) : dk_fr [19, 20, 21, 22, 23, 24, 25, 26, 27, 28, 29, 115, 116] S res := by
  have g0 : dk_fr [19, 20, 21, 22, 23, 24, 25, 26, 27, 28, 29, 115, 116] S S := dk_fr.rf
  unfold B_Scene_reachWithout_0 at hF
  obtain ⟨S4, gS4, hF⟩ := fr_cv g0 (fun _ h => fr_Scene_begin h) (by decide) hF
  exact gS4.tr (fb_Scene_reachWithout_8 (n := n) (T := T)  n x1 (0 : Int32) (0 : Int32) S4 hF)
theorem fr_Scene_reachWithout {n : Nat} {T : Nat} {x1 : Int32} {S : dk_S} {res : dk_S}  (h : F_Scene_reachWithout n T x1 S = some res) : dk_fr [19, 20, 21, 22, 23, 24, 25, 26, 27, 28, 29, 115, 116] S res := fb_Scene_reachWithout_0 (n := n) (T := T)  h
theorem fb_Scene_possessorWithout_0 {n : Nat} {T : Nat} {res : (Int32 × dk_S)}  {x1 : Int32} {x2 : Int32} {S : dk_S}  (hF : B_Scene_possessorWithout_0 n T  x1 x2 S = some res) : dk_fr [16, 17, 19, 20, 21, 22, 23, 24, 25, 26, 27, 28, 29, 115, 116, 117, 118] S res.2 := by
  have g0 : dk_fr [16, 17, 19, 20, 21, 22, 23, 24, 25, 26, 27, 28, 29, 115, 116, 117, 118] S S := dk_fr.rf
  unfold B_Scene_possessorWithout_0 at hF
  obtain ⟨S1, gS1, hF⟩ := fr_cv g0 (fun _ h => fr_Scene_reachWithout h) (by decide) hF
  obtain ⟨S3, gS3, hF⟩ := fr_cv gS1 (fun _ h => fr_Scene_weigh h) (by decide) hF
  rcases fr_if hF with hF | hF
  · obtain ⟨v5, hF⟩ := fr_r hF
    exact fr_rt hF gS3
  · exact fr_rt hF gS3
theorem fr_Scene_possessorWithout {n : Nat} {T : Nat} {x1 : Int32} {x2 : Int32} {S : dk_S} {res : (Int32 × dk_S)}  (h : F_Scene_possessorWithout n T x1 x2 S = some res) : dk_fr [16, 17, 19, 20, 21, 22, 23, 24, 25, 26, 27, 28, 29, 115, 116, 117, 118] S res.2 := fb_Scene_possessorWithout_0 (n := n) (T := T)  h
theorem fb_Hare_isOne_0 {n : Nat} {T : Nat} {res : (Int32 × dk_S)}  {x0 : Int32} {S : dk_S}  (hF : B_Hare_isOne_0 n T  x0 S = some res) : dk_fr [] S res.2 := by
  have g0 : dk_fr [] S S := dk_fr.rf
  unfold B_Hare_isOne_0 at hF
  rcases fr_if hF with hF | hF
  · have hF := (dk_b_out hF).2
    exact fr_rt hF g0
  · rcases fr_if hF with hF | hF
    · have hF := (dk_b_out hF).2
      exact fr_rt hF g0
    · have hF := (dk_b_out hF).2
      exact fr_rt hF g0
theorem fr_Hare_isOne {n : Nat} {T : Nat} {x0 : Int32} {S : dk_S} {res : (Int32 × dk_S)}  (h : F_Hare_isOne n T x0 S = some res) : dk_fr [] S res.2 := fb_Hare_isOne_0 (n := n) (T := T)  h
theorem fb_Hare_isOneOrNobody_0 {n : Nat} {T : Nat} {res : (Int32 × dk_S)}  {x0 : Int32} {S : dk_S}  (hF : B_Hare_isOneOrNobody_0 n T  x0 S = some res) : dk_fr [] S res.2 := by
  have g0 : dk_fr [] S S := dk_fr.rf
  unfold B_Hare_isOneOrNobody_0 at hF
  rcases fr_if hF with hF | hF
  · have hF := (dk_b_out hF).2
    exact fr_rt hF g0
  · obtain ⟨r2, S1, gS1, hF⟩ := fr_c g0 (fun _ h => fr_Hare_isOne h) (by decide) hF
    rcases fr_if hF with hF | hF
    · have hF := (dk_b_out hF).2
      exact fr_rt hF gS1
    · have hF := (dk_b_out hF).2
      exact fr_rt hF gS1
theorem fr_Hare_isOneOrNobody {n : Nat} {T : Nat} {x0 : Int32} {S : dk_S} {res : (Int32 × dk_S)}  (h : F_Hare_isOneOrNobody n T x0 S = some res) : dk_fr [] S res.2 := fb_Hare_isOneOrNobody_0 (n := n) (T := T)  h
theorem fb_Hare_ground_0 {n : Nat} {T : Nat} {res : (Int32 × dk_S)}  {x1 : Int32} {S : dk_S}  (hF : B_Hare_ground_0 n T  x1 S = some res) : dk_fr [2, 102] S res.2 := by
  have g0 : dk_fr [2, 102] S S := dk_fr.rf
  unfold B_Hare_ground_0 at hF
  obtain ⟨r2, S1, gS1, hF⟩ := fr_c g0 (fun _ h => fr_Hare_isOneOrNobody h) (by decide) hF
  rcases fr_if hF with hF | hF
  · obtain ⟨r4, S3, gS3, hF⟩ := fr_c gS1 (fun _ h => fr_Land_addGround h) (by decide) hF
    exact fr_rt hF gS3
  · exact fr_rt hF gS1
theorem fr_Hare_ground {n : Nat} {T : Nat} {x1 : Int32} {S : dk_S} {res : (Int32 × dk_S)}  (h : F_Hare_ground n T x1 S = some res) : dk_fr [2, 102] S res.2 := fb_Hare_ground_0 (n := n) (T := T)  h
theorem fb_Hare_owns_0 {n : Nat} {T : Nat} {res : (Int32 × dk_S)}  {x1 : Int32} {x2 : Int32} {S : dk_S}  (hF : B_Hare_owns_0 n T  x1 x2 S = some res) : dk_fr [2] S res.2 := by
  have g0 : dk_fr [2] S S := dk_fr.rf
  unfold B_Hare_owns_0 at hF
  obtain ⟨r2, S1, gS1, hF⟩ := fr_c g0 (fun _ h => fr_Land_hasGround h) (by decide) hF
  rcases fr_if hF with hF | hF
  · obtain ⟨r4, S3, gS3, hF⟩ := fr_c gS1 (fun _ h => fr_Hare_isOneOrNobody h) (by decide) hF
    rcases fr_if hF with hF | hF
    · obtain ⟨v5, hF⟩ := fr_r hF
      obtain ⟨S6, gS6, hF⟩ := fr_w gS3 (by decide) hF
      exact fr_rt hF gS6
    · exact fr_rt hF gS3
  · exact fr_rt hF gS1
theorem fr_Hare_owns {n : Nat} {T : Nat} {x1 : Int32} {x2 : Int32} {S : dk_S} {res : (Int32 × dk_S)}  (h : F_Hare_owns n T x1 x2 S = some res) : dk_fr [2] S res.2 := fb_Hare_owns_0 (n := n) (T := T)  h
theorem fb_Hare_beast_0 {n : Nat} {T : Nat} {res : (Int32 × dk_S)}  {x1 : Int32} {x2 : Int32} {S : dk_S}  (hF : B_Hare_beast_0 n T  x1 x2 S = some res) : dk_fr [3, 4, 103] S res.2 := by
  have g0 : dk_fr [3, 4, 103] S S := dk_fr.rf
  unfold B_Hare_beast_0 at hF
  obtain ⟨r2, S1, gS1, hF⟩ := fr_c g0 (fun _ h => fr_Land_hasGround h) (by decide) hF
  rcases fr_if hF with hF | hF
  · obtain ⟨r4, S3, gS3, hF⟩ := fr_c gS1 (fun _ h => fr_Hare_isOneOrNobody h) (by decide) hF
    rcases fr_if hF with hF | hF
    · obtain ⟨r6, S5, gS5, hF⟩ := fr_c gS3 (fun _ h => fr_Land_addBeast h) (by decide) hF
      exact fr_rt hF gS5
    · exact fr_rt hF gS3
  · exact fr_rt hF gS1
theorem fr_Hare_beast {n : Nat} {T : Nat} {x1 : Int32} {x2 : Int32} {S : dk_S} {res : (Int32 × dk_S)}  (h : F_Hare_beast n T x1 x2 S = some res) : dk_fr [3, 4, 103] S res.2 := fb_Hare_beast_0 (n := n) (T := T)  h
theorem fb_Hare_moment_84 {n : Nat} {T : Nat} {res : (Int32 × dk_S)}  {x1 : Int32} {x2 : Int32} {x3 : Int32} {x4 : Int32} {x5 : Int32} {S : dk_S}  (hF : B_Hare_moment_84 n T  x1 x2 x3 x4 x5 S = some res) : dk_fr [6, 7, 8, 9, 10, 11, 104] S res.2 := by
  have g0 : dk_fr [6, 7, 8, 9, 10, 11, 104] S S := dk_fr.rf
  unfold B_Hare_moment_84 at hF
  obtain ⟨r2, S1, gS1, hF⟩ := fr_c g0 (fun _ h => fr_Diary_add h) (by decide) hF
  exact fr_rt hF gS1
theorem fb_Hare_moment_0 {n : Nat} {T : Nat} {res : (Int32 × dk_S)}  {x1 : Int32} {x2 : Int32} {x3 : Int32} {x4 : Int32} {x5 : Int32} {S : dk_S}  (hF : B_Hare_moment_0 n T  x1 x2 x3 x4 x5 S = some res) : dk_fr [6, 7, 8, 9, 10, 11, 104] S res.2 := by
  have g0 : dk_fr [6, 7, 8, 9, 10, 11, 104] S S := dk_fr.rf
  unfold B_Hare_moment_0 at hF
  obtain ⟨r4, S3, gS3, hF⟩ := fr_c g0 (fun _ h => fr_Land_hasBeast h) (by decide) hF
  rcases fr_if hF with hF | hF
  · obtain ⟨r6, S5, gS5, hF⟩ := fr_c gS3 (fun _ h => fr_Diary_lastTime h) (by decide) hF
    rcases fr_if hF with hF | hF
    · exact fr_rt hF gS5
    · rcases fr_if hF with hF | hF
      · exact fr_rt hF gS5
      · rcases fr_if hF with hF | hF
        · exact fr_rt hF gS5
        · rcases fr_if hF with hF | hF
          · exact fr_rt hF gS5
          · obtain ⟨r8, S7, gS7, hF⟩ := fr_c gS5 (fun _ h => fr_Hare_isOne h) (by decide) hF
            rcases fr_if hF with hF | hF
            · rcases fr_if hF with hF | hF
              · exact fr_rt hF gS7
              · rcases fr_if hF with hF | hF
                · exact fr_rt hF gS7
                · rcases fr_if hF with hF | hF
                  · exact gS7.tr (fb_Hare_moment_84 (n := n) (T := T)   hF)
                  · obtain ⟨r10, S9, gS9, hF⟩ := fr_c gS7 (fun _ h => fr_Land_hasGround h) (by decide) hF
                    rcases fr_if hF with hF | hF
                    · exact gS9.tr (fb_Hare_moment_84 (n := n) (T := T)   hF)
                    · exact fr_rt hF gS9
            · exact fr_rt hF gS7
  · exact fr_rt hF gS3
theorem fr_Hare_moment {n : Nat} {T : Nat} {x1 : Int32} {x2 : Int32} {x3 : Int32} {x4 : Int32} {x5 : Int32} {S : dk_S} {res : (Int32 × dk_S)}  (h : F_Hare_moment n T x1 x2 x3 x4 x5 S = some res) : dk_fr [6, 7, 8, 9, 10, 11, 104] S res.2 := fb_Hare_moment_0 (n := n) (T := T)  h
theorem fb_Hare_undo_0 {n : Nat} {T : Nat} {res : (Int32 × dk_S)}   {S : dk_S}  (hF : B_Hare_undo_0 n T   S = some res) : dk_fr [104] S res.2 := by
  have g0 : dk_fr [104] S S := dk_fr.rf
  unfold B_Hare_undo_0 at hF
  obtain ⟨r2, S1, gS1, hF⟩ := fr_c g0 (fun _ h => fr_Diary_dropLast h) (by decide) hF
  exact fr_rt hF gS1
theorem fr_Hare_undo {n : Nat} {T : Nat}  {S : dk_S} {res : (Int32 × dk_S)}  (h : F_Hare_undo n T  S = some res) : dk_fr [104] S res.2 := fb_Hare_undo_0 (n := n) (T := T)  h
theorem fb_Hare_unsure_55 {n : Nat} {T : Nat} {res : (Int32 × dk_S)}  {x1 : Int32} {x2 : Int32} {x3 : Int32} {S : dk_S}  (hF : B_Hare_unsure_55 n T  x1 x2 x3 S = some res) : dk_fr [11] S res.2 := by
  have g0 : dk_fr [11] S S := dk_fr.rf
  unfold B_Hare_unsure_55 at hF
  obtain ⟨S1, gS1, hF⟩ := fr_w g0 (by decide) hF
  exact fr_rt hF gS1
theorem fb_Hare_unsure_25 {n : Nat} {T : Nat} {res : (Int32 × dk_S)}  {x1 : Int32} {x2 : Int32} {S : dk_S}  (hF : B_Hare_unsure_25 n T  x1 x2 S = some res) : dk_fr [11] S res.2 := by
  have g0 : dk_fr [11] S S := dk_fr.rf
  unfold B_Hare_unsure_25 at hF
  obtain ⟨v2, hF⟩ := fr_r hF
  rcases fr_if hF with hF | hF
  · exact g0.tr (fb_Hare_unsure_55 (n := n) (T := T)   hF)
  · obtain ⟨r4, S3, gS3, hF⟩ := fr_c g0 (fun _ h => fr_Diary_countUnsure h) (by decide) hF
    rcases fr_if hF with hF | hF
    · exact gS3.tr (fb_Hare_unsure_55 (n := n) (T := T)   hF)
    · exact fr_rt hF gS3
theorem fb_Hare_unsure_0 {n : Nat} {T : Nat} {res : (Int32 × dk_S)}  {x1 : Int32} {x2 : Int32} {S : dk_S}  (hF : B_Hare_unsure_0 n T  x1 x2 S = some res) : dk_fr [11] S res.2 := by
  have g0 : dk_fr [11] S S := dk_fr.rf
  unfold B_Hare_unsure_0 at hF
  obtain ⟨r6, S5, gS5, hF⟩ := fr_c g0 (fun _ h => fr_Diary_has h) (by decide) hF
  rcases fr_if hF with hF | hF
  · rcases fr_if hF with hF | hF
    · exact gS5.tr (fb_Hare_unsure_25 (n := n) (T := T)   hF)
    · rcases fr_if hF with hF | hF
      · exact gS5.tr (fb_Hare_unsure_25 (n := n) (T := T)   hF)
      · exact fr_rt hF gS5
  · exact fr_rt hF gS5
theorem fr_Hare_unsure {n : Nat} {T : Nat} {x1 : Int32} {x2 : Int32} {S : dk_S} {res : (Int32 × dk_S)}  (h : F_Hare_unsure n T x1 x2 S = some res) : dk_fr [11] S res.2 := fb_Hare_unsure_0 (n := n) (T := T)  h
theorem fb_Hare_momentTold_0 {n : Nat} {T : Nat} {res : (Int32 × dk_S)}  {x1 : Int32} {x2 : Int32} {S : dk_S}  (hF : B_Hare_momentTold_0 n T  x1 x2 S = some res) : dk_fr [] S res.2 := by
  have g0 : dk_fr [] S S := dk_fr.rf
  unfold B_Hare_momentTold_0 at hF
  obtain ⟨r2, S1, gS1, hF⟩ := fr_c g0 (fun _ h => fr_Diary_has h) (by decide) hF
  rcases fr_if hF with hF | hF
  · rcases fr_if hF with hF | hF
    · obtain ⟨v3, hF⟩ := fr_r hF
      exact fr_rt hF gS1
    · rcases fr_if hF with hF | hF
      · obtain ⟨v4, hF⟩ := fr_r hF
        exact fr_rt hF gS1
      · rcases fr_if hF with hF | hF
        · obtain ⟨v5, hF⟩ := fr_r hF
          exact fr_rt hF gS1
        · rcases fr_if hF with hF | hF
          · obtain ⟨v6, hF⟩ := fr_r hF
            exact fr_rt hF gS1
          · rcases fr_if hF with hF | hF
            · obtain ⟨v7, hF⟩ := fr_r hF
              exact fr_rt hF gS1
            · rcases fr_if hF with hF | hF
              · obtain ⟨v8, hF⟩ := fr_r hF
                exact fr_rt hF gS1
              · exact fr_rt hF gS1
  · exact fr_rt hF gS1
theorem fr_Hare_momentTold {n : Nat} {T : Nat} {x1 : Int32} {x2 : Int32} {S : dk_S} {res : (Int32 × dk_S)}  (h : F_Hare_momentTold n T x1 x2 S = some res) : dk_fr [] S res.2 := fb_Hare_momentTold_0 (n := n) (T := T)  h
theorem fb_Hare_useText_0 {n : Nat} {T : Nat} {res : dk_S}  {x1 : Int32} {S : dk_S}  (hF : B_Hare_useText_0 n T  x1 S = some res) : dk_fr [114] S res := by
  have g0 : dk_fr [114] S S := dk_fr.rf
  unfold B_Hare_useText_0 at hF
  rcases fr_if hF with hF | hF
  · exact fr_rtv hF g0
  · rcases fr_if hF with hF | hF
    · exact fr_rtv hF g0
    · obtain ⟨t1, hF⟩ := fr_tx hF
      obtain ⟨t2, hF⟩ := fr_tx hF
      obtain ⟨S3, gS3, hF⟩ := fr_p g0 (by decide) hF
      exact fr_rtv hF gS3
theorem fr_Hare_useText {n : Nat} {T : Nat} {x1 : Int32} {S : dk_S} {res : dk_S}  (h : F_Hare_useText n T x1 S = some res) : dk_fr [114] S res := fb_Hare_useText_0 (n := n) (T := T)  h
theorem fb_Hare_force_0 {n : Nat} {T : Nat} {res : (Int32 × dk_S)}  {x1 : Int32} {S : dk_S}  (hF : B_Hare_force_0 n T  x1 S = some res) : dk_fr [101, 114] S res.2 := by
  have g0 : dk_fr [101, 114] S S := dk_fr.rf
  unfold B_Hare_force_0 at hF
  rcases fr_if hF with hF | hF
  · exact fr_rt hF g0
  · rcases fr_if hF with hF | hF
    · obtain ⟨S1, gS1, hF⟩ := fr_p g0 (by decide) hF
      obtain ⟨S2, gS2, hF⟩ := fr_cv gS1 (fun _ h => fr_Hare_useText h) (by decide) hF
      exact fr_rt hF gS2
    · exact fr_rt hF g0
theorem fr_Hare_force {n : Nat} {T : Nat} {x1 : Int32} {S : dk_S} {res : (Int32 × dk_S)}  (h : F_Hare_force n T x1 S = some res) : dk_fr [101, 114] S res.2 := fb_Hare_force_0 (n := n) (T := T)  h
theorem fb_Hare_follow_0 {n : Nat} {T : Nat} {res : (Int32 × dk_S)}  {x1 : Int32} {x2 : Int32} {x3 : Int32} {S : dk_S}  (hF : B_Hare_follow_0 n T  x1 x2 x3 S = some res) : dk_fr [16, 17] S res.2 := by
  have g0 : dk_fr [16, 17] S S := dk_fr.rf
  unfold B_Hare_follow_0 at hF
  obtain ⟨r2, S1, gS1, hF⟩ := fr_c g0 (fun _ h => fr_Hare_isOne h) (by decide) hF
  rcases fr_if hF with hF | hF
  · exact fr_rt hF gS1
  · obtain ⟨r4, S3, gS3, hF⟩ := fr_c gS1 (fun _ h => fr_Land_hasGround h) (by decide) hF
    rcases fr_if hF with hF | hF
    · exact fr_rt hF gS3
    · obtain ⟨r6, S5, gS5, hF⟩ := fr_c gS3 (fun _ h => fr_Land_hasBeast h) (by decide) hF
      rcases fr_if hF with hF | hF
      · obtain ⟨r8, S7, gS7, hF⟩ := fr_c gS5 (fun _ h => fr_Scene_mayFollow h) (by decide) hF
        rcases fr_if hF with hF | hF
        · exact fr_rt hF gS7
        · exact fr_rt hF gS7
      · exact fr_rt hF gS5
theorem fr_Hare_follow {n : Nat} {T : Nat} {x1 : Int32} {x2 : Int32} {x3 : Int32} {S : dk_S} {res : (Int32 × dk_S)}  (h : F_Hare_follow n T x1 x2 x3 S = some res) : dk_fr [16, 17] S res.2 := fb_Hare_follow_0 (n := n) (T := T)  h
theorem fb_Hare_claims_0 {n : Nat} {T : Nat} {res : (Int32 × dk_S)}  {x1 : Int32} {S : dk_S}  (hF : B_Hare_claims_0 n T  x1 S = some res) : dk_fr [19, 20, 21, 22, 23, 24, 25, 26, 27, 28, 29, 115, 116] S res.2 := by
  have g0 : dk_fr [19, 20, 21, 22, 23, 24, 25, 26, 27, 28, 29, 115, 116] S S := dk_fr.rf
  unfold B_Hare_claims_0 at hF
  obtain ⟨r2, S1, gS1, hF⟩ := fr_c g0 (fun _ h => fr_Diary_reaches h) (by decide) hF
  rcases fr_if hF with hF | hF
  · obtain ⟨S3, gS3, hF⟩ := fr_cv gS1 (fun _ h => fr_Scene_reach h) (by decide) hF
    exact fr_rt hF gS3
  · exact fr_rt hF gS1
theorem fr_Hare_claims {n : Nat} {T : Nat} {x1 : Int32} {S : dk_S} {res : (Int32 × dk_S)}  (h : F_Hare_claims n T x1 S = some res) : dk_fr [19, 20, 21, 22, 23, 24, 25, 26, 27, 28, 29, 115, 116] S res.2 := fb_Hare_claims_0 (n := n) (T := T)  h
theorem fb_Hare_claimTold_0 {n : Nat} {T : Nat} {res : (Int32 × dk_S)}  {x1 : Int32} {x2 : Int32} {x3 : Int32} {S : dk_S}  (hF : B_Hare_claimTold_0 n T  x1 x2 x3 S = some res) : dk_fr [16, 17, 19, 20, 21, 22, 23, 24, 25, 26, 27, 28, 29, 115, 116] S res.2 := by
  have g0 : dk_fr [16, 17, 19, 20, 21, 22, 23, 24, 25, 26, 27, 28, 29, 115, 116] S S := dk_fr.rf
  unfold B_Hare_claimTold_0 at hF
  obtain ⟨r2, S1, gS1, hF⟩ := fr_c g0 (fun _ h => fr_Diary_reaches h) (by decide) hF
  rcases fr_if hF with hF | hF
  · obtain ⟨S3, gS3, hF⟩ := fr_cv gS1 (fun _ h => fr_Scene_reach h) (by decide) hF
    obtain ⟨r6, S5, gS5, hF⟩ := fr_c gS3 (fun _ h => fr_Scene_has h) (by decide) hF
    rcases fr_if hF with hF | hF
    · rcases fr_if hF with hF | hF
      · obtain ⟨v7, hF⟩ := fr_r hF
        exact fr_rt hF gS5
      · rcases fr_if hF with hF | hF
        · obtain ⟨v8, hF⟩ := fr_r hF
          exact fr_rt hF gS5
        · rcases fr_if hF with hF | hF
          · obtain ⟨v9, hF⟩ := fr_r hF
            exact fr_rt hF gS5
          · rcases fr_if hF with hF | hF
            · obtain ⟨v10, hF⟩ := fr_r hF
              exact fr_rt hF gS5
            · rcases fr_if hF with hF | hF
              · obtain ⟨v11, hF⟩ := fr_r hF
                exact fr_rt hF gS5
              · rcases fr_if hF with hF | hF
                · obtain ⟨r13, S12, gS12, hF⟩ := fr_c gS5 (fun _ h => fr_Scene_stands h) (by decide) hF
                  rcases fr_if hF with hF | hF
                  · exact fr_rt hF gS12
                  · exact fr_rt hF gS12
                · rcases fr_if hF with hF | hF
                  · obtain ⟨r15, S14, gS14, hF⟩ := fr_c gS5 (fun _ h => fr_Scene_weight h) (by decide) hF
                    exact fr_rt hF gS14
                  · rcases fr_if hF with hF | hF
                    · obtain ⟨r17, S16, gS16, hF⟩ := fr_c gS5 (fun _ h => fr_Scene_worth h) (by decide) hF
                      exact fr_rt hF gS16
                    · exact fr_rt hF gS5
    · exact fr_rt hF gS5
  · exact fr_rt hF gS1
theorem fr_Hare_claimTold {n : Nat} {T : Nat} {x1 : Int32} {x2 : Int32} {x3 : Int32} {S : dk_S} {res : (Int32 × dk_S)}  (h : F_Hare_claimTold n T x1 x2 x3 S = some res) : dk_fr [16, 17, 19, 20, 21, 22, 23, 24, 25, 26, 27, 28, 29, 115, 116] S res.2 := fb_Hare_claimTold_0 (n := n) (T := T)  h
theorem fb_Hare_whoseIs_0 {n : Nat} {T : Nat} {res : (Int32 × dk_S)}  {x1 : Int32} {x2 : Int32} {S : dk_S}  (hF : B_Hare_whoseIs_0 n T  x1 x2 S = some res) : dk_fr [16, 17, 19, 20, 21, 22, 23, 24, 25, 26, 27, 28, 29, 115, 116, 117, 118] S res.2 := by
  have g0 : dk_fr [16, 17, 19, 20, 21, 22, 23, 24, 25, 26, 27, 28, 29, 115, 116, 117, 118] S S := dk_fr.rf
  unfold B_Hare_whoseIs_0 at hF
  obtain ⟨r2, S1, gS1, hF⟩ := fr_c g0 (fun _ h => fr_Land_hasBeast h) (by decide) hF
  rcases fr_if hF with hF | hF
  · obtain ⟨r4, S3, gS3, hF⟩ := fr_c gS1 (fun _ h => fr_Diary_reaches h) (by decide) hF
    rcases fr_if hF with hF | hF
    · obtain ⟨S5, gS5, hF⟩ := fr_cv gS3 (fun _ h => fr_Scene_reach h) (by decide) hF
      obtain ⟨r8, S7, gS7, hF⟩ := fr_c gS5 (fun _ h => fr_Scene_possessor h) (by decide) hF
      exact fr_rt hF gS7
    · exact fr_rt hF gS3
  · exact fr_rt hF gS1
theorem fr_Hare_whoseIs {n : Nat} {T : Nat} {x1 : Int32} {x2 : Int32} {S : dk_S} {res : (Int32 × dk_S)}  (h : F_Hare_whoseIs n T x1 x2 S = some res) : dk_fr [16, 17, 19, 20, 21, 22, 23, 24, 25, 26, 27, 28, 29, 115, 116, 117, 118] S res.2 := fb_Hare_whoseIs_0 (n := n) (T := T)  h
theorem fb_Hare_why_0 {n : Nat} {T : Nat} {res : (Int32 × dk_S)}  {x1 : Int32} {x2 : Int32} {S : dk_S}  (hF : B_Hare_why_0 n T  x1 x2 S = some res) : dk_fr [16, 17, 19, 20, 21, 22, 23, 24, 25, 26, 27, 28, 29, 115, 116, 117, 118] S res.2 := by
  have g0 : dk_fr [16, 17, 19, 20, 21, 22, 23, 24, 25, 26, 27, 28, 29, 115, 116, 117, 118] S S := dk_fr.rf
  unfold B_Hare_why_0 at hF
  obtain ⟨r2, S1, gS1, hF⟩ := fr_c g0 (fun _ h => fr_Land_hasBeast h) (by decide) hF
  rcases fr_if hF with hF | hF
  · obtain ⟨r4, S3, gS3, hF⟩ := fr_c gS1 (fun _ h => fr_Diary_reaches h) (by decide) hF
    rcases fr_if hF with hF | hF
    · obtain ⟨S5, gS5, hF⟩ := fr_cv gS3 (fun _ h => fr_Scene_reach h) (by decide) hF
      obtain ⟨S7, gS7, hF⟩ := fr_cv gS5 (fun _ h => fr_Scene_weigh h) (by decide) hF
      exact fr_rt hF gS7
    · exact fr_rt hF gS3
  · exact fr_rt hF gS1
theorem fr_Hare_why {n : Nat} {T : Nat} {x1 : Int32} {x2 : Int32} {S : dk_S} {res : (Int32 × dk_S)}  (h : F_Hare_why n T x1 x2 S = some res) : dk_fr [16, 17, 19, 20, 21, 22, 23, 24, 25, 26, 27, 28, 29, 115, 116, 117, 118] S res.2 := fb_Hare_why_0 (n := n) (T := T)  h
theorem fb_Hare_where_0 {n : Nat} {T : Nat} {res : (Int32 × dk_S)}  {x1 : Int32} {x2 : Int32} {x3 : Int32} {S : dk_S}  (hF : B_Hare_where_0 n T  x1 x2 x3 S = some res) : dk_fr [19, 20, 21, 22, 23, 24, 25, 26, 27, 28, 29, 115, 116] S res.2 := by
  have g0 : dk_fr [19, 20, 21, 22, 23, 24, 25, 26, 27, 28, 29, 115, 116] S S := dk_fr.rf
  unfold B_Hare_where_0 at hF
  obtain ⟨r2, S1, gS1, hF⟩ := fr_c g0 (fun _ h => fr_Land_hasBeast h) (by decide) hF
  rcases fr_if hF with hF | hF
  · obtain ⟨r4, S3, gS3, hF⟩ := fr_c gS1 (fun _ h => fr_Diary_reaches h) (by decide) hF
    rcases fr_if hF with hF | hF
    · obtain ⟨S5, gS5, hF⟩ := fr_cv gS3 (fun _ h => fr_Scene_reach h) (by decide) hF
      rcases fr_if hF with hF | hF
      · obtain ⟨v7, hF⟩ := fr_r hF
        exact fr_rt hF gS5
      · rcases fr_if hF with hF | hF
        · obtain ⟨v8, hF⟩ := fr_r hF
          exact fr_rt hF gS5
        · rcases fr_if hF with hF | hF
          · obtain ⟨v9, hF⟩ := fr_r hF
            rcases fr_if hF with hF | hF
            · exact fr_rt hF gS5
            · exact fr_rt hF gS5
          · exact fr_rt hF gS5
    · exact fr_rt hF gS3
  · exact fr_rt hF gS1
theorem fr_Hare_where {n : Nat} {T : Nat} {x1 : Int32} {x2 : Int32} {x3 : Int32} {S : dk_S} {res : (Int32 × dk_S)}  (h : F_Hare_where n T x1 x2 x3 S = some res) : dk_fr [19, 20, 21, 22, 23, 24, 25, 26, 27, 28, 29, 115, 116] S res.2 := fb_Hare_where_0 (n := n) (T := T)  h
theorem fb_Hare_nobody_0 {n : Nat} {T : Nat} {res : (Int32 × dk_S)}  {x1 : Int32} {S : dk_S}  (hF : B_Hare_nobody_0 n T  x1 S = some res) : dk_fr [16, 17, 19, 20, 21, 22, 23, 24, 25, 26, 27, 28, 29, 115, 116, 117, 118, 119, 120] S res.2 := by
  have g0 : dk_fr [16, 17, 19, 20, 21, 22, 23, 24, 25, 26, 27, 28, 29, 115, 116, 117, 118, 119, 120] S S := dk_fr.rf
  unfold B_Hare_nobody_0 at hF
  obtain ⟨r2, S1, gS1, hF⟩ := fr_c g0 (fun _ h => fr_Land_hasBeast h) (by decide) hF
  rcases fr_if hF with hF | hF
  · obtain ⟨S3, gS3, hF⟩ := fr_cv gS1 (fun _ h => fr_Scene_tally h) (by decide) hF
    exact fr_rt hF gS3
  · exact fr_rt hF gS1
theorem fr_Hare_nobody {n : Nat} {T : Nat} {x1 : Int32} {S : dk_S} {res : (Int32 × dk_S)}  (h : F_Hare_nobody n T x1 S = some res) : dk_fr [16, 17, 19, 20, 21, 22, 23, 24, 25, 26, 27, 28, 29, 115, 116, 117, 118, 119, 120] S res.2 := fb_Hare_nobody_0 (n := n) (T := T)  h
theorem fb_Hare_isSheet_0 {n : Nat} {T : Nat} {res : (Int32 × dk_S)}  {x0 : Int32} {S : dk_S}  (hF : B_Hare_isSheet_0 n T  x0 S = some res) : dk_fr [] S res.2 := by
  have g0 : dk_fr [] S S := dk_fr.rf
  unfold B_Hare_isSheet_0 at hF
  rcases fr_if hF with hF | hF
  · have hF := (dk_b_out hF).2
    exact fr_rt hF g0
  · rcases fr_if hF with hF | hF
    · have hF := (dk_b_out hF).2
      exact fr_rt hF g0
    · have hF := (dk_b_out hF).2
      exact fr_rt hF g0
theorem fr_Hare_isSheet {n : Nat} {T : Nat} {x0 : Int32} {S : dk_S} {res : (Int32 × dk_S)}  (h : F_Hare_isSheet n T x0 S = some res) : dk_fr [] S res.2 := fb_Hare_isSheet_0 (n := n) (T := T)  h
theorem fb_Hare_judge_95 {n : Nat} {T : Nat} {res : (Int32 × dk_S)} {k70 : Int32 → Nat → Int32 → dk_S → Option (Int32 × dk_S)} (hk70 : ∀ (x1 : Int32) (jx3 : Nat) (x4 : Int32) (hx3 : jx3 < 4) (S : dk_S), k70 x1 jx3 x4 S = some res → dk_fr [16, 17, 19, 20, 21, 22, 23, 24, 25, 26, 27, 28, 29, 115, 116, 117, 118] S res.2) {x1 : Int32} {jx3 : Nat} {x4 : Int32} {S : dk_S} (hx3 : jx3 < 4) (hF : B_Hare_judge_95 n T k70 x1 jx3 x4 S = some res) : dk_fr [16, 17, 19, 20, 21, 22, 23, 24, 25, 26, 27, 28, 29, 115, 116, 117, 118] S res.2 := by
  have g0 : dk_fr [16, 17, 19, 20, 21, 22, 23, 24, 25, 26, 27, 28, 29, 115, 116, 117, 118] S S := dk_fr.rf
  unfold B_Hare_judge_95 at hF
  obtain ⟨r2, S1, gS1, hF⟩ := fr_c g0 (fun _ h => fr_Scene_possessor h) (by decide) hF
  obtain ⟨v3, hF⟩ := fr_r hF
  rcases fr_if hF with hF | hF
  · exact gS1.tr (hk70 x1 jx3 (x4 + (1 : Int32)) hx3 S1 hF)
  · exact fr_rt hF gS1
theorem fb_Hare_judge_70b {n : Nat} {T : Nat} {res : (Int32 × dk_S)} {k70 : Int32 → Nat → Int32 → dk_S → Option (Int32 × dk_S)} (hk70 : ∀ (x1 : Int32) (jx3 : Nat) (x4 : Int32) (hx3 : jx3 < 4) (S : dk_S), k70 x1 jx3 x4 S = some res → dk_fr [16, 17, 19, 20, 21, 22, 23, 24, 25, 26, 27, 28, 29, 115, 116, 117, 118] S res.2) {x1 : Int32} {jx3 : Nat} {x4 : Int32} {S : dk_S} (hx3 : jx3 < 4) (hF : B_Hare_judge_70b n T k70 x1 jx3 x4 S = some res) : dk_fr [16, 17, 19, 20, 21, 22, 23, 24, 25, 26, 27, 28, 29, 115, 116, 117, 118] S res.2 := by
  have g0 : dk_fr [16, 17, 19, 20, 21, 22, 23, 24, 25, 26, 27, 28, 29, 115, 116, 117, 118] S S := dk_fr.rf
  unfold B_Hare_judge_70b at hF
  rcases fr_if hF with hF | hF
  · exact fr_rt hF g0
  · rcases fr_if hF with hF | hF
    · exact g0.tr (fb_Hare_judge_95 (n := n) (T := T) hk70 hx3 hF)
    · obtain ⟨S4, gS4, hF⟩ := fr_cv g0 (fun _ h => fr_Scene_live h) (by decide) hF
      exact gS4.tr (fb_Hare_judge_95 (n := n) (T := T) hk70 hx3 hF)
theorem fb_Hare_judge_70 {n : Nat} {T : Nat} {res : (Int32 × dk_S)}  : ∀ (q : Nat) (x1 : Int32) (jx3 : Nat) (x4 : Int32) (hx3 : jx3 < 4) (S : dk_S), B_Hare_judge_70 n T  q x1 jx3 x4 S = some res → dk_fr [16, 17, 19, 20, 21, 22, 23, 24, 25, 26, 27, 28, 29, 115, 116, 117, 118] S res.2 := by
  intro q
  induction q with
  | zero => intro x1 jx3 x4 hx3 S hF; cases hF
  | succ q ih => intro x1 jx3 x4 hx3 S hF; exact fb_Hare_judge_70b (n := n) (T := T) ih hx3 hF
theorem fb_Hare_judge_0 {n : Nat} {T : Nat} {res : (Int32 × dk_S)}  {x1 : Int32} {x2 : Int32} {S : dk_S}  (hF : B_Hare_judge_0 n T  x1 x2 S = some res) : dk_fr [16, 17, 19, 20, 21, 22, 23, 24, 25, 26, 27, 28, 29, 115, 116, 117, 118] S res.2 := by
  have g0 : dk_fr [16, 17, 19, 20, 21, 22, 23, 24, 25, 26, 27, 28, 29, 115, 116, 117, 118] S S := dk_fr.rf
  unfold B_Hare_judge_0 at hF
  obtain ⟨r7, S6, gS6, hF⟩ := fr_c g0 (fun _ h => fr_Land_hasBeast h) (by decide) hF
  rcases fr_if hF with hF | hF
  · obtain ⟨r9, S8, gS8, hF⟩ := fr_c gS6 (fun _ h => fr_Hare_isSheet h) (by decide) hF
    rcases fr_if hF with hF | hF
    · obtain ⟨j10, hj10, hF⟩ := fr_sh hF
      obtain ⟨r12, S11, gS11, hF⟩ := fr_c gS8 (fun _ h => fr_Sheet_isMissing (by first | assumption | decide) h) (by decide) hF
      rcases fr_if hF with hF | hF
      · rcases fr_if hF with hF | hF
        · obtain ⟨S13, gS13, hF⟩ := fr_cv gS11 (fun _ h => fr_Scene_begin h) (by decide) hF
          exact gS13.tr (fb_Hare_judge_70 (n := n) (T := T)  n x1 j10 (0 : Int32) hj10 S13 hF)
        · exact fr_rt hF gS11
      · exact fr_rt hF gS11
    · exact fr_rt hF gS8
  · exact fr_rt hF gS6
theorem fr_Hare_judge {n : Nat} {T : Nat} {x1 : Int32} {x2 : Int32} {S : dk_S} {res : (Int32 × dk_S)}  (h : F_Hare_judge n T x1 x2 S = some res) : dk_fr [16, 17, 19, 20, 21, 22, 23, 24, 25, 26, 27, 28, 29, 115, 116, 117, 118] S res.2 := fb_Hare_judge_0 (n := n) (T := T)  h
theorem fb_Hare_may_62 {n : Nat} {T : Nat} {res : (Int32 × dk_S)} {k29 : Int32 → Int32 → Int32 → Int32 → dk_S → Option (Int32 × dk_S)} (hk29 : ∀ (x1 : Int32) (x2 : Int32) (x3 : Int32) (x4 : Int32)  (S : dk_S), k29 x1 x2 x3 x4 S = some res → dk_fr [16, 17, 19, 20, 21, 22, 23, 24, 25, 26, 27, 28, 29, 115, 116, 117, 118] S res.2) {x1 : Int32} {x2 : Int32} {x4 : Int32} {u0 : Int32} {u1 : Int32} {u2 : Int32} {S : dk_S}  (hF : B_Hare_may_62 n T k29 x1 x2 x4 u0 u1 u2 S = some res) : dk_fr [16, 17, 19, 20, 21, 22, 23, 24, 25, 26, 27, 28, 29, 115, 116, 117, 118] S res.2 := by
  have g0 : dk_fr [16, 17, 19, 20, 21, 22, 23, 24, 25, 26, 27, 28, 29, 115, 116, 117, 118] S S := dk_fr.rf
  unfold B_Hare_may_62 at hF
  exact g0.tr (hk29 x1 x2 (u0 ||| (u1 <<< (u2 &&& 31))) (x4 + (1 : Int32)) S hF)
theorem fb_Hare_may_29b {n : Nat} {T : Nat} {res : (Int32 × dk_S)} {k29 : Int32 → Int32 → Int32 → Int32 → dk_S → Option (Int32 × dk_S)} (hk29 : ∀ (x1 : Int32) (x2 : Int32) (x3 : Int32) (x4 : Int32)  (S : dk_S), k29 x1 x2 x3 x4 S = some res → dk_fr [16, 17, 19, 20, 21, 22, 23, 24, 25, 26, 27, 28, 29, 115, 116, 117, 118] S res.2) {x1 : Int32} {x2 : Int32} {x3 : Int32} {x4 : Int32} {S : dk_S}  (hF : B_Hare_may_29b n T k29 x1 x2 x3 x4 S = some res) : dk_fr [16, 17, 19, 20, 21, 22, 23, 24, 25, 26, 27, 28, 29, 115, 116, 117, 118] S res.2 := by
  have g0 : dk_fr [16, 17, 19, 20, 21, 22, 23, 24, 25, 26, 27, 28, 29, 115, 116, 117, 118] S S := dk_fr.rf
  unfold B_Hare_may_29b at hF
  rcases fr_if hF with hF | hF
  · exact fr_rt hF g0
  · obtain ⟨r2, S1, gS1, hF⟩ := fr_c g0 (fun _ h => fr_Scene_possessorWithout h) (by decide) hF
    rcases fr_if hF with hF | hF
    · exact gS1.tr (fb_Hare_may_62 (n := n) (T := T) hk29  hF)
    · exact gS1.tr (fb_Hare_may_62 (n := n) (T := T) hk29  hF)
theorem fb_Hare_may_29 {n : Nat} {T : Nat} {res : (Int32 × dk_S)}  : ∀ (q : Nat) (x1 : Int32) (x2 : Int32) (x3 : Int32) (x4 : Int32)  (S : dk_S), B_Hare_may_29 n T  q x1 x2 x3 x4 S = some res → dk_fr [16, 17, 19, 20, 21, 22, 23, 24, 25, 26, 27, 28, 29, 115, 116, 117, 118] S res.2 := by
  intro q
  induction q with
  | zero => intro x1 x2 x3 x4  S hF; cases hF
  | succ q ih => intro x1 x2 x3 x4  S hF; exact fb_Hare_may_29b (n := n) (T := T) ih  hF
theorem fb_Hare_may_0 {n : Nat} {T : Nat} {res : (Int32 × dk_S)}  {x1 : Int32} {S : dk_S}  (hF : B_Hare_may_0 n T  x1 S = some res) : dk_fr [16, 17, 19, 20, 21, 22, 23, 24, 25, 26, 27, 28, 29, 115, 116, 117, 118] S res.2 := by
  have g0 : dk_fr [16, 17, 19, 20, 21, 22, 23, 24, 25, 26, 27, 28, 29, 115, 116, 117, 118] S S := dk_fr.rf
  unfold B_Hare_may_0 at hF
  obtain ⟨r4, S3, gS3, hF⟩ := fr_c g0 (fun _ h => fr_Land_hasBeast h) (by decide) hF
  rcases fr_if hF with hF | hF
  · obtain ⟨r6, S5, gS5, hF⟩ := fr_c gS3 (fun _ h => fr_Diary_countUnsure h) (by decide) hF
    exact gS5.tr (fb_Hare_may_29 (n := n) (T := T)  n x1 ((1 : Int32) <<< (r6 &&& 31)) (0 : Int32) (0 : Int32) S5 hF)
  · exact fr_rt hF gS3
theorem fr_Hare_may {n : Nat} {T : Nat} {x1 : Int32} {S : dk_S} {res : (Int32 × dk_S)}  (h : F_Hare_may n T x1 S = some res) : dk_fr [16, 17, 19, 20, 21, 22, 23, 24, 25, 26, 27, 28, 29, 115, 116, 117, 118] S res.2 := fb_Hare_may_0 (n := n) (T := T)  h
theorem fb_Hare_hangs_69 {n : Nat} {T : Nat} {res : (Int32 × dk_S)} {k38 : Int32 → Int32 → Int32 → Int32 → Int32 → dk_S → Option (Int32 × dk_S)} (hk38 : ∀ (x1 : Int32) (x2 : Int32) (x3 : Int32) (x4 : Int32) (x5 : Int32)  (S : dk_S), k38 x1 x2 x3 x4 x5 S = some res → dk_fr [16, 17, 19, 20, 21, 22, 23, 24, 25, 26, 27, 28, 29, 115, 116, 117, 118] S res.2) {x1 : Int32} {x2 : Int32} {x3 : Int32} {x4 : Int32} {x5 : Int32} {S : dk_S}  (hF : B_Hare_hangs_69 n T k38 x1 x2 x3 x4 x5 S = some res) : dk_fr [16, 17, 19, 20, 21, 22, 23, 24, 25, 26, 27, 28, 29, 115, 116, 117, 118] S res.2 := by
  have g0 : dk_fr [16, 17, 19, 20, 21, 22, 23, 24, 25, 26, 27, 28, 29, 115, 116, 117, 118] S S := dk_fr.rf
  unfold B_Hare_hangs_69 at hF
  exact g0.tr (hk38 x1 x2 x3 x4 (x5 + (1 : Int32)) S hF)
theorem fb_Hare_hangs_38b {n : Nat} {T : Nat} {res : (Int32 × dk_S)} {k38 : Int32 → Int32 → Int32 → Int32 → Int32 → dk_S → Option (Int32 × dk_S)} (hk38 : ∀ (x1 : Int32) (x2 : Int32) (x3 : Int32) (x4 : Int32) (x5 : Int32)  (S : dk_S), k38 x1 x2 x3 x4 x5 S = some res → dk_fr [16, 17, 19, 20, 21, 22, 23, 24, 25, 26, 27, 28, 29, 115, 116, 117, 118] S res.2) {x1 : Int32} {x2 : Int32} {x3 : Int32} {x4 : Int32} {x5 : Int32} {S : dk_S}  (hF : B_Hare_hangs_38b n T k38 x1 x2 x3 x4 x5 S = some res) : dk_fr [16, 17, 19, 20, 21, 22, 23, 24, 25, 26, 27, 28, 29, 115, 116, 117, 118] S res.2 := by
  have g0 : dk_fr [16, 17, 19, 20, 21, 22, 23, 24, 25, 26, 27, 28, 29, 115, 116, 117, 118] S S := dk_fr.rf
  unfold B_Hare_hangs_38b at hF
  rcases fr_if hF with hF | hF
  · exact fr_rt hF g0
  · obtain ⟨r2, S1, gS1, hF⟩ := fr_c g0 (fun _ h => fr_Scene_possessorWithout h) (by decide) hF
    rcases fr_if hF with hF | hF
    · exact gS1.tr (fb_Hare_hangs_69 (n := n) (T := T) hk38  hF)
    · exact gS1.tr (fb_Hare_hangs_69 (n := n) (T := T) hk38  hF)
theorem fb_Hare_hangs_38 {n : Nat} {T : Nat} {res : (Int32 × dk_S)}  : ∀ (q : Nat) (x1 : Int32) (x2 : Int32) (x3 : Int32) (x4 : Int32) (x5 : Int32)  (S : dk_S), B_Hare_hangs_38 n T  q x1 x2 x3 x4 x5 S = some res → dk_fr [16, 17, 19, 20, 21, 22, 23, 24, 25, 26, 27, 28, 29, 115, 116, 117, 118] S res.2 := by
  intro q
  induction q with
  | zero => intro x1 x2 x3 x4 x5  S hF; cases hF
  | succ q ih => intro x1 x2 x3 x4 x5  S hF; exact fb_Hare_hangs_38b (n := n) (T := T) ih  hF
theorem fb_Hare_hangs_0 {n : Nat} {T : Nat} {res : (Int32 × dk_S)}  {x1 : Int32} {S : dk_S}  (hF : B_Hare_hangs_0 n T  x1 S = some res) : dk_fr [16, 17, 19, 20, 21, 22, 23, 24, 25, 26, 27, 28, 29, 115, 116, 117, 118] S res.2 := by
  have g0 : dk_fr [16, 17, 19, 20, 21, 22, 23, 24, 25, 26, 27, 28, 29, 115, 116, 117, 118] S S := dk_fr.rf
  unfold B_Hare_hangs_0 at hF
  obtain ⟨r4, S3, gS3, hF⟩ := fr_c g0 (fun _ h => fr_Land_hasBeast h) (by decide) hF
  rcases fr_if hF with hF | hF
  · obtain ⟨r6, S5, gS5, hF⟩ := fr_c gS3 (fun _ h => fr_Diary_countUnsure h) (by decide) hF
    obtain ⟨r8, S7, gS7, hF⟩ := fr_c gS5 (fun _ h => fr_Scene_possessorWithout h) (by decide) hF
    exact gS7.tr (fb_Hare_hangs_38 (n := n) (T := T)  n x1 r6 r8 (0 : Int32) (0 : Int32) S7 hF)
  · exact fr_rt hF gS3
theorem fr_Hare_hangs {n : Nat} {T : Nat} {x1 : Int32} {S : dk_S} {res : (Int32 × dk_S)}  (h : F_Hare_hangs n T x1 S = some res) : dk_fr [16, 17, 19, 20, 21, 22, 23, 24, 25, 26, 27, 28, 29, 115, 116, 117, 118] S res.2 := fb_Hare_hangs_0 (n := n) (T := T)  h
theorem fb_Hare_least_91 {n : Nat} {T : Nat} {res : (Int32 × dk_S)} {k37 : Int32 → Int32 → Int32 → Int32 → Int32 → dk_S → Option (Int32 × dk_S)} (hk37 : ∀ (x1 : Int32) (x2 : Int32) (x3 : Int32) (x4 : Int32) (x5 : Int32)  (S : dk_S), k37 x1 x2 x3 x4 x5 S = some res → dk_fr [16, 17, 19, 20, 21, 22, 23, 24, 25, 26, 27, 28, 29, 115, 116, 117, 118] S res.2) {x1 : Int32} {x2 : Int32} {x3 : Int32} {x4 : Int32} {x5 : Int32} {S : dk_S}  (hF : B_Hare_least_91 n T k37 x1 x2 x3 x4 x5 S = some res) : dk_fr [16, 17, 19, 20, 21, 22, 23, 24, 25, 26, 27, 28, 29, 115, 116, 117, 118] S res.2 := by
  have g0 : dk_fr [16, 17, 19, 20, 21, 22, 23, 24, 25, 26, 27, 28, 29, 115, 116, 117, 118] S S := dk_fr.rf
  unfold B_Hare_least_91 at hF
  exact g0.tr (hk37 x1 x2 x3 x4 (x5 + (1 : Int32)) S hF)
theorem fb_Hare_least_66 {n : Nat} {T : Nat} {res : (Int32 × dk_S)} {k37 : Int32 → Int32 → Int32 → Int32 → Int32 → dk_S → Option (Int32 × dk_S)} (hk37 : ∀ (x1 : Int32) (x2 : Int32) (x3 : Int32) (x4 : Int32) (x5 : Int32)  (S : dk_S), k37 x1 x2 x3 x4 x5 S = some res → dk_fr [16, 17, 19, 20, 21, 22, 23, 24, 25, 26, 27, 28, 29, 115, 116, 117, 118] S res.2) {x1 : Int32} {x2 : Int32} {x3 : Int32} {x4 : Int32} {x5 : Int32} {u0 : Int32} {S : dk_S}  (hF : B_Hare_least_66 n T k37 x1 x2 x3 x4 x5 u0 S = some res) : dk_fr [16, 17, 19, 20, 21, 22, 23, 24, 25, 26, 27, 28, 29, 115, 116, 117, 118] S res.2 := by
  have g0 : dk_fr [16, 17, 19, 20, 21, 22, 23, 24, 25, 26, 27, 28, 29, 115, 116, 117, 118] S S := dk_fr.rf
  unfold B_Hare_least_66 at hF
  rcases fr_if hF with hF | hF
  · exact g0.tr (fb_Hare_least_91 (n := n) (T := T) hk37  hF)
  · obtain ⟨r2, S1, gS1, hF⟩ := fr_c g0 (fun _ h => fr_Scene_possessorWithout h) (by decide) hF
    rcases fr_if hF with hF | hF
    · exact gS1.tr (fb_Hare_least_91 (n := n) (T := T) hk37  hF)
    · exact gS1.tr (fb_Hare_least_91 (n := n) (T := T) hk37  hF)
theorem fb_Hare_least_61 {n : Nat} {T : Nat} {res : (Int32 × dk_S)} {k37 : Int32 → Int32 → Int32 → Int32 → Int32 → dk_S → Option (Int32 × dk_S)} (hk37 : ∀ (x1 : Int32) (x2 : Int32) (x3 : Int32) (x4 : Int32) (x5 : Int32)  (S : dk_S), k37 x1 x2 x3 x4 x5 S = some res → dk_fr [16, 17, 19, 20, 21, 22, 23, 24, 25, 26, 27, 28, 29, 115, 116, 117, 118] S res.2) {x1 : Int32} {x2 : Int32} {x3 : Int32} {x4 : Int32} {x5 : Int32} {S : dk_S}  (hF : B_Hare_least_61 n T k37 x1 x2 x3 x4 x5 S = some res) : dk_fr [16, 17, 19, 20, 21, 22, 23, 24, 25, 26, 27, 28, 29, 115, 116, 117, 118] S res.2 := by
  have g0 : dk_fr [16, 17, 19, 20, 21, 22, 23, 24, 25, 26, 27, 28, 29, 115, 116, 117, 118] S S := dk_fr.rf
  unfold B_Hare_least_61 at hF
  exact g0.tr (fb_Hare_least_66 (n := n) (T := T) hk37  hF)
theorem fb_Hare_least_37b {n : Nat} {T : Nat} {res : (Int32 × dk_S)} {k37 : Int32 → Int32 → Int32 → Int32 → Int32 → dk_S → Option (Int32 × dk_S)} (hk37 : ∀ (x1 : Int32) (x2 : Int32) (x3 : Int32) (x4 : Int32) (x5 : Int32)  (S : dk_S), k37 x1 x2 x3 x4 x5 S = some res → dk_fr [16, 17, 19, 20, 21, 22, 23, 24, 25, 26, 27, 28, 29, 115, 116, 117, 118] S res.2) {x1 : Int32} {x2 : Int32} {x3 : Int32} {x4 : Int32} {x5 : Int32} {S : dk_S}  (hF : B_Hare_least_37b n T k37 x1 x2 x3 x4 x5 S = some res) : dk_fr [16, 17, 19, 20, 21, 22, 23, 24, 25, 26, 27, 28, 29, 115, 116, 117, 118] S res.2 := by
  have g0 : dk_fr [16, 17, 19, 20, 21, 22, 23, 24, 25, 26, 27, 28, 29, 115, 116, 117, 118] S S := dk_fr.rf
  unfold B_Hare_least_37b at hF
  rcases fr_if hF with hF | hF
  · exact fr_rt hF g0
  · rcases fr_if hF with hF | hF
    · exact g0.tr (fb_Hare_least_61 (n := n) (T := T) hk37  hF)
    · obtain ⟨r4, S3, gS3, hF⟩ := fr_c g0 (fun _ h => fr_Integer_bitCount h) (by decide) hF
      obtain ⟨r6, S5, gS5, hF⟩ := fr_c gS3 (fun _ h => fr_Integer_bitCount h) (by decide) hF
      rcases fr_if hF with hF | hF
      · exact gS5.tr (fb_Hare_least_66 (n := n) (T := T) hk37  hF)
      · exact gS5.tr (fb_Hare_least_61 (n := n) (T := T) hk37  hF)
theorem fb_Hare_least_37 {n : Nat} {T : Nat} {res : (Int32 × dk_S)}  : ∀ (q : Nat) (x1 : Int32) (x2 : Int32) (x3 : Int32) (x4 : Int32) (x5 : Int32)  (S : dk_S), B_Hare_least_37 n T  q x1 x2 x3 x4 x5 S = some res → dk_fr [16, 17, 19, 20, 21, 22, 23, 24, 25, 26, 27, 28, 29, 115, 116, 117, 118] S res.2 := by
  intro q
  induction q with
  | zero => intro x1 x2 x3 x4 x5  S hF; cases hF
  | succ q ih => intro x1 x2 x3 x4 x5  S hF; exact fb_Hare_least_37b (n := n) (T := T) ih  hF
theorem fb_Hare_least_0 {n : Nat} {T : Nat} {res : (Int32 × dk_S)}  {x1 : Int32} {x2 : Int32} {S : dk_S}  (hF : B_Hare_least_0 n T  x1 x2 S = some res) : dk_fr [16, 17, 19, 20, 21, 22, 23, 24, 25, 26, 27, 28, 29, 115, 116, 117, 118] S res.2 := by
  have g0 : dk_fr [16, 17, 19, 20, 21, 22, 23, 24, 25, 26, 27, 28, 29, 115, 116, 117, 118] S S := dk_fr.rf
  unfold B_Hare_least_0 at hF
  obtain ⟨r8, S7, gS7, hF⟩ := fr_c g0 (fun _ h => fr_Land_hasBeast h) (by decide) hF
  rcases fr_if hF with hF | hF
  · exact fr_rt hF gS7
  · obtain ⟨r10, S9, gS9, hF⟩ := fr_c gS7 (fun _ h => fr_Hare_isOne h) (by decide) hF
    rcases fr_if hF with hF | hF
    · obtain ⟨r12, S11, gS11, hF⟩ := fr_c gS9 (fun _ h => fr_Diary_countUnsure h) (by decide) hF
      exact gS11.tr (fb_Hare_least_37 (n := n) (T := T)  n x1 x2 ((1 : Int32) <<< (r12 &&& 31)) (-1 : Int32) (0 : Int32) S11 hF)
    · exact fr_rt hF gS9
theorem fr_Hare_least {n : Nat} {T : Nat} {x1 : Int32} {x2 : Int32} {S : dk_S} {res : (Int32 × dk_S)}  (h : F_Hare_least n T x1 x2 S = some res) : dk_fr [16, 17, 19, 20, 21, 22, 23, 24, 25, 26, 27, 28, 29, 115, 116, 117, 118] S res.2 := fb_Hare_least_0 (n := n) (T := T)  h
theorem fb_Hare_commonDivisor_7b {n : Nat} {T : Nat} {res : (Int32 × dk_S)} {k7 : Int32 → Int32 → Int32 → dk_S → Option (Int32 × dk_S)} (hk7 : ∀ (x2 : Int32) (x3 : Int32) (x4 : Int32)  (S : dk_S), k7 x2 x3 x4 S = some res → dk_fr [] S res.2) {x2 : Int32} {x3 : Int32} {x4 : Int32} {S : dk_S}  (hF : B_Hare_commonDivisor_7b n T k7 x2 x3 x4 S = some res) : dk_fr [] S res.2 := by
  have g0 : dk_fr [] S S := dk_fr.rf
  unfold B_Hare_commonDivisor_7b at hF
  rcases fr_if hF with hF | hF
  · exact fr_rt hF g0
  · rcases fr_if hF with hF | hF
    · exact fr_rt hF g0
    · have hF := (dk_g_out hF).2
      exact g0.tr (hk7 x3 (x2 - x2 / x3 * x3) (x4 + (1 : Int32)) S hF)
theorem fb_Hare_commonDivisor_7 {n : Nat} {T : Nat} {res : (Int32 × dk_S)}  : ∀ (q : Nat) (x2 : Int32) (x3 : Int32) (x4 : Int32)  (S : dk_S), B_Hare_commonDivisor_7 n T  q x2 x3 x4 S = some res → dk_fr [] S res.2 := by
  intro q
  induction q with
  | zero => intro x2 x3 x4  S hF; cases hF
  | succ q ih => intro x2 x3 x4  S hF; exact fb_Hare_commonDivisor_7b (n := n) (T := T) ih  hF
theorem fb_Hare_commonDivisor_0 {n : Nat} {T : Nat} {res : (Int32 × dk_S)}  {x0 : Int32} {x1 : Int32} {S : dk_S}  (hF : B_Hare_commonDivisor_0 n T  x0 x1 S = some res) : dk_fr [] S res.2 := by
  have g0 : dk_fr [] S S := dk_fr.rf
  unfold B_Hare_commonDivisor_0 at hF
  exact g0.tr (fb_Hare_commonDivisor_7 (n := n) (T := T)  n x0 x1 (0 : Int32) S hF)
theorem fr_Hare_commonDivisor {n : Nat} {T : Nat} {x0 : Int32} {x1 : Int32} {S : dk_S} {res : (Int32 × dk_S)}  (h : F_Hare_commonDivisor n T x0 x1 S = some res) : dk_fr [] S res.2 := fb_Hare_commonDivisor_0 (n := n) (T := T)  h
theorem fb_Hare_share_40 {n : Nat} {T : Nat} {res : (Int64 × dk_S)}   {S : dk_S}  (hF : B_Hare_share_40 n T   S = some res) : dk_fr [16, 17, 19, 20, 21, 22, 23, 24, 25, 26, 27, 28, 29, 115, 116] S res.2 := by
  have g0 : dk_fr [16, 17, 19, 20, 21, 22, 23, 24, 25, 26, 27, 28, 29, 115, 116] S S := dk_fr.rf
  unfold B_Hare_share_40 at hF
  exact fr_rt hF g0
theorem fb_Hare_share_142 {n : Nat} {T : Nat} {res : (Int64 × dk_S)} {k61 : Int32 → Int32 → Int32 → Int32 → Int32 → Int32 → dk_S → Option (Int64 × dk_S)} (hk61 : ∀ (x1 : Int32) (x3 : Int32) (x4 : Int32) (x5 : Int32) (x6 : Int32) (x7 : Int32)  (S : dk_S), k61 x1 x3 x4 x5 x6 x7 S = some res → dk_fr [16, 17, 19, 20, 21, 22, 23, 24, 25, 26, 27, 28, 29, 115, 116] S res.2) {x1 : Int32} {x3 : Int32} {x4 : Int32} {x5 : Int32} {x6 : Int32} {x7 : Int32} {S : dk_S}  (hF : B_Hare_share_142 n T k61 x1 x3 x4 x5 x6 x7 S = some res) : dk_fr [16, 17, 19, 20, 21, 22, 23, 24, 25, 26, 27, 28, 29, 115, 116] S res.2 := by
  have g0 : dk_fr [16, 17, 19, 20, 21, 22, 23, 24, 25, 26, 27, 28, 29, 115, 116] S S := dk_fr.rf
  unfold B_Hare_share_142 at hF
  exact g0.tr (hk61 x1 x3 x4 x5 x6 (x7 + (1 : Int32)) S hF)
theorem fb_Hare_share_139 {n : Nat} {T : Nat} {res : (Int64 × dk_S)} {k61 : Int32 → Int32 → Int32 → Int32 → Int32 → Int32 → dk_S → Option (Int64 × dk_S)} (hk61 : ∀ (x1 : Int32) (x3 : Int32) (x4 : Int32) (x5 : Int32) (x6 : Int32) (x7 : Int32)  (S : dk_S), k61 x1 x3 x4 x5 x6 x7 S = some res → dk_fr [16, 17, 19, 20, 21, 22, 23, 24, 25, 26, 27, 28, 29, 115, 116] S res.2) {x1 : Int32} {x3 : Int32} {x4 : Int32} {x6 : Int32} {x7 : Int32} {u0 : Int32} {u1 : Int32} {S : dk_S}  (hF : B_Hare_share_139 n T k61 x1 x3 x4 x6 x7 u0 u1 S = some res) : dk_fr [16, 17, 19, 20, 21, 22, 23, 24, 25, 26, 27, 28, 29, 115, 116] S res.2 := by
  have g0 : dk_fr [16, 17, 19, 20, 21, 22, 23, 24, 25, 26, 27, 28, 29, 115, 116] S S := dk_fr.rf
  unfold B_Hare_share_139 at hF
  exact g0.tr (fb_Hare_share_142 (n := n) (T := T) hk61  hF)
theorem fb_Hare_share_61b {n : Nat} {T : Nat} {res : (Int64 × dk_S)} {k61 : Int32 → Int32 → Int32 → Int32 → Int32 → Int32 → dk_S → Option (Int64 × dk_S)} (hk61 : ∀ (x1 : Int32) (x3 : Int32) (x4 : Int32) (x5 : Int32) (x6 : Int32) (x7 : Int32)  (S : dk_S), k61 x1 x3 x4 x5 x6 x7 S = some res → dk_fr [16, 17, 19, 20, 21, 22, 23, 24, 25, 26, 27, 28, 29, 115, 116] S res.2) {x1 : Int32} {x3 : Int32} {x4 : Int32} {x5 : Int32} {x6 : Int32} {x7 : Int32} {S : dk_S}  (hF : B_Hare_share_61b n T k61 x1 x3 x4 x5 x6 x7 S = some res) : dk_fr [16, 17, 19, 20, 21, 22, 23, 24, 25, 26, 27, 28, 29, 115, 116] S res.2 := by
  have g0 : dk_fr [16, 17, 19, 20, 21, 22, 23, 24, 25, 26, 27, 28, 29, 115, 116] S S := dk_fr.rf
  unfold B_Hare_share_61b at hF
  rcases fr_if hF with hF | hF
  · obtain ⟨r2, S1, gS1, hF⟩ := fr_c g0 (fun _ h => fr_Hare_commonDivisor h) (by decide) hF
    rcases fr_if hF with hF | hF
    · rcases fr_if hF with hF | hF
      · have hF := (dk_g_out hF).2
        exact fr_rt hF gS1
      · have hF := (dk_g_out hF).2
        exact fr_rt hF gS1
    · exact fr_rt hF gS1
  · obtain ⟨v3, hF⟩ := fr_r hF
    rcases fr_if hF with hF | hF
    · exact g0.tr (fb_Hare_share_142 (n := n) (T := T) hk61  hF)
    · obtain ⟨r5, S4, gS4, hF⟩ := fr_c g0 (fun _ h => fr_Scene_stands h) (by decide) hF
      rcases fr_if hF with hF | hF
      · exact gS4.tr (fb_Hare_share_142 (n := n) (T := T) hk61  hF)
      · obtain ⟨r7, S6, gS6, hF⟩ := fr_c gS4 (fun _ h => fr_Scene_worth h) (by decide) hF
        obtain ⟨v8, hF⟩ := fr_r hF
        rcases fr_if hF with hF | hF
        · exact gS6.tr (fb_Hare_share_139 (n := n) (T := T) hk61  hF)
        · exact gS6.tr (fb_Hare_share_139 (n := n) (T := T) hk61  hF)
theorem fb_Hare_share_61 {n : Nat} {T : Nat} {res : (Int64 × dk_S)}  : ∀ (q : Nat) (x1 : Int32) (x3 : Int32) (x4 : Int32) (x5 : Int32) (x6 : Int32) (x7 : Int32)  (S : dk_S), B_Hare_share_61 n T  q x1 x3 x4 x5 x6 x7 S = some res → dk_fr [16, 17, 19, 20, 21, 22, 23, 24, 25, 26, 27, 28, 29, 115, 116] S res.2 := by
  intro q
  induction q with
  | zero => intro x1 x3 x4 x5 x6 x7  S hF; cases hF
  | succ q ih => intro x1 x3 x4 x5 x6 x7  S hF; exact fb_Hare_share_61b (n := n) (T := T) ih  hF
theorem fb_Hare_share_44 {n : Nat} {T : Nat} {res : (Int64 × dk_S)}  {x1 : Int32} {x2 : Int32} {x3 : Int32} {x4 : Int32} {S : dk_S}  (hF : B_Hare_share_44 n T  x1 x2 x3 x4 S = some res) : dk_fr [16, 17, 19, 20, 21, 22, 23, 24, 25, 26, 27, 28, 29, 115, 116] S res.2 := by
  have g0 : dk_fr [16, 17, 19, 20, 21, 22, 23, 24, 25, 26, 27, 28, 29, 115, 116] S S := dk_fr.rf
  unfold B_Hare_share_44 at hF
  obtain ⟨S9, gS9, hF⟩ := fr_cv g0 (fun _ h => fr_Scene_reach h) (by decide) hF
  exact gS9.tr (fb_Hare_share_61 (n := n) (T := T)  n x1 x3 x4 (0 : Int32) (0 : Int32) (0 : Int32) S9 hF)
theorem fb_Hare_share_0 {n : Nat} {T : Nat} {res : (Int64 × dk_S)}  {x1 : Int32} {x2 : Int32} {x3 : Int32} {x4 : Int32} {S : dk_S}  (hF : B_Hare_share_0 n T  x1 x2 x3 x4 S = some res) : dk_fr [16, 17, 19, 20, 21, 22, 23, 24, 25, 26, 27, 28, 29, 115, 116] S res.2 := by
  have g0 : dk_fr [16, 17, 19, 20, 21, 22, 23, 24, 25, 26, 27, 28, 29, 115, 116] S S := dk_fr.rf
  unfold B_Hare_share_0 at hF
  obtain ⟨r12, S11, gS11, hF⟩ := fr_c g0 (fun _ h => fr_Land_hasBeast h) (by decide) hF
  rcases fr_if hF with hF | hF
  · exact gS11.tr (fb_Hare_share_40 (n := n) (T := T)   hF)
  · obtain ⟨r14, S13, gS13, hF⟩ := fr_c gS11 (fun _ h => fr_Diary_reaches h) (by decide) hF
    rcases fr_if hF with hF | hF
    · exact gS13.tr (fb_Hare_share_40 (n := n) (T := T)   hF)
    · obtain ⟨r16, S15, gS15, hF⟩ := fr_c gS13 (fun _ h => fr_Hare_isOne h) (by decide) hF
      rcases fr_if hF with hF | hF
      · exact gS15.tr (fb_Hare_share_40 (n := n) (T := T)   hF)
      · rcases fr_if hF with hF | hF
        · exact gS15.tr (fb_Hare_share_44 (n := n) (T := T)   hF)
        · rcases fr_if hF with hF | hF
          · exact gS15.tr (fb_Hare_share_44 (n := n) (T := T)   hF)
          · exact gS15.tr (fb_Hare_share_40 (n := n) (T := T)   hF)
theorem fr_Hare_share {n : Nat} {T : Nat} {x1 : Int32} {x2 : Int32} {x3 : Int32} {x4 : Int32} {S : dk_S} {res : (Int64 × dk_S)}  (h : F_Hare_share n T x1 x2 x3 x4 S = some res) : dk_fr [16, 17, 19, 20, 21, 22, 23, 24, 25, 26, 27, 28, 29, 115, 116] S res.2 := fb_Hare_share_0 (n := n) (T := T)  h
theorem fb_Hare_quarrel_0 {n : Nat} {T : Nat} {res : (Int32 × dk_S)}  {x1 : Int32} {S : dk_S}  (hF : B_Hare_quarrel_0 n T  x1 S = some res) : dk_fr [16, 17, 19, 20, 21, 22, 23, 24, 25, 26, 27, 28, 29, 115, 116, 117, 118, 119, 120] S res.2 := by
  have g0 : dk_fr [16, 17, 19, 20, 21, 22, 23, 24, 25, 26, 27, 28, 29, 115, 116, 117, 118, 119, 120] S S := dk_fr.rf
  unfold B_Hare_quarrel_0 at hF
  obtain ⟨r2, S1, gS1, hF⟩ := fr_c g0 (fun _ h => fr_Land_hasBeast h) (by decide) hF
  rcases fr_if hF with hF | hF
  · obtain ⟨S3, gS3, hF⟩ := fr_cv gS1 (fun _ h => fr_Scene_tally h) (by decide) hF
    exact fr_rt hF gS3
  · exact fr_rt hF gS1
theorem fr_Hare_quarrel {n : Nat} {T : Nat} {x1 : Int32} {S : dk_S} {res : (Int32 × dk_S)}  (h : F_Hare_quarrel n T x1 S = some res) : dk_fr [16, 17, 19, 20, 21, 22, 23, 24, 25, 26, 27, 28, 29, 115, 116, 117, 118, 119, 120] S res.2 := fb_Hare_quarrel_0 (n := n) (T := T)  h
theorem fb_Hare_custom_118 {n : Nat} {T : Nat} {res : (Int32 × dk_S)} {k24 : Int32 → Int32 → Int32 → Int32 → Int32 → dk_S → Option (Int32 × dk_S)} (hk24 : ∀ (x1 : Int32) (x2 : Int32) (x3 : Int32) (x4 : Int32) (x5 : Int32)  (S : dk_S), k24 x1 x2 x3 x4 x5 S = some res → dk_fr [16, 17, 19, 20, 21, 22, 23, 24, 25, 26, 27, 28, 29, 114, 115, 116, 117, 118, 119, 120] S res.2) {x1 : Int32} {x2 : Int32} {x3 : Int32} {x4 : Int32} {x5 : Int32} {S : dk_S}  (hF : B_Hare_custom_118 n T k24 x1 x2 x3 x4 x5 S = some res) : dk_fr [16, 17, 19, 20, 21, 22, 23, 24, 25, 26, 27, 28, 29, 114, 115, 116, 117, 118, 119, 120] S res.2 := by
  have g0 : dk_fr [16, 17, 19, 20, 21, 22, 23, 24, 25, 26, 27, 28, 29, 114, 115, 116, 117, 118, 119, 120] S S := dk_fr.rf
  unfold B_Hare_custom_118 at hF
  exact g0.tr (hk24 x1 x2 x3 x4 (x5 + (1 : Int32)) S hF)
theorem fb_Hare_custom_98 {n : Nat} {T : Nat} {res : (Int32 × dk_S)} {k24 : Int32 → Int32 → Int32 → Int32 → Int32 → dk_S → Option (Int32 × dk_S)} (hk24 : ∀ (x1 : Int32) (x2 : Int32) (x3 : Int32) (x4 : Int32) (x5 : Int32)  (S : dk_S), k24 x1 x2 x3 x4 x5 S = some res → dk_fr [16, 17, 19, 20, 21, 22, 23, 24, 25, 26, 27, 28, 29, 114, 115, 116, 117, 118, 119, 120] S res.2) {x1 : Int32} {x5 : Int32} {S : dk_S}  (hF : B_Hare_custom_98 n T k24 x1 x5 S = some res) : dk_fr [16, 17, 19, 20, 21, 22, 23, 24, 25, 26, 27, 28, 29, 114, 115, 116, 117, 118, 119, 120] S res.2 := by
  have g0 : dk_fr [16, 17, 19, 20, 21, 22, 23, 24, 25, 26, 27, 28, 29, 114, 115, 116, 117, 118, 119, 120] S S := dk_fr.rf
  unfold B_Hare_custom_98 at hF
  exact g0.tr (fb_Hare_custom_118 (n := n) (T := T) hk24  hF)
theorem fb_Hare_custom_86 {n : Nat} {T : Nat} {res : (Int32 × dk_S)} {k24 : Int32 → Int32 → Int32 → Int32 → Int32 → dk_S → Option (Int32 × dk_S)} (hk24 : ∀ (x1 : Int32) (x2 : Int32) (x3 : Int32) (x4 : Int32) (x5 : Int32)  (S : dk_S), k24 x1 x2 x3 x4 x5 S = some res → dk_fr [16, 17, 19, 20, 21, 22, 23, 24, 25, 26, 27, 28, 29, 114, 115, 116, 117, 118, 119, 120] S res.2) {x1 : Int32} {x2 : Int32} {x3 : Int32} {x4 : Int32} {x5 : Int32} {u0 : Int32} {S : dk_S}  (hF : B_Hare_custom_86 n T k24 x1 x2 x3 x4 x5 u0 S = some res) : dk_fr [16, 17, 19, 20, 21, 22, 23, 24, 25, 26, 27, 28, 29, 114, 115, 116, 117, 118, 119, 120] S res.2 := by
  have g0 : dk_fr [16, 17, 19, 20, 21, 22, 23, 24, 25, 26, 27, 28, 29, 114, 115, 116, 117, 118, 119, 120] S S := dk_fr.rf
  unfold B_Hare_custom_86 at hF
  rcases fr_if hF with hF | hF
  · exact g0.tr (fb_Hare_custom_98 (n := n) (T := T) hk24  hF)
  · rcases fr_if hF with hF | hF
    · exact g0.tr (fb_Hare_custom_118 (n := n) (T := T) hk24  hF)
    · exact g0.tr (fb_Hare_custom_98 (n := n) (T := T) hk24  hF)
theorem fb_Hare_custom_81 {n : Nat} {T : Nat} {res : (Int32 × dk_S)} {k24 : Int32 → Int32 → Int32 → Int32 → Int32 → dk_S → Option (Int32 × dk_S)} (hk24 : ∀ (x1 : Int32) (x2 : Int32) (x3 : Int32) (x4 : Int32) (x5 : Int32)  (S : dk_S), k24 x1 x2 x3 x4 x5 S = some res → dk_fr [16, 17, 19, 20, 21, 22, 23, 24, 25, 26, 27, 28, 29, 114, 115, 116, 117, 118, 119, 120] S res.2) {x1 : Int32} {x2 : Int32} {x3 : Int32} {x4 : Int32} {x5 : Int32} {S : dk_S}  (hF : B_Hare_custom_81 n T k24 x1 x2 x3 x4 x5 S = some res) : dk_fr [16, 17, 19, 20, 21, 22, 23, 24, 25, 26, 27, 28, 29, 114, 115, 116, 117, 118, 119, 120] S res.2 := by
  have g0 : dk_fr [16, 17, 19, 20, 21, 22, 23, 24, 25, 26, 27, 28, 29, 114, 115, 116, 117, 118, 119, 120] S S := dk_fr.rf
  unfold B_Hare_custom_81 at hF
  exact g0.tr (fb_Hare_custom_86 (n := n) (T := T) hk24  hF)
theorem fb_Hare_custom_85 {n : Nat} {T : Nat} {res : (Int32 × dk_S)} {k24 : Int32 → Int32 → Int32 → Int32 → Int32 → dk_S → Option (Int32 × dk_S)} (hk24 : ∀ (x1 : Int32) (x2 : Int32) (x3 : Int32) (x4 : Int32) (x5 : Int32)  (S : dk_S), k24 x1 x2 x3 x4 x5 S = some res → dk_fr [16, 17, 19, 20, 21, 22, 23, 24, 25, 26, 27, 28, 29, 114, 115, 116, 117, 118, 119, 120] S res.2) {x1 : Int32} {x2 : Int32} {x3 : Int32} {x4 : Int32} {x5 : Int32} {S : dk_S}  (hF : B_Hare_custom_85 n T k24 x1 x2 x3 x4 x5 S = some res) : dk_fr [16, 17, 19, 20, 21, 22, 23, 24, 25, 26, 27, 28, 29, 114, 115, 116, 117, 118, 119, 120] S res.2 := by
  have g0 : dk_fr [16, 17, 19, 20, 21, 22, 23, 24, 25, 26, 27, 28, 29, 114, 115, 116, 117, 118, 119, 120] S S := dk_fr.rf
  unfold B_Hare_custom_85 at hF
  exact g0.tr (fb_Hare_custom_86 (n := n) (T := T) hk24  hF)
theorem fb_Hare_custom_24b {n : Nat} {T : Nat} {res : (Int32 × dk_S)} {k24 : Int32 → Int32 → Int32 → Int32 → Int32 → dk_S → Option (Int32 × dk_S)} (hk24 : ∀ (x1 : Int32) (x2 : Int32) (x3 : Int32) (x4 : Int32) (x5 : Int32)  (S : dk_S), k24 x1 x2 x3 x4 x5 S = some res → dk_fr [16, 17, 19, 20, 21, 22, 23, 24, 25, 26, 27, 28, 29, 114, 115, 116, 117, 118, 119, 120] S res.2) {x1 : Int32} {x2 : Int32} {x3 : Int32} {x4 : Int32} {x5 : Int32} {S : dk_S}  (hF : B_Hare_custom_24b n T k24 x1 x2 x3 x4 x5 S = some res) : dk_fr [16, 17, 19, 20, 21, 22, 23, 24, 25, 26, 27, 28, 29, 114, 115, 116, 117, 118, 119, 120] S res.2 := by
  have g0 : dk_fr [16, 17, 19, 20, 21, 22, 23, 24, 25, 26, 27, 28, 29, 114, 115, 116, 117, 118, 119, 120] S S := dk_fr.rf
  unfold B_Hare_custom_24b at hF
  rcases fr_if hF with hF | hF
  · obtain ⟨S1, gS1, hF⟩ := fr_cv g0 (fun _ h => fr_Hare_useText h) (by decide) hF
    exact fr_rt hF gS1
  · obtain ⟨S3, gS3, hF⟩ := fr_cv g0 (fun _ h => fr_Hare_useText h) (by decide) hF
    obtain ⟨S5, gS5, hF⟩ := fr_cv gS3 (fun _ h => fr_Scene_tally h) (by decide) hF
    rcases fr_if hF with hF | hF
    · exact gS5.tr (fb_Hare_custom_81 (n := n) (T := T) hk24  hF)
    · rcases fr_if hF with hF | hF
      · exact gS5.tr (fb_Hare_custom_85 (n := n) (T := T) hk24  hF)
      · rcases fr_if hF with hF | hF
        · exact gS5.tr (fb_Hare_custom_85 (n := n) (T := T) hk24  hF)
        · exact gS5.tr (fb_Hare_custom_81 (n := n) (T := T) hk24  hF)
theorem fb_Hare_custom_24 {n : Nat} {T : Nat} {res : (Int32 × dk_S)}  : ∀ (q : Nat) (x1 : Int32) (x2 : Int32) (x3 : Int32) (x4 : Int32) (x5 : Int32)  (S : dk_S), B_Hare_custom_24 n T  q x1 x2 x3 x4 x5 S = some res → dk_fr [16, 17, 19, 20, 21, 22, 23, 24, 25, 26, 27, 28, 29, 114, 115, 116, 117, 118, 119, 120] S res.2 := by
  intro q
  induction q with
  | zero => intro x1 x2 x3 x4 x5  S hF; cases hF
  | succ q ih => intro x1 x2 x3 x4 x5  S hF; exact fb_Hare_custom_24b (n := n) (T := T) ih  hF
theorem fb_Hare_custom_0 {n : Nat} {T : Nat} {res : (Int32 × dk_S)}  {x1 : Int32} {S : dk_S}  (hF : B_Hare_custom_0 n T  x1 S = some res) : dk_fr [16, 17, 19, 20, 21, 22, 23, 24, 25, 26, 27, 28, 29, 114, 115, 116, 117, 118, 119, 120] S res.2 := by
  have g0 : dk_fr [16, 17, 19, 20, 21, 22, 23, 24, 25, 26, 27, 28, 29, 114, 115, 116, 117, 118, 119, 120] S S := dk_fr.rf
  unfold B_Hare_custom_0 at hF
  obtain ⟨r8, S7, gS7, hF⟩ := fr_c g0 (fun _ h => fr_Land_hasBeast h) (by decide) hF
  rcases fr_if hF with hF | hF
  · exact gS7.tr (fb_Hare_custom_24 (n := n) (T := T)  n x1 (0 : Int32) (0 : Int32) (0 : Int32) (0 : Int32) S7 hF)
  · exact fr_rt hF gS7
theorem fr_Hare_custom {n : Nat} {T : Nat} {x1 : Int32} {S : dk_S} {res : (Int32 × dk_S)}  (h : F_Hare_custom n T x1 S = some res) : dk_fr [16, 17, 19, 20, 21, 22, 23, 24, 25, 26, 27, 28, 29, 114, 115, 116, 117, 118, 119, 120] S res.2 := fb_Hare_custom_0 (n := n) (T := T)  h
theorem fb_Hare_count_0 {n : Nat} {T : Nat} {res : (Int32 × dk_S)}  {x1 : Int32} {S : dk_S}  (hF : B_Hare_count_0 n T  x1 S = some res) : dk_fr [] S res.2 := by
  have g0 : dk_fr [] S S := dk_fr.rf
  unfold B_Hare_count_0 at hF
  rcases fr_if hF with hF | hF
  · exact fr_rt hF g0
  · rcases fr_if hF with hF | hF
    · exact fr_rt hF g0
    · rcases fr_if hF with hF | hF
      · exact fr_rt hF g0
      · rcases fr_if hF with hF | hF
        · obtain ⟨r2, S1, gS1, hF⟩ := fr_c g0 (fun _ h => fr_Diary_countUnsure h) (by decide) hF
          exact fr_rt hF gS1
        · rcases fr_if hF with hF | hF
          · exact fr_rt hF g0
          · rcases fr_if hF with hF | hF
            · exact fr_rt hF g0
            · rcases fr_if hF with hF | hF
              · exact fr_rt hF g0
              · exact fr_rt hF g0
theorem fr_Hare_count {n : Nat} {T : Nat} {x1 : Int32} {S : dk_S} {res : (Int32 × dk_S)}  (h : F_Hare_count n T x1 S = some res) : dk_fr [] S res.2 := fb_Hare_count_0 (n := n) (T := T)  h
theorem fb_Hare_image_0 {n : Nat} {T : Nat} {res : (Int32 × dk_S)}   {S : dk_S}  (hF : B_Hare_image_0 n T   S = some res) : dk_fr [33, 34, 121, 122, 123, 124] S res.2 := by
  have g0 : dk_fr [33, 34, 121, 122, 123, 124] S S := dk_fr.rf
  unfold B_Hare_image_0 at hF
  obtain ⟨S1, gS1, hF⟩ := fr_cv g0 (fun _ h => fr_Image_keep h) (by decide) hF
  exact fr_rt hF gS1
theorem fr_Hare_image {n : Nat} {T : Nat}  {S : dk_S} {res : (Int32 × dk_S)}  (h : F_Hare_image n T  S = some res) : dk_fr [33, 34, 121, 122, 123, 124] S res.2 := fb_Hare_image_0 (n := n) (T := T)  h
theorem fb_Hare_back_0 {n : Nat} {T : Nat} {res : (Int32 × dk_S)}   {S : dk_S}  (hF : B_Hare_back_0 n T   S = some res) : dk_fr [2, 11, 101, 104, 114] S res.2 := by
  have g0 : dk_fr [2, 11, 101, 104, 114] S S := dk_fr.rf
  unfold B_Hare_back_0 at hF
  rcases fr_if hF with hF | hF
  · obtain ⟨S1, gS1, hF⟩ := fr_cv g0 (fun _ h => fr_Image_restore h) (by decide) hF
    obtain ⟨S3, gS3, hF⟩ := fr_p gS1 (by decide) hF
    obtain ⟨S4, gS4, hF⟩ := fr_cv gS3 (fun _ h => fr_Hare_useText h) (by decide) hF
    exact fr_rt hF gS4
  · exact fr_rt hF g0
theorem fr_Hare_back {n : Nat} {T : Nat}  {S : dk_S} {res : (Int32 × dk_S)}  (h : F_Hare_back n T  S = some res) : dk_fr [2, 11, 101, 104, 114] S res.2 := fb_Hare_back_0 (n := n) (T := T)  h
theorem fb_Hare_sheet_0 {n : Nat} {T : Nat} {res : (Int32 × dk_S)}  {x1 : Int32} {x2 : Int32} {x3 : Int32} {S : dk_S}  (hF : B_Hare_sheet_0 n T  x1 x2 x3 S = some res) : dk_fr [36, 38, 40, 42, 160, 161, 162, 163, 170, 171, 172, 173] S res.2 := by
  have g0 : dk_fr [36, 38, 40, 42, 160, 161, 162, 163, 170, 171, 172, 173] S S := dk_fr.rf
  unfold B_Hare_sheet_0 at hF
  obtain ⟨r2, S1, gS1, hF⟩ := fr_c g0 (fun _ h => fr_Hare_isSheet h) (by decide) hF
  rcases fr_if hF with hF | hF
  · exact fr_rt hF gS1
  · rcases fr_if hF with hF | hF
    · exact fr_rt hF gS1
    · rcases fr_if hF with hF | hF
      · rcases fr_if hF with hF | hF
        · rcases fr_if hF with hF | hF
          · rcases fr_if hF with hF | hF
            · obtain ⟨j3, hj3, hF⟩ := fr_sh hF
              obtain ⟨S4, gS4, hF⟩ := fr_cv gS1 (fun _ h => fr_Sheet_become (by first | assumption | decide) h) (by decide) hF
              exact fr_rt hF gS4
            · exact fr_rt hF gS1
          · exact fr_rt hF gS1
        · obtain ⟨j6, hj6, hF⟩ := fr_sh hF
          obtain ⟨S7, gS7, hF⟩ := fr_cv gS1 (fun _ h => fr_Sheet_become (by first | assumption | decide) h) (by decide) hF
          exact fr_rt hF gS7
      · exact fr_rt hF gS1
theorem fr_Hare_sheet {n : Nat} {T : Nat} {x1 : Int32} {x2 : Int32} {x3 : Int32} {S : dk_S} {res : (Int32 × dk_S)}  (h : F_Hare_sheet n T x1 x2 x3 S = some res) : dk_fr [36, 38, 40, 42, 160, 161, 162, 163, 170, 171, 172, 173] S res.2 := fb_Hare_sheet_0 (n := n) (T := T)  h
theorem fb_Hare_cell_0 {n : Nat} {T : Nat} {res : (Int32 × dk_S)}  {x1 : Int32} {x2 : Int32} {x3 : Int32} {S : dk_S}  (hF : B_Hare_cell_0 n T  x1 x2 x3 S = some res) : dk_fr [36, 38, 40, 42] S res.2 := by
  have g0 : dk_fr [36, 38, 40, 42] S S := dk_fr.rf
  unfold B_Hare_cell_0 at hF
  obtain ⟨r2, S1, gS1, hF⟩ := fr_c g0 (fun _ h => fr_Hare_isSheet h) (by decide) hF
  rcases fr_if hF with hF | hF
  · obtain ⟨j3, hj3, hF⟩ := fr_sh hF
    obtain ⟨r5, S4, gS4, hF⟩ := fr_c gS1 (fun _ h => fr_Sheet_isMissing (by first | assumption | decide) h) (by decide) hF
    rcases fr_if hF with hF | hF
    · obtain ⟨r7, S6, gS6, hF⟩ := fr_c gS4 (fun _ h => fr_Sheet_has (by first | assumption | decide) h) (by decide) hF
      rcases fr_if hF with hF | hF
      · obtain ⟨S8, gS8, hF⟩ := fr_cv gS6 (fun _ h => fr_Sheet_put (by first | assumption | decide) h) (by decide) hF
        exact fr_rt hF gS8
      · exact fr_rt hF gS6
    · exact fr_rt hF gS4
  · exact fr_rt hF gS1
theorem fr_Hare_cell {n : Nat} {T : Nat} {x1 : Int32} {x2 : Int32} {x3 : Int32} {S : dk_S} {res : (Int32 × dk_S)}  (h : F_Hare_cell n T x1 x2 x3 S = some res) : dk_fr [36, 38, 40, 42] S res.2 := fb_Hare_cell_0 (n := n) (T := T)  h
theorem fb_Hare_copy_0 {n : Nat} {T : Nat} {res : (Int32 × dk_S)}  {x1 : Int32} {x2 : Int32} {x3 : Int32} {x4 : Int32} {x5 : Int32} {S : dk_S}  (hF : B_Hare_copy_0 n T  x1 x2 x3 x4 x5 S = some res) : dk_fr [36, 38, 40, 42] S res.2 := by
  have g0 : dk_fr [36, 38, 40, 42] S S := dk_fr.rf
  unfold B_Hare_copy_0 at hF
  obtain ⟨r2, S1, gS1, hF⟩ := fr_c g0 (fun _ h => fr_Hare_isSheet h) (by decide) hF
  rcases fr_if hF with hF | hF
  · exact fr_rt hF gS1
  · obtain ⟨r4, S3, gS3, hF⟩ := fr_c gS1 (fun _ h => fr_Hare_isSheet h) (by decide) hF
    rcases fr_if hF with hF | hF
    · obtain ⟨j5, hj5, hF⟩ := fr_sh hF
      obtain ⟨j6, hj6, hF⟩ := fr_sh hF
      obtain ⟨r8, S7, gS7, hF⟩ := fr_c gS3 (fun _ h => fr_Sheet_isMissing (by first | assumption | decide) h) (by decide) hF
      rcases fr_if hF with hF | hF
      · exact fr_rt hF gS7
      · obtain ⟨r10, S9, gS9, hF⟩ := fr_c gS7 (fun _ h => fr_Sheet_isMissing (by first | assumption | decide) h) (by decide) hF
        rcases fr_if hF with hF | hF
        · rcases fr_if hF with hF | hF
          · obtain ⟨r12, S11, gS11, hF⟩ := fr_c gS9 (fun _ h => fr_Sheet_hasRun (by first | assumption | decide) h) (by decide) hF
            rcases fr_if hF with hF | hF
            · exact fr_rt hF gS11
            · obtain ⟨r14, S13, gS13, hF⟩ := fr_c gS11 (fun _ h => fr_Sheet_hasRun (by first | assumption | decide) h) (by decide) hF
              rcases fr_if hF with hF | hF
              · obtain ⟨S15, gS15, hF⟩ := fr_cp gS13 (by simp only [List.mem_cons, List.not_mem_nil, or_false]; omega) hF
                exact fr_rt hF gS15
              · exact fr_rt hF gS13
          · exact fr_rt hF gS9
        · exact fr_rt hF gS9
    · exact fr_rt hF gS3
theorem fr_Hare_copy {n : Nat} {T : Nat} {x1 : Int32} {x2 : Int32} {x3 : Int32} {x4 : Int32} {x5 : Int32} {S : dk_S} {res : (Int32 × dk_S)}  (h : F_Hare_copy n T x1 x2 x3 x4 x5 S = some res) : dk_fr [36, 38, 40, 42] S res.2 := fb_Hare_copy_0 (n := n) (T := T)  h
theorem fb_Hare_tell_147 {n : Nat} {T : Nat} {res : (Int32 × dk_S)} {k68 : Int32 → Int32 → Nat → Int32 → Int32 → dk_S → Option (Int32 × dk_S)} (hk68 : ∀ (x3 : Int32) (x4 : Int32) (jx5 : Nat) (x6 : Int32) (x7 : Int32) (hx5 : jx5 < 4) (S : dk_S), k68 x3 x4 jx5 x6 x7 S = some res → dk_fr [6, 7, 8, 9, 10, 11, 104] S res.2) {x3 : Int32} {x4 : Int32} {jx5 : Nat} {x6 : Int32} {x7 : Int32} {S : dk_S} (hx5 : jx5 < 4) (hF : B_Hare_tell_147 n T k68 x3 x4 jx5 x6 x7 S = some res) : dk_fr [6, 7, 8, 9, 10, 11, 104] S res.2 := by
  have g0 : dk_fr [6, 7, 8, 9, 10, 11, 104] S S := dk_fr.rf
  unfold B_Hare_tell_147 at hF
  exact g0.tr (hk68 x3 x4 jx5 x6 (x7 + (1 : Int32)) hx5 S hF)
theorem fb_Hare_tell_68b {n : Nat} {T : Nat} {res : (Int32 × dk_S)} {k68 : Int32 → Int32 → Nat → Int32 → Int32 → dk_S → Option (Int32 × dk_S)} (hk68 : ∀ (x3 : Int32) (x4 : Int32) (jx5 : Nat) (x6 : Int32) (x7 : Int32) (hx5 : jx5 < 4) (S : dk_S), k68 x3 x4 jx5 x6 x7 S = some res → dk_fr [6, 7, 8, 9, 10, 11, 104] S res.2) {x3 : Int32} {x4 : Int32} {jx5 : Nat} {x6 : Int32} {x7 : Int32} {S : dk_S} (hx5 : jx5 < 4) (hF : B_Hare_tell_68b n T k68 x3 x4 jx5 x6 x7 S = some res) : dk_fr [6, 7, 8, 9, 10, 11, 104] S res.2 := by
  have g0 : dk_fr [6, 7, 8, 9, 10, 11, 104] S S := dk_fr.rf
  unfold B_Hare_tell_68b at hF
  rcases fr_if hF with hF | hF
  · exact fr_rt hF g0
  · obtain ⟨r2, S1, gS1, hF⟩ := fr_c g0 (fun _ h => fr_Sheet_hasRun (by first | assumption | decide) h) (by decide) hF
    rcases fr_if hF with hF | hF
    · obtain ⟨v3, hF⟩ := fr_r hF
      obtain ⟨v4, hF⟩ := fr_r hF
      obtain ⟨v5, hF⟩ := fr_r hF
      obtain ⟨v6, hF⟩ := fr_r hF
      obtain ⟨v7, hF⟩ := fr_r hF
      obtain ⟨r9, S8, gS8, hF⟩ := fr_c gS1 (fun _ h => fr_Hare_moment h) (by decide) hF
      rcases fr_if hF with hF | hF
      · exact gS8.tr (fb_Hare_tell_147 (n := n) (T := T) hk68 hx5 hF)
      · exact gS8.tr (fb_Hare_tell_147 (n := n) (T := T) hk68 hx5 hF)
    · exact fr_rt hF gS1
theorem fb_Hare_tell_68 {n : Nat} {T : Nat} {res : (Int32 × dk_S)}  : ∀ (q : Nat) (x3 : Int32) (x4 : Int32) (jx5 : Nat) (x6 : Int32) (x7 : Int32) (hx5 : jx5 < 4) (S : dk_S), B_Hare_tell_68 n T  q x3 x4 jx5 x6 x7 S = some res → dk_fr [6, 7, 8, 9, 10, 11, 104] S res.2 := by
  intro q
  induction q with
  | zero => intro x3 x4 jx5 x6 x7 hx5 S hF; cases hF
  | succ q ih => intro x3 x4 jx5 x6 x7 hx5 S hF; exact fb_Hare_tell_68b (n := n) (T := T) ih hx5 hF
theorem fb_Hare_tell_0 {n : Nat} {T : Nat} {res : (Int32 × dk_S)}  {x1 : Int32} {x2 : Int32} {x3 : Int32} {x4 : Int32} {S : dk_S}  (hF : B_Hare_tell_0 n T  x1 x2 x3 x4 S = some res) : dk_fr [6, 7, 8, 9, 10, 11, 104] S res.2 := by
  have g0 : dk_fr [6, 7, 8, 9, 10, 11, 104] S S := dk_fr.rf
  unfold B_Hare_tell_0 at hF
  obtain ⟨r11, S10, gS10, hF⟩ := fr_c g0 (fun _ h => fr_Hare_isSheet h) (by decide) hF
  rcases fr_if hF with hF | hF
  · exact fr_rt hF gS10
  · rcases fr_if hF with hF | hF
    · exact fr_rt hF gS10
    · rcases fr_if hF with hF | hF
      · exact fr_rt hF gS10
      · rcases fr_if hF with hF | hF
        · exact fr_rt hF gS10
        · rcases fr_if hF with hF | hF
          · obtain ⟨j12, hj12, hF⟩ := fr_sh hF
            obtain ⟨r14, S13, gS13, hF⟩ := fr_c gS10 (fun _ h => fr_Sheet_isMissing (by first | assumption | decide) h) (by decide) hF
            rcases fr_if hF with hF | hF
            · rcases fr_if hF with hF | hF
              · exact gS13.tr (fb_Hare_tell_68 (n := n) (T := T)  n x3 x4 j12 (0 : Int32) (0 : Int32) hj12 S13 hF)
              · exact fr_rt hF gS13
            · exact fr_rt hF gS13
          · exact fr_rt hF gS10
theorem fr_Hare_tell {n : Nat} {T : Nat} {x1 : Int32} {x2 : Int32} {x3 : Int32} {x4 : Int32} {S : dk_S} {res : (Int32 × dk_S)}  (h : F_Hare_tell n T x1 x2 x3 x4 S = some res) : dk_fr [6, 7, 8, 9, 10, 11, 104] S res.2 := fb_Hare_tell_0 (n := n) (T := T)  h
theorem fb_Hare_beastTaken_0 {n : Nat} {T : Nat} {res : (Int32 × dk_S)}  {x1 : Int32} {x2 : Int32} {S : dk_S}  (hF : B_Hare_beastTaken_0 n T  x1 x2 S = some res) : dk_fr [] S res.2 := by
  have g0 : dk_fr [] S S := dk_fr.rf
  unfold B_Hare_beastTaken_0 at hF
  obtain ⟨r2, S1, gS1, hF⟩ := fr_c g0 (fun _ h => fr_Land_hasBeast h) (by decide) hF
  rcases fr_if hF with hF | hF
  · rcases fr_if hF with hF | hF
    · exact fr_rt hF gS1
    · obtain ⟨v3, hF⟩ := fr_r hF
      exact fr_rt hF gS1
  · exact fr_rt hF gS1
theorem fr_Hare_beastTaken {n : Nat} {T : Nat} {x1 : Int32} {x2 : Int32} {S : dk_S} {res : (Int32 × dk_S)}  (h : F_Hare_beastTaken n T x1 x2 S = some res) : dk_fr [] S res.2 := fb_Hare_beastTaken_0 (n := n) (T := T)  h
theorem fb_Hare_kindAbove_0 {n : Nat} {T : Nat} {res : (Int32 × dk_S)}  {x0 : Int32} {S : dk_S}  (hF : B_Hare_kindAbove_0 n T  x0 S = some res) : dk_fr [] S res.2 := by
  have g0 : dk_fr [] S S := dk_fr.rf
  unfold B_Hare_kindAbove_0 at hF
  rcases fr_if hF with hF | hF
  · exact fr_rt hF g0
  · rcases fr_if hF with hF | hF
    · exact fr_rt hF g0
    · rcases fr_if hF with hF | hF
      · exact fr_rt hF g0
      · rcases fr_if hF with hF | hF
        · exact fr_rt hF g0
        · rcases fr_if hF with hF | hF
          · exact fr_rt hF g0
          · exact fr_rt hF g0
theorem fr_Hare_kindAbove {n : Nat} {T : Nat} {x0 : Int32} {S : dk_S} {res : (Int32 × dk_S)}  (h : F_Hare_kindAbove n T x0 S = some res) : dk_fr [] S res.2 := fb_Hare_kindAbove_0 (n := n) (T := T)  h
theorem fb_Hare_isOfKind_4b {n : Nat} {T : Nat} {res : (Int32 × dk_S)} {k4 : Int32 → Int32 → Int32 → dk_S → Option (Int32 × dk_S)} (hk4 : ∀ (x1 : Int32) (x2 : Int32) (x3 : Int32)  (S : dk_S), k4 x1 x2 x3 S = some res → dk_fr [] S res.2) {x1 : Int32} {x2 : Int32} {x3 : Int32} {S : dk_S}  (hF : B_Hare_isOfKind_4b n T k4 x1 x2 x3 S = some res) : dk_fr [] S res.2 := by
  have g0 : dk_fr [] S S := dk_fr.rf
  unfold B_Hare_isOfKind_4b at hF
  rcases fr_if hF with hF | hF
  · have hF := (dk_b_out hF).2
    exact fr_rt hF g0
  · rcases fr_if hF with hF | hF
    · obtain ⟨r2, S1, gS1, hF⟩ := fr_c g0 (fun _ h => fr_Hare_kindAbove h) (by decide) hF
      exact gS1.tr (hk4 x1 r2 (x3 + (1 : Int32)) S1 hF)
    · have hF := (dk_b_out hF).2
      exact fr_rt hF g0
theorem fb_Hare_isOfKind_4 {n : Nat} {T : Nat} {res : (Int32 × dk_S)}  : ∀ (q : Nat) (x1 : Int32) (x2 : Int32) (x3 : Int32)  (S : dk_S), B_Hare_isOfKind_4 n T  q x1 x2 x3 S = some res → dk_fr [] S res.2 := by
  intro q
  induction q with
  | zero => intro x1 x2 x3  S hF; cases hF
  | succ q ih => intro x1 x2 x3  S hF; exact fb_Hare_isOfKind_4b (n := n) (T := T) ih  hF
theorem fb_Hare_isOfKind_0 {n : Nat} {T : Nat} {res : (Int32 × dk_S)}  {x0 : Int32} {x1 : Int32} {S : dk_S}  (hF : B_Hare_isOfKind_0 n T  x0 x1 S = some res) : dk_fr [] S res.2 := by
  have g0 : dk_fr [] S S := dk_fr.rf
  unfold B_Hare_isOfKind_0 at hF
  exact g0.tr (fb_Hare_isOfKind_4 (n := n) (T := T)  n x1 x0 (0 : Int32) S hF)
theorem fr_Hare_isOfKind {n : Nat} {T : Nat} {x0 : Int32} {x1 : Int32} {S : dk_S} {res : (Int32 × dk_S)}  (h : F_Hare_isOfKind n T x0 x1 S = some res) : dk_fr [] S res.2 := fb_Hare_isOfKind_0 (n := n) (T := T)  h
theorem fb_Hare_claimTaken_0 {n : Nat} {T : Nat} {res : (Int32 × dk_S)}  {x1 : Int32} {x2 : Int32} {S : dk_S}  (hF : B_Hare_claimTaken_0 n T  x1 x2 S = some res) : dk_fr [19, 20, 21, 22, 23, 24, 25, 26, 27, 28, 29, 115, 116] S res.2 := by
  have g0 : dk_fr [19, 20, 21, 22, 23, 24, 25, 26, 27, 28, 29, 115, 116] S S := dk_fr.rf
  unfold B_Hare_claimTaken_0 at hF
  obtain ⟨S1, gS1, hF⟩ := fr_cv g0 (fun _ h => fr_Scene_reach h) (by decide) hF
  obtain ⟨r4, S3, gS3, hF⟩ := fr_c gS1 (fun _ h => fr_Scene_has h) (by decide) hF
  rcases fr_if hF with hF | hF
  · obtain ⟨v5, hF⟩ := fr_r hF
    obtain ⟨r7, S6, gS6, hF⟩ := fr_c gS3 (fun _ h => fr_Hare_isOfKind h) (by decide) hF
    rcases fr_if hF with hF | hF
    · exact fr_rt hF gS6
    · obtain ⟨v8, hF⟩ := fr_r hF
      exact fr_rt hF gS6
  · exact fr_rt hF gS3
theorem fr_Hare_claimTaken {n : Nat} {T : Nat} {x1 : Int32} {x2 : Int32} {S : dk_S} {res : (Int32 × dk_S)}  (h : F_Hare_claimTaken n T x1 x2 S = some res) : dk_fr [19, 20, 21, 22, 23, 24, 25, 26, 27, 28, 29, 115, 116] S res.2 := fb_Hare_claimTaken_0 (n := n) (T := T)  h
theorem fb_Hare_taken_0 {n : Nat} {T : Nat} {res : (Int32 × dk_S)}  {x1 : Int32} {x2 : Int32} {S : dk_S}  (hF : B_Hare_taken_0 n T  x1 x2 S = some res) : dk_fr [19, 20, 21, 22, 23, 24, 25, 26, 27, 28, 29, 115, 116] S res.2 := by
  have g0 : dk_fr [19, 20, 21, 22, 23, 24, 25, 26, 27, 28, 29, 115, 116] S S := dk_fr.rf
  unfold B_Hare_taken_0 at hF
  rcases fr_if hF with hF | hF
  · exact fr_rt hF g0
  · rcases fr_if hF with hF | hF
    · rcases fr_if hF with hF | hF
      · exact fr_rt hF g0
      · rcases fr_if hF with hF | hF
        · rcases fr_if hF with hF | hF
          · obtain ⟨r2, S1, gS1, hF⟩ := fr_c g0 (fun _ h => fr_Hare_claimTaken h) (by decide) hF
            exact fr_rt hF gS1
          · obtain ⟨r4, S3, gS3, hF⟩ := fr_c g0 (fun _ h => fr_Hare_beastTaken h) (by decide) hF
            exact fr_rt hF gS3
        · exact fr_rt hF g0
    · exact fr_rt hF g0
theorem fr_Hare_taken {n : Nat} {T : Nat} {x1 : Int32} {x2 : Int32} {S : dk_S} {res : (Int32 × dk_S)}  (h : F_Hare_taken n T x1 x2 S = some res) : dk_fr [19, 20, 21, 22, 23, 24, 25, 26, 27, 28, 29, 115, 116] S res.2 := fb_Hare_taken_0 (n := n) (T := T)  h
theorem fb_Prec_checkIndex_0 {n : Nat} {T : Nat} {res : (Int32 × dk_S)}  {x0 : Int32} {x1 : Int32} {S : dk_S}  (hF : B_Prec_checkIndex_0 n T  x0 x1 S = some res) : dk_fr [] S res.2 := by
  have g0 : dk_fr [] S S := dk_fr.rf
  unfold B_Prec_checkIndex_0 at hF
  rcases fr_if hF with hF | hF
  · cases hF
  · rcases fr_if hF with hF | hF
    · exact fr_rt hF g0
    · cases hF
theorem fr_Prec_checkIndex {n : Nat} {T : Nat} {x0 : Int32} {x1 : Int32} {S : dk_S} {res : (Int32 × dk_S)}  (h : F_Prec_checkIndex n T x0 x1 S = some res) : dk_fr [] S res.2 := fb_Prec_checkIndex_0 (n := n) (T := T)  h
theorem fb_String_checkIndex_0 {n : Nat} {T : Nat} {res : dk_S}  {x0 : Int32} {x1 : Int32} {S : dk_S}  (hF : B_String_checkIndex_0 n T  x0 x1 S = some res) : dk_fr [] S res := by
  have g0 : dk_fr [] S S := dk_fr.rf
  unfold B_String_checkIndex_0 at hF
  obtain ⟨r2, S1, gS1, hF⟩ := fr_c g0 (fun _ h => fr_Prec_checkIndex h) (by decide) hF
  exact fr_rtv hF gS1
theorem fr_String_checkIndex {n : Nat} {T : Nat} {x0 : Int32} {x1 : Int32} {S : dk_S} {res : dk_S}  (h : F_String_checkIndex n T x0 x1 S = some res) : dk_fr [] S res := fb_String_checkIndex_0 (n := n) (T := T)  h
theorem fb_Latin_charAt_0 {n : Nat} {T : Nat} {res : (Int32 × dk_S)}  {x1 : Int32} {S : dk_S}  (hF : B_Latin_charAt_0 n T  x1 S = some res) : dk_fr [] S res.2 := by
  have g0 : dk_fr [] S S := dk_fr.rf
  unfold B_Latin_charAt_0 at hF
  obtain ⟨S1, gS1, hF⟩ := fr_cv g0 (fun _ h => fr_String_checkIndex h) (by decide) hF
  obtain ⟨v3, hF⟩ := fr_r hF
  have hF := fr_nr hF
  exact fr_rt hF gS1
theorem fr_Latin_charAt {n : Nat} {T : Nat} {x1 : Int32} {S : dk_S} {res : (Int32 × dk_S)}  (h : F_Latin_charAt n T x1 S = some res) : dk_fr [] S res.2 := fb_Latin_charAt_0 (n := n) (T := T)  h
theorem fb_String_coder_0 {n : Nat} {T : Nat} {res : (Int32 × dk_S)}   {S : dk_S}  (hF : B_String_coder_0 n T   S = some res) : dk_fr [] S res.2 := by
  have g0 : dk_fr [] S S := dk_fr.rf
  unfold B_String_coder_0 at hF
  rcases fr_if hF with hF | hF
  · have hF := fr_nr hF
    exact fr_rt hF g0
  · have hF := fr_nr hF
    exact fr_rt hF g0
theorem fr_String_coder {n : Nat} {T : Nat}  {S : dk_S} {res : (Int32 × dk_S)}  (h : F_String_coder n T  S = some res) : dk_fr [] S res.2 := fb_String_coder_0 (n := n) (T := T)  h
theorem fb_String_isLatin1_0 {n : Nat} {T : Nat} {res : (Int32 × dk_S)}   {S : dk_S}  (hF : B_String_isLatin1_0 n T   S = some res) : dk_fr [] S res.2 := by
  have g0 : dk_fr [] S S := dk_fr.rf
  unfold B_String_isLatin1_0 at hF
  rcases fr_if hF with hF | hF
  · have hF := (dk_b_out hF).2
    exact fr_rt hF g0
  · rcases fr_if hF with hF | hF
    · have hF := (dk_b_out hF).2
      exact fr_rt hF g0
    · have hF := (dk_b_out hF).2
      exact fr_rt hF g0
theorem fr_String_isLatin1 {n : Nat} {T : Nat}  {S : dk_S} {res : (Int32 × dk_S)}  (h : F_String_isLatin1 n T  S = some res) : dk_fr [] S res.2 := fb_String_isLatin1_0 (n := n) (T := T)  h
theorem fb_String_charAt_0 {n : Nat} {T : Nat} {res : (Int32 × dk_S)}  {x1 : Int32} {S : dk_S}  (hF : B_String_charAt_0 n T  x1 S = some res) : dk_fr [] S res.2 := by
  have g0 : dk_fr [] S S := dk_fr.rf
  unfold B_String_charAt_0 at hF
  obtain ⟨r2, S1, gS1, hF⟩ := fr_c g0 (fun _ h => fr_String_isLatin1 h) (by decide) hF
  rcases fr_if hF with hF | hF
  · cases hF
  · obtain ⟨r4, S3, gS3, hF⟩ := fr_c gS1 (fun _ h => fr_Latin_charAt h) (by decide) hF
    have hF := fr_nr hF
    exact fr_rt hF gS3
theorem fr_String_charAt {n : Nat} {T : Nat} {x1 : Int32} {S : dk_S} {res : (Int32 × dk_S)}  (h : F_String_charAt n T x1 S = some res) : dk_fr [] S res.2 := fb_String_charAt_0 (n := n) (T := T)  h
theorem fb_String_length_0 {n : Nat} {T : Nat} {res : (Int32 × dk_S)}   {S : dk_S}  (hF : B_String_length_0 n T   S = some res) : dk_fr [] S res.2 := by
  have g0 : dk_fr [] S S := dk_fr.rf
  unfold B_String_length_0 at hF
  obtain ⟨r2, S1, gS1, hF⟩ := fr_c g0 (fun _ h => fr_String_coder h) (by decide) hF
  exact fr_rt hF gS1
theorem fr_String_length {n : Nat} {T : Nat}  {S : dk_S} {res : (Int32 × dk_S)}  (h : F_String_length n T  S = some res) : dk_fr [] S res.2 := fb_String_length_0 (n := n) (T := T)  h
theorem fb_Reader_append_20b {n : Nat} {T : Nat} {res : (Int32 × dk_S)} {k20 : Int64 → Int32 → dk_S → Option (Int32 × dk_S)} (hk20 : ∀ (x1 : Int64) (x4 : Int32)  (S : dk_S), k20 x1 x4 S = some res → dk_fr [13, 105] S res.2) {x1 : Int64} {x4 : Int32} {S : dk_S}  (hF : B_Reader_append_20b n T k20 x1 x4 S = some res) : dk_fr [13, 105] S res.2 := by
  have g0 : dk_fr [13, 105] S S := dk_fr.rf
  unfold B_Reader_append_20b at hF
  rcases fr_if hF with hF | hF
  · exact fr_rt hF g0
  · obtain ⟨S1, gS1, hF⟩ := fr_w g0 (by decide) hF
    obtain ⟨S2, gS2, hF⟩ := fr_p gS1 (by decide) hF
    exact gS2.tr (hk20 x1 (x4 + (-1 : Int32)) S2 hF)
theorem fb_Reader_append_20 {n : Nat} {T : Nat} {res : (Int32 × dk_S)}  : ∀ (q : Nat) (x1 : Int64) (x4 : Int32)  (S : dk_S), B_Reader_append_20 n T  q x1 x4 S = some res → dk_fr [13, 105] S res.2 := by
  intro q
  induction q with
  | zero => intro x1 x4  S hF; cases hF
  | succ q ih => intro x1 x4  S hF; exact fb_Reader_append_20b (n := n) (T := T) ih  hF
theorem fb_Reader_append_0 {n : Nat} {T : Nat} {res : (Int32 × dk_S)}  {x1 : Int64} {x3 : Int32} {S : dk_S}  (hF : B_Reader_append_0 n T  x1 x3 S = some res) : dk_fr [13, 105] S res.2 := by
  have g0 : dk_fr [13, 105] S S := dk_fr.rf
  unfold B_Reader_append_0 at hF
  rcases fr_if hF with hF | hF
  · exact g0.tr (fb_Reader_append_20 (n := n) (T := T)  n x1 (x3 - (1 : Int32)) S hF)
  · exact fr_rt hF g0
theorem fr_Reader_append {n : Nat} {T : Nat} {x1 : Int64} {x3 : Int32} {S : dk_S} {res : (Int32 × dk_S)}  (h : F_Reader_append n T x1 x3 S = some res) : dk_fr [13, 105] S res.2 := fb_Reader_append_0 (n := n) (T := T)  h
theorem fb_Reader_isLetter_0 {n : Nat} {T : Nat} {res : (Int32 × dk_S)}  {x0 : Int32} {S : dk_S}  (hF : B_Reader_isLetter_0 n T  x0 S = some res) : dk_fr [] S res.2 := by
  have g0 : dk_fr [] S S := dk_fr.rf
  unfold B_Reader_isLetter_0 at hF
  rcases fr_if hF with hF | hF
  · have hF := (dk_b_out hF).2
    exact fr_rt hF g0
  · rcases fr_if hF with hF | hF
    · have hF := (dk_b_out hF).2
      exact fr_rt hF g0
    · have hF := (dk_b_out hF).2
      exact fr_rt hF g0
theorem fr_Reader_isLetter {n : Nat} {T : Nat} {x0 : Int32} {S : dk_S} {res : (Int32 × dk_S)}  (h : F_Reader_isLetter n T x0 S = some res) : dk_fr [] S res.2 := fb_Reader_isLetter_0 (n := n) (T := T)  h
theorem fb_Reader_isDigit_0 {n : Nat} {T : Nat} {res : (Int32 × dk_S)}  {x0 : Int32} {S : dk_S}  (hF : B_Reader_isDigit_0 n T  x0 S = some res) : dk_fr [] S res.2 := by
  have g0 : dk_fr [] S S := dk_fr.rf
  unfold B_Reader_isDigit_0 at hF
  rcases fr_if hF with hF | hF
  · have hF := (dk_b_out hF).2
    exact fr_rt hF g0
  · rcases fr_if hF with hF | hF
    · have hF := (dk_b_out hF).2
      exact fr_rt hF g0
    · have hF := (dk_b_out hF).2
      exact fr_rt hF g0
theorem fr_Reader_isDigit {n : Nat} {T : Nat} {x0 : Int32} {S : dk_S} {res : (Int32 × dk_S)}  (h : F_Reader_isDigit n T x0 S = some res) : dk_fr [] S res.2 := fb_Reader_isDigit_0 (n := n) (T := T)  h
theorem fb_Reader_isSign_0 {n : Nat} {T : Nat} {res : (Int32 × dk_S)}  {x0 : Int32} {S : dk_S}  (hF : B_Reader_isSign_0 n T  x0 S = some res) : dk_fr [] S res.2 := by
  have g0 : dk_fr [] S S := dk_fr.rf
  unfold B_Reader_isSign_0 at hF
  rcases fr_if hF with hF | hF
  · have hF := (dk_b_out hF).2
    exact fr_rt hF g0
  · rcases fr_if hF with hF | hF
    · have hF := (dk_b_out hF).2
      exact fr_rt hF g0
    · rcases fr_if hF with hF | hF
      · have hF := (dk_b_out hF).2
        exact fr_rt hF g0
      · rcases fr_if hF with hF | hF
        · have hF := (dk_b_out hF).2
          exact fr_rt hF g0
        · rcases fr_if hF with hF | hF
          · have hF := (dk_b_out hF).2
            exact fr_rt hF g0
          · rcases fr_if hF with hF | hF
            · have hF := (dk_b_out hF).2
              exact fr_rt hF g0
            · rcases fr_if hF with hF | hF
              · have hF := (dk_b_out hF).2
                exact fr_rt hF g0
              · rcases fr_if hF with hF | hF
                · have hF := (dk_b_out hF).2
                  exact fr_rt hF g0
                · rcases fr_if hF with hF | hF
                  · have hF := (dk_b_out hF).2
                    exact fr_rt hF g0
                  · rcases fr_if hF with hF | hF
                    · have hF := (dk_b_out hF).2
                      exact fr_rt hF g0
                    · rcases fr_if hF with hF | hF
                      · have hF := (dk_b_out hF).2
                        exact fr_rt hF g0
                      · rcases fr_if hF with hF | hF
                        · have hF := (dk_b_out hF).2
                          exact fr_rt hF g0
                        · rcases fr_if hF with hF | hF
                          · have hF := (dk_b_out hF).2
                            exact fr_rt hF g0
                          · rcases fr_if hF with hF | hF
                            · have hF := (dk_b_out hF).2
                              exact fr_rt hF g0
                            · rcases fr_if hF with hF | hF
                              · have hF := (dk_b_out hF).2
                                exact fr_rt hF g0
                              · rcases fr_if hF with hF | hF
                                · have hF := (dk_b_out hF).2
                                  exact fr_rt hF g0
                                · rcases fr_if hF with hF | hF
                                  · have hF := (dk_b_out hF).2
                                    exact fr_rt hF g0
                                  · rcases fr_if hF with hF | hF
                                    · have hF := (dk_b_out hF).2
                                      exact fr_rt hF g0
                                    · rcases fr_if hF with hF | hF
                                      · have hF := (dk_b_out hF).2
                                        exact fr_rt hF g0
                                      · rcases fr_if hF with hF | hF
                                        · have hF := (dk_b_out hF).2
                                          exact fr_rt hF g0
                                        · rcases fr_if hF with hF | hF
                                          · have hF := (dk_b_out hF).2
                                            exact fr_rt hF g0
                                          · rcases fr_if hF with hF | hF
                                            · have hF := (dk_b_out hF).2
                                              exact fr_rt hF g0
                                            · have hF := (dk_b_out hF).2
                                              exact fr_rt hF g0
theorem fr_Reader_isSign {n : Nat} {T : Nat} {x0 : Int32} {S : dk_S} {res : (Int32 × dk_S)}  (h : F_Reader_isSign n T x0 S = some res) : dk_fr [] S res.2 := fb_Reader_isSign_0 (n := n) (T := T)  h
theorem fb_Reader_sees_0 {n : Nat} {T : Nat} {res : (Int32 × dk_S)}  {x1 : Int32} {S : dk_S}  (hF : B_Reader_sees_0 n T  x1 S = some res) : dk_fr [] S res.2 := by
  have g0 : dk_fr [] S S := dk_fr.rf
  unfold B_Reader_sees_0 at hF
  rcases fr_if hF with hF | hF
  · have hF := (dk_b_out hF).2
    exact fr_rt hF g0
  · rcases fr_if hF with hF | hF
    · have hF := (dk_b_out hF).2
      exact fr_rt hF g0
    · have hF := (dk_b_out hF).2
      exact fr_rt hF g0
theorem fr_Reader_sees {n : Nat} {T : Nat} {x1 : Int32} {S : dk_S} {res : (Int32 × dk_S)}  (h : F_Reader_sees n T x1 S = some res) : dk_fr [] S res.2 := fb_Reader_sees_0 (n := n) (T := T)  h
theorem fb_Reader_fail_0 {n : Nat} {T : Nat} {res : dk_S}   {S : dk_S}  (hF : B_Reader_fail_0 n T   S = some res) : dk_fr [106] S res := by
  have g0 : dk_fr [106] S S := dk_fr.rf
  unfold B_Reader_fail_0 at hF
  rcases fr_if hF with hF | hF
  · exact fr_rtv hF g0
  · obtain ⟨S1, gS1, hF⟩ := fr_p g0 (by decide) hF
    exact fr_rtv hF gS1
theorem fr_Reader_fail {n : Nat} {T : Nat}  {S : dk_S} {res : dk_S}  (h : F_Reader_fail n T  S = some res) : dk_fr [106] S res := fb_Reader_fail_0 (n := n) (T := T)  h
theorem fb_Reader_put_0 {n : Nat} {T : Nat} {res : dk_S}  {x1 : Int32} {S : dk_S}  (hF : B_Reader_put_0 n T  x1 S = some res) : dk_fr [14, 107] S res := by
  have g0 : dk_fr [14, 107] S S := dk_fr.rf
  unfold B_Reader_put_0 at hF
  rcases fr_if hF with hF | hF
  · exact fr_rtv hF g0
  · rcases fr_if hF with hF | hF
    · exact fr_rtv hF g0
    · obtain ⟨S1, gS1, hF⟩ := fr_w g0 (by decide) hF
      obtain ⟨S2, gS2, hF⟩ := fr_p gS1 (by decide) hF
      exact fr_rtv hF gS2
theorem fr_Reader_put {n : Nat} {T : Nat} {x1 : Int32} {S : dk_S} {res : dk_S}  (h : F_Reader_put n T x1 S = some res) : dk_fr [14, 107] S res := fb_Reader_put_0 (n := n) (T := T)  h
theorem fb_Reader_scanNumber_87 {n : Nat} {T : Nat} {res : dk_S}  {u1 : Int32} {S : dk_S}  (hF : B_Reader_scanNumber_87 n T  u1 S = some res) : dk_fr [109, 111, 112] S res := by
  have g0 : dk_fr [109, 111, 112] S S := dk_fr.rf
  unfold B_Reader_scanNumber_87 at hF
  obtain ⟨S1, gS1, hF⟩ := fr_p g0 (by decide) hF
  exact fr_rtv hF gS1
theorem fb_Reader_scanNumber_68 {n : Nat} {T : Nat} {res : dk_S}   {S : dk_S}  (hF : B_Reader_scanNumber_68 n T   S = some res) : dk_fr [109, 111, 112] S res := by
  have g0 : dk_fr [109, 111, 112] S S := dk_fr.rf
  unfold B_Reader_scanNumber_68 at hF
  rcases fr_if hF with hF | hF
  · exact g0.tr (fb_Reader_scanNumber_87 (n := n) (T := T)   hF)
  · exact g0.tr (fb_Reader_scanNumber_87 (n := n) (T := T)   hF)
theorem fb_Reader_scanNumber_5b {n : Nat} {T : Nat} {res : dk_S} {k5 : dk_S → Option dk_S} (hk5 : ∀   (S : dk_S), k5  S = some res → dk_fr [109, 111, 112] S res)  {S : dk_S}  (hF : B_Reader_scanNumber_5b n T k5  S = some res) : dk_fr [109, 111, 112] S res := by
  have g0 : dk_fr [109, 111, 112] S S := dk_fr.rf
  unfold B_Reader_scanNumber_5b at hF
  rcases fr_if hF with hF | hF
  · exact g0.tr (fb_Reader_scanNumber_68 (n := n) (T := T)   hF)
  · obtain ⟨v2, hF⟩ := fr_r hF
    obtain ⟨r4, S3, gS3, hF⟩ := fr_c g0 (fun _ h => fr_Reader_isDigit h) (by decide) hF
    rcases fr_if hF with hF | hF
    · exact gS3.tr (fb_Reader_scanNumber_68 (n := n) (T := T)   hF)
    · obtain ⟨v5, hF⟩ := fr_r hF
      obtain ⟨S6, gS6, hF⟩ := fr_p gS3 (by decide) hF
      obtain ⟨S7, gS7, hF⟩ := fr_p gS6 (by decide) hF
      exact gS7.tr (hk5 S7 hF)
theorem fb_Reader_scanNumber_5 {n : Nat} {T : Nat} {res : dk_S}  : ∀ (q : Nat)   (S : dk_S), B_Reader_scanNumber_5 n T  q  S = some res → dk_fr [109, 111, 112] S res := by
  intro q
  induction q with
  | zero => intro   S hF; cases hF
  | succ q ih => intro   S hF; exact fb_Reader_scanNumber_5b (n := n) (T := T) ih  hF
theorem fb_Reader_scanNumber_0 {n : Nat} {T : Nat} {res : dk_S}   {S : dk_S}  (hF : B_Reader_scanNumber_0 n T   S = some res) : dk_fr [109, 111, 112] S res := by
  have g0 : dk_fr [109, 111, 112] S S := dk_fr.rf
  unfold B_Reader_scanNumber_0 at hF
  obtain ⟨S8, gS8, hF⟩ := fr_p g0 (by decide) hF
  exact gS8.tr (fb_Reader_scanNumber_5 (n := n) (T := T)  n S8 hF)
theorem fr_Reader_scanNumber {n : Nat} {T : Nat}  {S : dk_S} {res : dk_S}  (h : F_Reader_scanNumber n T  S = some res) : dk_fr [109, 111, 112] S res := fb_Reader_scanNumber_0 (n := n) (T := T)  h
theorem fb_Reader_numberOfWord_102 {n : Nat} {T : Nat} {res : (Int32 × dk_S)} {k9 : Int32 → Int32 → Int32 → Int32 → dk_S → Option (Int32 × dk_S)} (hk9 : ∀ (x1 : Int32) (x2 : Int32) (x3 : Int32) (x4 : Int32)  (S : dk_S), k9 x1 x2 x3 x4 S = some res → dk_fr [] S res.2) {x1 : Int32} {x2 : Int32} {x3 : Int32} {x4 : Int32} {S : dk_S}  (hF : B_Reader_numberOfWord_102 n T k9 x1 x2 x3 x4 S = some res) : dk_fr [] S res.2 := by
  have g0 : dk_fr [] S S := dk_fr.rf
  unfold B_Reader_numberOfWord_102 at hF
  exact g0.tr (hk9 x1 x2 x3 (x4 + (1 : Int32)) S hF)
theorem fb_Reader_numberOfWord_73 {n : Nat} {T : Nat} {res : (Int32 × dk_S)} {k9 : Int32 → Int32 → Int32 → Int32 → dk_S → Option (Int32 × dk_S)} (hk9 : ∀ (x1 : Int32) (x2 : Int32) (x3 : Int32) (x4 : Int32)  (S : dk_S), k9 x1 x2 x3 x4 S = some res → dk_fr [] S res.2) {x1 : Int32} {x2 : Int32} {x4 : Int32} {u0 : Int32} {S : dk_S}  (hF : B_Reader_numberOfWord_73 n T k9 x1 x2 x4 u0 S = some res) : dk_fr [] S res.2 := by
  have g0 : dk_fr [] S S := dk_fr.rf
  unfold B_Reader_numberOfWord_73 at hF
  exact g0.tr (fb_Reader_numberOfWord_102 (n := n) (T := T) hk9  hF)
theorem fb_Reader_numberOfWord_72 {n : Nat} {T : Nat} {res : (Int32 × dk_S)} {k9 : Int32 → Int32 → Int32 → Int32 → dk_S → Option (Int32 × dk_S)} (hk9 : ∀ (x1 : Int32) (x2 : Int32) (x3 : Int32) (x4 : Int32)  (S : dk_S), k9 x1 x2 x3 x4 S = some res → dk_fr [] S res.2) {x1 : Int32} {x2 : Int32} {x4 : Int32} {S : dk_S}  (hF : B_Reader_numberOfWord_72 n T k9 x1 x2 x4 S = some res) : dk_fr [] S res.2 := by
  have g0 : dk_fr [] S S := dk_fr.rf
  unfold B_Reader_numberOfWord_72 at hF
  exact g0.tr (fb_Reader_numberOfWord_73 (n := n) (T := T) hk9  hF)
theorem fb_Reader_numberOfWord_95 {n : Nat} {T : Nat} {res : (Int32 × dk_S)} {k9 : Int32 → Int32 → Int32 → Int32 → dk_S → Option (Int32 × dk_S)} (hk9 : ∀ (x1 : Int32) (x2 : Int32) (x3 : Int32) (x4 : Int32)  (S : dk_S), k9 x1 x2 x3 x4 S = some res → dk_fr [] S res.2) {x1 : Int32} {x4 : Int32} {S : dk_S}  (hF : B_Reader_numberOfWord_95 n T k9 x1 x4 S = some res) : dk_fr [] S res.2 := by
  have g0 : dk_fr [] S S := dk_fr.rf
  unfold B_Reader_numberOfWord_95 at hF
  exact g0.tr (fb_Reader_numberOfWord_102 (n := n) (T := T) hk9  hF)
theorem fb_Reader_numberOfWord_9b {n : Nat} {T : Nat} {res : (Int32 × dk_S)} {k9 : Int32 → Int32 → Int32 → Int32 → dk_S → Option (Int32 × dk_S)} (hk9 : ∀ (x1 : Int32) (x2 : Int32) (x3 : Int32) (x4 : Int32)  (S : dk_S), k9 x1 x2 x3 x4 S = some res → dk_fr [] S res.2) {x1 : Int32} {x2 : Int32} {x3 : Int32} {x4 : Int32} {S : dk_S}  (hF : B_Reader_numberOfWord_9b n T k9 x1 x2 x3 x4 S = some res) : dk_fr [] S res.2 := by
  have g0 : dk_fr [] S S := dk_fr.rf
  unfold B_Reader_numberOfWord_9b at hF
  obtain ⟨r2, S1, gS1, hF⟩ := fr_c g0 (fun _ h => fr_String_length h) (by decide) hF
  rcases fr_if hF with hF | hF
  · exact fr_rt hF gS1
  · obtain ⟨r4, S3, gS3, hF⟩ := fr_c gS1 (fun _ h => fr_String_charAt h) (by decide) hF
    rcases fr_if hF with hF | hF
    · rcases fr_if hF with hF | hF
      · exact gS3.tr (fb_Reader_numberOfWord_95 (n := n) (T := T) hk9  hF)
      · rcases fr_if hF with hF | hF
        · exact gS3.tr (fb_Reader_numberOfWord_95 (n := n) (T := T) hk9  hF)
        · exact fr_rt hF gS3
    · rcases fr_if hF with hF | hF
      · exact gS3.tr (fb_Reader_numberOfWord_72 (n := n) (T := T) hk9  hF)
      · rcases fr_if hF with hF | hF
        · exact gS3.tr (fb_Reader_numberOfWord_72 (n := n) (T := T) hk9  hF)
        · obtain ⟨v5, hF⟩ := fr_r hF
          rcases fr_if hF with hF | hF
          · exact gS3.tr (fb_Reader_numberOfWord_72 (n := n) (T := T) hk9  hF)
          · exact gS3.tr (fb_Reader_numberOfWord_73 (n := n) (T := T) hk9  hF)
theorem fb_Reader_numberOfWord_9 {n : Nat} {T : Nat} {res : (Int32 × dk_S)}  : ∀ (q : Nat) (x1 : Int32) (x2 : Int32) (x3 : Int32) (x4 : Int32)  (S : dk_S), B_Reader_numberOfWord_9 n T  q x1 x2 x3 x4 S = some res → dk_fr [] S res.2 := by
  intro q
  induction q with
  | zero => intro x1 x2 x3 x4  S hF; cases hF
  | succ q ih => intro x1 x2 x3 x4  S hF; exact fb_Reader_numberOfWord_9b (n := n) (T := T) ih  hF
theorem fb_Reader_numberOfWord_0 {n : Nat} {T : Nat} {res : (Int32 × dk_S)}   {S : dk_S}  (hF : B_Reader_numberOfWord_0 n T   S = some res) : dk_fr [] S res.2 := by
  have g0 : dk_fr [] S S := dk_fr.rf
  unfold B_Reader_numberOfWord_0 at hF
  exact g0.tr (fb_Reader_numberOfWord_9 (n := n) (T := T)  n (0 : Int32) (0 : Int32) (1 : Int32) (0 : Int32) S hF)
theorem fr_Reader_numberOfWord {n : Nat} {T : Nat}  {S : dk_S} {res : (Int32 × dk_S)}  (h : F_Reader_numberOfWord n T  S = some res) : dk_fr [] S res.2 := fb_Reader_numberOfWord_0 (n := n) (T := T)  h
theorem fb_Reader_scanWord_39 {n : Nat} {T : Nat} {res : dk_S}   {S : dk_S}  (hF : B_Reader_scanWord_39 n T   S = some res) : dk_fr [109, 111, 112] S res := by
  have g0 : dk_fr [109, 111, 112] S S := dk_fr.rf
  unfold B_Reader_scanWord_39 at hF
  obtain ⟨r2, S1, gS1, hF⟩ := fr_c g0 (fun _ h => fr_Reader_numberOfWord h) (by decide) hF
  rcases fr_if hF with hF | hF
  · rcases fr_if hF with hF | hF
    · obtain ⟨S3, gS3, hF⟩ := fr_p gS1 (by decide) hF
      exact fr_rtv hF gS3
    · obtain ⟨S4, gS4, hF⟩ := fr_p gS1 (by decide) hF
      obtain ⟨S5, gS5, hF⟩ := fr_p gS4 (by decide) hF
      exact fr_rtv hF gS5
  · obtain ⟨S6, gS6, hF⟩ := fr_p gS1 (by decide) hF
    exact fr_rtv hF gS6
theorem fb_Reader_scanWord_0b {n : Nat} {T : Nat} {res : dk_S} {k0 : dk_S → Option dk_S} (hk0 : ∀   (S : dk_S), k0  S = some res → dk_fr [109, 111, 112] S res)  {S : dk_S}  (hF : B_Reader_scanWord_0b n T k0  S = some res) : dk_fr [109, 111, 112] S res := by
  have g0 : dk_fr [109, 111, 112] S S := dk_fr.rf
  unfold B_Reader_scanWord_0b at hF
  rcases fr_if hF with hF | hF
  · exact g0.tr (fb_Reader_scanWord_39 (n := n) (T := T)   hF)
  · obtain ⟨v7, hF⟩ := fr_r hF
    obtain ⟨r9, S8, gS8, hF⟩ := fr_c g0 (fun _ h => fr_Reader_isLetter h) (by decide) hF
    rcases fr_if hF with hF | hF
    · exact gS8.tr (fb_Reader_scanWord_39 (n := n) (T := T)   hF)
    · obtain ⟨S10, gS10, hF⟩ := fr_p gS8 (by decide) hF
      exact gS10.tr (hk0 S10 hF)
theorem fb_Reader_scanWord_0 {n : Nat} {T : Nat} {res : dk_S}  : ∀ (q : Nat)   (S : dk_S), B_Reader_scanWord_0 n T  q  S = some res → dk_fr [109, 111, 112] S res := by
  intro q
  induction q with
  | zero => intro   S hF; cases hF
  | succ q ih => intro   S hF; exact fb_Reader_scanWord_0b (n := n) (T := T) ih  hF
theorem fr_Reader_scanWord {n : Nat} {T : Nat}  {S : dk_S} {res : dk_S}  (h : F_Reader_scanWord n T  S = some res) : dk_fr [109, 111, 112] S res := fb_Reader_scanWord_0 (n := n) (T := T) n   S h
theorem fb_Reader_scan_35 {n : Nat} {T : Nat} {res : dk_S} {k5 : Int32 → dk_S → Option dk_S} (hk5 : ∀ (x1 : Int32)  (S : dk_S), k5 x1 S = some res → dk_fr [109, 110, 111, 112] S res) {x1 : Int32} {S : dk_S}  (hF : B_Reader_scan_35 n T k5 x1 S = some res) : dk_fr [109, 110, 111, 112] S res := by
  have g0 : dk_fr [109, 110, 111, 112] S S := dk_fr.rf
  unfold B_Reader_scan_35 at hF
  exact g0.tr (hk5 (x1 + (1 : Int32)) S hF)
theorem fb_Reader_scan_128 {n : Nat} {T : Nat} {res : dk_S}  {u1 : Int32} {S : dk_S}  (hF : B_Reader_scan_128 n T  u1 S = some res) : dk_fr [109, 110, 111, 112] S res := by
  have g0 : dk_fr [109, 110, 111, 112] S S := dk_fr.rf
  unfold B_Reader_scan_128 at hF
  obtain ⟨S1, gS1, hF⟩ := fr_p g0 (by decide) hF
  obtain ⟨S2, gS2, hF⟩ := fr_p gS1 (by decide) hF
  exact fr_rtv hF gS2
theorem fb_Reader_scan_41 {n : Nat} {T : Nat} {res : dk_S}  {x1 : Int32} {S : dk_S}  (hF : B_Reader_scan_41 n T  x1 S = some res) : dk_fr [109, 110, 111, 112] S res := by
  have g0 : dk_fr [109, 110, 111, 112] S S := dk_fr.rf
  unfold B_Reader_scan_41 at hF
  obtain ⟨S3, gS3, hF⟩ := fr_p g0 (by decide) hF
  obtain ⟨S4, gS4, hF⟩ := fr_p gS3 (by decide) hF
  rcases fr_if hF with hF | hF
  · obtain ⟨v5, hF⟩ := fr_r hF
    obtain ⟨r7, S6, gS6, hF⟩ := fr_c gS4 (fun _ h => fr_Reader_isLetter h) (by decide) hF
    rcases fr_if hF with hF | hF
    · obtain ⟨v8, hF⟩ := fr_r hF
      obtain ⟨r10, S9, gS9, hF⟩ := fr_c gS6 (fun _ h => fr_Reader_isDigit h) (by decide) hF
      rcases fr_if hF with hF | hF
      · obtain ⟨v11, hF⟩ := fr_r hF
        obtain ⟨r13, S12, gS12, hF⟩ := fr_c gS9 (fun _ h => fr_Reader_isSign h) (by decide) hF
        rcases fr_if hF with hF | hF
        · exact gS12.tr (fb_Reader_scan_128 (n := n) (T := T)   hF)
        · obtain ⟨v14, hF⟩ := fr_r hF
          exact gS12.tr (fb_Reader_scan_128 (n := n) (T := T)   hF)
      · obtain ⟨S15, gS15, hF⟩ := fr_cv gS9 (fun _ h => fr_Reader_scanNumber h) (by decide) hF
        exact fr_rtv hF gS15
    · obtain ⟨S17, gS17, hF⟩ := fr_cv gS6 (fun _ h => fr_Reader_scanWord h) (by decide) hF
      exact fr_rtv hF gS17
  · obtain ⟨S19, gS19, hF⟩ := fr_p gS4 (by decide) hF
    exact fr_rtv hF gS19
theorem fb_Reader_scan_5b {n : Nat} {T : Nat} {res : dk_S} {k5 : Int32 → dk_S → Option dk_S} (hk5 : ∀ (x1 : Int32)  (S : dk_S), k5 x1 S = some res → dk_fr [109, 110, 111, 112] S res) {x1 : Int32} {S : dk_S}  (hF : B_Reader_scan_5b n T k5 x1 S = some res) : dk_fr [109, 110, 111, 112] S res := by
  have g0 : dk_fr [109, 110, 111, 112] S S := dk_fr.rf
  unfold B_Reader_scan_5b at hF
  rcases fr_if hF with hF | hF
  · exact g0.tr (fb_Reader_scan_41 (n := n) (T := T)   hF)
  · obtain ⟨v20, hF⟩ := fr_r hF
    rcases fr_if hF with hF | hF
    · exact g0.tr (fb_Reader_scan_35 (n := n) (T := T) hk5  hF)
    · obtain ⟨v21, hF⟩ := fr_r hF
      rcases fr_if hF with hF | hF
      · exact g0.tr (fb_Reader_scan_41 (n := n) (T := T)   hF)
      · exact g0.tr (fb_Reader_scan_35 (n := n) (T := T) hk5  hF)
theorem fb_Reader_scan_5 {n : Nat} {T : Nat} {res : dk_S}  : ∀ (q : Nat) (x1 : Int32)  (S : dk_S), B_Reader_scan_5 n T  q x1 S = some res → dk_fr [109, 110, 111, 112] S res := by
  intro q
  induction q with
  | zero => intro x1  S hF; cases hF
  | succ q ih => intro x1  S hF; exact fb_Reader_scan_5b (n := n) (T := T) ih  hF
theorem fb_Reader_scan_0 {n : Nat} {T : Nat} {res : dk_S}   {S : dk_S}  (hF : B_Reader_scan_0 n T   S = some res) : dk_fr [109, 110, 111, 112] S res := by
  have g0 : dk_fr [109, 110, 111, 112] S S := dk_fr.rf
  unfold B_Reader_scan_0 at hF
  exact g0.tr (fb_Reader_scan_5 (n := n) (T := T)  n (S 112 0) S hF)
theorem fr_Reader_scan {n : Nat} {T : Nat}  {S : dk_S} {res : dk_S}  (h : F_Reader_scan n T  S = some res) : dk_fr [109, 110, 111, 112] S res := fb_Reader_scan_0 (n := n) (T := T)  h
theorem fb_Reader_expect_0 {n : Nat} {T : Nat} {res : dk_S}  {x1 : Int32} {S : dk_S}  (hF : B_Reader_expect_0 n T  x1 S = some res) : dk_fr [106, 109, 110, 111, 112] S res := by
  have g0 : dk_fr [106, 109, 110, 111, 112] S S := dk_fr.rf
  unfold B_Reader_expect_0 at hF
  obtain ⟨r2, S1, gS1, hF⟩ := fr_c g0 (fun _ h => fr_Reader_sees h) (by decide) hF
  rcases fr_if hF with hF | hF
  · obtain ⟨S3, gS3, hF⟩ := fr_cv gS1 (fun _ h => fr_Reader_fail h) (by decide) hF
    exact fr_rtv hF gS3
  · obtain ⟨S5, gS5, hF⟩ := fr_cv gS1 (fun _ h => fr_Reader_scan h) (by decide) hF
    exact fr_rtv hF gS5
theorem fr_Reader_expect {n : Nat} {T : Nat} {x1 : Int32} {S : dk_S} {res : dk_S}  (h : F_Reader_expect n T x1 S = some res) : dk_fr [106, 109, 110, 111, 112] S res := fb_Reader_expect_0 (n := n) (T := T)  h
theorem fb_Reader_opens_0 {n : Nat} {T : Nat} {res : (Int32 × dk_S)}   {S : dk_S}  (hF : B_Reader_opens_0 n T   S = some res) : dk_fr [106, 109, 110, 111, 112, 113] S res.2 := by
  have g0 : dk_fr [106, 109, 110, 111, 112, 113] S S := dk_fr.rf
  unfold B_Reader_opens_0 at hF
  rcases fr_if hF with hF | hF
  · obtain ⟨S1, gS1, hF⟩ := fr_p g0 (by decide) hF
    obtain ⟨S2, gS2, hF⟩ := fr_cv gS1 (fun _ h => fr_Reader_scan h) (by decide) hF
    have hF := (dk_b_out hF).2
    exact fr_rt hF gS2
  · obtain ⟨S4, gS4, hF⟩ := fr_cv g0 (fun _ h => fr_Reader_fail h) (by decide) hF
    have hF := (dk_b_out hF).2
    exact fr_rt hF gS4
theorem fr_Reader_opens {n : Nat} {T : Nat}  {S : dk_S} {res : (Int32 × dk_S)}  (h : F_Reader_opens n T  S = some res) : dk_fr [106, 109, 110, 111, 112, 113] S res.2 := fb_Reader_opens_0 (n := n) (T := T)  h
theorem fb_Hare_feed_0 {n : Nat} {T : Nat} {res : (Int32 × dk_S)}  {x1 : Int64} {x3 : Int32} {S : dk_S}  (hF : B_Hare_feed_0 n T  x1 x3 S = some res) : dk_fr [13, 105] S res.2 := by
  have g0 : dk_fr [13, 105] S S := dk_fr.rf
  unfold B_Hare_feed_0 at hF
  rcases fr_if hF with hF | hF
  · exact fr_rt hF g0
  · rcases fr_if hF with hF | hF
    · obtain ⟨r2, S1, gS1, hF⟩ := fr_c g0 (fun _ h => fr_Reader_append h) (by decide) hF
      exact fr_rt hF gS1
    · exact fr_rt hF g0
theorem fr_Hare_feed {n : Nat} {T : Nat} {x1 : Int64} {x3 : Int32} {S : dk_S} {res : (Int32 × dk_S)}  (h : F_Hare_feed n T x1 x3 S = some res) : dk_fr [13, 105] S res.2 := fb_Hare_feed_0 (n := n) (T := T)  h
theorem fb_Reader_readEither_6b {n : Nat} {T : Nat} {res : dk_S} {G : Nat → dk_S → Option dk_S} (hG : ∀ (i : Nat) (S S2 : dk_S), G i S = some S2 → dk_fr [14, 106, 107, 109, 110, 111, 112, 113] S S2) {k6 : Int32 → dk_S → Option dk_S} (hk6 : ∀ (x1 : Int32)  (S : dk_S), k6 x1 S = some res → dk_fr [14, 106, 107, 109, 110, 111, 112, 113] S res) {x1 : Int32} {S : dk_S}  (hF : B_Reader_readEither_6b n T G k6 x1 S = some res) : dk_fr [14, 106, 107, 109, 110, 111, 112, 113] S res := by
  have g0 : dk_fr [14, 106, 107, 109, 110, 111, 112, 113] S S := dk_fr.rf
  unfold B_Reader_readEither_6b at hF
  rcases fr_if hF with hF | hF
  · exact fr_rtv hF g0
  · obtain ⟨r2, S1, gS1, hF⟩ := fr_c g0 (fun _ h => fr_Reader_sees h) (by decide) hF
    rcases fr_if hF with hF | hF
    · exact fr_rtv hF gS1
    · obtain ⟨S3, gS3, hF⟩ := fr_cv gS1 (fun _ h => fr_Reader_scan h) (by decide) hF
      obtain ⟨S5, gS5, hF⟩ := fr_cv gS3 (fun _ h => hG _ _ _ h) (fun _ h => h) hF
      obtain ⟨S7, gS7, hF⟩ := fr_cv gS5 (fun _ h => fr_Reader_put h) (by decide) hF
      exact gS7.tr (hk6 (x1 + (1 : Int32)) S7 hF)
theorem fb_Reader_readEither_6 {n : Nat} {T : Nat} {res : dk_S} {G : Nat → dk_S → Option dk_S} (hG : ∀ (i : Nat) (S S2 : dk_S), G i S = some S2 → dk_fr [14, 106, 107, 109, 110, 111, 112, 113] S S2)  : ∀ (q : Nat) (x1 : Int32)  (S : dk_S), B_Reader_readEither_6 n T G  q x1 S = some res → dk_fr [14, 106, 107, 109, 110, 111, 112, 113] S res := by
  intro q
  induction q with
  | zero => intro x1  S hF; cases hF
  | succ q ih => intro x1  S hF; exact fb_Reader_readEither_6b (n := n) (T := T) hG ih  hF
theorem fb_Reader_readEither_0 {n : Nat} {T : Nat} {res : dk_S} {G : Nat → dk_S → Option dk_S} (hG : ∀ (i : Nat) (S S2 : dk_S), G i S = some S2 → dk_fr [14, 106, 107, 109, 110, 111, 112, 113] S S2)   {S : dk_S}  (hF : B_Reader_readEither_0 n T G   S = some res) : dk_fr [14, 106, 107, 109, 110, 111, 112, 113] S res := by
  have g0 : dk_fr [14, 106, 107, 109, 110, 111, 112, 113] S S := dk_fr.rf
  unfold B_Reader_readEither_0 at hF
  obtain ⟨S9, gS9, hF⟩ := fr_cv g0 (fun _ h => hG _ _ _ h) (fun _ h => h) hF
  exact gS9.tr (fb_Reader_readEither_6 (n := n) (T := T) hG  n (0 : Int32) S9 hF)
theorem frH_Reader_readEither {n : Nat} {T : Nat} {G : Nat → dk_S → Option dk_S} (hG : ∀ (i : Nat) (S S2 : dk_S), G i S = some S2 → dk_fr [14, 106, 107, 109, 110, 111, 112, 113] S S2)  {S : dk_S} {res : dk_S}  (h : H_Reader_readEither n T G  S = some res) : dk_fr [14, 106, 107, 109, 110, 111, 112, 113] S res := fb_Reader_readEither_0 (n := n) (T := T) hG  h
theorem fb_Reader_readBoth_6b {n : Nat} {T : Nat} {res : dk_S} {G : Nat → dk_S → Option dk_S} (hG : ∀ (i : Nat) (S S2 : dk_S), G i S = some S2 → dk_fr [14, 106, 107, 109, 110, 111, 112, 113] S S2) {k6 : Int32 → dk_S → Option dk_S} (hk6 : ∀ (x1 : Int32)  (S : dk_S), k6 x1 S = some res → dk_fr [14, 106, 107, 109, 110, 111, 112, 113] S res) {x1 : Int32} {S : dk_S}  (hF : B_Reader_readBoth_6b n T G k6 x1 S = some res) : dk_fr [14, 106, 107, 109, 110, 111, 112, 113] S res := by
  have g0 : dk_fr [14, 106, 107, 109, 110, 111, 112, 113] S S := dk_fr.rf
  unfold B_Reader_readBoth_6b at hF
  rcases fr_if hF with hF | hF
  · exact fr_rtv hF g0
  · obtain ⟨r2, S1, gS1, hF⟩ := fr_c g0 (fun _ h => fr_Reader_sees h) (by decide) hF
    rcases fr_if hF with hF | hF
    · exact fr_rtv hF gS1
    · obtain ⟨S3, gS3, hF⟩ := fr_cv gS1 (fun _ h => fr_Reader_scan h) (by decide) hF
      obtain ⟨S5, gS5, hF⟩ := fr_cv gS3 (fun _ h => hG _ _ _ h) (fun _ h => h) hF
      obtain ⟨S7, gS7, hF⟩ := fr_cv gS5 (fun _ h => fr_Reader_put h) (by decide) hF
      exact gS7.tr (hk6 (x1 + (1 : Int32)) S7 hF)
theorem fb_Reader_readBoth_6 {n : Nat} {T : Nat} {res : dk_S} {G : Nat → dk_S → Option dk_S} (hG : ∀ (i : Nat) (S S2 : dk_S), G i S = some S2 → dk_fr [14, 106, 107, 109, 110, 111, 112, 113] S S2)  : ∀ (q : Nat) (x1 : Int32)  (S : dk_S), B_Reader_readBoth_6 n T G  q x1 S = some res → dk_fr [14, 106, 107, 109, 110, 111, 112, 113] S res := by
  intro q
  induction q with
  | zero => intro x1  S hF; cases hF
  | succ q ih => intro x1  S hF; exact fb_Reader_readBoth_6b (n := n) (T := T) hG ih  hF
theorem fb_Reader_readBoth_0 {n : Nat} {T : Nat} {res : dk_S} {G : Nat → dk_S → Option dk_S} (hG : ∀ (i : Nat) (S S2 : dk_S), G i S = some S2 → dk_fr [14, 106, 107, 109, 110, 111, 112, 113] S S2)   {S : dk_S}  (hF : B_Reader_readBoth_0 n T G   S = some res) : dk_fr [14, 106, 107, 109, 110, 111, 112, 113] S res := by
  have g0 : dk_fr [14, 106, 107, 109, 110, 111, 112, 113] S S := dk_fr.rf
  unfold B_Reader_readBoth_0 at hF
  obtain ⟨S9, gS9, hF⟩ := fr_cv g0 (fun _ h => hG _ _ _ h) (fun _ h => h) hF
  exact gS9.tr (fb_Reader_readBoth_6 (n := n) (T := T) hG  n (0 : Int32) S9 hF)
theorem frH_Reader_readBoth {n : Nat} {T : Nat} {G : Nat → dk_S → Option dk_S} (hG : ∀ (i : Nat) (S S2 : dk_S), G i S = some S2 → dk_fr [14, 106, 107, 109, 110, 111, 112, 113] S S2)  {S : dk_S} {res : dk_S}  (h : H_Reader_readBoth n T G  S = some res) : dk_fr [14, 106, 107, 109, 110, 111, 112, 113] S res := fb_Reader_readBoth_0 (n := n) (T := T) hG  h
theorem fb_Reader_readNot_0 {n : Nat} {T : Nat} {res : dk_S} {G : Nat → dk_S → Option dk_S} (hG : ∀ (i : Nat) (S S2 : dk_S), G i S = some S2 → dk_fr [14, 106, 107, 109, 110, 111, 112, 113] S S2)   {S : dk_S}  (hF : B_Reader_readNot_0 n T G   S = some res) : dk_fr [14, 106, 107, 109, 110, 111, 112, 113] S res := by
  have g0 : dk_fr [14, 106, 107, 109, 110, 111, 112, 113] S S := dk_fr.rf
  unfold B_Reader_readNot_0 at hF
  obtain ⟨r2, S1, gS1, hF⟩ := fr_c g0 (fun _ h => fr_Reader_sees h) (by decide) hF
  rcases fr_if hF with hF | hF
  · obtain ⟨r4, S3, gS3, hF⟩ := fr_c gS1 (fun _ h => fr_Reader_opens h) (by decide) hF
    rcases fr_if hF with hF | hF
    · exact fr_rtv hF gS3
    · obtain ⟨S5, gS5, hF⟩ := fr_cv gS3 (fun _ h => hG _ _ _ h) (fun _ h => h) hF
      obtain ⟨S7, gS7, hF⟩ := fr_cv gS5 (fun _ h => fr_Reader_put h) (by decide) hF
      obtain ⟨S9, gS9, hF⟩ := fr_p gS7 (by decide) hF
      exact fr_rtv hF gS9
  · obtain ⟨S10, gS10, hF⟩ := fr_cv gS1 (fun _ h => hG _ _ _ h) (fun _ h => h) hF
    exact fr_rtv hF gS10
theorem frH_Reader_readNot {n : Nat} {T : Nat} {G : Nat → dk_S → Option dk_S} (hG : ∀ (i : Nat) (S S2 : dk_S), G i S = some S2 → dk_fr [14, 106, 107, 109, 110, 111, 112, 113] S S2)  {S : dk_S} {res : dk_S}  (h : H_Reader_readNot n T G  S = some res) : dk_fr [14, 106, 107, 109, 110, 111, 112, 113] S res := fb_Reader_readNot_0 (n := n) (T := T) hG  h
theorem fb_Reader_readCompared_38 {n : Nat} {T : Nat} {res : dk_S} {G : Nat → dk_S → Option dk_S} (hG : ∀ (i : Nat) (S S2 : dk_S), G i S = some S2 → dk_fr [14, 106, 107, 109, 110, 111, 112, 113] S S2)  {u0 : Int32} {S : dk_S}  (hF : B_Reader_readCompared_38 n T G  u0 S = some res) : dk_fr [14, 106, 107, 109, 110, 111, 112, 113] S res := by
  have g0 : dk_fr [14, 106, 107, 109, 110, 111, 112, 113] S S := dk_fr.rf
  unfold B_Reader_readCompared_38 at hF
  obtain ⟨S1, gS1, hF⟩ := fr_cv g0 (fun _ h => fr_Reader_scan h) (by decide) hF
  obtain ⟨S3, gS3, hF⟩ := fr_cv gS1 (fun _ h => hG _ _ _ h) (fun _ h => h) hF
  obtain ⟨S5, gS5, hF⟩ := fr_cv gS3 (fun _ h => fr_Reader_put h) (by decide) hF
  exact fr_rtv hF gS5
theorem fb_Reader_readCompared_22 {n : Nat} {T : Nat} {res : dk_S} {G : Nat → dk_S → Option dk_S} (hG : ∀ (i : Nat) (S S2 : dk_S), G i S = some S2 → dk_fr [14, 106, 107, 109, 110, 111, 112, 113] S S2)   {S : dk_S}  (hF : B_Reader_readCompared_22 n T G   S = some res) : dk_fr [14, 106, 107, 109, 110, 111, 112, 113] S res := by
  have g0 : dk_fr [14, 106, 107, 109, 110, 111, 112, 113] S S := dk_fr.rf
  unfold B_Reader_readCompared_22 at hF
  rcases fr_if hF with hF | hF
  · exact g0.tr (fb_Reader_readCompared_38 (n := n) (T := T) hG   hF)
  · exact g0.tr (fb_Reader_readCompared_38 (n := n) (T := T) hG   hF)
theorem fb_Reader_readCompared_0 {n : Nat} {T : Nat} {res : dk_S} {G : Nat → dk_S → Option dk_S} (hG : ∀ (i : Nat) (S S2 : dk_S), G i S = some S2 → dk_fr [14, 106, 107, 109, 110, 111, 112, 113] S S2)   {S : dk_S}  (hF : B_Reader_readCompared_0 n T G   S = some res) : dk_fr [14, 106, 107, 109, 110, 111, 112, 113] S res := by
  have g0 : dk_fr [14, 106, 107, 109, 110, 111, 112, 113] S S := dk_fr.rf
  unfold B_Reader_readCompared_0 at hF
  obtain ⟨S7, gS7, hF⟩ := fr_cv g0 (fun _ h => hG _ _ _ h) (fun _ h => h) hF
  obtain ⟨r10, S9, gS9, hF⟩ := fr_c gS7 (fun _ h => fr_Reader_sees h) (by decide) hF
  rcases fr_if hF with hF | hF
  · exact gS9.tr (fb_Reader_readCompared_22 (n := n) (T := T) hG   hF)
  · obtain ⟨r12, S11, gS11, hF⟩ := fr_c gS9 (fun _ h => fr_Reader_sees h) (by decide) hF
    rcases fr_if hF with hF | hF
    · exact fr_rtv hF gS11
    · exact gS11.tr (fb_Reader_readCompared_22 (n := n) (T := T) hG   hF)
theorem frH_Reader_readCompared {n : Nat} {T : Nat} {G : Nat → dk_S → Option dk_S} (hG : ∀ (i : Nat) (S S2 : dk_S), G i S = some S2 → dk_fr [14, 106, 107, 109, 110, 111, 112, 113] S S2)  {S : dk_S} {res : dk_S}  (h : H_Reader_readCompared n T G  S = some res) : dk_fr [14, 106, 107, 109, 110, 111, 112, 113] S res := fb_Reader_readCompared_0 (n := n) (T := T) hG  h
theorem fb_Reader_readSum_47 {n : Nat} {T : Nat} {res : dk_S} {G : Nat → dk_S → Option dk_S} (hG : ∀ (i : Nat) (S S2 : dk_S), G i S = some S2 → dk_fr [14, 106, 107, 109, 110, 111, 112, 113] S S2) {k6 : Int32 → dk_S → Option dk_S} (hk6 : ∀ (x1 : Int32)  (S : dk_S), k6 x1 S = some res → dk_fr [14, 106, 107, 109, 110, 111, 112, 113] S res) {x1 : Int32} {u0 : Int32} {S : dk_S}  (hF : B_Reader_readSum_47 n T G k6 x1 u0 S = some res) : dk_fr [14, 106, 107, 109, 110, 111, 112, 113] S res := by
  have g0 : dk_fr [14, 106, 107, 109, 110, 111, 112, 113] S S := dk_fr.rf
  unfold B_Reader_readSum_47 at hF
  obtain ⟨S1, gS1, hF⟩ := fr_cv g0 (fun _ h => fr_Reader_scan h) (by decide) hF
  obtain ⟨S3, gS3, hF⟩ := fr_cv gS1 (fun _ h => hG _ _ _ h) (fun _ h => h) hF
  obtain ⟨S5, gS5, hF⟩ := fr_cv gS3 (fun _ h => fr_Reader_put h) (by decide) hF
  exact gS5.tr (hk6 (x1 + (1 : Int32)) S5 hF)
theorem fb_Reader_readSum_31 {n : Nat} {T : Nat} {res : dk_S} {G : Nat → dk_S → Option dk_S} (hG : ∀ (i : Nat) (S S2 : dk_S), G i S = some S2 → dk_fr [14, 106, 107, 109, 110, 111, 112, 113] S S2) {k6 : Int32 → dk_S → Option dk_S} (hk6 : ∀ (x1 : Int32)  (S : dk_S), k6 x1 S = some res → dk_fr [14, 106, 107, 109, 110, 111, 112, 113] S res) {x1 : Int32} {S : dk_S}  (hF : B_Reader_readSum_31 n T G k6 x1 S = some res) : dk_fr [14, 106, 107, 109, 110, 111, 112, 113] S res := by
  have g0 : dk_fr [14, 106, 107, 109, 110, 111, 112, 113] S S := dk_fr.rf
  unfold B_Reader_readSum_31 at hF
  rcases fr_if hF with hF | hF
  · exact g0.tr (fb_Reader_readSum_47 (n := n) (T := T) hG hk6  hF)
  · exact g0.tr (fb_Reader_readSum_47 (n := n) (T := T) hG hk6  hF)
theorem fb_Reader_readSum_6b {n : Nat} {T : Nat} {res : dk_S} {G : Nat → dk_S → Option dk_S} (hG : ∀ (i : Nat) (S S2 : dk_S), G i S = some S2 → dk_fr [14, 106, 107, 109, 110, 111, 112, 113] S S2) {k6 : Int32 → dk_S → Option dk_S} (hk6 : ∀ (x1 : Int32)  (S : dk_S), k6 x1 S = some res → dk_fr [14, 106, 107, 109, 110, 111, 112, 113] S res) {x1 : Int32} {S : dk_S}  (hF : B_Reader_readSum_6b n T G k6 x1 S = some res) : dk_fr [14, 106, 107, 109, 110, 111, 112, 113] S res := by
  have g0 : dk_fr [14, 106, 107, 109, 110, 111, 112, 113] S S := dk_fr.rf
  unfold B_Reader_readSum_6b at hF
  rcases fr_if hF with hF | hF
  · exact fr_rtv hF g0
  · obtain ⟨r8, S7, gS7, hF⟩ := fr_c g0 (fun _ h => fr_Reader_sees h) (by decide) hF
    rcases fr_if hF with hF | hF
    · exact gS7.tr (fb_Reader_readSum_31 (n := n) (T := T) hG hk6  hF)
    · obtain ⟨r10, S9, gS9, hF⟩ := fr_c gS7 (fun _ h => fr_Reader_sees h) (by decide) hF
      rcases fr_if hF with hF | hF
      · exact fr_rtv hF gS9
      · exact gS9.tr (fb_Reader_readSum_31 (n := n) (T := T) hG hk6  hF)
theorem fb_Reader_readSum_6 {n : Nat} {T : Nat} {res : dk_S} {G : Nat → dk_S → Option dk_S} (hG : ∀ (i : Nat) (S S2 : dk_S), G i S = some S2 → dk_fr [14, 106, 107, 109, 110, 111, 112, 113] S S2)  : ∀ (q : Nat) (x1 : Int32)  (S : dk_S), B_Reader_readSum_6 n T G  q x1 S = some res → dk_fr [14, 106, 107, 109, 110, 111, 112, 113] S res := by
  intro q
  induction q with
  | zero => intro x1  S hF; cases hF
  | succ q ih => intro x1  S hF; exact fb_Reader_readSum_6b (n := n) (T := T) hG ih  hF
theorem fb_Reader_readSum_0 {n : Nat} {T : Nat} {res : dk_S} {G : Nat → dk_S → Option dk_S} (hG : ∀ (i : Nat) (S S2 : dk_S), G i S = some S2 → dk_fr [14, 106, 107, 109, 110, 111, 112, 113] S S2)   {S : dk_S}  (hF : B_Reader_readSum_0 n T G   S = some res) : dk_fr [14, 106, 107, 109, 110, 111, 112, 113] S res := by
  have g0 : dk_fr [14, 106, 107, 109, 110, 111, 112, 113] S S := dk_fr.rf
  unfold B_Reader_readSum_0 at hF
  obtain ⟨S11, gS11, hF⟩ := fr_cv g0 (fun _ h => hG _ _ _ h) (fun _ h => h) hF
  exact gS11.tr (fb_Reader_readSum_6 (n := n) (T := T) hG  n (0 : Int32) S11 hF)
theorem frH_Reader_readSum {n : Nat} {T : Nat} {G : Nat → dk_S → Option dk_S} (hG : ∀ (i : Nat) (S S2 : dk_S), G i S = some S2 → dk_fr [14, 106, 107, 109, 110, 111, 112, 113] S S2)  {S : dk_S} {res : dk_S}  (h : H_Reader_readSum n T G  S = some res) : dk_fr [14, 106, 107, 109, 110, 111, 112, 113] S res := fb_Reader_readSum_0 (n := n) (T := T) hG  h
theorem fb_Reader_readTerm_6b {n : Nat} {T : Nat} {res : dk_S} {G : Nat → dk_S → Option dk_S} (hG : ∀ (i : Nat) (S S2 : dk_S), G i S = some S2 → dk_fr [14, 106, 107, 109, 110, 111, 112, 113] S S2) {k6 : Int32 → dk_S → Option dk_S} (hk6 : ∀ (x1 : Int32)  (S : dk_S), k6 x1 S = some res → dk_fr [14, 106, 107, 109, 110, 111, 112, 113] S res) {x1 : Int32} {S : dk_S}  (hF : B_Reader_readTerm_6b n T G k6 x1 S = some res) : dk_fr [14, 106, 107, 109, 110, 111, 112, 113] S res := by
  have g0 : dk_fr [14, 106, 107, 109, 110, 111, 112, 113] S S := dk_fr.rf
  unfold B_Reader_readTerm_6b at hF
  rcases fr_if hF with hF | hF
  · exact fr_rtv hF g0
  · obtain ⟨r2, S1, gS1, hF⟩ := fr_c g0 (fun _ h => fr_Reader_sees h) (by decide) hF
    rcases fr_if hF with hF | hF
    · exact fr_rtv hF gS1
    · obtain ⟨S3, gS3, hF⟩ := fr_cv gS1 (fun _ h => fr_Reader_scan h) (by decide) hF
      obtain ⟨S5, gS5, hF⟩ := fr_cv gS3 (fun _ h => hG _ _ _ h) (fun _ h => h) hF
      obtain ⟨S7, gS7, hF⟩ := fr_cv gS5 (fun _ h => fr_Reader_put h) (by decide) hF
      exact gS7.tr (hk6 (x1 + (1 : Int32)) S7 hF)
theorem fb_Reader_readTerm_6 {n : Nat} {T : Nat} {res : dk_S} {G : Nat → dk_S → Option dk_S} (hG : ∀ (i : Nat) (S S2 : dk_S), G i S = some S2 → dk_fr [14, 106, 107, 109, 110, 111, 112, 113] S S2)  : ∀ (q : Nat) (x1 : Int32)  (S : dk_S), B_Reader_readTerm_6 n T G  q x1 S = some res → dk_fr [14, 106, 107, 109, 110, 111, 112, 113] S res := by
  intro q
  induction q with
  | zero => intro x1  S hF; cases hF
  | succ q ih => intro x1  S hF; exact fb_Reader_readTerm_6b (n := n) (T := T) hG ih  hF
theorem fb_Reader_readTerm_0 {n : Nat} {T : Nat} {res : dk_S} {G : Nat → dk_S → Option dk_S} (hG : ∀ (i : Nat) (S S2 : dk_S), G i S = some S2 → dk_fr [14, 106, 107, 109, 110, 111, 112, 113] S S2)   {S : dk_S}  (hF : B_Reader_readTerm_0 n T G   S = some res) : dk_fr [14, 106, 107, 109, 110, 111, 112, 113] S res := by
  have g0 : dk_fr [14, 106, 107, 109, 110, 111, 112, 113] S S := dk_fr.rf
  unfold B_Reader_readTerm_0 at hF
  obtain ⟨S9, gS9, hF⟩ := fr_cv g0 (fun _ h => hG _ _ _ h) (fun _ h => h) hF
  exact gS9.tr (fb_Reader_readTerm_6 (n := n) (T := T) hG  n (0 : Int32) S9 hF)
theorem frH_Reader_readTerm {n : Nat} {T : Nat} {G : Nat → dk_S → Option dk_S} (hG : ∀ (i : Nat) (S S2 : dk_S), G i S = some S2 → dk_fr [14, 106, 107, 109, 110, 111, 112, 113] S S2)  {S : dk_S} {res : dk_S}  (h : H_Reader_readTerm n T G  S = some res) : dk_fr [14, 106, 107, 109, 110, 111, 112, 113] S res := fb_Reader_readTerm_0 (n := n) (T := T) hG  h
theorem fb_Reader_readOne_16 {n : Nat} {T : Nat} {res : dk_S} {G : Nat → dk_S → Option dk_S} (hG : ∀ (i : Nat) (S S2 : dk_S), G i S = some S2 → dk_fr [14, 106, 107, 109, 110, 111, 112, 113] S S2)   {S : dk_S}  (hF : B_Reader_readOne_16 n T G   S = some res) : dk_fr [14, 106, 107, 109, 110, 111, 112, 113] S res := by
  have g0 : dk_fr [14, 106, 107, 109, 110, 111, 112, 113] S S := dk_fr.rf
  unfold B_Reader_readOne_16 at hF
  obtain ⟨S1, gS1, hF⟩ := fr_cv g0 (fun _ h => fr_Reader_put h) (by decide) hF
  obtain ⟨S3, gS3, hF⟩ := fr_cv gS1 (fun _ h => fr_Reader_scan h) (by decide) hF
  exact fr_rtv hF gS3
theorem fb_Reader_readOne_0 {n : Nat} {T : Nat} {res : dk_S} {G : Nat → dk_S → Option dk_S} (hG : ∀ (i : Nat) (S S2 : dk_S), G i S = some S2 → dk_fr [14, 106, 107, 109, 110, 111, 112, 113] S S2)   {S : dk_S}  (hF : B_Reader_readOne_0 n T G   S = some res) : dk_fr [14, 106, 107, 109, 110, 111, 112, 113] S res := by
  have g0 : dk_fr [14, 106, 107, 109, 110, 111, 112, 113] S S := dk_fr.rf
  unfold B_Reader_readOne_0 at hF
  obtain ⟨r6, S5, gS5, hF⟩ := fr_c g0 (fun _ h => fr_Reader_sees h) (by decide) hF
  rcases fr_if hF with hF | hF
  · exact gS5.tr (fb_Reader_readOne_16 (n := n) (T := T) hG   hF)
  · obtain ⟨r8, S7, gS7, hF⟩ := fr_c gS5 (fun _ h => fr_Reader_sees h) (by decide) hF
    rcases fr_if hF with hF | hF
    · obtain ⟨r10, S9, gS9, hF⟩ := fr_c gS7 (fun _ h => fr_Reader_sees h) (by decide) hF
      rcases fr_if hF with hF | hF
      · obtain ⟨r12, S11, gS11, hF⟩ := fr_c gS9 (fun _ h => fr_Reader_sees h) (by decide) hF
        rcases fr_if hF with hF | hF
        · obtain ⟨S13, gS13, hF⟩ := fr_cv gS11 (fun _ h => fr_Reader_fail h) (by decide) hF
          exact fr_rtv hF gS13
        · obtain ⟨r16, S15, gS15, hF⟩ := fr_c gS11 (fun _ h => fr_Reader_opens h) (by decide) hF
          rcases fr_if hF with hF | hF
          · exact fr_rtv hF gS15
          · obtain ⟨S17, gS17, hF⟩ := fr_cv gS15 (fun _ h => hG _ _ _ h) (fun _ h => h) hF
            obtain ⟨S19, gS19, hF⟩ := fr_cv gS17 (fun _ h => fr_Reader_expect h) (by decide) hF
            obtain ⟨S21, gS21, hF⟩ := fr_p gS19 (by decide) hF
            exact fr_rtv hF gS21
      · obtain ⟨r23, S22, gS22, hF⟩ := fr_c gS9 (fun _ h => fr_Reader_opens h) (by decide) hF
        rcases fr_if hF with hF | hF
        · exact fr_rtv hF gS22
        · obtain ⟨S24, gS24, hF⟩ := fr_cv gS22 (fun _ h => hG _ _ _ h) (fun _ h => h) hF
          obtain ⟨S26, gS26, hF⟩ := fr_cv gS24 (fun _ h => fr_Reader_put h) (by decide) hF
          obtain ⟨S28, gS28, hF⟩ := fr_p gS26 (by decide) hF
          exact fr_rtv hF gS28
    · exact gS7.tr (fb_Reader_readOne_16 (n := n) (T := T) hG   hF)
theorem frH_Reader_readOne {n : Nat} {T : Nat} {G : Nat → dk_S → Option dk_S} (hG : ∀ (i : Nat) (S S2 : dk_S), G i S = some S2 → dk_fr [14, 106, 107, 109, 110, 111, 112, 113] S S2)  {S : dk_S} {res : dk_S}  (h : H_Reader_readOne n T G  S = some res) : dk_fr [14, 106, 107, 109, 110, 111, 112, 113] S res := fb_Reader_readOne_0 (n := n) (T := T) hG  h
theorem fr_G (n T : Nat) : ∀ (d i : Nat) (S S2 : dk_S), G_Reader n T d i S = some S2 → dk_fr [14, 106, 107, 109, 110, 111, 112, 113] S S2
  | 0, _, _, _ => fun h => by cases h
  | d + 1, i, S, S2 => fun h => by
    unfold G_Reader at h
    split at h
    · exact frH_Reader_readEither (fr_G n T d) h
    · exact frH_Reader_readBoth (fr_G n T d) h
    · exact frH_Reader_readNot (fr_G n T d) h
    · exact frH_Reader_readCompared (fr_G n T d) h
    · exact frH_Reader_readSum (fr_G n T d) h
    · exact frH_Reader_readTerm (fr_G n T d) h
    · exact frH_Reader_readOne (fr_G n T d) h
    · cases h
theorem fr_Reader_readEither {n T : Nat} {S : dk_S} {res : dk_S} (h : F_Reader_readEither n T S = some res) : dk_fr [14, 106, 107, 109, 110, 111, 112, 113] S res := fr_G n T 64 0 S res h
theorem fb_Reader_readText_0 {n : Nat} {T : Nat} {res : dk_S}   {S : dk_S}  (hF : B_Reader_readText_0 n T   S = some res) : dk_fr [14, 106, 107, 108, 109, 110, 111, 112, 113] S res := by
  have g0 : dk_fr [14, 106, 107, 108, 109, 110, 111, 112, 113] S S := dk_fr.rf
  unfold B_Reader_readText_0 at hF
  obtain ⟨S1, gS1, hF⟩ := fr_p g0 (by decide) hF
  obtain ⟨S2, gS2, hF⟩ := fr_p gS1 (by decide) hF
  obtain ⟨S3, gS3, hF⟩ := fr_p gS2 (by decide) hF
  obtain ⟨S4, gS4, hF⟩ := fr_p gS3 (by decide) hF
  obtain ⟨S5, gS5, hF⟩ := fr_cv gS4 (fun _ h => fr_Reader_scan h) (by decide) hF
  obtain ⟨S7, gS7, hF⟩ := fr_cv gS5 (fun _ h => fr_Reader_expect h) (by decide) hF
  obtain ⟨S9, gS9, hF⟩ := fr_cv gS7 (fun _ h => fr_Reader_readEither h) (by decide) hF
  obtain ⟨S11, gS11, hF⟩ := fr_cv gS9 (fun _ h => fr_Reader_expect h) (by decide) hF
  obtain ⟨S13, gS13, hF⟩ := fr_p gS11 (by decide) hF
  obtain ⟨S14, gS14, hF⟩ := fr_cv gS13 (fun _ h => fr_Reader_expect h) (by decide) hF
  obtain ⟨S16, gS16, hF⟩ := fr_cv gS14 (fun _ h => fr_Reader_readEither h) (by decide) hF
  obtain ⟨S18, gS18, hF⟩ := fr_cv gS16 (fun _ h => fr_Reader_expect h) (by decide) hF
  obtain ⟨S20, gS20, hF⟩ := fr_cv gS18 (fun _ h => fr_Reader_expect h) (by decide) hF
  exact fr_rtv hF gS20
theorem fr_Reader_readText {n : Nat} {T : Nat}  {S : dk_S} {res : dk_S}  (h : F_Reader_readText n T  S = some res) : dk_fr [14, 106, 107, 108, 109, 110, 111, 112, 113] S res := fb_Reader_readText_0 (n := n) (T := T)  h
