theorem fb_Model_in_0 {n : Nat} {res : (Int32 × dk_S)}  {x0 : Int32} {x1 : Int32} {x2 : Int32} {S : dk_S}  (hF : B_Model_in_0 n  x0 x1 x2 S = some res) : dk_fr [] S res.2 := by
  have g0 : dk_fr [] S S := dk_fr.rf
  unfold B_Model_in_0 at hF
  rcases fr_if hF with hF | hF
  · have hF := (dk_b_out hF).2
    exact fr_rt hF g0
  · rcases fr_if hF with hF | hF
    · have hF := (dk_b_out hF).2
      exact fr_rt hF g0
    · have hF := (dk_b_out hF).2
      exact fr_rt hF g0
theorem fr_Model_in {n : Nat} {x0 : Int32} {x1 : Int32} {x2 : Int32} {S : dk_S} {res : (Int32 × dk_S)}  (h : F_Model_in n x0 x1 x2 S = some res) : dk_fr [] S res.2 := fb_Model_in_0 (n := n)  h
theorem fb_Model_ground_0 {n : Nat} {res : (Int32 × dk_S)}  {x1 : Int32} {S : dk_S}  (hF : B_Model_ground_0 n  x1 S = some res) : dk_fr [0, 1] S res.2 := by
  have g0 : dk_fr [0, 1] S S := dk_fr.rf
  unfold B_Model_ground_0 at hF
  obtain ⟨r2, S1, gS1, hF⟩ := fr_c g0 (fun _ h => fr_Model_in h) (by decide) hF
  rcases fr_if hF with hF | hF
  · rcases fr_if hF with hF | hF
    · obtain ⟨S3, gS3, hF⟩ := fr_w gS1 (by decide) hF
      obtain ⟨S4, gS4, hF⟩ := fr_p gS3 (by decide) hF
      exact fr_rt hF gS4
    · exact fr_rt hF gS1
  · exact fr_rt hF gS1
theorem fr_Model_ground {n : Nat} {x1 : Int32} {S : dk_S} {res : (Int32 × dk_S)}  (h : F_Model_ground n x1 S = some res) : dk_fr [0, 1] S res.2 := fb_Model_ground_0 (n := n)  h
theorem fb_Model_isGround_0 {n : Nat} {res : (Int32 × dk_S)}  {x1 : Int32} {S : dk_S}  (hF : B_Model_isGround_0 n  x1 S = some res) : dk_fr [] S res.2 := by
  have g0 : dk_fr [] S S := dk_fr.rf
  unfold B_Model_isGround_0 at hF
  obtain ⟨r2, S1, gS1, hF⟩ := fr_c g0 (fun _ h => fr_Model_in h) (by decide) hF
  have hF := (dk_b_out hF).2
  exact fr_rt hF gS1
theorem fr_Model_isGround {n : Nat} {x1 : Int32} {S : dk_S} {res : (Int32 × dk_S)}  (h : F_Model_isGround n x1 S = some res) : dk_fr [] S res.2 := fb_Model_isGround_0 (n := n)  h
theorem fb_Model_owns_0 {n : Nat} {res : (Int32 × dk_S)}  {x1 : Int32} {x2 : Int32} {S : dk_S}  (hF : B_Model_owns_0 n  x1 x2 S = some res) : dk_fr [1] S res.2 := by
  have g0 : dk_fr [1] S S := dk_fr.rf
  unfold B_Model_owns_0 at hF
  obtain ⟨r2, S1, gS1, hF⟩ := fr_c g0 (fun _ h => fr_Model_isGround h) (by decide) hF
  rcases fr_if hF with hF | hF
  · obtain ⟨r4, S3, gS3, hF⟩ := fr_c gS1 (fun _ h => fr_Model_in h) (by decide) hF
    rcases fr_if hF with hF | hF
    · obtain ⟨v5, hF⟩ := fr_r hF
      obtain ⟨S6, gS6, hF⟩ := fr_w gS3 (by decide) hF
      exact fr_rt hF gS6
    · exact fr_rt hF gS3
  · exact fr_rt hF gS1
theorem fr_Model_owns {n : Nat} {x1 : Int32} {x2 : Int32} {S : dk_S} {res : (Int32 × dk_S)}  (h : F_Model_owns n x1 x2 S = some res) : dk_fr [1] S res.2 := fb_Model_owns_0 (n := n)  h
theorem fb_Model_beast_0 {n : Nat} {res : (Int32 × dk_S)}  {x1 : Int32} {x2 : Int32} {S : dk_S}  (hF : B_Model_beast_0 n  x1 x2 S = some res) : dk_fr [2, 3, 4] S res.2 := by
  have g0 : dk_fr [2, 3, 4] S S := dk_fr.rf
  unfold B_Model_beast_0 at hF
  obtain ⟨r2, S1, gS1, hF⟩ := fr_c g0 (fun _ h => fr_Model_isGround h) (by decide) hF
  rcases fr_if hF with hF | hF
  · obtain ⟨r4, S3, gS3, hF⟩ := fr_c gS1 (fun _ h => fr_Model_in h) (by decide) hF
    rcases fr_if hF with hF | hF
    · rcases fr_if hF with hF | hF
      · obtain ⟨S5, gS5, hF⟩ := fr_w gS3 (by decide) hF
        obtain ⟨S6, gS6, hF⟩ := fr_w gS5 (by decide) hF
        obtain ⟨S7, gS7, hF⟩ := fr_p gS6 (by decide) hF
        exact fr_rt hF gS7
      · exact fr_rt hF gS3
    · exact fr_rt hF gS3
  · exact fr_rt hF gS1
theorem fr_Model_beast {n : Nat} {x1 : Int32} {x2 : Int32} {S : dk_S} {res : (Int32 × dk_S)}  (h : F_Model_beast n x1 x2 S = some res) : dk_fr [2, 3, 4] S res.2 := fb_Model_beast_0 (n := n)  h
theorem fb_Model_isBeast_0 {n : Nat} {res : (Int32 × dk_S)}  {x1 : Int32} {S : dk_S}  (hF : B_Model_isBeast_0 n  x1 S = some res) : dk_fr [] S res.2 := by
  have g0 : dk_fr [] S S := dk_fr.rf
  unfold B_Model_isBeast_0 at hF
  obtain ⟨r2, S1, gS1, hF⟩ := fr_c g0 (fun _ h => fr_Model_in h) (by decide) hF
  have hF := (dk_b_out hF).2
  exact fr_rt hF gS1
theorem fr_Model_isBeast {n : Nat} {x1 : Int32} {S : dk_S} {res : (Int32 × dk_S)}  (h : F_Model_isBeast n x1 S = some res) : dk_fr [] S res.2 := fb_Model_isBeast_0 (n := n)  h
theorem fb_Model_moment_86 {n : Nat} {res : (Int32 × dk_S)}  {x1 : Int32} {x2 : Int32} {x3 : Int32} {x4 : Int32} {x5 : Int32} {u0 : Int32} {u1 : Int32} {u2 : Int32} {S : dk_S}  (hF : B_Model_moment_86 n  x1 x2 x3 x4 x5 u0 u1 u2 S = some res) : dk_fr [5, 6, 7, 8, 9, 10, 11] S res.2 := by
  have g0 : dk_fr [5, 6, 7, 8, 9, 10, 11] S S := dk_fr.rf
  unfold B_Model_moment_86 at hF
  obtain ⟨r2, S1, gS1, hF⟩ := fr_c g0 (fun _ h => fr_Model_in h) (by decide) hF
  rcases fr_if hF with hF | hF
  · rcases fr_if hF with hF | hF
    · obtain ⟨S3, gS3, hF⟩ := fr_w gS1 (by decide) hF
      obtain ⟨S4, gS4, hF⟩ := fr_w gS3 (by decide) hF
      obtain ⟨S5, gS5, hF⟩ := fr_w gS4 (by decide) hF
      obtain ⟨S6, gS6, hF⟩ := fr_w gS5 (by decide) hF
      obtain ⟨S7, gS7, hF⟩ := fr_w gS6 (by decide) hF
      obtain ⟨S8, gS8, hF⟩ := fr_w gS7 (by decide) hF
      obtain ⟨S9, gS9, hF⟩ := fr_p gS8 (by decide) hF
      exact fr_rt hF gS9
    · exact fr_rt hF gS1
  · exact fr_rt hF gS1
theorem fb_Model_moment_32 {n : Nat} {res : (Int32 × dk_S)}  {x1 : Int32} {x2 : Int32} {x3 : Int32} {x4 : Int32} {x5 : Int32} {u0 : Int32} {S : dk_S}  (hF : B_Model_moment_32 n  x1 x2 x3 x4 x5 u0 S = some res) : dk_fr [5, 6, 7, 8, 9, 10, 11] S res.2 := by
  have g0 : dk_fr [5, 6, 7, 8, 9, 10, 11] S S := dk_fr.rf
  unfold B_Model_moment_32 at hF
  obtain ⟨r11, S10, gS10, hF⟩ := fr_c g0 (fun _ h => fr_Model_in h) (by decide) hF
  rcases fr_if hF with hF | hF
  · exact fr_rt hF gS10
  · obtain ⟨r13, S12, gS12, hF⟩ := fr_c gS10 (fun _ h => fr_Model_in h) (by decide) hF
    rcases fr_if hF with hF | hF
    · exact fr_rt hF gS12
    · obtain ⟨r15, S14, gS14, hF⟩ := fr_c gS12 (fun _ h => fr_Model_in h) (by decide) hF
      rcases fr_if hF with hF | hF
      · exact fr_rt hF gS14
      · rcases fr_if hF with hF | hF
        · exact gS14.tr (fb_Model_moment_86 (n := n)   hF)
        · exact gS14.tr (fb_Model_moment_86 (n := n)   hF)
theorem fb_Model_moment_0 {n : Nat} {res : (Int32 × dk_S)}  {x1 : Int32} {x2 : Int32} {x3 : Int32} {x4 : Int32} {x5 : Int32} {S : dk_S}  (hF : B_Model_moment_0 n  x1 x2 x3 x4 x5 S = some res) : dk_fr [5, 6, 7, 8, 9, 10, 11] S res.2 := by
  have g0 : dk_fr [5, 6, 7, 8, 9, 10, 11] S S := dk_fr.rf
  unfold B_Model_moment_0 at hF
  obtain ⟨r17, S16, gS16, hF⟩ := fr_c g0 (fun _ h => fr_Model_isBeast h) (by decide) hF
  rcases fr_if hF with hF | hF
  · rcases fr_if hF with hF | hF
    · obtain ⟨v18, hF⟩ := fr_r hF
      exact gS16.tr (fb_Model_moment_32 (n := n)   hF)
    · exact gS16.tr (fb_Model_moment_32 (n := n)   hF)
  · exact fr_rt hF gS16
theorem fr_Model_moment {n : Nat} {x1 : Int32} {x2 : Int32} {x3 : Int32} {x4 : Int32} {x5 : Int32} {S : dk_S} {res : (Int32 × dk_S)}  (h : F_Model_moment n x1 x2 x3 x4 x5 S = some res) : dk_fr [5, 6, 7, 8, 9, 10, 11] S res.2 := fb_Model_moment_0 (n := n)  h
theorem fb_Model_undo_0 {n : Nat} {res : (Int32 × dk_S)}   {S : dk_S}  (hF : B_Model_undo_0 n   S = some res) : dk_fr [5, 11] S res.2 := by
  have g0 : dk_fr [5, 11] S S := dk_fr.rf
  unfold B_Model_undo_0 at hF
  rcases fr_if hF with hF | hF
  · obtain ⟨S1, gS1, hF⟩ := fr_p g0 (by decide) hF
    obtain ⟨S2, gS2, hF⟩ := fr_w gS1 (by decide) hF
    obtain ⟨v3, hF⟩ := fr_r hF
    exact fr_rt hF gS2
  · exact fr_rt hF g0
theorem fr_Model_undo {n : Nat}  {S : dk_S} {res : (Int32 × dk_S)}  (h : F_Model_undo n  S = some res) : dk_fr [5, 11] S res.2 := fb_Model_undo_0 (n := n)  h
theorem fb_Model_isMoment_0 {n : Nat} {res : (Int32 × dk_S)}  {x1 : Int32} {S : dk_S}  (hF : B_Model_isMoment_0 n  x1 S = some res) : dk_fr [] S res.2 := by
  have g0 : dk_fr [] S S := dk_fr.rf
  unfold B_Model_isMoment_0 at hF
  obtain ⟨r2, S1, gS1, hF⟩ := fr_c g0 (fun _ h => fr_Model_in h) (by decide) hF
  have hF := (dk_b_out hF).2
  exact fr_rt hF gS1
theorem fr_Model_isMoment {n : Nat} {x1 : Int32} {S : dk_S} {res : (Int32 × dk_S)}  (h : F_Model_isMoment n x1 S = some res) : dk_fr [] S res.2 := fb_Model_isMoment_0 (n := n)  h
theorem fb_Model_unsureMany_4b {n : Nat} {res : (Int32 × dk_S)} {k4 : Int32 → Int32 → dk_S → Option (Int32 × dk_S)} (hk4 : ∀ (x1 : Int32) (x2 : Int32)  (S : dk_S), k4 x1 x2 S = some res → dk_fr [] S res.2) {x1 : Int32} {x2 : Int32} {S : dk_S}  (hF : B_Model_unsureMany_4b n k4 x1 x2 S = some res) : dk_fr [] S res.2 := by
  have g0 : dk_fr [] S S := dk_fr.rf
  unfold B_Model_unsureMany_4b at hF
  rcases fr_if hF with hF | hF
  · exact fr_rt hF g0
  · obtain ⟨v1, hF⟩ := fr_r hF
    exact g0.tr (hk4 (x1 + v1) (x2 + (1 : Int32)) S hF)
theorem fb_Model_unsureMany_4 {n : Nat} {res : (Int32 × dk_S)}  : ∀ (q : Nat) (x1 : Int32) (x2 : Int32)  (S : dk_S), B_Model_unsureMany_4 n  q x1 x2 S = some res → dk_fr [] S res.2 := by
  intro q
  induction q with
  | zero => intro x1 x2  S hF; cases hF
  | succ q ih => intro x1 x2  S hF; exact fb_Model_unsureMany_4b (n := n) ih  hF
theorem fb_Model_unsureMany_0 {n : Nat} {res : (Int32 × dk_S)}   {S : dk_S}  (hF : B_Model_unsureMany_0 n   S = some res) : dk_fr [] S res.2 := by
  have g0 : dk_fr [] S S := dk_fr.rf
  unfold B_Model_unsureMany_0 at hF
  exact g0.tr (fb_Model_unsureMany_4 (n := n)  n (0 : Int32) (0 : Int32) S hF)
theorem fr_Model_unsureMany {n : Nat}  {S : dk_S} {res : (Int32 × dk_S)}  (h : F_Model_unsureMany n  S = some res) : dk_fr [] S res.2 := fb_Model_unsureMany_0 (n := n)  h
theorem fb_Model_unsure_48 {n : Nat} {res : (Int32 × dk_S)}  {x1 : Int32} {x2 : Int32} {S : dk_S}  (hF : B_Model_unsure_48 n  x1 x2 S = some res) : dk_fr [11] S res.2 := by
  have g0 : dk_fr [11] S S := dk_fr.rf
  unfold B_Model_unsure_48 at hF
  obtain ⟨v1, hF⟩ := fr_r hF
  obtain ⟨S2, gS2, hF⟩ := fr_w g0 (by decide) hF
  exact fr_rt hF gS2
theorem fb_Model_unsure_0 {n : Nat} {res : (Int32 × dk_S)}  {x1 : Int32} {x2 : Int32} {S : dk_S}  (hF : B_Model_unsure_0 n  x1 x2 S = some res) : dk_fr [11] S res.2 := by
  have g0 : dk_fr [11] S S := dk_fr.rf
  unfold B_Model_unsure_0 at hF
  obtain ⟨r4, S3, gS3, hF⟩ := fr_c g0 (fun _ h => fr_Model_isMoment h) (by decide) hF
  rcases fr_if hF with hF | hF
  · obtain ⟨r6, S5, gS5, hF⟩ := fr_c gS3 (fun _ h => fr_Model_in h) (by decide) hF
    rcases fr_if hF with hF | hF
    · rcases fr_if hF with hF | hF
      · exact gS5.tr (fb_Model_unsure_48 (n := n)   hF)
      · obtain ⟨v7, hF⟩ := fr_r hF
        rcases fr_if hF with hF | hF
        · exact gS5.tr (fb_Model_unsure_48 (n := n)   hF)
        · obtain ⟨r9, S8, gS8, hF⟩ := fr_c gS5 (fun _ h => fr_Model_unsureMany h) (by decide) hF
          rcases fr_if hF with hF | hF
          · exact gS8.tr (fb_Model_unsure_48 (n := n)   hF)
          · exact fr_rt hF gS8
    · exact fr_rt hF gS5
  · exact fr_rt hF gS3
theorem fr_Model_unsure {n : Nat} {x1 : Int32} {x2 : Int32} {S : dk_S} {res : (Int32 × dk_S)}  (h : F_Model_unsure n x1 x2 S = some res) : dk_fr [11] S res.2 := fb_Model_unsure_0 (n := n)  h
theorem fb_Model_momentTold_0 {n : Nat} {res : (Int32 × dk_S)}  {x1 : Int32} {x2 : Int32} {S : dk_S}  (hF : B_Model_momentTold_0 n  x1 x2 S = some res) : dk_fr [] S res.2 := by
  have g0 : dk_fr [] S S := dk_fr.rf
  unfold B_Model_momentTold_0 at hF
  obtain ⟨r2, S1, gS1, hF⟩ := fr_c g0 (fun _ h => fr_Model_isMoment h) (by decide) hF
  rcases fr_if hF with hF | hF
  · rcases fr_if hF with hF | hF
    · obtain ⟨v3, hF⟩ := fr_r hF
      exact fr_rt hF gS1
    · rcases fr_if hF with hF | hF
      · obtain ⟨v4, hF⟩ := fr_r hF
        exact fr_rt hF gS1
      · rcases fr_if hF with hF | hF
        · obtain ⟨v5, hF⟩ := fr_r hF
          exact fr_rt hF gS1
        · rcases fr_if hF with hF | hF
          · obtain ⟨v6, hF⟩ := fr_r hF
            exact fr_rt hF gS1
          · rcases fr_if hF with hF | hF
            · obtain ⟨v7, hF⟩ := fr_r hF
              exact fr_rt hF gS1
            · rcases fr_if hF with hF | hF
              · obtain ⟨v8, hF⟩ := fr_r hF
                exact fr_rt hF gS1
              · exact fr_rt hF gS1
  · exact fr_rt hF gS1
theorem fr_Model_momentTold {n : Nat} {x1 : Int32} {x2 : Int32} {S : dk_S} {res : (Int32 × dk_S)}  (h : F_Model_momentTold n x1 x2 S = some res) : dk_fr [] S res.2 := fb_Model_momentTold_0 (n := n)  h
theorem fb_Model_feed_33b {n : Nat} {res : (Int32 × dk_S)} {k33 : Int64 → Int32 → dk_S → Option (Int32 × dk_S)} (hk33 : ∀ (x1 : Int64) (x4 : Int32)  (S : dk_S), k33 x1 x4 S = some res → dk_fr [12, 13] S res.2) {x1 : Int64} {x4 : Int32} {S : dk_S}  (hF : B_Model_feed_33b n k33 x1 x4 S = some res) : dk_fr [12, 13] S res.2 := by
  have g0 : dk_fr [12, 13] S S := dk_fr.rf
  unfold B_Model_feed_33b at hF
  rcases fr_if hF with hF | hF
  · exact fr_rt hF g0
  · obtain ⟨S1, gS1, hF⟩ := fr_w g0 (by decide) hF
    obtain ⟨S2, gS2, hF⟩ := fr_p gS1 (by decide) hF
    exact gS2.tr (hk33 x1 (x4 + (-1 : Int32)) S2 hF)
theorem fb_Model_feed_33 {n : Nat} {res : (Int32 × dk_S)}  : ∀ (q : Nat) (x1 : Int64) (x4 : Int32)  (S : dk_S), B_Model_feed_33 n  q x1 x4 S = some res → dk_fr [12, 13] S res.2 := by
  intro q
  induction q with
  | zero => intro x1 x4  S hF; cases hF
  | succ q ih => intro x1 x4  S hF; exact fb_Model_feed_33b (n := n) ih  hF
theorem fb_Model_feed_0 {n : Nat} {res : (Int32 × dk_S)}  {x1 : Int64} {x3 : Int32} {S : dk_S}  (hF : B_Model_feed_0 n  x1 x3 S = some res) : dk_fr [12, 13] S res.2 := by
  have g0 : dk_fr [12, 13] S S := dk_fr.rf
  unfold B_Model_feed_0 at hF
  obtain ⟨r4, S3, gS3, hF⟩ := fr_c g0 (fun _ h => fr_Model_in h) (by decide) hF
  rcases fr_if hF with hF | hF
  · rcases fr_if hF with hF | hF
    · exact gS3.tr (fb_Model_feed_33 (n := n)  n x1 (x3 - (1 : Int32)) S3 hF)
    · exact fr_rt hF gS3
  · exact fr_rt hF gS3
theorem fr_Model_feed {n : Nat} {x1 : Int64} {x3 : Int32} {S : dk_S} {res : (Int32 × dk_S)}  (h : F_Model_feed n x1 x3 S = some res) : dk_fr [12, 13] S res.2 := fb_Model_feed_0 (n := n)  h
theorem fb_Model_holds_0 {n : Nat} {res : dk_S}  {x1 : Int32} {S : dk_S}  (hF : B_Model_holds_0 n  x1 S = some res) : dk_fr [45, 46] S res := by
  have g0 : dk_fr [45, 46] S S := dk_fr.rf
  unfold B_Model_holds_0 at hF
  obtain ⟨S1, gS1, hF⟩ := fr_w g0 (by decide) hF
  obtain ⟨S2, gS2, hF⟩ := fr_p gS1 (by decide) hF
  exact fr_rtv hF gS2
theorem fr_Model_holds {n : Nat} {x1 : Int32} {S : dk_S} {res : dk_S}  (h : F_Model_holds n x1 S = some res) : dk_fr [45, 46] S res := fb_Model_holds_0 (n := n)  h
theorem fb_Model_rank_0 {n : Nat} {res : (Int32 × dk_S)}  {x0 : Int32} {S : dk_S}  (hF : B_Model_rank_0 n  x0 S = some res) : dk_fr [] S res.2 := by
  have g0 : dk_fr [] S S := dk_fr.rf
  unfold B_Model_rank_0 at hF
  rcases fr_if hF with hF | hF
  · rcases fr_if hF with hF | hF
    · rcases fr_if hF with hF | hF
      · rcases fr_if hF with hF | hF
        · rcases fr_if hF with hF | hF
          · rcases fr_if hF with hF | hF
            · rcases fr_if hF with hF | hF
              · exact fr_rt hF g0
              · exact fr_rt hF g0
            · exact fr_rt hF g0
          · exact fr_rt hF g0
        · exact fr_rt hF g0
      · exact fr_rt hF g0
    · exact fr_rt hF g0
  · exact fr_rt hF g0
theorem fr_Model_rank {n : Nat} {x0 : Int32} {S : dk_S} {res : (Int32 × dk_S)}  (h : F_Model_rank n x0 S = some res) : dk_fr [] S res.2 := fb_Model_rank_0 (n := n)  h
theorem fb_Model_puts_0 {n : Nat} {res : dk_S}  {x1 : Int32} {S : dk_S}  (hF : B_Model_puts_0 n  x1 S = some res) : dk_fr [14, 48] S res := by
  have g0 : dk_fr [14, 48] S S := dk_fr.rf
  unfold B_Model_puts_0 at hF
  obtain ⟨S1, gS1, hF⟩ := fr_w g0 (by decide) hF
  obtain ⟨S2, gS2, hF⟩ := fr_p gS1 (by decide) hF
  exact fr_rtv hF gS2
theorem fr_Model_puts {n : Nat} {x1 : Int32} {S : dk_S} {res : dk_S}  (h : F_Model_puts n x1 S = some res) : dk_fr [14, 48] S res := fb_Model_puts_0 (n := n)  h
theorem fb_Model_unwinds_67 {n : Nat} {res : dk_S} {k0 : Int32 → dk_S → Option dk_S} (hk0 : ∀ (x1 : Int32)  (S : dk_S), k0 x1 S = some res → dk_fr [14, 46, 47, 48] S res) {x1 : Int32} {x2 : Int32} {u1 : Int32} {u2 : Int32} {S : dk_S}  (hF : B_Model_unwinds_67 n k0 x1 x2 u1 u2 S = some res) : dk_fr [14, 46, 47, 48] S res := by
  have g0 : dk_fr [14, 46, 47, 48] S S := dk_fr.rf
  unfold B_Model_unwinds_67 at hF
  obtain ⟨S1, gS1, hF⟩ := fr_p g0 (by decide) hF
  obtain ⟨S2, gS2, hF⟩ := fr_cv gS1 (fun _ h => fr_Model_puts h) (by decide) hF
  exact gS2.tr (hk0 x1 S2 hF)
theorem fb_Model_unwinds_62 {n : Nat} {res : dk_S} {k0 : Int32 → dk_S → Option dk_S} (hk0 : ∀ (x1 : Int32)  (S : dk_S), k0 x1 S = some res → dk_fr [14, 46, 47, 48] S res) {x1 : Int32} {x2 : Int32} {u1 : Int32} {S : dk_S}  (hF : B_Model_unwinds_62 n k0 x1 x2 u1 S = some res) : dk_fr [14, 46, 47, 48] S res := by
  have g0 : dk_fr [14, 46, 47, 48] S S := dk_fr.rf
  unfold B_Model_unwinds_62 at hF
  exact g0.tr (fb_Model_unwinds_67 (n := n) hk0  hF)
theorem fb_Model_unwinds_0b {n : Nat} {res : dk_S} {k0 : Int32 → dk_S → Option dk_S} (hk0 : ∀ (x1 : Int32)  (S : dk_S), k0 x1 S = some res → dk_fr [14, 46, 47, 48] S res) {x1 : Int32} {S : dk_S}  (hF : B_Model_unwinds_0b n k0 x1 S = some res) : dk_fr [14, 46, 47, 48] S res := by
  have g0 : dk_fr [14, 46, 47, 48] S S := dk_fr.rf
  unfold B_Model_unwinds_0b at hF
  rcases fr_if hF with hF | hF
  · exact fr_rtv hF g0
  · obtain ⟨v4, hF⟩ := fr_r hF
    obtain ⟨r6, S5, gS5, hF⟩ := fr_c g0 (fun _ h => fr_Model_rank h) (by decide) hF
    rcases fr_if hF with hF | hF
    · exact fr_rtv hF gS5
    · obtain ⟨S7, gS7, hF⟩ := fr_p gS5 (by decide) hF
      obtain ⟨v8, hF⟩ := fr_r hF
      rcases fr_if hF with hF | hF
      · exact gS7.tr (fb_Model_unwinds_62 (n := n) hk0  hF)
      · rcases fr_if hF with hF | hF
        · exact gS7.tr (fb_Model_unwinds_67 (n := n) hk0  hF)
        · exact gS7.tr (fb_Model_unwinds_62 (n := n) hk0  hF)
theorem fb_Model_unwinds_0 {n : Nat} {res : dk_S}  : ∀ (q : Nat) (x1 : Int32)  (S : dk_S), B_Model_unwinds_0 n  q x1 S = some res → dk_fr [14, 46, 47, 48] S res := by
  intro q
  induction q with
  | zero => intro x1  S hF; cases hF
  | succ q ih => intro x1  S hF; exact fb_Model_unwinds_0b (n := n) ih  hF
theorem fr_Model_unwinds {n : Nat} {x1 : Int32} {S : dk_S} {res : dk_S}  (h : F_Model_unwinds n x1 S = some res) : dk_fr [14, 46, 47, 48] S res := fb_Model_unwinds_0 (n := n) n x1  S h
theorem fb_Model_between_55 {n : Nat} {res : (Int32 × dk_S)}  {x1 : Int32} {S : dk_S}  (hF : B_Model_between_55 n  x1 S = some res) : dk_fr [14, 45, 46, 47, 48] S res.2 := by
  have g0 : dk_fr [14, 45, 46, 47, 48] S S := dk_fr.rf
  unfold B_Model_between_55 at hF
  obtain ⟨S1, gS1, hF⟩ := fr_cv g0 (fun _ h => fr_Model_holds h) (by decide) hF
  have hF := (dk_b_out hF).2
  exact fr_rt hF gS1
theorem fb_Model_between_17 {n : Nat} {res : (Int32 × dk_S)}  {x1 : Int32} {u1 : Int32} {S : dk_S}  (hF : B_Model_between_17 n  x1 u1 S = some res) : dk_fr [14, 45, 46, 47, 48] S res.2 := by
  have g0 : dk_fr [14, 45, 46, 47, 48] S S := dk_fr.rf
  unfold B_Model_between_17 at hF
  obtain ⟨S3, gS3, hF⟩ := fr_cv g0 (fun _ h => fr_Model_unwinds h) (by decide) hF
  obtain ⟨r6, S5, gS5, hF⟩ := fr_c gS3 (fun _ h => fr_Model_rank h) (by decide) hF
  rcases fr_if hF with hF | hF
  · exact gS5.tr (fb_Model_between_55 (n := n)   hF)
  · rcases fr_if hF with hF | hF
    · exact gS5.tr (fb_Model_between_55 (n := n)   hF)
    · obtain ⟨v7, hF⟩ := fr_r hF
      obtain ⟨r9, S8, gS8, hF⟩ := fr_c gS5 (fun _ h => fr_Model_rank h) (by decide) hF
      rcases fr_if hF with hF | hF
      · exact gS8.tr (fb_Model_between_55 (n := n)   hF)
      · have hF := (dk_b_out hF).2
        exact fr_rt hF gS8
theorem fb_Model_between_0 {n : Nat} {res : (Int32 × dk_S)}  {x1 : Int32} {S : dk_S}  (hF : B_Model_between_0 n  x1 S = some res) : dk_fr [14, 45, 46, 47, 48] S res.2 := by
  have g0 : dk_fr [14, 45, 46, 47, 48] S S := dk_fr.rf
  unfold B_Model_between_0 at hF
  obtain ⟨r11, S10, gS10, hF⟩ := fr_c g0 (fun _ h => fr_Model_rank h) (by decide) hF
  rcases fr_if hF with hF | hF
  · obtain ⟨r13, S12, gS12, hF⟩ := fr_c gS10 (fun _ h => fr_Model_rank h) (by decide) hF
    exact gS12.tr (fb_Model_between_17 (n := n)   hF)
  · exact gS10.tr (fb_Model_between_17 (n := n)   hF)
theorem fr_Model_between {n : Nat} {x1 : Int32} {S : dk_S} {res : (Int32 × dk_S)}  (h : F_Model_between n x1 S = some res) : dk_fr [14, 45, 46, 47, 48] S res.2 := fb_Model_between_0 (n := n)  h
theorem fb_Model_letters_59 {n : Nat} {res : (Int64 × dk_S)} {k4 : Int64 → Int32 → dk_S → Option (Int64 × dk_S)} (hk4 : ∀ (x1 : Int64) (x3 : Int32)  (S : dk_S), k4 x1 x3 S = some res → dk_fr [40] S res.2) {x3 : Int32} {u0 : Int64} {S : dk_S}  (hF : B_Model_letters_59 n k4 x3 u0 S = some res) : dk_fr [40] S res.2 := by
  have g0 : dk_fr [40] S S := dk_fr.rf
  unfold B_Model_letters_59 at hF
  obtain ⟨S1, gS1, hF⟩ := fr_p g0 (by decide) hF
  exact gS1.tr (hk4 u0 (x3 + (1 : Int32)) S1 hF)
theorem fb_Model_letters_76 {n : Nat} {res : (Int64 × dk_S)}  {x1 : Int64} {x3 : Int32} {S : dk_S}  (hF : B_Model_letters_76 n  x1 x3 S = some res) : dk_fr [40] S res.2 := by
  have g0 : dk_fr [40] S S := dk_fr.rf
  unfold B_Model_letters_76 at hF
  rcases fr_if hF with hF | hF
  · exact fr_rt hF g0
  · exact fr_rt hF g0
theorem fb_Model_letters_4b {n : Nat} {res : (Int64 × dk_S)} {k4 : Int64 → Int32 → dk_S → Option (Int64 × dk_S)} (hk4 : ∀ (x1 : Int64) (x3 : Int32)  (S : dk_S), k4 x1 x3 S = some res → dk_fr [40] S res.2) {x1 : Int64} {x3 : Int32} {S : dk_S}  (hF : B_Model_letters_4b n k4 x1 x3 S = some res) : dk_fr [40] S res.2 := by
  have g0 : dk_fr [40] S S := dk_fr.rf
  unfold B_Model_letters_4b at hF
  rcases fr_if hF with hF | hF
  · exact g0.tr (fb_Model_letters_76 (n := n)   hF)
  · obtain ⟨v2, hF⟩ := fr_r hF
    obtain ⟨r4, S3, gS3, hF⟩ := fr_c g0 (fun _ h => fr_Model_in h) (by decide) hF
    rcases fr_if hF with hF | hF
    · exact gS3.tr (fb_Model_letters_76 (n := n)   hF)
    · rcases fr_if hF with hF | hF
      · exact gS3.tr (fb_Model_letters_59 (n := n) hk4  hF)
      · obtain ⟨v5, hF⟩ := fr_r hF
        exact gS3.tr (fb_Model_letters_59 (n := n) hk4  hF)
theorem fb_Model_letters_4 {n : Nat} {res : (Int64 × dk_S)}  : ∀ (q : Nat) (x1 : Int64) (x3 : Int32)  (S : dk_S), B_Model_letters_4 n  q x1 x3 S = some res → dk_fr [40] S res.2 := by
  intro q
  induction q with
  | zero => intro x1 x3  S hF; cases hF
  | succ q ih => intro x1 x3  S hF; exact fb_Model_letters_4b (n := n) ih  hF
theorem fb_Model_letters_0 {n : Nat} {res : (Int64 × dk_S)}   {S : dk_S}  (hF : B_Model_letters_0 n   S = some res) : dk_fr [40] S res.2 := by
  have g0 : dk_fr [40] S S := dk_fr.rf
  unfold B_Model_letters_0 at hF
  exact g0.tr (fb_Model_letters_4 (n := n)  n (0 : Int64) (0 : Int32) S hF)
theorem fr_Model_letters {n : Nat}  {S : dk_S} {res : (Int64 × dk_S)}  (h : F_Model_letters n  S = some res) : dk_fr [40] S res.2 := fb_Model_letters_0 (n := n)  h
theorem fb_Model_next_39 {n : Nat} {res : dk_S} {k0 : dk_S → Option dk_S} (hk0 : ∀   (S : dk_S), k0  S = some res → dk_fr [40, 41, 42, 43] S res)  {S : dk_S}  (hF : B_Model_next_39 n k0  S = some res) : dk_fr [40, 41, 42, 43] S res := by
  have g0 : dk_fr [40, 41, 42, 43] S S := dk_fr.rf
  unfold B_Model_next_39 at hF
  obtain ⟨S1, gS1, hF⟩ := fr_p g0 (by decide) hF
  exact gS1.tr (hk0 S1 hF)
theorem fb_Model_next_195 {n : Nat} {res : dk_S}  {u1 : Int32} {S : dk_S}  (hF : B_Model_next_195 n  u1 S = some res) : dk_fr [40, 41, 42, 43] S res := by
  have g0 : dk_fr [40, 41, 42, 43] S S := dk_fr.rf
  unfold B_Model_next_195 at hF
  obtain ⟨S2, gS2, hF⟩ := fr_p g0 (by decide) hF
  exact fr_rtv hF gS2
theorem fb_Model_next_176 {n : Nat} {res : dk_S}  {x4 : Int32} {u1 : Int32} {S : dk_S}  (hF : B_Model_next_176 n  x4 u1 S = some res) : dk_fr [40, 41, 42, 43] S res := by
  have g0 : dk_fr [40, 41, 42, 43] S S := dk_fr.rf
  unfold B_Model_next_176 at hF
  obtain ⟨S3, gS3, hF⟩ := fr_p g0 (by decide) hF
  rcases fr_if hF with hF | hF
  · exact gS3.tr (fb_Model_next_195 (n := n)   hF)
  · exact gS3.tr (fb_Model_next_195 (n := n)   hF)
theorem fb_Model_next_136 {n : Nat} {res : dk_S}  {x4 : Int32} {S : dk_S}  (hF : B_Model_next_136 n  x4 S = some res) : dk_fr [40, 41, 42, 43] S res := by
  have g0 : dk_fr [40, 41, 42, 43] S S := dk_fr.rf
  unfold B_Model_next_136 at hF
  rcases fr_if hF with hF | hF
  · rcases fr_if hF with hF | hF
    · rcases fr_if hF with hF | hF
      · exact g0.tr (fb_Model_next_176 (n := n)   hF)
      · exact g0.tr (fb_Model_next_176 (n := n)   hF)
    · exact g0.tr (fb_Model_next_176 (n := n)   hF)
  · exact g0.tr (fb_Model_next_176 (n := n)   hF)
theorem fb_Model_next_111b {n : Nat} {res : dk_S} {k111 : Int64 → Int32 → dk_S → Option dk_S} (hk111 : ∀ (x2 : Int64) (x4 : Int32)  (S : dk_S), k111 x2 x4 S = some res → dk_fr [40, 41, 42, 43] S res) {x2 : Int64} {x4 : Int32} {S : dk_S}  (hF : B_Model_next_111b n k111 x2 x4 S = some res) : dk_fr [40, 41, 42, 43] S res := by
  have g0 : dk_fr [40, 41, 42, 43] S S := dk_fr.rf
  unfold B_Model_next_111b at hF
  rcases fr_if hF with hF | hF
  · exact g0.tr (fb_Model_next_136 (n := n)   hF)
  · obtain ⟨v4, hF⟩ := fr_rl hF
    rcases fr_if hF with hF | hF
    · exact g0.tr (fb_Model_next_136 (n := n)   hF)
    · exact g0.tr (hk111 x2 (x4 + (1 : Int32)) S hF)
theorem fb_Model_next_111 {n : Nat} {res : dk_S}  : ∀ (q : Nat) (x2 : Int64) (x4 : Int32)  (S : dk_S), B_Model_next_111 n  q x2 x4 S = some res → dk_fr [40, 41, 42, 43] S res := by
  intro q
  induction q with
  | zero => intro x2 x4  S hF; cases hF
  | succ q ih => intro x2 x4  S hF; exact fb_Model_next_111b (n := n) ih  hF
theorem fb_Model_next_274 {n : Nat} {res : dk_S} {k214 : Int32 → dk_S → Option dk_S} (hk214 : ∀ (x2 : Int32)  (S : dk_S), k214 x2 S = some res → dk_fr [40, 41, 42, 43] S res) {x2 : Int32} {u1 : Int32} {S : dk_S}  (hF : B_Model_next_274 n k214 x2 u1 S = some res) : dk_fr [40, 41, 42, 43] S res := by
  have g0 : dk_fr [40, 41, 42, 43] S S := dk_fr.rf
  unfold B_Model_next_274 at hF
  obtain ⟨S5, gS5, hF⟩ := fr_p g0 (by decide) hF
  obtain ⟨S6, gS6, hF⟩ := fr_p gS5 (by decide) hF
  exact gS6.tr (hk214 (x2 + (1 : Int32)) S6 hF)
theorem fb_Model_next_304 {n : Nat} {res : dk_S}  {u1 : Int32} {S : dk_S}  (hF : B_Model_next_304 n  u1 S = some res) : dk_fr [40, 41, 42, 43] S res := by
  have g0 : dk_fr [40, 41, 42, 43] S S := dk_fr.rf
  unfold B_Model_next_304 at hF
  obtain ⟨S7, gS7, hF⟩ := fr_p g0 (by decide) hF
  exact fr_rtv hF gS7
theorem fb_Model_next_293 {n : Nat} {res : dk_S}  {x2 : Int32} {S : dk_S}  (hF : B_Model_next_293 n  x2 S = some res) : dk_fr [40, 41, 42, 43] S res := by
  have g0 : dk_fr [40, 41, 42, 43] S S := dk_fr.rf
  unfold B_Model_next_293 at hF
  rcases fr_if hF with hF | hF
  · exact g0.tr (fb_Model_next_304 (n := n)   hF)
  · exact g0.tr (fb_Model_next_304 (n := n)   hF)
theorem fb_Model_next_214b {n : Nat} {res : dk_S} {k214 : Int32 → dk_S → Option dk_S} (hk214 : ∀ (x2 : Int32)  (S : dk_S), k214 x2 S = some res → dk_fr [40, 41, 42, 43] S res) {x2 : Int32} {S : dk_S}  (hF : B_Model_next_214b n k214 x2 S = some res) : dk_fr [40, 41, 42, 43] S res := by
  have g0 : dk_fr [40, 41, 42, 43] S S := dk_fr.rf
  unfold B_Model_next_214b at hF
  rcases fr_if hF with hF | hF
  · exact g0.tr (fb_Model_next_293 (n := n)   hF)
  · obtain ⟨v8, hF⟩ := fr_r hF
    obtain ⟨r10, S9, gS9, hF⟩ := fr_c g0 (fun _ h => fr_Model_in h) (by decide) hF
    rcases fr_if hF with hF | hF
    · exact gS9.tr (fb_Model_next_293 (n := n)   hF)
    · rcases fr_if hF with hF | hF
      · exact gS9.tr (fb_Model_next_274 (n := n) hk214  hF)
      · obtain ⟨v11, hF⟩ := fr_r hF
        exact gS9.tr (fb_Model_next_274 (n := n) hk214  hF)
theorem fb_Model_next_214 {n : Nat} {res : dk_S}  : ∀ (q : Nat) (x2 : Int32)  (S : dk_S), B_Model_next_214 n  q x2 S = some res → dk_fr [40, 41, 42, 43] S res := by
  intro q
  induction q with
  | zero => intro x2  S hF; cases hF
  | succ q ih => intro x2  S hF; exact fb_Model_next_214b (n := n) ih  hF
theorem fb_Model_next_374 {n : Nat} {res : dk_S}  {u1 : Int32} {S : dk_S}  (hF : B_Model_next_374 n  u1 S = some res) : dk_fr [40, 41, 42, 43] S res := by
  have g0 : dk_fr [40, 41, 42, 43] S S := dk_fr.rf
  unfold B_Model_next_374 at hF
  obtain ⟨S12, gS12, hF⟩ := fr_p g0 (by decide) hF
  obtain ⟨S13, gS13, hF⟩ := fr_p gS12 (by decide) hF
  exact fr_rtv hF gS13
theorem fb_Model_next_363 {n : Nat} {res : dk_S}  {x1 : Int32} {u0 : Int32} {S : dk_S}  (hF : B_Model_next_363 n  x1 u0 S = some res) : dk_fr [40, 41, 42, 43] S res := by
  have g0 : dk_fr [40, 41, 42, 43] S S := dk_fr.rf
  unfold B_Model_next_363 at hF
  rcases fr_if hF with hF | hF
  · exact g0.tr (fb_Model_next_374 (n := n)   hF)
  · exact g0.tr (fb_Model_next_374 (n := n)   hF)
theorem fb_Model_next_358 {n : Nat} {res : dk_S}  {x1 : Int32} {S : dk_S}  (hF : B_Model_next_358 n  x1 S = some res) : dk_fr [40, 41, 42, 43] S res := by
  have g0 : dk_fr [40, 41, 42, 43] S S := dk_fr.rf
  unfold B_Model_next_358 at hF
  exact g0.tr (fb_Model_next_363 (n := n)   hF)
theorem fb_Model_next_52 {n : Nat} {res : dk_S}   {S : dk_S}  (hF : B_Model_next_52 n   S = some res) : dk_fr [40, 41, 42, 43] S res := by
  have g0 : dk_fr [40, 41, 42, 43] S S := dk_fr.rf
  unfold B_Model_next_52 at hF
  obtain ⟨S14, gS14, hF⟩ := fr_p g0 (by decide) hF
  obtain ⟨S15, gS15, hF⟩ := fr_p gS14 (by decide) hF
  obtain ⟨S16, gS16, hF⟩ := fr_p gS15 (by decide) hF
  rcases fr_if hF with hF | hF
  · obtain ⟨v17, hF⟩ := fr_r hF
    obtain ⟨r19, S18, gS18, hF⟩ := fr_c gS16 (fun _ h => fr_Model_in h) (by decide) hF
    rcases fr_if hF with hF | hF
    · obtain ⟨r21, S20, gS20, hF⟩ := fr_c gS18 (fun _ h => fr_Model_in h) (by decide) hF
      rcases fr_if hF with hF | hF
      · rcases fr_if hF with hF | hF
        · exact gS20.tr (fb_Model_next_358 (n := n)   hF)
        · rcases fr_if hF with hF | hF
          · exact gS20.tr (fb_Model_next_358 (n := n)   hF)
          · rcases fr_if hF with hF | hF
            · exact gS20.tr (fb_Model_next_358 (n := n)   hF)
            · rcases fr_if hF with hF | hF
              · exact gS20.tr (fb_Model_next_358 (n := n)   hF)
              · rcases fr_if hF with hF | hF
                · exact gS20.tr (fb_Model_next_358 (n := n)   hF)
                · rcases fr_if hF with hF | hF
                  · exact gS20.tr (fb_Model_next_358 (n := n)   hF)
                  · rcases fr_if hF with hF | hF
                    · exact gS20.tr (fb_Model_next_358 (n := n)   hF)
                    · rcases fr_if hF with hF | hF
                      · exact gS20.tr (fb_Model_next_363 (n := n)   hF)
                      · exact gS20.tr (fb_Model_next_358 (n := n)   hF)
      · exact gS20.tr (fb_Model_next_214 (n := n)  n (0 : Int32) S20 hF)
    · obtain ⟨r23, S22, gS22, hF⟩ := fr_c gS18 (fun _ h => fr_Model_letters h) (by decide) hF
      exact gS22.tr (fb_Model_next_111 (n := n)  n r23 (0 : Int32) S22 hF)
  · exact fr_rtv hF gS16
theorem fb_Model_next_0b {n : Nat} {res : dk_S} {k0 : dk_S → Option dk_S} (hk0 : ∀   (S : dk_S), k0  S = some res → dk_fr [40, 41, 42, 43] S res)  {S : dk_S}  (hF : B_Model_next_0b n k0  S = some res) : dk_fr [40, 41, 42, 43] S res := by
  have g0 : dk_fr [40, 41, 42, 43] S S := dk_fr.rf
  unfold B_Model_next_0b at hF
  rcases fr_if hF with hF | hF
  · exact g0.tr (fb_Model_next_52 (n := n)   hF)
  · obtain ⟨v24, hF⟩ := fr_r hF
    rcases fr_if hF with hF | hF
    · exact g0.tr (fb_Model_next_39 (n := n) hk0  hF)
    · obtain ⟨v25, hF⟩ := fr_r hF
      rcases fr_if hF with hF | hF
      · exact g0.tr (fb_Model_next_52 (n := n)   hF)
      · exact g0.tr (fb_Model_next_39 (n := n) hk0  hF)
theorem fb_Model_next_0 {n : Nat} {res : dk_S}  : ∀ (q : Nat)   (S : dk_S), B_Model_next_0 n  q  S = some res → dk_fr [40, 41, 42, 43] S res := by
  intro q
  induction q with
  | zero => intro   S hF; cases hF
  | succ q ih => intro   S hF; exact fb_Model_next_0b (n := n) ih  hF
theorem fr_Model_next {n : Nat}  {S : dk_S} {res : dk_S}  (h : F_Model_next n  S = some res) : dk_fr [40, 41, 42, 43] S res := fb_Model_next_0 (n := n) n   S h
theorem fb_Model_opensOne_0 {n : Nat} {res : (Int32 × dk_S)}  {x1 : Int32} {S : dk_S}  (hF : B_Model_opensOne_0 n  x1 S = some res) : dk_fr [45, 46, 47] S res.2 := by
  have g0 : dk_fr [45, 46, 47] S S := dk_fr.rf
  unfold B_Model_opensOne_0 at hF
  rcases fr_if hF with hF | hF
  · obtain ⟨S1, gS1, hF⟩ := fr_p g0 (by decide) hF
    obtain ⟨S2, gS2, hF⟩ := fr_cv gS1 (fun _ h => fr_Model_holds h) (by decide) hF
    have hF := (dk_b_out hF).2
    exact fr_rt hF gS2
  · have hF := (dk_b_out hF).2
    exact fr_rt hF g0
theorem fr_Model_opensOne {n : Nat} {x1 : Int32} {S : dk_S} {res : (Int32 × dk_S)}  (h : F_Model_opensOne n x1 S = some res) : dk_fr [45, 46, 47] S res.2 := fb_Model_opensOne_0 (n := n)  h
theorem fb_Model_signOf_0 {n : Nat} {res : (Int32 × dk_S)}   {S : dk_S}  (hF : B_Model_signOf_0 n   S = some res) : dk_fr [] S res.2 := by
  have g0 : dk_fr [] S S := dk_fr.rf
  unfold B_Model_signOf_0 at hF
  rcases fr_if hF with hF | hF
  · rcases fr_if hF with hF | hF
    · rcases fr_if hF with hF | hF
      · rcases fr_if hF with hF | hF
        · rcases fr_if hF with hF | hF
          · rcases fr_if hF with hF | hF
            · rcases fr_if hF with hF | hF
              · exact fr_rt hF g0
              · exact fr_rt hF g0
            · exact fr_rt hF g0
          · exact fr_rt hF g0
        · exact fr_rt hF g0
      · exact fr_rt hF g0
    · exact fr_rt hF g0
  · exact fr_rt hF g0
theorem fr_Model_signOf {n : Nat}  {S : dk_S} {res : (Int32 × dk_S)}  (h : F_Model_signOf n  S = some res) : dk_fr [] S res.2 := fb_Model_signOf_0 (n := n)  h
theorem fb_Model_eRead_61 {n : Nat} {res : (Int32 × dk_S)} {k14 : Int32 → Int32 → dk_S → Option (Int32 × dk_S)} (hk14 : ∀ (x1 : Int32) (x2 : Int32)  (S : dk_S), k14 x1 x2 S = some res → dk_fr [14, 40, 41, 42, 43, 45, 46, 47, 48] S res.2) {x2 : Int32} {u1 : Int32} {S : dk_S}  (hF : B_Model_eRead_61 n k14 x2 u1 S = some res) : dk_fr [14, 40, 41, 42, 43, 45, 46, 47, 48] S res.2 := by
  have g0 : dk_fr [14, 40, 41, 42, 43, 45, 46, 47, 48] S S := dk_fr.rf
  unfold B_Model_eRead_61 at hF
  obtain ⟨S1, gS1, hF⟩ := fr_cv g0 (fun _ h => fr_Model_puts h) (by decide) hF
  obtain ⟨S3, gS3, hF⟩ := fr_cv gS1 (fun _ h => fr_Model_unwinds h) (by decide) hF
  exact gS3.tr (hk14 (0 : Int32) x2 S3 hF)
theorem fb_Model_eRead_38 {n : Nat} {res : (Int32 × dk_S)} {k14 : Int32 → Int32 → dk_S → Option (Int32 × dk_S)} (hk14 : ∀ (x1 : Int32) (x2 : Int32)  (S : dk_S), k14 x1 x2 S = some res → dk_fr [14, 40, 41, 42, 43, 45, 46, 47, 48] S res.2) {x2 : Int32} {S : dk_S}  (hF : B_Model_eRead_38 n k14 x2 S = some res) : dk_fr [14, 40, 41, 42, 43, 45, 46, 47, 48] S res.2 := by
  have g0 : dk_fr [14, 40, 41, 42, 43, 45, 46, 47, 48] S S := dk_fr.rf
  unfold B_Model_eRead_38 at hF
  rcases fr_if hF with hF | hF
  · exact g0.tr (fb_Model_eRead_61 (n := n) hk14  hF)
  · exact g0.tr (fb_Model_eRead_61 (n := n) hk14  hF)
theorem fb_Model_eRead_99 {n : Nat} {res : (Int32 × dk_S)} {k14 : Int32 → Int32 → dk_S → Option (Int32 × dk_S)} (hk14 : ∀ (x1 : Int32) (x2 : Int32)  (S : dk_S), k14 x1 x2 S = some res → dk_fr [14, 40, 41, 42, 43, 45, 46, 47, 48] S res.2) {x1 : Int32} {S : dk_S}  (hF : B_Model_eRead_99 n k14 x1 S = some res) : dk_fr [14, 40, 41, 42, 43, 45, 46, 47, 48] S res.2 := by
  have g0 : dk_fr [14, 40, 41, 42, 43, 45, 46, 47, 48] S S := dk_fr.rf
  unfold B_Model_eRead_99 at hF
  rcases fr_if hF with hF | hF
  · rcases fr_if hF with hF | hF
    · have hF := (dk_b_out hF).2
      exact fr_rt hF g0
    · obtain ⟨r6, S5, gS5, hF⟩ := fr_c g0 (fun _ h => fr_Model_opensOne h) (by decide) hF
      rcases fr_if hF with hF | hF
      · exact gS5.tr (hk14 x1 (1 : Int32) S5 hF)
      · have hF := (dk_b_out hF).2
        exact fr_rt hF gS5
  · obtain ⟨r8, S7, gS7, hF⟩ := fr_c g0 (fun _ h => fr_Model_opensOne h) (by decide) hF
    rcases fr_if hF with hF | hF
    · exact gS7.tr (hk14 x1 (0 : Int32) S7 hF)
    · have hF := (dk_b_out hF).2
      exact fr_rt hF gS7
theorem fb_Model_eRead_262 {n : Nat} {res : (Int32 × dk_S)} {k14 : Int32 → Int32 → dk_S → Option (Int32 × dk_S)} (hk14 : ∀ (x1 : Int32) (x2 : Int32)  (S : dk_S), k14 x1 x2 S = some res → dk_fr [14, 40, 41, 42, 43, 45, 46, 47, 48] S res.2) {x1 : Int32} {u0 : Int32} {S : dk_S}  (hF : B_Model_eRead_262 n k14 x1 u0 S = some res) : dk_fr [14, 40, 41, 42, 43, 45, 46, 47, 48] S res.2 := by
  have g0 : dk_fr [14, 40, 41, 42, 43, 45, 46, 47, 48] S S := dk_fr.rf
  unfold B_Model_eRead_262 at hF
  exact g0.tr (hk14 x1 u0 S hF)
theorem fb_Model_eRead_14b {n : Nat} {res : (Int32 × dk_S)} {k14 : Int32 → Int32 → dk_S → Option (Int32 × dk_S)} (hk14 : ∀ (x1 : Int32) (x2 : Int32)  (S : dk_S), k14 x1 x2 S = some res → dk_fr [14, 40, 41, 42, 43, 45, 46, 47, 48] S res.2) {x1 : Int32} {x2 : Int32} {S : dk_S}  (hF : B_Model_eRead_14b n k14 x1 x2 S = some res) : dk_fr [14, 40, 41, 42, 43, 45, 46, 47, 48] S res.2 := by
  have g0 : dk_fr [14, 40, 41, 42, 43, 45, 46, 47, 48] S S := dk_fr.rf
  unfold B_Model_eRead_14b at hF
  obtain ⟨S9, gS9, hF⟩ := fr_cv g0 (fun _ h => fr_Model_next h) (by decide) hF
  rcases fr_if hF with hF | hF
  · rcases fr_if hF with hF | hF
    · rcases fr_if hF with hF | hF
      · obtain ⟨r12, S11, gS11, hF⟩ := fr_c gS9 (fun _ h => fr_Model_signOf h) (by decide) hF
        rcases fr_if hF with hF | hF
        · have hF := (dk_b_out hF).2
          exact fr_rt hF gS11
        · obtain ⟨r14, S13, gS13, hF⟩ := fr_c gS11 (fun _ h => fr_Model_between h) (by decide) hF
          rcases fr_if hF with hF | hF
          · rcases fr_if hF with hF | hF
            · exact gS13.tr (fb_Model_eRead_262 (n := n) hk14  hF)
            · exact gS13.tr (fb_Model_eRead_262 (n := n) hk14  hF)
          · have hF := (dk_b_out hF).2
            exact fr_rt hF gS13
      · obtain ⟨S15, gS15, hF⟩ := fr_cv gS9 (fun _ h => fr_Model_unwinds h) (by decide) hF
        rcases fr_if hF with hF | hF
        · obtain ⟨S17, gS17, hF⟩ := fr_p gS15 (by decide) hF
          obtain ⟨S18, gS18, hF⟩ := fr_p gS17 (by decide) hF
          obtain ⟨S19, gS19, hF⟩ := fr_cv gS18 (fun _ h => fr_Model_unwinds h) (by decide) hF
          exact gS19.tr (hk14 x1 x2 S19 hF)
        · have hF := (dk_b_out hF).2
          exact fr_rt hF gS15
    · obtain ⟨S21, gS21, hF⟩ := fr_cv gS9 (fun _ h => fr_Model_unwinds h) (by decide) hF
      rcases fr_if hF with hF | hF
      · have hF := (dk_b_out hF).2
        exact fr_rt hF gS21
      · have hF := (dk_b_out hF).2
        exact fr_rt hF gS21
  · rcases fr_if hF with hF | hF
    · exact gS9.tr (fb_Model_eRead_38 (n := n) hk14  hF)
    · rcases fr_if hF with hF | hF
      · rcases fr_if hF with hF | hF
        · exact gS9.tr (fb_Model_eRead_99 (n := n) hk14  hF)
        · rcases fr_if hF with hF | hF
          · exact gS9.tr (fb_Model_eRead_99 (n := n) hk14  hF)
          · obtain ⟨r24, S23, gS23, hF⟩ := fr_c gS9 (fun _ h => fr_Model_opensOne h) (by decide) hF
            rcases fr_if hF with hF | hF
            · exact gS23.tr (hk14 x1 x2 S23 hF)
            · have hF := (dk_b_out hF).2
              exact fr_rt hF gS23
      · exact gS9.tr (fb_Model_eRead_38 (n := n) hk14  hF)
theorem fb_Model_eRead_14 {n : Nat} {res : (Int32 × dk_S)}  : ∀ (q : Nat) (x1 : Int32) (x2 : Int32)  (S : dk_S), B_Model_eRead_14 n  q x1 x2 S = some res → dk_fr [14, 40, 41, 42, 43, 45, 46, 47, 48] S res.2 := by
  intro q
  induction q with
  | zero => intro x1 x2  S hF; cases hF
  | succ q ih => intro x1 x2  S hF; exact fb_Model_eRead_14b (n := n) ih  hF
theorem fb_Model_eRead_0 {n : Nat} {res : (Int32 × dk_S)}   {S : dk_S}  (hF : B_Model_eRead_0 n   S = some res) : dk_fr [14, 40, 41, 42, 43, 45, 46, 47, 48] S res.2 := by
  have g0 : dk_fr [14, 40, 41, 42, 43, 45, 46, 47, 48] S S := dk_fr.rf
  unfold B_Model_eRead_0 at hF
  obtain ⟨S25, gS25, hF⟩ := fr_p g0 (by decide) hF
  obtain ⟨S26, gS26, hF⟩ := fr_p gS25 (by decide) hF
  exact gS26.tr (fb_Model_eRead_14 (n := n)  n (1 : Int32) (1 : Int32) S26 hF)
theorem fr_Model_eRead {n : Nat}  {S : dk_S} {res : (Int32 × dk_S)}  (h : F_Model_eRead n  S = some res) : dk_fr [14, 40, 41, 42, 43, 45, 46, 47, 48] S res.2 := fb_Model_eRead_0 (n := n)  h
theorem fb_Model_text_94 {n : Nat} {res : (Int32 × dk_S)} {k26 : Int32 → Int32 → dk_S → Option (Int32 × dk_S)} (hk26 : ∀ (x1 : Int32) (x2 : Int32)  (S : dk_S), k26 x1 x2 S = some res → dk_fr [13, 14, 15, 16, 40, 41, 42, 43, 45, 46, 47, 48] S res.2) {x2 : Int32} {u0 : Int32} {S : dk_S}  (hF : B_Model_text_94 n k26 x2 u0 S = some res) : dk_fr [13, 14, 15, 16, 40, 41, 42, 43, 45, 46, 47, 48] S res.2 := by
  have g0 : dk_fr [13, 14, 15, 16, 40, 41, 42, 43, 45, 46, 47, 48] S S := dk_fr.rf
  unfold B_Model_text_94 at hF
  exact g0.tr (hk26 u0 (x2 + (1 : Int32)) S hF)
theorem fb_Model_text_93 {n : Nat} {res : (Int32 × dk_S)} {k26 : Int32 → Int32 → dk_S → Option (Int32 × dk_S)} (hk26 : ∀ (x1 : Int32) (x2 : Int32)  (S : dk_S), k26 x1 x2 S = some res → dk_fr [13, 14, 15, 16, 40, 41, 42, 43, 45, 46, 47, 48] S res.2) {x2 : Int32} {S : dk_S}  (hF : B_Model_text_93 n k26 x2 S = some res) : dk_fr [13, 14, 15, 16, 40, 41, 42, 43, 45, 46, 47, 48] S res.2 := by
  have g0 : dk_fr [13, 14, 15, 16, 40, 41, 42, 43, 45, 46, 47, 48] S S := dk_fr.rf
  unfold B_Model_text_93 at hF
  exact g0.tr (fb_Model_text_94 (n := n) hk26  hF)
theorem fb_Model_text_60 {n : Nat} {res : (Int32 × dk_S)} {k26 : Int32 → Int32 → dk_S → Option (Int32 × dk_S)} (hk26 : ∀ (x1 : Int32) (x2 : Int32)  (S : dk_S), k26 x1 x2 S = some res → dk_fr [13, 14, 15, 16, 40, 41, 42, 43, 45, 46, 47, 48] S res.2) {x2 : Int32} {u0 : Int32} {S : dk_S}  (hF : B_Model_text_60 n k26 x2 u0 S = some res) : dk_fr [13, 14, 15, 16, 40, 41, 42, 43, 45, 46, 47, 48] S res.2 := by
  have g0 : dk_fr [13, 14, 15, 16, 40, 41, 42, 43, 45, 46, 47, 48] S S := dk_fr.rf
  unfold B_Model_text_60 at hF
  obtain ⟨S1, gS1, hF⟩ := fr_w g0 (by decide) hF
  rcases fr_if hF with hF | hF
  · exact gS1.tr (fb_Model_text_93 (n := n) hk26  hF)
  · obtain ⟨r3, S2, gS2, hF⟩ := fr_c gS1 (fun _ h => fr_Model_eRead h) (by decide) hF
    rcases fr_if hF with hF | hF
    · exact gS2.tr (fb_Model_text_93 (n := n) hk26  hF)
    · exact gS2.tr (fb_Model_text_94 (n := n) hk26  hF)
theorem fb_Model_text_59 {n : Nat} {res : (Int32 × dk_S)} {k26 : Int32 → Int32 → dk_S → Option (Int32 × dk_S)} (hk26 : ∀ (x1 : Int32) (x2 : Int32)  (S : dk_S), k26 x1 x2 S = some res → dk_fr [13, 14, 15, 16, 40, 41, 42, 43, 45, 46, 47, 48] S res.2) {x2 : Int32} {S : dk_S}  (hF : B_Model_text_59 n k26 x2 S = some res) : dk_fr [13, 14, 15, 16, 40, 41, 42, 43, 45, 46, 47, 48] S res.2 := by
  have g0 : dk_fr [13, 14, 15, 16, 40, 41, 42, 43, 45, 46, 47, 48] S S := dk_fr.rf
  unfold B_Model_text_59 at hF
  exact g0.tr (fb_Model_text_60 (n := n) hk26  hF)
theorem fb_Model_text_122 {n : Nat} {res : (Int32 × dk_S)}  {x1 : Int32} {S : dk_S}  (hF : B_Model_text_122 n  x1 S = some res) : dk_fr [13, 14, 15, 16, 40, 41, 42, 43, 45, 46, 47, 48] S res.2 := by
  have g0 : dk_fr [13, 14, 15, 16, 40, 41, 42, 43, 45, 46, 47, 48] S S := dk_fr.rf
  unfold B_Model_text_122 at hF
  obtain ⟨S4, gS4, hF⟩ := fr_w g0 (by decide) hF
  obtain ⟨S5, gS5, hF⟩ := fr_p gS4 (by decide) hF
  rcases fr_if hF with hF | hF
  · obtain ⟨S6, gS6, hF⟩ := fr_p gS5 (by decide) hF
    exact fr_rt hF gS6
  · exact fr_rt hF gS5
theorem fb_Model_text_121 {n : Nat} {res : (Int32 × dk_S)}  {u0 : Int32} {S : dk_S}  (hF : B_Model_text_121 n  u0 S = some res) : dk_fr [13, 14, 15, 16, 40, 41, 42, 43, 45, 46, 47, 48] S res.2 := by
  have g0 : dk_fr [13, 14, 15, 16, 40, 41, 42, 43, 45, 46, 47, 48] S S := dk_fr.rf
  unfold B_Model_text_121 at hF
  exact g0.tr (fb_Model_text_122 (n := n)   hF)
theorem fb_Model_text_101 {n : Nat} {res : (Int32 × dk_S)}  {x1 : Int32} {S : dk_S}  (hF : B_Model_text_101 n  x1 S = some res) : dk_fr [13, 14, 15, 16, 40, 41, 42, 43, 45, 46, 47, 48] S res.2 := by
  have g0 : dk_fr [13, 14, 15, 16, 40, 41, 42, 43, 45, 46, 47, 48] S S := dk_fr.rf
  unfold B_Model_text_101 at hF
  rcases fr_if hF with hF | hF
  · exact g0.tr (fb_Model_text_122 (n := n)   hF)
  · obtain ⟨S7, gS7, hF⟩ := fr_cv g0 (fun _ h => fr_Model_next h) (by decide) hF
    rcases fr_if hF with hF | hF
    · exact gS7.tr (fb_Model_text_121 (n := n)   hF)
    · exact gS7.tr (fb_Model_text_121 (n := n)   hF)
theorem fb_Model_text_26b {n : Nat} {res : (Int32 × dk_S)} {k26 : Int32 → Int32 → dk_S → Option (Int32 × dk_S)} (hk26 : ∀ (x1 : Int32) (x2 : Int32)  (S : dk_S), k26 x1 x2 S = some res → dk_fr [13, 14, 15, 16, 40, 41, 42, 43, 45, 46, 47, 48] S res.2) {x1 : Int32} {x2 : Int32} {S : dk_S}  (hF : B_Model_text_26b n k26 x1 x2 S = some res) : dk_fr [13, 14, 15, 16, 40, 41, 42, 43, 45, 46, 47, 48] S res.2 := by
  have g0 : dk_fr [13, 14, 15, 16, 40, 41, 42, 43, 45, 46, 47, 48] S S := dk_fr.rf
  unfold B_Model_text_26b at hF
  rcases fr_if hF with hF | hF
  · exact g0.tr (fb_Model_text_101 (n := n)   hF)
  · rcases fr_if hF with hF | hF
    · exact g0.tr (fb_Model_text_101 (n := n)   hF)
    · obtain ⟨S9, gS9, hF⟩ := fr_cv g0 (fun _ h => fr_Model_next h) (by decide) hF
      rcases fr_if hF with hF | hF
      · exact gS9.tr (fb_Model_text_59 (n := n) hk26  hF)
      · rcases fr_if hF with hF | hF
        · exact gS9.tr (fb_Model_text_59 (n := n) hk26  hF)
        · exact gS9.tr (fb_Model_text_60 (n := n) hk26  hF)
theorem fb_Model_text_26 {n : Nat} {res : (Int32 × dk_S)}  : ∀ (q : Nat) (x1 : Int32) (x2 : Int32)  (S : dk_S), B_Model_text_26 n  q x1 x2 S = some res → dk_fr [13, 14, 15, 16, 40, 41, 42, 43, 45, 46, 47, 48] S res.2 := by
  intro q
  induction q with
  | zero => intro x1 x2  S hF; cases hF
  | succ q ih => intro x1 x2  S hF; exact fb_Model_text_26b (n := n) ih  hF
theorem fb_Model_text_0 {n : Nat} {res : (Int32 × dk_S)}   {S : dk_S}  (hF : B_Model_text_0 n   S = some res) : dk_fr [13, 14, 15, 16, 40, 41, 42, 43, 45, 46, 47, 48] S res.2 := by
  have g0 : dk_fr [13, 14, 15, 16, 40, 41, 42, 43, 45, 46, 47, 48] S S := dk_fr.rf
  unfold B_Model_text_0 at hF
  rcases fr_if hF with hF | hF
  · obtain ⟨S11, gS11, hF⟩ := fr_p g0 (by decide) hF
    obtain ⟨S12, gS12, hF⟩ := fr_p gS11 (by decide) hF
    exact gS12.tr (fb_Model_text_26 (n := n)  n (1 : Int32) (0 : Int32) S12 hF)
  · exact fr_rt hF g0
theorem fr_Model_text {n : Nat}  {S : dk_S} {res : (Int32 × dk_S)}  (h : F_Model_text n  S = some res) : dk_fr [13, 14, 15, 16, 40, 41, 42, 43, 45, 46, 47, 48] S res.2 := fb_Model_text_0 (n := n)  h
theorem fb_Model_force_0 {n : Nat} {res : (Int32 × dk_S)}  {x1 : Int32} {S : dk_S}  (hF : B_Model_force_0 n  x1 S = some res) : dk_fr [17] S res.2 := by
  have g0 : dk_fr [17] S S := dk_fr.rf
  unfold B_Model_force_0 at hF
  obtain ⟨r2, S1, gS1, hF⟩ := fr_c g0 (fun _ h => fr_Model_in h) (by decide) hF
  rcases fr_if hF with hF | hF
  · obtain ⟨S3, gS3, hF⟩ := fr_p gS1 (by decide) hF
    exact fr_rt hF gS3
  · exact fr_rt hF gS1
theorem fr_Model_force {n : Nat} {x1 : Int32} {S : dk_S} {res : (Int32 × dk_S)}  (h : F_Model_force n x1 S = some res) : dk_fr [17] S res.2 := fb_Model_force_0 (n := n)  h
theorem fb_Model_names_50 {n : Nat} {res : dk_S}  {x6 : Int32} {u1 : Int32} {u2 : Int32} {S : dk_S}  (hF : B_Model_names_50 n  x6 u1 u2 S = some res) : dk_fr [50] S res := by
  have g0 : dk_fr [50] S S := dk_fr.rf
  unfold B_Model_names_50 at hF
  obtain ⟨S1, gS1, hF⟩ := fr_w g0 (by decide) hF
  obtain ⟨S2, gS2, hF⟩ := fr_w gS1 (by decide) hF
  exact fr_rtv hF gS2
theorem fb_Model_names_0 {n : Nat} {res : dk_S}  {x1 : Int32} {x2 : Int32} {x3 : Int32} {x4 : Int32} {x5 : Int32} {x6 : Int32} {S : dk_S}  (hF : B_Model_names_0 n  x1 x2 x3 x4 x5 x6 S = some res) : dk_fr [50] S res := by
  have g0 : dk_fr [50] S S := dk_fr.rf
  unfold B_Model_names_0 at hF
  obtain ⟨S3, gS3, hF⟩ := fr_w g0 (by decide) hF
  obtain ⟨S4, gS4, hF⟩ := fr_w gS3 (by decide) hF
  obtain ⟨S5, gS5, hF⟩ := fr_w gS4 (by decide) hF
  obtain ⟨S6, gS6, hF⟩ := fr_w gS5 (by decide) hF
  obtain ⟨v7, hF⟩ := fr_r hF
  rcases fr_if hF with hF | hF
  · exact gS6.tr (fb_Model_names_50 (n := n)   hF)
  · exact gS6.tr (fb_Model_names_50 (n := n)   hF)
theorem fr_Model_names {n : Nat} {x1 : Int32} {x2 : Int32} {x3 : Int32} {x4 : Int32} {x5 : Int32} {x6 : Int32} {S : dk_S} {res : dk_S}  (h : F_Model_names n x1 x2 x3 x4 x5 x6 S = some res) : dk_fr [50] S res := fb_Model_names_0 (n := n)  h
theorem fb_Model_two_102 {n : Nat} {res : (Int32 × dk_S)}  {x1 : Int32} {x2 : Int32} {S : dk_S}  (hF : B_Model_two_102 n  x1 x2 S = some res) : dk_fr [] S res.2 := by
  have g0 : dk_fr [] S S := dk_fr.rf
  unfold B_Model_two_102 at hF
  exact fr_rt hF g0
theorem fb_Model_two_0 {n : Nat} {res : (Int32 × dk_S)}  {x0 : Int32} {x1 : Int32} {x2 : Int32} {S : dk_S}  (hF : B_Model_two_0 n  x0 x1 x2 S = some res) : dk_fr [] S res.2 := by
  have g0 : dk_fr [] S S := dk_fr.rf
  unfold B_Model_two_0 at hF
  rcases fr_if hF with hF | hF
  · rcases fr_if hF with hF | hF
    · exact fr_rt hF g0
    · rcases fr_if hF with hF | hF
      · exact fr_rt hF g0
      · exact fr_rt hF g0
  · rcases fr_if hF with hF | hF
    · rcases fr_if hF with hF | hF
      · exact fr_rt hF g0
      · rcases fr_if hF with hF | hF
        · exact fr_rt hF g0
        · exact fr_rt hF g0
    · rcases fr_if hF with hF | hF
      · exact g0.tr (fb_Model_two_102 (n := n)   hF)
      · rcases fr_if hF with hF | hF
        · rcases fr_if hF with hF | hF
          · exact fr_rt hF g0
          · exact fr_rt hF g0
        · rcases fr_if hF with hF | hF
          · rcases fr_if hF with hF | hF
            · exact fr_rt hF g0
            · exact fr_rt hF g0
          · rcases fr_if hF with hF | hF
            · exact fr_rt hF g0
            · rcases fr_if hF with hF | hF
              · exact fr_rt hF g0
              · exact g0.tr (fb_Model_two_102 (n := n)   hF)
theorem fr_Model_two {n : Nat} {x0 : Int32} {x1 : Int32} {x2 : Int32} {S : dk_S} {res : (Int32 × dk_S)}  (h : F_Model_two n x0 x1 x2 S = some res) : dk_fr [] S res.2 := fb_Model_two_0 (n := n)  h
theorem fb_Model_worth_191 {n : Nat} {res : (Int32 × dk_S)} {k16 : Int32 → Int32 → Int32 → dk_S → Option (Int32 × dk_S)} (hk16 : ∀ (x1 : Int32) (x2 : Int32) (x3 : Int32)  (S : dk_S), k16 x1 x2 x3 S = some res → dk_fr [49] S res.2) {x1 : Int32} {x2 : Int32} {x3 : Int32} {S : dk_S}  (hF : B_Model_worth_191 n k16 x1 x2 x3 S = some res) : dk_fr [49] S res.2 := by
  have g0 : dk_fr [49] S S := dk_fr.rf
  unfold B_Model_worth_191 at hF
  exact g0.tr (hk16 x1 x2 (x3 + (1 : Int32)) S hF)
theorem fb_Model_worth_93 {n : Nat} {res : (Int32 × dk_S)} {k16 : Int32 → Int32 → Int32 → dk_S → Option (Int32 × dk_S)} (hk16 : ∀ (x1 : Int32) (x2 : Int32) (x3 : Int32)  (S : dk_S), k16 x1 x2 x3 S = some res → dk_fr [49] S res.2) {x1 : Int32} {x2 : Int32} {x3 : Int32} {u1 : Int32} {u2 : Int32} {S : dk_S}  (hF : B_Model_worth_93 n k16 x1 x2 x3 u1 u2 S = some res) : dk_fr [49] S res.2 := by
  have g0 : dk_fr [49] S S := dk_fr.rf
  unfold B_Model_worth_93 at hF
  obtain ⟨S1, gS1, hF⟩ := fr_w g0 (by decide) hF
  exact gS1.tr (fb_Model_worth_191 (n := n) hk16  hF)
theorem fb_Model_worth_66 {n : Nat} {res : (Int32 × dk_S)} {k16 : Int32 → Int32 → Int32 → dk_S → Option (Int32 × dk_S)} (hk16 : ∀ (x1 : Int32) (x2 : Int32) (x3 : Int32)  (S : dk_S), k16 x1 x2 x3 S = some res → dk_fr [49] S res.2) {x1 : Int32} {x2 : Int32} {x3 : Int32} {x4 : Int32} {S : dk_S}  (hF : B_Model_worth_66 n k16 x1 x2 x3 x4 S = some res) : dk_fr [49] S res.2 := by
  have g0 : dk_fr [49] S S := dk_fr.rf
  unfold B_Model_worth_66 at hF
  rcases fr_if hF with hF | hF
  · exact g0.tr (fb_Model_worth_93 (n := n) hk16  hF)
  · obtain ⟨v2, hF⟩ := fr_r hF
    exact g0.tr (fb_Model_worth_93 (n := n) hk16  hF)
theorem fb_Model_worth_130 {n : Nat} {res : (Int32 × dk_S)} {k16 : Int32 → Int32 → Int32 → dk_S → Option (Int32 × dk_S)} (hk16 : ∀ (x1 : Int32) (x2 : Int32) (x3 : Int32)  (S : dk_S), k16 x1 x2 x3 S = some res → dk_fr [49] S res.2) {x1 : Int32} {x2 : Int32} {x3 : Int32} {u1 : Int32} {u2 : Int32} {S : dk_S}  (hF : B_Model_worth_130 n k16 x1 x2 x3 u1 u2 S = some res) : dk_fr [49] S res.2 := by
  have g0 : dk_fr [49] S S := dk_fr.rf
  unfold B_Model_worth_130 at hF
  obtain ⟨S3, gS3, hF⟩ := fr_w g0 (by decide) hF
  exact gS3.tr (fb_Model_worth_191 (n := n) hk16  hF)
theorem fb_Model_worth_16b {n : Nat} {res : (Int32 × dk_S)} {k16 : Int32 → Int32 → Int32 → dk_S → Option (Int32 × dk_S)} (hk16 : ∀ (x1 : Int32) (x2 : Int32) (x3 : Int32)  (S : dk_S), k16 x1 x2 x3 S = some res → dk_fr [49] S res.2) {x1 : Int32} {x2 : Int32} {x3 : Int32} {S : dk_S}  (hF : B_Model_worth_16b n k16 x1 x2 x3 S = some res) : dk_fr [49] S res.2 := by
  have g0 : dk_fr [49] S S := dk_fr.rf
  unfold B_Model_worth_16b at hF
  obtain ⟨v4, hF⟩ := fr_r hF
  rcases fr_if hF with hF | hF
  · obtain ⟨v5, hF⟩ := fr_r hF
    exact fr_rt hF g0
  · obtain ⟨v6, hF⟩ := fr_r hF
    rcases fr_if hF with hF | hF
    · exact g0.tr (fb_Model_worth_66 (n := n) hk16  hF)
    · rcases fr_if hF with hF | hF
      · rcases fr_if hF with hF | hF
        · rcases fr_if hF with hF | hF
          · obtain ⟨v7, hF⟩ := fr_r hF
            obtain ⟨v8, hF⟩ := fr_r hF
            obtain ⟨r10, S9, gS9, hF⟩ := fr_c g0 (fun _ h => fr_Model_two h) (by decide) hF
            obtain ⟨S11, gS11, hF⟩ := fr_w gS9 (by decide) hF
            exact gS11.tr (fb_Model_worth_191 (n := n) hk16  hF)
          · obtain ⟨v12, hF⟩ := fr_r hF
            obtain ⟨S13, gS13, hF⟩ := fr_w g0 (by decide) hF
            exact gS13.tr (fb_Model_worth_191 (n := n) hk16  hF)
        · obtain ⟨v14, hF⟩ := fr_r hF
          rcases fr_if hF with hF | hF
          · exact g0.tr (fb_Model_worth_130 (n := n) hk16  hF)
          · exact g0.tr (fb_Model_worth_130 (n := n) hk16  hF)
      · exact g0.tr (fb_Model_worth_66 (n := n) hk16  hF)
theorem fb_Model_worth_16 {n : Nat} {res : (Int32 × dk_S)}  : ∀ (q : Nat) (x1 : Int32) (x2 : Int32) (x3 : Int32)  (S : dk_S), B_Model_worth_16 n  q x1 x2 x3 S = some res → dk_fr [49] S res.2 := by
  intro q
  induction q with
  | zero => intro x1 x2 x3  S hF; cases hF
  | succ q ih => intro x1 x2 x3  S hF; exact fb_Model_worth_16b (n := n) ih  hF
theorem fb_Model_worth_0 {n : Nat} {res : (Int32 × dk_S)}  {x1 : Int32} {S : dk_S}  (hF : B_Model_worth_0 n  x1 S = some res) : dk_fr [49] S res.2 := by
  have g0 : dk_fr [49] S S := dk_fr.rf
  unfold B_Model_worth_0 at hF
  obtain ⟨v15, hF⟩ := fr_r hF
  exact g0.tr (fb_Model_worth_16 (n := n)  n x1 (0 : Int32) v15 S hF)
theorem fr_Model_worth {n : Nat} {x1 : Int32} {S : dk_S} {res : (Int32 × dk_S)}  (h : F_Model_worth n x1 S = some res) : dk_fr [49] S res.2 := fb_Model_worth_0 (n := n)  h
theorem fb_Model_mayFollow_26 {n : Nat} {res : (Int32 × dk_S)}  {x1 : Int32} {x3 : Int32} {u1 : Int32} {u2 : Int32} {u3 : Int32} {u4 : Int32} {S : dk_S}  (hF : B_Model_mayFollow_26 n  x1 x3 u1 u2 u3 u4 S = some res) : dk_fr [49, 50] S res.2 := by
  have g0 : dk_fr [49, 50] S S := dk_fr.rf
  unfold B_Model_mayFollow_26 at hF
  obtain ⟨S1, gS1, hF⟩ := fr_cv g0 (fun _ h => fr_Model_names h) (by decide) hF
  obtain ⟨r4, S3, gS3, hF⟩ := fr_c gS1 (fun _ h => fr_Model_worth h) (by decide) hF
  rcases fr_if hF with hF | hF
  · have hF := (dk_b_out hF).2
    exact fr_rt hF gS3
  · have hF := (dk_b_out hF).2
    exact fr_rt hF gS3
theorem fb_Model_mayFollow_0 {n : Nat} {res : (Int32 × dk_S)}  {x1 : Int32} {x2 : Int32} {x3 : Int32} {S : dk_S}  (hF : B_Model_mayFollow_0 n  x1 x2 x3 S = some res) : dk_fr [49, 50] S res.2 := by
  have g0 : dk_fr [49, 50] S S := dk_fr.rf
  unfold B_Model_mayFollow_0 at hF
  obtain ⟨v5, hF⟩ := fr_r hF
  obtain ⟨v6, hF⟩ := fr_r hF
  rcases fr_if hF with hF | hF
  · exact g0.tr (fb_Model_mayFollow_26 (n := n)   hF)
  · exact g0.tr (fb_Model_mayFollow_26 (n := n)   hF)
theorem fr_Model_mayFollow {n : Nat} {x1 : Int32} {x2 : Int32} {x3 : Int32} {S : dk_S} {res : (Int32 × dk_S)}  (h : F_Model_mayFollow n x1 x2 x3 S = some res) : dk_fr [49, 50] S res.2 := fb_Model_mayFollow_0 (n := n)  h
theorem fb_Model_follow_0 {n : Nat} {res : (Int32 × dk_S)}  {x1 : Int32} {x2 : Int32} {x3 : Int32} {S : dk_S}  (hF : B_Model_follow_0 n  x1 x2 x3 S = some res) : dk_fr [49, 50] S res.2 := by
  have g0 : dk_fr [49, 50] S S := dk_fr.rf
  unfold B_Model_follow_0 at hF
  obtain ⟨r2, S1, gS1, hF⟩ := fr_c g0 (fun _ h => fr_Model_in h) (by decide) hF
  rcases fr_if hF with hF | hF
  · exact fr_rt hF gS1
  · obtain ⟨r4, S3, gS3, hF⟩ := fr_c gS1 (fun _ h => fr_Model_isGround h) (by decide) hF
    rcases fr_if hF with hF | hF
    · exact fr_rt hF gS3
    · obtain ⟨r6, S5, gS5, hF⟩ := fr_c gS3 (fun _ h => fr_Model_isBeast h) (by decide) hF
      rcases fr_if hF with hF | hF
      · obtain ⟨r8, S7, gS7, hF⟩ := fr_c gS5 (fun _ h => fr_Model_mayFollow h) (by decide) hF
        rcases fr_if hF with hF | hF
        · exact fr_rt hF gS7
        · exact fr_rt hF gS7
      · exact fr_rt hF gS5
theorem fr_Model_follow {n : Nat} {x1 : Int32} {x2 : Int32} {x3 : Int32} {S : dk_S} {res : (Int32 × dk_S)}  (h : F_Model_follow n x1 x2 x3 S = some res) : dk_fr [49, 50] S res.2 := fb_Model_follow_0 (n := n)  h
theorem fb_Model_makes_0 {n : Nat} {res : dk_S}  {x1 : Int32} {x2 : Int32} {x3 : Int32} {x4 : Int32} {x5 : Int32} {x6 : Int32} {S : dk_S}  (hF : B_Model_makes_0 n  x1 x2 x3 x4 x5 x6 S = some res) : dk_fr [18, 19, 20, 21, 22, 23, 24, 25, 26] S res := by
  have g0 : dk_fr [18, 19, 20, 21, 22, 23, 24, 25, 26] S S := dk_fr.rf
  unfold B_Model_makes_0 at hF
  obtain ⟨S1, gS1, hF⟩ := fr_w g0 (by decide) hF
  obtain ⟨S2, gS2, hF⟩ := fr_w gS1 (by decide) hF
  obtain ⟨S3, gS3, hF⟩ := fr_w gS2 (by decide) hF
  obtain ⟨S4, gS4, hF⟩ := fr_w gS3 (by decide) hF
  obtain ⟨S5, gS5, hF⟩ := fr_w gS4 (by decide) hF
  obtain ⟨S6, gS6, hF⟩ := fr_w gS5 (by decide) hF
  obtain ⟨S7, gS7, hF⟩ := fr_w gS6 (by decide) hF
  obtain ⟨S8, gS8, hF⟩ := fr_w gS7 (by decide) hF
  obtain ⟨S9, gS9, hF⟩ := fr_p gS8 (by decide) hF
  exact fr_rtv hF gS9
theorem fr_Model_makes {n : Nat} {x1 : Int32} {x2 : Int32} {x3 : Int32} {x4 : Int32} {x5 : Int32} {x6 : Int32} {S : dk_S} {res : dk_S}  (h : F_Model_makes n x1 x2 x3 x4 x5 x6 S = some res) : dk_fr [18, 19, 20, 21, 22, 23, 24, 25, 26] S res := fb_Model_makes_0 (n := n)  h
theorem fb_Model_crosses_50 {n : Nat} {res : dk_S}  {x1 : Int32} {x2 : Int32} {x3 : Int32} {u1 : Int32} {u2 : Int32} {S : dk_S}  (hF : B_Model_crosses_50 n  x1 x2 x3 u1 u2 S = some res) : dk_fr [18, 19, 20, 21, 22, 23, 24, 25, 26, 27, 28] S res := by
  have g0 : dk_fr [18, 19, 20, 21, 22, 23, 24, 25, 26, 27, 28] S S := dk_fr.rf
  unfold B_Model_crosses_50 at hF
  obtain ⟨S1, gS1, hF⟩ := fr_w g0 (by decide) hF
  obtain ⟨S2, gS2, hF⟩ := fr_w gS1 (by decide) hF
  obtain ⟨v3, hF⟩ := fr_r hF
  rcases fr_if hF with hF | hF
  · exact fr_rtv hF gS2
  · obtain ⟨v4, hF⟩ := fr_r hF
    obtain ⟨S5, gS5, hF⟩ := fr_cv gS2 (fun _ h => fr_Model_makes h) (by decide) hF
    exact fr_rtv hF gS5
theorem fb_Model_crosses_0 {n : Nat} {res : dk_S}  {x1 : Int32} {x2 : Int32} {x3 : Int32} {S : dk_S}  (hF : B_Model_crosses_0 n  x1 x2 x3 S = some res) : dk_fr [18, 19, 20, 21, 22, 23, 24, 25, 26, 27, 28] S res := by
  have g0 : dk_fr [18, 19, 20, 21, 22, 23, 24, 25, 26, 27, 28] S S := dk_fr.rf
  unfold B_Model_crosses_0 at hF
  obtain ⟨v7, hF⟩ := fr_r hF
  rcases fr_if hF with hF | hF
  · exact fr_rtv hF g0
  · obtain ⟨v8, hF⟩ := fr_r hF
    rcases fr_if hF with hF | hF
    · obtain ⟨v9, hF⟩ := fr_r hF
      obtain ⟨v10, hF⟩ := fr_r hF
      rcases fr_if hF with hF | hF
      · obtain ⟨v11, hF⟩ := fr_r hF
        exact g0.tr (fb_Model_crosses_50 (n := n)   hF)
      · exact g0.tr (fb_Model_crosses_50 (n := n)   hF)
    · exact fr_rtv hF g0
theorem fr_Model_crosses {n : Nat} {x1 : Int32} {x2 : Int32} {x3 : Int32} {S : dk_S} {res : dk_S}  (h : F_Model_crosses n x1 x2 x3 S = some res) : dk_fr [18, 19, 20, 21, 22, 23, 24, 25, 26, 27, 28] S res := fb_Model_crosses_0 (n := n)  h
theorem fb_Model_isHeldBy_0 {n : Nat} {res : (Int32 × dk_S)}  {x1 : Int32} {x2 : Int32} {x3 : Int32} {S : dk_S}  (hF : B_Model_isHeldBy_0 n  x1 x2 x3 S = some res) : dk_fr [] S res.2 := by
  have g0 : dk_fr [] S S := dk_fr.rf
  unfold B_Model_isHeldBy_0 at hF
  obtain ⟨v1, hF⟩ := fr_r hF
  rcases fr_if hF with hF | hF
  · have hF := (dk_b_out hF).2
    exact fr_rt hF g0
  · obtain ⟨v2, hF⟩ := fr_r hF
    rcases fr_if hF with hF | hF
    · have hF := (dk_b_out hF).2
      exact fr_rt hF g0
    · obtain ⟨v3, hF⟩ := fr_r hF
      rcases fr_if hF with hF | hF
      · have hF := (dk_b_out hF).2
        exact fr_rt hF g0
      · have hF := (dk_b_out hF).2
        exact fr_rt hF g0
theorem fr_Model_isHeldBy {n : Nat} {x1 : Int32} {x2 : Int32} {x3 : Int32} {S : dk_S} {res : (Int32 × dk_S)}  (h : F_Model_isHeldBy n x1 x2 x3 S = some res) : dk_fr [] S res.2 := fb_Model_isHeldBy_0 (n := n)  h
theorem fb_Model_passes_68 {n : Nat} {res : dk_S}  {u1 : Int32} {u2 : Int32} {u3 : Int32} {u4 : Int32} {u5 : Int32} {S : dk_S}  (hF : B_Model_passes_68 n  u1 u2 u3 u4 u5 S = some res) : dk_fr [18, 19, 20, 21, 22, 23, 24, 25, 26, 27, 28, 29] S res := by
  have g0 : dk_fr [18, 19, 20, 21, 22, 23, 24, 25, 26, 27, 28, 29] S S := dk_fr.rf
  unfold B_Model_passes_68 at hF
  obtain ⟨S1, gS1, hF⟩ := fr_cv g0 (fun _ h => fr_Model_makes h) (by decide) hF
  exact fr_rtv hF gS1
theorem fb_Model_passes_106 {n : Nat} {res : dk_S}  {u1 : Int32} {u2 : Int32} {u3 : Int32} {u4 : Int32} {u5 : Int32} {S : dk_S}  (hF : B_Model_passes_106 n  u1 u2 u3 u4 u5 S = some res) : dk_fr [18, 19, 20, 21, 22, 23, 24, 25, 26, 27, 28, 29] S res := by
  have g0 : dk_fr [18, 19, 20, 21, 22, 23, 24, 25, 26, 27, 28, 29] S S := dk_fr.rf
  unfold B_Model_passes_106 at hF
  obtain ⟨S3, gS3, hF⟩ := fr_cv g0 (fun _ h => fr_Model_makes h) (by decide) hF
  exact fr_rtv hF gS3
theorem fb_Model_passes_88 {n : Nat} {res : dk_S}  {x2 : Int32} {x3 : Int32} {x4 : Int32} {x5 : Int32} {S : dk_S}  (hF : B_Model_passes_88 n  x2 x3 x4 x5 S = some res) : dk_fr [18, 19, 20, 21, 22, 23, 24, 25, 26, 27, 28, 29] S res := by
  have g0 : dk_fr [18, 19, 20, 21, 22, 23, 24, 25, 26, 27, 28, 29] S S := dk_fr.rf
  unfold B_Model_passes_88 at hF
  rcases fr_if hF with hF | hF
  · exact g0.tr (fb_Model_passes_106 (n := n)   hF)
  · exact g0.tr (fb_Model_passes_106 (n := n)   hF)
theorem fb_Model_passes_261 {n : Nat} {res : dk_S} {k138 : Int32 → Int32 → Int32 → Int32 → Int32 → Int32 → dk_S → Option dk_S} (hk138 : ∀ (x1 : Int32) (x2 : Int32) (x3 : Int32) (x4 : Int32) (x5 : Int32) (x6 : Int32)  (S : dk_S), k138 x1 x2 x3 x4 x5 x6 S = some res → dk_fr [18, 19, 20, 21, 22, 23, 24, 25, 26, 27, 28, 29] S res) {x1 : Int32} {x2 : Int32} {x3 : Int32} {x4 : Int32} {x5 : Int32} {x6 : Int32} {S : dk_S}  (hF : B_Model_passes_261 n k138 x1 x2 x3 x4 x5 x6 S = some res) : dk_fr [18, 19, 20, 21, 22, 23, 24, 25, 26, 27, 28, 29] S res := by
  have g0 : dk_fr [18, 19, 20, 21, 22, 23, 24, 25, 26, 27, 28, 29] S S := dk_fr.rf
  unfold B_Model_passes_261 at hF
  exact g0.tr (hk138 x1 x2 x3 x4 x5 (x6 + (1 : Int32)) S hF)
theorem fb_Model_passes_253 {n : Nat} {res : dk_S} {k138 : Int32 → Int32 → Int32 → Int32 → Int32 → Int32 → dk_S → Option dk_S} (hk138 : ∀ (x1 : Int32) (x2 : Int32) (x3 : Int32) (x4 : Int32) (x5 : Int32) (x6 : Int32)  (S : dk_S), k138 x1 x2 x3 x4 x5 x6 S = some res → dk_fr [18, 19, 20, 21, 22, 23, 24, 25, 26, 27, 28, 29] S res) {x1 : Int32} {x2 : Int32} {x3 : Int32} {x4 : Int32} {x5 : Int32} {x6 : Int32} {S : dk_S}  (hF : B_Model_passes_253 n k138 x1 x2 x3 x4 x5 x6 S = some res) : dk_fr [18, 19, 20, 21, 22, 23, 24, 25, 26, 27, 28, 29] S res := by
  have g0 : dk_fr [18, 19, 20, 21, 22, 23, 24, 25, 26, 27, 28, 29] S S := dk_fr.rf
  unfold B_Model_passes_253 at hF
  obtain ⟨S5, gS5, hF⟩ := fr_w g0 (by decide) hF
  exact gS5.tr (fb_Model_passes_261 (n := n) hk138  hF)
theorem fb_Model_passes_235 {n : Nat} {res : dk_S} {k138 : Int32 → Int32 → Int32 → Int32 → Int32 → Int32 → dk_S → Option dk_S} (hk138 : ∀ (x1 : Int32) (x2 : Int32) (x3 : Int32) (x4 : Int32) (x5 : Int32) (x6 : Int32)  (S : dk_S), k138 x1 x2 x3 x4 x5 x6 S = some res → dk_fr [18, 19, 20, 21, 22, 23, 24, 25, 26, 27, 28, 29] S res) {x1 : Int32} {x2 : Int32} {x3 : Int32} {x4 : Int32} {x5 : Int32} {x6 : Int32} {S : dk_S}  (hF : B_Model_passes_235 n k138 x1 x2 x3 x4 x5 x6 S = some res) : dk_fr [18, 19, 20, 21, 22, 23, 24, 25, 26, 27, 28, 29] S res := by
  have g0 : dk_fr [18, 19, 20, 21, 22, 23, 24, 25, 26, 27, 28, 29] S S := dk_fr.rf
  unfold B_Model_passes_235 at hF
  rcases fr_if hF with hF | hF
  · exact g0.tr (fb_Model_passes_261 (n := n) hk138  hF)
  · obtain ⟨r7, S6, gS6, hF⟩ := fr_c g0 (fun _ h => fr_Model_isHeldBy h) (by decide) hF
    rcases fr_if hF with hF | hF
    · exact gS6.tr (fb_Model_passes_261 (n := n) hk138  hF)
    · exact gS6.tr (fb_Model_passes_253 (n := n) hk138  hF)
theorem fb_Model_passes_195 {n : Nat} {res : dk_S} {k138 : Int32 → Int32 → Int32 → Int32 → Int32 → Int32 → dk_S → Option dk_S} (hk138 : ∀ (x1 : Int32) (x2 : Int32) (x3 : Int32) (x4 : Int32) (x5 : Int32) (x6 : Int32)  (S : dk_S), k138 x1 x2 x3 x4 x5 x6 S = some res → dk_fr [18, 19, 20, 21, 22, 23, 24, 25, 26, 27, 28, 29] S res) {x1 : Int32} {x2 : Int32} {x3 : Int32} {x4 : Int32} {x5 : Int32} {x6 : Int32} {S : dk_S}  (hF : B_Model_passes_195 n k138 x1 x2 x3 x4 x5 x6 S = some res) : dk_fr [18, 19, 20, 21, 22, 23, 24, 25, 26, 27, 28, 29] S res := by
  have g0 : dk_fr [18, 19, 20, 21, 22, 23, 24, 25, 26, 27, 28, 29] S S := dk_fr.rf
  unfold B_Model_passes_195 at hF
  rcases fr_if hF with hF | hF
  · exact g0.tr (fb_Model_passes_235 (n := n) hk138  hF)
  · obtain ⟨v8, hF⟩ := fr_r hF
    rcases fr_if hF with hF | hF
    · exact g0.tr (fb_Model_passes_235 (n := n) hk138  hF)
    · obtain ⟨v9, hF⟩ := fr_r hF
      rcases fr_if hF with hF | hF
      · exact g0.tr (fb_Model_passes_235 (n := n) hk138  hF)
      · obtain ⟨v10, hF⟩ := fr_r hF
        rcases fr_if hF with hF | hF
        · exact g0.tr (fb_Model_passes_253 (n := n) hk138  hF)
        · exact g0.tr (fb_Model_passes_235 (n := n) hk138  hF)
theorem fb_Model_passes_319 {n : Nat} {res : dk_S} {k270 : Int32 → Int32 → Int32 → Int32 → Int32 → dk_S → Option dk_S} (hk270 : ∀ (x1 : Int32) (x2 : Int32) (x3 : Int32) (x5 : Int32) (x6 : Int32)  (S : dk_S), k270 x1 x2 x3 x5 x6 S = some res → dk_fr [18, 19, 20, 21, 22, 23, 24, 25, 26, 27, 28, 29] S res) {x1 : Int32} {x2 : Int32} {x3 : Int32} {x5 : Int32} {x6 : Int32} {u1 : Int32} {u2 : Int32} {S : dk_S}  (hF : B_Model_passes_319 n k270 x1 x2 x3 x5 x6 u1 u2 S = some res) : dk_fr [18, 19, 20, 21, 22, 23, 24, 25, 26, 27, 28, 29] S res := by
  have g0 : dk_fr [18, 19, 20, 21, 22, 23, 24, 25, 26, 27, 28, 29] S S := dk_fr.rf
  unfold B_Model_passes_319 at hF
  obtain ⟨S11, gS11, hF⟩ := fr_w g0 (by decide) hF
  exact gS11.tr (hk270 x1 x2 x3 x5 (x6 + (1 : Int32)) S11 hF)
theorem fb_Model_passes_352 {n : Nat} {res : dk_S}  {u1 : Int32} {u2 : Int32} {S : dk_S}  (hF : B_Model_passes_352 n  u1 u2 S = some res) : dk_fr [18, 19, 20, 21, 22, 23, 24, 25, 26, 27, 28, 29] S res := by
  have g0 : dk_fr [18, 19, 20, 21, 22, 23, 24, 25, 26, 27, 28, 29] S S := dk_fr.rf
  unfold B_Model_passes_352 at hF
  obtain ⟨S12, gS12, hF⟩ := fr_w g0 (by decide) hF
  exact fr_rtv hF gS12
theorem fb_Model_passes_347 {n : Nat} {res : dk_S}  {u1 : Int32} {S : dk_S}  (hF : B_Model_passes_347 n  u1 S = some res) : dk_fr [18, 19, 20, 21, 22, 23, 24, 25, 26, 27, 28, 29] S res := by
  have g0 : dk_fr [18, 19, 20, 21, 22, 23, 24, 25, 26, 27, 28, 29] S S := dk_fr.rf
  unfold B_Model_passes_347 at hF
  exact g0.tr (fb_Model_passes_352 (n := n)   hF)
theorem fb_Model_passes_326 {n : Nat} {res : dk_S}  {x2 : Int32} {x5 : Int32} {S : dk_S}  (hF : B_Model_passes_326 n  x2 x5 S = some res) : dk_fr [18, 19, 20, 21, 22, 23, 24, 25, 26, 27, 28, 29] S res := by
  have g0 : dk_fr [18, 19, 20, 21, 22, 23, 24, 25, 26, 27, 28, 29] S S := dk_fr.rf
  unfold B_Model_passes_326 at hF
  obtain ⟨v13, hF⟩ := fr_r hF
  rcases fr_if hF with hF | hF
  · exact g0.tr (fb_Model_passes_347 (n := n)   hF)
  · rcases fr_if hF with hF | hF
    · exact g0.tr (fb_Model_passes_352 (n := n)   hF)
    · exact g0.tr (fb_Model_passes_347 (n := n)   hF)
theorem fb_Model_passes_270b {n : Nat} {res : dk_S} {k270 : Int32 → Int32 → Int32 → Int32 → Int32 → dk_S → Option dk_S} (hk270 : ∀ (x1 : Int32) (x2 : Int32) (x3 : Int32) (x5 : Int32) (x6 : Int32)  (S : dk_S), k270 x1 x2 x3 x5 x6 S = some res → dk_fr [18, 19, 20, 21, 22, 23, 24, 25, 26, 27, 28, 29] S res) {x1 : Int32} {x2 : Int32} {x3 : Int32} {x5 : Int32} {x6 : Int32} {S : dk_S}  (hF : B_Model_passes_270b n k270 x1 x2 x3 x5 x6 S = some res) : dk_fr [18, 19, 20, 21, 22, 23, 24, 25, 26, 27, 28, 29] S res := by
  have g0 : dk_fr [18, 19, 20, 21, 22, 23, 24, 25, 26, 27, 28, 29] S S := dk_fr.rf
  unfold B_Model_passes_270b at hF
  rcases fr_if hF with hF | hF
  · exact g0.tr (fb_Model_passes_326 (n := n)   hF)
  · rcases fr_if hF with hF | hF
    · exact g0.tr (fb_Model_passes_326 (n := n)   hF)
    · obtain ⟨r15, S14, gS14, hF⟩ := fr_c g0 (fun _ h => fr_Model_isHeldBy h) (by decide) hF
      rcases fr_if hF with hF | hF
      · obtain ⟨v16, hF⟩ := fr_r hF
        exact gS14.tr (fb_Model_passes_319 (n := n) hk270  hF)
      · obtain ⟨v17, hF⟩ := fr_r hF
        exact gS14.tr (fb_Model_passes_319 (n := n) hk270  hF)
theorem fb_Model_passes_270 {n : Nat} {res : dk_S}  : ∀ (q : Nat) (x1 : Int32) (x2 : Int32) (x3 : Int32) (x5 : Int32) (x6 : Int32)  (S : dk_S), B_Model_passes_270 n  q x1 x2 x3 x5 x6 S = some res → dk_fr [18, 19, 20, 21, 22, 23, 24, 25, 26, 27, 28, 29] S res := by
  intro q
  induction q with
  | zero => intro x1 x2 x3 x5 x6  S hF; cases hF
  | succ q ih => intro x1 x2 x3 x5 x6  S hF; exact fb_Model_passes_270b (n := n) ih  hF
theorem fb_Model_passes_138b {n : Nat} {res : dk_S} {k138 : Int32 → Int32 → Int32 → Int32 → Int32 → Int32 → dk_S → Option dk_S} (hk138 : ∀ (x1 : Int32) (x2 : Int32) (x3 : Int32) (x4 : Int32) (x5 : Int32) (x6 : Int32)  (S : dk_S), k138 x1 x2 x3 x4 x5 x6 S = some res → dk_fr [18, 19, 20, 21, 22, 23, 24, 25, 26, 27, 28, 29] S res) {x1 : Int32} {x2 : Int32} {x3 : Int32} {x4 : Int32} {x5 : Int32} {x6 : Int32} {S : dk_S}  (hF : B_Model_passes_138b n k138 x1 x2 x3 x4 x5 x6 S = some res) : dk_fr [18, 19, 20, 21, 22, 23, 24, 25, 26, 27, 28, 29] S res := by
  have g0 : dk_fr [18, 19, 20, 21, 22, 23, 24, 25, 26, 27, 28, 29] S S := dk_fr.rf
  unfold B_Model_passes_138b at hF
  rcases fr_if hF with hF | hF
  · exact g0.tr (fb_Model_passes_270 (n := n)  n x1 x2 x3 x5 (0 : Int32) S hF)
  · rcases fr_if hF with hF | hF
    · exact g0.tr (fb_Model_passes_195 (n := n) hk138  hF)
    · obtain ⟨v18, hF⟩ := fr_r hF
      rcases fr_if hF with hF | hF
      · exact g0.tr (fb_Model_passes_195 (n := n) hk138  hF)
      · obtain ⟨v19, hF⟩ := fr_r hF
        rcases fr_if hF with hF | hF
        · exact g0.tr (fb_Model_passes_195 (n := n) hk138  hF)
        · obtain ⟨v20, hF⟩ := fr_r hF
          rcases fr_if hF with hF | hF
          · exact g0.tr (fb_Model_passes_195 (n := n) hk138  hF)
          · obtain ⟨S21, gS21, hF⟩ := fr_w g0 (by decide) hF
            exact gS21.tr (fb_Model_passes_195 (n := n) hk138  hF)
theorem fb_Model_passes_138 {n : Nat} {res : dk_S}  : ∀ (q : Nat) (x1 : Int32) (x2 : Int32) (x3 : Int32) (x4 : Int32) (x5 : Int32) (x6 : Int32)  (S : dk_S), B_Model_passes_138 n  q x1 x2 x3 x4 x5 x6 S = some res → dk_fr [18, 19, 20, 21, 22, 23, 24, 25, 26, 27, 28, 29] S res := by
  intro q
  induction q with
  | zero => intro x1 x2 x3 x4 x5 x6  S hF; cases hF
  | succ q ih => intro x1 x2 x3 x4 x5 x6  S hF; exact fb_Model_passes_138b (n := n) ih  hF
theorem fb_Model_passes_0 {n : Nat} {res : dk_S}  {x1 : Int32} {S : dk_S}  (hF : B_Model_passes_0 n  x1 S = some res) : dk_fr [18, 19, 20, 21, 22, 23, 24, 25, 26, 27, 28, 29] S res := by
  have g0 : dk_fr [18, 19, 20, 21, 22, 23, 24, 25, 26, 27, 28, 29] S S := dk_fr.rf
  unfold B_Model_passes_0 at hF
  obtain ⟨v22, hF⟩ := fr_r hF
  obtain ⟨v23, hF⟩ := fr_r hF
  obtain ⟨v24, hF⟩ := fr_r hF
  obtain ⟨v25, hF⟩ := fr_r hF
  rcases fr_if hF with hF | hF
  · rcases fr_if hF with hF | hF
    · exact g0.tr (fb_Model_passes_88 (n := n)   hF)
    · rcases fr_if hF with hF | hF
      · rcases fr_if hF with hF | hF
        · exact g0.tr (fb_Model_passes_138 (n := n)  n x1 v22 v23 v24 v25 (0 : Int32) S hF)
        · obtain ⟨v26, hF⟩ := fr_r hF
          obtain ⟨S27, gS27, hF⟩ := fr_cv g0 (fun _ h => fr_Model_crosses h) (by decide) hF
          exact fr_rtv hF gS27
      · exact g0.tr (fb_Model_passes_88 (n := n)   hF)
  · obtain ⟨v29, hF⟩ := fr_r hF
    rcases fr_if hF with hF | hF
    · exact fr_rtv hF g0
    · rcases fr_if hF with hF | hF
      · exact g0.tr (fb_Model_passes_68 (n := n)   hF)
      · obtain ⟨v30, hF⟩ := fr_r hF
        exact g0.tr (fb_Model_passes_68 (n := n)   hF)
theorem fr_Model_passes {n : Nat} {x1 : Int32} {S : dk_S} {res : dk_S}  (h : F_Model_passes n x1 S = some res) : dk_fr [18, 19, 20, 21, 22, 23, 24, 25, 26, 27, 28, 29] S res := fb_Model_passes_0 (n := n)  h
theorem fb_Model_works_111 {n : Nat} {res : dk_S} {k12 : Int32 → Int32 → Int32 → dk_S → Option dk_S} (hk12 : ∀ (x1 : Int32) (x2 : Int32) (x3 : Int32)  (S : dk_S), k12 x1 x2 x3 S = some res → dk_fr [18, 19, 20, 21, 22, 23, 24, 25, 26, 27, 28, 29, 30] S res) {x1 : Int32} {x2 : Int32} {x3 : Int32} {S : dk_S}  (hF : B_Model_works_111 n k12 x1 x2 x3 S = some res) : dk_fr [18, 19, 20, 21, 22, 23, 24, 25, 26, 27, 28, 29, 30] S res := by
  have g0 : dk_fr [18, 19, 20, 21, 22, 23, 24, 25, 26, 27, 28, 29, 30] S S := dk_fr.rf
  unfold B_Model_works_111 at hF
  exact g0.tr (hk12 x1 x2 (x3 + (1 : Int32)) S hF)
theorem fb_Model_works_71 {n : Nat} {res : dk_S} {k12 : Int32 → Int32 → Int32 → dk_S → Option dk_S} (hk12 : ∀ (x1 : Int32) (x2 : Int32) (x3 : Int32)  (S : dk_S), k12 x1 x2 x3 S = some res → dk_fr [18, 19, 20, 21, 22, 23, 24, 25, 26, 27, 28, 29, 30] S res) {x1 : Int32} {x2 : Int32} {x3 : Int32} {S : dk_S}  (hF : B_Model_works_71 n k12 x1 x2 x3 S = some res) : dk_fr [18, 19, 20, 21, 22, 23, 24, 25, 26, 27, 28, 29, 30] S res := by
  have g0 : dk_fr [18, 19, 20, 21, 22, 23, 24, 25, 26, 27, 28, 29, 30] S S := dk_fr.rf
  unfold B_Model_works_71 at hF
  obtain ⟨v1, hF⟩ := fr_r hF
  obtain ⟨v2, hF⟩ := fr_r hF
  rcases fr_if hF with hF | hF
  · exact g0.tr (fb_Model_works_111 (n := n) hk12  hF)
  · obtain ⟨v3, hF⟩ := fr_r hF
    obtain ⟨v4, hF⟩ := fr_r hF
    obtain ⟨v5, hF⟩ := fr_r hF
    obtain ⟨S6, gS6, hF⟩ := fr_cv g0 (fun _ h => fr_Model_makes h) (by decide) hF
    exact gS6.tr (fb_Model_works_111 (n := n) hk12  hF)
theorem fb_Model_works_147 {n : Nat} {res : dk_S} {k119 : Int32 → Int32 → Int32 → dk_S → Option dk_S} (hk119 : ∀ (x1 : Int32) (x2 : Int32) (x3 : Int32)  (S : dk_S), k119 x1 x2 x3 S = some res → dk_fr [18, 19, 20, 21, 22, 23, 24, 25, 26, 27, 28, 29, 30] S res) {x1 : Int32} {x2 : Int32} {x3 : Int32} {S : dk_S}  (hF : B_Model_works_147 n k119 x1 x2 x3 S = some res) : dk_fr [18, 19, 20, 21, 22, 23, 24, 25, 26, 27, 28, 29, 30] S res := by
  have g0 : dk_fr [18, 19, 20, 21, 22, 23, 24, 25, 26, 27, 28, 29, 30] S S := dk_fr.rf
  unfold B_Model_works_147 at hF
  exact g0.tr (hk119 x1 x2 (x3 + (1 : Int32)) S hF)
theorem fb_Model_works_119b {n : Nat} {res : dk_S} {k119 : Int32 → Int32 → Int32 → dk_S → Option dk_S} (hk119 : ∀ (x1 : Int32) (x2 : Int32) (x3 : Int32)  (S : dk_S), k119 x1 x2 x3 S = some res → dk_fr [18, 19, 20, 21, 22, 23, 24, 25, 26, 27, 28, 29, 30] S res) {x1 : Int32} {x2 : Int32} {x3 : Int32} {S : dk_S}  (hF : B_Model_works_119b n k119 x1 x2 x3 S = some res) : dk_fr [18, 19, 20, 21, 22, 23, 24, 25, 26, 27, 28, 29, 30] S res := by
  have g0 : dk_fr [18, 19, 20, 21, 22, 23, 24, 25, 26, 27, 28, 29, 30] S S := dk_fr.rf
  unfold B_Model_works_119b at hF
  rcases fr_if hF with hF | hF
  · exact fr_rtv hF g0
  · rcases fr_if hF with hF | hF
    · exact g0.tr (fb_Model_works_147 (n := n) hk119  hF)
    · obtain ⟨S8, gS8, hF⟩ := fr_cv g0 (fun _ h => fr_Model_passes h) (by decide) hF
      obtain ⟨v10, hF⟩ := fr_r hF
      obtain ⟨S11, gS11, hF⟩ := fr_p gS8 (by decide) hF
      exact gS11.tr (fb_Model_works_147 (n := n) hk119  hF)
theorem fb_Model_works_119 {n : Nat} {res : dk_S}  : ∀ (q : Nat) (x1 : Int32) (x2 : Int32) (x3 : Int32)  (S : dk_S), B_Model_works_119 n  q x1 x2 x3 S = some res → dk_fr [18, 19, 20, 21, 22, 23, 24, 25, 26, 27, 28, 29, 30] S res := by
  intro q
  induction q with
  | zero => intro x1 x2 x3  S hF; cases hF
  | succ q ih => intro x1 x2 x3  S hF; exact fb_Model_works_119b (n := n) ih  hF
theorem fb_Model_works_12b {n : Nat} {res : dk_S} {k12 : Int32 → Int32 → Int32 → dk_S → Option dk_S} (hk12 : ∀ (x1 : Int32) (x2 : Int32) (x3 : Int32)  (S : dk_S), k12 x1 x2 x3 S = some res → dk_fr [18, 19, 20, 21, 22, 23, 24, 25, 26, 27, 28, 29, 30] S res) {x1 : Int32} {x2 : Int32} {x3 : Int32} {S : dk_S}  (hF : B_Model_works_12b n k12 x1 x2 x3 S = some res) : dk_fr [18, 19, 20, 21, 22, 23, 24, 25, 26, 27, 28, 29, 30] S res := by
  have g0 : dk_fr [18, 19, 20, 21, 22, 23, 24, 25, 26, 27, 28, 29, 30] S S := dk_fr.rf
  unfold B_Model_works_12b at hF
  rcases fr_if hF with hF | hF
  · exact g0.tr (fb_Model_works_119 (n := n)  n x1 x2 (0 : Int32) S hF)
  · obtain ⟨v12, hF⟩ := fr_r hF
    obtain ⟨S13, gS13, hF⟩ := fr_w g0 (by decide) hF
    obtain ⟨S14, gS14, hF⟩ := fr_w gS13 (by decide) hF
    obtain ⟨S15, gS15, hF⟩ := fr_w gS14 (by decide) hF
    obtain ⟨v16, hF⟩ := fr_r hF
    rcases fr_if hF with hF | hF
    · exact gS15.tr (fb_Model_works_71 (n := n) hk12  hF)
    · obtain ⟨v17, hF⟩ := fr_r hF
      obtain ⟨S18, gS18, hF⟩ := fr_cv gS15 (fun _ h => fr_Model_makes h) (by decide) hF
      exact gS18.tr (fb_Model_works_71 (n := n) hk12  hF)
theorem fb_Model_works_12 {n : Nat} {res : dk_S}  : ∀ (q : Nat) (x1 : Int32) (x2 : Int32) (x3 : Int32)  (S : dk_S), B_Model_works_12 n  q x1 x2 x3 S = some res → dk_fr [18, 19, 20, 21, 22, 23, 24, 25, 26, 27, 28, 29, 30] S res := by
  intro q
  induction q with
  | zero => intro x1 x2 x3  S hF; cases hF
  | succ q ih => intro x1 x2 x3  S hF; exact fb_Model_works_12b (n := n) ih  hF
theorem fb_Model_works_0 {n : Nat} {res : dk_S}  {x1 : Int32} {x2 : Int32} {S : dk_S}  (hF : B_Model_works_0 n  x1 x2 S = some res) : dk_fr [18, 19, 20, 21, 22, 23, 24, 25, 26, 27, 28, 29, 30] S res := by
  have g0 : dk_fr [18, 19, 20, 21, 22, 23, 24, 25, 26, 27, 28, 29, 30] S S := dk_fr.rf
  unfold B_Model_works_0 at hF
  obtain ⟨S20, gS20, hF⟩ := fr_p g0 (by decide) hF
  obtain ⟨S21, gS21, hF⟩ := fr_p gS20 (by decide) hF
  exact gS21.tr (fb_Model_works_12 (n := n)  n x1 x2 (0 : Int32) S21 hF)
theorem fr_Model_works {n : Nat} {x1 : Int32} {x2 : Int32} {S : dk_S} {res : dk_S}  (h : F_Model_works n x1 x2 S = some res) : dk_fr [18, 19, 20, 21, 22, 23, 24, 25, 26, 27, 28, 29, 30] S res := fb_Model_works_0 (n := n)  h
theorem fb_Model_claims_0 {n : Nat} {res : (Int32 × dk_S)}  {x1 : Int32} {S : dk_S}  (hF : B_Model_claims_0 n  x1 S = some res) : dk_fr [18, 19, 20, 21, 22, 23, 24, 25, 26, 27, 28, 29, 30] S res.2 := by
  have g0 : dk_fr [18, 19, 20, 21, 22, 23, 24, 25, 26, 27, 28, 29, 30] S S := dk_fr.rf
  unfold B_Model_claims_0 at hF
  obtain ⟨r2, S1, gS1, hF⟩ := fr_c g0 (fun _ h => fr_Model_in h) (by decide) hF
  rcases fr_if hF with hF | hF
  · obtain ⟨S3, gS3, hF⟩ := fr_cv gS1 (fun _ h => fr_Model_works h) (by decide) hF
    exact fr_rt hF gS3
  · exact fr_rt hF gS1
theorem fr_Model_claims {n : Nat} {x1 : Int32} {S : dk_S} {res : (Int32 × dk_S)}  (h : F_Model_claims n x1 S = some res) : dk_fr [18, 19, 20, 21, 22, 23, 24, 25, 26, 27, 28, 29, 30] S res.2 := fb_Model_claims_0 (n := n)  h
theorem fb_Model_isHeld_41 {n : Nat} {res : (Int32 × dk_S)} {k2 : Int32 → Int32 → dk_S → Option (Int32 × dk_S)} (hk2 : ∀ (x1 : Int32) (x2 : Int32)  (S : dk_S), k2 x1 x2 S = some res → dk_fr [] S res.2) {x1 : Int32} {x2 : Int32} {S : dk_S}  (hF : B_Model_isHeld_41 n k2 x1 x2 S = some res) : dk_fr [] S res.2 := by
  have g0 : dk_fr [] S S := dk_fr.rf
  unfold B_Model_isHeld_41 at hF
  exact g0.tr (hk2 x1 (x2 + (1 : Int32)) S hF)
theorem fb_Model_isHeld_2b {n : Nat} {res : (Int32 × dk_S)} {k2 : Int32 → Int32 → dk_S → Option (Int32 × dk_S)} (hk2 : ∀ (x1 : Int32) (x2 : Int32)  (S : dk_S), k2 x1 x2 S = some res → dk_fr [] S res.2) {x1 : Int32} {x2 : Int32} {S : dk_S}  (hF : B_Model_isHeld_2b n k2 x1 x2 S = some res) : dk_fr [] S res.2 := by
  have g0 : dk_fr [] S S := dk_fr.rf
  unfold B_Model_isHeld_2b at hF
  rcases fr_if hF with hF | hF
  · have hF := (dk_b_out hF).2
    exact fr_rt hF g0
  · obtain ⟨v1, hF⟩ := fr_r hF
    rcases fr_if hF with hF | hF
    · exact g0.tr (fb_Model_isHeld_41 (n := n) hk2  hF)
    · obtain ⟨v2, hF⟩ := fr_r hF
      rcases fr_if hF with hF | hF
      · exact g0.tr (fb_Model_isHeld_41 (n := n) hk2  hF)
      · obtain ⟨v3, hF⟩ := fr_r hF
        rcases fr_if hF with hF | hF
        · exact g0.tr (fb_Model_isHeld_41 (n := n) hk2  hF)
        · have hF := (dk_b_out hF).2
          exact fr_rt hF g0
theorem fb_Model_isHeld_2 {n : Nat} {res : (Int32 × dk_S)}  : ∀ (q : Nat) (x1 : Int32) (x2 : Int32)  (S : dk_S), B_Model_isHeld_2 n  q x1 x2 S = some res → dk_fr [] S res.2 := by
  intro q
  induction q with
  | zero => intro x1 x2  S hF; cases hF
  | succ q ih => intro x1 x2  S hF; exact fb_Model_isHeld_2b (n := n) ih  hF
theorem fb_Model_isHeld_0 {n : Nat} {res : (Int32 × dk_S)}  {x1 : Int32} {S : dk_S}  (hF : B_Model_isHeld_0 n  x1 S = some res) : dk_fr [] S res.2 := by
  have g0 : dk_fr [] S S := dk_fr.rf
  unfold B_Model_isHeld_0 at hF
  exact g0.tr (fb_Model_isHeld_2 (n := n)  n x1 (0 : Int32) S hF)
theorem fr_Model_isHeld {n : Nat} {x1 : Int32} {S : dk_S} {res : (Int32 × dk_S)}  (h : F_Model_isHeld n x1 S = some res) : dk_fr [] S res.2 := fb_Model_isHeld_0 (n := n)  h
theorem fb_Model_stands_142 {n : Nat} {res : (Int32 × dk_S)}  {x1 : Int32} {x2 : Int32} {S : dk_S}  (hF : B_Model_stands_142 n  x1 x2 S = some res) : dk_fr [49, 50] S res.2 := by
  have g0 : dk_fr [49, 50] S S := dk_fr.rf
  unfold B_Model_stands_142 at hF
  obtain ⟨v1, hF⟩ := fr_r hF
  obtain ⟨v2, hF⟩ := fr_r hF
  obtain ⟨r4, S3, gS3, hF⟩ := fr_c g0 (fun _ h => fr_Model_mayFollow h) (by decide) hF
  rcases fr_if hF with hF | hF
  · have hF := (dk_b_out hF).2
    exact fr_rt hF gS3
  · have hF := (dk_b_out hF).2
    exact fr_rt hF gS3
theorem fb_Model_stands_0 {n : Nat} {res : (Int32 × dk_S)}  {x1 : Int32} {S : dk_S}  (hF : B_Model_stands_0 n  x1 S = some res) : dk_fr [49, 50] S res.2 := by
  have g0 : dk_fr [49, 50] S S := dk_fr.rf
  unfold B_Model_stands_0 at hF
  obtain ⟨v5, hF⟩ := fr_r hF
  rcases fr_if hF with hF | hF
  · obtain ⟨v6, hF⟩ := fr_r hF
    obtain ⟨v7, hF⟩ := fr_r hF
    rcases fr_if hF with hF | hF
    · obtain ⟨v8, hF⟩ := fr_r hF
      rcases fr_if hF with hF | hF
      · have hF := (dk_b_out hF).2
        exact fr_rt hF g0
      · have hF := (dk_b_out hF).2
        exact fr_rt hF g0
    · rcases fr_if hF with hF | hF
      · obtain ⟨v9, hF⟩ := fr_r hF
        rcases fr_if hF with hF | hF
        · have hF := (dk_b_out hF).2
          exact fr_rt hF g0
        · obtain ⟨v10, hF⟩ := fr_r hF
          obtain ⟨v11, hF⟩ := fr_r hF
          obtain ⟨r13, S12, gS12, hF⟩ := fr_c g0 (fun _ h => fr_Model_mayFollow h) (by decide) hF
          rcases fr_if hF with hF | hF
          · have hF := (dk_b_out hF).2
            exact fr_rt hF gS12
          · have hF := (dk_b_out hF).2
            exact fr_rt hF gS12
      · rcases fr_if hF with hF | hF
        · obtain ⟨v14, hF⟩ := fr_r hF
          rcases fr_if hF with hF | hF
          · exact g0.tr (fb_Model_stands_142 (n := n)   hF)
          · obtain ⟨v15, hF⟩ := fr_r hF
            obtain ⟨v16, hF⟩ := fr_r hF
            rcases fr_if hF with hF | hF
            · have hF := (dk_b_out hF).2
              exact fr_rt hF g0
            · exact g0.tr (fb_Model_stands_142 (n := n)   hF)
        · rcases fr_if hF with hF | hF
          · have hF := (dk_b_out hF).2
            exact fr_rt hF g0
          · rcases fr_if hF with hF | hF
            · obtain ⟨v17, hF⟩ := fr_r hF
              rcases fr_if hF with hF | hF
              · have hF := (dk_b_out hF).2
                exact fr_rt hF g0
              · obtain ⟨v18, hF⟩ := fr_r hF
                obtain ⟨v19, hF⟩ := fr_r hF
                rcases fr_if hF with hF | hF
                · have hF := (dk_b_out hF).2
                  exact fr_rt hF g0
                · obtain ⟨v20, hF⟩ := fr_r hF
                  obtain ⟨v21, hF⟩ := fr_r hF
                  obtain ⟨v22, hF⟩ := fr_r hF
                  rcases fr_if hF with hF | hF
                  · have hF := (dk_b_out hF).2
                    exact fr_rt hF g0
                  · obtain ⟨r24, S23, gS23, hF⟩ := fr_c g0 (fun _ h => fr_Model_isHeld h) (by decide) hF
                    rcases fr_if hF with hF | hF
                    · have hF := (dk_b_out hF).2
                      exact fr_rt hF gS23
                    · have hF := (dk_b_out hF).2
                      exact fr_rt hF gS23
            · obtain ⟨v25, hF⟩ := fr_r hF
              obtain ⟨v26, hF⟩ := fr_r hF
              rcases fr_if hF with hF | hF
              · have hF := (dk_b_out hF).2
                exact fr_rt hF g0
              · obtain ⟨v27, hF⟩ := fr_r hF
                rcases fr_if hF with hF | hF
                · have hF := (dk_b_out hF).2
                  exact fr_rt hF g0
                · have hF := (dk_b_out hF).2
                  exact fr_rt hF g0
  · have hF := (dk_b_out hF).2
    exact fr_rt hF g0
theorem fr_Model_stands {n : Nat} {x1 : Int32} {S : dk_S} {res : (Int32 × dk_S)}  (h : F_Model_stands n x1 S = some res) : dk_fr [49, 50] S res.2 := fb_Model_stands_0 (n := n)  h
theorem fb_Model_weight_0 {n : Nat} {res : (Int32 × dk_S)}  {x1 : Int32} {S : dk_S}  (hF : B_Model_weight_0 n  x1 S = some res) : dk_fr [] S res.2 := by
  have g0 : dk_fr [] S S := dk_fr.rf
  unfold B_Model_weight_0 at hF
  obtain ⟨v1, hF⟩ := fr_r hF
  rcases fr_if hF with hF | hF
  · rcases fr_if hF with hF | hF
    · rcases fr_if hF with hF | hF
      · rcases fr_if hF with hF | hF
        · rcases fr_if hF with hF | hF
          · obtain ⟨v2, hF⟩ := fr_r hF
            exact fr_rt hF g0
          · exact fr_rt hF g0
        · obtain ⟨v3, hF⟩ := fr_r hF
          exact fr_rt hF g0
      · obtain ⟨v4, hF⟩ := fr_r hF
        exact fr_rt hF g0
    · exact fr_rt hF g0
  · exact fr_rt hF g0
theorem fr_Model_weight {n : Nat} {x1 : Int32} {S : dk_S} {res : (Int32 × dk_S)}  (h : F_Model_weight n x1 S = some res) : dk_fr [] S res.2 := fb_Model_weight_0 (n := n)  h
theorem fb_Model_worthOf_55 {n : Nat} {res : (Int32 × dk_S)}  {x1 : Int32} {x2 : Int32} {u1 : Int32} {u2 : Int32} {u3 : Int32} {u4 : Int32} {S : dk_S}  (hF : B_Model_worthOf_55 n  x1 x2 u1 u2 u3 u4 S = some res) : dk_fr [49, 50] S res.2 := by
  have g0 : dk_fr [49, 50] S S := dk_fr.rf
  unfold B_Model_worthOf_55 at hF
  obtain ⟨v1, hF⟩ := fr_r hF
  obtain ⟨S2, gS2, hF⟩ := fr_cv g0 (fun _ h => fr_Model_names h) (by decide) hF
  obtain ⟨r5, S4, gS4, hF⟩ := fr_c gS2 (fun _ h => fr_Model_worth h) (by decide) hF
  rcases fr_if hF with hF | hF
  · rcases fr_if hF with hF | hF
    · exact fr_rt hF gS4
    · exact fr_rt hF gS4
  · exact fr_rt hF gS4
theorem fb_Model_worthOf_0 {n : Nat} {res : (Int32 × dk_S)}  {x1 : Int32} {S : dk_S}  (hF : B_Model_worthOf_0 n  x1 S = some res) : dk_fr [49, 50] S res.2 := by
  have g0 : dk_fr [49, 50] S S := dk_fr.rf
  unfold B_Model_worthOf_0 at hF
  obtain ⟨v6, hF⟩ := fr_r hF
  obtain ⟨v7, hF⟩ := fr_r hF
  obtain ⟨v8, hF⟩ := fr_r hF
  obtain ⟨r10, S9, gS9, hF⟩ := fr_c g0 (fun _ h => fr_Model_weight h) (by decide) hF
  obtain ⟨v11, hF⟩ := fr_r hF
  obtain ⟨v12, hF⟩ := fr_r hF
  obtain ⟨v13, hF⟩ := fr_r hF
  rcases fr_if hF with hF | hF
  · exact gS9.tr (fb_Model_worthOf_55 (n := n)   hF)
  · exact gS9.tr (fb_Model_worthOf_55 (n := n)   hF)
theorem fr_Model_worthOf {n : Nat} {x1 : Int32} {S : dk_S} {res : (Int32 × dk_S)}  (h : F_Model_worthOf n x1 S = some res) : dk_fr [49, 50] S res.2 := fb_Model_worthOf_0 (n := n)  h
theorem fb_Model_claimTold_0 {n : Nat} {res : (Int32 × dk_S)}  {x1 : Int32} {x2 : Int32} {x3 : Int32} {S : dk_S}  (hF : B_Model_claimTold_0 n  x1 x2 x3 S = some res) : dk_fr [18, 19, 20, 21, 22, 23, 24, 25, 26, 27, 28, 29, 30, 49, 50] S res.2 := by
  have g0 : dk_fr [18, 19, 20, 21, 22, 23, 24, 25, 26, 27, 28, 29, 30, 49, 50] S S := dk_fr.rf
  unfold B_Model_claimTold_0 at hF
  obtain ⟨r2, S1, gS1, hF⟩ := fr_c g0 (fun _ h => fr_Model_in h) (by decide) hF
  rcases fr_if hF with hF | hF
  · obtain ⟨S3, gS3, hF⟩ := fr_cv gS1 (fun _ h => fr_Model_works h) (by decide) hF
    obtain ⟨r6, S5, gS5, hF⟩ := fr_c gS3 (fun _ h => fr_Model_in h) (by decide) hF
    rcases fr_if hF with hF | hF
    · rcases fr_if hF with hF | hF
      · obtain ⟨v7, hF⟩ := fr_r hF
        exact fr_rt hF gS5
      · rcases fr_if hF with hF | hF
        · obtain ⟨v8, hF⟩ := fr_r hF
          exact fr_rt hF gS5
        · rcases fr_if hF with hF | hF
          · obtain ⟨v9, hF⟩ := fr_r hF
            exact fr_rt hF gS5
          · rcases fr_if hF with hF | hF
            · obtain ⟨v10, hF⟩ := fr_r hF
              exact fr_rt hF gS5
            · rcases fr_if hF with hF | hF
              · obtain ⟨v11, hF⟩ := fr_r hF
                exact fr_rt hF gS5
              · rcases fr_if hF with hF | hF
                · obtain ⟨r13, S12, gS12, hF⟩ := fr_c gS5 (fun _ h => fr_Model_stands h) (by decide) hF
                  rcases fr_if hF with hF | hF
                  · exact fr_rt hF gS12
                  · exact fr_rt hF gS12
                · rcases fr_if hF with hF | hF
                  · obtain ⟨r15, S14, gS14, hF⟩ := fr_c gS5 (fun _ h => fr_Model_weight h) (by decide) hF
                    exact fr_rt hF gS14
                  · rcases fr_if hF with hF | hF
                    · obtain ⟨r17, S16, gS16, hF⟩ := fr_c gS5 (fun _ h => fr_Model_worthOf h) (by decide) hF
                      exact fr_rt hF gS16
                    · exact fr_rt hF gS5
    · exact fr_rt hF gS5
  · exact fr_rt hF gS1
theorem fr_Model_claimTold {n : Nat} {x1 : Int32} {x2 : Int32} {x3 : Int32} {S : dk_S} {res : (Int32 × dk_S)}  (h : F_Model_claimTold n x1 x2 x3 S = some res) : dk_fr [18, 19, 20, 21, 22, 23, 24, 25, 26, 27, 28, 29, 30, 49, 50] S res.2 := fb_Model_claimTold_0 (n := n)  h
theorem fb_Model_winner_70 {n : Nat} {res : (Int32 × dk_S)} {k7 : Int32 → Int32 → Int32 → Int32 → dk_S → Option (Int32 × dk_S)} (hk7 : ∀ (x1 : Int32) (x2 : Int32) (x3 : Int32) (x4 : Int32)  (S : dk_S), k7 x1 x2 x3 x4 S = some res → dk_fr [49, 50] S res.2) {x1 : Int32} {x2 : Int32} {x3 : Int32} {x4 : Int32} {S : dk_S}  (hF : B_Model_winner_70 n k7 x1 x2 x3 x4 S = some res) : dk_fr [49, 50] S res.2 := by
  have g0 : dk_fr [49, 50] S S := dk_fr.rf
  unfold B_Model_winner_70 at hF
  exact g0.tr (hk7 x1 x2 x3 (x4 + (1 : Int32)) S hF)
theorem fb_Model_winner_69 {n : Nat} {res : (Int32 × dk_S)} {k7 : Int32 → Int32 → Int32 → Int32 → dk_S → Option (Int32 × dk_S)} (hk7 : ∀ (x1 : Int32) (x2 : Int32) (x3 : Int32) (x4 : Int32)  (S : dk_S), k7 x1 x2 x3 x4 S = some res → dk_fr [49, 50] S res.2) {x1 : Int32} {x2 : Int32} {x4 : Int32} {u0 : Int32} {S : dk_S}  (hF : B_Model_winner_69 n k7 x1 x2 x4 u0 S = some res) : dk_fr [49, 50] S res.2 := by
  have g0 : dk_fr [49, 50] S S := dk_fr.rf
  unfold B_Model_winner_69 at hF
  exact g0.tr (fb_Model_winner_70 (n := n) hk7  hF)
theorem fb_Model_winner_56 {n : Nat} {res : (Int32 × dk_S)} {k7 : Int32 → Int32 → Int32 → Int32 → dk_S → Option (Int32 × dk_S)} (hk7 : ∀ (x1 : Int32) (x2 : Int32) (x3 : Int32) (x4 : Int32)  (S : dk_S), k7 x1 x2 x3 x4 S = some res → dk_fr [49, 50] S res.2) {x1 : Int32} {x3 : Int32} {x4 : Int32} {x5 : Int32} {u0 : Int32} {S : dk_S}  (hF : B_Model_winner_56 n k7 x1 x3 x4 x5 u0 S = some res) : dk_fr [49, 50] S res.2 := by
  have g0 : dk_fr [49, 50] S S := dk_fr.rf
  unfold B_Model_winner_56 at hF
  rcases fr_if hF with hF | hF
  · exact g0.tr (fb_Model_winner_69 (n := n) hk7  hF)
  · exact g0.tr (fb_Model_winner_69 (n := n) hk7  hF)
theorem fb_Model_winner_7b {n : Nat} {res : (Int32 × dk_S)} {k7 : Int32 → Int32 → Int32 → Int32 → dk_S → Option (Int32 × dk_S)} (hk7 : ∀ (x1 : Int32) (x2 : Int32) (x3 : Int32) (x4 : Int32)  (S : dk_S), k7 x1 x2 x3 x4 S = some res → dk_fr [49, 50] S res.2) {x1 : Int32} {x2 : Int32} {x3 : Int32} {x4 : Int32} {S : dk_S}  (hF : B_Model_winner_7b n k7 x1 x2 x3 x4 S = some res) : dk_fr [49, 50] S res.2 := by
  have g0 : dk_fr [49, 50] S S := dk_fr.rf
  unfold B_Model_winner_7b at hF
  rcases fr_if hF with hF | hF
  · exact fr_rt hF g0
  · obtain ⟨v1, hF⟩ := fr_r hF
    rcases fr_if hF with hF | hF
    · exact g0.tr (fb_Model_winner_70 (n := n) hk7  hF)
    · obtain ⟨r3, S2, gS2, hF⟩ := fr_c g0 (fun _ h => fr_Model_stands h) (by decide) hF
      rcases fr_if hF with hF | hF
      · exact gS2.tr (fb_Model_winner_70 (n := n) hk7  hF)
      · obtain ⟨r5, S4, gS4, hF⟩ := fr_c gS2 (fun _ h => fr_Model_worthOf h) (by decide) hF
        rcases fr_if hF with hF | hF
        · exact gS4.tr (fb_Model_winner_56 (n := n) hk7  hF)
        · exact gS4.tr (fb_Model_winner_56 (n := n) hk7  hF)
theorem fb_Model_winner_7 {n : Nat} {res : (Int32 × dk_S)}  : ∀ (q : Nat) (x1 : Int32) (x2 : Int32) (x3 : Int32) (x4 : Int32)  (S : dk_S), B_Model_winner_7 n  q x1 x2 x3 x4 S = some res → dk_fr [49, 50] S res.2 := by
  intro q
  induction q with
  | zero => intro x1 x2 x3 x4  S hF; cases hF
  | succ q ih => intro x1 x2 x3 x4  S hF; exact fb_Model_winner_7b (n := n) ih  hF
theorem fb_Model_winner_0 {n : Nat} {res : (Int32 × dk_S)}  {x1 : Int32} {S : dk_S}  (hF : B_Model_winner_0 n  x1 S = some res) : dk_fr [49, 50] S res.2 := by
  have g0 : dk_fr [49, 50] S S := dk_fr.rf
  unfold B_Model_winner_0 at hF
  exact g0.tr (fb_Model_winner_7 (n := n)  n x1 (-1 : Int32) (0 : Int32) (0 : Int32) S hF)
theorem fr_Model_winner {n : Nat} {x1 : Int32} {S : dk_S} {res : (Int32 × dk_S)}  (h : F_Model_winner n x1 S = some res) : dk_fr [49, 50] S res.2 := fb_Model_winner_0 (n := n)  h
theorem fb_Model_whose_0 {n : Nat} {res : (Int32 × dk_S)}  {x1 : Int32} {S : dk_S}  (hF : B_Model_whose_0 n  x1 S = some res) : dk_fr [49, 50] S res.2 := by
  have g0 : dk_fr [49, 50] S S := dk_fr.rf
  unfold B_Model_whose_0 at hF
  obtain ⟨r2, S1, gS1, hF⟩ := fr_c g0 (fun _ h => fr_Model_winner h) (by decide) hF
  rcases fr_if hF with hF | hF
  · obtain ⟨v3, hF⟩ := fr_r hF
    exact fr_rt hF gS1
  · exact fr_rt hF gS1
theorem fr_Model_whose {n : Nat} {x1 : Int32} {S : dk_S} {res : (Int32 × dk_S)}  (h : F_Model_whose n x1 S = some res) : dk_fr [49, 50] S res.2 := fb_Model_whose_0 (n := n)  h
theorem fb_Model_whoseIs_0 {n : Nat} {res : (Int32 × dk_S)}  {x1 : Int32} {x2 : Int32} {S : dk_S}  (hF : B_Model_whoseIs_0 n  x1 x2 S = some res) : dk_fr [18, 19, 20, 21, 22, 23, 24, 25, 26, 27, 28, 29, 30, 49, 50] S res.2 := by
  have g0 : dk_fr [18, 19, 20, 21, 22, 23, 24, 25, 26, 27, 28, 29, 30, 49, 50] S S := dk_fr.rf
  unfold B_Model_whoseIs_0 at hF
  obtain ⟨r2, S1, gS1, hF⟩ := fr_c g0 (fun _ h => fr_Model_isBeast h) (by decide) hF
  rcases fr_if hF with hF | hF
  · obtain ⟨r4, S3, gS3, hF⟩ := fr_c gS1 (fun _ h => fr_Model_in h) (by decide) hF
    rcases fr_if hF with hF | hF
    · obtain ⟨S5, gS5, hF⟩ := fr_cv gS3 (fun _ h => fr_Model_works h) (by decide) hF
      obtain ⟨r8, S7, gS7, hF⟩ := fr_c gS5 (fun _ h => fr_Model_whose h) (by decide) hF
      exact fr_rt hF gS7
    · exact fr_rt hF gS3
  · exact fr_rt hF gS1
theorem fr_Model_whoseIs {n : Nat} {x1 : Int32} {x2 : Int32} {S : dk_S} {res : (Int32 × dk_S)}  (h : F_Model_whoseIs n x1 x2 S = some res) : dk_fr [18, 19, 20, 21, 22, 23, 24, 25, 26, 27, 28, 29, 30, 49, 50] S res.2 := fb_Model_whoseIs_0 (n := n)  h
theorem fb_Model_why_0 {n : Nat} {res : (Int32 × dk_S)}  {x1 : Int32} {x2 : Int32} {S : dk_S}  (hF : B_Model_why_0 n  x1 x2 S = some res) : dk_fr [18, 19, 20, 21, 22, 23, 24, 25, 26, 27, 28, 29, 30, 49, 50] S res.2 := by
  have g0 : dk_fr [18, 19, 20, 21, 22, 23, 24, 25, 26, 27, 28, 29, 30, 49, 50] S S := dk_fr.rf
  unfold B_Model_why_0 at hF
  obtain ⟨r2, S1, gS1, hF⟩ := fr_c g0 (fun _ h => fr_Model_isBeast h) (by decide) hF
  rcases fr_if hF with hF | hF
  · obtain ⟨r4, S3, gS3, hF⟩ := fr_c gS1 (fun _ h => fr_Model_in h) (by decide) hF
    rcases fr_if hF with hF | hF
    · obtain ⟨S5, gS5, hF⟩ := fr_cv gS3 (fun _ h => fr_Model_works h) (by decide) hF
      obtain ⟨r8, S7, gS7, hF⟩ := fr_c gS5 (fun _ h => fr_Model_winner h) (by decide) hF
      exact fr_rt hF gS7
    · exact fr_rt hF gS3
  · exact fr_rt hF gS1
theorem fr_Model_why {n : Nat} {x1 : Int32} {x2 : Int32} {S : dk_S} {res : (Int32 × dk_S)}  (h : F_Model_why n x1 x2 S = some res) : dk_fr [18, 19, 20, 21, 22, 23, 24, 25, 26, 27, 28, 29, 30, 49, 50] S res.2 := fb_Model_why_0 (n := n)  h
theorem fb_Model_where_0 {n : Nat} {res : (Int32 × dk_S)}  {x1 : Int32} {x2 : Int32} {x3 : Int32} {S : dk_S}  (hF : B_Model_where_0 n  x1 x2 x3 S = some res) : dk_fr [18, 19, 20, 21, 22, 23, 24, 25, 26, 27, 28, 29, 30] S res.2 := by
  have g0 : dk_fr [18, 19, 20, 21, 22, 23, 24, 25, 26, 27, 28, 29, 30] S S := dk_fr.rf
  unfold B_Model_where_0 at hF
  obtain ⟨r2, S1, gS1, hF⟩ := fr_c g0 (fun _ h => fr_Model_isBeast h) (by decide) hF
  rcases fr_if hF with hF | hF
  · obtain ⟨r4, S3, gS3, hF⟩ := fr_c gS1 (fun _ h => fr_Model_in h) (by decide) hF
    rcases fr_if hF with hF | hF
    · exact fr_rt hF gS3
    · obtain ⟨r6, S5, gS5, hF⟩ := fr_c gS3 (fun _ h => fr_Model_in h) (by decide) hF
      rcases fr_if hF with hF | hF
      · obtain ⟨S7, gS7, hF⟩ := fr_cv gS5 (fun _ h => fr_Model_works h) (by decide) hF
        rcases fr_if hF with hF | hF
        · rcases fr_if hF with hF | hF
          · obtain ⟨v9, hF⟩ := fr_r hF
            rcases fr_if hF with hF | hF
            · exact fr_rt hF gS7
            · exact fr_rt hF gS7
          · obtain ⟨v10, hF⟩ := fr_r hF
            exact fr_rt hF gS7
        · obtain ⟨v11, hF⟩ := fr_r hF
          exact fr_rt hF gS7
      · exact fr_rt hF gS5
  · exact fr_rt hF gS1
theorem fr_Model_where {n : Nat} {x1 : Int32} {x2 : Int32} {x3 : Int32} {S : dk_S} {res : (Int32 × dk_S)}  (h : F_Model_where n x1 x2 x3 S = some res) : dk_fr [18, 19, 20, 21, 22, 23, 24, 25, 26, 27, 28, 29, 30] S res.2 := fb_Model_where_0 (n := n)  h
theorem fb_Model_nobodyOf_33 {n : Nat} {res : (Int32 × dk_S)} {k4 : Int32 → Int32 → Int32 → dk_S → Option (Int32 × dk_S)} (hk4 : ∀ (x1 : Int32) (x2 : Int32) (x3 : Int32)  (S : dk_S), k4 x1 x2 x3 S = some res → dk_fr [18, 19, 20, 21, 22, 23, 24, 25, 26, 27, 28, 29, 30, 49, 50] S res.2) {x1 : Int32} {x3 : Int32} {u0 : Int32} {u1 : Int32} {S : dk_S}  (hF : B_Model_nobodyOf_33 n k4 x1 x3 u0 u1 S = some res) : dk_fr [18, 19, 20, 21, 22, 23, 24, 25, 26, 27, 28, 29, 30, 49, 50] S res.2 := by
  have g0 : dk_fr [18, 19, 20, 21, 22, 23, 24, 25, 26, 27, 28, 29, 30, 49, 50] S S := dk_fr.rf
  unfold B_Model_nobodyOf_33 at hF
  exact g0.tr (hk4 x1 (u0 + u1) (x3 + (1 : Int32)) S hF)
theorem fb_Model_nobodyOf_4b {n : Nat} {res : (Int32 × dk_S)} {k4 : Int32 → Int32 → Int32 → dk_S → Option (Int32 × dk_S)} (hk4 : ∀ (x1 : Int32) (x2 : Int32) (x3 : Int32)  (S : dk_S), k4 x1 x2 x3 S = some res → dk_fr [18, 19, 20, 21, 22, 23, 24, 25, 26, 27, 28, 29, 30, 49, 50] S res.2) {x1 : Int32} {x2 : Int32} {x3 : Int32} {S : dk_S}  (hF : B_Model_nobodyOf_4b n k4 x1 x2 x3 S = some res) : dk_fr [18, 19, 20, 21, 22, 23, 24, 25, 26, 27, 28, 29, 30, 49, 50] S res.2 := by
  have g0 : dk_fr [18, 19, 20, 21, 22, 23, 24, 25, 26, 27, 28, 29, 30, 49, 50] S S := dk_fr.rf
  unfold B_Model_nobodyOf_4b at hF
  rcases fr_if hF with hF | hF
  · exact fr_rt hF g0
  · obtain ⟨S1, gS1, hF⟩ := fr_cv g0 (fun _ h => fr_Model_works h) (by decide) hF
    obtain ⟨r4, S3, gS3, hF⟩ := fr_c gS1 (fun _ h => fr_Model_winner h) (by decide) hF
    rcases fr_if hF with hF | hF
    · exact gS3.tr (fb_Model_nobodyOf_33 (n := n) hk4  hF)
    · exact gS3.tr (fb_Model_nobodyOf_33 (n := n) hk4  hF)
theorem fb_Model_nobodyOf_4 {n : Nat} {res : (Int32 × dk_S)}  : ∀ (q : Nat) (x1 : Int32) (x2 : Int32) (x3 : Int32)  (S : dk_S), B_Model_nobodyOf_4 n  q x1 x2 x3 S = some res → dk_fr [18, 19, 20, 21, 22, 23, 24, 25, 26, 27, 28, 29, 30, 49, 50] S res.2 := by
  intro q
  induction q with
  | zero => intro x1 x2 x3  S hF; cases hF
  | succ q ih => intro x1 x2 x3  S hF; exact fb_Model_nobodyOf_4b (n := n) ih  hF
theorem fb_Model_nobodyOf_0 {n : Nat} {res : (Int32 × dk_S)}  {x1 : Int32} {S : dk_S}  (hF : B_Model_nobodyOf_0 n  x1 S = some res) : dk_fr [18, 19, 20, 21, 22, 23, 24, 25, 26, 27, 28, 29, 30, 49, 50] S res.2 := by
  have g0 : dk_fr [18, 19, 20, 21, 22, 23, 24, 25, 26, 27, 28, 29, 30, 49, 50] S S := dk_fr.rf
  unfold B_Model_nobodyOf_0 at hF
  exact g0.tr (fb_Model_nobodyOf_4 (n := n)  n x1 (0 : Int32) (0 : Int32) S hF)
theorem fr_Model_nobodyOf {n : Nat} {x1 : Int32} {S : dk_S} {res : (Int32 × dk_S)}  (h : F_Model_nobodyOf n x1 S = some res) : dk_fr [18, 19, 20, 21, 22, 23, 24, 25, 26, 27, 28, 29, 30, 49, 50] S res.2 := fb_Model_nobodyOf_0 (n := n)  h
theorem fb_Model_nobody_0 {n : Nat} {res : (Int32 × dk_S)}  {x1 : Int32} {S : dk_S}  (hF : B_Model_nobody_0 n  x1 S = some res) : dk_fr [18, 19, 20, 21, 22, 23, 24, 25, 26, 27, 28, 29, 30, 49, 50] S res.2 := by
  have g0 : dk_fr [18, 19, 20, 21, 22, 23, 24, 25, 26, 27, 28, 29, 30, 49, 50] S S := dk_fr.rf
  unfold B_Model_nobody_0 at hF
  obtain ⟨r2, S1, gS1, hF⟩ := fr_c g0 (fun _ h => fr_Model_isBeast h) (by decide) hF
  rcases fr_if hF with hF | hF
  · exact fr_rt hF gS1
  · obtain ⟨r4, S3, gS3, hF⟩ := fr_c gS1 (fun _ h => fr_Model_nobodyOf h) (by decide) hF
    exact fr_rt hF gS3
theorem fr_Model_nobody {n : Nat} {x1 : Int32} {S : dk_S} {res : (Int32 × dk_S)}  (h : F_Model_nobody n x1 S = some res) : dk_fr [18, 19, 20, 21, 22, 23, 24, 25, 26, 27, 28, 29, 30, 49, 50] S res.2 := fb_Model_nobody_0 (n := n)  h
theorem fb_Model_judge_56b {n : Nat} {res : (Int32 × dk_S)} {k56 : Int32 → Int32 → Int32 → dk_S → Option (Int32 × dk_S)} (hk56 : ∀ (x1 : Int32) (x2 : Int32) (x3 : Int32)  (S : dk_S), k56 x1 x2 x3 S = some res → dk_fr [18, 19, 20, 21, 22, 23, 24, 25, 26, 27, 28, 29, 30, 49, 50] S res.2) {x1 : Int32} {x2 : Int32} {x3 : Int32} {S : dk_S}  (hF : B_Model_judge_56b n k56 x1 x2 x3 S = some res) : dk_fr [18, 19, 20, 21, 22, 23, 24, 25, 26, 27, 28, 29, 30, 49, 50] S res.2 := by
  have g0 : dk_fr [18, 19, 20, 21, 22, 23, 24, 25, 26, 27, 28, 29, 30, 49, 50] S S := dk_fr.rf
  unfold B_Model_judge_56b at hF
  rcases fr_if hF with hF | hF
  · exact fr_rt hF g0
  · obtain ⟨S1, gS1, hF⟩ := fr_cv g0 (fun _ h => fr_Model_works h) (by decide) hF
    obtain ⟨r4, S3, gS3, hF⟩ := fr_c gS1 (fun _ h => fr_Model_whose h) (by decide) hF
    obtain ⟨v5, hF⟩ := fr_r hF
    rcases fr_if hF with hF | hF
    · exact gS3.tr (hk56 x1 x2 (x3 + (1 : Int32)) S3 hF)
    · exact fr_rt hF gS3
theorem fb_Model_judge_56 {n : Nat} {res : (Int32 × dk_S)}  : ∀ (q : Nat) (x1 : Int32) (x2 : Int32) (x3 : Int32)  (S : dk_S), B_Model_judge_56 n  q x1 x2 x3 S = some res → dk_fr [18, 19, 20, 21, 22, 23, 24, 25, 26, 27, 28, 29, 30, 49, 50] S res.2 := by
  intro q
  induction q with
  | zero => intro x1 x2 x3  S hF; cases hF
  | succ q ih => intro x1 x2 x3  S hF; exact fb_Model_judge_56b (n := n) ih  hF
theorem fb_Model_judge_0 {n : Nat} {res : (Int32 × dk_S)}  {x1 : Int32} {x2 : Int32} {S : dk_S}  (hF : B_Model_judge_0 n  x1 x2 S = some res) : dk_fr [18, 19, 20, 21, 22, 23, 24, 25, 26, 27, 28, 29, 30, 49, 50] S res.2 := by
  have g0 : dk_fr [18, 19, 20, 21, 22, 23, 24, 25, 26, 27, 28, 29, 30, 49, 50] S S := dk_fr.rf
  unfold B_Model_judge_0 at hF
  obtain ⟨r7, S6, gS6, hF⟩ := fr_c g0 (fun _ h => fr_Model_isBeast h) (by decide) hF
  rcases fr_if hF with hF | hF
  · obtain ⟨r9, S8, gS8, hF⟩ := fr_c gS6 (fun _ h => fr_Model_in h) (by decide) hF
    rcases fr_if hF with hF | hF
    · obtain ⟨v10, hF⟩ := fr_r hF
      rcases fr_if hF with hF | hF
      · obtain ⟨v11, hF⟩ := fr_r hF
        rcases fr_if hF with hF | hF
        · exact gS8.tr (fb_Model_judge_56 (n := n)  n x1 x2 (0 : Int32) S8 hF)
        · exact fr_rt hF gS8
      · exact fr_rt hF gS8
    · exact fr_rt hF gS8
  · exact fr_rt hF gS6
theorem fr_Model_judge {n : Nat} {x1 : Int32} {x2 : Int32} {S : dk_S} {res : (Int32 × dk_S)}  (h : F_Model_judge n x1 x2 S = some res) : dk_fr [18, 19, 20, 21, 22, 23, 24, 25, 26, 27, 28, 29, 30, 49, 50] S res.2 := fb_Model_judge_0 (n := n)  h
theorem fb_Model_without_41 {n : Nat} {res : (Int32 × dk_S)} {k7 : Int32 → Int32 → Int32 → Int32 → dk_S → Option (Int32 × dk_S)} (hk7 : ∀ (x1 : Int32) (x2 : Int32) (x3 : Int32) (x4 : Int32)  (S : dk_S), k7 x1 x2 x3 x4 S = some res → dk_fr [] S res.2) {x1 : Int32} {x2 : Int32} {x3 : Int32} {x4 : Int32} {S : dk_S}  (hF : B_Model_without_41 n k7 x1 x2 x3 x4 S = some res) : dk_fr [] S res.2 := by
  have g0 : dk_fr [] S S := dk_fr.rf
  unfold B_Model_without_41 at hF
  exact g0.tr (hk7 x1 x2 x3 (x4 + (1 : Int32)) S hF)
theorem fb_Model_without_7b {n : Nat} {res : (Int32 × dk_S)} {k7 : Int32 → Int32 → Int32 → Int32 → dk_S → Option (Int32 × dk_S)} (hk7 : ∀ (x1 : Int32) (x2 : Int32) (x3 : Int32) (x4 : Int32)  (S : dk_S), k7 x1 x2 x3 x4 S = some res → dk_fr [] S res.2) {x1 : Int32} {x2 : Int32} {x3 : Int32} {x4 : Int32} {S : dk_S}  (hF : B_Model_without_7b n k7 x1 x2 x3 x4 S = some res) : dk_fr [] S res.2 := by
  have g0 : dk_fr [] S S := dk_fr.rf
  unfold B_Model_without_7b at hF
  rcases fr_if hF with hF | hF
  · exact fr_rt hF g0
  · obtain ⟨v1, hF⟩ := fr_r hF
    rcases fr_if hF with hF | hF
    · exact g0.tr (fb_Model_without_41 (n := n) hk7  hF)
    · exact g0.tr (fb_Model_without_41 (n := n) hk7  hF)
theorem fb_Model_without_7 {n : Nat} {res : (Int32 × dk_S)}  : ∀ (q : Nat) (x1 : Int32) (x2 : Int32) (x3 : Int32) (x4 : Int32)  (S : dk_S), B_Model_without_7 n  q x1 x2 x3 x4 S = some res → dk_fr [] S res.2 := by
  intro q
  induction q with
  | zero => intro x1 x2 x3 x4  S hF; cases hF
  | succ q ih => intro x1 x2 x3 x4  S hF; exact fb_Model_without_7b (n := n) ih  hF
theorem fb_Model_without_0 {n : Nat} {res : (Int32 × dk_S)}  {x1 : Int32} {S : dk_S}  (hF : B_Model_without_0 n  x1 S = some res) : dk_fr [] S res.2 := by
  have g0 : dk_fr [] S S := dk_fr.rf
  unfold B_Model_without_0 at hF
  exact g0.tr (fb_Model_without_7 (n := n)  n x1 (0 : Int32) (0 : Int32) (0 : Int32) S hF)
theorem fr_Model_without {n : Nat} {x1 : Int32} {S : dk_S} {res : (Int32 × dk_S)}  (h : F_Model_without n x1 S = some res) : dk_fr [] S res.2 := fb_Model_without_0 (n := n)  h
theorem fb_Model_whoseWithout_0 {n : Nat} {res : (Int32 × dk_S)}  {x1 : Int32} {x2 : Int32} {S : dk_S}  (hF : B_Model_whoseWithout_0 n  x1 x2 S = some res) : dk_fr [18, 19, 20, 21, 22, 23, 24, 25, 26, 27, 28, 29, 30, 49, 50] S res.2 := by
  have g0 : dk_fr [18, 19, 20, 21, 22, 23, 24, 25, 26, 27, 28, 29, 30, 49, 50] S S := dk_fr.rf
  unfold B_Model_whoseWithout_0 at hF
  obtain ⟨r2, S1, gS1, hF⟩ := fr_c g0 (fun _ h => fr_Model_without h) (by decide) hF
  obtain ⟨S3, gS3, hF⟩ := fr_cv gS1 (fun _ h => fr_Model_works h) (by decide) hF
  obtain ⟨r6, S5, gS5, hF⟩ := fr_c gS3 (fun _ h => fr_Model_whose h) (by decide) hF
  exact fr_rt hF gS5
theorem fr_Model_whoseWithout {n : Nat} {x1 : Int32} {x2 : Int32} {S : dk_S} {res : (Int32 × dk_S)}  (h : F_Model_whoseWithout n x1 x2 S = some res) : dk_fr [18, 19, 20, 21, 22, 23, 24, 25, 26, 27, 28, 29, 30, 49, 50] S res.2 := fb_Model_whoseWithout_0 (n := n)  h
theorem fb_Model_may_48 {n : Nat} {res : (Int32 × dk_S)} {k15 : Int32 → Int32 → Int32 → dk_S → Option (Int32 × dk_S)} (hk15 : ∀ (x1 : Int32) (x2 : Int32) (x3 : Int32)  (S : dk_S), k15 x1 x2 x3 S = some res → dk_fr [18, 19, 20, 21, 22, 23, 24, 25, 26, 27, 28, 29, 30, 49, 50] S res.2) {x1 : Int32} {x3 : Int32} {u0 : Int32} {u1 : Int32} {u2 : Int32} {S : dk_S}  (hF : B_Model_may_48 n k15 x1 x3 u0 u1 u2 S = some res) : dk_fr [18, 19, 20, 21, 22, 23, 24, 25, 26, 27, 28, 29, 30, 49, 50] S res.2 := by
  have g0 : dk_fr [18, 19, 20, 21, 22, 23, 24, 25, 26, 27, 28, 29, 30, 49, 50] S S := dk_fr.rf
  unfold B_Model_may_48 at hF
  exact g0.tr (hk15 x1 (u0 ||| (u1 <<< (u2 &&& 31))) (x3 + (1 : Int32)) S hF)
theorem fb_Model_may_15b {n : Nat} {res : (Int32 × dk_S)} {k15 : Int32 → Int32 → Int32 → dk_S → Option (Int32 × dk_S)} (hk15 : ∀ (x1 : Int32) (x2 : Int32) (x3 : Int32)  (S : dk_S), k15 x1 x2 x3 S = some res → dk_fr [18, 19, 20, 21, 22, 23, 24, 25, 26, 27, 28, 29, 30, 49, 50] S res.2) {x1 : Int32} {x2 : Int32} {x3 : Int32} {S : dk_S}  (hF : B_Model_may_15b n k15 x1 x2 x3 S = some res) : dk_fr [18, 19, 20, 21, 22, 23, 24, 25, 26, 27, 28, 29, 30, 49, 50] S res.2 := by
  have g0 : dk_fr [18, 19, 20, 21, 22, 23, 24, 25, 26, 27, 28, 29, 30, 49, 50] S S := dk_fr.rf
  unfold B_Model_may_15b at hF
  obtain ⟨r2, S1, gS1, hF⟩ := fr_c g0 (fun _ h => fr_Model_unsureMany h) (by decide) hF
  rcases fr_if hF with hF | hF
  · exact fr_rt hF gS1
  · obtain ⟨r4, S3, gS3, hF⟩ := fr_c gS1 (fun _ h => fr_Model_whoseWithout h) (by decide) hF
    rcases fr_if hF with hF | hF
    · exact gS3.tr (fb_Model_may_48 (n := n) hk15  hF)
    · exact gS3.tr (fb_Model_may_48 (n := n) hk15  hF)
theorem fb_Model_may_15 {n : Nat} {res : (Int32 × dk_S)}  : ∀ (q : Nat) (x1 : Int32) (x2 : Int32) (x3 : Int32)  (S : dk_S), B_Model_may_15 n  q x1 x2 x3 S = some res → dk_fr [18, 19, 20, 21, 22, 23, 24, 25, 26, 27, 28, 29, 30, 49, 50] S res.2 := by
  intro q
  induction q with
  | zero => intro x1 x2 x3  S hF; cases hF
  | succ q ih => intro x1 x2 x3  S hF; exact fb_Model_may_15b (n := n) ih  hF
theorem fb_Model_may_0 {n : Nat} {res : (Int32 × dk_S)}  {x1 : Int32} {S : dk_S}  (hF : B_Model_may_0 n  x1 S = some res) : dk_fr [18, 19, 20, 21, 22, 23, 24, 25, 26, 27, 28, 29, 30, 49, 50] S res.2 := by
  have g0 : dk_fr [18, 19, 20, 21, 22, 23, 24, 25, 26, 27, 28, 29, 30, 49, 50] S S := dk_fr.rf
  unfold B_Model_may_0 at hF
  obtain ⟨r6, S5, gS5, hF⟩ := fr_c g0 (fun _ h => fr_Model_isBeast h) (by decide) hF
  rcases fr_if hF with hF | hF
  · exact gS5.tr (fb_Model_may_15 (n := n)  n x1 (0 : Int32) (0 : Int32) S5 hF)
  · exact fr_rt hF gS5
theorem fr_Model_may {n : Nat} {x1 : Int32} {S : dk_S} {res : (Int32 × dk_S)}  (h : F_Model_may n x1 S = some res) : dk_fr [18, 19, 20, 21, 22, 23, 24, 25, 26, 27, 28, 29, 30, 49, 50] S res.2 := fb_Model_may_0 (n := n)  h
theorem fb_Model_hangs_54 {n : Nat} {res : (Int32 × dk_S)} {k23 : Int32 → Int32 → Int32 → Int32 → dk_S → Option (Int32 × dk_S)} (hk23 : ∀ (x1 : Int32) (x2 : Int32) (x3 : Int32) (x4 : Int32)  (S : dk_S), k23 x1 x2 x3 x4 S = some res → dk_fr [18, 19, 20, 21, 22, 23, 24, 25, 26, 27, 28, 29, 30, 49, 50] S res.2) {x1 : Int32} {x2 : Int32} {x4 : Int32} {u0 : Int32} {u1 : Int32} {S : dk_S}  (hF : B_Model_hangs_54 n k23 x1 x2 x4 u0 u1 S = some res) : dk_fr [18, 19, 20, 21, 22, 23, 24, 25, 26, 27, 28, 29, 30, 49, 50] S res.2 := by
  have g0 : dk_fr [18, 19, 20, 21, 22, 23, 24, 25, 26, 27, 28, 29, 30, 49, 50] S S := dk_fr.rf
  unfold B_Model_hangs_54 at hF
  exact g0.tr (hk23 x1 x2 (u0 ||| u1) (x4 + (1 : Int32)) S hF)
theorem fb_Model_hangs_23b {n : Nat} {res : (Int32 × dk_S)} {k23 : Int32 → Int32 → Int32 → Int32 → dk_S → Option (Int32 × dk_S)} (hk23 : ∀ (x1 : Int32) (x2 : Int32) (x3 : Int32) (x4 : Int32)  (S : dk_S), k23 x1 x2 x3 x4 S = some res → dk_fr [18, 19, 20, 21, 22, 23, 24, 25, 26, 27, 28, 29, 30, 49, 50] S res.2) {x1 : Int32} {x2 : Int32} {x3 : Int32} {x4 : Int32} {S : dk_S}  (hF : B_Model_hangs_23b n k23 x1 x2 x3 x4 S = some res) : dk_fr [18, 19, 20, 21, 22, 23, 24, 25, 26, 27, 28, 29, 30, 49, 50] S res.2 := by
  have g0 : dk_fr [18, 19, 20, 21, 22, 23, 24, 25, 26, 27, 28, 29, 30, 49, 50] S S := dk_fr.rf
  unfold B_Model_hangs_23b at hF
  obtain ⟨r2, S1, gS1, hF⟩ := fr_c g0 (fun _ h => fr_Model_unsureMany h) (by decide) hF
  rcases fr_if hF with hF | hF
  · exact fr_rt hF gS1
  · obtain ⟨r4, S3, gS3, hF⟩ := fr_c gS1 (fun _ h => fr_Model_whoseWithout h) (by decide) hF
    rcases fr_if hF with hF | hF
    · exact gS3.tr (fb_Model_hangs_54 (n := n) hk23  hF)
    · exact gS3.tr (fb_Model_hangs_54 (n := n) hk23  hF)
theorem fb_Model_hangs_23 {n : Nat} {res : (Int32 × dk_S)}  : ∀ (q : Nat) (x1 : Int32) (x2 : Int32) (x3 : Int32) (x4 : Int32)  (S : dk_S), B_Model_hangs_23 n  q x1 x2 x3 x4 S = some res → dk_fr [18, 19, 20, 21, 22, 23, 24, 25, 26, 27, 28, 29, 30, 49, 50] S res.2 := by
  intro q
  induction q with
  | zero => intro x1 x2 x3 x4  S hF; cases hF
  | succ q ih => intro x1 x2 x3 x4  S hF; exact fb_Model_hangs_23b (n := n) ih  hF
theorem fb_Model_hangs_0 {n : Nat} {res : (Int32 × dk_S)}  {x1 : Int32} {S : dk_S}  (hF : B_Model_hangs_0 n  x1 S = some res) : dk_fr [18, 19, 20, 21, 22, 23, 24, 25, 26, 27, 28, 29, 30, 49, 50] S res.2 := by
  have g0 : dk_fr [18, 19, 20, 21, 22, 23, 24, 25, 26, 27, 28, 29, 30, 49, 50] S S := dk_fr.rf
  unfold B_Model_hangs_0 at hF
  obtain ⟨r6, S5, gS5, hF⟩ := fr_c g0 (fun _ h => fr_Model_isBeast h) (by decide) hF
  rcases fr_if hF with hF | hF
  · obtain ⟨r8, S7, gS7, hF⟩ := fr_c gS5 (fun _ h => fr_Model_whoseWithout h) (by decide) hF
    exact gS7.tr (fb_Model_hangs_23 (n := n)  n x1 r8 (0 : Int32) (0 : Int32) S7 hF)
  · exact fr_rt hF gS5
theorem fr_Model_hangs {n : Nat} {x1 : Int32} {S : dk_S} {res : (Int32 × dk_S)}  (h : F_Model_hangs n x1 S = some res) : dk_fr [18, 19, 20, 21, 22, 23, 24, 25, 26, 27, 28, 29, 30, 49, 50] S res.2 := fb_Model_hangs_0 (n := n)  h
theorem fb_Model_ones_4b {n : Nat} {res : (Int32 × dk_S)} {k4 : Int32 → Int32 → Int32 → dk_S → Option (Int32 × dk_S)} (hk4 : ∀ (x0 : Int32) (x1 : Int32) (x2 : Int32)  (S : dk_S), k4 x0 x1 x2 S = some res → dk_fr [] S res.2) {x0 : Int32} {x1 : Int32} {x2 : Int32} {S : dk_S}  (hF : B_Model_ones_4b n k4 x0 x1 x2 S = some res) : dk_fr [] S res.2 := by
  have g0 : dk_fr [] S S := dk_fr.rf
  unfold B_Model_ones_4b at hF
  rcases fr_if hF with hF | hF
  · exact fr_rt hF g0
  · exact g0.tr (hk4 x0 (x1 + ((x0 >>> (x2 &&& 31)) &&& (1 : Int32))) (x2 + (1 : Int32)) S hF)
theorem fb_Model_ones_4 {n : Nat} {res : (Int32 × dk_S)}  : ∀ (q : Nat) (x0 : Int32) (x1 : Int32) (x2 : Int32)  (S : dk_S), B_Model_ones_4 n  q x0 x1 x2 S = some res → dk_fr [] S res.2 := by
  intro q
  induction q with
  | zero => intro x0 x1 x2  S hF; cases hF
  | succ q ih => intro x0 x1 x2  S hF; exact fb_Model_ones_4b (n := n) ih  hF
theorem fb_Model_ones_0 {n : Nat} {res : (Int32 × dk_S)}  {x0 : Int32} {S : dk_S}  (hF : B_Model_ones_0 n  x0 S = some res) : dk_fr [] S res.2 := by
  have g0 : dk_fr [] S S := dk_fr.rf
  unfold B_Model_ones_0 at hF
  exact g0.tr (fb_Model_ones_4 (n := n)  n x0 (0 : Int32) (0 : Int32) S hF)
theorem fr_Model_ones {n : Nat} {x0 : Int32} {S : dk_S} {res : (Int32 × dk_S)}  (h : F_Model_ones n x0 S = some res) : dk_fr [] S res.2 := fb_Model_ones_0 (n := n)  h
theorem fb_Model_least_68 {n : Nat} {res : (Int32 × dk_S)} {k26 : Int32 → Int32 → Int32 → Int32 → dk_S → Option (Int32 × dk_S)} (hk26 : ∀ (x1 : Int32) (x2 : Int32) (x3 : Int32) (x4 : Int32)  (S : dk_S), k26 x1 x2 x3 x4 S = some res → dk_fr [18, 19, 20, 21, 22, 23, 24, 25, 26, 27, 28, 29, 30, 49, 50] S res.2) {x1 : Int32} {x2 : Int32} {x3 : Int32} {x4 : Int32} {S : dk_S}  (hF : B_Model_least_68 n k26 x1 x2 x3 x4 S = some res) : dk_fr [18, 19, 20, 21, 22, 23, 24, 25, 26, 27, 28, 29, 30, 49, 50] S res.2 := by
  have g0 : dk_fr [18, 19, 20, 21, 22, 23, 24, 25, 26, 27, 28, 29, 30, 49, 50] S S := dk_fr.rf
  unfold B_Model_least_68 at hF
  exact g0.tr (hk26 x1 x2 x3 (x4 + (1 : Int32)) S hF)
theorem fb_Model_least_54 {n : Nat} {res : (Int32 × dk_S)} {k26 : Int32 → Int32 → Int32 → Int32 → dk_S → Option (Int32 × dk_S)} (hk26 : ∀ (x1 : Int32) (x2 : Int32) (x3 : Int32) (x4 : Int32)  (S : dk_S), k26 x1 x2 x3 x4 S = some res → dk_fr [18, 19, 20, 21, 22, 23, 24, 25, 26, 27, 28, 29, 30, 49, 50] S res.2) {x1 : Int32} {x2 : Int32} {x3 : Int32} {x4 : Int32} {S : dk_S}  (hF : B_Model_least_54 n k26 x1 x2 x3 x4 S = some res) : dk_fr [18, 19, 20, 21, 22, 23, 24, 25, 26, 27, 28, 29, 30, 49, 50] S res.2 := by
  have g0 : dk_fr [18, 19, 20, 21, 22, 23, 24, 25, 26, 27, 28, 29, 30, 49, 50] S S := dk_fr.rf
  unfold B_Model_least_54 at hF
  obtain ⟨r2, S1, gS1, hF⟩ := fr_c g0 (fun _ h => fr_Model_whoseWithout h) (by decide) hF
  rcases fr_if hF with hF | hF
  · exact gS1.tr (fb_Model_least_68 (n := n) hk26  hF)
  · exact gS1.tr (fb_Model_least_68 (n := n) hk26  hF)
theorem fb_Model_least_26b {n : Nat} {res : (Int32 × dk_S)} {k26 : Int32 → Int32 → Int32 → Int32 → dk_S → Option (Int32 × dk_S)} (hk26 : ∀ (x1 : Int32) (x2 : Int32) (x3 : Int32) (x4 : Int32)  (S : dk_S), k26 x1 x2 x3 x4 S = some res → dk_fr [18, 19, 20, 21, 22, 23, 24, 25, 26, 27, 28, 29, 30, 49, 50] S res.2) {x1 : Int32} {x2 : Int32} {x3 : Int32} {x4 : Int32} {S : dk_S}  (hF : B_Model_least_26b n k26 x1 x2 x3 x4 S = some res) : dk_fr [18, 19, 20, 21, 22, 23, 24, 25, 26, 27, 28, 29, 30, 49, 50] S res.2 := by
  have g0 : dk_fr [18, 19, 20, 21, 22, 23, 24, 25, 26, 27, 28, 29, 30, 49, 50] S S := dk_fr.rf
  unfold B_Model_least_26b at hF
  obtain ⟨r4, S3, gS3, hF⟩ := fr_c g0 (fun _ h => fr_Model_unsureMany h) (by decide) hF
  rcases fr_if hF with hF | hF
  · exact fr_rt hF gS3
  · rcases fr_if hF with hF | hF
    · exact gS3.tr (fb_Model_least_54 (n := n) hk26  hF)
    · obtain ⟨r6, S5, gS5, hF⟩ := fr_c gS3 (fun _ h => fr_Model_ones h) (by decide) hF
      obtain ⟨r8, S7, gS7, hF⟩ := fr_c gS5 (fun _ h => fr_Model_ones h) (by decide) hF
      rcases fr_if hF with hF | hF
      · exact gS7.tr (fb_Model_least_68 (n := n) hk26  hF)
      · exact gS7.tr (fb_Model_least_54 (n := n) hk26  hF)
theorem fb_Model_least_26 {n : Nat} {res : (Int32 × dk_S)}  : ∀ (q : Nat) (x1 : Int32) (x2 : Int32) (x3 : Int32) (x4 : Int32)  (S : dk_S), B_Model_least_26 n  q x1 x2 x3 x4 S = some res → dk_fr [18, 19, 20, 21, 22, 23, 24, 25, 26, 27, 28, 29, 30, 49, 50] S res.2 := by
  intro q
  induction q with
  | zero => intro x1 x2 x3 x4  S hF; cases hF
  | succ q ih => intro x1 x2 x3 x4  S hF; exact fb_Model_least_26b (n := n) ih  hF
theorem fb_Model_least_0 {n : Nat} {res : (Int32 × dk_S)}  {x1 : Int32} {x2 : Int32} {S : dk_S}  (hF : B_Model_least_0 n  x1 x2 S = some res) : dk_fr [18, 19, 20, 21, 22, 23, 24, 25, 26, 27, 28, 29, 30, 49, 50] S res.2 := by
  have g0 : dk_fr [18, 19, 20, 21, 22, 23, 24, 25, 26, 27, 28, 29, 30, 49, 50] S S := dk_fr.rf
  unfold B_Model_least_0 at hF
  obtain ⟨r10, S9, gS9, hF⟩ := fr_c g0 (fun _ h => fr_Model_isBeast h) (by decide) hF
  rcases fr_if hF with hF | hF
  · exact fr_rt hF gS9
  · obtain ⟨r12, S11, gS11, hF⟩ := fr_c gS9 (fun _ h => fr_Model_in h) (by decide) hF
    rcases fr_if hF with hF | hF
    · exact gS11.tr (fb_Model_least_26 (n := n)  n x1 x2 (-1 : Int32) (0 : Int32) S11 hF)
    · exact fr_rt hF gS11
theorem fr_Model_least {n : Nat} {x1 : Int32} {x2 : Int32} {S : dk_S} {res : (Int32 × dk_S)}  (h : F_Model_least n x1 x2 S = some res) : dk_fr [18, 19, 20, 21, 22, 23, 24, 25, 26, 27, 28, 29, 30, 49, 50] S res.2 := fb_Model_least_0 (n := n)  h
theorem fb_Model_lowest_51 {n : Nat} {res : (Int64 × dk_S)}  {x5 : Int64} {u0 : Int64} {S : dk_S}  (hF : B_Model_lowest_51 n  x5 u0 S = some res) : dk_fr [] S res.2 := by
  have g0 : dk_fr [] S S := dk_fr.rf
  unfold B_Model_lowest_51 at hF
  have hF := (dk_g_out hF).2
  exact fr_rt hF g0
theorem fb_Model_lowest_16b {n : Nat} {res : (Int64 × dk_S)} {k16 : Int64 → Int64 → Int32 → Int64 → Int64 → dk_S → Option (Int64 × dk_S)} (hk16 : ∀ (x0 : Int64) (x2 : Int64) (x4 : Int32) (x5 : Int64) (x7 : Int64)  (S : dk_S), k16 x0 x2 x4 x5 x7 S = some res → dk_fr [] S res.2) {x0 : Int64} {x2 : Int64} {x4 : Int32} {x5 : Int64} {x7 : Int64} {S : dk_S}  (hF : B_Model_lowest_16b n k16 x0 x2 x4 x5 x7 S = some res) : dk_fr [] S res.2 := by
  have g0 : dk_fr [] S S := dk_fr.rf
  unfold B_Model_lowest_16b at hF
  rcases fr_if hF with hF | hF
  · rcases fr_if hF with hF | hF
    · exact g0.tr (fb_Model_lowest_51 (n := n)   hF)
    · exact g0.tr (fb_Model_lowest_51 (n := n)   hF)
  · have hF := (dk_g_out hF).2
    exact g0.tr (hk16 x0 x2 x4 x7 (x5 - x5 / x7 * x7) S hF)
theorem fb_Model_lowest_16 {n : Nat} {res : (Int64 × dk_S)}  : ∀ (q : Nat) (x0 : Int64) (x2 : Int64) (x4 : Int32) (x5 : Int64) (x7 : Int64)  (S : dk_S), B_Model_lowest_16 n  q x0 x2 x4 x5 x7 S = some res → dk_fr [] S res.2 := by
  intro q
  induction q with
  | zero => intro x0 x2 x4 x5 x7  S hF; cases hF
  | succ q ih => intro x0 x2 x4 x5 x7  S hF; exact fb_Model_lowest_16b (n := n) ih  hF
theorem fb_Model_lowest_0 {n : Nat} {res : (Int64 × dk_S)}  {x0 : Int64} {x2 : Int64} {x4 : Int32} {S : dk_S}  (hF : B_Model_lowest_0 n  x0 x2 x4 S = some res) : dk_fr [] S res.2 := by
  have g0 : dk_fr [] S S := dk_fr.rf
  unfold B_Model_lowest_0 at hF
  rcases fr_if hF with hF | hF
  · exact g0.tr (fb_Model_lowest_16 (n := n)  n x0 x2 x4 x0 x2 S hF)
  · exact fr_rt hF g0
theorem fr_Model_lowest {n : Nat} {x0 : Int64} {x2 : Int64} {x4 : Int32} {S : dk_S} {res : (Int64 × dk_S)}  (h : F_Model_lowest n x0 x2 x4 S = some res) : dk_fr [] S res.2 := fb_Model_lowest_0 (n := n)  h
theorem fb_Model_share_40 {n : Nat} {res : (Int64 × dk_S)}   {S : dk_S}  (hF : B_Model_share_40 n   S = some res) : dk_fr [18, 19, 20, 21, 22, 23, 24, 25, 26, 27, 28, 29, 30, 49, 50] S res.2 := by
  have g0 : dk_fr [18, 19, 20, 21, 22, 23, 24, 25, 26, 27, 28, 29, 30, 49, 50] S S := dk_fr.rf
  unfold B_Model_share_40 at hF
  exact fr_rt hF g0
theorem fb_Model_share_127 {n : Nat} {res : (Int64 × dk_S)} {k59 : Int32 → Int32 → Int32 → Int64 → Int64 → Int32 → dk_S → Option (Int64 × dk_S)} (hk59 : ∀ (x1 : Int32) (x3 : Int32) (x4 : Int32) (x5 : Int64) (x7 : Int64) (x9 : Int32)  (S : dk_S), k59 x1 x3 x4 x5 x7 x9 S = some res → dk_fr [18, 19, 20, 21, 22, 23, 24, 25, 26, 27, 28, 29, 30, 49, 50] S res.2) {x1 : Int32} {x3 : Int32} {x4 : Int32} {x5 : Int64} {x7 : Int64} {x9 : Int32} {S : dk_S}  (hF : B_Model_share_127 n k59 x1 x3 x4 x5 x7 x9 S = some res) : dk_fr [18, 19, 20, 21, 22, 23, 24, 25, 26, 27, 28, 29, 30, 49, 50] S res.2 := by
  have g0 : dk_fr [18, 19, 20, 21, 22, 23, 24, 25, 26, 27, 28, 29, 30, 49, 50] S S := dk_fr.rf
  unfold B_Model_share_127 at hF
  exact g0.tr (hk59 x1 x3 x4 x5 x7 (x9 + (1 : Int32)) S hF)
theorem fb_Model_share_116 {n : Nat} {res : (Int64 × dk_S)} {k59 : Int32 → Int32 → Int32 → Int64 → Int64 → Int32 → dk_S → Option (Int64 × dk_S)} (hk59 : ∀ (x1 : Int32) (x3 : Int32) (x4 : Int32) (x5 : Int64) (x7 : Int64) (x9 : Int32)  (S : dk_S), k59 x1 x3 x4 x5 x7 x9 S = some res → dk_fr [18, 19, 20, 21, 22, 23, 24, 25, 26, 27, 28, 29, 30, 49, 50] S res.2) {x1 : Int32} {x3 : Int32} {x4 : Int32} {x7 : Int64} {x9 : Int32} {x10 : Int32} {u0 : Int64} {u1 : Int64} {S : dk_S}  (hF : B_Model_share_116 n k59 x1 x3 x4 x7 x9 x10 u0 u1 S = some res) : dk_fr [18, 19, 20, 21, 22, 23, 24, 25, 26, 27, 28, 29, 30, 49, 50] S res.2 := by
  have g0 : dk_fr [18, 19, 20, 21, 22, 23, 24, 25, 26, 27, 28, 29, 30, 49, 50] S S := dk_fr.rf
  unfold B_Model_share_116 at hF
  exact g0.tr (fb_Model_share_127 (n := n) hk59  hF)
theorem fb_Model_share_59b {n : Nat} {res : (Int64 × dk_S)} {k59 : Int32 → Int32 → Int32 → Int64 → Int64 → Int32 → dk_S → Option (Int64 × dk_S)} (hk59 : ∀ (x1 : Int32) (x3 : Int32) (x4 : Int32) (x5 : Int64) (x7 : Int64) (x9 : Int32)  (S : dk_S), k59 x1 x3 x4 x5 x7 x9 S = some res → dk_fr [18, 19, 20, 21, 22, 23, 24, 25, 26, 27, 28, 29, 30, 49, 50] S res.2) {x1 : Int32} {x3 : Int32} {x4 : Int32} {x5 : Int64} {x7 : Int64} {x9 : Int32} {S : dk_S}  (hF : B_Model_share_59b n k59 x1 x3 x4 x5 x7 x9 S = some res) : dk_fr [18, 19, 20, 21, 22, 23, 24, 25, 26, 27, 28, 29, 30, 49, 50] S res.2 := by
  have g0 : dk_fr [18, 19, 20, 21, 22, 23, 24, 25, 26, 27, 28, 29, 30, 49, 50] S S := dk_fr.rf
  unfold B_Model_share_59b at hF
  rcases fr_if hF with hF | hF
  · obtain ⟨r2, S1, gS1, hF⟩ := fr_c g0 (fun _ h => fr_Model_lowest h) (by decide) hF
    exact fr_rt hF gS1
  · obtain ⟨v3, hF⟩ := fr_r hF
    rcases fr_if hF with hF | hF
    · exact g0.tr (fb_Model_share_127 (n := n) hk59  hF)
    · obtain ⟨r5, S4, gS4, hF⟩ := fr_c g0 (fun _ h => fr_Model_stands h) (by decide) hF
      rcases fr_if hF with hF | hF
      · exact gS4.tr (fb_Model_share_127 (n := n) hk59  hF)
      · obtain ⟨r7, S6, gS6, hF⟩ := fr_c gS4 (fun _ h => fr_Model_worthOf h) (by decide) hF
        obtain ⟨v8, hF⟩ := fr_r hF
        rcases fr_if hF with hF | hF
        · exact gS6.tr (fb_Model_share_116 (n := n) hk59  hF)
        · exact gS6.tr (fb_Model_share_116 (n := n) hk59  hF)
theorem fb_Model_share_59 {n : Nat} {res : (Int64 × dk_S)}  : ∀ (q : Nat) (x1 : Int32) (x3 : Int32) (x4 : Int32) (x5 : Int64) (x7 : Int64) (x9 : Int32)  (S : dk_S), B_Model_share_59 n  q x1 x3 x4 x5 x7 x9 S = some res → dk_fr [18, 19, 20, 21, 22, 23, 24, 25, 26, 27, 28, 29, 30, 49, 50] S res.2 := by
  intro q
  induction q with
  | zero => intro x1 x3 x4 x5 x7 x9  S hF; cases hF
  | succ q ih => intro x1 x3 x4 x5 x7 x9  S hF; exact fb_Model_share_59b (n := n) ih  hF
theorem fb_Model_share_0 {n : Nat} {res : (Int64 × dk_S)}  {x1 : Int32} {x2 : Int32} {x3 : Int32} {x4 : Int32} {S : dk_S}  (hF : B_Model_share_0 n  x1 x2 x3 x4 S = some res) : dk_fr [18, 19, 20, 21, 22, 23, 24, 25, 26, 27, 28, 29, 30, 49, 50] S res.2 := by
  have g0 : dk_fr [18, 19, 20, 21, 22, 23, 24, 25, 26, 27, 28, 29, 30, 49, 50] S S := dk_fr.rf
  unfold B_Model_share_0 at hF
  obtain ⟨r10, S9, gS9, hF⟩ := fr_c g0 (fun _ h => fr_Model_isBeast h) (by decide) hF
  rcases fr_if hF with hF | hF
  · exact gS9.tr (fb_Model_share_40 (n := n)   hF)
  · obtain ⟨r12, S11, gS11, hF⟩ := fr_c gS9 (fun _ h => fr_Model_in h) (by decide) hF
    rcases fr_if hF with hF | hF
    · exact gS11.tr (fb_Model_share_40 (n := n)   hF)
    · obtain ⟨r14, S13, gS13, hF⟩ := fr_c gS11 (fun _ h => fr_Model_in h) (by decide) hF
      rcases fr_if hF with hF | hF
      · exact gS13.tr (fb_Model_share_40 (n := n)   hF)
      · obtain ⟨r16, S15, gS15, hF⟩ := fr_c gS13 (fun _ h => fr_Model_in h) (by decide) hF
        rcases fr_if hF with hF | hF
        · obtain ⟨S17, gS17, hF⟩ := fr_cv gS15 (fun _ h => fr_Model_works h) (by decide) hF
          exact gS17.tr (fb_Model_share_59 (n := n)  n x1 x3 x4 (0 : Int64) (0 : Int64) (0 : Int32) S17 hF)
        · exact gS15.tr (fb_Model_share_40 (n := n)   hF)
theorem fr_Model_share {n : Nat} {x1 : Int32} {x2 : Int32} {x3 : Int32} {x4 : Int32} {S : dk_S} {res : (Int64 × dk_S)}  (h : F_Model_share n x1 x2 x3 x4 S = some res) : dk_fr [18, 19, 20, 21, 22, 23, 24, 25, 26, 27, 28, 29, 30, 49, 50] S res.2 := fb_Model_share_0 (n := n)  h
theorem fb_Model_doQuarrel_79 {n : Nat} {res : (Int32 × dk_S)} {k22 : Int32 → Int32 → Int32 → Int32 → dk_S → Option (Int32 × dk_S)} (hk22 : ∀ (x1 : Int32) (x2 : Int32) (x3 : Int32) (x4 : Int32)  (S : dk_S), k22 x1 x2 x3 x4 S = some res → dk_fr [49, 50] S res.2) {x1 : Int32} {x2 : Int32} {x3 : Int32} {x4 : Int32} {S : dk_S}  (hF : B_Model_doQuarrel_79 n k22 x1 x2 x3 x4 S = some res) : dk_fr [49, 50] S res.2 := by
  have g0 : dk_fr [49, 50] S S := dk_fr.rf
  unfold B_Model_doQuarrel_79 at hF
  exact g0.tr (hk22 x1 x2 x3 (x4 + (1 : Int32)) S hF)
theorem fb_Model_doQuarrel_22b {n : Nat} {res : (Int32 × dk_S)} {k22 : Int32 → Int32 → Int32 → Int32 → dk_S → Option (Int32 × dk_S)} (hk22 : ∀ (x1 : Int32) (x2 : Int32) (x3 : Int32) (x4 : Int32)  (S : dk_S), k22 x1 x2 x3 x4 S = some res → dk_fr [49, 50] S res.2) {x1 : Int32} {x2 : Int32} {x3 : Int32} {x4 : Int32} {S : dk_S}  (hF : B_Model_doQuarrel_22b n k22 x1 x2 x3 x4 S = some res) : dk_fr [49, 50] S res.2 := by
  have g0 : dk_fr [49, 50] S S := dk_fr.rf
  unfold B_Model_doQuarrel_22b at hF
  rcases fr_if hF with hF | hF
  · have hF := (dk_b_out hF).2
    exact fr_rt hF g0
  · obtain ⟨v1, hF⟩ := fr_r hF
    rcases fr_if hF with hF | hF
    · exact g0.tr (fb_Model_doQuarrel_79 (n := n) hk22  hF)
    · obtain ⟨v2, hF⟩ := fr_r hF
      obtain ⟨v3, hF⟩ := fr_r hF
      rcases fr_if hF with hF | hF
      · exact g0.tr (fb_Model_doQuarrel_79 (n := n) hk22  hF)
      · obtain ⟨r5, S4, gS4, hF⟩ := fr_c g0 (fun _ h => fr_Model_stands h) (by decide) hF
        rcases fr_if hF with hF | hF
        · exact gS4.tr (fb_Model_doQuarrel_79 (n := n) hk22  hF)
        · obtain ⟨r7, S6, gS6, hF⟩ := fr_c gS4 (fun _ h => fr_Model_worthOf h) (by decide) hF
          rcases fr_if hF with hF | hF
          · exact gS6.tr (fb_Model_doQuarrel_79 (n := n) hk22  hF)
          · have hF := (dk_b_out hF).2
            exact fr_rt hF gS6
theorem fb_Model_doQuarrel_22 {n : Nat} {res : (Int32 × dk_S)}  : ∀ (q : Nat) (x1 : Int32) (x2 : Int32) (x3 : Int32) (x4 : Int32)  (S : dk_S), B_Model_doQuarrel_22 n  q x1 x2 x3 x4 S = some res → dk_fr [49, 50] S res.2 := by
  intro q
  induction q with
  | zero => intro x1 x2 x3 x4  S hF; cases hF
  | succ q ih => intro x1 x2 x3 x4  S hF; exact fb_Model_doQuarrel_22b (n := n) ih  hF
theorem fb_Model_doQuarrel_0 {n : Nat} {res : (Int32 × dk_S)}  {x1 : Int32} {S : dk_S}  (hF : B_Model_doQuarrel_0 n  x1 S = some res) : dk_fr [49, 50] S res.2 := by
  have g0 : dk_fr [49, 50] S S := dk_fr.rf
  unfold B_Model_doQuarrel_0 at hF
  obtain ⟨r9, S8, gS8, hF⟩ := fr_c g0 (fun _ h => fr_Model_winner h) (by decide) hF
  rcases fr_if hF with hF | hF
  · obtain ⟨r11, S10, gS10, hF⟩ := fr_c gS8 (fun _ h => fr_Model_worthOf h) (by decide) hF
    exact gS10.tr (fb_Model_doQuarrel_22 (n := n)  n x1 r9 r11 (0 : Int32) S10 hF)
  · have hF := (dk_b_out hF).2
    exact fr_rt hF gS8
theorem fr_Model_doQuarrel {n : Nat} {x1 : Int32} {S : dk_S} {res : (Int32 × dk_S)}  (h : F_Model_doQuarrel n x1 S = some res) : dk_fr [49, 50] S res.2 := fb_Model_doQuarrel_0 (n := n)  h
theorem fb_Model_quarrels_32 {n : Nat} {res : (Int32 × dk_S)} {k4 : Int32 → Int32 → Int32 → dk_S → Option (Int32 × dk_S)} (hk4 : ∀ (x1 : Int32) (x2 : Int32) (x3 : Int32)  (S : dk_S), k4 x1 x2 x3 S = some res → dk_fr [18, 19, 20, 21, 22, 23, 24, 25, 26, 27, 28, 29, 30, 49, 50] S res.2) {x1 : Int32} {x3 : Int32} {u0 : Int32} {u1 : Int32} {S : dk_S}  (hF : B_Model_quarrels_32 n k4 x1 x3 u0 u1 S = some res) : dk_fr [18, 19, 20, 21, 22, 23, 24, 25, 26, 27, 28, 29, 30, 49, 50] S res.2 := by
  have g0 : dk_fr [18, 19, 20, 21, 22, 23, 24, 25, 26, 27, 28, 29, 30, 49, 50] S S := dk_fr.rf
  unfold B_Model_quarrels_32 at hF
  exact g0.tr (hk4 x1 (u0 + u1) (x3 + (1 : Int32)) S hF)
theorem fb_Model_quarrels_4b {n : Nat} {res : (Int32 × dk_S)} {k4 : Int32 → Int32 → Int32 → dk_S → Option (Int32 × dk_S)} (hk4 : ∀ (x1 : Int32) (x2 : Int32) (x3 : Int32)  (S : dk_S), k4 x1 x2 x3 S = some res → dk_fr [18, 19, 20, 21, 22, 23, 24, 25, 26, 27, 28, 29, 30, 49, 50] S res.2) {x1 : Int32} {x2 : Int32} {x3 : Int32} {S : dk_S}  (hF : B_Model_quarrels_4b n k4 x1 x2 x3 S = some res) : dk_fr [18, 19, 20, 21, 22, 23, 24, 25, 26, 27, 28, 29, 30, 49, 50] S res.2 := by
  have g0 : dk_fr [18, 19, 20, 21, 22, 23, 24, 25, 26, 27, 28, 29, 30, 49, 50] S S := dk_fr.rf
  unfold B_Model_quarrels_4b at hF
  rcases fr_if hF with hF | hF
  · exact fr_rt hF g0
  · obtain ⟨S1, gS1, hF⟩ := fr_cv g0 (fun _ h => fr_Model_works h) (by decide) hF
    obtain ⟨r4, S3, gS3, hF⟩ := fr_c gS1 (fun _ h => fr_Model_doQuarrel h) (by decide) hF
    rcases fr_if hF with hF | hF
    · exact gS3.tr (fb_Model_quarrels_32 (n := n) hk4  hF)
    · exact gS3.tr (fb_Model_quarrels_32 (n := n) hk4  hF)
theorem fb_Model_quarrels_4 {n : Nat} {res : (Int32 × dk_S)}  : ∀ (q : Nat) (x1 : Int32) (x2 : Int32) (x3 : Int32)  (S : dk_S), B_Model_quarrels_4 n  q x1 x2 x3 S = some res → dk_fr [18, 19, 20, 21, 22, 23, 24, 25, 26, 27, 28, 29, 30, 49, 50] S res.2 := by
  intro q
  induction q with
  | zero => intro x1 x2 x3  S hF; cases hF
  | succ q ih => intro x1 x2 x3  S hF; exact fb_Model_quarrels_4b (n := n) ih  hF
theorem fb_Model_quarrels_0 {n : Nat} {res : (Int32 × dk_S)}  {x1 : Int32} {S : dk_S}  (hF : B_Model_quarrels_0 n  x1 S = some res) : dk_fr [18, 19, 20, 21, 22, 23, 24, 25, 26, 27, 28, 29, 30, 49, 50] S res.2 := by
  have g0 : dk_fr [18, 19, 20, 21, 22, 23, 24, 25, 26, 27, 28, 29, 30, 49, 50] S S := dk_fr.rf
  unfold B_Model_quarrels_0 at hF
  exact g0.tr (fb_Model_quarrels_4 (n := n)  n x1 (0 : Int32) (0 : Int32) S hF)
theorem fr_Model_quarrels {n : Nat} {x1 : Int32} {S : dk_S} {res : (Int32 × dk_S)}  (h : F_Model_quarrels n x1 S = some res) : dk_fr [18, 19, 20, 21, 22, 23, 24, 25, 26, 27, 28, 29, 30, 49, 50] S res.2 := fb_Model_quarrels_0 (n := n)  h
theorem fb_Model_quarrel_0 {n : Nat} {res : (Int32 × dk_S)}  {x1 : Int32} {S : dk_S}  (hF : B_Model_quarrel_0 n  x1 S = some res) : dk_fr [18, 19, 20, 21, 22, 23, 24, 25, 26, 27, 28, 29, 30, 49, 50] S res.2 := by
  have g0 : dk_fr [18, 19, 20, 21, 22, 23, 24, 25, 26, 27, 28, 29, 30, 49, 50] S S := dk_fr.rf
  unfold B_Model_quarrel_0 at hF
  obtain ⟨r2, S1, gS1, hF⟩ := fr_c g0 (fun _ h => fr_Model_isBeast h) (by decide) hF
  rcases fr_if hF with hF | hF
  · exact fr_rt hF gS1
  · obtain ⟨r4, S3, gS3, hF⟩ := fr_c gS1 (fun _ h => fr_Model_quarrels h) (by decide) hF
    exact fr_rt hF gS3
theorem fr_Model_quarrel {n : Nat} {x1 : Int32} {S : dk_S} {res : (Int32 × dk_S)}  (h : F_Model_quarrel n x1 S = some res) : dk_fr [18, 19, 20, 21, 22, 23, 24, 25, 26, 27, 28, 29, 30, 49, 50] S res.2 := fb_Model_quarrel_0 (n := n)  h
theorem fb_Model_custom_93 {n : Nat} {res : (Int32 × dk_S)} {k27 : Int32 → Int32 → Int32 → Int32 → Int32 → Int32 → dk_S → Option (Int32 × dk_S)} (hk27 : ∀ (x1 : Int32) (x2 : Int32) (x3 : Int32) (x4 : Int32) (x5 : Int32) (x6 : Int32)  (S : dk_S), k27 x1 x2 x3 x4 x5 x6 S = some res → dk_fr [17, 18, 19, 20, 21, 22, 23, 24, 25, 26, 27, 28, 29, 30, 49, 50] S res.2) {x1 : Int32} {x2 : Int32} {x3 : Int32} {x4 : Int32} {x5 : Int32} {x6 : Int32} {S : dk_S}  (hF : B_Model_custom_93 n k27 x1 x2 x3 x4 x5 x6 S = some res) : dk_fr [17, 18, 19, 20, 21, 22, 23, 24, 25, 26, 27, 28, 29, 30, 49, 50] S res.2 := by
  have g0 : dk_fr [17, 18, 19, 20, 21, 22, 23, 24, 25, 26, 27, 28, 29, 30, 49, 50] S S := dk_fr.rf
  unfold B_Model_custom_93 at hF
  exact g0.tr (hk27 x1 x2 x3 x4 x5 (x6 + (1 : Int32)) S hF)
theorem fb_Model_custom_82 {n : Nat} {res : (Int32 × dk_S)} {k27 : Int32 → Int32 → Int32 → Int32 → Int32 → Int32 → dk_S → Option (Int32 × dk_S)} (hk27 : ∀ (x1 : Int32) (x2 : Int32) (x3 : Int32) (x4 : Int32) (x5 : Int32) (x6 : Int32)  (S : dk_S), k27 x1 x2 x3 x4 x5 x6 S = some res → dk_fr [17, 18, 19, 20, 21, 22, 23, 24, 25, 26, 27, 28, 29, 30, 49, 50] S res.2) {x1 : Int32} {x2 : Int32} {x6 : Int32} {x7 : Int32} {x8 : Int32} {S : dk_S}  (hF : B_Model_custom_82 n k27 x1 x2 x6 x7 x8 S = some res) : dk_fr [17, 18, 19, 20, 21, 22, 23, 24, 25, 26, 27, 28, 29, 30, 49, 50] S res.2 := by
  have g0 : dk_fr [17, 18, 19, 20, 21, 22, 23, 24, 25, 26, 27, 28, 29, 30, 49, 50] S S := dk_fr.rf
  unfold B_Model_custom_82 at hF
  exact g0.tr (fb_Model_custom_93 (n := n) hk27  hF)
theorem fb_Model_custom_27b {n : Nat} {res : (Int32 × dk_S)} {k27 : Int32 → Int32 → Int32 → Int32 → Int32 → Int32 → dk_S → Option (Int32 × dk_S)} (hk27 : ∀ (x1 : Int32) (x2 : Int32) (x3 : Int32) (x4 : Int32) (x5 : Int32) (x6 : Int32)  (S : dk_S), k27 x1 x2 x3 x4 x5 x6 S = some res → dk_fr [17, 18, 19, 20, 21, 22, 23, 24, 25, 26, 27, 28, 29, 30, 49, 50] S res.2) {x1 : Int32} {x2 : Int32} {x3 : Int32} {x4 : Int32} {x5 : Int32} {x6 : Int32} {S : dk_S}  (hF : B_Model_custom_27b n k27 x1 x2 x3 x4 x5 x6 S = some res) : dk_fr [17, 18, 19, 20, 21, 22, 23, 24, 25, 26, 27, 28, 29, 30, 49, 50] S res.2 := by
  have g0 : dk_fr [17, 18, 19, 20, 21, 22, 23, 24, 25, 26, 27, 28, 29, 30, 49, 50] S S := dk_fr.rf
  unfold B_Model_custom_27b at hF
  rcases fr_if hF with hF | hF
  · obtain ⟨S1, gS1, hF⟩ := fr_p g0 (by decide) hF
    exact fr_rt hF gS1
  · obtain ⟨S2, gS2, hF⟩ := fr_p g0 (by decide) hF
    obtain ⟨r4, S3, gS3, hF⟩ := fr_c gS2 (fun _ h => fr_Model_quarrels h) (by decide) hF
    obtain ⟨r6, S5, gS5, hF⟩ := fr_c gS3 (fun _ h => fr_Model_nobodyOf h) (by decide) hF
    rcases fr_if hF with hF | hF
    · exact gS5.tr (fb_Model_custom_82 (n := n) hk27  hF)
    · rcases fr_if hF with hF | hF
      · exact gS5.tr (fb_Model_custom_82 (n := n) hk27  hF)
      · rcases fr_if hF with hF | hF
        · exact gS5.tr (fb_Model_custom_93 (n := n) hk27  hF)
        · rcases fr_if hF with hF | hF
          · exact gS5.tr (fb_Model_custom_93 (n := n) hk27  hF)
          · exact gS5.tr (fb_Model_custom_82 (n := n) hk27  hF)
theorem fb_Model_custom_27 {n : Nat} {res : (Int32 × dk_S)}  : ∀ (q : Nat) (x1 : Int32) (x2 : Int32) (x3 : Int32) (x4 : Int32) (x5 : Int32) (x6 : Int32)  (S : dk_S), B_Model_custom_27 n  q x1 x2 x3 x4 x5 x6 S = some res → dk_fr [17, 18, 19, 20, 21, 22, 23, 24, 25, 26, 27, 28, 29, 30, 49, 50] S res.2 := by
  intro q
  induction q with
  | zero => intro x1 x2 x3 x4 x5 x6  S hF; cases hF
  | succ q ih => intro x1 x2 x3 x4 x5 x6  S hF; exact fb_Model_custom_27b (n := n) ih  hF
theorem fb_Model_custom_0 {n : Nat} {res : (Int32 × dk_S)}  {x1 : Int32} {S : dk_S}  (hF : B_Model_custom_0 n  x1 S = some res) : dk_fr [17, 18, 19, 20, 21, 22, 23, 24, 25, 26, 27, 28, 29, 30, 49, 50] S res.2 := by
  have g0 : dk_fr [17, 18, 19, 20, 21, 22, 23, 24, 25, 26, 27, 28, 29, 30, 49, 50] S S := dk_fr.rf
  unfold B_Model_custom_0 at hF
  obtain ⟨r8, S7, gS7, hF⟩ := fr_c g0 (fun _ h => fr_Model_isBeast h) (by decide) hF
  rcases fr_if hF with hF | hF
  · exact gS7.tr (fb_Model_custom_27 (n := n)  n x1 (S7 17 0) (-1 : Int32) (0 : Int32) (0 : Int32) (0 : Int32) S7 hF)
  · exact fr_rt hF gS7
theorem fr_Model_custom {n : Nat} {x1 : Int32} {S : dk_S} {res : (Int32 × dk_S)}  (h : F_Model_custom n x1 S = some res) : dk_fr [17, 18, 19, 20, 21, 22, 23, 24, 25, 26, 27, 28, 29, 30, 49, 50] S res.2 := fb_Model_custom_0 (n := n)  h
theorem fb_Model_count_0 {n : Nat} {res : (Int32 × dk_S)}  {x1 : Int32} {S : dk_S}  (hF : B_Model_count_0 n  x1 S = some res) : dk_fr [] S res.2 := by
  have g0 : dk_fr [] S S := dk_fr.rf
  unfold B_Model_count_0 at hF
  rcases fr_if hF with hF | hF
  · exact fr_rt hF g0
  · rcases fr_if hF with hF | hF
    · exact fr_rt hF g0
    · rcases fr_if hF with hF | hF
      · exact fr_rt hF g0
      · rcases fr_if hF with hF | hF
        · obtain ⟨r2, S1, gS1, hF⟩ := fr_c g0 (fun _ h => fr_Model_unsureMany h) (by decide) hF
          exact fr_rt hF gS1
        · rcases fr_if hF with hF | hF
          · exact fr_rt hF g0
          · rcases fr_if hF with hF | hF
            · exact fr_rt hF g0
            · rcases fr_if hF with hF | hF
              · exact fr_rt hF g0
              · exact fr_rt hF g0
theorem fr_Model_count {n : Nat} {x1 : Int32} {S : dk_S} {res : (Int32 × dk_S)}  (h : F_Model_count n x1 S = some res) : dk_fr [] S res.2 := fb_Model_count_0 (n := n)  h
theorem fb_Model_image_57b {n : Nat} {res : (Int32 × dk_S)} {k57 : Int32 → dk_S → Option (Int32 × dk_S)} (hk57 : ∀ (x1 : Int32)  (S : dk_S), k57 x1 S = some res → dk_fr [31, 32, 33, 34, 35, 36] S res.2) {x1 : Int32} {S : dk_S}  (hF : B_Model_image_57b n k57 x1 S = some res) : dk_fr [31, 32, 33, 34, 35, 36] S res.2 := by
  have g0 : dk_fr [31, 32, 33, 34, 35, 36] S S := dk_fr.rf
  unfold B_Model_image_57b at hF
  rcases fr_if hF with hF | hF
  · exact fr_rt hF g0
  · obtain ⟨v1, hF⟩ := fr_r hF
    obtain ⟨S2, gS2, hF⟩ := fr_w g0 (by decide) hF
    exact gS2.tr (hk57 (x1 + (1 : Int32)) S2 hF)
theorem fb_Model_image_57 {n : Nat} {res : (Int32 × dk_S)}  : ∀ (q : Nat) (x1 : Int32)  (S : dk_S), B_Model_image_57 n  q x1 S = some res → dk_fr [31, 32, 33, 34, 35, 36] S res.2 := by
  intro q
  induction q with
  | zero => intro x1  S hF; cases hF
  | succ q ih => intro x1  S hF; exact fb_Model_image_57b (n := n) ih  hF
theorem fb_Model_image_31b {n : Nat} {res : (Int32 × dk_S)} {k31 : Int32 → dk_S → Option (Int32 × dk_S)} (hk31 : ∀ (x1 : Int32)  (S : dk_S), k31 x1 S = some res → dk_fr [31, 32, 33, 34, 35, 36] S res.2) {x1 : Int32} {S : dk_S}  (hF : B_Model_image_31b n k31 x1 S = some res) : dk_fr [31, 32, 33, 34, 35, 36] S res.2 := by
  have g0 : dk_fr [31, 32, 33, 34, 35, 36] S S := dk_fr.rf
  unfold B_Model_image_31b at hF
  rcases fr_if hF with hF | hF
  · exact g0.tr (fb_Model_image_57 (n := n)  n (0 : Int32) S hF)
  · obtain ⟨v3, hF⟩ := fr_r hF
    obtain ⟨S4, gS4, hF⟩ := fr_w g0 (by decide) hF
    exact gS4.tr (hk31 (x1 + (1 : Int32)) S4 hF)
theorem fb_Model_image_31 {n : Nat} {res : (Int32 × dk_S)}  : ∀ (q : Nat) (x1 : Int32)  (S : dk_S), B_Model_image_31 n  q x1 S = some res → dk_fr [31, 32, 33, 34, 35, 36] S res.2 := by
  intro q
  induction q with
  | zero => intro x1  S hF; cases hF
  | succ q ih => intro x1  S hF; exact fb_Model_image_31b (n := n) ih  hF
theorem fb_Model_image_0 {n : Nat} {res : (Int32 × dk_S)}   {S : dk_S}  (hF : B_Model_image_0 n   S = some res) : dk_fr [31, 32, 33, 34, 35, 36] S res.2 := by
  have g0 : dk_fr [31, 32, 33, 34, 35, 36] S S := dk_fr.rf
  unfold B_Model_image_0 at hF
  have hF := (dk_b_out hF).2
  obtain ⟨S5, gS5, hF⟩ := fr_p g0 (by decide) hF
  obtain ⟨S6, gS6, hF⟩ := fr_p gS5 (by decide) hF
  obtain ⟨S7, gS7, hF⟩ := fr_p gS6 (by decide) hF
  obtain ⟨S8, gS8, hF⟩ := fr_p gS7 (by decide) hF
  exact gS8.tr (fb_Model_image_31 (n := n)  n (0 : Int32) S8 hF)
theorem fr_Model_image {n : Nat}  {S : dk_S} {res : (Int32 × dk_S)}  (h : F_Model_image n  S = some res) : dk_fr [31, 32, 33, 34, 35, 36] S res.2 := fb_Model_image_0 (n := n)  h
theorem fb_Model_back_103 {n : Nat} {res : (Int32 × dk_S)} {k74 : Int32 → dk_S → Option (Int32 × dk_S)} (hk74 : ∀ (x1 : Int32)  (S : dk_S), k74 x1 S = some res → dk_fr [1, 5, 11, 17] S res.2) {x1 : Int32} {u1 : Int32} {u2 : Int32} {S : dk_S}  (hF : B_Model_back_103 n k74 x1 u1 u2 S = some res) : dk_fr [1, 5, 11, 17] S res.2 := by
  have g0 : dk_fr [1, 5, 11, 17] S S := dk_fr.rf
  unfold B_Model_back_103 at hF
  obtain ⟨S1, gS1, hF⟩ := fr_w g0 (by decide) hF
  exact gS1.tr (hk74 (x1 + (1 : Int32)) S1 hF)
theorem fb_Model_back_74b {n : Nat} {res : (Int32 × dk_S)} {k74 : Int32 → dk_S → Option (Int32 × dk_S)} (hk74 : ∀ (x1 : Int32)  (S : dk_S), k74 x1 S = some res → dk_fr [1, 5, 11, 17] S res.2) {x1 : Int32} {S : dk_S}  (hF : B_Model_back_74b n k74 x1 S = some res) : dk_fr [1, 5, 11, 17] S res.2 := by
  have g0 : dk_fr [1, 5, 11, 17] S S := dk_fr.rf
  unfold B_Model_back_74b at hF
  rcases fr_if hF with hF | hF
  · exact fr_rt hF g0
  · rcases fr_if hF with hF | hF
    · exact g0.tr (fb_Model_back_103 (n := n) hk74  hF)
    · obtain ⟨v2, hF⟩ := fr_r hF
      exact g0.tr (fb_Model_back_103 (n := n) hk74  hF)
theorem fb_Model_back_74 {n : Nat} {res : (Int32 × dk_S)}  : ∀ (q : Nat) (x1 : Int32)  (S : dk_S), B_Model_back_74 n  q x1 S = some res → dk_fr [1, 5, 11, 17] S res.2 := by
  intro q
  induction q with
  | zero => intro x1  S hF; cases hF
  | succ q ih => intro x1  S hF; exact fb_Model_back_74b (n := n) ih  hF
theorem fb_Model_back_69 {n : Nat} {res : (Int32 × dk_S)}  {u1 : Int32} {S : dk_S}  (hF : B_Model_back_69 n  u1 S = some res) : dk_fr [1, 5, 11, 17] S res.2 := by
  have g0 : dk_fr [1, 5, 11, 17] S S := dk_fr.rf
  unfold B_Model_back_69 at hF
  obtain ⟨S3, gS3, hF⟩ := fr_p g0 (by decide) hF
  exact gS3.tr (fb_Model_back_74 (n := n)  n (0 : Int32) S3 hF)
theorem fb_Model_back_20b {n : Nat} {res : (Int32 × dk_S)} {k20 : Int32 → dk_S → Option (Int32 × dk_S)} (hk20 : ∀ (x1 : Int32)  (S : dk_S), k20 x1 S = some res → dk_fr [1, 5, 11, 17] S res.2) {x1 : Int32} {S : dk_S}  (hF : B_Model_back_20b n k20 x1 S = some res) : dk_fr [1, 5, 11, 17] S res.2 := by
  have g0 : dk_fr [1, 5, 11, 17] S S := dk_fr.rf
  unfold B_Model_back_20b at hF
  rcases fr_if hF with hF | hF
  · rcases fr_if hF with hF | hF
    · exact g0.tr (fb_Model_back_69 (n := n)   hF)
    · exact g0.tr (fb_Model_back_69 (n := n)   hF)
  · obtain ⟨v4, hF⟩ := fr_r hF
    obtain ⟨S5, gS5, hF⟩ := fr_w g0 (by decide) hF
    exact gS5.tr (hk20 (x1 + (1 : Int32)) S5 hF)
theorem fb_Model_back_20 {n : Nat} {res : (Int32 × dk_S)}  : ∀ (q : Nat) (x1 : Int32)  (S : dk_S), B_Model_back_20 n  q x1 S = some res → dk_fr [1, 5, 11, 17] S res.2 := by
  intro q
  induction q with
  | zero => intro x1  S hF; cases hF
  | succ q ih => intro x1  S hF; exact fb_Model_back_20b (n := n) ih  hF
theorem fb_Model_back_0 {n : Nat} {res : (Int32 × dk_S)}   {S : dk_S}  (hF : B_Model_back_0 n   S = some res) : dk_fr [1, 5, 11, 17] S res.2 := by
  have g0 : dk_fr [1, 5, 11, 17] S S := dk_fr.rf
  unfold B_Model_back_0 at hF
  rcases fr_if hF with hF | hF
  · obtain ⟨S6, gS6, hF⟩ := fr_p g0 (by decide) hF
    exact gS6.tr (fb_Model_back_20 (n := n)  n (0 : Int32) S6 hF)
  · exact fr_rt hF g0
theorem fr_Model_back {n : Nat}  {S : dk_S} {res : (Int32 × dk_S)}  (h : F_Model_back n  S = some res) : dk_fr [1, 5, 11, 17] S res.2 := fb_Model_back_0 (n := n)  h
theorem fb_Model_sheet_70b {n : Nat} {res : (Int32 × dk_S)} {k70 : Int32 → Int32 → dk_S → Option (Int32 × dk_S)} (hk70 : ∀ (x1 : Int32) (x4 : Int32)  (S : dk_S), k70 x1 x4 S = some res → dk_fr [37, 38, 39] S res.2) {x1 : Int32} {x4 : Int32} {S : dk_S}  (hF : B_Model_sheet_70b n k70 x1 x4 S = some res) : dk_fr [37, 38, 39] S res.2 := by
  have g0 : dk_fr [37, 38, 39] S S := dk_fr.rf
  unfold B_Model_sheet_70b at hF
  rcases fr_if hF with hF | hF
  · exact fr_rt hF g0
  · obtain ⟨S1, gS1, hF⟩ := fr_w g0 (by decide) hF
    exact gS1.tr (hk70 x1 (x4 + (1 : Int32)) S1 hF)
theorem fb_Model_sheet_70 {n : Nat} {res : (Int32 × dk_S)}  : ∀ (q : Nat) (x1 : Int32) (x4 : Int32)  (S : dk_S), B_Model_sheet_70 n  q x1 x4 S = some res → dk_fr [37, 38, 39] S res.2 := by
  intro q
  induction q with
  | zero => intro x1 x4  S hF; cases hF
  | succ q ih => intro x1 x4  S hF; exact fb_Model_sheet_70b (n := n) ih  hF
theorem fb_Model_sheet_66 {n : Nat} {res : (Int32 × dk_S)}  {x1 : Int32} {u1 : Int32} {u2 : Int32} {S : dk_S}  (hF : B_Model_sheet_66 n  x1 u1 u2 S = some res) : dk_fr [37, 38, 39] S res.2 := by
  have g0 : dk_fr [37, 38, 39] S S := dk_fr.rf
  unfold B_Model_sheet_66 at hF
  obtain ⟨S2, gS2, hF⟩ := fr_w g0 (by decide) hF
  exact gS2.tr (fb_Model_sheet_70 (n := n)  n x1 (0 : Int32) S2 hF)
theorem fb_Model_sheet_44 {n : Nat} {res : (Int32 × dk_S)}  {x1 : Int32} {x2 : Int32} {x3 : Int32} {S : dk_S}  (hF : B_Model_sheet_44 n  x1 x2 x3 S = some res) : dk_fr [37, 38, 39] S res.2 := by
  have g0 : dk_fr [37, 38, 39] S S := dk_fr.rf
  unfold B_Model_sheet_44 at hF
  obtain ⟨S3, gS3, hF⟩ := fr_w g0 (by decide) hF
  rcases fr_if hF with hF | hF
  · exact gS3.tr (fb_Model_sheet_66 (n := n)   hF)
  · exact gS3.tr (fb_Model_sheet_66 (n := n)   hF)
theorem fb_Model_sheet_32 {n : Nat} {res : (Int32 × dk_S)}  {x1 : Int32} {x2 : Int32} {x3 : Int32} {S : dk_S}  (hF : B_Model_sheet_32 n  x1 x2 x3 S = some res) : dk_fr [37, 38, 39] S res.2 := by
  have g0 : dk_fr [37, 38, 39] S S := dk_fr.rf
  unfold B_Model_sheet_32 at hF
  rcases fr_if hF with hF | hF
  · exact g0.tr (fb_Model_sheet_44 (n := n)   hF)
  · rcases fr_if hF with hF | hF
    · exact g0.tr (fb_Model_sheet_44 (n := n)   hF)
    · exact fr_rt hF g0
theorem fb_Model_sheet_0 {n : Nat} {res : (Int32 × dk_S)}  {x1 : Int32} {x2 : Int32} {x3 : Int32} {S : dk_S}  (hF : B_Model_sheet_0 n  x1 x2 x3 S = some res) : dk_fr [37, 38, 39] S res.2 := by
  have g0 : dk_fr [37, 38, 39] S S := dk_fr.rf
  unfold B_Model_sheet_0 at hF
  obtain ⟨r5, S4, gS4, hF⟩ := fr_c g0 (fun _ h => fr_Model_in h) (by decide) hF
  rcases fr_if hF with hF | hF
  · exact fr_rt hF gS4
  · obtain ⟨r7, S6, gS6, hF⟩ := fr_c gS4 (fun _ h => fr_Model_in h) (by decide) hF
    rcases fr_if hF with hF | hF
    · exact fr_rt hF gS6
    · rcases fr_if hF with hF | hF
      · exact gS6.tr (fb_Model_sheet_32 (n := n)   hF)
      · rcases fr_if hF with hF | hF
        · exact gS6.tr (fb_Model_sheet_32 (n := n)   hF)
        · exact fr_rt hF gS6
theorem fr_Model_sheet {n : Nat} {x1 : Int32} {x2 : Int32} {x3 : Int32} {S : dk_S} {res : (Int32 × dk_S)}  (h : F_Model_sheet n x1 x2 x3 S = some res) : dk_fr [37, 38, 39] S res.2 := fb_Model_sheet_0 (n := n)  h
theorem fb_Model_cell_84 {n : Nat} {res : (Int32 × dk_S)}  {u1 : Int32} {u2 : Int32} {S : dk_S}  (hF : B_Model_cell_84 n  u1 u2 S = some res) : dk_fr [39] S res.2 := by
  have g0 : dk_fr [39] S S := dk_fr.rf
  unfold B_Model_cell_84 at hF
  obtain ⟨S1, gS1, hF⟩ := fr_w g0 (by decide) hF
  exact fr_rt hF gS1
theorem fb_Model_cell_0 {n : Nat} {res : (Int32 × dk_S)}  {x1 : Int32} {x2 : Int32} {x3 : Int32} {S : dk_S}  (hF : B_Model_cell_0 n  x1 x2 x3 S = some res) : dk_fr [39] S res.2 := by
  have g0 : dk_fr [39] S S := dk_fr.rf
  unfold B_Model_cell_0 at hF
  obtain ⟨r3, S2, gS2, hF⟩ := fr_c g0 (fun _ h => fr_Model_in h) (by decide) hF
  rcases fr_if hF with hF | hF
  · obtain ⟨v4, hF⟩ := fr_r hF
    rcases fr_if hF with hF | hF
    · obtain ⟨v5, hF⟩ := fr_r hF
      obtain ⟨r7, S6, gS6, hF⟩ := fr_c gS2 (fun _ h => fr_Model_in h) (by decide) hF
      rcases fr_if hF with hF | hF
      · obtain ⟨v8, hF⟩ := fr_r hF
        rcases fr_if hF with hF | hF
        · obtain ⟨v9, hF⟩ := fr_r hF
          rcases fr_if hF with hF | hF
          · exact gS6.tr (fb_Model_cell_84 (n := n)   hF)
          · exact gS6.tr (fb_Model_cell_84 (n := n)   hF)
        · exact gS6.tr (fb_Model_cell_84 (n := n)   hF)
      · exact fr_rt hF gS6
    · exact fr_rt hF gS2
  · exact fr_rt hF gS2
theorem fr_Model_cell {n : Nat} {x1 : Int32} {x2 : Int32} {x3 : Int32} {S : dk_S} {res : (Int32 × dk_S)}  (h : F_Model_cell n x1 x2 x3 S = some res) : dk_fr [39] S res.2 := fb_Model_cell_0 (n := n)  h
theorem fb_Model_copy_173 {n : Nat} {res : (Int32 × dk_S)} {k147 : Int32 → Int32 → Int32 → Int32 → dk_S → Option (Int32 × dk_S)} (hk147 : ∀ (x5 : Int32) (x6 : Int32) (x7 : Int32) (x8 : Int32)  (S : dk_S), k147 x5 x6 x7 x8 S = some res → dk_fr [39] S res.2) {x5 : Int32} {x6 : Int32} {x7 : Int32} {x8 : Int32} {u0 : Int32} {S : dk_S}  (hF : B_Model_copy_173 n k147 x5 x6 x7 x8 u0 S = some res) : dk_fr [39] S res.2 := by
  have g0 : dk_fr [39] S S := dk_fr.rf
  unfold B_Model_copy_173 at hF
  obtain ⟨v1, hF⟩ := fr_r hF
  obtain ⟨S2, gS2, hF⟩ := fr_w g0 (by decide) hF
  exact gS2.tr (hk147 x5 x6 x7 (x8 + (1 : Int32)) S2 hF)
theorem fb_Model_copy_147b {n : Nat} {res : (Int32 × dk_S)} {k147 : Int32 → Int32 → Int32 → Int32 → dk_S → Option (Int32 × dk_S)} (hk147 : ∀ (x5 : Int32) (x6 : Int32) (x7 : Int32) (x8 : Int32)  (S : dk_S), k147 x5 x6 x7 x8 S = some res → dk_fr [39] S res.2) {x5 : Int32} {x6 : Int32} {x7 : Int32} {x8 : Int32} {S : dk_S}  (hF : B_Model_copy_147b n k147 x5 x6 x7 x8 S = some res) : dk_fr [39] S res.2 := by
  have g0 : dk_fr [39] S S := dk_fr.rf
  unfold B_Model_copy_147b at hF
  rcases fr_if hF with hF | hF
  · exact fr_rt hF g0
  · rcases fr_if hF with hF | hF
    · exact g0.tr (fb_Model_copy_173 (n := n) hk147  hF)
    · exact g0.tr (fb_Model_copy_173 (n := n) hk147  hF)
theorem fb_Model_copy_147 {n : Nat} {res : (Int32 × dk_S)}  : ∀ (q : Nat) (x5 : Int32) (x6 : Int32) (x7 : Int32) (x8 : Int32)  (S : dk_S), B_Model_copy_147 n  q x5 x6 x7 x8 S = some res → dk_fr [39] S res.2 := by
  intro q
  induction q with
  | zero => intro x5 x6 x7 x8  S hF; cases hF
  | succ q ih => intro x5 x6 x7 x8  S hF; exact fb_Model_copy_147b (n := n) ih  hF
theorem fb_Model_copy_0 {n : Nat} {res : (Int32 × dk_S)}  {x1 : Int32} {x2 : Int32} {x3 : Int32} {x4 : Int32} {x5 : Int32} {S : dk_S}  (hF : B_Model_copy_0 n  x1 x2 x3 x4 x5 S = some res) : dk_fr [39] S res.2 := by
  have g0 : dk_fr [39] S S := dk_fr.rf
  unfold B_Model_copy_0 at hF
  obtain ⟨r4, S3, gS3, hF⟩ := fr_c g0 (fun _ h => fr_Model_in h) (by decide) hF
  rcases fr_if hF with hF | hF
  · exact fr_rt hF gS3
  · obtain ⟨r6, S5, gS5, hF⟩ := fr_c gS3 (fun _ h => fr_Model_in h) (by decide) hF
    rcases fr_if hF with hF | hF
    · obtain ⟨v7, hF⟩ := fr_r hF
      rcases fr_if hF with hF | hF
      · exact fr_rt hF gS5
      · obtain ⟨v8, hF⟩ := fr_r hF
        rcases fr_if hF with hF | hF
        · obtain ⟨v9, hF⟩ := fr_r hF
          obtain ⟨v10, hF⟩ := fr_r hF
          rcases fr_if hF with hF | hF
          · rcases fr_if hF with hF | hF
            · exact fr_rt hF gS5
            · rcases fr_if hF with hF | hF
              · exact fr_rt hF gS5
              · rcases fr_if hF with hF | hF
                · exact fr_rt hF gS5
                · obtain ⟨v11, hF⟩ := fr_r hF
                  rcases fr_if hF with hF | hF
                  · exact fr_rt hF gS5
                  · obtain ⟨v12, hF⟩ := fr_r hF
                    rcases fr_if hF with hF | hF
                    · exact fr_rt hF gS5
                    · obtain ⟨v13, hF⟩ := fr_r hF
                      rcases fr_if hF with hF | hF
                      · exact fr_rt hF gS5
                      · obtain ⟨v14, hF⟩ := fr_r hF
                        rcases fr_if hF with hF | hF
                        · exact gS5.tr (fb_Model_copy_147 (n := n)  n x5 (((40 : Int32) * x1) + x2) (((40 : Int32) * x3) + x4) (0 : Int32) S5 hF)
                        · exact fr_rt hF gS5
          · exact fr_rt hF gS5
        · exact fr_rt hF gS5
    · exact fr_rt hF gS5
theorem fr_Model_copy {n : Nat} {x1 : Int32} {x2 : Int32} {x3 : Int32} {x4 : Int32} {x5 : Int32} {S : dk_S} {res : (Int32 × dk_S)}  (h : F_Model_copy n x1 x2 x3 x4 x5 S = some res) : dk_fr [39] S res.2 := fb_Model_copy_0 (n := n)  h
theorem fb_Model_tell_171 {n : Nat} {res : (Int32 × dk_S)} {k64 : Int32 → Int32 → Int32 → Int32 → Int32 → dk_S → Option (Int32 × dk_S)} (hk64 : ∀ (x1 : Int32) (x3 : Int32) (x4 : Int32) (x5 : Int32) (x6 : Int32)  (S : dk_S), k64 x1 x3 x4 x5 x6 S = some res → dk_fr [5, 6, 7, 8, 9, 10, 11] S res.2) {x1 : Int32} {x3 : Int32} {x4 : Int32} {x6 : Int32} {u0 : Int32} {u1 : Int32} {S : dk_S}  (hF : B_Model_tell_171 n k64 x1 x3 x4 x6 u0 u1 S = some res) : dk_fr [5, 6, 7, 8, 9, 10, 11] S res.2 := by
  have g0 : dk_fr [5, 6, 7, 8, 9, 10, 11] S S := dk_fr.rf
  unfold B_Model_tell_171 at hF
  exact g0.tr (hk64 x1 x3 x4 (u0 + u1) (x6 + (1 : Int32)) S hF)
theorem fb_Model_tell_64b {n : Nat} {res : (Int32 × dk_S)} {k64 : Int32 → Int32 → Int32 → Int32 → Int32 → dk_S → Option (Int32 × dk_S)} (hk64 : ∀ (x1 : Int32) (x3 : Int32) (x4 : Int32) (x5 : Int32) (x6 : Int32)  (S : dk_S), k64 x1 x3 x4 x5 x6 S = some res → dk_fr [5, 6, 7, 8, 9, 10, 11] S res.2) {x1 : Int32} {x3 : Int32} {x4 : Int32} {x5 : Int32} {x6 : Int32} {S : dk_S}  (hF : B_Model_tell_64b n k64 x1 x3 x4 x5 x6 S = some res) : dk_fr [5, 6, 7, 8, 9, 10, 11] S res.2 := by
  have g0 : dk_fr [5, 6, 7, 8, 9, 10, 11] S S := dk_fr.rf
  unfold B_Model_tell_64b at hF
  rcases fr_if hF with hF | hF
  · exact fr_rt hF g0
  · rcases fr_if hF with hF | hF
    · exact fr_rt hF g0
    · rcases fr_if hF with hF | hF
      · exact fr_rt hF g0
      · obtain ⟨v1, hF⟩ := fr_r hF
        rcases fr_if hF with hF | hF
        · obtain ⟨v2, hF⟩ := fr_r hF
          obtain ⟨v3, hF⟩ := fr_r hF
          obtain ⟨v4, hF⟩ := fr_r hF
          obtain ⟨v5, hF⟩ := fr_r hF
          obtain ⟨v6, hF⟩ := fr_r hF
          obtain ⟨r8, S7, gS7, hF⟩ := fr_c g0 (fun _ h => fr_Model_moment h) (by decide) hF
          rcases fr_if hF with hF | hF
          · exact gS7.tr (fb_Model_tell_171 (n := n) hk64  hF)
          · exact gS7.tr (fb_Model_tell_171 (n := n) hk64  hF)
        · exact fr_rt hF g0
theorem fb_Model_tell_64 {n : Nat} {res : (Int32 × dk_S)}  : ∀ (q : Nat) (x1 : Int32) (x3 : Int32) (x4 : Int32) (x5 : Int32) (x6 : Int32)  (S : dk_S), B_Model_tell_64 n  q x1 x3 x4 x5 x6 S = some res → dk_fr [5, 6, 7, 8, 9, 10, 11] S res.2 := by
  intro q
  induction q with
  | zero => intro x1 x3 x4 x5 x6  S hF; cases hF
  | succ q ih => intro x1 x3 x4 x5 x6  S hF; exact fb_Model_tell_64b (n := n) ih  hF
theorem fb_Model_tell_0 {n : Nat} {res : (Int32 × dk_S)}  {x1 : Int32} {x2 : Int32} {x3 : Int32} {x4 : Int32} {S : dk_S}  (hF : B_Model_tell_0 n  x1 x2 x3 x4 S = some res) : dk_fr [5, 6, 7, 8, 9, 10, 11] S res.2 := by
  have g0 : dk_fr [5, 6, 7, 8, 9, 10, 11] S S := dk_fr.rf
  unfold B_Model_tell_0 at hF
  obtain ⟨r10, S9, gS9, hF⟩ := fr_c g0 (fun _ h => fr_Model_in h) (by decide) hF
  rcases fr_if hF with hF | hF
  · exact fr_rt hF gS9
  · obtain ⟨r12, S11, gS11, hF⟩ := fr_c gS9 (fun _ h => fr_Model_in h) (by decide) hF
    rcases fr_if hF with hF | hF
    · exact fr_rt hF gS11
    · obtain ⟨r14, S13, gS13, hF⟩ := fr_c gS11 (fun _ h => fr_Model_in h) (by decide) hF
      rcases fr_if hF with hF | hF
      · obtain ⟨v15, hF⟩ := fr_r hF
        rcases fr_if hF with hF | hF
        · obtain ⟨v16, hF⟩ := fr_r hF
          rcases fr_if hF with hF | hF
          · exact gS13.tr (fb_Model_tell_64 (n := n)  n x1 x3 x4 (0 : Int32) (0 : Int32) S13 hF)
          · exact fr_rt hF gS13
        · exact fr_rt hF gS13
      · exact fr_rt hF gS13
theorem fr_Model_tell {n : Nat} {x1 : Int32} {x2 : Int32} {x3 : Int32} {x4 : Int32} {S : dk_S} {res : (Int32 × dk_S)}  (h : F_Model_tell n x1 x2 x3 x4 S = some res) : dk_fr [5, 6, 7, 8, 9, 10, 11] S res.2 := fb_Model_tell_0 (n := n)  h
theorem fb_Model_isUnder_19 {n : Nat} {res : (Int32 × dk_S)}  {x0 : Int32} {x1 : Int32} {S : dk_S}  (hF : B_Model_isUnder_19 n  x0 x1 S = some res) : dk_fr [] S res.2 := by
  have g0 : dk_fr [] S S := dk_fr.rf
  unfold B_Model_isUnder_19 at hF
  rcases fr_if hF with hF | hF
  · have hF := (dk_b_out hF).2
    exact fr_rt hF g0
  · rcases fr_if hF with hF | hF
    · have hF := (dk_b_out hF).2
      exact fr_rt hF g0
    · have hF := (dk_b_out hF).2
      exact fr_rt hF g0
theorem fb_Model_isUnder_0 {n : Nat} {res : (Int32 × dk_S)}  {x0 : Int32} {x1 : Int32} {S : dk_S}  (hF : B_Model_isUnder_0 n  x0 x1 S = some res) : dk_fr [] S res.2 := by
  have g0 : dk_fr [] S S := dk_fr.rf
  unfold B_Model_isUnder_0 at hF
  rcases fr_if hF with hF | hF
  · have hF := (dk_b_out hF).2
    exact fr_rt hF g0
  · rcases fr_if hF with hF | hF
    · have hF := (dk_b_out hF).2
      exact fr_rt hF g0
    · rcases fr_if hF with hF | hF
      · exact g0.tr (fb_Model_isUnder_19 (n := n)   hF)
      · rcases fr_if hF with hF | hF
        · have hF := (dk_b_out hF).2
          exact fr_rt hF g0
        · exact g0.tr (fb_Model_isUnder_19 (n := n)   hF)
theorem fr_Model_isUnder {n : Nat} {x0 : Int32} {x1 : Int32} {S : dk_S} {res : (Int32 × dk_S)}  (h : F_Model_isUnder n x0 x1 S = some res) : dk_fr [] S res.2 := fb_Model_isUnder_0 (n := n)  h
theorem fb_Model_taken_0 {n : Nat} {res : (Int32 × dk_S)}  {x1 : Int32} {x2 : Int32} {S : dk_S}  (hF : B_Model_taken_0 n  x1 x2 S = some res) : dk_fr [18, 19, 20, 21, 22, 23, 24, 25, 26, 27, 28, 29, 30] S res.2 := by
  have g0 : dk_fr [18, 19, 20, 21, 22, 23, 24, 25, 26, 27, 28, 29, 30] S S := dk_fr.rf
  unfold B_Model_taken_0 at hF
  obtain ⟨r2, S1, gS1, hF⟩ := fr_c g0 (fun _ h => fr_Model_in h) (by decide) hF
  rcases fr_if hF with hF | hF
  · obtain ⟨r4, S3, gS3, hF⟩ := fr_c gS1 (fun _ h => fr_Model_in h) (by decide) hF
    rcases fr_if hF with hF | hF
    · rcases fr_if hF with hF | hF
      · obtain ⟨S5, gS5, hF⟩ := fr_cv gS3 (fun _ h => fr_Model_works h) (by decide) hF
        rcases fr_if hF with hF | hF
        · rcases fr_if hF with hF | hF
          · exact fr_rt hF gS5
          · obtain ⟨v7, hF⟩ := fr_r hF
            obtain ⟨r9, S8, gS8, hF⟩ := fr_c gS5 (fun _ h => fr_Model_isUnder h) (by decide) hF
            rcases fr_if hF with hF | hF
            · exact fr_rt hF gS8
            · obtain ⟨v10, hF⟩ := fr_r hF
              exact fr_rt hF gS8
        · exact fr_rt hF gS5
      · rcases fr_if hF with hF | hF
        · rcases fr_if hF with hF | hF
          · exact fr_rt hF gS3
          · obtain ⟨v11, hF⟩ := fr_r hF
            exact fr_rt hF gS3
        · exact fr_rt hF gS3
    · exact fr_rt hF gS3
  · exact fr_rt hF gS1
theorem fr_Model_taken {n : Nat} {x1 : Int32} {x2 : Int32} {S : dk_S} {res : (Int32 × dk_S)}  (h : F_Model_taken n x1 x2 S = some res) : dk_fr [18, 19, 20, 21, 22, 23, 24, 25, 26, 27, 28, 29, 30] S res.2 := fb_Model_taken_0 (n := n)  h
