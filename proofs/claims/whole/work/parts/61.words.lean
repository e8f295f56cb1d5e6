/-! PURE: words, as the class compares them letter by letter and the reference as packed numbers -/
def wbs : List Nat := [107, 105, 110, 100, 32, 115, 105, 110, 99, 101, 32, 119, 101, 105, 103, 104, 116, 32, 103, 114, 111, 117, 110, 100, 32, 116, 97, 109, 101, 32, 119, 104, 111, 32, 119, 111, 114, 116, 104, 32, 102, 111, 108, 108, 111, 119, 32, 111, 114, 32, 97, 110, 100, 32, 110, 111, 116, 32]
def wbN (i : Nat) : Nat := wbs.getD i 0
def wds : List (List Nat) := [[107, 105, 110, 100], [115, 105, 110, 99, 101], [119, 101, 105, 103, 104, 116], [103, 114, 111, 117, 110, 100], [116, 97, 109, 101], [119, 104, 111], [119, 111, 114, 116, 104], [102, 111, 108, 108, 111, 119], [111, 114], [97, 110, 100], [110, 111, 116]]
def wd (j : Nat) : List Nat := wds.getD j []
def off (j : Nat) : Nat := ([0, 5, 11, 18, 25, 30, 34, 40, 47, 50, 54, 58] : List Nat).getD j 0
theorem wd_ok : ∀ j, j < 11 → off j + (wd j).length < 58 ∧ wbN (off j + (wd j).length) = 32 ∧ off (j + 1) = off j + (wd j).length + 1 ∧ (wd j).length ≤ 6 ∧ ∀ l, l < (wd j).length → wbN (off j + l) = (wd j).getD l 0 ∧ 97 ≤ (wd j).getD l 0 ∧ (wd j).getD l 0 ≤ 122 := by decide +kernel
theorem ch_ok : ∀ i, i < 58 → ((dk_wfn i &&& (255 : Int32)).toUInt32 % 65536).toInt32 = nI (wbN i) := by decide +kernel
def isW (t : Nat → Nat) (p e : Nat) (w : List Nat) : Prop := e = p + w.length ∧ ∀ l, l < w.length → t (p + l) = w.getD l 0
def preW (t : Nat → Nat) (p e : Nat) (w : List Nat) (l : Nat) : Prop := ∀ i, i < l → p + i < e ∧ t (p + i) = w.getD i 0
section NW
variable {n T z p e : Nat} {t : Nat → Nat} {C M : dk_S}
theorem e_slen : F_String_length n T C = some (nI 58, C) := by
  unfold F_String_length B_String_length_0 F_String_coder B_String_coder_0 dk_nr
  rw [if_neg (by decide), if_pos (show narrow FieldType.byte (Value.int 0) = Value.int 0 from rfl), pu_c, show nI 58 >>> ((0 : Int32) &&& 31) = nI 58 by decide +kernel]
theorem e_schr {i : Nat} (hi : i < 58) : F_String_charAt n T (nI i) C = some (nI (wbN i), C) := by
  unfold F_String_charAt B_String_charAt_0 F_String_isLatin1 B_String_isLatin1_0
  rw [if_neg (by decide), if_neg (by decide), pu_b1, pu_c, if_neg (by decide)]
  unfold F_Latin_charAt B_Latin_charAt_0 F_String_checkIndex B_String_checkIndex_0 F_Prec_checkIndex B_Prec_checkIndex_0
  rw [if_neg (nI_pos (by omega)), if_pos (nI_lt hi (by decide)), pu_c, pu_cv, pu_r hi (by decide)]
  unfold dk_nr
  rw [if_pos (pk_nc _), pu_c, if_pos (pk_nc _), ch_ok i hi]
theorem nw_word {w : List Nat} {o j : Nat} (ht : tpe z t) (hC : tkC z t C) (h110 : C 110 0 = nI p) (h112 : C 112 0 = nI e) (he : e ≤ z) (ho : o + w.length < 58) (hw : ∀ l, l < w.length → wbN (o + l) = w.getD l 0 ∧ 97 ≤ w.getD l 0 ∧ w.getD l 0 ≤ 122) (hs : wbN (o + w.length) = 32) (hj : j < 11) (hp : p ≤ z) : ∀ (d l q : Nat) (f : Int32), l + d = w.length → (f = 1 ∧ preW t p e w l ∨ f = 0 ∧ ¬ preW t p e w l) → (isW t p e w → B_Reader_numberOfWord_9 n T (q + d + 1) (nI j) (nI l) f (nI (o + l)) C = some (nI j, C)) ∧ (¬ isW t p e w → B_Reader_numberOfWord_9 n T (q + d + 1) (nI j) (nI l) f (nI (o + l)) C = B_Reader_numberOfWord_9 n T q (nI (j + 1)) 0 1 (nI (o + w.length + 1)) C)
  | 0, l, q, f, hl, hf => by
    have hz := ht.1
    have el : l = w.length := by omega
    subst el
    have e32 : nI (wbN (o + w.length)) = 32 := by rw [hs]; rfl
    have step : B_Reader_numberOfWord_9 n T (q + 0 + 1) (nI j) (nI w.length) f (nI (o + w.length)) C = if f = 0 then B_Reader_numberOfWord_9 n T q (nI (j + 1)) 0 1 (nI (o + w.length + 1)) C else if ¬ (nI (p + w.length)) = nI e then B_Reader_numberOfWord_9 n T q (nI (j + 1)) 0 1 (nI (o + w.length + 1)) C else some (nI j, C) := by
      show B_Reader_numberOfWord_9b n T (fun x1 x2 x3 x4 S => B_Reader_numberOfWord_9 n T q x1 x2 x3 x4 S) (nI j) (nI w.length) f (nI (o + w.length)) C = _
      unfold B_Reader_numberOfWord_9b B_Reader_numberOfWord_95 B_Reader_numberOfWord_102
      rw [e_slen, pu_c, if_neg (nI_ge (by omega) (by decide)), e_schr (by omega), pu_c, if_pos e32, h110, h112, nI_add, nI_1, nI_1]
    rw [step]
    rcases hf with ⟨rfl, h1⟩ | ⟨rfl, h1⟩
    · rw [if_neg (by decide)]
      by_cases h2 : p + w.length = e
      · rw [if_neg (show ¬ ¬ nI (p + w.length) = nI e from fun q => q (by rw [h2]))]
        have hW : isW t p e w := ⟨h2.symm, fun i hi => (h1 i hi).2⟩
        exact ⟨fun _ => rfl, fun q => absurd hW q⟩
      · rw [if_pos (show ¬ nI (p + w.length) = nI e from fun q => h2 ((nI_eq (by omega) (by omega)).mp q))]
        exact ⟨fun q => absurd q.1.symm h2, fun _ => rfl⟩
    · rw [if_pos rfl]
      refine ⟨fun q => absurd (fun i hi => ⟨?_, q.2 i hi⟩) h1, fun _ => rfl⟩
      have := q.1
      omega
  | d + 1, l, q, f, hl, hf => by
    have hz := ht.1
    obtain ⟨w1, w2, w3⟩ := hw l (by omega)
    have e32 : ¬ nI (wbN (o + l)) = 32 := fun q => by
      have := (nI_eq (b := 32) (by omega) (by decide)).mp q
      omega
    have ih := fun f hf => nw_word (w := w) (o := o) (j := j) ht hC h110 h112 he ho hw hs hj hp d (l + 1) q f (by omega) hf
    have step : B_Reader_numberOfWord_9 n T (q + (d + 1) + 1) (nI j) (nI l) f (nI (o + l)) C = if f = 0 then B_Reader_numberOfWord_9 n T (q + d + 1) (nI j) (nI (l + 1)) 0 (nI (o + (l + 1))) C else if nI e ≤ nI (p + l) then B_Reader_numberOfWord_9 n T (q + d + 1) (nI j) (nI (l + 1)) 0 (nI (o + (l + 1))) C else dk_r 160 (C 13) (nI (p + l)) fun v5 => if ¬ v5 = nI (wbN (o + l)) then B_Reader_numberOfWord_9 n T (q + d + 1) (nI j) (nI (l + 1)) 0 (nI (o + (l + 1))) C else B_Reader_numberOfWord_9 n T (q + d + 1) (nI j) (nI (l + 1)) 1 (nI (o + (l + 1))) C := by
      show B_Reader_numberOfWord_9b n T (fun x1 x2 x3 x4 S => B_Reader_numberOfWord_9 n T (q + d + 1) x1 x2 x3 x4 S) (nI j) (nI l) f (nI (o + l)) C = _
      unfold B_Reader_numberOfWord_9b B_Reader_numberOfWord_72 B_Reader_numberOfWord_73 B_Reader_numberOfWord_102
      rw [e_slen, pu_c, if_neg (nI_ge (by omega) (by decide)), e_schr (by omega), pu_c, if_neg e32, h110, h112, nI_add, nI_1, nI_1]
      rfl
    rw [step]
    rcases hf with ⟨rfl, h1⟩ | ⟨rfl, h1⟩
    · rw [if_neg (by decide)]
      by_cases h2 : e ≤ p + l
      · rw [if_pos (nI_le h2 (by omega))]
        exact ih 0 (Or.inr ⟨rfl, fun q => by have := (q l (by omega)).1; omega⟩)
      · rw [if_neg (nI_ge (by omega) (by omega)), pu_r (by omega) (by decide), hC.2 (p + l) (by omega)]
        have es := sb_eq (v := t (p + l)) (k := wbN (o + l)) (ht.2 (p + l) (by omega)) (by omega)
        by_cases h3 : t (p + l) = wbN (o + l)
        · rw [if_neg (show ¬ ¬ (nI (t (p + l))).toInt8.toInt32 = nI (wbN (o + l)) from fun q => q (es.mpr h3))]
          refine ih 1 (Or.inl ⟨rfl, fun i hi => ?_⟩)
          by_cases e : i = l
          · subst e; exact ⟨by omega, by rw [h3, w1]⟩
          · exact h1 i (by omega)
        · rw [if_pos (show ¬ (nI (t (p + l))).toInt8.toInt32 = nI (wbN (o + l)) from fun q => h3 (es.mp q))]
          exact ih 0 (Or.inr ⟨rfl, fun q => h3 (by rw [(q l (by omega)).2, w1])⟩)
    · rw [if_pos rfl]
      exact ih 0 (Or.inr ⟨rfl, fun q => h1 (fun i hi => q i (by omega))⟩)
theorem nw_chain (ht : tpe z t) (hC : tkC z t C) (h110 : C 110 0 = nI p) (h112 : C 112 0 = nI e) (he : e ≤ z) (hp : p ≤ z) : ∀ (d j q : Nat), j + d = 11 → 7 * d < q → ∃ r, B_Reader_numberOfWord_9 n T q (nI j) 0 1 (nI (off j)) C = some (r, C) ∧ ((∃ i, i < 11 ∧ isW t p e (wd i) ∧ r = nI i) ∨ (r = -1 ∧ ∀ i, j ≤ i → i < 11 → ¬ isW t p e (wd i)))
  | 0, j, q, hj, hq => by
    have ej : j = 11 := by omega
    subst ej
    obtain ⟨q, rfl⟩ : ∃ k, q = k + 1 := ⟨q - 1, by omega⟩
    refine ⟨-1, ?_, Or.inr ⟨rfl, fun i h1 h2 => by omega⟩⟩
    show B_Reader_numberOfWord_9b n T (fun x1 x2 x3 x4 S => B_Reader_numberOfWord_9 n T q x1 x2 x3 x4 S) (nI 11) 0 1 (nI (off 11)) C = _
    unfold B_Reader_numberOfWord_9b
    rw [e_slen, pu_c, if_pos (show nI 58 ≤ nI (off 11) by decide)]
  | d + 1, j, q, hj, hq => by
    obtain ⟨a1, a2, a3, a4, a5⟩ := wd_ok j (by omega)
    obtain ⟨Q, rfl⟩ : ∃ k, q = k + (wd j).length + 1 := ⟨q - (wd j).length - 1, by omega⟩
    obtain ⟨k1, k2⟩ := nw_word (n := n) (T := T) (w := wd j) (o := off j) (j := j) ht hC h110 h112 he a1 a5 a2 (by omega) hp (wd j).length 0 Q 1 (by omega) (Or.inl ⟨rfl, fun i hi => absurd hi (Nat.not_lt_zero _)⟩)
    by_cases h : isW t p e (wd j)
    · exact ⟨nI j, k1 h, Or.inl ⟨j, by omega, h, rfl⟩⟩
    · obtain ⟨r, r1, r2⟩ := nw_chain ht hC h110 h112 he hp d (j + 1) Q (by omega) (by omega)
      rw [a3] at r1
      refine ⟨r, (k2 h).trans r1, ?_⟩
      rcases r2 with r2 | ⟨r2, r3⟩
      · exact Or.inl r2
      · refine Or.inr ⟨r2, fun i h1 h2 => ?_⟩
        by_cases e : i = j
        · rw [e]; exact h
        · exact r3 i (by omega) h2
theorem e_nw (ht : tpe z t) (hC : tkC z t C) (h110 : C 110 0 = nI p) (h112 : C 112 0 = nI e) (he : e ≤ z) (hp : p ≤ z) (hn : 400 ≤ n) : ∃ r, F_Reader_numberOfWord n T C = some (r, C) ∧ ((∃ i, i < 11 ∧ isW t p e (wd i) ∧ r = nI i) ∨ (r = -1 ∧ ∀ i, i < 11 → ¬ isW t p e (wd i))) := by
  unfold F_Reader_numberOfWord B_Reader_numberOfWord_0
  obtain ⟨r, r1, r2⟩ := nw_chain (n := n) (T := T) ht hC h110 h112 he hp 11 0 n (by omega) (by omega)
  refine ⟨r, r1, ?_⟩
  rcases r2 with r2 | ⟨r2, r3⟩
  · exact Or.inl r2
  · exact Or.inr ⟨r2, fun i hi => r3 i (Nat.zero_le _) hi⟩
/-! packed -/
def pk (t : Nat → Nat) (p : Nat) : Nat → Nat
  | 0 => 0
  | l + 1 => pk t p l * 256 + t (p + l)
theorem pkb_lt : ∀ l, (∀ i, i < l → t (p + i) < 256) → pk t p l < 256 ^ l
  | 0, _ => by
    show (0 : Nat) < 256 ^ 0
    decide
  | l + 1, h => by
    have h1 := pkb_lt l (fun i hi => h i (by omega))
    have h2 := h l (by omega)
    unfold pk
    rw [Nat.pow_succ]
    omega
theorem pk_cg {u : Nat → Nat} {q : Nat} : ∀ l, (∀ i, i < l → t (p + i) = u (q + i)) → pk t p l = pk u q l
  | 0, _ => rfl
  | l + 1, h => by
    show pk t p l * 256 + t (p + l) = pk u q l * 256 + u (q + l)
    rw [pk_cg l (fun i hi => h i (by omega)), h l (by omega)]
theorem pk_inj {u : Nat → Nat} {q : Nat} : ∀ a b, (∀ i, i < a → 1 ≤ t (p + i) ∧ t (p + i) < 256) → (∀ i, i < b → 1 ≤ u (q + i) ∧ u (q + i) < 256) → pk t p a = pk u q b → a = b ∧ ∀ i, i < a → t (p + i) = u (q + i)
  | 0, 0, _, _, _ => ⟨rfl, fun i hi => absurd hi (Nat.not_lt_zero _)⟩
  | 0, b + 1, _, hu, h => by
    have := hu b (by omega)
    have e : pk t p 0 = 0 := rfl
    have e2 : pk u q (b + 1) = pk u q b * 256 + u (q + b) := rfl
    omega
  | a + 1, 0, ht, _, h => by
    have := ht a (by omega)
    have e : pk u q 0 = 0 := rfl
    have e2 : pk t p (a + 1) = pk t p a * 256 + t (p + a) := rfl
    omega
  | a + 1, b + 1, ht, hu, h => by
    have h1 := ht a (by omega)
    have h2 := hu b (by omega)
    have e1 : pk t p (a + 1) = pk t p a * 256 + t (p + a) := rfl
    have e2 : pk u q (b + 1) = pk u q b * 256 + u (q + b) := rfl
    obtain ⟨k1, k2⟩ := pk_inj a b (fun i hi => ht i (by omega)) (fun i hi => hu i (by omega)) (by omega)
    refine ⟨by omega, fun i hi => ?_⟩
    by_cases e : i = a
    · subst e
      have : t (p + i) = u (q + b) := by omega
      rw [this, k1]
    · exact k2 i (by omega)
theorem so_l {a b : Nat} (ha : a < 2 ^ 40) (hb : b < 256) : (lN a <<< ((8 : Int32).toInt64 &&& 63)) ||| (nI b).toInt64 = lN (a * 256 + b) := by
  rw [nI_l (by omega)]
  apply Int64.toBitVec_inj.mp
  apply BitVec.eq_of_toNat_eq
  rw [Int64.toBitVec_or, BitVec.toNat_or]
  have e : (lN a <<< ((8 : Int32).toInt64 &&& 63)).toBitVec = (BitVec.ofNat 64 a) <<< 8 := by
    show (BitVec.ofNat 64 a) <<< (((8 : Int32).toInt64 &&& 63).toBitVec.smod 64).toNat = _
    rw [show (((8 : Int32).toInt64 &&& 63).toBitVec.smod 64).toNat = 8 by decide +kernel]
  rw [e, BitVec.toNat_shiftLeft]
  show ((BitVec.ofNat 64 a).toNat <<< 8) % 2 ^ 64 ||| (BitVec.ofNat 64 b).toNat = (BitVec.ofNat 64 (a * 256 + b)).toNat
  rw [BitVec.toNat_ofNat, BitVec.toNat_ofNat, BitVec.toNat_ofNat, Nat.mod_eq_of_lt (show a < 2 ^ 64 by omega), Nat.mod_eq_of_lt (show b < 2 ^ 64 by omega), Nat.mod_eq_of_lt (show a * 256 + b < 2 ^ 64 by omega), Nat.mod_eq_of_lt (show a <<< 8 < 2 ^ 64 by rw [Nat.shiftLeft_eq]; omega), ← Nat.shiftLeft_add_eq_or_of_lt (show b < 2 ^ 8 by omega), Nat.shiftLeft_eq]
theorem lt_loop (ht : tpe z t) : ∀ (d l q : Nat) (w : Int64) (M : dk_S), tkM z t M → M 40 0 = nI (p + l) → p + l + d = z → d < q → (l ≤ 6 → w = lN (pk t p l)) → ∃ w2 M2, B_Model_letters_4 n q w (nI l) M = some (w2, M2) ∧ M2 40 0 = nI (rn isL t d (p + l)) ∧ (rn isL t d (p + l) - p ≤ 6 → w2 = lN (pk t p (rn isL t d (p + l) - p))) ∧ (¬ rn isL t d (p + l) - p ≤ 6 → w2 = 0) ∧ dk_fr [40] M M2
  | d, l, 0, _, _, _, _, _, hq, _ => absurd hq (Nat.not_lt_zero _)
  | 0, l, q + 1, w, M, h, h4, hj, hq, hw => by
    have hz := ht.1
    unfold B_Model_letters_4 B_Model_letters_4b B_Model_letters_76
    rw [h.1, h4, if_pos (nI_le (by omega) (by omega))]
    unfold rn
    rw [show p + l - p = l by omega]
    by_cases h6 : l ≤ 6
    · rw [if_pos (show nI l ≤ (6 : Int32) from nI_le (b := 6) h6 (by decide))]
      exact ⟨w, M, rfl, h4, hw, fun q => absurd h6 q, dk_fr.rf⟩
    · rw [if_neg (show ¬ nI l ≤ (6 : Int32) from nI_ge (a := 6) (by omega) (by omega))]
      exact ⟨0, M, rfl, h4, fun q => absurd q h6, fun _ => rfl, dk_fr.rf⟩
  | d + 1, l, q + 1, w, M, h, h4, hj, hq, hw => by
    have hz := ht.1
    have hv := ht.2 (p + l) (by omega)
    unfold B_Model_letters_4 B_Model_letters_4b B_Model_letters_59 B_Model_letters_76 rn
    rw [h.1, h4, if_neg (nI_ge (by omega) (by omega)), pu_r (by omega) (by decide), h.2 (p + l) (by omega), e_letM hv, pu_c, h4, pu_r (by omega) (by decide), h.2 (p + l) (by omega)]
    by_cases h1 : isL (t (p + l)) = true
    · rw [pu_et h1, if_pos h1]
      have go : ∀ x : Int64, (l + 1 ≤ 6 → x = lN (pk t p (l + 1))) → ∃ w2 M2, (dk_p M 40 (nI (p + l) + (1 : Int32)) fun S1 => B_Model_letters_4 n q x (nI l + (1 : Int32)) S1) = some (w2, M2) ∧ M2 40 0 = nI (rn isL t d (p + l + 1)) ∧ (rn isL t d (p + l + 1) - p ≤ 6 → w2 = lN (pk t p (rn isL t d (p + l + 1) - p))) ∧ (¬ rn isL t d (p + l + 1) - p ≤ 6 → w2 = 0) ∧ dk_fr [40] M M2 := by
        intro x hx
        rw [pu_p, nI_1, nI_1]
        have c : dk_fr [40] M (dk_U M 40 0 (nI (p + l + 1))) := fr_U (by decide)
        obtain ⟨w2, M2, e1, e2, e3, e4, e5⟩ := lt_loop ht d (l + 1) q x (dk_U M 40 0 (nI (p + l + 1))) (h.cg c (by decide)) pu_Us (by omega) (by omega) hx
        exact ⟨w2, M2, e1, e2, e3, e4, c.tr e5⟩
      by_cases h8 : 8 ≤ l
      · rw [if_pos (show (8 : Int32) ≤ nI l from nI_le (a := 8) h8 (by omega))]
        exact go w (fun q => by omega)
      · rw [if_neg (show ¬ (8 : Int32) ≤ nI l from nI_ge (b := 8) (by omega) (by decide))]
        refine go _ (fun q => ?_)
        have hb : pk t p l < 256 ^ l := pkb_lt l (fun i hi => ht.2 (p + i) (by omega))
        have hb2 : 256 ^ l ≤ 256 ^ 5 := Nat.pow_le_pow_right (by decide) (by omega)
        rw [hw (by omega), so_l (by omega) hv]
        rfl
    · rw [pu_ef h1, if_neg h1, show p + l - p = l by omega]
      by_cases h6 : l ≤ 6
      · rw [if_pos (show nI l ≤ (6 : Int32) from nI_le (b := 6) h6 (by decide))]
        exact ⟨w, M, rfl, h4, hw, fun q => absurd h6 q, dk_fr.rf⟩
      · rw [if_neg (show ¬ nI l ≤ (6 : Int32) from nI_ge (a := 6) (by omega) (by omega))]
        exact ⟨0, M, rfl, h4, fun q => absurd q h6, fun _ => rfl, dk_fr.rf⟩
end NW
