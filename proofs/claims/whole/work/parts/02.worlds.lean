theorem dk_U_n {S : dk_S} {k j k2 : Nat} {x : Int32} (h : k2 ≠ k) : dk_U S k j x k2 = S k2 := if_neg h
theorem dk_U_s {S : dk_S} {k j : Nat} {x : Int32} : dk_U S k j x k = upd (S k) j x := if_pos rfl
def dk_words (j : Nat) : Int64 := ([512970880104, 112628746448759, 1802071652, 495690081125, 131277443786868, 113741193899620, 1952542053, 7825519, 28530, 6385252, 7237492] : List Int64).getD j 0
/-! the class's world: cell q at ad q; an array's key is its place; numbers have keys from 100 on; text t (t < T) at 43 + 3 t: its codes' keys 1000 + 4 t (+ 2), their lengths' 1001 + 4 t (+ 2) -/
def wC0 (g : dk_G) (ad : Nat → Nat) (T : Nat) (S : dk_S) : va_W := [
  (ad 0, .inr (8, [.ref (ad 1), .ref (ad 5), .ref (ad 12), .ref (ad 15), .ref (ad 18), .ref (ad 30), .ref (ad 31), .ref (ad 32), .int (S 100 0), .int (S 101 0)])),
  (ad 1, .inr (0, [.ref (ad 2), .ref (ad 3), .ref (ad 4), .int (S 102 0), .int (S 103 0)])),
  (ad 2, .inl (g.2.1 0, 8, .inl (S 2))),
  (ad 3, .inl (g.2.1 0, 6, .inl (S 3))),
  (ad 4, .inl (g.2.1 0, 6, .inl (S 4))),
  (ad 5, .inr (1, [.ref (ad 6), .ref (ad 7), .ref (ad 8), .ref (ad 9), .ref (ad 10), .ref (ad 11), .int (S 104 0)])),
  (ad 6, .inl (g.2.1 0, 32, .inl (S 6))),
  (ad 7, .inl (g.2.1 0, 32, .inl (S 7))),
  (ad 8, .inl (g.2.1 0, 32, .inl (S 8))),
  (ad 9, .inl (g.2.1 0, 32, .inl (S 9))),
  (ad 10, .inl (g.2.1 0, 32, .inl (S 10))),
  (ad 11, .inl (g.2.1 0, 32, .inl (S 11))),
  (ad 12, .inr (2, [.ref (ad 13), .int (S 105 0), .int (S 106 0), .ref (ad 14), .int (S 107 0), .int (S 108 0), .int (S 109 0), .int (S 110 0), .int (S 111 0), .int (S 112 0), .int (S 113 0)])),
  (ad 13, .inl (g.2.1 2, 160, .inl (S 13))),
  (ad 14, .inl (g.2.1 0, 160, .inl (S 14))),
  (ad 15, .inr (3, [.ref (ad 16), .ref (ad 17), .ref (ad (43 + 3 * (S 114 0).toNatClampNeg))])),
  (ad 16, .inl (g.2.1 0, 6, .inl (S 16))),
  (ad 17, .inl (g.2.1 0, 160, .inl (S 17))),
  (ad 18, .inr (4, [.ref (ad 1), .ref (ad 5), .ref (ad 15), .ref (ad 19), .ref (ad 20), .ref (ad 21), .ref (ad 22), .ref (ad 23), .ref (ad 24), .ref (ad 25), .ref (ad 26), .int (S 115 0), .int (S 116 0), .ref (ad 27), .ref (ad 28), .ref (ad 29), .int (S 117 0), .int (S 118 0), .int (S 119 0), .int (S 120 0)])),
  (ad 19, .inl (g.2.1 0, 44, .inl (S 19))),
  (ad 20, .inl (g.2.1 0, 44, .inl (S 20))),
  (ad 21, .inl (g.2.1 0, 44, .inl (S 21))),
  (ad 22, .inl (g.2.1 0, 44, .inl (S 22))),
  (ad 23, .inl (g.2.1 0, 44, .inl (S 23))),
  (ad 24, .inl (g.2.1 0, 44, .inl (S 24))),
  (ad 25, .inl (g.2.1 0, 44, .inl (S 25))),
  (ad 26, .inl (g.2.1 1, 44, .inl (S 26))),
  (ad 27, .inl (g.2.1 0, 6, .inl (S 27))),
  (ad 28, .inl (g.2.1 0, 6, .inl (S 28))),
  (ad 29, .inl (g.2.1 1, 6, .inl (S 29))),
  (ad 30, .inl (g.2.1 4, 6, .inr (.inr (.inr (.inr (fun j => if j < T then some (ad (43 + 3 * j)) else none)))))),
  (ad 31, .inl (g.2.1 5, 4, .inr (.inr (.inr (.inr (fun j => if j < 4 then some (ad (35 + 2 * j)) else none)))))),
  (ad 32, .inr (7, [.int (S 121 0), .int (S 122 0), .ref (ad 33), .ref (ad 34), .int (S 123 0), .int (S 124 0)])),
  (ad 33, .inl (g.2.1 0, 8, .inl (S 33))),
  (ad 34, .inl (g.2.1 0, 32, .inl (S 34))),
  (ad 35, .inr (6, [.ref (ad 36), .int (S 160 0), .int (S 170 0)])),
  (ad 36, .inl (g.2.1 0, 40, .inl (S 36))),
  (ad 37, .inr (6, [.ref (ad 38), .int (S 161 0), .int (S 171 0)])),
  (ad 38, .inl (g.2.1 0, 40, .inl (S 38))),
  (ad 39, .inr (6, [.ref (ad 40), .int (S 162 0), .int (S 172 0)])),
  (ad 40, .inl (g.2.1 0, 40, .inl (S 40))),
  (ad 41, .inr (6, [.ref (ad 42), .int (S 163 0), .int (S 173 0)])),
  (ad 42, .inl (g.2.1 0, 40, .inl (S 42)))]
def wCt (g : dk_G) (ad : Nat → Nat) (S : dk_S) (t : Nat) : va_W := [(ad (43 + 3 * t), .inr (5, [.ref (ad (44 + 3 * t + 0)), .ref (ad (44 + 3 * t + 1))])), (ad (44 + 3 * t + 0), .inl (g.2.1 0, (S (1001 + 4 * t + 2 * 0) 0).toNatClampNeg, .inl (S (1000 + 4 * t + 2 * 0)))), (ad (44 + 3 * t + 1), .inl (g.2.1 0, (S (1001 + 4 * t + 2 * 1) 0).toNatClampNeg, .inl (S (1000 + 4 * t + 2 * 1))))]
def wCT (g : dk_G) (ad : Nat → Nat) (S : dk_S) : Nat → va_W
  | 0 => []
  | T + 1 => wCT g ad S T ++ wCt g ad S T
def wC (g : dk_G) (ad : Nat → Nat) (T : Nat) (S : dk_S) : va_W := wC0 g ad T S ++ wCT g ad S T
theorem wCT_len (g : dk_G) (ad : Nat → Nat) (S : dk_S) : ∀ T : Nat, (wCT g ad S T).length = 3 * T
  | 0 => rfl
  | T + 1 => by rw [wCT, List.length_append, wCT_len g ad S T]; show 3 * T + 3 = _; omega
theorem wCT_at {g : dk_G} {ad : Nat → Nat} {S : dk_S} {t i : Nat} (hi : i < 3) : ∀ T : Nat, t < T → (wCT g ad S T)[3 * t + i]? = (wCt g ad S t)[i]?
  | 0, h => absurd h (Nat.not_lt_zero _)
  | T + 1, h => by
    rw [wCT]
    by_cases q : t < T
    · rw [List.getElem?_append_left (by rw [wCT_len]; omega)]; exact wCT_at hi T q
    · have e : t = T := by omega
      subst e
      rw [List.getElem?_append_right (by rw [wCT_len]; omega), wCT_len, Nat.add_sub_cancel_left]
theorem wCt_U {g : dk_G} {ad : Nat → Nat} {S : dk_S} {t k j : Nat} {x : Int32} (h : k < 1000) : wCt g ad (dk_U S k j x) t = wCt g ad S t := by
  have e0 : dk_U S k j x (1001 + 4 * t + 2 * 0) = S (1001 + 4 * t + 2 * 0) := dk_U_n (by omega)
  have e1 : dk_U S k j x (1000 + 4 * t + 2 * 0) = S (1000 + 4 * t + 2 * 0) := dk_U_n (by omega)
  have e2 : dk_U S k j x (1001 + 4 * t + 2 * 1) = S (1001 + 4 * t + 2 * 1) := dk_U_n (by omega)
  have e3 : dk_U S k j x (1000 + 4 * t + 2 * 1) = S (1000 + 4 * t + 2 * 1) := dk_U_n (by omega)
  unfold wCt
  rw [e0, e1, e2, e3]
theorem wCT_U {g : dk_G} {ad : Nat → Nat} {S : dk_S} {k j : Nat} {x : Int32} (h : k < 1000) : ∀ T : Nat, wCT g ad (dk_U S k j x) T = wCT g ad S T
  | 0 => rfl
  | T + 1 => by rw [wCT, wCT, wCT_U h T, wCt_U h]
theorem wC_set {g : dk_G} {ad : Nat → Nat} {T : Nat} {S : dk_S} {k j q : Nat} {x : Int32} {c : Nat × va_E} (hk : k < 1000) (hq : q < 43) (h : (wC0 g ad T S).set q c = wC0 g ad T (dk_U S k j x)) : (wC g ad T S).set q c = wC g ad T (dk_U S k j x) := by
  unfold wC
  rw [List.set_append_left _ _ (show q < (wC0 g ad T S).length from hq), wCT_U hk, h]
section WC
variable (g : dk_G) (ad : Nat → Nat) (T : Nat) (S : dk_S)
theorem oC_Hare : (wC g ad T S)[0]? = some (ad 0, .inr (8, [.ref (ad 1), .ref (ad 5), .ref (ad 12), .ref (ad 15), .ref (ad 18), .ref (ad 30), .ref (ad 31), .ref (ad 32), .int (S 100 0), .int (S 101 0)])) := rfl
theorem sC_Hare_textCount (x : Int32) : (wC g ad T S).set 0 (ad 0, .inr (8, ([.ref (ad 1), .ref (ad 5), .ref (ad 12), .ref (ad 15), .ref (ad 18), .ref (ad 30), .ref (ad 31), .ref (ad 32), .int (S 100 0), .int (S 101 0)] : List Value).set 8 (.int x))) = wC g ad T (dk_U S 100 0 x) := wC_set (by decide) (by decide) rfl
theorem sC_Hare_law (x : Int32) : (wC g ad T S).set 0 (ad 0, .inr (8, ([.ref (ad 1), .ref (ad 5), .ref (ad 12), .ref (ad 15), .ref (ad 18), .ref (ad 30), .ref (ad 31), .ref (ad 32), .int (S 100 0), .int (S 101 0)] : List Value).set 9 (.int x))) = wC g ad T (dk_U S 101 0 x) := wC_set (by decide) (by decide) rfl
theorem oC_Land : (wC g ad T S)[1]? = some (ad 1, .inr (0, [.ref (ad 2), .ref (ad 3), .ref (ad 4), .int (S 102 0), .int (S 103 0)])) := rfl
theorem sC_Land_grounds (x : Int32) : (wC g ad T S).set 1 (ad 1, .inr (0, ([.ref (ad 2), .ref (ad 3), .ref (ad 4), .int (S 102 0), .int (S 103 0)] : List Value).set 3 (.int x))) = wC g ad T (dk_U S 102 0 x) := wC_set (by decide) (by decide) rfl
theorem sC_Land_beasts (x : Int32) : (wC g ad T S).set 1 (ad 1, .inr (0, ([.ref (ad 2), .ref (ad 3), .ref (ad 4), .int (S 102 0), .int (S 103 0)] : List Value).set 4 (.int x))) = wC g ad T (dk_U S 103 0 x) := wC_set (by decide) (by decide) rfl
theorem oC_Diary : (wC g ad T S)[5]? = some (ad 5, .inr (1, [.ref (ad 6), .ref (ad 7), .ref (ad 8), .ref (ad 9), .ref (ad 10), .ref (ad 11), .int (S 104 0)])) := rfl
theorem sC_Diary_size (x : Int32) : (wC g ad T S).set 5 (ad 5, .inr (1, ([.ref (ad 6), .ref (ad 7), .ref (ad 8), .ref (ad 9), .ref (ad 10), .ref (ad 11), .int (S 104 0)] : List Value).set 6 (.int x))) = wC g ad T (dk_U S 104 0 x) := wC_set (by decide) (by decide) rfl
theorem oC_Reader : (wC g ad T S)[12]? = some (ad 12, .inr (2, [.ref (ad 13), .int (S 105 0), .int (S 106 0), .ref (ad 14), .int (S 107 0), .int (S 108 0), .int (S 109 0), .int (S 110 0), .int (S 111 0), .int (S 112 0), .int (S 113 0)])) := rfl
theorem sC_Reader_size (x : Int32) : (wC g ad T S).set 12 (ad 12, .inr (2, ([.ref (ad 13), .int (S 105 0), .int (S 106 0), .ref (ad 14), .int (S 107 0), .int (S 108 0), .int (S 109 0), .int (S 110 0), .int (S 111 0), .int (S 112 0), .int (S 113 0)] : List Value).set 1 (.int x))) = wC g ad T (dk_U S 105 0 x) := wC_set (by decide) (by decide) rfl
theorem sC_Reader_fault (x : Int32) : (wC g ad T S).set 12 (ad 12, .inr (2, ([.ref (ad 13), .int (S 105 0), .int (S 106 0), .ref (ad 14), .int (S 107 0), .int (S 108 0), .int (S 109 0), .int (S 110 0), .int (S 111 0), .int (S 112 0), .int (S 113 0)] : List Value).set 2 (.int x))) = wC g ad T (dk_U S 106 0 x) := wC_set (by decide) (by decide) rfl
theorem sC_Reader_codeSize (x : Int32) : (wC g ad T S).set 12 (ad 12, .inr (2, ([.ref (ad 13), .int (S 105 0), .int (S 106 0), .ref (ad 14), .int (S 107 0), .int (S 108 0), .int (S 109 0), .int (S 110 0), .int (S 111 0), .int (S 112 0), .int (S 113 0)] : List Value).set 4 (.int x))) = wC g ad T (dk_U S 107 0 x) := wC_set (by decide) (by decide) rfl
theorem sC_Reader_worthSize (x : Int32) : (wC g ad T S).set 12 (ad 12, .inr (2, ([.ref (ad 13), .int (S 105 0), .int (S 106 0), .ref (ad 14), .int (S 107 0), .int (S 108 0), .int (S 109 0), .int (S 110 0), .int (S 111 0), .int (S 112 0), .int (S 113 0)] : List Value).set 5 (.int x))) = wC g ad T (dk_U S 108 0 x) := wC_set (by decide) (by decide) rfl
theorem sC_Reader_token (x : Int32) : (wC g ad T S).set 12 (ad 12, .inr (2, ([.ref (ad 13), .int (S 105 0), .int (S 106 0), .ref (ad 14), .int (S 107 0), .int (S 108 0), .int (S 109 0), .int (S 110 0), .int (S 111 0), .int (S 112 0), .int (S 113 0)] : List Value).set 6 (.int x))) = wC g ad T (dk_U S 109 0 x) := wC_set (by decide) (by decide) rfl
theorem sC_Reader_tokenPlace (x : Int32) : (wC g ad T S).set 12 (ad 12, .inr (2, ([.ref (ad 13), .int (S 105 0), .int (S 106 0), .ref (ad 14), .int (S 107 0), .int (S 108 0), .int (S 109 0), .int (S 110 0), .int (S 111 0), .int (S 112 0), .int (S 113 0)] : List Value).set 7 (.int x))) = wC g ad T (dk_U S 110 0 x) := wC_set (by decide) (by decide) rfl
theorem sC_Reader_tokenCode (x : Int32) : (wC g ad T S).set 12 (ad 12, .inr (2, ([.ref (ad 13), .int (S 105 0), .int (S 106 0), .ref (ad 14), .int (S 107 0), .int (S 108 0), .int (S 109 0), .int (S 110 0), .int (S 111 0), .int (S 112 0), .int (S 113 0)] : List Value).set 8 (.int x))) = wC g ad T (dk_U S 111 0 x) := wC_set (by decide) (by decide) rfl
theorem sC_Reader_next (x : Int32) : (wC g ad T S).set 12 (ad 12, .inr (2, ([.ref (ad 13), .int (S 105 0), .int (S 106 0), .ref (ad 14), .int (S 107 0), .int (S 108 0), .int (S 109 0), .int (S 110 0), .int (S 111 0), .int (S 112 0), .int (S 113 0)] : List Value).set 9 (.int x))) = wC g ad T (dk_U S 112 0 x) := wC_set (by decide) (by decide) rfl
theorem sC_Reader_open (x : Int32) : (wC g ad T S).set 12 (ad 12, .inr (2, ([.ref (ad 13), .int (S 105 0), .int (S 106 0), .ref (ad 14), .int (S 107 0), .int (S 108 0), .int (S 109 0), .int (S 110 0), .int (S 111 0), .int (S 112 0), .int (S 113 0)] : List Value).set 10 (.int x))) = wC g ad T (dk_U S 113 0 x) := wC_set (by decide) (by decide) rfl
theorem oC_Scales : (wC g ad T S)[15]? = some (ad 15, .inr (3, [.ref (ad 16), .ref (ad 17), .ref (ad (43 + 3 * (S 114 0).toNatClampNeg))])) := rfl
theorem oC_Scene : (wC g ad T S)[18]? = some (ad 18, .inr (4, [.ref (ad 1), .ref (ad 5), .ref (ad 15), .ref (ad 19), .ref (ad 20), .ref (ad 21), .ref (ad 22), .ref (ad 23), .ref (ad 24), .ref (ad 25), .ref (ad 26), .int (S 115 0), .int (S 116 0), .ref (ad 27), .ref (ad 28), .ref (ad 29), .int (S 117 0), .int (S 118 0), .int (S 119 0), .int (S 120 0)])) := rfl
theorem sC_Scene_size (x : Int32) : (wC g ad T S).set 18 (ad 18, .inr (4, ([.ref (ad 1), .ref (ad 5), .ref (ad 15), .ref (ad 19), .ref (ad 20), .ref (ad 21), .ref (ad 22), .ref (ad 23), .ref (ad 24), .ref (ad 25), .ref (ad 26), .int (S 115 0), .int (S 116 0), .ref (ad 27), .ref (ad 28), .ref (ad 29), .int (S 117 0), .int (S 118 0), .int (S 119 0), .int (S 120 0)] : List Value).set 11 (.int x))) = wC g ad T (dk_U S 115 0 x) := wC_set (by decide) (by decide) rfl
theorem sC_Scene_now (x : Int32) : (wC g ad T S).set 18 (ad 18, .inr (4, ([.ref (ad 1), .ref (ad 5), .ref (ad 15), .ref (ad 19), .ref (ad 20), .ref (ad 21), .ref (ad 22), .ref (ad 23), .ref (ad 24), .ref (ad 25), .ref (ad 26), .int (S 115 0), .int (S 116 0), .ref (ad 27), .ref (ad 28), .ref (ad 29), .int (S 117 0), .int (S 118 0), .int (S 119 0), .int (S 120 0)] : List Value).set 12 (.int x))) = wC g ad T (dk_U S 116 0 x) := wC_set (by decide) (by decide) rfl
theorem sC_Scene_best (x : Int32) : (wC g ad T S).set 18 (ad 18, .inr (4, ([.ref (ad 1), .ref (ad 5), .ref (ad 15), .ref (ad 19), .ref (ad 20), .ref (ad 21), .ref (ad 22), .ref (ad 23), .ref (ad 24), .ref (ad 25), .ref (ad 26), .int (S 115 0), .int (S 116 0), .ref (ad 27), .ref (ad 28), .ref (ad 29), .int (S 117 0), .int (S 118 0), .int (S 119 0), .int (S 120 0)] : List Value).set 16 (.int x))) = wC g ad T (dk_U S 117 0 x) := wC_set (by decide) (by decide) rfl
theorem sC_Scene_disputed (x : Int32) : (wC g ad T S).set 18 (ad 18, .inr (4, ([.ref (ad 1), .ref (ad 5), .ref (ad 15), .ref (ad 19), .ref (ad 20), .ref (ad 21), .ref (ad 22), .ref (ad 23), .ref (ad 24), .ref (ad 25), .ref (ad 26), .int (S 115 0), .int (S 116 0), .ref (ad 27), .ref (ad 28), .ref (ad 29), .int (S 117 0), .int (S 118 0), .int (S 119 0), .int (S 120 0)] : List Value).set 17 (.int x))) = wC g ad T (dk_U S 118 0 x) := wC_set (by decide) (by decide) rfl
theorem sC_Scene_quarrels (x : Int32) : (wC g ad T S).set 18 (ad 18, .inr (4, ([.ref (ad 1), .ref (ad 5), .ref (ad 15), .ref (ad 19), .ref (ad 20), .ref (ad 21), .ref (ad 22), .ref (ad 23), .ref (ad 24), .ref (ad 25), .ref (ad 26), .int (S 115 0), .int (S 116 0), .ref (ad 27), .ref (ad 28), .ref (ad 29), .int (S 117 0), .int (S 118 0), .int (S 119 0), .int (S 120 0)] : List Value).set 18 (.int x))) = wC g ad T (dk_U S 119 0 x) := wC_set (by decide) (by decide) rfl
theorem sC_Scene_unowned (x : Int32) : (wC g ad T S).set 18 (ad 18, .inr (4, ([.ref (ad 1), .ref (ad 5), .ref (ad 15), .ref (ad 19), .ref (ad 20), .ref (ad 21), .ref (ad 22), .ref (ad 23), .ref (ad 24), .ref (ad 25), .ref (ad 26), .int (S 115 0), .int (S 116 0), .ref (ad 27), .ref (ad 28), .ref (ad 29), .int (S 117 0), .int (S 118 0), .int (S 119 0), .int (S 120 0)] : List Value).set 19 (.int x))) = wC g ad T (dk_U S 120 0 x) := wC_set (by decide) (by decide) rfl
theorem oC_Image : (wC g ad T S)[32]? = some (ad 32, .inr (7, [.int (S 121 0), .int (S 122 0), .ref (ad 33), .ref (ad 34), .int (S 123 0), .int (S 124 0)])) := rfl
theorem sC_Image_isKept (x : Int32) : (wC g ad T S).set 32 (ad 32, .inr (7, ([.int (S 121 0), .int (S 122 0), .ref (ad 33), .ref (ad 34), .int (S 123 0), .int (S 124 0)] : List Value).set 0 (.int x))) = wC g ad T (dk_U S 121 0 x) := wC_set (by decide) (by decide) rfl
theorem sC_Image_law (x : Int32) : (wC g ad T S).set 32 (ad 32, .inr (7, ([.int (S 121 0), .int (S 122 0), .ref (ad 33), .ref (ad 34), .int (S 123 0), .int (S 124 0)] : List Value).set 1 (.int x))) = wC g ad T (dk_U S 122 0 x) := wC_set (by decide) (by decide) rfl
theorem sC_Image_grounds (x : Int32) : (wC g ad T S).set 32 (ad 32, .inr (7, ([.int (S 121 0), .int (S 122 0), .ref (ad 33), .ref (ad 34), .int (S 123 0), .int (S 124 0)] : List Value).set 4 (.int x))) = wC g ad T (dk_U S 123 0 x) := wC_set (by decide) (by decide) rfl
theorem sC_Image_moments (x : Int32) : (wC g ad T S).set 32 (ad 32, .inr (7, ([.int (S 121 0), .int (S 122 0), .ref (ad 33), .ref (ad 34), .int (S 123 0), .int (S 124 0)] : List Value).set 5 (.int x))) = wC g ad T (dk_U S 124 0 x) := wC_set (by decide) (by decide) rfl
theorem aC_2 : (wC g ad T S)[2]? = some (ad 2, .inl (g.2.1 0, 8, .inl (S 2))) := rfl
theorem sC_2 (i : Nat) (x : Int32) : (wC g ad T S).set 2 (ad 2, .inl (g.2.1 0, 8, .inl (upd (S 2) i x))) = wC g ad T (dk_U S 2 i x) := wC_set (by decide) (by decide) rfl
theorem aC_3 : (wC g ad T S)[3]? = some (ad 3, .inl (g.2.1 0, 6, .inl (S 3))) := rfl
theorem sC_3 (i : Nat) (x : Int32) : (wC g ad T S).set 3 (ad 3, .inl (g.2.1 0, 6, .inl (upd (S 3) i x))) = wC g ad T (dk_U S 3 i x) := wC_set (by decide) (by decide) rfl
theorem aC_4 : (wC g ad T S)[4]? = some (ad 4, .inl (g.2.1 0, 6, .inl (S 4))) := rfl
theorem sC_4 (i : Nat) (x : Int32) : (wC g ad T S).set 4 (ad 4, .inl (g.2.1 0, 6, .inl (upd (S 4) i x))) = wC g ad T (dk_U S 4 i x) := wC_set (by decide) (by decide) rfl
theorem aC_6 : (wC g ad T S)[6]? = some (ad 6, .inl (g.2.1 0, 32, .inl (S 6))) := rfl
theorem sC_6 (i : Nat) (x : Int32) : (wC g ad T S).set 6 (ad 6, .inl (g.2.1 0, 32, .inl (upd (S 6) i x))) = wC g ad T (dk_U S 6 i x) := wC_set (by decide) (by decide) rfl
theorem aC_7 : (wC g ad T S)[7]? = some (ad 7, .inl (g.2.1 0, 32, .inl (S 7))) := rfl
theorem sC_7 (i : Nat) (x : Int32) : (wC g ad T S).set 7 (ad 7, .inl (g.2.1 0, 32, .inl (upd (S 7) i x))) = wC g ad T (dk_U S 7 i x) := wC_set (by decide) (by decide) rfl
theorem aC_8 : (wC g ad T S)[8]? = some (ad 8, .inl (g.2.1 0, 32, .inl (S 8))) := rfl
theorem sC_8 (i : Nat) (x : Int32) : (wC g ad T S).set 8 (ad 8, .inl (g.2.1 0, 32, .inl (upd (S 8) i x))) = wC g ad T (dk_U S 8 i x) := wC_set (by decide) (by decide) rfl
theorem aC_9 : (wC g ad T S)[9]? = some (ad 9, .inl (g.2.1 0, 32, .inl (S 9))) := rfl
theorem sC_9 (i : Nat) (x : Int32) : (wC g ad T S).set 9 (ad 9, .inl (g.2.1 0, 32, .inl (upd (S 9) i x))) = wC g ad T (dk_U S 9 i x) := wC_set (by decide) (by decide) rfl
theorem aC_10 : (wC g ad T S)[10]? = some (ad 10, .inl (g.2.1 0, 32, .inl (S 10))) := rfl
theorem sC_10 (i : Nat) (x : Int32) : (wC g ad T S).set 10 (ad 10, .inl (g.2.1 0, 32, .inl (upd (S 10) i x))) = wC g ad T (dk_U S 10 i x) := wC_set (by decide) (by decide) rfl
theorem aC_11 : (wC g ad T S)[11]? = some (ad 11, .inl (g.2.1 0, 32, .inl (S 11))) := rfl
theorem sC_11 (i : Nat) (x : Int32) : (wC g ad T S).set 11 (ad 11, .inl (g.2.1 0, 32, .inl (upd (S 11) i x))) = wC g ad T (dk_U S 11 i x) := wC_set (by decide) (by decide) rfl
theorem aC_13 : (wC g ad T S)[13]? = some (ad 13, .inl (g.2.1 2, 160, .inl (S 13))) := rfl
theorem sC_13 (i : Nat) (x : Int32) : (wC g ad T S).set 13 (ad 13, .inl (g.2.1 2, 160, .inl (upd (S 13) i x))) = wC g ad T (dk_U S 13 i x) := wC_set (by decide) (by decide) rfl
theorem aC_14 : (wC g ad T S)[14]? = some (ad 14, .inl (g.2.1 0, 160, .inl (S 14))) := rfl
theorem sC_14 (i : Nat) (x : Int32) : (wC g ad T S).set 14 (ad 14, .inl (g.2.1 0, 160, .inl (upd (S 14) i x))) = wC g ad T (dk_U S 14 i x) := wC_set (by decide) (by decide) rfl
theorem aC_16 : (wC g ad T S)[16]? = some (ad 16, .inl (g.2.1 0, 6, .inl (S 16))) := rfl
theorem sC_16 (i : Nat) (x : Int32) : (wC g ad T S).set 16 (ad 16, .inl (g.2.1 0, 6, .inl (upd (S 16) i x))) = wC g ad T (dk_U S 16 i x) := wC_set (by decide) (by decide) rfl
theorem aC_17 : (wC g ad T S)[17]? = some (ad 17, .inl (g.2.1 0, 160, .inl (S 17))) := rfl
theorem sC_17 (i : Nat) (x : Int32) : (wC g ad T S).set 17 (ad 17, .inl (g.2.1 0, 160, .inl (upd (S 17) i x))) = wC g ad T (dk_U S 17 i x) := wC_set (by decide) (by decide) rfl
theorem aC_19 : (wC g ad T S)[19]? = some (ad 19, .inl (g.2.1 0, 44, .inl (S 19))) := rfl
theorem sC_19 (i : Nat) (x : Int32) : (wC g ad T S).set 19 (ad 19, .inl (g.2.1 0, 44, .inl (upd (S 19) i x))) = wC g ad T (dk_U S 19 i x) := wC_set (by decide) (by decide) rfl
theorem aC_20 : (wC g ad T S)[20]? = some (ad 20, .inl (g.2.1 0, 44, .inl (S 20))) := rfl
theorem sC_20 (i : Nat) (x : Int32) : (wC g ad T S).set 20 (ad 20, .inl (g.2.1 0, 44, .inl (upd (S 20) i x))) = wC g ad T (dk_U S 20 i x) := wC_set (by decide) (by decide) rfl
theorem aC_21 : (wC g ad T S)[21]? = some (ad 21, .inl (g.2.1 0, 44, .inl (S 21))) := rfl
theorem sC_21 (i : Nat) (x : Int32) : (wC g ad T S).set 21 (ad 21, .inl (g.2.1 0, 44, .inl (upd (S 21) i x))) = wC g ad T (dk_U S 21 i x) := wC_set (by decide) (by decide) rfl
theorem aC_22 : (wC g ad T S)[22]? = some (ad 22, .inl (g.2.1 0, 44, .inl (S 22))) := rfl
theorem sC_22 (i : Nat) (x : Int32) : (wC g ad T S).set 22 (ad 22, .inl (g.2.1 0, 44, .inl (upd (S 22) i x))) = wC g ad T (dk_U S 22 i x) := wC_set (by decide) (by decide) rfl
theorem aC_23 : (wC g ad T S)[23]? = some (ad 23, .inl (g.2.1 0, 44, .inl (S 23))) := rfl
theorem sC_23 (i : Nat) (x : Int32) : (wC g ad T S).set 23 (ad 23, .inl (g.2.1 0, 44, .inl (upd (S 23) i x))) = wC g ad T (dk_U S 23 i x) := wC_set (by decide) (by decide) rfl
theorem aC_24 : (wC g ad T S)[24]? = some (ad 24, .inl (g.2.1 0, 44, .inl (S 24))) := rfl
theorem sC_24 (i : Nat) (x : Int32) : (wC g ad T S).set 24 (ad 24, .inl (g.2.1 0, 44, .inl (upd (S 24) i x))) = wC g ad T (dk_U S 24 i x) := wC_set (by decide) (by decide) rfl
theorem aC_25 : (wC g ad T S)[25]? = some (ad 25, .inl (g.2.1 0, 44, .inl (S 25))) := rfl
theorem sC_25 (i : Nat) (x : Int32) : (wC g ad T S).set 25 (ad 25, .inl (g.2.1 0, 44, .inl (upd (S 25) i x))) = wC g ad T (dk_U S 25 i x) := wC_set (by decide) (by decide) rfl
theorem aC_26 : (wC g ad T S)[26]? = some (ad 26, .inl (g.2.1 1, 44, .inl (S 26))) := rfl
theorem sC_26 (i : Nat) (x : Int32) : (wC g ad T S).set 26 (ad 26, .inl (g.2.1 1, 44, .inl (upd (S 26) i x))) = wC g ad T (dk_U S 26 i x) := wC_set (by decide) (by decide) rfl
theorem aC_27 : (wC g ad T S)[27]? = some (ad 27, .inl (g.2.1 0, 6, .inl (S 27))) := rfl
theorem sC_27 (i : Nat) (x : Int32) : (wC g ad T S).set 27 (ad 27, .inl (g.2.1 0, 6, .inl (upd (S 27) i x))) = wC g ad T (dk_U S 27 i x) := wC_set (by decide) (by decide) rfl
theorem aC_28 : (wC g ad T S)[28]? = some (ad 28, .inl (g.2.1 0, 6, .inl (S 28))) := rfl
theorem sC_28 (i : Nat) (x : Int32) : (wC g ad T S).set 28 (ad 28, .inl (g.2.1 0, 6, .inl (upd (S 28) i x))) = wC g ad T (dk_U S 28 i x) := wC_set (by decide) (by decide) rfl
theorem aC_29 : (wC g ad T S)[29]? = some (ad 29, .inl (g.2.1 1, 6, .inl (S 29))) := rfl
theorem sC_29 (i : Nat) (x : Int32) : (wC g ad T S).set 29 (ad 29, .inl (g.2.1 1, 6, .inl (upd (S 29) i x))) = wC g ad T (dk_U S 29 i x) := wC_set (by decide) (by decide) rfl
theorem aC_33 : (wC g ad T S)[33]? = some (ad 33, .inl (g.2.1 0, 8, .inl (S 33))) := rfl
theorem sC_33 (i : Nat) (x : Int32) : (wC g ad T S).set 33 (ad 33, .inl (g.2.1 0, 8, .inl (upd (S 33) i x))) = wC g ad T (dk_U S 33 i x) := wC_set (by decide) (by decide) rfl
theorem aC_34 : (wC g ad T S)[34]? = some (ad 34, .inl (g.2.1 0, 32, .inl (S 34))) := rfl
theorem sC_34 (i : Nat) (x : Int32) : (wC g ad T S).set 34 (ad 34, .inl (g.2.1 0, 32, .inl (upd (S 34) i x))) = wC g ad T (dk_U S 34 i x) := wC_set (by decide) (by decide) rfl
theorem aC_30 : (wC g ad T S)[30]? = some (ad 30, .inl (g.2.1 4, 6, .inr (.inr (.inr (.inr (fun j => if j < T then some (ad (43 + 3 * j)) else none)))))) := rfl
theorem aC_31 : (wC g ad T S)[31]? = some (ad 31, .inl (g.2.1 5, 4, .inr (.inr (.inr (.inr (fun j => if j < 4 then some (ad (35 + 2 * j)) else none)))))) := rfl
theorem oC_Sheet (j : Nat) (hj : j < 4) : (wC g ad T S)[35 + 2 * j]? = some (ad (35 + 2 * j), .inr (6, [.ref (ad (36 + 2 * j)), .int (S (160 + j) 0), .int (S (170 + j) 0)])) := by
  rcases (show j = 0 ∨ j = 1 ∨ j = 2 ∨ j = 3 by omega) with rfl | rfl | rfl | rfl
  all_goals rfl
theorem aC_row (j : Nat) (hj : j < 4) : (wC g ad T S)[36 + 2 * j]? = some (ad (36 + 2 * j), .inl (g.2.1 0, 40, .inl (S (36 + 2 * j)))) := by
  rcases (show j = 0 ∨ j = 1 ∨ j = 2 ∨ j = 3 by omega) with rfl | rfl | rfl | rfl
  all_goals rfl
theorem sC_row (j : Nat) (hj : j < 4) (i : Nat) (x : Int32) : (wC g ad T S).set (36 + 2 * j) (ad (36 + 2 * j), .inl (g.2.1 0, 40, .inl (upd (S (36 + 2 * j)) i x))) = wC g ad T (dk_U S (36 + 2 * j) i x) := by
  rcases (show j = 0 ∨ j = 1 ∨ j = 2 ∨ j = 3 by omega) with rfl | rfl | rfl | rfl
  all_goals exact wC_set (by decide) (by decide) rfl
theorem sC_Sheet_sort (j : Nat) (hj : j < 4) (x : Int32) : (wC g ad T S).set (35 + 2 * j) (ad (35 + 2 * j), .inr (6, ([.ref (ad (36 + 2 * j)), .int (S (160 + j) 0), .int (S (170 + j) 0)] : List Value).set 1 (.int x))) = wC g ad T (dk_U S (160 + j) 0 x) := by
  rcases (show j = 0 ∨ j = 1 ∨ j = 2 ∨ j = 3 by omega) with rfl | rfl | rfl | rfl
  all_goals exact wC_set (by decide) (by decide) rfl
theorem sC_Sheet_size (j : Nat) (hj : j < 4) (x : Int32) : (wC g ad T S).set (35 + 2 * j) (ad (35 + 2 * j), .inr (6, ([.ref (ad (36 + 2 * j)), .int (S (160 + j) 0), .int (S (170 + j) 0)] : List Value).set 2 (.int x))) = wC g ad T (dk_U S (170 + j) 0 x) := by
  rcases (show j = 0 ∨ j = 1 ∨ j = 2 ∨ j = 3 by omega) with rfl | rfl | rfl | rfl
  all_goals exact wC_set (by decide) (by decide) rfl
theorem wC_at {t i : Nat} (hi : i < 3) (ht : t < T) {x : Nat × va_E} (h : (wCt g ad S t)[i]? = some x) : (wC g ad T S)[43 + 3 * t + i]? = some x := by
  unfold wC
  rw [List.getElem?_append_right (show 43 ≤ 43 + 3 * t + i by omega)]
  rw [show 43 + 3 * t + i - (wC0 g ad T S).length = 3 * t + i from by show 43 + 3 * t + i - 43 = 3 * t + i; omega, wCT_at hi T ht]
  exact h
theorem oC_text (t : Nat) (ht : t < T) : (wC g ad T S)[43 + 3 * t + 0]? = some (ad (43 + 3 * t), .inr (5, [.ref (ad (44 + 3 * t + 0)), .ref (ad (44 + 3 * t + 1))])) := wC_at g ad T S (by decide) ht rfl
theorem aC_code (t b : Nat) (ht : t < T) (hb : b < 2) : (wC g ad T S)[43 + 3 * t + (b + 1)]? = some (ad (44 + 3 * t + b), .inl (g.2.1 0, (S (1001 + 4 * t + 2 * b) 0).toNatClampNeg, .inl (S (1000 + 4 * t + 2 * b)))) := by
  rcases (show b = 0 ∨ b = 1 by omega) with rfl | rfl
  · exact wC_at g ad T S (by decide) ht rfl
  · exact wC_at g ad T S (by decide) ht rfl
end WC
def wM (g : dk_G) (am : Nat → Nat) (S : dk_S) : va_W := [
  (am 0, .inr (9, [.int (S 0 0), .ref (am 1), .int (S 2 0), .ref (am 2), .ref (am 3), .int (S 5 0), .ref (am 4), .ref (am 5), .ref (am 6), .ref (am 7), .ref (am 8), .ref (am 9), .ref (am 10), .int (S 13 0), .ref (am 11), .ref (am 12), .int (S 16 0), .int (S 17 0), .int (S 18 0), .ref (am 13), .ref (am 14), .ref (am 15), .ref (am 16), .ref (am 17), .ref (am 18), .ref (am 19), .ref (am 20), .ref (am 21), .ref (am 22), .ref (am 23), .int (S 30 0), .int (S 31 0), .int (S 32 0), .int (S 33 0), .int (S 34 0), .ref (am 24), .ref (am 25), .ref (am 26), .ref (am 27), .ref (am 28), .int (S 40 0), .int (S 41 0), .int (S 42 0), .int (S 43 0), .ref (am 29), .ref (am 30), .int (S 46 0), .int (S 47 0), .int (S 48 0), .ref (am 31), .ref (am 32)])),
  (am 1, .inl (g.2.1 0, 8, .inl (S 1))),
  (am 2, .inl (g.2.1 0, 6, .inl (S 3))),
  (am 3, .inl (g.2.1 0, 6, .inl (S 4))),
  (am 4, .inl (g.2.1 0, 32, .inl (S 6))),
  (am 5, .inl (g.2.1 0, 32, .inl (S 7))),
  (am 6, .inl (g.2.1 0, 32, .inl (S 8))),
  (am 7, .inl (g.2.1 0, 32, .inl (S 9))),
  (am 8, .inl (g.2.1 0, 32, .inl (S 10))),
  (am 9, .inl (g.2.1 0, 32, .inl (S 11))),
  (am 10, .inl (g.2.1 0, 160, .inl (S 12))),
  (am 11, .inl (g.2.1 0, 1200, .inl (S 14))),
  (am 12, .inl (g.2.1 0, 24, .inl (S 15))),
  (am 13, .inl (g.2.1 0, 44, .inl (S 19))),
  (am 14, .inl (g.2.1 0, 44, .inl (S 20))),
  (am 15, .inl (g.2.1 0, 44, .inl (S 21))),
  (am 16, .inl (g.2.1 0, 44, .inl (S 22))),
  (am 17, .inl (g.2.1 0, 44, .inl (S 23))),
  (am 18, .inl (g.2.1 0, 44, .inl (S 24))),
  (am 19, .inl (g.2.1 0, 44, .inl (S 25))),
  (am 20, .inl (g.2.1 1, 44, .inl (S 26))),
  (am 21, .inl (g.2.1 0, 6, .inl (S 27))),
  (am 22, .inl (g.2.1 0, 6, .inl (S 28))),
  (am 23, .inl (g.2.1 1, 6, .inl (S 29))),
  (am 24, .inl (g.2.1 0, 8, .inl (S 35))),
  (am 25, .inl (g.2.1 0, 32, .inl (S 36))),
  (am 26, .inl (g.2.1 0, 4, .inl (S 37))),
  (am 27, .inl (g.2.1 0, 4, .inl (S 38))),
  (am 28, .inl (g.2.1 0, 160, .inl (S 39))),
  (am 29, .inl (g.2.1 3, 11, .inr (.inl dk_words))),
  (am 30, .inl (g.2.1 0, 200, .inl (S 45))),
  (am 31, .inl (g.2.1 0, 200, .inl (S 49))),
  (am 32, .inl (g.2.1 0, 6, .inl (S 50)))]
section WM
variable (g : dk_G) (am : Nat → Nat) (S : dk_S)
theorem oM_Model : (wM g am S)[0]? = some (am 0, .inr (9, [.int (S 0 0), .ref (am 1), .int (S 2 0), .ref (am 2), .ref (am 3), .int (S 5 0), .ref (am 4), .ref (am 5), .ref (am 6), .ref (am 7), .ref (am 8), .ref (am 9), .ref (am 10), .int (S 13 0), .ref (am 11), .ref (am 12), .int (S 16 0), .int (S 17 0), .int (S 18 0), .ref (am 13), .ref (am 14), .ref (am 15), .ref (am 16), .ref (am 17), .ref (am 18), .ref (am 19), .ref (am 20), .ref (am 21), .ref (am 22), .ref (am 23), .int (S 30 0), .int (S 31 0), .int (S 32 0), .int (S 33 0), .int (S 34 0), .ref (am 24), .ref (am 25), .ref (am 26), .ref (am 27), .ref (am 28), .int (S 40 0), .int (S 41 0), .int (S 42 0), .int (S 43 0), .ref (am 29), .ref (am 30), .int (S 46 0), .int (S 47 0), .int (S 48 0), .ref (am 31), .ref (am 32)])) := rfl
theorem sM_Model_grounds (x : Int32) : (wM g am S).set 0 (am 0, .inr (9, ([.int (S 0 0), .ref (am 1), .int (S 2 0), .ref (am 2), .ref (am 3), .int (S 5 0), .ref (am 4), .ref (am 5), .ref (am 6), .ref (am 7), .ref (am 8), .ref (am 9), .ref (am 10), .int (S 13 0), .ref (am 11), .ref (am 12), .int (S 16 0), .int (S 17 0), .int (S 18 0), .ref (am 13), .ref (am 14), .ref (am 15), .ref (am 16), .ref (am 17), .ref (am 18), .ref (am 19), .ref (am 20), .ref (am 21), .ref (am 22), .ref (am 23), .int (S 30 0), .int (S 31 0), .int (S 32 0), .int (S 33 0), .int (S 34 0), .ref (am 24), .ref (am 25), .ref (am 26), .ref (am 27), .ref (am 28), .int (S 40 0), .int (S 41 0), .int (S 42 0), .int (S 43 0), .ref (am 29), .ref (am 30), .int (S 46 0), .int (S 47 0), .int (S 48 0), .ref (am 31), .ref (am 32)] : List Value).set 0 (.int x))) = wM g am (dk_U S 0 0 x) := rfl
theorem sM_Model_beasts (x : Int32) : (wM g am S).set 0 (am 0, .inr (9, ([.int (S 0 0), .ref (am 1), .int (S 2 0), .ref (am 2), .ref (am 3), .int (S 5 0), .ref (am 4), .ref (am 5), .ref (am 6), .ref (am 7), .ref (am 8), .ref (am 9), .ref (am 10), .int (S 13 0), .ref (am 11), .ref (am 12), .int (S 16 0), .int (S 17 0), .int (S 18 0), .ref (am 13), .ref (am 14), .ref (am 15), .ref (am 16), .ref (am 17), .ref (am 18), .ref (am 19), .ref (am 20), .ref (am 21), .ref (am 22), .ref (am 23), .int (S 30 0), .int (S 31 0), .int (S 32 0), .int (S 33 0), .int (S 34 0), .ref (am 24), .ref (am 25), .ref (am 26), .ref (am 27), .ref (am 28), .int (S 40 0), .int (S 41 0), .int (S 42 0), .int (S 43 0), .ref (am 29), .ref (am 30), .int (S 46 0), .int (S 47 0), .int (S 48 0), .ref (am 31), .ref (am 32)] : List Value).set 2 (.int x))) = wM g am (dk_U S 2 0 x) := rfl
theorem sM_Model_moments (x : Int32) : (wM g am S).set 0 (am 0, .inr (9, ([.int (S 0 0), .ref (am 1), .int (S 2 0), .ref (am 2), .ref (am 3), .int (S 5 0), .ref (am 4), .ref (am 5), .ref (am 6), .ref (am 7), .ref (am 8), .ref (am 9), .ref (am 10), .int (S 13 0), .ref (am 11), .ref (am 12), .int (S 16 0), .int (S 17 0), .int (S 18 0), .ref (am 13), .ref (am 14), .ref (am 15), .ref (am 16), .ref (am 17), .ref (am 18), .ref (am 19), .ref (am 20), .ref (am 21), .ref (am 22), .ref (am 23), .int (S 30 0), .int (S 31 0), .int (S 32 0), .int (S 33 0), .int (S 34 0), .ref (am 24), .ref (am 25), .ref (am 26), .ref (am 27), .ref (am 28), .int (S 40 0), .int (S 41 0), .int (S 42 0), .int (S 43 0), .ref (am 29), .ref (am 30), .int (S 46 0), .int (S 47 0), .int (S 48 0), .ref (am 31), .ref (am 32)] : List Value).set 5 (.int x))) = wM g am (dk_U S 5 0 x) := rfl
theorem sM_Model_taped (x : Int32) : (wM g am S).set 0 (am 0, .inr (9, ([.int (S 0 0), .ref (am 1), .int (S 2 0), .ref (am 2), .ref (am 3), .int (S 5 0), .ref (am 4), .ref (am 5), .ref (am 6), .ref (am 7), .ref (am 8), .ref (am 9), .ref (am 10), .int (S 13 0), .ref (am 11), .ref (am 12), .int (S 16 0), .int (S 17 0), .int (S 18 0), .ref (am 13), .ref (am 14), .ref (am 15), .ref (am 16), .ref (am 17), .ref (am 18), .ref (am 19), .ref (am 20), .ref (am 21), .ref (am 22), .ref (am 23), .int (S 30 0), .int (S 31 0), .int (S 32 0), .int (S 33 0), .int (S 34 0), .ref (am 24), .ref (am 25), .ref (am 26), .ref (am 27), .ref (am 28), .int (S 40 0), .int (S 41 0), .int (S 42 0), .int (S 43 0), .ref (am 29), .ref (am 30), .int (S 46 0), .int (S 47 0), .int (S 48 0), .ref (am 31), .ref (am 32)] : List Value).set 13 (.int x))) = wM g am (dk_U S 13 0 x) := rfl
theorem sM_Model_texts (x : Int32) : (wM g am S).set 0 (am 0, .inr (9, ([.int (S 0 0), .ref (am 1), .int (S 2 0), .ref (am 2), .ref (am 3), .int (S 5 0), .ref (am 4), .ref (am 5), .ref (am 6), .ref (am 7), .ref (am 8), .ref (am 9), .ref (am 10), .int (S 13 0), .ref (am 11), .ref (am 12), .int (S 16 0), .int (S 17 0), .int (S 18 0), .ref (am 13), .ref (am 14), .ref (am 15), .ref (am 16), .ref (am 17), .ref (am 18), .ref (am 19), .ref (am 20), .ref (am 21), .ref (am 22), .ref (am 23), .int (S 30 0), .int (S 31 0), .int (S 32 0), .int (S 33 0), .int (S 34 0), .ref (am 24), .ref (am 25), .ref (am 26), .ref (am 27), .ref (am 28), .int (S 40 0), .int (S 41 0), .int (S 42 0), .int (S 43 0), .ref (am 29), .ref (am 30), .int (S 46 0), .int (S 47 0), .int (S 48 0), .ref (am 31), .ref (am 32)] : List Value).set 16 (.int x))) = wM g am (dk_U S 16 0 x) := rfl
theorem sM_Model_rule (x : Int32) : (wM g am S).set 0 (am 0, .inr (9, ([.int (S 0 0), .ref (am 1), .int (S 2 0), .ref (am 2), .ref (am 3), .int (S 5 0), .ref (am 4), .ref (am 5), .ref (am 6), .ref (am 7), .ref (am 8), .ref (am 9), .ref (am 10), .int (S 13 0), .ref (am 11), .ref (am 12), .int (S 16 0), .int (S 17 0), .int (S 18 0), .ref (am 13), .ref (am 14), .ref (am 15), .ref (am 16), .ref (am 17), .ref (am 18), .ref (am 19), .ref (am 20), .ref (am 21), .ref (am 22), .ref (am 23), .int (S 30 0), .int (S 31 0), .int (S 32 0), .int (S 33 0), .int (S 34 0), .ref (am 24), .ref (am 25), .ref (am 26), .ref (am 27), .ref (am 28), .int (S 40 0), .int (S 41 0), .int (S 42 0), .int (S 43 0), .ref (am 29), .ref (am 30), .int (S 46 0), .int (S 47 0), .int (S 48 0), .ref (am 31), .ref (am 32)] : List Value).set 17 (.int x))) = wM g am (dk_U S 17 0 x) := rfl
theorem sM_Model_claims (x : Int32) : (wM g am S).set 0 (am 0, .inr (9, ([.int (S 0 0), .ref (am 1), .int (S 2 0), .ref (am 2), .ref (am 3), .int (S 5 0), .ref (am 4), .ref (am 5), .ref (am 6), .ref (am 7), .ref (am 8), .ref (am 9), .ref (am 10), .int (S 13 0), .ref (am 11), .ref (am 12), .int (S 16 0), .int (S 17 0), .int (S 18 0), .ref (am 13), .ref (am 14), .ref (am 15), .ref (am 16), .ref (am 17), .ref (am 18), .ref (am 19), .ref (am 20), .ref (am 21), .ref (am 22), .ref (am 23), .int (S 30 0), .int (S 31 0), .int (S 32 0), .int (S 33 0), .int (S 34 0), .ref (am 24), .ref (am 25), .ref (am 26), .ref (am 27), .ref (am 28), .int (S 40 0), .int (S 41 0), .int (S 42 0), .int (S 43 0), .ref (am 29), .ref (am 30), .int (S 46 0), .int (S 47 0), .int (S 48 0), .ref (am 31), .ref (am 32)] : List Value).set 18 (.int x))) = wM g am (dk_U S 18 0 x) := rfl
theorem sM_Model_now (x : Int32) : (wM g am S).set 0 (am 0, .inr (9, ([.int (S 0 0), .ref (am 1), .int (S 2 0), .ref (am 2), .ref (am 3), .int (S 5 0), .ref (am 4), .ref (am 5), .ref (am 6), .ref (am 7), .ref (am 8), .ref (am 9), .ref (am 10), .int (S 13 0), .ref (am 11), .ref (am 12), .int (S 16 0), .int (S 17 0), .int (S 18 0), .ref (am 13), .ref (am 14), .ref (am 15), .ref (am 16), .ref (am 17), .ref (am 18), .ref (am 19), .ref (am 20), .ref (am 21), .ref (am 22), .ref (am 23), .int (S 30 0), .int (S 31 0), .int (S 32 0), .int (S 33 0), .int (S 34 0), .ref (am 24), .ref (am 25), .ref (am 26), .ref (am 27), .ref (am 28), .int (S 40 0), .int (S 41 0), .int (S 42 0), .int (S 43 0), .ref (am 29), .ref (am 30), .int (S 46 0), .int (S 47 0), .int (S 48 0), .ref (am 31), .ref (am 32)] : List Value).set 30 (.int x))) = wM g am (dk_U S 30 0 x) := rfl
theorem sM_Model_hasImage (x : Int32) : (wM g am S).set 0 (am 0, .inr (9, ([.int (S 0 0), .ref (am 1), .int (S 2 0), .ref (am 2), .ref (am 3), .int (S 5 0), .ref (am 4), .ref (am 5), .ref (am 6), .ref (am 7), .ref (am 8), .ref (am 9), .ref (am 10), .int (S 13 0), .ref (am 11), .ref (am 12), .int (S 16 0), .int (S 17 0), .int (S 18 0), .ref (am 13), .ref (am 14), .ref (am 15), .ref (am 16), .ref (am 17), .ref (am 18), .ref (am 19), .ref (am 20), .ref (am 21), .ref (am 22), .ref (am 23), .int (S 30 0), .int (S 31 0), .int (S 32 0), .int (S 33 0), .int (S 34 0), .ref (am 24), .ref (am 25), .ref (am 26), .ref (am 27), .ref (am 28), .int (S 40 0), .int (S 41 0), .int (S 42 0), .int (S 43 0), .ref (am 29), .ref (am 30), .int (S 46 0), .int (S 47 0), .int (S 48 0), .ref (am 31), .ref (am 32)] : List Value).set 31 (.int x))) = wM g am (dk_U S 31 0 x) := rfl
theorem sM_Model_imageGrounds (x : Int32) : (wM g am S).set 0 (am 0, .inr (9, ([.int (S 0 0), .ref (am 1), .int (S 2 0), .ref (am 2), .ref (am 3), .int (S 5 0), .ref (am 4), .ref (am 5), .ref (am 6), .ref (am 7), .ref (am 8), .ref (am 9), .ref (am 10), .int (S 13 0), .ref (am 11), .ref (am 12), .int (S 16 0), .int (S 17 0), .int (S 18 0), .ref (am 13), .ref (am 14), .ref (am 15), .ref (am 16), .ref (am 17), .ref (am 18), .ref (am 19), .ref (am 20), .ref (am 21), .ref (am 22), .ref (am 23), .int (S 30 0), .int (S 31 0), .int (S 32 0), .int (S 33 0), .int (S 34 0), .ref (am 24), .ref (am 25), .ref (am 26), .ref (am 27), .ref (am 28), .int (S 40 0), .int (S 41 0), .int (S 42 0), .int (S 43 0), .ref (am 29), .ref (am 30), .int (S 46 0), .int (S 47 0), .int (S 48 0), .ref (am 31), .ref (am 32)] : List Value).set 32 (.int x))) = wM g am (dk_U S 32 0 x) := rfl
theorem sM_Model_imageMoments (x : Int32) : (wM g am S).set 0 (am 0, .inr (9, ([.int (S 0 0), .ref (am 1), .int (S 2 0), .ref (am 2), .ref (am 3), .int (S 5 0), .ref (am 4), .ref (am 5), .ref (am 6), .ref (am 7), .ref (am 8), .ref (am 9), .ref (am 10), .int (S 13 0), .ref (am 11), .ref (am 12), .int (S 16 0), .int (S 17 0), .int (S 18 0), .ref (am 13), .ref (am 14), .ref (am 15), .ref (am 16), .ref (am 17), .ref (am 18), .ref (am 19), .ref (am 20), .ref (am 21), .ref (am 22), .ref (am 23), .int (S 30 0), .int (S 31 0), .int (S 32 0), .int (S 33 0), .int (S 34 0), .ref (am 24), .ref (am 25), .ref (am 26), .ref (am 27), .ref (am 28), .int (S 40 0), .int (S 41 0), .int (S 42 0), .int (S 43 0), .ref (am 29), .ref (am 30), .int (S 46 0), .int (S 47 0), .int (S 48 0), .ref (am 31), .ref (am 32)] : List Value).set 33 (.int x))) = wM g am (dk_U S 33 0 x) := rfl
theorem sM_Model_imageRule (x : Int32) : (wM g am S).set 0 (am 0, .inr (9, ([.int (S 0 0), .ref (am 1), .int (S 2 0), .ref (am 2), .ref (am 3), .int (S 5 0), .ref (am 4), .ref (am 5), .ref (am 6), .ref (am 7), .ref (am 8), .ref (am 9), .ref (am 10), .int (S 13 0), .ref (am 11), .ref (am 12), .int (S 16 0), .int (S 17 0), .int (S 18 0), .ref (am 13), .ref (am 14), .ref (am 15), .ref (am 16), .ref (am 17), .ref (am 18), .ref (am 19), .ref (am 20), .ref (am 21), .ref (am 22), .ref (am 23), .int (S 30 0), .int (S 31 0), .int (S 32 0), .int (S 33 0), .int (S 34 0), .ref (am 24), .ref (am 25), .ref (am 26), .ref (am 27), .ref (am 28), .int (S 40 0), .int (S 41 0), .int (S 42 0), .int (S 43 0), .ref (am 29), .ref (am 30), .int (S 46 0), .int (S 47 0), .int (S 48 0), .ref (am 31), .ref (am 32)] : List Value).set 34 (.int x))) = wM g am (dk_U S 34 0 x) := rfl
theorem sM_Model_at (x : Int32) : (wM g am S).set 0 (am 0, .inr (9, ([.int (S 0 0), .ref (am 1), .int (S 2 0), .ref (am 2), .ref (am 3), .int (S 5 0), .ref (am 4), .ref (am 5), .ref (am 6), .ref (am 7), .ref (am 8), .ref (am 9), .ref (am 10), .int (S 13 0), .ref (am 11), .ref (am 12), .int (S 16 0), .int (S 17 0), .int (S 18 0), .ref (am 13), .ref (am 14), .ref (am 15), .ref (am 16), .ref (am 17), .ref (am 18), .ref (am 19), .ref (am 20), .ref (am 21), .ref (am 22), .ref (am 23), .int (S 30 0), .int (S 31 0), .int (S 32 0), .int (S 33 0), .int (S 34 0), .ref (am 24), .ref (am 25), .ref (am 26), .ref (am 27), .ref (am 28), .int (S 40 0), .int (S 41 0), .int (S 42 0), .int (S 43 0), .ref (am 29), .ref (am 30), .int (S 46 0), .int (S 47 0), .int (S 48 0), .ref (am 31), .ref (am 32)] : List Value).set 40 (.int x))) = wM g am (dk_U S 40 0 x) := rfl
theorem sM_Model_begun (x : Int32) : (wM g am S).set 0 (am 0, .inr (9, ([.int (S 0 0), .ref (am 1), .int (S 2 0), .ref (am 2), .ref (am 3), .int (S 5 0), .ref (am 4), .ref (am 5), .ref (am 6), .ref (am 7), .ref (am 8), .ref (am 9), .ref (am 10), .int (S 13 0), .ref (am 11), .ref (am 12), .int (S 16 0), .int (S 17 0), .int (S 18 0), .ref (am 13), .ref (am 14), .ref (am 15), .ref (am 16), .ref (am 17), .ref (am 18), .ref (am 19), .ref (am 20), .ref (am 21), .ref (am 22), .ref (am 23), .int (S 30 0), .int (S 31 0), .int (S 32 0), .int (S 33 0), .int (S 34 0), .ref (am 24), .ref (am 25), .ref (am 26), .ref (am 27), .ref (am 28), .int (S 40 0), .int (S 41 0), .int (S 42 0), .int (S 43 0), .ref (am 29), .ref (am 30), .int (S 46 0), .int (S 47 0), .int (S 48 0), .ref (am 31), .ref (am 32)] : List Value).set 41 (.int x))) = wM g am (dk_U S 41 0 x) := rfl
theorem sM_Model_token (x : Int32) : (wM g am S).set 0 (am 0, .inr (9, ([.int (S 0 0), .ref (am 1), .int (S 2 0), .ref (am 2), .ref (am 3), .int (S 5 0), .ref (am 4), .ref (am 5), .ref (am 6), .ref (am 7), .ref (am 8), .ref (am 9), .ref (am 10), .int (S 13 0), .ref (am 11), .ref (am 12), .int (S 16 0), .int (S 17 0), .int (S 18 0), .ref (am 13), .ref (am 14), .ref (am 15), .ref (am 16), .ref (am 17), .ref (am 18), .ref (am 19), .ref (am 20), .ref (am 21), .ref (am 22), .ref (am 23), .int (S 30 0), .int (S 31 0), .int (S 32 0), .int (S 33 0), .int (S 34 0), .ref (am 24), .ref (am 25), .ref (am 26), .ref (am 27), .ref (am 28), .int (S 40 0), .int (S 41 0), .int (S 42 0), .int (S 43 0), .ref (am 29), .ref (am 30), .int (S 46 0), .int (S 47 0), .int (S 48 0), .ref (am 31), .ref (am 32)] : List Value).set 42 (.int x))) = wM g am (dk_U S 42 0 x) := rfl
theorem sM_Model_value (x : Int32) : (wM g am S).set 0 (am 0, .inr (9, ([.int (S 0 0), .ref (am 1), .int (S 2 0), .ref (am 2), .ref (am 3), .int (S 5 0), .ref (am 4), .ref (am 5), .ref (am 6), .ref (am 7), .ref (am 8), .ref (am 9), .ref (am 10), .int (S 13 0), .ref (am 11), .ref (am 12), .int (S 16 0), .int (S 17 0), .int (S 18 0), .ref (am 13), .ref (am 14), .ref (am 15), .ref (am 16), .ref (am 17), .ref (am 18), .ref (am 19), .ref (am 20), .ref (am 21), .ref (am 22), .ref (am 23), .int (S 30 0), .int (S 31 0), .int (S 32 0), .int (S 33 0), .int (S 34 0), .ref (am 24), .ref (am 25), .ref (am 26), .ref (am 27), .ref (am 28), .int (S 40 0), .int (S 41 0), .int (S 42 0), .int (S 43 0), .ref (am 29), .ref (am 30), .int (S 46 0), .int (S 47 0), .int (S 48 0), .ref (am 31), .ref (am 32)] : List Value).set 43 (.int x))) = wM g am (dk_U S 43 0 x) := rfl
theorem sM_Model_heldMany (x : Int32) : (wM g am S).set 0 (am 0, .inr (9, ([.int (S 0 0), .ref (am 1), .int (S 2 0), .ref (am 2), .ref (am 3), .int (S 5 0), .ref (am 4), .ref (am 5), .ref (am 6), .ref (am 7), .ref (am 8), .ref (am 9), .ref (am 10), .int (S 13 0), .ref (am 11), .ref (am 12), .int (S 16 0), .int (S 17 0), .int (S 18 0), .ref (am 13), .ref (am 14), .ref (am 15), .ref (am 16), .ref (am 17), .ref (am 18), .ref (am 19), .ref (am 20), .ref (am 21), .ref (am 22), .ref (am 23), .int (S 30 0), .int (S 31 0), .int (S 32 0), .int (S 33 0), .int (S 34 0), .ref (am 24), .ref (am 25), .ref (am 26), .ref (am 27), .ref (am 28), .int (S 40 0), .int (S 41 0), .int (S 42 0), .int (S 43 0), .ref (am 29), .ref (am 30), .int (S 46 0), .int (S 47 0), .int (S 48 0), .ref (am 31), .ref (am 32)] : List Value).set 46 (.int x))) = wM g am (dk_U S 46 0 x) := rfl
theorem sM_Model_opens (x : Int32) : (wM g am S).set 0 (am 0, .inr (9, ([.int (S 0 0), .ref (am 1), .int (S 2 0), .ref (am 2), .ref (am 3), .int (S 5 0), .ref (am 4), .ref (am 5), .ref (am 6), .ref (am 7), .ref (am 8), .ref (am 9), .ref (am 10), .int (S 13 0), .ref (am 11), .ref (am 12), .int (S 16 0), .int (S 17 0), .int (S 18 0), .ref (am 13), .ref (am 14), .ref (am 15), .ref (am 16), .ref (am 17), .ref (am 18), .ref (am 19), .ref (am 20), .ref (am 21), .ref (am 22), .ref (am 23), .int (S 30 0), .int (S 31 0), .int (S 32 0), .int (S 33 0), .int (S 34 0), .ref (am 24), .ref (am 25), .ref (am 26), .ref (am 27), .ref (am 28), .int (S 40 0), .int (S 41 0), .int (S 42 0), .int (S 43 0), .ref (am 29), .ref (am 30), .int (S 46 0), .int (S 47 0), .int (S 48 0), .ref (am 31), .ref (am 32)] : List Value).set 47 (.int x))) = wM g am (dk_U S 47 0 x) := rfl
theorem sM_Model_out (x : Int32) : (wM g am S).set 0 (am 0, .inr (9, ([.int (S 0 0), .ref (am 1), .int (S 2 0), .ref (am 2), .ref (am 3), .int (S 5 0), .ref (am 4), .ref (am 5), .ref (am 6), .ref (am 7), .ref (am 8), .ref (am 9), .ref (am 10), .int (S 13 0), .ref (am 11), .ref (am 12), .int (S 16 0), .int (S 17 0), .int (S 18 0), .ref (am 13), .ref (am 14), .ref (am 15), .ref (am 16), .ref (am 17), .ref (am 18), .ref (am 19), .ref (am 20), .ref (am 21), .ref (am 22), .ref (am 23), .int (S 30 0), .int (S 31 0), .int (S 32 0), .int (S 33 0), .int (S 34 0), .ref (am 24), .ref (am 25), .ref (am 26), .ref (am 27), .ref (am 28), .int (S 40 0), .int (S 41 0), .int (S 42 0), .int (S 43 0), .ref (am 29), .ref (am 30), .int (S 46 0), .int (S 47 0), .int (S 48 0), .ref (am 31), .ref (am 32)] : List Value).set 48 (.int x))) = wM g am (dk_U S 48 0 x) := rfl
theorem aM_1 : (wM g am S)[1]? = some (am 1, .inl (g.2.1 0, 8, .inl (S 1))) := rfl
theorem sM_1 (i : Nat) (x : Int32) : (wM g am S).set 1 (am 1, .inl (g.2.1 0, 8, .inl (upd (S 1) i x))) = wM g am (dk_U S 1 i x) := rfl
theorem aM_2 : (wM g am S)[2]? = some (am 2, .inl (g.2.1 0, 6, .inl (S 3))) := rfl
theorem sM_2 (i : Nat) (x : Int32) : (wM g am S).set 2 (am 2, .inl (g.2.1 0, 6, .inl (upd (S 3) i x))) = wM g am (dk_U S 3 i x) := rfl
theorem aM_3 : (wM g am S)[3]? = some (am 3, .inl (g.2.1 0, 6, .inl (S 4))) := rfl
theorem sM_3 (i : Nat) (x : Int32) : (wM g am S).set 3 (am 3, .inl (g.2.1 0, 6, .inl (upd (S 4) i x))) = wM g am (dk_U S 4 i x) := rfl
theorem aM_4 : (wM g am S)[4]? = some (am 4, .inl (g.2.1 0, 32, .inl (S 6))) := rfl
theorem sM_4 (i : Nat) (x : Int32) : (wM g am S).set 4 (am 4, .inl (g.2.1 0, 32, .inl (upd (S 6) i x))) = wM g am (dk_U S 6 i x) := rfl
theorem aM_5 : (wM g am S)[5]? = some (am 5, .inl (g.2.1 0, 32, .inl (S 7))) := rfl
theorem sM_5 (i : Nat) (x : Int32) : (wM g am S).set 5 (am 5, .inl (g.2.1 0, 32, .inl (upd (S 7) i x))) = wM g am (dk_U S 7 i x) := rfl
theorem aM_6 : (wM g am S)[6]? = some (am 6, .inl (g.2.1 0, 32, .inl (S 8))) := rfl
theorem sM_6 (i : Nat) (x : Int32) : (wM g am S).set 6 (am 6, .inl (g.2.1 0, 32, .inl (upd (S 8) i x))) = wM g am (dk_U S 8 i x) := rfl
theorem aM_7 : (wM g am S)[7]? = some (am 7, .inl (g.2.1 0, 32, .inl (S 9))) := rfl
theorem sM_7 (i : Nat) (x : Int32) : (wM g am S).set 7 (am 7, .inl (g.2.1 0, 32, .inl (upd (S 9) i x))) = wM g am (dk_U S 9 i x) := rfl
theorem aM_8 : (wM g am S)[8]? = some (am 8, .inl (g.2.1 0, 32, .inl (S 10))) := rfl
theorem sM_8 (i : Nat) (x : Int32) : (wM g am S).set 8 (am 8, .inl (g.2.1 0, 32, .inl (upd (S 10) i x))) = wM g am (dk_U S 10 i x) := rfl
theorem aM_9 : (wM g am S)[9]? = some (am 9, .inl (g.2.1 0, 32, .inl (S 11))) := rfl
theorem sM_9 (i : Nat) (x : Int32) : (wM g am S).set 9 (am 9, .inl (g.2.1 0, 32, .inl (upd (S 11) i x))) = wM g am (dk_U S 11 i x) := rfl
theorem aM_10 : (wM g am S)[10]? = some (am 10, .inl (g.2.1 0, 160, .inl (S 12))) := rfl
theorem sM_10 (i : Nat) (x : Int32) : (wM g am S).set 10 (am 10, .inl (g.2.1 0, 160, .inl (upd (S 12) i x))) = wM g am (dk_U S 12 i x) := rfl
theorem aM_11 : (wM g am S)[11]? = some (am 11, .inl (g.2.1 0, 1200, .inl (S 14))) := rfl
theorem sM_11 (i : Nat) (x : Int32) : (wM g am S).set 11 (am 11, .inl (g.2.1 0, 1200, .inl (upd (S 14) i x))) = wM g am (dk_U S 14 i x) := rfl
theorem aM_12 : (wM g am S)[12]? = some (am 12, .inl (g.2.1 0, 24, .inl (S 15))) := rfl
theorem sM_12 (i : Nat) (x : Int32) : (wM g am S).set 12 (am 12, .inl (g.2.1 0, 24, .inl (upd (S 15) i x))) = wM g am (dk_U S 15 i x) := rfl
theorem aM_13 : (wM g am S)[13]? = some (am 13, .inl (g.2.1 0, 44, .inl (S 19))) := rfl
theorem sM_13 (i : Nat) (x : Int32) : (wM g am S).set 13 (am 13, .inl (g.2.1 0, 44, .inl (upd (S 19) i x))) = wM g am (dk_U S 19 i x) := rfl
theorem aM_14 : (wM g am S)[14]? = some (am 14, .inl (g.2.1 0, 44, .inl (S 20))) := rfl
theorem sM_14 (i : Nat) (x : Int32) : (wM g am S).set 14 (am 14, .inl (g.2.1 0, 44, .inl (upd (S 20) i x))) = wM g am (dk_U S 20 i x) := rfl
theorem aM_15 : (wM g am S)[15]? = some (am 15, .inl (g.2.1 0, 44, .inl (S 21))) := rfl
theorem sM_15 (i : Nat) (x : Int32) : (wM g am S).set 15 (am 15, .inl (g.2.1 0, 44, .inl (upd (S 21) i x))) = wM g am (dk_U S 21 i x) := rfl
theorem aM_16 : (wM g am S)[16]? = some (am 16, .inl (g.2.1 0, 44, .inl (S 22))) := rfl
theorem sM_16 (i : Nat) (x : Int32) : (wM g am S).set 16 (am 16, .inl (g.2.1 0, 44, .inl (upd (S 22) i x))) = wM g am (dk_U S 22 i x) := rfl
theorem aM_17 : (wM g am S)[17]? = some (am 17, .inl (g.2.1 0, 44, .inl (S 23))) := rfl
theorem sM_17 (i : Nat) (x : Int32) : (wM g am S).set 17 (am 17, .inl (g.2.1 0, 44, .inl (upd (S 23) i x))) = wM g am (dk_U S 23 i x) := rfl
theorem aM_18 : (wM g am S)[18]? = some (am 18, .inl (g.2.1 0, 44, .inl (S 24))) := rfl
theorem sM_18 (i : Nat) (x : Int32) : (wM g am S).set 18 (am 18, .inl (g.2.1 0, 44, .inl (upd (S 24) i x))) = wM g am (dk_U S 24 i x) := rfl
theorem aM_19 : (wM g am S)[19]? = some (am 19, .inl (g.2.1 0, 44, .inl (S 25))) := rfl
theorem sM_19 (i : Nat) (x : Int32) : (wM g am S).set 19 (am 19, .inl (g.2.1 0, 44, .inl (upd (S 25) i x))) = wM g am (dk_U S 25 i x) := rfl
theorem aM_20 : (wM g am S)[20]? = some (am 20, .inl (g.2.1 1, 44, .inl (S 26))) := rfl
theorem sM_20 (i : Nat) (x : Int32) : (wM g am S).set 20 (am 20, .inl (g.2.1 1, 44, .inl (upd (S 26) i x))) = wM g am (dk_U S 26 i x) := rfl
theorem aM_21 : (wM g am S)[21]? = some (am 21, .inl (g.2.1 0, 6, .inl (S 27))) := rfl
theorem sM_21 (i : Nat) (x : Int32) : (wM g am S).set 21 (am 21, .inl (g.2.1 0, 6, .inl (upd (S 27) i x))) = wM g am (dk_U S 27 i x) := rfl
theorem aM_22 : (wM g am S)[22]? = some (am 22, .inl (g.2.1 0, 6, .inl (S 28))) := rfl
theorem sM_22 (i : Nat) (x : Int32) : (wM g am S).set 22 (am 22, .inl (g.2.1 0, 6, .inl (upd (S 28) i x))) = wM g am (dk_U S 28 i x) := rfl
theorem aM_23 : (wM g am S)[23]? = some (am 23, .inl (g.2.1 1, 6, .inl (S 29))) := rfl
theorem sM_23 (i : Nat) (x : Int32) : (wM g am S).set 23 (am 23, .inl (g.2.1 1, 6, .inl (upd (S 29) i x))) = wM g am (dk_U S 29 i x) := rfl
theorem aM_24 : (wM g am S)[24]? = some (am 24, .inl (g.2.1 0, 8, .inl (S 35))) := rfl
theorem sM_24 (i : Nat) (x : Int32) : (wM g am S).set 24 (am 24, .inl (g.2.1 0, 8, .inl (upd (S 35) i x))) = wM g am (dk_U S 35 i x) := rfl
theorem aM_25 : (wM g am S)[25]? = some (am 25, .inl (g.2.1 0, 32, .inl (S 36))) := rfl
theorem sM_25 (i : Nat) (x : Int32) : (wM g am S).set 25 (am 25, .inl (g.2.1 0, 32, .inl (upd (S 36) i x))) = wM g am (dk_U S 36 i x) := rfl
theorem aM_26 : (wM g am S)[26]? = some (am 26, .inl (g.2.1 0, 4, .inl (S 37))) := rfl
theorem sM_26 (i : Nat) (x : Int32) : (wM g am S).set 26 (am 26, .inl (g.2.1 0, 4, .inl (upd (S 37) i x))) = wM g am (dk_U S 37 i x) := rfl
theorem aM_27 : (wM g am S)[27]? = some (am 27, .inl (g.2.1 0, 4, .inl (S 38))) := rfl
theorem sM_27 (i : Nat) (x : Int32) : (wM g am S).set 27 (am 27, .inl (g.2.1 0, 4, .inl (upd (S 38) i x))) = wM g am (dk_U S 38 i x) := rfl
theorem aM_28 : (wM g am S)[28]? = some (am 28, .inl (g.2.1 0, 160, .inl (S 39))) := rfl
theorem sM_28 (i : Nat) (x : Int32) : (wM g am S).set 28 (am 28, .inl (g.2.1 0, 160, .inl (upd (S 39) i x))) = wM g am (dk_U S 39 i x) := rfl
theorem aM_29 : (wM g am S)[29]? = some (am 29, .inl (g.2.1 3, 11, .inr (.inl dk_words))) := rfl
theorem aM_30 : (wM g am S)[30]? = some (am 30, .inl (g.2.1 0, 200, .inl (S 45))) := rfl
theorem sM_30 (i : Nat) (x : Int32) : (wM g am S).set 30 (am 30, .inl (g.2.1 0, 200, .inl (upd (S 45) i x))) = wM g am (dk_U S 45 i x) := rfl
theorem aM_31 : (wM g am S)[31]? = some (am 31, .inl (g.2.1 0, 200, .inl (S 49))) := rfl
theorem sM_31 (i : Nat) (x : Int32) : (wM g am S).set 31 (am 31, .inl (g.2.1 0, 200, .inl (upd (S 49) i x))) = wM g am (dk_U S 49 i x) := rfl
theorem aM_32 : (wM g am S)[32]? = some (am 32, .inl (g.2.1 0, 6, .inl (S 50))) := rfl
theorem sM_32 (i : Nat) (x : Int32) : (wM g am S).set 32 (am 32, .inl (g.2.1 0, 6, .inl (upd (S 50) i x))) = wM g am (dk_U S 50 i x) := rfl
end WM
