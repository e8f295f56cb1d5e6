abbrev b_Model_worth : ByteArray := prog_11_method_29_code
def y_Model_worth : MethodName := ⟨R_Model, "worth", "(I)I"⟩
theorem d_Model_worth_0 : decode b_Model_worth 0 = .ok (.iconst 0, 1) := by decide +kernel
theorem d_Model_worth_1 : decode b_Model_worth 1 = .ok (.istore_n 2, 1) := by decide +kernel
theorem d_Model_worth_2 : decode b_Model_worth 2 = .ok (.aload_n 0, 1) := by decide +kernel
theorem d_Model_worth_3 : decode b_Model_worth 3 = .ok (.getfield 43, 3) := by decide +kernel
theorem d_Model_worth_6 : decode b_Model_worth 6 = .ok (.iconst 4, 1) := by decide +kernel
theorem d_Model_worth_7 : decode b_Model_worth 7 = .ok (.aload_n 0, 1) := by decide +kernel
theorem d_Model_worth_8 : decode b_Model_worth 8 = .ok (.getfield 229, 3) := by decide +kernel
theorem d_Model_worth_11 : decode b_Model_worth 11 = .ok (.imul, 1) := by decide +kernel
theorem d_Model_worth_12 : decode b_Model_worth 12 = .ok (.iload_n 1, 1) := by decide +kernel
theorem d_Model_worth_13 : decode b_Model_worth 13 = .ok (.iadd, 1) := by decide +kernel
theorem d_Model_worth_14 : decode b_Model_worth 14 = .ok (.iaload, 1) := by decide +kernel
theorem d_Model_worth_15 : decode b_Model_worth 15 = .ok (.istore_n 3, 1) := by decide +kernel
theorem d_Model_worth_16 : decode b_Model_worth 16 = .ok (.iload_n 3, 1) := by decide +kernel
theorem d_Model_worth_17 : decode b_Model_worth 17 = .ok (.aload_n 0, 1) := by decide +kernel
theorem d_Model_worth_18 : decode b_Model_worth 18 = .ok (.getfield 43, 3) := by decide +kernel
theorem d_Model_worth_21 : decode b_Model_worth 21 = .ok (.iconst 4, 1) := by decide +kernel
theorem d_Model_worth_22 : decode b_Model_worth 22 = .ok (.aload_n 0, 1) := by decide +kernel
theorem d_Model_worth_23 : decode b_Model_worth 23 = .ok (.getfield 229, 3) := by decide +kernel
theorem d_Model_worth_26 : decode b_Model_worth 26 = .ok (.imul, 1) := by decide +kernel
theorem d_Model_worth_27 : decode b_Model_worth 27 = .ok (.iload_n 1, 1) := by decide +kernel
theorem d_Model_worth_28 : decode b_Model_worth 28 = .ok (.iadd, 1) := by decide +kernel
theorem d_Model_worth_29 : decode b_Model_worth 29 = .ok (.iconst 1, 1) := by decide +kernel
theorem d_Model_worth_30 : decode b_Model_worth 30 = .ok (.iadd, 1) := by decide +kernel
theorem d_Model_worth_31 : decode b_Model_worth 31 = .ok (.iaload, 1) := by decide +kernel
theorem d_Model_worth_32 : decode b_Model_worth 32 = .ok (.if_icmp .ge 165, 3) := by decide +kernel
theorem d_Model_worth_35 : decode b_Model_worth 35 = .ok (.aload_n 0, 1) := by decide +kernel
theorem d_Model_worth_36 : decode b_Model_worth 36 = .ok (.getfield 40, 3) := by decide +kernel
theorem d_Model_worth_39 : decode b_Model_worth 39 = .ok (.sipush 200, 3) := by decide +kernel
theorem d_Model_worth_42 : decode b_Model_worth 42 = .ok (.aload_n 0, 1) := by decide +kernel
theorem d_Model_worth_43 : decode b_Model_worth 43 = .ok (.getfield 229, 3) := by decide +kernel
theorem d_Model_worth_46 : decode b_Model_worth 46 = .ok (.imul, 1) := by decide +kernel
theorem d_Model_worth_47 : decode b_Model_worth 47 = .ok (.iload_n 3, 1) := by decide +kernel
theorem d_Model_worth_48 : decode b_Model_worth 48 = .ok (.iadd, 1) := by decide +kernel
theorem d_Model_worth_49 : decode b_Model_worth 49 = .ok (.iaload, 1) := by decide +kernel
theorem d_Model_worth_50 : decode b_Model_worth 50 = .ok (.istore 4, 2) := by decide +kernel
theorem d_Model_worth_52 : decode b_Model_worth 52 = .ok (.iload 4, 2) := by decide +kernel
theorem d_Model_worth_54 : decode b_Model_worth 54 = .ok (.ldc 215, 2) := by decide +kernel
theorem d_Model_worth_56 : decode b_Model_worth 56 = .ok (.if_icmp .ge 10, 3) := by decide +kernel
theorem d_Model_worth_59 : decode b_Model_worth 59 = .ok (.iload 4, 2) := by decide +kernel
theorem d_Model_worth_61 : decode b_Model_worth 61 = .ok (.bipush 11, 2) := by decide +kernel
theorem d_Model_worth_63 : decode b_Model_worth 63 = .ok (.if_icmp .ge 37, 3) := by decide +kernel
theorem d_Model_worth_66 : decode b_Model_worth 66 = .ok (.aload_n 0, 1) := by decide +kernel
theorem d_Model_worth_67 : decode b_Model_worth 67 = .ok (.getfield 128, 3) := by decide +kernel
theorem d_Model_worth_70 : decode b_Model_worth 70 = .ok (.iload_n 2, 1) := by decide +kernel
theorem d_Model_worth_71 : decode b_Model_worth 71 = .ok (.iload 4, 2) := by decide +kernel
theorem d_Model_worth_73 : decode b_Model_worth 73 = .ok (.bipush 11, 2) := by decide +kernel
theorem d_Model_worth_75 : decode b_Model_worth 75 = .ok (.if_icmp .ge 13, 3) := by decide +kernel
theorem d_Model_worth_78 : decode b_Model_worth 78 = .ok (.aload_n 0, 1) := by decide +kernel
theorem d_Model_worth_79 : decode b_Model_worth 79 = .ok (.getfield 131, 3) := by decide +kernel
theorem d_Model_worth_82 : decode b_Model_worth 82 = .ok (.iload 4, 2) := by decide +kernel
theorem d_Model_worth_84 : decode b_Model_worth 84 = .ok (.iaload, 1) := by decide +kernel
theorem d_Model_worth_85 : decode b_Model_worth 85 = .ok (.goto 8, 3) := by decide +kernel
theorem d_Model_worth_88 : decode b_Model_worth 88 = .ok (.iload 4, 2) := by decide +kernel
theorem d_Model_worth_90 : decode b_Model_worth 90 = .ok (.ldc 215, 2) := by decide +kernel
theorem d_Model_worth_92 : decode b_Model_worth 92 = .ok (.isub, 1) := by decide +kernel
theorem d_Model_worth_93 : decode b_Model_worth 93 = .ok (.iastore, 1) := by decide +kernel
theorem d_Model_worth_94 : decode b_Model_worth 94 = .ok (.iinc 2 1, 3) := by decide +kernel
theorem d_Model_worth_97 : decode b_Model_worth 97 = .ok (.goto 94, 3) := by decide +kernel
theorem d_Model_worth_100 : decode b_Model_worth 100 = .ok (.iload 4, 2) := by decide +kernel
theorem d_Model_worth_102 : decode b_Model_worth 102 = .ok (.bipush 13, 2) := by decide +kernel
theorem d_Model_worth_104 : decode b_Model_worth 104 = .ok (.if_icmp .ne 30, 3) := by decide +kernel
theorem d_Model_worth_107 : decode b_Model_worth 107 = .ok (.aload_n 0, 1) := by decide +kernel
theorem d_Model_worth_108 : decode b_Model_worth 108 = .ok (.getfield 128, 3) := by decide +kernel
theorem d_Model_worth_111 : decode b_Model_worth 111 = .ok (.iload_n 2, 1) := by decide +kernel
theorem d_Model_worth_112 : decode b_Model_worth 112 = .ok (.iconst 1, 1) := by decide +kernel
theorem d_Model_worth_113 : decode b_Model_worth 113 = .ok (.isub, 1) := by decide +kernel
theorem d_Model_worth_114 : decode b_Model_worth 114 = .ok (.aload_n 0, 1) := by decide +kernel
theorem d_Model_worth_115 : decode b_Model_worth 115 = .ok (.getfield 128, 3) := by decide +kernel
theorem d_Model_worth_118 : decode b_Model_worth 118 = .ok (.iload_n 2, 1) := by decide +kernel
theorem d_Model_worth_119 : decode b_Model_worth 119 = .ok (.iconst 1, 1) := by decide +kernel
theorem d_Model_worth_120 : decode b_Model_worth 120 = .ok (.isub, 1) := by decide +kernel
theorem d_Model_worth_121 : decode b_Model_worth 121 = .ok (.iaload, 1) := by decide +kernel
theorem d_Model_worth_122 : decode b_Model_worth 122 = .ok (.ifCond .ne 7, 3) := by decide +kernel
theorem d_Model_worth_125 : decode b_Model_worth 125 = .ok (.iconst 1, 1) := by decide +kernel
theorem d_Model_worth_126 : decode b_Model_worth 126 = .ok (.goto 4, 3) := by decide +kernel
theorem d_Model_worth_129 : decode b_Model_worth 129 = .ok (.iconst 0, 1) := by decide +kernel
theorem d_Model_worth_130 : decode b_Model_worth 130 = .ok (.iastore, 1) := by decide +kernel
theorem d_Model_worth_131 : decode b_Model_worth 131 = .ok (.goto 60, 3) := by decide +kernel
theorem d_Model_worth_134 : decode b_Model_worth 134 = .ok (.iload 4, 2) := by decide +kernel
theorem d_Model_worth_136 : decode b_Model_worth 136 = .ok (.bipush 19, 2) := by decide +kernel
theorem d_Model_worth_138 : decode b_Model_worth 138 = .ok (.if_icmp .ne 23, 3) := by decide +kernel
theorem d_Model_worth_141 : decode b_Model_worth 141 = .ok (.aload_n 0, 1) := by decide +kernel
theorem d_Model_worth_142 : decode b_Model_worth 142 = .ok (.getfield 128, 3) := by decide +kernel
theorem d_Model_worth_145 : decode b_Model_worth 145 = .ok (.iload_n 2, 1) := by decide +kernel
theorem d_Model_worth_146 : decode b_Model_worth 146 = .ok (.iconst 1, 1) := by decide +kernel
theorem d_Model_worth_147 : decode b_Model_worth 147 = .ok (.isub, 1) := by decide +kernel
theorem d_Model_worth_148 : decode b_Model_worth 148 = .ok (.aload_n 0, 1) := by decide +kernel
theorem d_Model_worth_149 : decode b_Model_worth 149 = .ok (.getfield 128, 3) := by decide +kernel
theorem d_Model_worth_152 : decode b_Model_worth 152 = .ok (.iload_n 2, 1) := by decide +kernel
theorem d_Model_worth_153 : decode b_Model_worth 153 = .ok (.iconst 1, 1) := by decide +kernel
theorem d_Model_worth_154 : decode b_Model_worth 154 = .ok (.isub, 1) := by decide +kernel
theorem d_Model_worth_155 : decode b_Model_worth 155 = .ok (.iaload, 1) := by decide +kernel
theorem d_Model_worth_156 : decode b_Model_worth 156 = .ok (.ineg, 1) := by decide +kernel
theorem d_Model_worth_157 : decode b_Model_worth 157 = .ok (.iastore, 1) := by decide +kernel
theorem d_Model_worth_158 : decode b_Model_worth 158 = .ok (.goto 33, 3) := by decide +kernel
theorem d_Model_worth_161 : decode b_Model_worth 161 = .ok (.iinc 2 (-1), 3) := by decide +kernel
theorem d_Model_worth_164 : decode b_Model_worth 164 = .ok (.aload_n 0, 1) := by decide +kernel
theorem d_Model_worth_165 : decode b_Model_worth 165 = .ok (.getfield 128, 3) := by decide +kernel
theorem d_Model_worth_168 : decode b_Model_worth 168 = .ok (.iload_n 2, 1) := by decide +kernel
theorem d_Model_worth_169 : decode b_Model_worth 169 = .ok (.iconst 1, 1) := by decide +kernel
theorem d_Model_worth_170 : decode b_Model_worth 170 = .ok (.isub, 1) := by decide +kernel
theorem d_Model_worth_171 : decode b_Model_worth 171 = .ok (.iload 4, 2) := by decide +kernel
theorem d_Model_worth_173 : decode b_Model_worth 173 = .ok (.aload_n 0, 1) := by decide +kernel
theorem d_Model_worth_174 : decode b_Model_worth 174 = .ok (.getfield 128, 3) := by decide +kernel
theorem d_Model_worth_177 : decode b_Model_worth 177 = .ok (.iload_n 2, 1) := by decide +kernel
theorem d_Model_worth_178 : decode b_Model_worth 178 = .ok (.iconst 1, 1) := by decide +kernel
theorem d_Model_worth_179 : decode b_Model_worth 179 = .ok (.isub, 1) := by decide +kernel
theorem d_Model_worth_180 : decode b_Model_worth 180 = .ok (.iaload, 1) := by decide +kernel
theorem d_Model_worth_181 : decode b_Model_worth 181 = .ok (.aload_n 0, 1) := by decide +kernel
theorem d_Model_worth_182 : decode b_Model_worth 182 = .ok (.getfield 128, 3) := by decide +kernel
theorem d_Model_worth_185 : decode b_Model_worth 185 = .ok (.iload_n 2, 1) := by decide +kernel
theorem d_Model_worth_186 : decode b_Model_worth 186 = .ok (.iaload, 1) := by decide +kernel
theorem d_Model_worth_187 : decode b_Model_worth 187 = .ok (.invokestatic 232, 3) := by decide +kernel
theorem d_Model_worth_190 : decode b_Model_worth 190 = .ok (.iastore, 1) := by decide +kernel
theorem d_Model_worth_191 : decode b_Model_worth 191 = .ok (.iinc 3 1, 3) := by decide +kernel
theorem d_Model_worth_194 : decode b_Model_worth 194 = .ok (.goto (-178), 3) := by decide +kernel
theorem d_Model_worth_197 : decode b_Model_worth 197 = .ok (.aload_n 0, 1) := by decide +kernel
theorem d_Model_worth_198 : decode b_Model_worth 198 = .ok (.getfield 128, 3) := by decide +kernel
theorem d_Model_worth_201 : decode b_Model_worth 201 = .ok (.iconst 0, 1) := by decide +kernel
theorem d_Model_worth_202 : decode b_Model_worth 202 = .ok (.iaload, 1) := by decide +kernel
theorem d_Model_worth_203 : decode b_Model_worth 203 = .ok (.ireturn, 1) := by decide +kernel
theorem v_Model_worth : dk_Yv y_Model_worth b_Model_worth 5 (some .int) 1 := ⟨dk_in (List.mem_of_getElem? (i := 1233) (by decide +kernel)) rfl, dk_in (List.mem_of_getElem? (i := 48) (by decide +kernel)) rfl, dk_in (List.mem_of_getElem? (i := 75) (by decide +kernel)) rfl, dk_in (List.mem_of_getElem? (i := 1234) (by decide +kernel)) rfl, by decide +kernel, by decide +kernel, by decide +kernel⟩
abbrev rm_Model_worth : Room := { frames := 1, cells := 0, slots := 0, locals := 22 }
theorem f_Model_128 : Cond.fieldLink R_Model 128 (T_Model 49).1 (T_Model 49).2.1 (T_Model 49).2.2.1 ∈ dk_tb := dk_in (List.mem_of_getElem? (i := 1013) (by decide +kernel)) rfl
theorem m_Model_232 : Cond.methodLink R_Model 232 y_Model_two ∈ dk_tb := dk_in (List.mem_of_getElem? (i := 1235) (by decide +kernel)) rfl
def B_Model_worth_191 (n : Nat) (k16 : Int32 → Int32 → Int32 → dk_S → Option (Int32 × dk_S)) (x1 : Int32) (x2 : Int32) (x3 : Int32) (S : dk_S) : Option (Int32 × dk_S) :=
  k16 x1 x2 (x3 + (1 : Int32)) S
set_option maxRecDepth 20000 in
theorem kb_Model_worth_191 {p : Program} {l : Launch} {e : Env} {s : State} {m : MethodId} {args : Array Value} {below : List Frame} {meth : Method} {c : Code} {g : dk_G} {A : Nat → Prop} {Q : State → Prop} {am : Nat → Nat} {n : Nat} {res : (Int32 × dk_S)} (X : dk_X p s m args meth c b_Model_worth 5 R_Model (some .int) g A) (hR : dk_Ri p l e rm_Model_worth s m args below meth c g A Q 5 b_Model_worth (some .int) (wM g am) res) {k16 : Int32 → Int32 → Int32 → dk_S → Option (Int32 × dk_S)} (hk16 : ∀ (x1 : Int32) (x2 : Int32) (x3 : Int32)  (S : dk_S), k16 x1 x2 x3 S = some res → dk_J p l e rm_Model_worth s m args below meth c g A Q 5 0 0 16 [(0, .ref (am 0)), (1, .int x1), (2, .int x2), (3, .int x3)] [] (wM g am S)) {x1 : Int32} {x2 : Int32} {x3 : Int32} {S : dk_S}  (hF : B_Model_worth_191 n k16 x1 x2 x3 S = some res) : dk_J p l e rm_Model_worth s m args below meth c g A Q 5 0 0 191 [(0, .ref (am 0)), (1, .int x1), (2, .int x2), (3, .int x3)] [] (wM g am S) := by
  unfold B_Model_worth_191 at hF
  refine dk_iinc (i := 3) (v := (x3 + (1 : Int32))) (lv' := [(3, .int (x3 + (1 : Int32))), (0, .ref (am 0)), (1, .int x1), (2, .int x2)]) X 3 rfl (dk_ii _ (by decide)) (by decide) rfl d_Model_worth_191 ?_
  refine dk_goto (tgt := 16) X (by decide) d_Model_worth_194 ?_
  exact dk_sub [1, 2, 3, 0] rfl (hk16 x1 x2 (x3 + (1 : Int32)) S hF)
def B_Model_worth_93 (n : Nat) (k16 : Int32 → Int32 → Int32 → dk_S → Option (Int32 × dk_S)) (x1 : Int32) (x2 : Int32) (x3 : Int32) (u1 : Int32) (u2 : Int32) (S : dk_S) : Option (Int32 × dk_S) :=
  dk_w S 49 200 u1 u2 fun S1 => B_Model_worth_191 n k16 x1 (x2 + (1 : Int32)) x3 S1
set_option maxRecDepth 20000 in
theorem kb_Model_worth_93 {p : Program} {l : Launch} {e : Env} {s : State} {m : MethodId} {args : Array Value} {below : List Frame} {meth : Method} {c : Code} {g : dk_G} {A : Nat → Prop} {Q : State → Prop} {am : Nat → Nat} {n : Nat} {res : (Int32 × dk_S)} (X : dk_X p s m args meth c b_Model_worth 5 R_Model (some .int) g A) (hR : dk_Ri p l e rm_Model_worth s m args below meth c g A Q 5 b_Model_worth (some .int) (wM g am) res) {k16 : Int32 → Int32 → Int32 → dk_S → Option (Int32 × dk_S)} (hk16 : ∀ (x1 : Int32) (x2 : Int32) (x3 : Int32)  (S : dk_S), k16 x1 x2 x3 S = some res → dk_J p l e rm_Model_worth s m args below meth c g A Q 5 0 0 16 [(0, .ref (am 0)), (1, .int x1), (2, .int x2), (3, .int x3)] [] (wM g am S)) {x1 : Int32} {x2 : Int32} {x3 : Int32} {u1 : Int32} {u2 : Int32} {S : dk_S}  (hF : B_Model_worth_93 n k16 x1 x2 x3 u1 u2 S = some res) : dk_J p l e rm_Model_worth s m args below meth c g A Q 5 0 0 93 [(0, .ref (am 0)), (1, .int x1), (2, .int x2), (3, .int x3)] [.int u2, .int u1, .ref (am 31)] (wM g am S) := by
  unfold B_Model_worth_93 at hF
  refine dk_iast X 31 (aM_31 g am S) (sM_31 g am S _ _) d_Model_worth_93 hF (fun S1 hF => ?_)
  refine dk_iinc (i := 2) (v := (x2 + (1 : Int32))) (lv' := [(2, .int (x2 + (1 : Int32))), (0, .ref (am 0)), (1, .int x1), (3, .int x3)]) X 2 rfl (dk_ii _ (by decide)) (by decide) rfl d_Model_worth_94 ?_
  refine dk_goto (tgt := 191) X (by decide) d_Model_worth_97 ?_
  exact dk_sub [1, 2, 0, 3] rfl (kb_Model_worth_191 (n := n) X hR hk16  hF)
def B_Model_worth_66 (n : Nat) (k16 : Int32 → Int32 → Int32 → dk_S → Option (Int32 × dk_S)) (x1 : Int32) (x2 : Int32) (x3 : Int32) (x4 : Int32) (S : dk_S) : Option (Int32 × dk_S) :=
  if (11 : Int32) ≤ x4 then (B_Model_worth_93 n k16 x1 x2 x3 x2 (x4 - (100000 : Int32)) S) else (dk_r 6 (S 50) x4 fun v2 => B_Model_worth_93 n k16 x1 x2 x3 x2 v2 S)
set_option maxRecDepth 20000 in
theorem kb_Model_worth_66 {p : Program} {l : Launch} {e : Env} {s : State} {m : MethodId} {args : Array Value} {below : List Frame} {meth : Method} {c : Code} {g : dk_G} {A : Nat → Prop} {Q : State → Prop} {am : Nat → Nat} {n : Nat} {res : (Int32 × dk_S)} (X : dk_X p s m args meth c b_Model_worth 5 R_Model (some .int) g A) (hR : dk_Ri p l e rm_Model_worth s m args below meth c g A Q 5 b_Model_worth (some .int) (wM g am) res) {k16 : Int32 → Int32 → Int32 → dk_S → Option (Int32 × dk_S)} (hk16 : ∀ (x1 : Int32) (x2 : Int32) (x3 : Int32)  (S : dk_S), k16 x1 x2 x3 S = some res → dk_J p l e rm_Model_worth s m args below meth c g A Q 5 0 0 16 [(0, .ref (am 0)), (1, .int x1), (2, .int x2), (3, .int x3)] [] (wM g am S)) {x1 : Int32} {x2 : Int32} {x3 : Int32} {x4 : Int32} {S : dk_S}  (hF : B_Model_worth_66 n k16 x1 x2 x3 x4 S = some res) : dk_J p l e rm_Model_worth s m args below meth c g A Q 5 0 0 66 [(0, .ref (am 0)), (1, .int x1), (2, .int x2), (3, .int x3), (4, .int x4)] [] (wM g am S) := by
  unfold B_Model_worth_66 at hF
  refine dk_aload_n (k := 0) (i := 0) X 0 rfl rfl d_Model_worth_66 ?_
  refine dk_get X q_Model 0 49 (by decide) (oM_Model g am S) rfl f_Model_128 d_Model_worth_67 ?_
  refine dk_iload_n (k := 2) (i := 2) X 2 rfl rfl d_Model_worth_70 ?_
  refine dk_iload (i := 4) X 4 rfl d_Model_worth_71 ?_
  refine dk_bipush (v := 11) X (by decide) d_Model_worth_73 ?_
  refine dk_icmp_ge (tgt := 88) X (by decide) d_Model_worth_75 hF (fun hF => ?_) (fun hF => ?_)
  · refine dk_iload (i := 4) X 4 rfl d_Model_worth_88 ?_
    refine dk_ldc (v := 100000) X k_Model_215 d_Model_worth_90 ?_
    refine dk_isub X d_Model_worth_92 ?_
    exact dk_sub [0, 1, 2, 3] rfl (kb_Model_worth_93 (n := n) X hR hk16  hF)
  · refine dk_aload_n (k := 0) (i := 0) X 0 rfl rfl d_Model_worth_78 ?_
    refine dk_get X q_Model 0 50 (by decide) (oM_Model g am S) rfl f_Model_131 d_Model_worth_79 ?_
    refine dk_iload (i := 4) X 4 rfl d_Model_worth_82 ?_
    refine dk_iald X 32 (aM_32 g am S) d_Model_worth_84 hF (fun v2 hF => ?_)
    refine dk_goto (tgt := 93) X (by decide) d_Model_worth_85 ?_
    exact dk_sub [0, 1, 2, 3] rfl (kb_Model_worth_93 (n := n) X hR hk16  hF)
def B_Model_worth_130 (n : Nat) (k16 : Int32 → Int32 → Int32 → dk_S → Option (Int32 × dk_S)) (x1 : Int32) (x2 : Int32) (x3 : Int32) (u1 : Int32) (u2 : Int32) (S : dk_S) : Option (Int32 × dk_S) :=
  dk_w S 49 200 u1 u2 fun S3 => B_Model_worth_191 n k16 x1 x2 x3 S3
set_option maxRecDepth 20000 in
theorem kb_Model_worth_130 {p : Program} {l : Launch} {e : Env} {s : State} {m : MethodId} {args : Array Value} {below : List Frame} {meth : Method} {c : Code} {g : dk_G} {A : Nat → Prop} {Q : State → Prop} {am : Nat → Nat} {n : Nat} {res : (Int32 × dk_S)} (X : dk_X p s m args meth c b_Model_worth 5 R_Model (some .int) g A) (hR : dk_Ri p l e rm_Model_worth s m args below meth c g A Q 5 b_Model_worth (some .int) (wM g am) res) {k16 : Int32 → Int32 → Int32 → dk_S → Option (Int32 × dk_S)} (hk16 : ∀ (x1 : Int32) (x2 : Int32) (x3 : Int32)  (S : dk_S), k16 x1 x2 x3 S = some res → dk_J p l e rm_Model_worth s m args below meth c g A Q 5 0 0 16 [(0, .ref (am 0)), (1, .int x1), (2, .int x2), (3, .int x3)] [] (wM g am S)) {x1 : Int32} {x2 : Int32} {x3 : Int32} {u1 : Int32} {u2 : Int32} {S : dk_S}  (hF : B_Model_worth_130 n k16 x1 x2 x3 u1 u2 S = some res) : dk_J p l e rm_Model_worth s m args below meth c g A Q 5 0 0 130 [(0, .ref (am 0)), (1, .int x1), (2, .int x2), (3, .int x3)] [.int u2, .int u1, .ref (am 31)] (wM g am S) := by
  unfold B_Model_worth_130 at hF
  refine dk_iast X 31 (aM_31 g am S) (sM_31 g am S _ _) d_Model_worth_130 hF (fun S3 hF => ?_)
  refine dk_goto (tgt := 191) X (by decide) d_Model_worth_131 ?_
  exact (kb_Model_worth_191 (n := n) X hR hk16  hF)
def B_Model_worth_16b (n : Nat) (k16 : Int32 → Int32 → Int32 → dk_S → Option (Int32 × dk_S)) (x1 : Int32) (x2 : Int32) (x3 : Int32) (S : dk_S) : Option (Int32 × dk_S) :=
  dk_r 24 (S 15) ((((4 : Int32) * (S 17 0)) + x1) + (1 : Int32)) fun v4 => if v4 ≤ x3 then (dk_r 200 (S 49) (0 : Int32) fun v5 => some (v5, S)) else (dk_r 1200 (S 14) (((200 : Int32) * (S 17 0)) + x3) fun v6 => if (100000 : Int32) ≤ v6 then (B_Model_worth_66 n k16 x1 x2 x3 v6 S) else (if (11 : Int32) ≤ v6 then (if ¬ v6 = (13 : Int32) then (if ¬ v6 = (19 : Int32) then (dk_r 200 (S 49) ((x2 + (-1 : Int32)) - (1 : Int32)) fun v7 => dk_r 200 (S 49) (x2 + (-1 : Int32)) fun v8 => dk_c (F_Model_two n v6 v7 v8 S) fun r10 S9 => dk_w S9 49 200 ((x2 + (-1 : Int32)) - (1 : Int32)) r10 fun S11 => B_Model_worth_191 n k16 x1 (x2 + (-1 : Int32)) x3 S11) else (dk_r 200 (S 49) (x2 - (1 : Int32)) fun v12 => dk_w S 49 200 (x2 - (1 : Int32)) (-v12) fun S13 => B_Model_worth_191 n k16 x1 x2 x3 S13)) else (dk_r 200 (S 49) (x2 - (1 : Int32)) fun v14 => if ¬ v14 = 0 then (B_Model_worth_130 n k16 x1 x2 x3 (x2 - (1 : Int32)) (0 : Int32) S) else (B_Model_worth_130 n k16 x1 x2 x3 (x2 - (1 : Int32)) (1 : Int32) S))) else (B_Model_worth_66 n k16 x1 x2 x3 v6 S)))
set_option maxRecDepth 20000 in
theorem kb_Model_worth_16b {p : Program} {l : Launch} {e : Env} {s : State} {m : MethodId} {args : Array Value} {below : List Frame} {meth : Method} {c : Code} {g : dk_G} {A : Nat → Prop} {Q : State → Prop} {am : Nat → Nat} {n : Nat} {res : (Int32 × dk_S)} (X : dk_X p s m args meth c b_Model_worth 5 R_Model (some .int) g A) (hR : dk_Ri p l e rm_Model_worth s m args below meth c g A Q 5 b_Model_worth (some .int) (wM g am) res) {k16 : Int32 → Int32 → Int32 → dk_S → Option (Int32 × dk_S)} (hk16 : ∀ (x1 : Int32) (x2 : Int32) (x3 : Int32)  (S : dk_S), k16 x1 x2 x3 S = some res → dk_J p l e rm_Model_worth s m args below meth c g A Q 5 0 0 16 [(0, .ref (am 0)), (1, .int x1), (2, .int x2), (3, .int x3)] [] (wM g am S)) {x1 : Int32} {x2 : Int32} {x3 : Int32} {S : dk_S}  (hF : B_Model_worth_16b n k16 x1 x2 x3 S = some res) : dk_J p l e rm_Model_worth s m args below meth c g A Q 5 0 0 16 [(0, .ref (am 0)), (1, .int x1), (2, .int x2), (3, .int x3)] [] (wM g am S) := by
  unfold B_Model_worth_16b at hF
  refine dk_iload_n (k := 3) (i := 3) X 3 rfl rfl d_Model_worth_16 ?_
  refine dk_aload_n (k := 0) (i := 0) X 0 rfl rfl d_Model_worth_17 ?_
  refine dk_get X q_Model 0 15 (by decide) (oM_Model g am S) rfl f_Model_43 d_Model_worth_18 ?_
  refine dk_iconst (v := 4) X (by decide) d_Model_worth_21 ?_
  refine dk_aload_n (k := 0) (i := 0) X 0 rfl rfl d_Model_worth_22 ?_
  refine dk_get X q_Model 0 17 (by decide) (oM_Model g am S) rfl f_Model_229 d_Model_worth_23 ?_
  refine dk_imul X d_Model_worth_26 ?_
  refine dk_iload_n (k := 1) (i := 1) X 1 rfl rfl d_Model_worth_27 ?_
  refine dk_iadd X d_Model_worth_28 ?_
  refine dk_iconst (v := 1) X (by decide) d_Model_worth_29 ?_
  refine dk_iadd X d_Model_worth_30 ?_
  refine dk_iald X 12 (aM_12 g am S) d_Model_worth_31 hF (fun v4 hF => ?_)
  refine dk_icmp_ge (tgt := 197) X (by decide) d_Model_worth_32 hF (fun hF => ?_) (fun hF => ?_)
  · refine dk_aload_n (k := 0) (i := 0) X 0 rfl rfl d_Model_worth_197 ?_
    refine dk_get X q_Model 0 49 (by decide) (oM_Model g am S) rfl f_Model_128 d_Model_worth_198 ?_
    refine dk_iconst (v := 0) X (by decide) d_Model_worth_201 ?_
    refine dk_iald X 31 (aM_31 g am S) d_Model_worth_202 hF (fun v5 hF => ?_)
    exact dk_reti hR hF d_Model_worth_203
  · refine dk_aload_n (k := 0) (i := 0) X 0 rfl rfl d_Model_worth_35 ?_
    refine dk_get X q_Model 0 14 (by decide) (oM_Model g am S) rfl f_Model_40 d_Model_worth_36 ?_
    refine dk_sipush (v := 200) X (by decide) d_Model_worth_39 ?_
    refine dk_aload_n (k := 0) (i := 0) X 0 rfl rfl d_Model_worth_42 ?_
    refine dk_get X q_Model 0 17 (by decide) (oM_Model g am S) rfl f_Model_229 d_Model_worth_43 ?_
    refine dk_imul X d_Model_worth_46 ?_
    refine dk_iload_n (k := 3) (i := 3) X 3 rfl rfl d_Model_worth_47 ?_
    refine dk_iadd X d_Model_worth_48 ?_
    refine dk_iald X 11 (aM_11 g am S) d_Model_worth_49 hF (fun v6 hF => ?_)
    refine dk_istore (i := 4) (lv' := [(4, .int v6), (0, .ref (am 0)), (1, .int x1), (2, .int x2), (3, .int x3)]) X (by decide) rfl d_Model_worth_50 ?_
    refine dk_iload (i := 4) X 0 rfl d_Model_worth_52 ?_
    refine dk_ldc (v := 100000) X k_Model_215 d_Model_worth_54 ?_
    refine dk_icmp_ge (tgt := 66) X (by decide) d_Model_worth_56 hF (fun hF => ?_) (fun hF => ?_)
    · exact dk_sub [1, 2, 3, 4, 0] rfl (kb_Model_worth_66 (n := n) X hR hk16  hF)
    · refine dk_iload (i := 4) X 0 rfl d_Model_worth_59 ?_
      refine dk_bipush (v := 11) X (by decide) d_Model_worth_61 ?_
      refine dk_icmp_ge (tgt := 100) X (by decide) d_Model_worth_63 hF (fun hF => ?_) (fun hF => ?_)
      · refine dk_iload (i := 4) X 0 rfl d_Model_worth_100 ?_
        refine dk_bipush (v := 13) X (by decide) d_Model_worth_102 ?_
        refine dk_icmp_ne (tgt := 134) X (by decide) d_Model_worth_104 hF (fun hF => ?_) (fun hF => ?_)
        · refine dk_iload (i := 4) X 0 rfl d_Model_worth_134 ?_
          refine dk_bipush (v := 19) X (by decide) d_Model_worth_136 ?_
          refine dk_icmp_ne (tgt := 161) X (by decide) d_Model_worth_138 hF (fun hF => ?_) (fun hF => ?_)
          · refine dk_iinc (i := 2) (v := (x2 + (-1 : Int32))) (lv' := [(2, .int (x2 + (-1 : Int32))), (4, .int v6), (0, .ref (am 0)), (1, .int x1), (3, .int x3)]) X 3 rfl (dk_ii _ (by decide)) (by decide) rfl d_Model_worth_161 ?_
            refine dk_aload_n (k := 0) (i := 0) X 2 rfl rfl d_Model_worth_164 ?_
            refine dk_get X q_Model 0 49 (by decide) (oM_Model g am S) rfl f_Model_128 d_Model_worth_165 ?_
            refine dk_iload_n (k := 2) (i := 2) X 0 rfl rfl d_Model_worth_168 ?_
            refine dk_iconst (v := 1) X (by decide) d_Model_worth_169 ?_
            refine dk_isub X d_Model_worth_170 ?_
            refine dk_iload (i := 4) X 1 rfl d_Model_worth_171 ?_
            refine dk_aload_n (k := 0) (i := 0) X 2 rfl rfl d_Model_worth_173 ?_
            refine dk_get X q_Model 0 49 (by decide) (oM_Model g am S) rfl f_Model_128 d_Model_worth_174 ?_
            refine dk_iload_n (k := 2) (i := 2) X 0 rfl rfl d_Model_worth_177 ?_
            refine dk_iconst (v := 1) X (by decide) d_Model_worth_178 ?_
            refine dk_isub X d_Model_worth_179 ?_
            refine dk_iald X 31 (aM_31 g am S) d_Model_worth_180 hF (fun v7 hF => ?_)
            refine dk_aload_n (k := 0) (i := 0) X 2 rfl rfl d_Model_worth_181 ?_
            refine dk_get X q_Model 0 49 (by decide) (oM_Model g am S) rfl f_Model_128 d_Model_worth_182 ?_
            refine dk_iload_n (k := 2) (i := 2) X 0 rfl rfl d_Model_worth_185 ?_
            refine dk_iald X 31 (aM_31 g am S) d_Model_worth_186 hF (fun v8 hF => ?_)
            refine dk_callSi X v_Model_two [.int v6, .int v7, .int v8] (c_Model_two l g am n v6 v7 v8 S) m_Model_232 rfl rfl ⟨rfl, rfl, Nat.le_of_ble_eq_true rfl, Nat.le_of_ble_eq_true rfl, Nat.le_refl _, Nat.le_refl _⟩ (Nat.le_of_ble_eq_true rfl) d_Model_worth_187 hF (fun r10 S9 hF => ?_)
            refine dk_iast X 31 (aM_31 g am S9) (sM_31 g am S9 _ _) d_Model_worth_190 hF (fun S11 hF => ?_)
            exact dk_sub [2, 3, 0, 4] rfl (kb_Model_worth_191 (n := n) X hR hk16  hF)
          · refine dk_aload_n (k := 0) (i := 0) X 1 rfl rfl d_Model_worth_141 ?_
            refine dk_get X q_Model 0 49 (by decide) (oM_Model g am S) rfl f_Model_128 d_Model_worth_142 ?_
            refine dk_iload_n (k := 2) (i := 2) X 3 rfl rfl d_Model_worth_145 ?_
            refine dk_iconst (v := 1) X (by decide) d_Model_worth_146 ?_
            refine dk_isub X d_Model_worth_147 ?_
            refine dk_aload_n (k := 0) (i := 0) X 1 rfl rfl d_Model_worth_148 ?_
            refine dk_get X q_Model 0 49 (by decide) (oM_Model g am S) rfl f_Model_128 d_Model_worth_149 ?_
            refine dk_iload_n (k := 2) (i := 2) X 3 rfl rfl d_Model_worth_152 ?_
            refine dk_iconst (v := 1) X (by decide) d_Model_worth_153 ?_
            refine dk_isub X d_Model_worth_154 ?_
            refine dk_iald X 31 (aM_31 g am S) d_Model_worth_155 hF (fun v12 hF => ?_)
            refine dk_ineg X d_Model_worth_156 ?_
            refine dk_iast X 31 (aM_31 g am S) (sM_31 g am S _ _) d_Model_worth_157 hF (fun S13 hF => ?_)
            refine dk_goto (tgt := 191) X (by decide) d_Model_worth_158 ?_
            exact dk_sub [1, 2, 3, 4] rfl (kb_Model_worth_191 (n := n) X hR hk16  hF)
        · refine dk_aload_n (k := 0) (i := 0) X 1 rfl rfl d_Model_worth_107 ?_
          refine dk_get X q_Model 0 49 (by decide) (oM_Model g am S) rfl f_Model_128 d_Model_worth_108 ?_
          refine dk_iload_n (k := 2) (i := 2) X 3 rfl rfl d_Model_worth_111 ?_
          refine dk_iconst (v := 1) X (by decide) d_Model_worth_112 ?_
          refine dk_isub X d_Model_worth_113 ?_
          refine dk_aload_n (k := 0) (i := 0) X 1 rfl rfl d_Model_worth_114 ?_
          refine dk_get X q_Model 0 49 (by decide) (oM_Model g am S) rfl f_Model_128 d_Model_worth_115 ?_
          refine dk_iload_n (k := 2) (i := 2) X 3 rfl rfl d_Model_worth_118 ?_
          refine dk_iconst (v := 1) X (by decide) d_Model_worth_119 ?_
          refine dk_isub X d_Model_worth_120 ?_
          refine dk_iald X 31 (aM_31 g am S) d_Model_worth_121 hF (fun v14 hF => ?_)
          refine dk_if_ne (tgt := 129) X (by decide) d_Model_worth_122 hF (fun hF => ?_) (fun hF => ?_)
          · refine dk_iconst (v := 0) X (by decide) d_Model_worth_129 ?_
            exact dk_sub [1, 2, 3, 4] rfl (kb_Model_worth_130 (n := n) X hR hk16  hF)
          · refine dk_iconst (v := 1) X (by decide) d_Model_worth_125 ?_
            refine dk_goto (tgt := 130) X (by decide) d_Model_worth_126 ?_
            exact dk_sub [1, 2, 3, 4] rfl (kb_Model_worth_130 (n := n) X hR hk16  hF)
      · exact dk_sub [1, 2, 3, 4, 0] rfl (kb_Model_worth_66 (n := n) X hR hk16  hF)
def B_Model_worth_16 (n : Nat)  : Nat → Int32 → Int32 → Int32 → dk_S → Option (Int32 × dk_S)
  | 0 => fun _ _ _ _ => none
  | q + 1 => fun x1 x2 x3 S => B_Model_worth_16b n (fun x1 x2 x3 S => B_Model_worth_16 n  q x1 x2 x3 S) x1 x2 x3 S
theorem kb_Model_worth_16 {p : Program} {l : Launch} {e : Env} {s : State} {m : MethodId} {args : Array Value} {below : List Frame} {meth : Method} {c : Code} {g : dk_G} {A : Nat → Prop} {Q : State → Prop} {am : Nat → Nat} {n : Nat} {res : (Int32 × dk_S)} (X : dk_X p s m args meth c b_Model_worth 5 R_Model (some .int) g A) (hR : dk_Ri p l e rm_Model_worth s m args below meth c g A Q 5 b_Model_worth (some .int) (wM g am) res)  : ∀ (q : Nat) (x1 : Int32) (x2 : Int32) (x3 : Int32)  (S : dk_S), B_Model_worth_16 n  q x1 x2 x3 S = some res → dk_J p l e rm_Model_worth s m args below meth c g A Q 5 0 0 16 [(0, .ref (am 0)), (1, .int x1), (2, .int x2), (3, .int x3)] [] (wM g am S) := by
  intro q
  induction q with
  | zero => intro x1 x2 x3  S hF; cases hF
  | succ q ih => intro x1 x2 x3  S hF; exact kb_Model_worth_16b (n := n) X hR ih  hF
def B_Model_worth_0 (n : Nat)  (x1 : Int32) (S : dk_S) : Option (Int32 × dk_S) :=
  dk_r 24 (S 15) (((4 : Int32) * (S 17 0)) + x1) fun v15 => B_Model_worth_16 n  n x1 (0 : Int32) v15 S
set_option maxRecDepth 20000 in
theorem kb_Model_worth_0 {p : Program} {l : Launch} {e : Env} {s : State} {m : MethodId} {args : Array Value} {below : List Frame} {meth : Method} {c : Code} {g : dk_G} {A : Nat → Prop} {Q : State → Prop} {am : Nat → Nat} {n : Nat} {res : (Int32 × dk_S)} (X : dk_X p s m args meth c b_Model_worth 5 R_Model (some .int) g A) (hR : dk_Ri p l e rm_Model_worth s m args below meth c g A Q 5 b_Model_worth (some .int) (wM g am) res)  {x1 : Int32} {S : dk_S}  (hF : B_Model_worth_0 n  x1 S = some res) : dk_J p l e rm_Model_worth s m args below meth c g A Q 5 0 0 0 [(0, .ref (am 0)), (1, .int x1)] [] (wM g am S) := by
  unfold B_Model_worth_0 at hF
  refine dk_iconst (v := 0) X (by decide) d_Model_worth_0 ?_
  refine dk_istore_n (k := 2) (i := 2) (lv' := [(2, .int (0 : Int32)), (0, .ref (am 0)), (1, .int x1)]) X rfl (by decide) rfl d_Model_worth_1 ?_
  refine dk_aload_n (k := 0) (i := 0) X 1 rfl rfl d_Model_worth_2 ?_
  refine dk_get X q_Model 0 15 (by decide) (oM_Model g am S) rfl f_Model_43 d_Model_worth_3 ?_
  refine dk_iconst (v := 4) X (by decide) d_Model_worth_6 ?_
  refine dk_aload_n (k := 0) (i := 0) X 1 rfl rfl d_Model_worth_7 ?_
  refine dk_get X q_Model 0 17 (by decide) (oM_Model g am S) rfl f_Model_229 d_Model_worth_8 ?_
  refine dk_imul X d_Model_worth_11 ?_
  refine dk_iload_n (k := 1) (i := 1) X 2 rfl rfl d_Model_worth_12 ?_
  refine dk_iadd X d_Model_worth_13 ?_
  refine dk_iald X 12 (aM_12 g am S) d_Model_worth_14 hF (fun v15 hF => ?_)
  refine dk_istore_n (k := 3) (i := 3) (lv' := [(3, .int v15), (2, .int (0 : Int32)), (0, .ref (am 0)), (1, .int x1)]) X rfl (by decide) rfl d_Model_worth_15 ?_
  exact dk_sub [2, 3, 1, 0] rfl (kb_Model_worth_16 (n := n) X hR  n x1 (0 : Int32) v15 S hF)
def F_Model_worth (n : Nat) (x1 : Int32) (S : dk_S) : Option (Int32 × dk_S) := B_Model_worth_0 n x1 S
theorem c_Model_worth (l : Launch) (g : dk_G) (am : Nat → Nat) (n : Nat) (x1 : Int32)  (S : dk_S) : dk_Mi l g y_Model_worth b_Model_worth 5 rm_Model_worth (some .int) [.ref (am 0), .int x1] (wM g am) S (F_Model_worth n x1 S) := dk_enteri (by decide) (Nat.le_of_ble_eq_true rfl) (fun p e s m args below meth c A Q res hF X hR => (kb_Model_worth_0 (n := n) X hR  hF))
abbrev b_Model_mayFollow : ByteArray := prog_11_method_32_code
def y_Model_mayFollow : MethodName := ⟨R_Model, "mayFollow", "(III)Z"⟩
theorem d_Model_mayFollow_0 : decode b_Model_mayFollow 0 = .ok (.aload_n 0, 1) := by decide +kernel
theorem d_Model_mayFollow_1 : decode b_Model_mayFollow 1 = .ok (.iconst (-1), 1) := by decide +kernel
theorem d_Model_mayFollow_2 : decode b_Model_mayFollow 2 = .ok (.iconst 0, 1) := by decide +kernel
theorem d_Model_mayFollow_3 : decode b_Model_mayFollow 3 = .ok (.aload_n 0, 1) := by decide +kernel
theorem d_Model_mayFollow_4 : decode b_Model_mayFollow 4 = .ok (.getfield 7, 3) := by decide +kernel
theorem d_Model_mayFollow_7 : decode b_Model_mayFollow 7 = .ok (.iload_n 2, 1) := by decide +kernel
theorem d_Model_mayFollow_8 : decode b_Model_mayFollow 8 = .ok (.iaload, 1) := by decide +kernel
theorem d_Model_mayFollow_9 : decode b_Model_mayFollow 9 = .ok (.iconst 1, 1) := by decide +kernel
theorem d_Model_mayFollow_10 : decode b_Model_mayFollow 10 = .ok (.iadd, 1) := by decide +kernel
theorem d_Model_mayFollow_11 : decode b_Model_mayFollow 11 = .ok (.aload_n 0, 1) := by decide +kernel
theorem d_Model_mayFollow_12 : decode b_Model_mayFollow 12 = .ok (.getfield 7, 3) := by decide +kernel
theorem d_Model_mayFollow_15 : decode b_Model_mayFollow 15 = .ok (.iload_n 2, 1) := by decide +kernel
theorem d_Model_mayFollow_16 : decode b_Model_mayFollow 16 = .ok (.iaload, 1) := by decide +kernel
theorem d_Model_mayFollow_17 : decode b_Model_mayFollow 17 = .ok (.iload_n 1, 1) := by decide +kernel
theorem d_Model_mayFollow_18 : decode b_Model_mayFollow 18 = .ok (.if_icmp .ne 7, 3) := by decide +kernel
theorem d_Model_mayFollow_21 : decode b_Model_mayFollow 21 = .ok (.iconst 1, 1) := by decide +kernel
theorem d_Model_mayFollow_22 : decode b_Model_mayFollow 22 = .ok (.goto 4, 3) := by decide +kernel
theorem d_Model_mayFollow_25 : decode b_Model_mayFollow 25 = .ok (.iconst 0, 1) := by decide +kernel
theorem d_Model_mayFollow_26 : decode b_Model_mayFollow 26 = .ok (.iload_n 3, 1) := by decide +kernel
theorem d_Model_mayFollow_27 : decode b_Model_mayFollow 27 = .ok (.iload_n 1, 1) := by decide +kernel
theorem d_Model_mayFollow_28 : decode b_Model_mayFollow 28 = .ok (.invokevirtual 236, 3) := by decide +kernel
theorem d_Model_mayFollow_31 : decode b_Model_mayFollow 31 = .ok (.aload_n 0, 1) := by decide +kernel
theorem d_Model_mayFollow_32 : decode b_Model_mayFollow 32 = .ok (.iconst 1, 1) := by decide +kernel
theorem d_Model_mayFollow_33 : decode b_Model_mayFollow 33 = .ok (.invokevirtual 240, 3) := by decide +kernel
theorem d_Model_mayFollow_36 : decode b_Model_mayFollow 36 = .ok (.ifCond .eq 7, 3) := by decide +kernel
theorem d_Model_mayFollow_39 : decode b_Model_mayFollow 39 = .ok (.iconst 1, 1) := by decide +kernel
theorem d_Model_mayFollow_40 : decode b_Model_mayFollow 40 = .ok (.goto 4, 3) := by decide +kernel
theorem d_Model_mayFollow_43 : decode b_Model_mayFollow 43 = .ok (.iconst 0, 1) := by decide +kernel
theorem d_Model_mayFollow_44 : decode b_Model_mayFollow 44 = .ok (.ireturn, 1) := by decide +kernel
theorem v_Model_mayFollow : dk_Yv y_Model_mayFollow b_Model_mayFollow 4 (some .boolean) 3 := ⟨dk_in (List.mem_of_getElem? (i := 1225) (by decide +kernel)) rfl, dk_in (List.mem_of_getElem? (i := 46) (by decide +kernel)) rfl, dk_in (List.mem_of_getElem? (i := 75) (by decide +kernel)) rfl, dk_in (List.mem_of_getElem? (i := 1226) (by decide +kernel)) rfl, by decide +kernel, by decide +kernel, by decide +kernel⟩
abbrev rm_Model_mayFollow : Room := { frames := 2, cells := 0, slots := 0, locals := 46 }
theorem m_Model_236 : Cond.methodLink R_Model 236 y_Model_names ∈ dk_tb := dk_in (List.mem_of_getElem? (i := 1227) (by decide +kernel)) rfl
theorem m_Model_240 : Cond.methodLink R_Model 240 y_Model_worth ∈ dk_tb := dk_in (List.mem_of_getElem? (i := 1231) (by decide +kernel)) rfl
def B_Model_mayFollow_26 (n : Nat)  (x1 : Int32) (x3 : Int32) (u1 : Int32) (u2 : Int32) (u3 : Int32) (u4 : Int32) (S : dk_S) : Option (Int32 × dk_S) :=
  dk_cv (F_Model_names n u1 u2 u3 u4 x3 x1 S) fun S1 => dk_c (F_Model_worth n (1 : Int32) S1) fun r4 S3 => if r4 = 0 then (dk_b (0 : Int32) (some ((0 : Int32), S3))) else (dk_b (1 : Int32) (some ((1 : Int32), S3)))
set_option maxRecDepth 20000 in
theorem kb_Model_mayFollow_26 {p : Program} {l : Launch} {e : Env} {s : State} {m : MethodId} {args : Array Value} {below : List Frame} {meth : Method} {c : Code} {g : dk_G} {A : Nat → Prop} {Q : State → Prop} {am : Nat → Nat} {n : Nat} {res : (Int32 × dk_S)} (X : dk_X p s m args meth c b_Model_mayFollow 4 R_Model (some .boolean) g A) (hR : dk_Ri p l e rm_Model_mayFollow s m args below meth c g A Q 4 b_Model_mayFollow (some .boolean) (wM g am) res)  {x1 : Int32} {x3 : Int32} {u1 : Int32} {u2 : Int32} {u3 : Int32} {u4 : Int32} {S : dk_S}  (hF : B_Model_mayFollow_26 n  x1 x3 u1 u2 u3 u4 S = some res) : dk_J p l e rm_Model_mayFollow s m args below meth c g A Q 4 0 0 26 [(0, .ref (am 0)), (1, .int x1), (3, .int x3)] [.int u4, .int u3, .int u2, .int u1, .ref (am 0)] (wM g am S) := by
  unfold B_Model_mayFollow_26 at hF
  refine dk_iload_n (k := 3) (i := 3) X 2 rfl rfl d_Model_mayFollow_26 ?_
  refine dk_iload_n (k := 1) (i := 1) X 1 rfl rfl d_Model_mayFollow_27 ?_
  refine dk_callVv X v_Model_names [.int u1, .int u2, .int u3, .int u4, .int x3, .int x1] (c_Model_names l g am n u1 u2 u3 u4 x3 x1 S) 0 (oM_Model g am S) rfl rfl m_Model_236 rfl rfl ⟨rfl, rfl, Nat.le_of_ble_eq_true rfl, Nat.le_of_ble_eq_true rfl, Nat.le_refl _, Nat.le_refl _⟩ (Nat.le_of_ble_eq_true rfl) d_Model_mayFollow_28 hF (fun S1 hF => ?_)
  refine dk_aload_n (k := 0) (i := 0) X 0 rfl rfl d_Model_mayFollow_31 ?_
  refine dk_iconst (v := 1) X (by decide) d_Model_mayFollow_32 ?_
  refine dk_callVi X v_Model_worth [.int (1 : Int32)] (c_Model_worth l g am n (1 : Int32) S1) 0 (oM_Model g am S1) rfl rfl m_Model_240 rfl rfl ⟨rfl, rfl, Nat.le_of_ble_eq_true rfl, Nat.le_of_ble_eq_true rfl, Nat.le_refl _, Nat.le_refl _⟩ (Nat.le_of_ble_eq_true rfl) d_Model_mayFollow_33 hF (fun r4 S3 hF => ?_)
  refine dk_if_eq (tgt := 43) X (by decide) d_Model_mayFollow_36 hF (fun hF => ?_) (fun hF => ?_)
  · refine dk_iconst (v := 0) X (by decide) d_Model_mayFollow_43 ?_
    exact dk_retz hR hF d_Model_mayFollow_44
  · refine dk_iconst (v := 1) X (by decide) d_Model_mayFollow_39 ?_
    refine dk_goto (tgt := 44) X (by decide) d_Model_mayFollow_40 ?_
    exact dk_retz hR hF d_Model_mayFollow_44
def B_Model_mayFollow_0 (n : Nat)  (x1 : Int32) (x2 : Int32) (x3 : Int32) (S : dk_S) : Option (Int32 × dk_S) :=
  dk_r 8 (S 1) x2 fun v5 => dk_r 8 (S 1) x2 fun v6 => if ¬ v6 = x1 then (B_Model_mayFollow_26 n  x1 x3 (-1 : Int32) (0 : Int32) (v5 + (1 : Int32)) (0 : Int32) S) else (B_Model_mayFollow_26 n  x1 x3 (-1 : Int32) (0 : Int32) (v5 + (1 : Int32)) (1 : Int32) S)
set_option maxRecDepth 20000 in
theorem kb_Model_mayFollow_0 {p : Program} {l : Launch} {e : Env} {s : State} {m : MethodId} {args : Array Value} {below : List Frame} {meth : Method} {c : Code} {g : dk_G} {A : Nat → Prop} {Q : State → Prop} {am : Nat → Nat} {n : Nat} {res : (Int32 × dk_S)} (X : dk_X p s m args meth c b_Model_mayFollow 4 R_Model (some .boolean) g A) (hR : dk_Ri p l e rm_Model_mayFollow s m args below meth c g A Q 4 b_Model_mayFollow (some .boolean) (wM g am) res)  {x1 : Int32} {x2 : Int32} {x3 : Int32} {S : dk_S}  (hF : B_Model_mayFollow_0 n  x1 x2 x3 S = some res) : dk_J p l e rm_Model_mayFollow s m args below meth c g A Q 4 0 0 0 [(0, .ref (am 0)), (1, .int x1), (2, .int x2), (3, .int x3)] [] (wM g am S) := by
  unfold B_Model_mayFollow_0 at hF
  refine dk_aload_n (k := 0) (i := 0) X 0 rfl rfl d_Model_mayFollow_0 ?_
  refine dk_iconst (v := -1) X (by decide) d_Model_mayFollow_1 ?_
  refine dk_iconst (v := 0) X (by decide) d_Model_mayFollow_2 ?_
  refine dk_aload_n (k := 0) (i := 0) X 0 rfl rfl d_Model_mayFollow_3 ?_
  refine dk_get X q_Model 0 1 (by decide) (oM_Model g am S) rfl f_Model_7 d_Model_mayFollow_4 ?_
  refine dk_iload_n (k := 2) (i := 2) X 2 rfl rfl d_Model_mayFollow_7 ?_
  refine dk_iald X 1 (aM_1 g am S) d_Model_mayFollow_8 hF (fun v5 hF => ?_)
  refine dk_iconst (v := 1) X (by decide) d_Model_mayFollow_9 ?_
  refine dk_iadd X d_Model_mayFollow_10 ?_
  refine dk_aload_n (k := 0) (i := 0) X 0 rfl rfl d_Model_mayFollow_11 ?_
  refine dk_get X q_Model 0 1 (by decide) (oM_Model g am S) rfl f_Model_7 d_Model_mayFollow_12 ?_
  refine dk_iload_n (k := 2) (i := 2) X 2 rfl rfl d_Model_mayFollow_15 ?_
  refine dk_iald X 1 (aM_1 g am S) d_Model_mayFollow_16 hF (fun v6 hF => ?_)
  refine dk_iload_n (k := 1) (i := 1) X 1 rfl rfl d_Model_mayFollow_17 ?_
  refine dk_icmp_ne (tgt := 25) X (by decide) d_Model_mayFollow_18 hF (fun hF => ?_) (fun hF => ?_)
  · refine dk_iconst (v := 0) X (by decide) d_Model_mayFollow_25 ?_
    exact dk_sub [0, 1, 3] rfl (kb_Model_mayFollow_26 (n := n) X hR   hF)
  · refine dk_iconst (v := 1) X (by decide) d_Model_mayFollow_21 ?_
    refine dk_goto (tgt := 26) X (by decide) d_Model_mayFollow_22 ?_
    exact dk_sub [0, 1, 3] rfl (kb_Model_mayFollow_26 (n := n) X hR   hF)
def F_Model_mayFollow (n : Nat) (x1 : Int32) (x2 : Int32) (x3 : Int32) (S : dk_S) : Option (Int32 × dk_S) := B_Model_mayFollow_0 n x1 x2 x3 S
theorem c_Model_mayFollow (l : Launch) (g : dk_G) (am : Nat → Nat) (n : Nat) (x1 : Int32) (x2 : Int32) (x3 : Int32)  (S : dk_S) : dk_Mi l g y_Model_mayFollow b_Model_mayFollow 4 rm_Model_mayFollow (some .boolean) [.ref (am 0), .int x1, .int x2, .int x3] (wM g am) S (F_Model_mayFollow n x1 x2 x3 S) := dk_enteri (by decide) (Nat.le_of_ble_eq_true rfl) (fun p e s m args below meth c A Q res hF X hR => (kb_Model_mayFollow_0 (n := n) X hR  hF))
abbrev b_Model_follow : ByteArray := prog_11_method_33_code
def y_Model_follow : MethodName := ⟨R_Model, "follow", "(III)I"⟩
theorem d_Model_follow_0 : decode b_Model_follow 0 = .ok (.iload_n 1, 1) := by decide +kernel
theorem d_Model_follow_1 : decode b_Model_follow 1 = .ok (.iconst 0, 1) := by decide +kernel
theorem d_Model_follow_2 : decode b_Model_follow 2 = .ok (.bipush 9, 2) := by decide +kernel
theorem d_Model_follow_4 : decode b_Model_follow 4 = .ok (.invokestatic 144, 3) := by decide +kernel
theorem d_Model_follow_7 : decode b_Model_follow 7 = .ok (.ifCond .eq 19, 3) := by decide +kernel
theorem d_Model_follow_10 : decode b_Model_follow 10 = .ok (.aload_n 0, 1) := by decide +kernel
theorem d_Model_follow_11 : decode b_Model_follow 11 = .ok (.iload_n 2, 1) := by decide +kernel
theorem d_Model_follow_12 : decode b_Model_follow 12 = .ok (.invokevirtual 154, 3) := by decide +kernel
theorem d_Model_follow_15 : decode b_Model_follow 15 = .ok (.ifCond .eq 11, 3) := by decide +kernel
theorem d_Model_follow_18 : decode b_Model_follow 18 = .ok (.aload_n 0, 1) := by decide +kernel
theorem d_Model_follow_19 : decode b_Model_follow 19 = .ok (.iload_n 3, 1) := by decide +kernel
theorem d_Model_follow_20 : decode b_Model_follow 20 = .ok (.invokevirtual 158, 3) := by decide +kernel
theorem d_Model_follow_23 : decode b_Model_follow 23 = .ok (.ifCond .ne 6, 3) := by decide +kernel
theorem d_Model_follow_26 : decode b_Model_follow 26 = .ok (.bipush (-2), 2) := by decide +kernel
theorem d_Model_follow_28 : decode b_Model_follow 28 = .ok (.ireturn, 1) := by decide +kernel
theorem d_Model_follow_29 : decode b_Model_follow 29 = .ok (.aload_n 0, 1) := by decide +kernel
theorem d_Model_follow_30 : decode b_Model_follow 30 = .ok (.iload_n 1, 1) := by decide +kernel
theorem d_Model_follow_31 : decode b_Model_follow 31 = .ok (.iload_n 2, 1) := by decide +kernel
theorem d_Model_follow_32 : decode b_Model_follow 32 = .ok (.iload_n 3, 1) := by decide +kernel
theorem d_Model_follow_33 : decode b_Model_follow 33 = .ok (.invokevirtual 243, 3) := by decide +kernel
theorem d_Model_follow_36 : decode b_Model_follow 36 = .ok (.ifCond .eq 7, 3) := by decide +kernel
theorem d_Model_follow_39 : decode b_Model_follow 39 = .ok (.iconst 1, 1) := by decide +kernel
theorem d_Model_follow_40 : decode b_Model_follow 40 = .ok (.goto 4, 3) := by decide +kernel
theorem d_Model_follow_43 : decode b_Model_follow 43 = .ok (.iconst 0, 1) := by decide +kernel
theorem d_Model_follow_44 : decode b_Model_follow 44 = .ok (.ireturn, 1) := by decide +kernel
theorem v_Model_follow : dk_Yv y_Model_follow b_Model_follow 4 (some .int) 3 := ⟨dk_in (List.mem_of_getElem? (i := 1220) (by decide +kernel)) rfl, dk_in (List.mem_of_getElem? (i := 1221) (by decide +kernel)) rfl, dk_in (List.mem_of_getElem? (i := 75) (by decide +kernel)) rfl, dk_in (List.mem_of_getElem? (i := 1222) (by decide +kernel)) rfl, by decide +kernel, by decide +kernel, by decide +kernel⟩
abbrev rm_Model_follow : Room := { frames := 3, cells := 0, slots := 0, locals := 69 }
theorem m_Model_243 : Cond.methodLink R_Model 243 y_Model_mayFollow ∈ dk_tb := dk_in (List.mem_of_getElem? (i := 1223) (by decide +kernel)) rfl
def B_Model_follow_0 (n : Nat)  (x1 : Int32) (x2 : Int32) (x3 : Int32) (S : dk_S) : Option (Int32 × dk_S) :=
  dk_c (F_Model_in n x1 (0 : Int32) (9 : Int32) S) fun r2 S1 => if r2 = 0 then (some ((-2 : Int32), S1)) else (dk_c (F_Model_isGround n x2 S1) fun r4 S3 => if r4 = 0 then (some ((-2 : Int32), S3)) else (dk_c (F_Model_isBeast n x3 S3) fun r6 S5 => if ¬ r6 = 0 then (dk_c (F_Model_mayFollow n x1 x2 x3 S5) fun r8 S7 => if r8 = 0 then (some ((0 : Int32), S7)) else (some ((1 : Int32), S7))) else (some ((-2 : Int32), S5))))
set_option maxRecDepth 20000 in
theorem kb_Model_follow_0 {p : Program} {l : Launch} {e : Env} {s : State} {m : MethodId} {args : Array Value} {below : List Frame} {meth : Method} {c : Code} {g : dk_G} {A : Nat → Prop} {Q : State → Prop} {am : Nat → Nat} {n : Nat} {res : (Int32 × dk_S)} (X : dk_X p s m args meth c b_Model_follow 4 R_Model (some .int) g A) (hR : dk_Ri p l e rm_Model_follow s m args below meth c g A Q 4 b_Model_follow (some .int) (wM g am) res)  {x1 : Int32} {x2 : Int32} {x3 : Int32} {S : dk_S}  (hF : B_Model_follow_0 n  x1 x2 x3 S = some res) : dk_J p l e rm_Model_follow s m args below meth c g A Q 4 0 0 0 [(0, .ref (am 0)), (1, .int x1), (2, .int x2), (3, .int x3)] [] (wM g am S) := by
  unfold B_Model_follow_0 at hF
  refine dk_iload_n (k := 1) (i := 1) X 1 rfl rfl d_Model_follow_0 ?_
  refine dk_iconst (v := 0) X (by decide) d_Model_follow_1 ?_
  refine dk_bipush (v := 9) X (by decide) d_Model_follow_2 ?_
  refine dk_callSi X v_Model_in [.int x1, .int (0 : Int32), .int (9 : Int32)] (c_Model_in l g am n x1 (0 : Int32) (9 : Int32) S) m_Model_144 rfl rfl ⟨rfl, rfl, Nat.le_of_ble_eq_true rfl, Nat.le_of_ble_eq_true rfl, Nat.le_refl _, Nat.le_refl _⟩ (Nat.le_of_ble_eq_true rfl) d_Model_follow_4 hF (fun r2 S1 hF => ?_)
  refine dk_if_eq (tgt := 26) X (by decide) d_Model_follow_7 hF (fun hF => ?_) (fun hF => ?_)
  · refine dk_bipush (v := -2) X (by decide) d_Model_follow_26 ?_
    exact dk_reti hR hF d_Model_follow_28
  · refine dk_aload_n (k := 0) (i := 0) X 0 rfl rfl d_Model_follow_10 ?_
    refine dk_iload_n (k := 2) (i := 2) X 2 rfl rfl d_Model_follow_11 ?_
    refine dk_callVi X v_Model_isGround [.int x2] (c_Model_isGround l g am n x2 S1) 0 (oM_Model g am S1) rfl rfl m_Model_154 rfl rfl ⟨rfl, rfl, Nat.le_of_ble_eq_true rfl, Nat.le_of_ble_eq_true rfl, Nat.le_refl _, Nat.le_refl _⟩ (Nat.le_of_ble_eq_true rfl) d_Model_follow_12 hF (fun r4 S3 hF => ?_)
    refine dk_if_eq (tgt := 26) X (by decide) d_Model_follow_15 hF (fun hF => ?_) (fun hF => ?_)
    · refine dk_bipush (v := -2) X (by decide) d_Model_follow_26 ?_
      exact dk_reti hR hF d_Model_follow_28
    · refine dk_aload_n (k := 0) (i := 0) X 0 rfl rfl d_Model_follow_18 ?_
      refine dk_iload_n (k := 3) (i := 3) X 3 rfl rfl d_Model_follow_19 ?_
      refine dk_callVi X v_Model_isBeast [.int x3] (c_Model_isBeast l g am n x3 S3) 0 (oM_Model g am S3) rfl rfl m_Model_158 rfl rfl ⟨rfl, rfl, Nat.le_of_ble_eq_true rfl, Nat.le_of_ble_eq_true rfl, Nat.le_refl _, Nat.le_refl _⟩ (Nat.le_of_ble_eq_true rfl) d_Model_follow_20 hF (fun r6 S5 hF => ?_)
      refine dk_if_ne (tgt := 29) X (by decide) d_Model_follow_23 hF (fun hF => ?_) (fun hF => ?_)
      · refine dk_aload_n (k := 0) (i := 0) X 0 rfl rfl d_Model_follow_29 ?_
        refine dk_iload_n (k := 1) (i := 1) X 1 rfl rfl d_Model_follow_30 ?_
        refine dk_iload_n (k := 2) (i := 2) X 2 rfl rfl d_Model_follow_31 ?_
        refine dk_iload_n (k := 3) (i := 3) X 3 rfl rfl d_Model_follow_32 ?_
        refine dk_callVi X v_Model_mayFollow [.int x1, .int x2, .int x3] (c_Model_mayFollow l g am n x1 x2 x3 S5) 0 (oM_Model g am S5) rfl rfl m_Model_243 rfl rfl ⟨rfl, rfl, Nat.le_of_ble_eq_true rfl, Nat.le_of_ble_eq_true rfl, Nat.le_refl _, Nat.le_refl _⟩ (Nat.le_of_ble_eq_true rfl) d_Model_follow_33 hF (fun r8 S7 hF => ?_)
        refine dk_if_eq (tgt := 43) X (by decide) d_Model_follow_36 hF (fun hF => ?_) (fun hF => ?_)
        · refine dk_iconst (v := 0) X (by decide) d_Model_follow_43 ?_
          exact dk_reti hR hF d_Model_follow_44
        · refine dk_iconst (v := 1) X (by decide) d_Model_follow_39 ?_
          refine dk_goto (tgt := 44) X (by decide) d_Model_follow_40 ?_
          exact dk_reti hR hF d_Model_follow_44
      · refine dk_bipush (v := -2) X (by decide) d_Model_follow_26 ?_
        exact dk_reti hR hF d_Model_follow_28
def F_Model_follow (n : Nat) (x1 : Int32) (x2 : Int32) (x3 : Int32) (S : dk_S) : Option (Int32 × dk_S) := B_Model_follow_0 n x1 x2 x3 S
theorem c_Model_follow (l : Launch) (g : dk_G) (am : Nat → Nat) (n : Nat) (x1 : Int32) (x2 : Int32) (x3 : Int32)  (S : dk_S) : dk_Mi l g y_Model_follow b_Model_follow 4 rm_Model_follow (some .int) [.ref (am 0), .int x1, .int x2, .int x3] (wM g am) S (F_Model_follow n x1 x2 x3 S) := dk_enteri (by decide) (Nat.le_of_ble_eq_true rfl) (fun p e s m args below meth c A Q res hF X hR => (kb_Model_follow_0 (n := n) X hR  hF))
abbrev b_Model_makes : ByteArray := prog_11_method_34_code
def y_Model_makes : MethodName := ⟨R_Model, "makes", "(IIIIII)V"⟩
theorem d_Model_makes_0 : decode b_Model_makes 0 = .ok (.aload_n 0, 1) := by decide +kernel
theorem d_Model_makes_1 : decode b_Model_makes 1 = .ok (.getfield 50, 3) := by decide +kernel
theorem d_Model_makes_4 : decode b_Model_makes 4 = .ok (.aload_n 0, 1) := by decide +kernel
theorem d_Model_makes_5 : decode b_Model_makes 5 = .ok (.getfield 246, 3) := by decide +kernel
theorem d_Model_makes_8 : decode b_Model_makes 8 = .ok (.iload_n 1, 1) := by decide +kernel
theorem d_Model_makes_9 : decode b_Model_makes 9 = .ok (.iastore, 1) := by decide +kernel
theorem d_Model_makes_10 : decode b_Model_makes 10 = .ok (.aload_n 0, 1) := by decide +kernel
theorem d_Model_makes_11 : decode b_Model_makes 11 = .ok (.getfield 53, 3) := by decide +kernel
theorem d_Model_makes_14 : decode b_Model_makes 14 = .ok (.aload_n 0, 1) := by decide +kernel
theorem d_Model_makes_15 : decode b_Model_makes 15 = .ok (.getfield 246, 3) := by decide +kernel
theorem d_Model_makes_18 : decode b_Model_makes 18 = .ok (.iload_n 2, 1) := by decide +kernel
theorem d_Model_makes_19 : decode b_Model_makes 19 = .ok (.iastore, 1) := by decide +kernel
theorem d_Model_makes_20 : decode b_Model_makes 20 = .ok (.aload_n 0, 1) := by decide +kernel
theorem d_Model_makes_21 : decode b_Model_makes 21 = .ok (.getfield 56, 3) := by decide +kernel
theorem d_Model_makes_24 : decode b_Model_makes 24 = .ok (.aload_n 0, 1) := by decide +kernel
theorem d_Model_makes_25 : decode b_Model_makes 25 = .ok (.getfield 246, 3) := by decide +kernel
theorem d_Model_makes_28 : decode b_Model_makes 28 = .ok (.iload_n 3, 1) := by decide +kernel
theorem d_Model_makes_29 : decode b_Model_makes 29 = .ok (.iastore, 1) := by decide +kernel
theorem d_Model_makes_30 : decode b_Model_makes 30 = .ok (.aload_n 0, 1) := by decide +kernel
theorem d_Model_makes_31 : decode b_Model_makes 31 = .ok (.getfield 59, 3) := by decide +kernel
theorem d_Model_makes_34 : decode b_Model_makes 34 = .ok (.aload_n 0, 1) := by decide +kernel
theorem d_Model_makes_35 : decode b_Model_makes 35 = .ok (.getfield 246, 3) := by decide +kernel
theorem d_Model_makes_38 : decode b_Model_makes 38 = .ok (.iload 4, 2) := by decide +kernel
theorem d_Model_makes_40 : decode b_Model_makes 40 = .ok (.iastore, 1) := by decide +kernel
theorem d_Model_makes_41 : decode b_Model_makes 41 = .ok (.aload_n 0, 1) := by decide +kernel
theorem d_Model_makes_42 : decode b_Model_makes 42 = .ok (.getfield 62, 3) := by decide +kernel
theorem d_Model_makes_45 : decode b_Model_makes 45 = .ok (.aload_n 0, 1) := by decide +kernel
theorem d_Model_makes_46 : decode b_Model_makes 46 = .ok (.getfield 246, 3) := by decide +kernel
theorem d_Model_makes_49 : decode b_Model_makes 49 = .ok (.iload 5, 2) := by decide +kernel
theorem d_Model_makes_51 : decode b_Model_makes 51 = .ok (.iastore, 1) := by decide +kernel
theorem d_Model_makes_52 : decode b_Model_makes 52 = .ok (.aload_n 0, 1) := by decide +kernel
theorem d_Model_makes_53 : decode b_Model_makes 53 = .ok (.getfield 65, 3) := by decide +kernel
theorem d_Model_makes_56 : decode b_Model_makes 56 = .ok (.aload_n 0, 1) := by decide +kernel
theorem d_Model_makes_57 : decode b_Model_makes 57 = .ok (.getfield 246, 3) := by decide +kernel
theorem d_Model_makes_60 : decode b_Model_makes 60 = .ok (.iload 6, 2) := by decide +kernel
theorem d_Model_makes_62 : decode b_Model_makes 62 = .ok (.iastore, 1) := by decide +kernel
theorem d_Model_makes_63 : decode b_Model_makes 63 = .ok (.aload_n 0, 1) := by decide +kernel
theorem d_Model_makes_64 : decode b_Model_makes 64 = .ok (.getfield 68, 3) := by decide +kernel
theorem d_Model_makes_67 : decode b_Model_makes 67 = .ok (.aload_n 0, 1) := by decide +kernel
theorem d_Model_makes_68 : decode b_Model_makes 68 = .ok (.getfield 246, 3) := by decide +kernel
theorem d_Model_makes_71 : decode b_Model_makes 71 = .ok (.iconst (-1), 1) := by decide +kernel
theorem d_Model_makes_72 : decode b_Model_makes 72 = .ok (.iastore, 1) := by decide +kernel
theorem d_Model_makes_73 : decode b_Model_makes 73 = .ok (.aload_n 0, 1) := by decide +kernel
theorem d_Model_makes_74 : decode b_Model_makes 74 = .ok (.getfield 71, 3) := by decide +kernel
theorem d_Model_makes_77 : decode b_Model_makes 77 = .ok (.aload_n 0, 1) := by decide +kernel
theorem d_Model_makes_78 : decode b_Model_makes 78 = .ok (.getfield 246, 3) := by decide +kernel
theorem d_Model_makes_81 : decode b_Model_makes 81 = .ok (.iconst 0, 1) := by decide +kernel
theorem d_Model_makes_82 : decode b_Model_makes 82 = .ok (.bastore, 1) := by decide +kernel
theorem d_Model_makes_83 : decode b_Model_makes 83 = .ok (.aload_n 0, 1) := by decide +kernel
theorem d_Model_makes_84 : decode b_Model_makes 84 = .ok (.dup, 1) := by decide +kernel
theorem d_Model_makes_85 : decode b_Model_makes 85 = .ok (.getfield 246, 3) := by decide +kernel
theorem d_Model_makes_88 : decode b_Model_makes 88 = .ok (.iconst 1, 1) := by decide +kernel
theorem d_Model_makes_89 : decode b_Model_makes 89 = .ok (.iadd, 1) := by decide +kernel
theorem d_Model_makes_90 : decode b_Model_makes 90 = .ok (.putfield 246, 3) := by decide +kernel
theorem d_Model_makes_93 : decode b_Model_makes 93 = .ok (.return_, 1) := by decide +kernel
theorem v_Model_makes : dk_Yv y_Model_makes b_Model_makes 7 (none) 6 := ⟨dk_in (List.mem_of_getElem? (i := 1248) (by decide +kernel)) rfl, dk_in (List.mem_of_getElem? (i := 50) (by decide +kernel)) rfl, dk_in (List.mem_of_getElem? (i := 75) (by decide +kernel)) rfl, dk_in (List.mem_of_getElem? (i := 1249) (by decide +kernel)) rfl, by decide +kernel, by decide +kernel, by decide +kernel⟩
abbrev rm_Model_makes : Room := { frames := 0, cells := 0, slots := 0, locals := 0 }
theorem f_Model_246 : Cond.fieldLink R_Model 246 (T_Model 18).1 (T_Model 18).2.1 (T_Model 18).2.2.1 ∈ dk_tb := dk_in (List.mem_of_getElem? (i := 982) (by decide +kernel)) rfl
theorem f_Model_50 : Cond.fieldLink R_Model 50 (T_Model 19).1 (T_Model 19).2.1 (T_Model 19).2.2.1 ∈ dk_tb := dk_in (List.mem_of_getElem? (i := 983) (by decide +kernel)) rfl
theorem f_Model_53 : Cond.fieldLink R_Model 53 (T_Model 20).1 (T_Model 20).2.1 (T_Model 20).2.2.1 ∈ dk_tb := dk_in (List.mem_of_getElem? (i := 984) (by decide +kernel)) rfl
theorem f_Model_56 : Cond.fieldLink R_Model 56 (T_Model 21).1 (T_Model 21).2.1 (T_Model 21).2.2.1 ∈ dk_tb := dk_in (List.mem_of_getElem? (i := 985) (by decide +kernel)) rfl
theorem f_Model_59 : Cond.fieldLink R_Model 59 (T_Model 22).1 (T_Model 22).2.1 (T_Model 22).2.2.1 ∈ dk_tb := dk_in (List.mem_of_getElem? (i := 986) (by decide +kernel)) rfl
theorem f_Model_62 : Cond.fieldLink R_Model 62 (T_Model 23).1 (T_Model 23).2.1 (T_Model 23).2.2.1 ∈ dk_tb := dk_in (List.mem_of_getElem? (i := 987) (by decide +kernel)) rfl
theorem f_Model_65 : Cond.fieldLink R_Model 65 (T_Model 24).1 (T_Model 24).2.1 (T_Model 24).2.2.1 ∈ dk_tb := dk_in (List.mem_of_getElem? (i := 988) (by decide +kernel)) rfl
theorem f_Model_68 : Cond.fieldLink R_Model 68 (T_Model 25).1 (T_Model 25).2.1 (T_Model 25).2.2.1 ∈ dk_tb := dk_in (List.mem_of_getElem? (i := 989) (by decide +kernel)) rfl
theorem f_Model_71 : Cond.fieldLink R_Model 71 (T_Model 26).1 (T_Model 26).2.1 (T_Model 26).2.2.1 ∈ dk_tb := dk_in (List.mem_of_getElem? (i := 990) (by decide +kernel)) rfl
def B_Model_makes_0 (n : Nat)  (x1 : Int32) (x2 : Int32) (x3 : Int32) (x4 : Int32) (x5 : Int32) (x6 : Int32) (S : dk_S) : Option dk_S :=
  dk_w S 19 44 (S 18 0) x1 fun S1 => dk_w S1 20 44 (S1 18 0) x2 fun S2 => dk_w S2 21 44 (S2 18 0) x3 fun S3 => dk_w S3 22 44 (S3 18 0) x4 fun S4 => dk_w S4 23 44 (S4 18 0) x5 fun S5 => dk_w S5 24 44 (S5 18 0) x6 fun S6 => dk_w S6 25 44 (S6 18 0) (-1 : Int32) fun S7 => dk_w S7 26 44 (S7 18 0) (vp_nar .boolean (0 : Int32)) fun S8 => dk_p S8 18 ((S8 18 0) + (1 : Int32)) fun S9 => some S9
set_option maxRecDepth 20000 in
theorem kb_Model_makes_0 {p : Program} {l : Launch} {e : Env} {s : State} {m : MethodId} {args : Array Value} {below : List Frame} {meth : Method} {c : Code} {g : dk_G} {A : Nat → Prop} {Q : State → Prop} {am : Nat → Nat} {n : Nat} {res : dk_S} (X : dk_X p s m args meth c b_Model_makes 7 R_Model (none) g A) (hR : dk_Rv p l e rm_Model_makes s m args below meth c g A Q 7 b_Model_makes (none) (wM g am) res)  {x1 : Int32} {x2 : Int32} {x3 : Int32} {x4 : Int32} {x5 : Int32} {x6 : Int32} {S : dk_S}  (hF : B_Model_makes_0 n  x1 x2 x3 x4 x5 x6 S = some res) : dk_J p l e rm_Model_makes s m args below meth c g A Q 7 0 0 0 [(0, .ref (am 0)), (1, .int x1), (2, .int x2), (3, .int x3), (4, .int x4), (5, .int x5), (6, .int x6)] [] (wM g am S) := by
  unfold B_Model_makes_0 at hF
  refine dk_aload_n (k := 0) (i := 0) X 0 rfl rfl d_Model_makes_0 ?_
  refine dk_get X q_Model 0 19 (by decide) (oM_Model g am S) rfl f_Model_50 d_Model_makes_1 ?_
  refine dk_aload_n (k := 0) (i := 0) X 0 rfl rfl d_Model_makes_4 ?_
  refine dk_get X q_Model 0 18 (by decide) (oM_Model g am S) rfl f_Model_246 d_Model_makes_5 ?_
  refine dk_iload_n (k := 1) (i := 1) X 1 rfl rfl d_Model_makes_8 ?_
  refine dk_iast X 13 (aM_13 g am S) (sM_13 g am S _ _) d_Model_makes_9 hF (fun S1 hF => ?_)
  refine dk_aload_n (k := 0) (i := 0) X 0 rfl rfl d_Model_makes_10 ?_
  refine dk_get X q_Model 0 20 (by decide) (oM_Model g am S1) rfl f_Model_53 d_Model_makes_11 ?_
  refine dk_aload_n (k := 0) (i := 0) X 0 rfl rfl d_Model_makes_14 ?_
  refine dk_get X q_Model 0 18 (by decide) (oM_Model g am S1) rfl f_Model_246 d_Model_makes_15 ?_
  refine dk_iload_n (k := 2) (i := 2) X 2 rfl rfl d_Model_makes_18 ?_
  refine dk_iast X 14 (aM_14 g am S1) (sM_14 g am S1 _ _) d_Model_makes_19 hF (fun S2 hF => ?_)
  refine dk_aload_n (k := 0) (i := 0) X 0 rfl rfl d_Model_makes_20 ?_
  refine dk_get X q_Model 0 21 (by decide) (oM_Model g am S2) rfl f_Model_56 d_Model_makes_21 ?_
  refine dk_aload_n (k := 0) (i := 0) X 0 rfl rfl d_Model_makes_24 ?_
  refine dk_get X q_Model 0 18 (by decide) (oM_Model g am S2) rfl f_Model_246 d_Model_makes_25 ?_
  refine dk_iload_n (k := 3) (i := 3) X 3 rfl rfl d_Model_makes_28 ?_
  refine dk_iast X 15 (aM_15 g am S2) (sM_15 g am S2 _ _) d_Model_makes_29 hF (fun S3 hF => ?_)
  refine dk_aload_n (k := 0) (i := 0) X 0 rfl rfl d_Model_makes_30 ?_
  refine dk_get X q_Model 0 22 (by decide) (oM_Model g am S3) rfl f_Model_59 d_Model_makes_31 ?_
  refine dk_aload_n (k := 0) (i := 0) X 0 rfl rfl d_Model_makes_34 ?_
  refine dk_get X q_Model 0 18 (by decide) (oM_Model g am S3) rfl f_Model_246 d_Model_makes_35 ?_
  refine dk_iload (i := 4) X 4 rfl d_Model_makes_38 ?_
  refine dk_iast X 16 (aM_16 g am S3) (sM_16 g am S3 _ _) d_Model_makes_40 hF (fun S4 hF => ?_)
  refine dk_aload_n (k := 0) (i := 0) X 0 rfl rfl d_Model_makes_41 ?_
  refine dk_get X q_Model 0 23 (by decide) (oM_Model g am S4) rfl f_Model_62 d_Model_makes_42 ?_
  refine dk_aload_n (k := 0) (i := 0) X 0 rfl rfl d_Model_makes_45 ?_
  refine dk_get X q_Model 0 18 (by decide) (oM_Model g am S4) rfl f_Model_246 d_Model_makes_46 ?_
  refine dk_iload (i := 5) X 5 rfl d_Model_makes_49 ?_
  refine dk_iast X 17 (aM_17 g am S4) (sM_17 g am S4 _ _) d_Model_makes_51 hF (fun S5 hF => ?_)
  refine dk_aload_n (k := 0) (i := 0) X 0 rfl rfl d_Model_makes_52 ?_
  refine dk_get X q_Model 0 24 (by decide) (oM_Model g am S5) rfl f_Model_65 d_Model_makes_53 ?_
  refine dk_aload_n (k := 0) (i := 0) X 0 rfl rfl d_Model_makes_56 ?_
  refine dk_get X q_Model 0 18 (by decide) (oM_Model g am S5) rfl f_Model_246 d_Model_makes_57 ?_
  refine dk_iload (i := 6) X 6 rfl d_Model_makes_60 ?_
  refine dk_iast X 18 (aM_18 g am S5) (sM_18 g am S5 _ _) d_Model_makes_62 hF (fun S6 hF => ?_)
  refine dk_aload_n (k := 0) (i := 0) X 0 rfl rfl d_Model_makes_63 ?_
  refine dk_get X q_Model 0 25 (by decide) (oM_Model g am S6) rfl f_Model_68 d_Model_makes_64 ?_
  refine dk_aload_n (k := 0) (i := 0) X 0 rfl rfl d_Model_makes_67 ?_
  refine dk_get X q_Model 0 18 (by decide) (oM_Model g am S6) rfl f_Model_246 d_Model_makes_68 ?_
  refine dk_iconst (v := -1) X (by decide) d_Model_makes_71 ?_
  refine dk_iast X 19 (aM_19 g am S6) (sM_19 g am S6 _ _) d_Model_makes_72 hF (fun S7 hF => ?_)
  refine dk_aload_n (k := 0) (i := 0) X 0 rfl rfl d_Model_makes_73 ?_
  refine dk_get X q_Model 0 26 (by decide) (oM_Model g am S7) rfl f_Model_71 d_Model_makes_74 ?_
  refine dk_aload_n (k := 0) (i := 0) X 0 rfl rfl d_Model_makes_77 ?_
  refine dk_get X q_Model 0 18 (by decide) (oM_Model g am S7) rfl f_Model_246 d_Model_makes_78 ?_
  refine dk_iconst (v := 0) X (by decide) d_Model_makes_81 ?_
  refine dk_zast X 20 (aM_20 g am S7) (sM_20 g am S7 _ _) d_Model_makes_82 hF (fun S8 hF => ?_)
  refine dk_aload_n (k := 0) (i := 0) X 0 rfl rfl d_Model_makes_83 ?_
  refine dk_dup X rfl d_Model_makes_84 ?_
  refine dk_get X q_Model 0 18 (by decide) (oM_Model g am S8) rfl f_Model_246 d_Model_makes_85 ?_
  refine dk_iconst (v := 1) X (by decide) d_Model_makes_88 ?_
  refine dk_iadd X d_Model_makes_89 ?_
  refine dk_puti X q_Model 0 18 (by decide) (oM_Model g am S8) f_Model_246 rfl rfl (Nat.le_of_ble_eq_true rfl) (sM_Model_claims g am S8 _) d_Model_makes_90 hF (fun S9 hF => ?_)
  exact dk_retv hR hF d_Model_makes_93
def F_Model_makes (n : Nat) (x1 : Int32) (x2 : Int32) (x3 : Int32) (x4 : Int32) (x5 : Int32) (x6 : Int32) (S : dk_S) : Option dk_S := B_Model_makes_0 n x1 x2 x3 x4 x5 x6 S
theorem c_Model_makes (l : Launch) (g : dk_G) (am : Nat → Nat) (n : Nat) (x1 : Int32) (x2 : Int32) (x3 : Int32) (x4 : Int32) (x5 : Int32) (x6 : Int32)  (S : dk_S) : dk_Mv l g y_Model_makes b_Model_makes 7 rm_Model_makes (none) [.ref (am 0), .int x1, .int x2, .int x3, .int x4, .int x5, .int x6] (wM g am) S (F_Model_makes n x1 x2 x3 x4 x5 x6 S) := dk_enterv (by decide) rfl (Nat.le_of_ble_eq_true rfl) (fun p e s m args below meth c A Q res hF X hR => (kb_Model_makes_0 (n := n) X hR  hF))
abbrev b_Model_crosses : ByteArray := prog_11_method_36_code
def y_Model_crosses : MethodName := ⟨R_Model, "crosses", "(III)V"⟩
theorem d_Model_crosses_0 : decode b_Model_crosses 0 = .ok (.aload_n 0, 1) := by decide +kernel
theorem d_Model_crosses_1 : decode b_Model_crosses 1 = .ok (.getfield 81, 3) := by decide +kernel
theorem d_Model_crosses_4 : decode b_Model_crosses 4 = .ok (.iload_n 1, 1) := by decide +kernel
theorem d_Model_crosses_5 : decode b_Model_crosses 5 = .ok (.baload, 1) := by decide +kernel
theorem d_Model_crosses_6 : decode b_Model_crosses 6 = .ok (.ifCond .ne 13, 3) := by decide +kernel
theorem d_Model_crosses_9 : decode b_Model_crosses 9 = .ok (.aload_n 0, 1) := by decide +kernel
theorem d_Model_crosses_10 : decode b_Model_crosses 10 = .ok (.getfield 75, 3) := by decide +kernel
theorem d_Model_crosses_13 : decode b_Model_crosses 13 = .ok (.iload_n 1, 1) := by decide +kernel
theorem d_Model_crosses_14 : decode b_Model_crosses 14 = .ok (.iaload, 1) := by decide +kernel
theorem d_Model_crosses_15 : decode b_Model_crosses 15 = .ok (.iload_n 2, 1) := by decide +kernel
theorem d_Model_crosses_16 : decode b_Model_crosses 16 = .ok (.if_icmp .ne 4, 3) := by decide +kernel
theorem d_Model_crosses_19 : decode b_Model_crosses 19 = .ok (.return_, 1) := by decide +kernel
theorem d_Model_crosses_20 : decode b_Model_crosses 20 = .ok (.aload_n 0, 1) := by decide +kernel
theorem d_Model_crosses_21 : decode b_Model_crosses 21 = .ok (.getfield 78, 3) := by decide +kernel
theorem d_Model_crosses_24 : decode b_Model_crosses 24 = .ok (.iload_n 1, 1) := by decide +kernel
theorem d_Model_crosses_25 : decode b_Model_crosses 25 = .ok (.aload_n 0, 1) := by decide +kernel
theorem d_Model_crosses_26 : decode b_Model_crosses 26 = .ok (.getfield 75, 3) := by decide +kernel
theorem d_Model_crosses_29 : decode b_Model_crosses 29 = .ok (.iload_n 1, 1) := by decide +kernel
theorem d_Model_crosses_30 : decode b_Model_crosses 30 = .ok (.iaload, 1) := by decide +kernel
theorem d_Model_crosses_31 : decode b_Model_crosses 31 = .ok (.aload_n 0, 1) := by decide +kernel
theorem d_Model_crosses_32 : decode b_Model_crosses 32 = .ok (.getfield 13, 3) := by decide +kernel
theorem d_Model_crosses_35 : decode b_Model_crosses 35 = .ok (.iload_n 1, 1) := by decide +kernel
theorem d_Model_crosses_36 : decode b_Model_crosses 36 = .ok (.iaload, 1) := by decide +kernel
theorem d_Model_crosses_37 : decode b_Model_crosses 37 = .ok (.if_icmp .ne 7, 3) := by decide +kernel
theorem d_Model_crosses_40 : decode b_Model_crosses 40 = .ok (.iload_n 3, 1) := by decide +kernel
theorem d_Model_crosses_41 : decode b_Model_crosses 41 = .ok (.goto 9, 3) := by decide +kernel
theorem d_Model_crosses_44 : decode b_Model_crosses 44 = .ok (.aload_n 0, 1) := by decide +kernel
theorem d_Model_crosses_45 : decode b_Model_crosses 45 = .ok (.getfield 78, 3) := by decide +kernel
theorem d_Model_crosses_48 : decode b_Model_crosses 48 = .ok (.iload_n 1, 1) := by decide +kernel
theorem d_Model_crosses_49 : decode b_Model_crosses 49 = .ok (.iaload, 1) := by decide +kernel
theorem d_Model_crosses_50 : decode b_Model_crosses 50 = .ok (.iastore, 1) := by decide +kernel
theorem d_Model_crosses_51 : decode b_Model_crosses 51 = .ok (.aload_n 0, 1) := by decide +kernel
theorem d_Model_crosses_52 : decode b_Model_crosses 52 = .ok (.getfield 75, 3) := by decide +kernel
theorem d_Model_crosses_55 : decode b_Model_crosses 55 = .ok (.iload_n 1, 1) := by decide +kernel
theorem d_Model_crosses_56 : decode b_Model_crosses 56 = .ok (.iload_n 2, 1) := by decide +kernel
theorem d_Model_crosses_57 : decode b_Model_crosses 57 = .ok (.iastore, 1) := by decide +kernel
theorem d_Model_crosses_58 : decode b_Model_crosses 58 = .ok (.aload_n 0, 1) := by decide +kernel
theorem d_Model_crosses_59 : decode b_Model_crosses 59 = .ok (.getfield 7, 3) := by decide +kernel
theorem d_Model_crosses_62 : decode b_Model_crosses 62 = .ok (.iload_n 2, 1) := by decide +kernel
theorem d_Model_crosses_63 : decode b_Model_crosses 63 = .ok (.iaload, 1) := by decide +kernel
theorem d_Model_crosses_64 : decode b_Model_crosses 64 = .ok (.iconst (-1), 1) := by decide +kernel
theorem d_Model_crosses_65 : decode b_Model_crosses 65 = .ok (.if_icmp .eq 18, 3) := by decide +kernel
theorem d_Model_crosses_68 : decode b_Model_crosses 68 = .ok (.aload_n 0, 1) := by decide +kernel
theorem d_Model_crosses_69 : decode b_Model_crosses 69 = .ok (.iconst 4, 1) := by decide +kernel
theorem d_Model_crosses_70 : decode b_Model_crosses 70 = .ok (.aload_n 0, 1) := by decide +kernel
theorem d_Model_crosses_71 : decode b_Model_crosses 71 = .ok (.getfield 7, 3) := by decide +kernel
theorem d_Model_crosses_74 : decode b_Model_crosses 74 = .ok (.iload_n 2, 1) := by decide +kernel
theorem d_Model_crosses_75 : decode b_Model_crosses 75 = .ok (.iaload, 1) := by decide +kernel
theorem d_Model_crosses_76 : decode b_Model_crosses 76 = .ok (.iload_n 1, 1) := by decide +kernel
theorem d_Model_crosses_77 : decode b_Model_crosses 77 = .ok (.iload_n 3, 1) := by decide +kernel
theorem d_Model_crosses_78 : decode b_Model_crosses 78 = .ok (.iconst 0, 1) := by decide +kernel
theorem d_Model_crosses_79 : decode b_Model_crosses 79 = .ok (.iload_n 2, 1) := by decide +kernel
theorem d_Model_crosses_80 : decode b_Model_crosses 80 = .ok (.invokevirtual 249, 3) := by decide +kernel
theorem d_Model_crosses_83 : decode b_Model_crosses 83 = .ok (.return_, 1) := by decide +kernel
theorem v_Model_crosses : dk_Yv y_Model_crosses b_Model_crosses 4 (none) 3 := ⟨dk_in (List.mem_of_getElem? (i := 1256) (by decide +kernel)) rfl, dk_in (List.mem_of_getElem? (i := 52) (by decide +kernel)) rfl, dk_in (List.mem_of_getElem? (i := 75) (by decide +kernel)) rfl, dk_in (List.mem_of_getElem? (i := 1257) (by decide +kernel)) rfl, by decide +kernel, by decide +kernel, by decide +kernel⟩
abbrev rm_Model_crosses : Room := { frames := 1, cells := 0, slots := 0, locals := 26 }
theorem f_Model_75 : Cond.fieldLink R_Model 75 (T_Model 27).1 (T_Model 27).2.1 (T_Model 27).2.2.1 ∈ dk_tb := dk_in (List.mem_of_getElem? (i := 991) (by decide +kernel)) rfl
theorem f_Model_78 : Cond.fieldLink R_Model 78 (T_Model 28).1 (T_Model 28).2.1 (T_Model 28).2.2.1 ∈ dk_tb := dk_in (List.mem_of_getElem? (i := 992) (by decide +kernel)) rfl
theorem f_Model_81 : Cond.fieldLink R_Model 81 (T_Model 29).1 (T_Model 29).2.1 (T_Model 29).2.2.1 ∈ dk_tb := dk_in (List.mem_of_getElem? (i := 993) (by decide +kernel)) rfl
theorem m_Model_249 : Cond.methodLink R_Model 249 y_Model_makes ∈ dk_tb := dk_in (List.mem_of_getElem? (i := 1246) (by decide +kernel)) rfl
def B_Model_crosses_50 (n : Nat)  (x1 : Int32) (x2 : Int32) (x3 : Int32) (u1 : Int32) (u2 : Int32) (S : dk_S) : Option dk_S :=
  dk_w S 28 6 u1 u2 fun S1 => dk_w S1 27 6 x1 x2 fun S2 => dk_r 8 (S2 1) x2 fun v3 => if v3 = (-1 : Int32) then (some S2) else (dk_r 8 (S2 1) x2 fun v4 => dk_cv (F_Model_makes n (4 : Int32) v4 x1 x3 (0 : Int32) x2 S2) fun S5 => some S5)
set_option maxRecDepth 20000 in
theorem kb_Model_crosses_50 {p : Program} {l : Launch} {e : Env} {s : State} {m : MethodId} {args : Array Value} {below : List Frame} {meth : Method} {c : Code} {g : dk_G} {A : Nat → Prop} {Q : State → Prop} {am : Nat → Nat} {n : Nat} {res : dk_S} (X : dk_X p s m args meth c b_Model_crosses 4 R_Model (none) g A) (hR : dk_Rv p l e rm_Model_crosses s m args below meth c g A Q 4 b_Model_crosses (none) (wM g am) res)  {x1 : Int32} {x2 : Int32} {x3 : Int32} {u1 : Int32} {u2 : Int32} {S : dk_S}  (hF : B_Model_crosses_50 n  x1 x2 x3 u1 u2 S = some res) : dk_J p l e rm_Model_crosses s m args below meth c g A Q 4 0 0 50 [(0, .ref (am 0)), (1, .int x1), (2, .int x2), (3, .int x3)] [.int u2, .int u1, .ref (am 22)] (wM g am S) := by
  unfold B_Model_crosses_50 at hF
  refine dk_iast X 22 (aM_22 g am S) (sM_22 g am S _ _) d_Model_crosses_50 hF (fun S1 hF => ?_)
  refine dk_aload_n (k := 0) (i := 0) X 0 rfl rfl d_Model_crosses_51 ?_
  refine dk_get X q_Model 0 27 (by decide) (oM_Model g am S1) rfl f_Model_75 d_Model_crosses_52 ?_
  refine dk_iload_n (k := 1) (i := 1) X 1 rfl rfl d_Model_crosses_55 ?_
  refine dk_iload_n (k := 2) (i := 2) X 2 rfl rfl d_Model_crosses_56 ?_
  refine dk_iast X 21 (aM_21 g am S1) (sM_21 g am S1 _ _) d_Model_crosses_57 hF (fun S2 hF => ?_)
  refine dk_aload_n (k := 0) (i := 0) X 0 rfl rfl d_Model_crosses_58 ?_
  refine dk_get X q_Model 0 1 (by decide) (oM_Model g am S2) rfl f_Model_7 d_Model_crosses_59 ?_
  refine dk_iload_n (k := 2) (i := 2) X 2 rfl rfl d_Model_crosses_62 ?_
  refine dk_iald X 1 (aM_1 g am S2) d_Model_crosses_63 hF (fun v3 hF => ?_)
  refine dk_iconst (v := -1) X (by decide) d_Model_crosses_64 ?_
  refine dk_icmp_eq (tgt := 83) X (by decide) d_Model_crosses_65 hF (fun hF => ?_) (fun hF => ?_)
  · exact dk_retv hR hF d_Model_crosses_83
  · refine dk_aload_n (k := 0) (i := 0) X 0 rfl rfl d_Model_crosses_68 ?_
    refine dk_iconst (v := 4) X (by decide) d_Model_crosses_69 ?_
    refine dk_aload_n (k := 0) (i := 0) X 0 rfl rfl d_Model_crosses_70 ?_
    refine dk_get X q_Model 0 1 (by decide) (oM_Model g am S2) rfl f_Model_7 d_Model_crosses_71 ?_
    refine dk_iload_n (k := 2) (i := 2) X 2 rfl rfl d_Model_crosses_74 ?_
    refine dk_iald X 1 (aM_1 g am S2) d_Model_crosses_75 hF (fun v4 hF => ?_)
    refine dk_iload_n (k := 1) (i := 1) X 1 rfl rfl d_Model_crosses_76 ?_
    refine dk_iload_n (k := 3) (i := 3) X 3 rfl rfl d_Model_crosses_77 ?_
    refine dk_iconst (v := 0) X (by decide) d_Model_crosses_78 ?_
    refine dk_iload_n (k := 2) (i := 2) X 2 rfl rfl d_Model_crosses_79 ?_
    refine dk_callVv X v_Model_makes [.int (4 : Int32), .int v4, .int x1, .int x3, .int (0 : Int32), .int x2] (c_Model_makes l g am n (4 : Int32) v4 x1 x3 (0 : Int32) x2 S2) 0 (oM_Model g am S2) rfl rfl m_Model_249 rfl rfl ⟨rfl, rfl, Nat.le_of_ble_eq_true rfl, Nat.le_of_ble_eq_true rfl, Nat.le_refl _, Nat.le_refl _⟩ (Nat.le_of_ble_eq_true rfl) d_Model_crosses_80 hF (fun S5 hF => ?_)
    exact dk_retv hR hF d_Model_crosses_83
def B_Model_crosses_0 (n : Nat)  (x1 : Int32) (x2 : Int32) (x3 : Int32) (S : dk_S) : Option dk_S :=
  dk_r 6 (S 29) x1 fun v7 => if ¬ v7 = 0 then (some S) else (dk_r 6 (S 27) x1 fun v8 => if ¬ v8 = x2 then (dk_r 6 (S 27) x1 fun v9 => dk_r 6 (S 3) x1 fun v10 => if ¬ v9 = v10 then (dk_r 6 (S 28) x1 fun v11 => B_Model_crosses_50 n  x1 x2 x3 x1 v11 S) else (B_Model_crosses_50 n  x1 x2 x3 x1 x3 S)) else (some S))
set_option maxRecDepth 20000 in
theorem kb_Model_crosses_0 {p : Program} {l : Launch} {e : Env} {s : State} {m : MethodId} {args : Array Value} {below : List Frame} {meth : Method} {c : Code} {g : dk_G} {A : Nat → Prop} {Q : State → Prop} {am : Nat → Nat} {n : Nat} {res : dk_S} (X : dk_X p s m args meth c b_Model_crosses 4 R_Model (none) g A) (hR : dk_Rv p l e rm_Model_crosses s m args below meth c g A Q 4 b_Model_crosses (none) (wM g am) res)  {x1 : Int32} {x2 : Int32} {x3 : Int32} {S : dk_S}  (hF : B_Model_crosses_0 n  x1 x2 x3 S = some res) : dk_J p l e rm_Model_crosses s m args below meth c g A Q 4 0 0 0 [(0, .ref (am 0)), (1, .int x1), (2, .int x2), (3, .int x3)] [] (wM g am S) := by
  unfold B_Model_crosses_0 at hF
  refine dk_aload_n (k := 0) (i := 0) X 0 rfl rfl d_Model_crosses_0 ?_
  refine dk_get X q_Model 0 29 (by decide) (oM_Model g am S) rfl f_Model_81 d_Model_crosses_1 ?_
  refine dk_iload_n (k := 1) (i := 1) X 1 rfl rfl d_Model_crosses_4 ?_
  refine dk_zald X 23 (aM_23 g am S) d_Model_crosses_5 hF (fun v7 hF => ?_)
  refine dk_if_ne (tgt := 19) X (by decide) d_Model_crosses_6 hF (fun hF => ?_) (fun hF => ?_)
  · exact dk_retv hR hF d_Model_crosses_19
  · refine dk_aload_n (k := 0) (i := 0) X 0 rfl rfl d_Model_crosses_9 ?_
    refine dk_get X q_Model 0 27 (by decide) (oM_Model g am S) rfl f_Model_75 d_Model_crosses_10 ?_
    refine dk_iload_n (k := 1) (i := 1) X 1 rfl rfl d_Model_crosses_13 ?_
    refine dk_iald X 21 (aM_21 g am S) d_Model_crosses_14 hF (fun v8 hF => ?_)
    refine dk_iload_n (k := 2) (i := 2) X 2 rfl rfl d_Model_crosses_15 ?_
    refine dk_icmp_ne (tgt := 20) X (by decide) d_Model_crosses_16 hF (fun hF => ?_) (fun hF => ?_)
    · refine dk_aload_n (k := 0) (i := 0) X 0 rfl rfl d_Model_crosses_20 ?_
      refine dk_get X q_Model 0 28 (by decide) (oM_Model g am S) rfl f_Model_78 d_Model_crosses_21 ?_
      refine dk_iload_n (k := 1) (i := 1) X 1 rfl rfl d_Model_crosses_24 ?_
      refine dk_aload_n (k := 0) (i := 0) X 0 rfl rfl d_Model_crosses_25 ?_
      refine dk_get X q_Model 0 27 (by decide) (oM_Model g am S) rfl f_Model_75 d_Model_crosses_26 ?_
      refine dk_iload_n (k := 1) (i := 1) X 1 rfl rfl d_Model_crosses_29 ?_
      refine dk_iald X 21 (aM_21 g am S) d_Model_crosses_30 hF (fun v9 hF => ?_)
      refine dk_aload_n (k := 0) (i := 0) X 0 rfl rfl d_Model_crosses_31 ?_
      refine dk_get X q_Model 0 3 (by decide) (oM_Model g am S) rfl f_Model_13 d_Model_crosses_32 ?_
      refine dk_iload_n (k := 1) (i := 1) X 1 rfl rfl d_Model_crosses_35 ?_
      refine dk_iald X 2 (aM_2 g am S) d_Model_crosses_36 hF (fun v10 hF => ?_)
      refine dk_icmp_ne (tgt := 44) X (by decide) d_Model_crosses_37 hF (fun hF => ?_) (fun hF => ?_)
      · refine dk_aload_n (k := 0) (i := 0) X 0 rfl rfl d_Model_crosses_44 ?_
        refine dk_get X q_Model 0 28 (by decide) (oM_Model g am S) rfl f_Model_78 d_Model_crosses_45 ?_
        refine dk_iload_n (k := 1) (i := 1) X 1 rfl rfl d_Model_crosses_48 ?_
        refine dk_iald X 22 (aM_22 g am S) d_Model_crosses_49 hF (fun v11 hF => ?_)
        exact (kb_Model_crosses_50 (n := n) X hR   hF)
      · refine dk_iload_n (k := 3) (i := 3) X 3 rfl rfl d_Model_crosses_40 ?_
        refine dk_goto (tgt := 50) X (by decide) d_Model_crosses_41 ?_
        exact (kb_Model_crosses_50 (n := n) X hR   hF)
    · exact dk_retv hR hF d_Model_crosses_19
def F_Model_crosses (n : Nat) (x1 : Int32) (x2 : Int32) (x3 : Int32) (S : dk_S) : Option dk_S := B_Model_crosses_0 n x1 x2 x3 S
theorem c_Model_crosses (l : Launch) (g : dk_G) (am : Nat → Nat) (n : Nat) (x1 : Int32) (x2 : Int32) (x3 : Int32)  (S : dk_S) : dk_Mv l g y_Model_crosses b_Model_crosses 4 rm_Model_crosses (none) [.ref (am 0), .int x1, .int x2, .int x3] (wM g am) S (F_Model_crosses n x1 x2 x3 S) := dk_enterv (by decide) rfl (Nat.le_of_ble_eq_true rfl) (fun p e s m args below meth c A Q res hF X hR => (kb_Model_crosses_0 (n := n) X hR  hF))
abbrev b_Model_isHeldBy : ByteArray := prog_11_method_35_code
def y_Model_isHeldBy : MethodName := ⟨R_Model, "isHeldBy", "(III)Z"⟩
theorem d_Model_isHeldBy_0 : decode b_Model_isHeldBy 0 = .ok (.aload_n 0, 1) := by decide +kernel
theorem d_Model_isHeldBy_1 : decode b_Model_isHeldBy 1 = .ok (.getfield 56, 3) := by decide +kernel
theorem d_Model_isHeldBy_4 : decode b_Model_isHeldBy 4 = .ok (.iload_n 1, 1) := by decide +kernel
theorem d_Model_isHeldBy_5 : decode b_Model_isHeldBy 5 = .ok (.iaload, 1) := by decide +kernel
theorem d_Model_isHeldBy_6 : decode b_Model_isHeldBy 6 = .ok (.iload_n 2, 1) := by decide +kernel
theorem d_Model_isHeldBy_7 : decode b_Model_isHeldBy 7 = .ok (.if_icmp .ne 27, 3) := by decide +kernel
theorem d_Model_isHeldBy_10 : decode b_Model_isHeldBy 10 = .ok (.aload_n 0, 1) := by decide +kernel
theorem d_Model_isHeldBy_11 : decode b_Model_isHeldBy 11 = .ok (.getfield 50, 3) := by decide +kernel
theorem d_Model_isHeldBy_14 : decode b_Model_isHeldBy 14 = .ok (.iload_n 1, 1) := by decide +kernel
theorem d_Model_isHeldBy_15 : decode b_Model_isHeldBy 15 = .ok (.iaload, 1) := by decide +kernel
theorem d_Model_isHeldBy_16 : decode b_Model_isHeldBy 16 = .ok (.iconst 3, 1) := by decide +kernel
theorem d_Model_isHeldBy_17 : decode b_Model_isHeldBy 17 = .ok (.if_icmp .ne 17, 3) := by decide +kernel
theorem d_Model_isHeldBy_20 : decode b_Model_isHeldBy 20 = .ok (.aload_n 0, 1) := by decide +kernel
theorem d_Model_isHeldBy_21 : decode b_Model_isHeldBy 21 = .ok (.getfield 53, 3) := by decide +kernel
theorem d_Model_isHeldBy_24 : decode b_Model_isHeldBy 24 = .ok (.iload_n 1, 1) := by decide +kernel
theorem d_Model_isHeldBy_25 : decode b_Model_isHeldBy 25 = .ok (.iaload, 1) := by decide +kernel
theorem d_Model_isHeldBy_26 : decode b_Model_isHeldBy 26 = .ok (.iload_n 3, 1) := by decide +kernel
theorem d_Model_isHeldBy_27 : decode b_Model_isHeldBy 27 = .ok (.if_icmp .ne 7, 3) := by decide +kernel
theorem d_Model_isHeldBy_30 : decode b_Model_isHeldBy 30 = .ok (.iconst 1, 1) := by decide +kernel
theorem d_Model_isHeldBy_31 : decode b_Model_isHeldBy 31 = .ok (.goto 4, 3) := by decide +kernel
theorem d_Model_isHeldBy_34 : decode b_Model_isHeldBy 34 = .ok (.iconst 0, 1) := by decide +kernel
theorem d_Model_isHeldBy_35 : decode b_Model_isHeldBy 35 = .ok (.ireturn, 1) := by decide +kernel
theorem v_Model_isHeldBy : dk_Yv y_Model_isHeldBy b_Model_isHeldBy 4 (some .boolean) 3 := ⟨dk_in (List.mem_of_getElem? (i := 1260) (by decide +kernel)) rfl, dk_in (List.mem_of_getElem? (i := 53) (by decide +kernel)) rfl, dk_in (List.mem_of_getElem? (i := 75) (by decide +kernel)) rfl, dk_in (List.mem_of_getElem? (i := 1261) (by decide +kernel)) rfl, by decide +kernel, by decide +kernel, by decide +kernel⟩
abbrev rm_Model_isHeldBy : Room := { frames := 0, cells := 0, slots := 0, locals := 0 }
def B_Model_isHeldBy_0 (n : Nat)  (x1 : Int32) (x2 : Int32) (x3 : Int32) (S : dk_S) : Option (Int32 × dk_S) :=
  dk_r 44 (S 21) x1 fun v1 => if ¬ v1 = x2 then (dk_b (0 : Int32) (some ((0 : Int32), S))) else (dk_r 44 (S 19) x1 fun v2 => if ¬ v2 = (3 : Int32) then (dk_b (0 : Int32) (some ((0 : Int32), S))) else (dk_r 44 (S 20) x1 fun v3 => if ¬ v3 = x3 then (dk_b (0 : Int32) (some ((0 : Int32), S))) else (dk_b (1 : Int32) (some ((1 : Int32), S)))))
set_option maxRecDepth 20000 in
theorem kb_Model_isHeldBy_0 {p : Program} {l : Launch} {e : Env} {s : State} {m : MethodId} {args : Array Value} {below : List Frame} {meth : Method} {c : Code} {g : dk_G} {A : Nat → Prop} {Q : State → Prop} {am : Nat → Nat} {n : Nat} {res : (Int32 × dk_S)} (X : dk_X p s m args meth c b_Model_isHeldBy 4 R_Model (some .boolean) g A) (hR : dk_Ri p l e rm_Model_isHeldBy s m args below meth c g A Q 4 b_Model_isHeldBy (some .boolean) (wM g am) res)  {x1 : Int32} {x2 : Int32} {x3 : Int32} {S : dk_S}  (hF : B_Model_isHeldBy_0 n  x1 x2 x3 S = some res) : dk_J p l e rm_Model_isHeldBy s m args below meth c g A Q 4 0 0 0 [(0, .ref (am 0)), (1, .int x1), (2, .int x2), (3, .int x3)] [] (wM g am S) := by
  unfold B_Model_isHeldBy_0 at hF
  refine dk_aload_n (k := 0) (i := 0) X 0 rfl rfl d_Model_isHeldBy_0 ?_
  refine dk_get X q_Model 0 21 (by decide) (oM_Model g am S) rfl f_Model_56 d_Model_isHeldBy_1 ?_
  refine dk_iload_n (k := 1) (i := 1) X 1 rfl rfl d_Model_isHeldBy_4 ?_
  refine dk_iald X 15 (aM_15 g am S) d_Model_isHeldBy_5 hF (fun v1 hF => ?_)
  refine dk_iload_n (k := 2) (i := 2) X 2 rfl rfl d_Model_isHeldBy_6 ?_
  refine dk_icmp_ne (tgt := 34) X (by decide) d_Model_isHeldBy_7 hF (fun hF => ?_) (fun hF => ?_)
  · refine dk_iconst (v := 0) X (by decide) d_Model_isHeldBy_34 ?_
    exact dk_retz hR hF d_Model_isHeldBy_35
  · refine dk_aload_n (k := 0) (i := 0) X 0 rfl rfl d_Model_isHeldBy_10 ?_
    refine dk_get X q_Model 0 19 (by decide) (oM_Model g am S) rfl f_Model_50 d_Model_isHeldBy_11 ?_
    refine dk_iload_n (k := 1) (i := 1) X 1 rfl rfl d_Model_isHeldBy_14 ?_
    refine dk_iald X 13 (aM_13 g am S) d_Model_isHeldBy_15 hF (fun v2 hF => ?_)
    refine dk_iconst (v := 3) X (by decide) d_Model_isHeldBy_16 ?_
    refine dk_icmp_ne (tgt := 34) X (by decide) d_Model_isHeldBy_17 hF (fun hF => ?_) (fun hF => ?_)
    · refine dk_iconst (v := 0) X (by decide) d_Model_isHeldBy_34 ?_
      exact dk_retz hR hF d_Model_isHeldBy_35
    · refine dk_aload_n (k := 0) (i := 0) X 0 rfl rfl d_Model_isHeldBy_20 ?_
      refine dk_get X q_Model 0 20 (by decide) (oM_Model g am S) rfl f_Model_53 d_Model_isHeldBy_21 ?_
      refine dk_iload_n (k := 1) (i := 1) X 1 rfl rfl d_Model_isHeldBy_24 ?_
      refine dk_iald X 14 (aM_14 g am S) d_Model_isHeldBy_25 hF (fun v3 hF => ?_)
      refine dk_iload_n (k := 3) (i := 3) X 3 rfl rfl d_Model_isHeldBy_26 ?_
      refine dk_icmp_ne (tgt := 34) X (by decide) d_Model_isHeldBy_27 hF (fun hF => ?_) (fun hF => ?_)
      · refine dk_iconst (v := 0) X (by decide) d_Model_isHeldBy_34 ?_
        exact dk_retz hR hF d_Model_isHeldBy_35
      · refine dk_iconst (v := 1) X (by decide) d_Model_isHeldBy_30 ?_
        refine dk_goto (tgt := 35) X (by decide) d_Model_isHeldBy_31 ?_
        exact dk_retz hR hF d_Model_isHeldBy_35
def F_Model_isHeldBy (n : Nat) (x1 : Int32) (x2 : Int32) (x3 : Int32) (S : dk_S) : Option (Int32 × dk_S) := B_Model_isHeldBy_0 n x1 x2 x3 S
theorem c_Model_isHeldBy (l : Launch) (g : dk_G) (am : Nat → Nat) (n : Nat) (x1 : Int32) (x2 : Int32) (x3 : Int32)  (S : dk_S) : dk_Mi l g y_Model_isHeldBy b_Model_isHeldBy 4 rm_Model_isHeldBy (some .boolean) [.ref (am 0), .int x1, .int x2, .int x3] (wM g am) S (F_Model_isHeldBy n x1 x2 x3 S) := dk_enteri (by decide) (Nat.le_of_ble_eq_true rfl) (fun p e s m args below meth c A Q res hF X hR => (kb_Model_isHeldBy_0 (n := n) X hR  hF))
abbrev b_Model_passes : ByteArray := prog_11_method_37_code
def y_Model_passes : MethodName := ⟨R_Model, "passes", "(I)V"⟩
theorem d_Model_passes_0 : decode b_Model_passes 0 = .ok (.aload_n 0, 1) := by decide +kernel
theorem d_Model_passes_1 : decode b_Model_passes 1 = .ok (.getfield 25, 3) := by decide +kernel
theorem d_Model_passes_4 : decode b_Model_passes 4 = .ok (.iload_n 1, 1) := by decide +kernel
theorem d_Model_passes_5 : decode b_Model_passes 5 = .ok (.iaload, 1) := by decide +kernel
theorem d_Model_passes_6 : decode b_Model_passes 6 = .ok (.istore_n 2, 1) := by decide +kernel
theorem d_Model_passes_7 : decode b_Model_passes 7 = .ok (.aload_n 0, 1) := by decide +kernel
theorem d_Model_passes_8 : decode b_Model_passes 8 = .ok (.getfield 28, 3) := by decide +kernel
theorem d_Model_passes_11 : decode b_Model_passes 11 = .ok (.iload_n 1, 1) := by decide +kernel
theorem d_Model_passes_12 : decode b_Model_passes 12 = .ok (.iaload, 1) := by decide +kernel
theorem d_Model_passes_13 : decode b_Model_passes 13 = .ok (.istore_n 3, 1) := by decide +kernel
theorem d_Model_passes_14 : decode b_Model_passes 14 = .ok (.aload_n 0, 1) := by decide +kernel
theorem d_Model_passes_15 : decode b_Model_passes 15 = .ok (.getfield 19, 3) := by decide +kernel
theorem d_Model_passes_18 : decode b_Model_passes 18 = .ok (.iload_n 1, 1) := by decide +kernel
theorem d_Model_passes_19 : decode b_Model_passes 19 = .ok (.iaload, 1) := by decide +kernel
theorem d_Model_passes_20 : decode b_Model_passes 20 = .ok (.istore 4, 2) := by decide +kernel
theorem d_Model_passes_22 : decode b_Model_passes 22 = .ok (.aload_n 0, 1) := by decide +kernel
theorem d_Model_passes_23 : decode b_Model_passes 23 = .ok (.getfield 22, 3) := by decide +kernel
theorem d_Model_passes_26 : decode b_Model_passes 26 = .ok (.iload_n 1, 1) := by decide +kernel
theorem d_Model_passes_27 : decode b_Model_passes 27 = .ok (.iaload, 1) := by decide +kernel
theorem d_Model_passes_28 : decode b_Model_passes 28 = .ok (.istore 5, 2) := by decide +kernel
theorem d_Model_passes_30 : decode b_Model_passes 30 = .ok (.iload 5, 2) := by decide +kernel
theorem d_Model_passes_32 : decode b_Model_passes 32 = .ok (.iconst 3, 1) := by decide +kernel
theorem d_Model_passes_33 : decode b_Model_passes 33 = .ok (.if_icmp .ge 42, 3) := by decide +kernel
theorem d_Model_passes_36 : decode b_Model_passes 36 = .ok (.aload_n 0, 1) := by decide +kernel
theorem d_Model_passes_37 : decode b_Model_passes 37 = .ok (.getfield 81, 3) := by decide +kernel
theorem d_Model_passes_40 : decode b_Model_passes 40 = .ok (.iload_n 2, 1) := by decide +kernel
theorem d_Model_passes_41 : decode b_Model_passes 41 = .ok (.baload, 1) := by decide +kernel
theorem d_Model_passes_42 : decode b_Model_passes 42 = .ok (.ifCond .ne 311, 3) := by decide +kernel
theorem d_Model_passes_45 : decode b_Model_passes 45 = .ok (.aload_n 0, 1) := by decide +kernel
theorem d_Model_passes_46 : decode b_Model_passes 46 = .ok (.iload 5, 2) := by decide +kernel
theorem d_Model_passes_48 : decode b_Model_passes 48 = .ok (.iload_n 3, 1) := by decide +kernel
theorem d_Model_passes_49 : decode b_Model_passes 49 = .ok (.iload_n 2, 1) := by decide +kernel
theorem d_Model_passes_50 : decode b_Model_passes 50 = .ok (.iload 4, 2) := by decide +kernel
theorem d_Model_passes_52 : decode b_Model_passes 52 = .ok (.iload 5, 2) := by decide +kernel
theorem d_Model_passes_54 : decode b_Model_passes 54 = .ok (.iconst 2, 1) := by decide +kernel
theorem d_Model_passes_55 : decode b_Model_passes 55 = .ok (.if_icmp .ne 12, 3) := by decide +kernel
theorem d_Model_passes_58 : decode b_Model_passes 58 = .ok (.aload_n 0, 1) := by decide +kernel
theorem d_Model_passes_59 : decode b_Model_passes 59 = .ok (.getfield 31, 3) := by decide +kernel
theorem d_Model_passes_62 : decode b_Model_passes 62 = .ok (.iload_n 1, 1) := by decide +kernel
theorem d_Model_passes_63 : decode b_Model_passes 63 = .ok (.iaload, 1) := by decide +kernel
theorem d_Model_passes_64 : decode b_Model_passes 64 = .ok (.goto 4, 3) := by decide +kernel
theorem d_Model_passes_67 : decode b_Model_passes 67 = .ok (.iconst 0, 1) := by decide +kernel
theorem d_Model_passes_68 : decode b_Model_passes 68 = .ok (.iconst (-1), 1) := by decide +kernel
theorem d_Model_passes_69 : decode b_Model_passes 69 = .ok (.invokevirtual 249, 3) := by decide +kernel
theorem d_Model_passes_72 : decode b_Model_passes 72 = .ok (.goto 281, 3) := by decide +kernel
theorem d_Model_passes_75 : decode b_Model_passes 75 = .ok (.iload 5, 2) := by decide +kernel
theorem d_Model_passes_77 : decode b_Model_passes 77 = .ok (.iconst 3, 1) := by decide +kernel
theorem d_Model_passes_78 : decode b_Model_passes 78 = .ok (.if_icmp .eq 10, 3) := by decide +kernel
theorem d_Model_passes_81 : decode b_Model_passes 81 = .ok (.iload 5, 2) := by decide +kernel
theorem d_Model_passes_83 : decode b_Model_passes 83 = .ok (.bipush 7, 2) := by decide +kernel
theorem d_Model_passes_85 : decode b_Model_passes 85 = .ok (.if_icmp .ne 28, 3) := by decide +kernel
theorem d_Model_passes_88 : decode b_Model_passes 88 = .ok (.aload_n 0, 1) := by decide +kernel
theorem d_Model_passes_89 : decode b_Model_passes 89 = .ok (.iconst 3, 1) := by decide +kernel
theorem d_Model_passes_90 : decode b_Model_passes 90 = .ok (.iload_n 3, 1) := by decide +kernel
theorem d_Model_passes_91 : decode b_Model_passes 91 = .ok (.iload_n 2, 1) := by decide +kernel
theorem d_Model_passes_92 : decode b_Model_passes 92 = .ok (.iload 4, 2) := by decide +kernel
theorem d_Model_passes_94 : decode b_Model_passes 94 = .ok (.iload 5, 2) := by decide +kernel
theorem d_Model_passes_96 : decode b_Model_passes 96 = .ok (.bipush 7, 2) := by decide +kernel
theorem d_Model_passes_98 : decode b_Model_passes 98 = .ok (.if_icmp .ne 7, 3) := by decide +kernel
theorem d_Model_passes_101 : decode b_Model_passes 101 = .ok (.iconst 5, 1) := by decide +kernel
theorem d_Model_passes_102 : decode b_Model_passes 102 = .ok (.goto 4, 3) := by decide +kernel
theorem d_Model_passes_105 : decode b_Model_passes 105 = .ok (.iconst 0, 1) := by decide +kernel
theorem d_Model_passes_106 : decode b_Model_passes 106 = .ok (.iconst (-1), 1) := by decide +kernel
theorem d_Model_passes_107 : decode b_Model_passes 107 = .ok (.invokevirtual 249, 3) := by decide +kernel
theorem d_Model_passes_110 : decode b_Model_passes 110 = .ok (.goto 243, 3) := by decide +kernel
theorem d_Model_passes_113 : decode b_Model_passes 113 = .ok (.iload 5, 2) := by decide +kernel
theorem d_Model_passes_115 : decode b_Model_passes 115 = .ok (.iconst 5, 1) := by decide +kernel
theorem d_Model_passes_116 : decode b_Model_passes 116 = .ok (.if_icmp .ne 19, 3) := by decide +kernel
theorem d_Model_passes_119 : decode b_Model_passes 119 = .ok (.aload_n 0, 1) := by decide +kernel
theorem d_Model_passes_120 : decode b_Model_passes 120 = .ok (.iload_n 2, 1) := by decide +kernel
theorem d_Model_passes_121 : decode b_Model_passes 121 = .ok (.aload_n 0, 1) := by decide +kernel
theorem d_Model_passes_122 : decode b_Model_passes 122 = .ok (.getfield 31, 3) := by decide +kernel
theorem d_Model_passes_125 : decode b_Model_passes 125 = .ok (.iload_n 1, 1) := by decide +kernel
theorem d_Model_passes_126 : decode b_Model_passes 126 = .ok (.iaload, 1) := by decide +kernel
theorem d_Model_passes_127 : decode b_Model_passes 127 = .ok (.iload 4, 2) := by decide +kernel
theorem d_Model_passes_129 : decode b_Model_passes 129 = .ok (.invokevirtual 252, 3) := by decide +kernel
theorem d_Model_passes_132 : decode b_Model_passes 132 = .ok (.goto 221, 3) := by decide +kernel
theorem d_Model_passes_135 : decode b_Model_passes 135 = .ok (.iconst 0, 1) := by decide +kernel
theorem d_Model_passes_136 : decode b_Model_passes 136 = .ok (.istore 6, 2) := by decide +kernel
theorem d_Model_passes_138 : decode b_Model_passes 138 = .ok (.iload 6, 2) := by decide +kernel
theorem d_Model_passes_140 : decode b_Model_passes 140 = .ok (.aload_n 0, 1) := by decide +kernel
theorem d_Model_passes_141 : decode b_Model_passes 141 = .ok (.getfield 246, 3) := by decide +kernel
theorem d_Model_passes_144 : decode b_Model_passes 144 = .ok (.if_icmp .ge 123, 3) := by decide +kernel
theorem d_Model_passes_147 : decode b_Model_passes 147 = .ok (.iload 5, 2) := by decide +kernel
theorem d_Model_passes_149 : decode b_Model_passes 149 = .ok (.iconst 4, 1) := by decide +kernel
theorem d_Model_passes_150 : decode b_Model_passes 150 = .ok (.if_icmp .ne 45, 3) := by decide +kernel
theorem d_Model_passes_153 : decode b_Model_passes 153 = .ok (.aload_n 0, 1) := by decide +kernel
theorem d_Model_passes_154 : decode b_Model_passes 154 = .ok (.getfield 56, 3) := by decide +kernel
theorem d_Model_passes_157 : decode b_Model_passes 157 = .ok (.iload 6, 2) := by decide +kernel
theorem d_Model_passes_159 : decode b_Model_passes 159 = .ok (.iaload, 1) := by decide +kernel
theorem d_Model_passes_160 : decode b_Model_passes 160 = .ok (.iload_n 2, 1) := by decide +kernel
theorem d_Model_passes_161 : decode b_Model_passes 161 = .ok (.if_icmp .ne 34, 3) := by decide +kernel
theorem d_Model_passes_164 : decode b_Model_passes 164 = .ok (.aload_n 0, 1) := by decide +kernel
theorem d_Model_passes_165 : decode b_Model_passes 165 = .ok (.getfield 53, 3) := by decide +kernel
theorem d_Model_passes_168 : decode b_Model_passes 168 = .ok (.iload 6, 2) := by decide +kernel
theorem d_Model_passes_170 : decode b_Model_passes 170 = .ok (.iaload, 1) := by decide +kernel
theorem d_Model_passes_171 : decode b_Model_passes 171 = .ok (.iload_n 3, 1) := by decide +kernel
theorem d_Model_passes_172 : decode b_Model_passes 172 = .ok (.if_icmp .ne 23, 3) := by decide +kernel
theorem d_Model_passes_175 : decode b_Model_passes 175 = .ok (.aload_n 0, 1) := by decide +kernel
theorem d_Model_passes_176 : decode b_Model_passes 176 = .ok (.getfield 68, 3) := by decide +kernel
theorem d_Model_passes_179 : decode b_Model_passes 179 = .ok (.iload 6, 2) := by decide +kernel
theorem d_Model_passes_181 : decode b_Model_passes 181 = .ok (.iaload, 1) := by decide +kernel
theorem d_Model_passes_182 : decode b_Model_passes 182 = .ok (.iconst (-1), 1) := by decide +kernel
theorem d_Model_passes_183 : decode b_Model_passes 183 = .ok (.if_icmp .ne 12, 3) := by decide +kernel
theorem d_Model_passes_186 : decode b_Model_passes 186 = .ok (.aload_n 0, 1) := by decide +kernel
theorem d_Model_passes_187 : decode b_Model_passes 187 = .ok (.getfield 68, 3) := by decide +kernel
theorem d_Model_passes_190 : decode b_Model_passes 190 = .ok (.iload 6, 2) := by decide +kernel
theorem d_Model_passes_192 : decode b_Model_passes 192 = .ok (.iload 4, 2) := by decide +kernel
theorem d_Model_passes_194 : decode b_Model_passes 194 = .ok (.iastore, 1) := by decide +kernel
theorem d_Model_passes_195 : decode b_Model_passes 195 = .ok (.iload 5, 2) := by decide +kernel
theorem d_Model_passes_197 : decode b_Model_passes 197 = .ok (.bipush 6, 2) := by decide +kernel
theorem d_Model_passes_199 : decode b_Model_passes 199 = .ok (.if_icmp .ne 36, 3) := by decide +kernel
theorem d_Model_passes_202 : decode b_Model_passes 202 = .ok (.aload_n 0, 1) := by decide +kernel
theorem d_Model_passes_203 : decode b_Model_passes 203 = .ok (.getfield 56, 3) := by decide +kernel
theorem d_Model_passes_206 : decode b_Model_passes 206 = .ok (.iload 6, 2) := by decide +kernel
theorem d_Model_passes_208 : decode b_Model_passes 208 = .ok (.iaload, 1) := by decide +kernel
theorem d_Model_passes_209 : decode b_Model_passes 209 = .ok (.iload_n 2, 1) := by decide +kernel
theorem d_Model_passes_210 : decode b_Model_passes 210 = .ok (.if_icmp .ne 25, 3) := by decide +kernel
theorem d_Model_passes_213 : decode b_Model_passes 213 = .ok (.aload_n 0, 1) := by decide +kernel
theorem d_Model_passes_214 : decode b_Model_passes 214 = .ok (.getfield 53, 3) := by decide +kernel
theorem d_Model_passes_217 : decode b_Model_passes 217 = .ok (.iload 6, 2) := by decide +kernel
theorem d_Model_passes_219 : decode b_Model_passes 219 = .ok (.iaload, 1) := by decide +kernel
theorem d_Model_passes_220 : decode b_Model_passes 220 = .ok (.iload_n 3, 1) := by decide +kernel
theorem d_Model_passes_221 : decode b_Model_passes 221 = .ok (.if_icmp .eq 14, 3) := by decide +kernel
theorem d_Model_passes_224 : decode b_Model_passes 224 = .ok (.aload_n 0, 1) := by decide +kernel
theorem d_Model_passes_225 : decode b_Model_passes 225 = .ok (.getfield 50, 3) := by decide +kernel
theorem d_Model_passes_228 : decode b_Model_passes 228 = .ok (.iload 6, 2) := by decide +kernel
theorem d_Model_passes_230 : decode b_Model_passes 230 = .ok (.iaload, 1) := by decide +kernel
theorem d_Model_passes_231 : decode b_Model_passes 231 = .ok (.iconst 3, 1) := by decide +kernel
theorem d_Model_passes_232 : decode b_Model_passes 232 = .ok (.if_icmp .lt 21, 3) := by decide +kernel
theorem d_Model_passes_235 : decode b_Model_passes 235 = .ok (.iload 5, 2) := by decide +kernel
theorem d_Model_passes_237 : decode b_Model_passes 237 = .ok (.bipush 8, 2) := by decide +kernel
theorem d_Model_passes_239 : decode b_Model_passes 239 = .ok (.if_icmp .ne 22, 3) := by decide +kernel
theorem d_Model_passes_242 : decode b_Model_passes 242 = .ok (.aload_n 0, 1) := by decide +kernel
theorem d_Model_passes_243 : decode b_Model_passes 243 = .ok (.iload 6, 2) := by decide +kernel
theorem d_Model_passes_245 : decode b_Model_passes 245 = .ok (.iload_n 2, 1) := by decide +kernel
theorem d_Model_passes_246 : decode b_Model_passes 246 = .ok (.iload_n 3, 1) := by decide +kernel
theorem d_Model_passes_247 : decode b_Model_passes 247 = .ok (.invokevirtual 256, 3) := by decide +kernel
theorem d_Model_passes_250 : decode b_Model_passes 250 = .ok (.ifCond .eq 11, 3) := by decide +kernel
theorem d_Model_passes_253 : decode b_Model_passes 253 = .ok (.aload_n 0, 1) := by decide +kernel
theorem d_Model_passes_254 : decode b_Model_passes 254 = .ok (.getfield 71, 3) := by decide +kernel
theorem d_Model_passes_257 : decode b_Model_passes 257 = .ok (.iload 6, 2) := by decide +kernel
theorem d_Model_passes_259 : decode b_Model_passes 259 = .ok (.iconst 1, 1) := by decide +kernel
theorem d_Model_passes_260 : decode b_Model_passes 260 = .ok (.bastore, 1) := by decide +kernel
theorem d_Model_passes_261 : decode b_Model_passes 261 = .ok (.iinc 6 1, 3) := by decide +kernel
theorem d_Model_passes_264 : decode b_Model_passes 264 = .ok (.goto (-126), 3) := by decide +kernel
theorem d_Model_passes_267 : decode b_Model_passes 267 = .ok (.iconst 0, 1) := by decide +kernel
theorem d_Model_passes_268 : decode b_Model_passes 268 = .ok (.istore 6, 2) := by decide +kernel
theorem d_Model_passes_270 : decode b_Model_passes 270 = .ok (.iload 6, 2) := by decide +kernel
theorem d_Model_passes_272 : decode b_Model_passes 272 = .ok (.aload_n 0, 1) := by decide +kernel
theorem d_Model_passes_273 : decode b_Model_passes 273 = .ok (.getfield 246, 3) := by decide +kernel
theorem d_Model_passes_276 : decode b_Model_passes 276 = .ok (.if_icmp .ge 50, 3) := by decide +kernel
theorem d_Model_passes_279 : decode b_Model_passes 279 = .ok (.iload 5, 2) := by decide +kernel
theorem d_Model_passes_281 : decode b_Model_passes 281 = .ok (.bipush 9, 2) := by decide +kernel
theorem d_Model_passes_283 : decode b_Model_passes 283 = .ok (.if_icmp .ne 43, 3) := by decide +kernel
theorem d_Model_passes_286 : decode b_Model_passes 286 = .ok (.aload_n 0, 1) := by decide +kernel
theorem d_Model_passes_287 : decode b_Model_passes 287 = .ok (.getfield 53, 3) := by decide +kernel
theorem d_Model_passes_290 : decode b_Model_passes 290 = .ok (.iload 6, 2) := by decide +kernel
theorem d_Model_passes_292 : decode b_Model_passes 292 = .ok (.aload_n 0, 1) := by decide +kernel
theorem d_Model_passes_293 : decode b_Model_passes 293 = .ok (.iload 6, 2) := by decide +kernel
theorem d_Model_passes_295 : decode b_Model_passes 295 = .ok (.iload_n 2, 1) := by decide +kernel
theorem d_Model_passes_296 : decode b_Model_passes 296 = .ok (.iload_n 3, 1) := by decide +kernel
theorem d_Model_passes_297 : decode b_Model_passes 297 = .ok (.invokevirtual 256, 3) := by decide +kernel
theorem d_Model_passes_300 : decode b_Model_passes 300 = .ok (.ifCond .eq 12, 3) := by decide +kernel
theorem d_Model_passes_303 : decode b_Model_passes 303 = .ok (.aload_n 0, 1) := by decide +kernel
theorem d_Model_passes_304 : decode b_Model_passes 304 = .ok (.getfield 31, 3) := by decide +kernel
theorem d_Model_passes_307 : decode b_Model_passes 307 = .ok (.iload_n 1, 1) := by decide +kernel
theorem d_Model_passes_308 : decode b_Model_passes 308 = .ok (.iaload, 1) := by decide +kernel
theorem d_Model_passes_309 : decode b_Model_passes 309 = .ok (.goto 10, 3) := by decide +kernel
theorem d_Model_passes_312 : decode b_Model_passes 312 = .ok (.aload_n 0, 1) := by decide +kernel
theorem d_Model_passes_313 : decode b_Model_passes 313 = .ok (.getfield 53, 3) := by decide +kernel
theorem d_Model_passes_316 : decode b_Model_passes 316 = .ok (.iload 6, 2) := by decide +kernel
theorem d_Model_passes_318 : decode b_Model_passes 318 = .ok (.iaload, 1) := by decide +kernel
theorem d_Model_passes_319 : decode b_Model_passes 319 = .ok (.iastore, 1) := by decide +kernel
theorem d_Model_passes_320 : decode b_Model_passes 320 = .ok (.iinc 6 1, 3) := by decide +kernel
theorem d_Model_passes_323 : decode b_Model_passes 323 = .ok (.goto (-53), 3) := by decide +kernel
theorem d_Model_passes_326 : decode b_Model_passes 326 = .ok (.aload_n 0, 1) := by decide +kernel
theorem d_Model_passes_327 : decode b_Model_passes 327 = .ok (.getfield 81, 3) := by decide +kernel
theorem d_Model_passes_330 : decode b_Model_passes 330 = .ok (.iload_n 2, 1) := by decide +kernel
theorem d_Model_passes_331 : decode b_Model_passes 331 = .ok (.aload_n 0, 1) := by decide +kernel
theorem d_Model_passes_332 : decode b_Model_passes 332 = .ok (.getfield 81, 3) := by decide +kernel
theorem d_Model_passes_335 : decode b_Model_passes 335 = .ok (.iload_n 2, 1) := by decide +kernel
theorem d_Model_passes_336 : decode b_Model_passes 336 = .ok (.baload, 1) := by decide +kernel
theorem d_Model_passes_337 : decode b_Model_passes 337 = .ok (.ifCond .ne 10, 3) := by decide +kernel
theorem d_Model_passes_340 : decode b_Model_passes 340 = .ok (.iload 5, 2) := by decide +kernel
theorem d_Model_passes_342 : decode b_Model_passes 342 = .ok (.bipush 6, 2) := by decide +kernel
theorem d_Model_passes_344 : decode b_Model_passes 344 = .ok (.if_icmp .ne 7, 3) := by decide +kernel
theorem d_Model_passes_347 : decode b_Model_passes 347 = .ok (.iconst 1, 1) := by decide +kernel
theorem d_Model_passes_348 : decode b_Model_passes 348 = .ok (.goto 4, 3) := by decide +kernel
theorem d_Model_passes_351 : decode b_Model_passes 351 = .ok (.iconst 0, 1) := by decide +kernel
theorem d_Model_passes_352 : decode b_Model_passes 352 = .ok (.bastore, 1) := by decide +kernel
theorem d_Model_passes_353 : decode b_Model_passes 353 = .ok (.return_, 1) := by decide +kernel
theorem v_Model_passes : dk_Yv y_Model_passes b_Model_passes 7 (none) 1 := ⟨dk_in (List.mem_of_getElem? (i := 1252) (by decide +kernel)) rfl, dk_in (List.mem_of_getElem? (i := 51) (by decide +kernel)) rfl, dk_in (List.mem_of_getElem? (i := 75) (by decide +kernel)) rfl, dk_in (List.mem_of_getElem? (i := 1253) (by decide +kernel)) rfl, by decide +kernel, by decide +kernel, by decide +kernel⟩
abbrev rm_Model_passes : Room := { frames := 2, cells := 0, slots := 0, locals := 49 }
theorem m_Model_252 : Cond.methodLink R_Model 252 y_Model_crosses ∈ dk_tb := dk_in (List.mem_of_getElem? (i := 1254) (by decide +kernel)) rfl
theorem m_Model_256 : Cond.methodLink R_Model 256 y_Model_isHeldBy ∈ dk_tb := dk_in (List.mem_of_getElem? (i := 1258) (by decide +kernel)) rfl
def B_Model_passes_68 (n : Nat)  (u1 : Int32) (u2 : Int32) (u3 : Int32) (u4 : Int32) (u5 : Int32) (S : dk_S) : Option dk_S :=
  dk_cv (F_Model_makes n u1 u2 u3 u4 u5 (-1 : Int32) S) fun S1 => some S1
set_option maxRecDepth 20000 in
theorem kb_Model_passes_68 {p : Program} {l : Launch} {e : Env} {s : State} {m : MethodId} {args : Array Value} {below : List Frame} {meth : Method} {c : Code} {g : dk_G} {A : Nat → Prop} {Q : State → Prop} {am : Nat → Nat} {n : Nat} {res : dk_S} (X : dk_X p s m args meth c b_Model_passes 7 R_Model (none) g A) (hR : dk_Rv p l e rm_Model_passes s m args below meth c g A Q 7 b_Model_passes (none) (wM g am) res)  {u1 : Int32} {u2 : Int32} {u3 : Int32} {u4 : Int32} {u5 : Int32} {S : dk_S}  (hF : B_Model_passes_68 n  u1 u2 u3 u4 u5 S = some res) : dk_J p l e rm_Model_passes s m args below meth c g A Q 7 0 0 68 [] [.int u5, .int u4, .int u3, .int u2, .int u1, .ref (am 0)] (wM g am S) := by
  unfold B_Model_passes_68 at hF
  refine dk_iconst (v := -1) X (by decide) d_Model_passes_68 ?_
  refine dk_callVv X v_Model_makes [.int u1, .int u2, .int u3, .int u4, .int u5, .int (-1 : Int32)] (c_Model_makes l g am n u1 u2 u3 u4 u5 (-1 : Int32) S) 0 (oM_Model g am S) rfl rfl m_Model_249 rfl rfl ⟨rfl, rfl, Nat.le_of_ble_eq_true rfl, Nat.le_of_ble_eq_true rfl, Nat.le_refl _, Nat.le_refl _⟩ (Nat.le_of_ble_eq_true rfl) d_Model_passes_69 hF (fun S1 hF => ?_)
  refine dk_goto (tgt := 353) X (by decide) d_Model_passes_72 ?_
  exact dk_retv hR hF d_Model_passes_353
def B_Model_passes_106 (n : Nat)  (u1 : Int32) (u2 : Int32) (u3 : Int32) (u4 : Int32) (u5 : Int32) (S : dk_S) : Option dk_S :=
  dk_cv (F_Model_makes n u1 u2 u3 u4 u5 (-1 : Int32) S) fun S3 => some S3
set_option maxRecDepth 20000 in
theorem kb_Model_passes_106 {p : Program} {l : Launch} {e : Env} {s : State} {m : MethodId} {args : Array Value} {below : List Frame} {meth : Method} {c : Code} {g : dk_G} {A : Nat → Prop} {Q : State → Prop} {am : Nat → Nat} {n : Nat} {res : dk_S} (X : dk_X p s m args meth c b_Model_passes 7 R_Model (none) g A) (hR : dk_Rv p l e rm_Model_passes s m args below meth c g A Q 7 b_Model_passes (none) (wM g am) res)  {u1 : Int32} {u2 : Int32} {u3 : Int32} {u4 : Int32} {u5 : Int32} {S : dk_S}  (hF : B_Model_passes_106 n  u1 u2 u3 u4 u5 S = some res) : dk_J p l e rm_Model_passes s m args below meth c g A Q 7 0 0 106 [] [.int u5, .int u4, .int u3, .int u2, .int u1, .ref (am 0)] (wM g am S) := by
  unfold B_Model_passes_106 at hF
  refine dk_iconst (v := -1) X (by decide) d_Model_passes_106 ?_
  refine dk_callVv X v_Model_makes [.int u1, .int u2, .int u3, .int u4, .int u5, .int (-1 : Int32)] (c_Model_makes l g am n u1 u2 u3 u4 u5 (-1 : Int32) S) 0 (oM_Model g am S) rfl rfl m_Model_249 rfl rfl ⟨rfl, rfl, Nat.le_of_ble_eq_true rfl, Nat.le_of_ble_eq_true rfl, Nat.le_refl _, Nat.le_refl _⟩ (Nat.le_of_ble_eq_true rfl) d_Model_passes_107 hF (fun S3 hF => ?_)
  refine dk_goto (tgt := 353) X (by decide) d_Model_passes_110 ?_
  exact dk_retv hR hF d_Model_passes_353
def B_Model_passes_88 (n : Nat)  (x2 : Int32) (x3 : Int32) (x4 : Int32) (x5 : Int32) (S : dk_S) : Option dk_S :=
  if ¬ x5 = (7 : Int32) then (B_Model_passes_106 n  (3 : Int32) x3 x2 x4 (0 : Int32) S) else (B_Model_passes_106 n  (3 : Int32) x3 x2 x4 (5 : Int32) S)
set_option maxRecDepth 20000 in
theorem kb_Model_passes_88 {p : Program} {l : Launch} {e : Env} {s : State} {m : MethodId} {args : Array Value} {below : List Frame} {meth : Method} {c : Code} {g : dk_G} {A : Nat → Prop} {Q : State → Prop} {am : Nat → Nat} {n : Nat} {res : dk_S} (X : dk_X p s m args meth c b_Model_passes 7 R_Model (none) g A) (hR : dk_Rv p l e rm_Model_passes s m args below meth c g A Q 7 b_Model_passes (none) (wM g am) res)  {x2 : Int32} {x3 : Int32} {x4 : Int32} {x5 : Int32} {S : dk_S}  (hF : B_Model_passes_88 n  x2 x3 x4 x5 S = some res) : dk_J p l e rm_Model_passes s m args below meth c g A Q 7 0 0 88 [(0, .ref (am 0)), (2, .int x2), (3, .int x3), (4, .int x4), (5, .int x5)] [] (wM g am S) := by
  unfold B_Model_passes_88 at hF
  refine dk_aload_n (k := 0) (i := 0) X 0 rfl rfl d_Model_passes_88 ?_
  refine dk_iconst (v := 3) X (by decide) d_Model_passes_89 ?_
  refine dk_iload_n (k := 3) (i := 3) X 2 rfl rfl d_Model_passes_90 ?_
  refine dk_iload_n (k := 2) (i := 2) X 1 rfl rfl d_Model_passes_91 ?_
  refine dk_iload (i := 4) X 3 rfl d_Model_passes_92 ?_
  refine dk_iload (i := 5) X 4 rfl d_Model_passes_94 ?_
  refine dk_bipush (v := 7) X (by decide) d_Model_passes_96 ?_
  refine dk_icmp_ne (tgt := 105) X (by decide) d_Model_passes_98 hF (fun hF => ?_) (fun hF => ?_)
  · refine dk_iconst (v := 0) X (by decide) d_Model_passes_105 ?_
    exact dk_sub [] rfl (kb_Model_passes_106 (n := n) X hR   hF)
  · refine dk_iconst (v := 5) X (by decide) d_Model_passes_101 ?_
    refine dk_goto (tgt := 106) X (by decide) d_Model_passes_102 ?_
    exact dk_sub [] rfl (kb_Model_passes_106 (n := n) X hR   hF)
def B_Model_passes_261 (n : Nat) (k138 : Int32 → Int32 → Int32 → Int32 → Int32 → Int32 → dk_S → Option dk_S) (x1 : Int32) (x2 : Int32) (x3 : Int32) (x4 : Int32) (x5 : Int32) (x6 : Int32) (S : dk_S) : Option dk_S :=
  k138 x1 x2 x3 x4 x5 (x6 + (1 : Int32)) S
set_option maxRecDepth 20000 in
theorem kb_Model_passes_261 {p : Program} {l : Launch} {e : Env} {s : State} {m : MethodId} {args : Array Value} {below : List Frame} {meth : Method} {c : Code} {g : dk_G} {A : Nat → Prop} {Q : State → Prop} {am : Nat → Nat} {n : Nat} {res : dk_S} (X : dk_X p s m args meth c b_Model_passes 7 R_Model (none) g A) (hR : dk_Rv p l e rm_Model_passes s m args below meth c g A Q 7 b_Model_passes (none) (wM g am) res) {k138 : Int32 → Int32 → Int32 → Int32 → Int32 → Int32 → dk_S → Option dk_S} (hk138 : ∀ (x1 : Int32) (x2 : Int32) (x3 : Int32) (x4 : Int32) (x5 : Int32) (x6 : Int32)  (S : dk_S), k138 x1 x2 x3 x4 x5 x6 S = some res → dk_J p l e rm_Model_passes s m args below meth c g A Q 7 0 0 138 [(0, .ref (am 0)), (1, .int x1), (2, .int x2), (3, .int x3), (4, .int x4), (5, .int x5), (6, .int x6)] [] (wM g am S)) {x1 : Int32} {x2 : Int32} {x3 : Int32} {x4 : Int32} {x5 : Int32} {x6 : Int32} {S : dk_S}  (hF : B_Model_passes_261 n k138 x1 x2 x3 x4 x5 x6 S = some res) : dk_J p l e rm_Model_passes s m args below meth c g A Q 7 0 0 261 [(0, .ref (am 0)), (1, .int x1), (2, .int x2), (3, .int x3), (4, .int x4), (5, .int x5), (6, .int x6)] [] (wM g am S) := by
  unfold B_Model_passes_261 at hF
  refine dk_iinc (i := 6) (v := (x6 + (1 : Int32))) (lv' := [(6, .int (x6 + (1 : Int32))), (0, .ref (am 0)), (1, .int x1), (2, .int x2), (3, .int x3), (4, .int x4), (5, .int x5)]) X 6 rfl (dk_ii _ (by decide)) (by decide) rfl d_Model_passes_261 ?_
  refine dk_goto (tgt := 138) X (by decide) d_Model_passes_264 ?_
  exact dk_sub [1, 2, 3, 4, 5, 6, 0] rfl (hk138 x1 x2 x3 x4 x5 (x6 + (1 : Int32)) S hF)
def B_Model_passes_253 (n : Nat) (k138 : Int32 → Int32 → Int32 → Int32 → Int32 → Int32 → dk_S → Option dk_S) (x1 : Int32) (x2 : Int32) (x3 : Int32) (x4 : Int32) (x5 : Int32) (x6 : Int32) (S : dk_S) : Option dk_S :=
  dk_w S 26 44 x6 (vp_nar .boolean (1 : Int32)) fun S5 => B_Model_passes_261 n k138 x1 x2 x3 x4 x5 x6 S5
set_option maxRecDepth 20000 in
theorem kb_Model_passes_253 {p : Program} {l : Launch} {e : Env} {s : State} {m : MethodId} {args : Array Value} {below : List Frame} {meth : Method} {c : Code} {g : dk_G} {A : Nat → Prop} {Q : State → Prop} {am : Nat → Nat} {n : Nat} {res : dk_S} (X : dk_X p s m args meth c b_Model_passes 7 R_Model (none) g A) (hR : dk_Rv p l e rm_Model_passes s m args below meth c g A Q 7 b_Model_passes (none) (wM g am) res) {k138 : Int32 → Int32 → Int32 → Int32 → Int32 → Int32 → dk_S → Option dk_S} (hk138 : ∀ (x1 : Int32) (x2 : Int32) (x3 : Int32) (x4 : Int32) (x5 : Int32) (x6 : Int32)  (S : dk_S), k138 x1 x2 x3 x4 x5 x6 S = some res → dk_J p l e rm_Model_passes s m args below meth c g A Q 7 0 0 138 [(0, .ref (am 0)), (1, .int x1), (2, .int x2), (3, .int x3), (4, .int x4), (5, .int x5), (6, .int x6)] [] (wM g am S)) {x1 : Int32} {x2 : Int32} {x3 : Int32} {x4 : Int32} {x5 : Int32} {x6 : Int32} {S : dk_S}  (hF : B_Model_passes_253 n k138 x1 x2 x3 x4 x5 x6 S = some res) : dk_J p l e rm_Model_passes s m args below meth c g A Q 7 0 0 253 [(0, .ref (am 0)), (1, .int x1), (2, .int x2), (3, .int x3), (4, .int x4), (5, .int x5), (6, .int x6)] [] (wM g am S) := by
  unfold B_Model_passes_253 at hF
  refine dk_aload_n (k := 0) (i := 0) X 0 rfl rfl d_Model_passes_253 ?_
  refine dk_get X q_Model 0 26 (by decide) (oM_Model g am S) rfl f_Model_71 d_Model_passes_254 ?_
  refine dk_iload (i := 6) X 6 rfl d_Model_passes_257 ?_
  refine dk_iconst (v := 1) X (by decide) d_Model_passes_259 ?_
  refine dk_zast X 20 (aM_20 g am S) (sM_20 g am S _ _) d_Model_passes_260 hF (fun S5 hF => ?_)
  exact (kb_Model_passes_261 (n := n) X hR hk138  hF)
def B_Model_passes_235 (n : Nat) (k138 : Int32 → Int32 → Int32 → Int32 → Int32 → Int32 → dk_S → Option dk_S) (x1 : Int32) (x2 : Int32) (x3 : Int32) (x4 : Int32) (x5 : Int32) (x6 : Int32) (S : dk_S) : Option dk_S :=
  if ¬ x5 = (8 : Int32) then (B_Model_passes_261 n k138 x1 x2 x3 x4 x5 x6 S) else (dk_c (F_Model_isHeldBy n x6 x2 x3 S) fun r7 S6 => if r7 = 0 then (B_Model_passes_261 n k138 x1 x2 x3 x4 x5 x6 S6) else (B_Model_passes_253 n k138 x1 x2 x3 x4 x5 x6 S6))
set_option maxRecDepth 20000 in
theorem kb_Model_passes_235 {p : Program} {l : Launch} {e : Env} {s : State} {m : MethodId} {args : Array Value} {below : List Frame} {meth : Method} {c : Code} {g : dk_G} {A : Nat → Prop} {Q : State → Prop} {am : Nat → Nat} {n : Nat} {res : dk_S} (X : dk_X p s m args meth c b_Model_passes 7 R_Model (none) g A) (hR : dk_Rv p l e rm_Model_passes s m args below meth c g A Q 7 b_Model_passes (none) (wM g am) res) {k138 : Int32 → Int32 → Int32 → Int32 → Int32 → Int32 → dk_S → Option dk_S} (hk138 : ∀ (x1 : Int32) (x2 : Int32) (x3 : Int32) (x4 : Int32) (x5 : Int32) (x6 : Int32)  (S : dk_S), k138 x1 x2 x3 x4 x5 x6 S = some res → dk_J p l e rm_Model_passes s m args below meth c g A Q 7 0 0 138 [(0, .ref (am 0)), (1, .int x1), (2, .int x2), (3, .int x3), (4, .int x4), (5, .int x5), (6, .int x6)] [] (wM g am S)) {x1 : Int32} {x2 : Int32} {x3 : Int32} {x4 : Int32} {x5 : Int32} {x6 : Int32} {S : dk_S}  (hF : B_Model_passes_235 n k138 x1 x2 x3 x4 x5 x6 S = some res) : dk_J p l e rm_Model_passes s m args below meth c g A Q 7 0 0 235 [(0, .ref (am 0)), (1, .int x1), (2, .int x2), (3, .int x3), (4, .int x4), (5, .int x5), (6, .int x6)] [] (wM g am S) := by
  unfold B_Model_passes_235 at hF
  refine dk_iload (i := 5) X 5 rfl d_Model_passes_235 ?_
  refine dk_bipush (v := 8) X (by decide) d_Model_passes_237 ?_
  refine dk_icmp_ne (tgt := 261) X (by decide) d_Model_passes_239 hF (fun hF => ?_) (fun hF => ?_)
  · exact (kb_Model_passes_261 (n := n) X hR hk138  hF)
  · refine dk_aload_n (k := 0) (i := 0) X 0 rfl rfl d_Model_passes_242 ?_
    refine dk_iload (i := 6) X 6 rfl d_Model_passes_243 ?_
    refine dk_iload_n (k := 2) (i := 2) X 2 rfl rfl d_Model_passes_245 ?_
    refine dk_iload_n (k := 3) (i := 3) X 3 rfl rfl d_Model_passes_246 ?_
    refine dk_callVi X v_Model_isHeldBy [.int x6, .int x2, .int x3] (c_Model_isHeldBy l g am n x6 x2 x3 S) 0 (oM_Model g am S) rfl rfl m_Model_256 rfl rfl ⟨rfl, rfl, Nat.le_of_ble_eq_true rfl, Nat.le_of_ble_eq_true rfl, Nat.le_refl _, Nat.le_refl _⟩ (Nat.le_of_ble_eq_true rfl) d_Model_passes_247 hF (fun r7 S6 hF => ?_)
    refine dk_if_eq (tgt := 261) X (by decide) d_Model_passes_250 hF (fun hF => ?_) (fun hF => ?_)
    · exact (kb_Model_passes_261 (n := n) X hR hk138  hF)
    · exact (kb_Model_passes_253 (n := n) X hR hk138  hF)
def B_Model_passes_195 (n : Nat) (k138 : Int32 → Int32 → Int32 → Int32 → Int32 → Int32 → dk_S → Option dk_S) (x1 : Int32) (x2 : Int32) (x3 : Int32) (x4 : Int32) (x5 : Int32) (x6 : Int32) (S : dk_S) : Option dk_S :=
  if ¬ x5 = (6 : Int32) then (B_Model_passes_235 n k138 x1 x2 x3 x4 x5 x6 S) else (dk_r 44 (S 21) x6 fun v8 => if ¬ v8 = x2 then (B_Model_passes_235 n k138 x1 x2 x3 x4 x5 x6 S) else (dk_r 44 (S 20) x6 fun v9 => if v9 = x3 then (B_Model_passes_235 n k138 x1 x2 x3 x4 x5 x6 S) else (dk_r 44 (S 19) x6 fun v10 => if v10 < (3 : Int32) then (B_Model_passes_253 n k138 x1 x2 x3 x4 x5 x6 S) else (B_Model_passes_235 n k138 x1 x2 x3 x4 x5 x6 S))))
set_option maxRecDepth 20000 in
theorem kb_Model_passes_195 {p : Program} {l : Launch} {e : Env} {s : State} {m : MethodId} {args : Array Value} {below : List Frame} {meth : Method} {c : Code} {g : dk_G} {A : Nat → Prop} {Q : State → Prop} {am : Nat → Nat} {n : Nat} {res : dk_S} (X : dk_X p s m args meth c b_Model_passes 7 R_Model (none) g A) (hR : dk_Rv p l e rm_Model_passes s m args below meth c g A Q 7 b_Model_passes (none) (wM g am) res) {k138 : Int32 → Int32 → Int32 → Int32 → Int32 → Int32 → dk_S → Option dk_S} (hk138 : ∀ (x1 : Int32) (x2 : Int32) (x3 : Int32) (x4 : Int32) (x5 : Int32) (x6 : Int32)  (S : dk_S), k138 x1 x2 x3 x4 x5 x6 S = some res → dk_J p l e rm_Model_passes s m args below meth c g A Q 7 0 0 138 [(0, .ref (am 0)), (1, .int x1), (2, .int x2), (3, .int x3), (4, .int x4), (5, .int x5), (6, .int x6)] [] (wM g am S)) {x1 : Int32} {x2 : Int32} {x3 : Int32} {x4 : Int32} {x5 : Int32} {x6 : Int32} {S : dk_S}  (hF : B_Model_passes_195 n k138 x1 x2 x3 x4 x5 x6 S = some res) : dk_J p l e rm_Model_passes s m args below meth c g A Q 7 0 0 195 [(0, .ref (am 0)), (1, .int x1), (2, .int x2), (3, .int x3), (4, .int x4), (5, .int x5), (6, .int x6)] [] (wM g am S) := by
  unfold B_Model_passes_195 at hF
  refine dk_iload (i := 5) X 5 rfl d_Model_passes_195 ?_
  refine dk_bipush (v := 6) X (by decide) d_Model_passes_197 ?_
  refine dk_icmp_ne (tgt := 235) X (by decide) d_Model_passes_199 hF (fun hF => ?_) (fun hF => ?_)
  · exact (kb_Model_passes_235 (n := n) X hR hk138  hF)
  · refine dk_aload_n (k := 0) (i := 0) X 0 rfl rfl d_Model_passes_202 ?_
    refine dk_get X q_Model 0 21 (by decide) (oM_Model g am S) rfl f_Model_56 d_Model_passes_203 ?_
    refine dk_iload (i := 6) X 6 rfl d_Model_passes_206 ?_
    refine dk_iald X 15 (aM_15 g am S) d_Model_passes_208 hF (fun v8 hF => ?_)
    refine dk_iload_n (k := 2) (i := 2) X 2 rfl rfl d_Model_passes_209 ?_
    refine dk_icmp_ne (tgt := 235) X (by decide) d_Model_passes_210 hF (fun hF => ?_) (fun hF => ?_)
    · exact (kb_Model_passes_235 (n := n) X hR hk138  hF)
    · refine dk_aload_n (k := 0) (i := 0) X 0 rfl rfl d_Model_passes_213 ?_
      refine dk_get X q_Model 0 20 (by decide) (oM_Model g am S) rfl f_Model_53 d_Model_passes_214 ?_
      refine dk_iload (i := 6) X 6 rfl d_Model_passes_217 ?_
      refine dk_iald X 14 (aM_14 g am S) d_Model_passes_219 hF (fun v9 hF => ?_)
      refine dk_iload_n (k := 3) (i := 3) X 3 rfl rfl d_Model_passes_220 ?_
      refine dk_icmp_eq (tgt := 235) X (by decide) d_Model_passes_221 hF (fun hF => ?_) (fun hF => ?_)
      · exact (kb_Model_passes_235 (n := n) X hR hk138  hF)
      · refine dk_aload_n (k := 0) (i := 0) X 0 rfl rfl d_Model_passes_224 ?_
        refine dk_get X q_Model 0 19 (by decide) (oM_Model g am S) rfl f_Model_50 d_Model_passes_225 ?_
        refine dk_iload (i := 6) X 6 rfl d_Model_passes_228 ?_
        refine dk_iald X 13 (aM_13 g am S) d_Model_passes_230 hF (fun v10 hF => ?_)
        refine dk_iconst (v := 3) X (by decide) d_Model_passes_231 ?_
        refine dk_icmp_lt (tgt := 253) X (by decide) d_Model_passes_232 hF (fun hF => ?_) (fun hF => ?_)
        · exact (kb_Model_passes_253 (n := n) X hR hk138  hF)
        · exact (kb_Model_passes_235 (n := n) X hR hk138  hF)
def B_Model_passes_319 (n : Nat) (k270 : Int32 → Int32 → Int32 → Int32 → Int32 → dk_S → Option dk_S) (x1 : Int32) (x2 : Int32) (x3 : Int32) (x5 : Int32) (x6 : Int32) (u1 : Int32) (u2 : Int32) (S : dk_S) : Option dk_S :=
  dk_w S 20 44 u1 u2 fun S11 => k270 x1 x2 x3 x5 (x6 + (1 : Int32)) S11
set_option maxRecDepth 20000 in
theorem kb_Model_passes_319 {p : Program} {l : Launch} {e : Env} {s : State} {m : MethodId} {args : Array Value} {below : List Frame} {meth : Method} {c : Code} {g : dk_G} {A : Nat → Prop} {Q : State → Prop} {am : Nat → Nat} {n : Nat} {res : dk_S} (X : dk_X p s m args meth c b_Model_passes 7 R_Model (none) g A) (hR : dk_Rv p l e rm_Model_passes s m args below meth c g A Q 7 b_Model_passes (none) (wM g am) res) {k270 : Int32 → Int32 → Int32 → Int32 → Int32 → dk_S → Option dk_S} (hk270 : ∀ (x1 : Int32) (x2 : Int32) (x3 : Int32) (x5 : Int32) (x6 : Int32)  (S : dk_S), k270 x1 x2 x3 x5 x6 S = some res → dk_J p l e rm_Model_passes s m args below meth c g A Q 7 0 0 270 [(0, .ref (am 0)), (1, .int x1), (2, .int x2), (3, .int x3), (5, .int x5), (6, .int x6)] [] (wM g am S)) {x1 : Int32} {x2 : Int32} {x3 : Int32} {x5 : Int32} {x6 : Int32} {u1 : Int32} {u2 : Int32} {S : dk_S}  (hF : B_Model_passes_319 n k270 x1 x2 x3 x5 x6 u1 u2 S = some res) : dk_J p l e rm_Model_passes s m args below meth c g A Q 7 0 0 319 [(0, .ref (am 0)), (1, .int x1), (2, .int x2), (3, .int x3), (5, .int x5), (6, .int x6)] [.int u2, .int u1, .ref (am 14)] (wM g am S) := by
  unfold B_Model_passes_319 at hF
  refine dk_iast X 14 (aM_14 g am S) (sM_14 g am S _ _) d_Model_passes_319 hF (fun S11 hF => ?_)
  refine dk_iinc (i := 6) (v := (x6 + (1 : Int32))) (lv' := [(6, .int (x6 + (1 : Int32))), (0, .ref (am 0)), (1, .int x1), (2, .int x2), (3, .int x3), (5, .int x5)]) X 5 rfl (dk_ii _ (by decide)) (by decide) rfl d_Model_passes_320 ?_
  refine dk_goto (tgt := 270) X (by decide) d_Model_passes_323 ?_
  exact dk_sub [1, 2, 3, 4, 5, 0] rfl (hk270 x1 x2 x3 x5 (x6 + (1 : Int32)) S11 hF)
def B_Model_passes_352 (n : Nat)  (u1 : Int32) (u2 : Int32) (S : dk_S) : Option dk_S :=
  dk_w S 29 6 u1 (vp_nar .boolean u2) fun S12 => some S12
set_option maxRecDepth 20000 in
theorem kb_Model_passes_352 {p : Program} {l : Launch} {e : Env} {s : State} {m : MethodId} {args : Array Value} {below : List Frame} {meth : Method} {c : Code} {g : dk_G} {A : Nat → Prop} {Q : State → Prop} {am : Nat → Nat} {n : Nat} {res : dk_S} (X : dk_X p s m args meth c b_Model_passes 7 R_Model (none) g A) (hR : dk_Rv p l e rm_Model_passes s m args below meth c g A Q 7 b_Model_passes (none) (wM g am) res)  {u1 : Int32} {u2 : Int32} {S : dk_S}  (hF : B_Model_passes_352 n  u1 u2 S = some res) : dk_J p l e rm_Model_passes s m args below meth c g A Q 7 0 0 352 [] [.int u2, .int u1, .ref (am 23)] (wM g am S) := by
  unfold B_Model_passes_352 at hF
  refine dk_zast X 23 (aM_23 g am S) (sM_23 g am S _ _) d_Model_passes_352 hF (fun S12 hF => ?_)
  exact dk_retv hR hF d_Model_passes_353
def B_Model_passes_347 (n : Nat)  (u1 : Int32) (S : dk_S) : Option dk_S :=
  B_Model_passes_352 n  u1 (1 : Int32) S
set_option maxRecDepth 20000 in
theorem kb_Model_passes_347 {p : Program} {l : Launch} {e : Env} {s : State} {m : MethodId} {args : Array Value} {below : List Frame} {meth : Method} {c : Code} {g : dk_G} {A : Nat → Prop} {Q : State → Prop} {am : Nat → Nat} {n : Nat} {res : dk_S} (X : dk_X p s m args meth c b_Model_passes 7 R_Model (none) g A) (hR : dk_Rv p l e rm_Model_passes s m args below meth c g A Q 7 b_Model_passes (none) (wM g am) res)  {u1 : Int32} {S : dk_S}  (hF : B_Model_passes_347 n  u1 S = some res) : dk_J p l e rm_Model_passes s m args below meth c g A Q 7 0 0 347 [] [.int u1, .ref (am 23)] (wM g am S) := by
  unfold B_Model_passes_347 at hF
  refine dk_iconst (v := 1) X (by decide) d_Model_passes_347 ?_
  refine dk_goto (tgt := 352) X (by decide) d_Model_passes_348 ?_
  exact (kb_Model_passes_352 (n := n) X hR   hF)
def B_Model_passes_326 (n : Nat)  (x2 : Int32) (x5 : Int32) (S : dk_S) : Option dk_S :=
  dk_r 6 (S 29) x2 fun v13 => if ¬ v13 = 0 then (B_Model_passes_347 n  x2 S) else (if ¬ x5 = (6 : Int32) then (B_Model_passes_352 n  x2 (0 : Int32) S) else (B_Model_passes_347 n  x2 S))
set_option maxRecDepth 20000 in
theorem kb_Model_passes_326 {p : Program} {l : Launch} {e : Env} {s : State} {m : MethodId} {args : Array Value} {below : List Frame} {meth : Method} {c : Code} {g : dk_G} {A : Nat → Prop} {Q : State → Prop} {am : Nat → Nat} {n : Nat} {res : dk_S} (X : dk_X p s m args meth c b_Model_passes 7 R_Model (none) g A) (hR : dk_Rv p l e rm_Model_passes s m args below meth c g A Q 7 b_Model_passes (none) (wM g am) res)  {x2 : Int32} {x5 : Int32} {S : dk_S}  (hF : B_Model_passes_326 n  x2 x5 S = some res) : dk_J p l e rm_Model_passes s m args below meth c g A Q 7 0 0 326 [(0, .ref (am 0)), (2, .int x2), (5, .int x5)] [] (wM g am S) := by
  unfold B_Model_passes_326 at hF
  refine dk_aload_n (k := 0) (i := 0) X 0 rfl rfl d_Model_passes_326 ?_
  refine dk_get X q_Model 0 29 (by decide) (oM_Model g am S) rfl f_Model_81 d_Model_passes_327 ?_
  refine dk_iload_n (k := 2) (i := 2) X 1 rfl rfl d_Model_passes_330 ?_
  refine dk_aload_n (k := 0) (i := 0) X 0 rfl rfl d_Model_passes_331 ?_
  refine dk_get X q_Model 0 29 (by decide) (oM_Model g am S) rfl f_Model_81 d_Model_passes_332 ?_
  refine dk_iload_n (k := 2) (i := 2) X 1 rfl rfl d_Model_passes_335 ?_
  refine dk_zald X 23 (aM_23 g am S) d_Model_passes_336 hF (fun v13 hF => ?_)
  refine dk_if_ne (tgt := 347) X (by decide) d_Model_passes_337 hF (fun hF => ?_) (fun hF => ?_)
  · exact dk_sub [] rfl (kb_Model_passes_347 (n := n) X hR   hF)
  · refine dk_iload (i := 5) X 2 rfl d_Model_passes_340 ?_
    refine dk_bipush (v := 6) X (by decide) d_Model_passes_342 ?_
    refine dk_icmp_ne (tgt := 351) X (by decide) d_Model_passes_344 hF (fun hF => ?_) (fun hF => ?_)
    · refine dk_iconst (v := 0) X (by decide) d_Model_passes_351 ?_
      exact dk_sub [] rfl (kb_Model_passes_352 (n := n) X hR   hF)
    · exact dk_sub [] rfl (kb_Model_passes_347 (n := n) X hR   hF)
def B_Model_passes_270b (n : Nat) (k270 : Int32 → Int32 → Int32 → Int32 → Int32 → dk_S → Option dk_S) (x1 : Int32) (x2 : Int32) (x3 : Int32) (x5 : Int32) (x6 : Int32) (S : dk_S) : Option dk_S :=
  if (S 18 0) ≤ x6 then (B_Model_passes_326 n  x2 x5 S) else (if ¬ x5 = (9 : Int32) then (B_Model_passes_326 n  x2 x5 S) else (dk_c (F_Model_isHeldBy n x6 x2 x3 S) fun r15 S14 => if r15 = 0 then (dk_r 44 (S14 20) x6 fun v16 => B_Model_passes_319 n k270 x1 x2 x3 x5 x6 x6 v16 S14) else (dk_r 32 (S14 10) x1 fun v17 => B_Model_passes_319 n k270 x1 x2 x3 x5 x6 x6 v17 S14)))
set_option maxRecDepth 20000 in
theorem kb_Model_passes_270b {p : Program} {l : Launch} {e : Env} {s : State} {m : MethodId} {args : Array Value} {below : List Frame} {meth : Method} {c : Code} {g : dk_G} {A : Nat → Prop} {Q : State → Prop} {am : Nat → Nat} {n : Nat} {res : dk_S} (X : dk_X p s m args meth c b_Model_passes 7 R_Model (none) g A) (hR : dk_Rv p l e rm_Model_passes s m args below meth c g A Q 7 b_Model_passes (none) (wM g am) res) {k270 : Int32 → Int32 → Int32 → Int32 → Int32 → dk_S → Option dk_S} (hk270 : ∀ (x1 : Int32) (x2 : Int32) (x3 : Int32) (x5 : Int32) (x6 : Int32)  (S : dk_S), k270 x1 x2 x3 x5 x6 S = some res → dk_J p l e rm_Model_passes s m args below meth c g A Q 7 0 0 270 [(0, .ref (am 0)), (1, .int x1), (2, .int x2), (3, .int x3), (5, .int x5), (6, .int x6)] [] (wM g am S)) {x1 : Int32} {x2 : Int32} {x3 : Int32} {x5 : Int32} {x6 : Int32} {S : dk_S}  (hF : B_Model_passes_270b n k270 x1 x2 x3 x5 x6 S = some res) : dk_J p l e rm_Model_passes s m args below meth c g A Q 7 0 0 270 [(0, .ref (am 0)), (1, .int x1), (2, .int x2), (3, .int x3), (5, .int x5), (6, .int x6)] [] (wM g am S) := by
  unfold B_Model_passes_270b at hF
  refine dk_iload (i := 6) X 5 rfl d_Model_passes_270 ?_
  refine dk_aload_n (k := 0) (i := 0) X 0 rfl rfl d_Model_passes_272 ?_
  refine dk_get X q_Model 0 18 (by decide) (oM_Model g am S) rfl f_Model_246 d_Model_passes_273 ?_
  refine dk_icmp_ge (tgt := 326) X (by decide) d_Model_passes_276 hF (fun hF => ?_) (fun hF => ?_)
  · exact dk_sub [0, 2, 4] rfl (kb_Model_passes_326 (n := n) X hR   hF)
  · refine dk_iload (i := 5) X 4 rfl d_Model_passes_279 ?_
    refine dk_bipush (v := 9) X (by decide) d_Model_passes_281 ?_
    refine dk_icmp_ne (tgt := 326) X (by decide) d_Model_passes_283 hF (fun hF => ?_) (fun hF => ?_)
    · exact dk_sub [0, 2, 4] rfl (kb_Model_passes_326 (n := n) X hR   hF)
    · refine dk_aload_n (k := 0) (i := 0) X 0 rfl rfl d_Model_passes_286 ?_
      refine dk_get X q_Model 0 20 (by decide) (oM_Model g am S) rfl f_Model_53 d_Model_passes_287 ?_
      refine dk_iload (i := 6) X 5 rfl d_Model_passes_290 ?_
      refine dk_aload_n (k := 0) (i := 0) X 0 rfl rfl d_Model_passes_292 ?_
      refine dk_iload (i := 6) X 5 rfl d_Model_passes_293 ?_
      refine dk_iload_n (k := 2) (i := 2) X 2 rfl rfl d_Model_passes_295 ?_
      refine dk_iload_n (k := 3) (i := 3) X 3 rfl rfl d_Model_passes_296 ?_
      refine dk_callVi X v_Model_isHeldBy [.int x6, .int x2, .int x3] (c_Model_isHeldBy l g am n x6 x2 x3 S) 0 (oM_Model g am S) rfl rfl m_Model_256 rfl rfl ⟨rfl, rfl, Nat.le_of_ble_eq_true rfl, Nat.le_of_ble_eq_true rfl, Nat.le_refl _, Nat.le_refl _⟩ (Nat.le_of_ble_eq_true rfl) d_Model_passes_297 hF (fun r15 S14 hF => ?_)
      refine dk_if_eq (tgt := 312) X (by decide) d_Model_passes_300 hF (fun hF => ?_) (fun hF => ?_)
      · refine dk_aload_n (k := 0) (i := 0) X 0 rfl rfl d_Model_passes_312 ?_
        refine dk_get X q_Model 0 20 (by decide) (oM_Model g am S14) rfl f_Model_53 d_Model_passes_313 ?_
        refine dk_iload (i := 6) X 5 rfl d_Model_passes_316 ?_
        refine dk_iald X 14 (aM_14 g am S14) d_Model_passes_318 hF (fun v16 hF => ?_)
        exact (kb_Model_passes_319 (n := n) X hR hk270  hF)
      · refine dk_aload_n (k := 0) (i := 0) X 0 rfl rfl d_Model_passes_303 ?_
        refine dk_get X q_Model 0 10 (by decide) (oM_Model g am S14) rfl f_Model_31 d_Model_passes_304 ?_
        refine dk_iload_n (k := 1) (i := 1) X 1 rfl rfl d_Model_passes_307 ?_
        refine dk_iald X 8 (aM_8 g am S14) d_Model_passes_308 hF (fun v17 hF => ?_)
        refine dk_goto (tgt := 319) X (by decide) d_Model_passes_309 ?_
        exact (kb_Model_passes_319 (n := n) X hR hk270  hF)
def B_Model_passes_270 (n : Nat)  : Nat → Int32 → Int32 → Int32 → Int32 → Int32 → dk_S → Option dk_S
  | 0 => fun _ _ _ _ _ _ => none
  | q + 1 => fun x1 x2 x3 x5 x6 S => B_Model_passes_270b n (fun x1 x2 x3 x5 x6 S => B_Model_passes_270 n  q x1 x2 x3 x5 x6 S) x1 x2 x3 x5 x6 S
theorem kb_Model_passes_270 {p : Program} {l : Launch} {e : Env} {s : State} {m : MethodId} {args : Array Value} {below : List Frame} {meth : Method} {c : Code} {g : dk_G} {A : Nat → Prop} {Q : State → Prop} {am : Nat → Nat} {n : Nat} {res : dk_S} (X : dk_X p s m args meth c b_Model_passes 7 R_Model (none) g A) (hR : dk_Rv p l e rm_Model_passes s m args below meth c g A Q 7 b_Model_passes (none) (wM g am) res)  : ∀ (q : Nat) (x1 : Int32) (x2 : Int32) (x3 : Int32) (x5 : Int32) (x6 : Int32)  (S : dk_S), B_Model_passes_270 n  q x1 x2 x3 x5 x6 S = some res → dk_J p l e rm_Model_passes s m args below meth c g A Q 7 0 0 270 [(0, .ref (am 0)), (1, .int x1), (2, .int x2), (3, .int x3), (5, .int x5), (6, .int x6)] [] (wM g am S) := by
  intro q
  induction q with
  | zero => intro x1 x2 x3 x5 x6  S hF; cases hF
  | succ q ih => intro x1 x2 x3 x5 x6  S hF; exact kb_Model_passes_270b (n := n) X hR ih  hF
def B_Model_passes_138b (n : Nat) (k138 : Int32 → Int32 → Int32 → Int32 → Int32 → Int32 → dk_S → Option dk_S) (x1 : Int32) (x2 : Int32) (x3 : Int32) (x4 : Int32) (x5 : Int32) (x6 : Int32) (S : dk_S) : Option dk_S :=
  if (S 18 0) ≤ x6 then (B_Model_passes_270 n  n x1 x2 x3 x5 (0 : Int32) S) else (if ¬ x5 = (4 : Int32) then (B_Model_passes_195 n k138 x1 x2 x3 x4 x5 x6 S) else (dk_r 44 (S 21) x6 fun v18 => if ¬ v18 = x2 then (B_Model_passes_195 n k138 x1 x2 x3 x4 x5 x6 S) else (dk_r 44 (S 20) x6 fun v19 => if ¬ v19 = x3 then (B_Model_passes_195 n k138 x1 x2 x3 x4 x5 x6 S) else (dk_r 44 (S 25) x6 fun v20 => if ¬ v20 = (-1 : Int32) then (B_Model_passes_195 n k138 x1 x2 x3 x4 x5 x6 S) else (dk_w S 25 44 x6 x4 fun S21 => B_Model_passes_195 n k138 x1 x2 x3 x4 x5 x6 S21)))))
set_option maxRecDepth 20000 in
theorem kb_Model_passes_138b {p : Program} {l : Launch} {e : Env} {s : State} {m : MethodId} {args : Array Value} {below : List Frame} {meth : Method} {c : Code} {g : dk_G} {A : Nat → Prop} {Q : State → Prop} {am : Nat → Nat} {n : Nat} {res : dk_S} (X : dk_X p s m args meth c b_Model_passes 7 R_Model (none) g A) (hR : dk_Rv p l e rm_Model_passes s m args below meth c g A Q 7 b_Model_passes (none) (wM g am) res) {k138 : Int32 → Int32 → Int32 → Int32 → Int32 → Int32 → dk_S → Option dk_S} (hk138 : ∀ (x1 : Int32) (x2 : Int32) (x3 : Int32) (x4 : Int32) (x5 : Int32) (x6 : Int32)  (S : dk_S), k138 x1 x2 x3 x4 x5 x6 S = some res → dk_J p l e rm_Model_passes s m args below meth c g A Q 7 0 0 138 [(0, .ref (am 0)), (1, .int x1), (2, .int x2), (3, .int x3), (4, .int x4), (5, .int x5), (6, .int x6)] [] (wM g am S)) {x1 : Int32} {x2 : Int32} {x3 : Int32} {x4 : Int32} {x5 : Int32} {x6 : Int32} {S : dk_S}  (hF : B_Model_passes_138b n k138 x1 x2 x3 x4 x5 x6 S = some res) : dk_J p l e rm_Model_passes s m args below meth c g A Q 7 0 0 138 [(0, .ref (am 0)), (1, .int x1), (2, .int x2), (3, .int x3), (4, .int x4), (5, .int x5), (6, .int x6)] [] (wM g am S) := by
  unfold B_Model_passes_138b at hF
  refine dk_iload (i := 6) X 6 rfl d_Model_passes_138 ?_
  refine dk_aload_n (k := 0) (i := 0) X 0 rfl rfl d_Model_passes_140 ?_
  refine dk_get X q_Model 0 18 (by decide) (oM_Model g am S) rfl f_Model_246 d_Model_passes_141 ?_
  refine dk_icmp_ge (tgt := 267) X (by decide) d_Model_passes_144 hF (fun hF => ?_) (fun hF => ?_)
  · refine dk_iconst (v := 0) X (by decide) d_Model_passes_267 ?_
    refine dk_istore (i := 6) (lv' := [(6, .int (0 : Int32)), (0, .ref (am 0)), (1, .int x1), (2, .int x2), (3, .int x3), (4, .int x4), (5, .int x5)]) X (by decide) rfl d_Model_passes_268 ?_
    exact dk_sub [1, 2, 3, 4, 6, 0] rfl (kb_Model_passes_270 (n := n) X hR  n x1 x2 x3 x5 (0 : Int32) S hF)
  · refine dk_iload (i := 5) X 5 rfl d_Model_passes_147 ?_
    refine dk_iconst (v := 4) X (by decide) d_Model_passes_149 ?_
    refine dk_icmp_ne (tgt := 195) X (by decide) d_Model_passes_150 hF (fun hF => ?_) (fun hF => ?_)
    · exact (kb_Model_passes_195 (n := n) X hR hk138  hF)
    · refine dk_aload_n (k := 0) (i := 0) X 0 rfl rfl d_Model_passes_153 ?_
      refine dk_get X q_Model 0 21 (by decide) (oM_Model g am S) rfl f_Model_56 d_Model_passes_154 ?_
      refine dk_iload (i := 6) X 6 rfl d_Model_passes_157 ?_
      refine dk_iald X 15 (aM_15 g am S) d_Model_passes_159 hF (fun v18 hF => ?_)
      refine dk_iload_n (k := 2) (i := 2) X 2 rfl rfl d_Model_passes_160 ?_
      refine dk_icmp_ne (tgt := 195) X (by decide) d_Model_passes_161 hF (fun hF => ?_) (fun hF => ?_)
      · exact (kb_Model_passes_195 (n := n) X hR hk138  hF)
      · refine dk_aload_n (k := 0) (i := 0) X 0 rfl rfl d_Model_passes_164 ?_
        refine dk_get X q_Model 0 20 (by decide) (oM_Model g am S) rfl f_Model_53 d_Model_passes_165 ?_
        refine dk_iload (i := 6) X 6 rfl d_Model_passes_168 ?_
        refine dk_iald X 14 (aM_14 g am S) d_Model_passes_170 hF (fun v19 hF => ?_)
        refine dk_iload_n (k := 3) (i := 3) X 3 rfl rfl d_Model_passes_171 ?_
        refine dk_icmp_ne (tgt := 195) X (by decide) d_Model_passes_172 hF (fun hF => ?_) (fun hF => ?_)
        · exact (kb_Model_passes_195 (n := n) X hR hk138  hF)
        · refine dk_aload_n (k := 0) (i := 0) X 0 rfl rfl d_Model_passes_175 ?_
          refine dk_get X q_Model 0 25 (by decide) (oM_Model g am S) rfl f_Model_68 d_Model_passes_176 ?_
          refine dk_iload (i := 6) X 6 rfl d_Model_passes_179 ?_
          refine dk_iald X 19 (aM_19 g am S) d_Model_passes_181 hF (fun v20 hF => ?_)
          refine dk_iconst (v := -1) X (by decide) d_Model_passes_182 ?_
          refine dk_icmp_ne (tgt := 195) X (by decide) d_Model_passes_183 hF (fun hF => ?_) (fun hF => ?_)
          · exact (kb_Model_passes_195 (n := n) X hR hk138  hF)
          · refine dk_aload_n (k := 0) (i := 0) X 0 rfl rfl d_Model_passes_186 ?_
            refine dk_get X q_Model 0 25 (by decide) (oM_Model g am S) rfl f_Model_68 d_Model_passes_187 ?_
            refine dk_iload (i := 6) X 6 rfl d_Model_passes_190 ?_
            refine dk_iload (i := 4) X 4 rfl d_Model_passes_192 ?_
            refine dk_iast X 19 (aM_19 g am S) (sM_19 g am S _ _) d_Model_passes_194 hF (fun S21 hF => ?_)
            exact (kb_Model_passes_195 (n := n) X hR hk138  hF)
def B_Model_passes_138 (n : Nat)  : Nat → Int32 → Int32 → Int32 → Int32 → Int32 → Int32 → dk_S → Option dk_S
  | 0 => fun _ _ _ _ _ _ _ => none
  | q + 1 => fun x1 x2 x3 x4 x5 x6 S => B_Model_passes_138b n (fun x1 x2 x3 x4 x5 x6 S => B_Model_passes_138 n  q x1 x2 x3 x4 x5 x6 S) x1 x2 x3 x4 x5 x6 S
theorem kb_Model_passes_138 {p : Program} {l : Launch} {e : Env} {s : State} {m : MethodId} {args : Array Value} {below : List Frame} {meth : Method} {c : Code} {g : dk_G} {A : Nat → Prop} {Q : State → Prop} {am : Nat → Nat} {n : Nat} {res : dk_S} (X : dk_X p s m args meth c b_Model_passes 7 R_Model (none) g A) (hR : dk_Rv p l e rm_Model_passes s m args below meth c g A Q 7 b_Model_passes (none) (wM g am) res)  : ∀ (q : Nat) (x1 : Int32) (x2 : Int32) (x3 : Int32) (x4 : Int32) (x5 : Int32) (x6 : Int32)  (S : dk_S), B_Model_passes_138 n  q x1 x2 x3 x4 x5 x6 S = some res → dk_J p l e rm_Model_passes s m args below meth c g A Q 7 0 0 138 [(0, .ref (am 0)), (1, .int x1), (2, .int x2), (3, .int x3), (4, .int x4), (5, .int x5), (6, .int x6)] [] (wM g am S) := by
  intro q
  induction q with
  | zero => intro x1 x2 x3 x4 x5 x6  S hF; cases hF
  | succ q ih => intro x1 x2 x3 x4 x5 x6  S hF; exact kb_Model_passes_138b (n := n) X hR ih  hF
def B_Model_passes_0 (n : Nat)  (x1 : Int32) (S : dk_S) : Option dk_S :=
  dk_r 32 (S 8) x1 fun v22 => dk_r 32 (S 9) x1 fun v23 => dk_r 32 (S 6) x1 fun v24 => dk_r 32 (S 7) x1 fun v25 => if (3 : Int32) ≤ v25 then (if v25 = (3 : Int32) then (B_Model_passes_88 n  v22 v23 v24 v25 S) else (if ¬ v25 = (7 : Int32) then (if ¬ v25 = (5 : Int32) then (B_Model_passes_138 n  n x1 v22 v23 v24 v25 (0 : Int32) S) else (dk_r 32 (S 10) x1 fun v26 => dk_cv (F_Model_crosses n v22 v26 v24 S) fun S27 => some S27)) else (B_Model_passes_88 n  v22 v23 v24 v25 S))) else (dk_r 6 (S 29) v22 fun v29 => if ¬ v29 = 0 then (some S) else (if ¬ v25 = (2 : Int32) then (B_Model_passes_68 n  v25 v23 v22 v24 (0 : Int32) S) else (dk_r 32 (S 10) x1 fun v30 => B_Model_passes_68 n  v25 v23 v22 v24 v30 S)))
set_option maxRecDepth 20000 in
theorem kb_Model_passes_0 {p : Program} {l : Launch} {e : Env} {s : State} {m : MethodId} {args : Array Value} {below : List Frame} {meth : Method} {c : Code} {g : dk_G} {A : Nat → Prop} {Q : State → Prop} {am : Nat → Nat} {n : Nat} {res : dk_S} (X : dk_X p s m args meth c b_Model_passes 7 R_Model (none) g A) (hR : dk_Rv p l e rm_Model_passes s m args below meth c g A Q 7 b_Model_passes (none) (wM g am) res)  {x1 : Int32} {S : dk_S}  (hF : B_Model_passes_0 n  x1 S = some res) : dk_J p l e rm_Model_passes s m args below meth c g A Q 7 0 0 0 [(0, .ref (am 0)), (1, .int x1)] [] (wM g am S) := by
  unfold B_Model_passes_0 at hF
  refine dk_aload_n (k := 0) (i := 0) X 0 rfl rfl d_Model_passes_0 ?_
  refine dk_get X q_Model 0 8 (by decide) (oM_Model g am S) rfl f_Model_25 d_Model_passes_1 ?_
  refine dk_iload_n (k := 1) (i := 1) X 1 rfl rfl d_Model_passes_4 ?_
  refine dk_iald X 6 (aM_6 g am S) d_Model_passes_5 hF (fun v22 hF => ?_)
  refine dk_istore_n (k := 2) (i := 2) (lv' := [(2, .int v22), (0, .ref (am 0)), (1, .int x1)]) X rfl (by decide) rfl d_Model_passes_6 ?_
  refine dk_aload_n (k := 0) (i := 0) X 1 rfl rfl d_Model_passes_7 ?_
  refine dk_get X q_Model 0 9 (by decide) (oM_Model g am S) rfl f_Model_28 d_Model_passes_8 ?_
  refine dk_iload_n (k := 1) (i := 1) X 2 rfl rfl d_Model_passes_11 ?_
  refine dk_iald X 7 (aM_7 g am S) d_Model_passes_12 hF (fun v23 hF => ?_)
  refine dk_istore_n (k := 3) (i := 3) (lv' := [(3, .int v23), (2, .int v22), (0, .ref (am 0)), (1, .int x1)]) X rfl (by decide) rfl d_Model_passes_13 ?_
  refine dk_aload_n (k := 0) (i := 0) X 2 rfl rfl d_Model_passes_14 ?_
  refine dk_get X q_Model 0 6 (by decide) (oM_Model g am S) rfl f_Model_19 d_Model_passes_15 ?_
  refine dk_iload_n (k := 1) (i := 1) X 3 rfl rfl d_Model_passes_18 ?_
  refine dk_iald X 4 (aM_4 g am S) d_Model_passes_19 hF (fun v24 hF => ?_)
  refine dk_istore (i := 4) (lv' := [(4, .int v24), (3, .int v23), (2, .int v22), (0, .ref (am 0)), (1, .int x1)]) X (by decide) rfl d_Model_passes_20 ?_
  refine dk_aload_n (k := 0) (i := 0) X 3 rfl rfl d_Model_passes_22 ?_
  refine dk_get X q_Model 0 7 (by decide) (oM_Model g am S) rfl f_Model_22 d_Model_passes_23 ?_
  refine dk_iload_n (k := 1) (i := 1) X 4 rfl rfl d_Model_passes_26 ?_
  refine dk_iald X 5 (aM_5 g am S) d_Model_passes_27 hF (fun v25 hF => ?_)
  refine dk_istore (i := 5) (lv' := [(5, .int v25), (4, .int v24), (3, .int v23), (2, .int v22), (0, .ref (am 0)), (1, .int x1)]) X (by decide) rfl d_Model_passes_28 ?_
  refine dk_iload (i := 5) X 0 rfl d_Model_passes_30 ?_
  refine dk_iconst (v := 3) X (by decide) d_Model_passes_32 ?_
  refine dk_icmp_ge (tgt := 75) X (by decide) d_Model_passes_33 hF (fun hF => ?_) (fun hF => ?_)
  · refine dk_iload (i := 5) X 0 rfl d_Model_passes_75 ?_
    refine dk_iconst (v := 3) X (by decide) d_Model_passes_77 ?_
    refine dk_icmp_eq (tgt := 88) X (by decide) d_Model_passes_78 hF (fun hF => ?_) (fun hF => ?_)
    · exact dk_sub [4, 3, 2, 1, 0] rfl (kb_Model_passes_88 (n := n) X hR   hF)
    · refine dk_iload (i := 5) X 0 rfl d_Model_passes_81 ?_
      refine dk_bipush (v := 7) X (by decide) d_Model_passes_83 ?_
      refine dk_icmp_ne (tgt := 113) X (by decide) d_Model_passes_85 hF (fun hF => ?_) (fun hF => ?_)
      · refine dk_iload (i := 5) X 0 rfl d_Model_passes_113 ?_
        refine dk_iconst (v := 5) X (by decide) d_Model_passes_115 ?_
        refine dk_icmp_ne (tgt := 135) X (by decide) d_Model_passes_116 hF (fun hF => ?_) (fun hF => ?_)
        · refine dk_iconst (v := 0) X (by decide) d_Model_passes_135 ?_
          refine dk_istore (i := 6) (lv' := [(6, .int (0 : Int32)), (5, .int v25), (4, .int v24), (3, .int v23), (2, .int v22), (0, .ref (am 0)), (1, .int x1)]) X (by decide) rfl d_Model_passes_136 ?_
          exact dk_sub [5, 6, 4, 3, 2, 1, 0] rfl (kb_Model_passes_138 (n := n) X hR  n x1 v22 v23 v24 v25 (0 : Int32) S hF)
        · refine dk_aload_n (k := 0) (i := 0) X 4 rfl rfl d_Model_passes_119 ?_
          refine dk_iload_n (k := 2) (i := 2) X 3 rfl rfl d_Model_passes_120 ?_
          refine dk_aload_n (k := 0) (i := 0) X 4 rfl rfl d_Model_passes_121 ?_
          refine dk_get X q_Model 0 10 (by decide) (oM_Model g am S) rfl f_Model_31 d_Model_passes_122 ?_
          refine dk_iload_n (k := 1) (i := 1) X 5 rfl rfl d_Model_passes_125 ?_
          refine dk_iald X 8 (aM_8 g am S) d_Model_passes_126 hF (fun v26 hF => ?_)
          refine dk_iload (i := 4) X 1 rfl d_Model_passes_127 ?_
          refine dk_callVv X v_Model_crosses [.int v22, .int v26, .int v24] (c_Model_crosses l g am n v22 v26 v24 S) 0 (oM_Model g am S) rfl rfl m_Model_252 rfl rfl ⟨rfl, rfl, Nat.le_of_ble_eq_true rfl, Nat.le_of_ble_eq_true rfl, Nat.le_refl _, Nat.le_refl _⟩ (Nat.le_of_ble_eq_true rfl) d_Model_passes_129 hF (fun S27 hF => ?_)
          refine dk_goto (tgt := 353) X (by decide) d_Model_passes_132 ?_
          exact dk_retv hR hF d_Model_passes_353
      · exact dk_sub [4, 3, 2, 1, 0] rfl (kb_Model_passes_88 (n := n) X hR   hF)
  · refine dk_aload_n (k := 0) (i := 0) X 4 rfl rfl d_Model_passes_36 ?_
    refine dk_get X q_Model 0 29 (by decide) (oM_Model g am S) rfl f_Model_81 d_Model_passes_37 ?_
    refine dk_iload_n (k := 2) (i := 2) X 3 rfl rfl d_Model_passes_40 ?_
    refine dk_zald X 23 (aM_23 g am S) d_Model_passes_41 hF (fun v29 hF => ?_)
    refine dk_if_ne (tgt := 353) X (by decide) d_Model_passes_42 hF (fun hF => ?_) (fun hF => ?_)
    · exact dk_retv hR hF d_Model_passes_353
    · refine dk_aload_n (k := 0) (i := 0) X 4 rfl rfl d_Model_passes_45 ?_
      refine dk_iload (i := 5) X 0 rfl d_Model_passes_46 ?_
      refine dk_iload_n (k := 3) (i := 3) X 2 rfl rfl d_Model_passes_48 ?_
      refine dk_iload_n (k := 2) (i := 2) X 3 rfl rfl d_Model_passes_49 ?_
      refine dk_iload (i := 4) X 1 rfl d_Model_passes_50 ?_
      refine dk_iload (i := 5) X 0 rfl d_Model_passes_52 ?_
      refine dk_iconst (v := 2) X (by decide) d_Model_passes_54 ?_
      refine dk_icmp_ne (tgt := 67) X (by decide) d_Model_passes_55 hF (fun hF => ?_) (fun hF => ?_)
      · refine dk_iconst (v := 0) X (by decide) d_Model_passes_67 ?_
        exact dk_sub [] rfl (kb_Model_passes_68 (n := n) X hR   hF)
      · refine dk_aload_n (k := 0) (i := 0) X 4 rfl rfl d_Model_passes_58 ?_
        refine dk_get X q_Model 0 10 (by decide) (oM_Model g am S) rfl f_Model_31 d_Model_passes_59 ?_
        refine dk_iload_n (k := 1) (i := 1) X 5 rfl rfl d_Model_passes_62 ?_
        refine dk_iald X 8 (aM_8 g am S) d_Model_passes_63 hF (fun v30 hF => ?_)
        refine dk_goto (tgt := 68) X (by decide) d_Model_passes_64 ?_
        exact dk_sub [] rfl (kb_Model_passes_68 (n := n) X hR   hF)
def F_Model_passes (n : Nat) (x1 : Int32) (S : dk_S) : Option dk_S := B_Model_passes_0 n x1 S
theorem c_Model_passes (l : Launch) (g : dk_G) (am : Nat → Nat) (n : Nat) (x1 : Int32)  (S : dk_S) : dk_Mv l g y_Model_passes b_Model_passes 7 rm_Model_passes (none) [.ref (am 0), .int x1] (wM g am) S (F_Model_passes n x1 S) := dk_enterv (by decide) rfl (Nat.le_of_ble_eq_true rfl) (fun p e s m args below meth c A Q res hF X hR => (kb_Model_passes_0 (n := n) X hR  hF))
abbrev b_Model_works : ByteArray := prog_11_method_38_code
def y_Model_works : MethodName := ⟨R_Model, "works", "(II)V"⟩
theorem d_Model_works_0 : decode b_Model_works 0 = .ok (.aload_n 0, 1) := by decide +kernel
theorem d_Model_works_1 : decode b_Model_works 1 = .ok (.iconst 0, 1) := by decide +kernel
theorem d_Model_works_2 : decode b_Model_works 2 = .ok (.putfield 246, 3) := by decide +kernel
theorem d_Model_works_5 : decode b_Model_works 5 = .ok (.aload_n 0, 1) := by decide +kernel
theorem d_Model_works_6 : decode b_Model_works 6 = .ok (.iconst 0, 1) := by decide +kernel
theorem d_Model_works_7 : decode b_Model_works 7 = .ok (.putfield 259, 3) := by decide +kernel
theorem d_Model_works_10 : decode b_Model_works 10 = .ok (.iconst 0, 1) := by decide +kernel
theorem d_Model_works_11 : decode b_Model_works 11 = .ok (.istore_n 3, 1) := by decide +kernel
theorem d_Model_works_12 : decode b_Model_works 12 = .ok (.iload_n 3, 1) := by decide +kernel
theorem d_Model_works_13 : decode b_Model_works 13 = .ok (.aload_n 0, 1) := by decide +kernel
theorem d_Model_works_14 : decode b_Model_works 14 = .ok (.getfield 148, 3) := by decide +kernel
theorem d_Model_works_17 : decode b_Model_works 17 = .ok (.if_icmp .ge 100, 3) := by decide +kernel
theorem d_Model_works_20 : decode b_Model_works 20 = .ok (.aload_n 0, 1) := by decide +kernel
theorem d_Model_works_21 : decode b_Model_works 21 = .ok (.getfield 75, 3) := by decide +kernel
theorem d_Model_works_24 : decode b_Model_works 24 = .ok (.iload_n 3, 1) := by decide +kernel
theorem d_Model_works_25 : decode b_Model_works 25 = .ok (.aload_n 0, 1) := by decide +kernel
theorem d_Model_works_26 : decode b_Model_works 26 = .ok (.getfield 13, 3) := by decide +kernel
theorem d_Model_works_29 : decode b_Model_works 29 = .ok (.iload_n 3, 1) := by decide +kernel
theorem d_Model_works_30 : decode b_Model_works 30 = .ok (.iaload, 1) := by decide +kernel
theorem d_Model_works_31 : decode b_Model_works 31 = .ok (.iastore, 1) := by decide +kernel
theorem d_Model_works_32 : decode b_Model_works 32 = .ok (.aload_n 0, 1) := by decide +kernel
theorem d_Model_works_33 : decode b_Model_works 33 = .ok (.getfield 78, 3) := by decide +kernel
theorem d_Model_works_36 : decode b_Model_works 36 = .ok (.iload_n 3, 1) := by decide +kernel
theorem d_Model_works_37 : decode b_Model_works 37 = .ok (.iconst 0, 1) := by decide +kernel
theorem d_Model_works_38 : decode b_Model_works 38 = .ok (.iastore, 1) := by decide +kernel
theorem d_Model_works_39 : decode b_Model_works 39 = .ok (.aload_n 0, 1) := by decide +kernel
theorem d_Model_works_40 : decode b_Model_works 40 = .ok (.getfield 81, 3) := by decide +kernel
theorem d_Model_works_43 : decode b_Model_works 43 = .ok (.iload_n 3, 1) := by decide +kernel
theorem d_Model_works_44 : decode b_Model_works 44 = .ok (.iconst 0, 1) := by decide +kernel
theorem d_Model_works_45 : decode b_Model_works 45 = .ok (.bastore, 1) := by decide +kernel
theorem d_Model_works_46 : decode b_Model_works 46 = .ok (.aload_n 0, 1) := by decide +kernel
theorem d_Model_works_47 : decode b_Model_works 47 = .ok (.getfield 16, 3) := by decide +kernel
theorem d_Model_works_50 : decode b_Model_works 50 = .ok (.iload_n 3, 1) := by decide +kernel
theorem d_Model_works_51 : decode b_Model_works 51 = .ok (.iaload, 1) := by decide +kernel
theorem d_Model_works_52 : decode b_Model_works 52 = .ok (.iconst (-1), 1) := by decide +kernel
theorem d_Model_works_53 : decode b_Model_works 53 = .ok (.if_icmp .eq 18, 3) := by decide +kernel
theorem d_Model_works_56 : decode b_Model_works 56 = .ok (.aload_n 0, 1) := by decide +kernel
theorem d_Model_works_57 : decode b_Model_works 57 = .ok (.iconst 5, 1) := by decide +kernel
theorem d_Model_works_58 : decode b_Model_works 58 = .ok (.aload_n 0, 1) := by decide +kernel
theorem d_Model_works_59 : decode b_Model_works 59 = .ok (.getfield 16, 3) := by decide +kernel
theorem d_Model_works_62 : decode b_Model_works 62 = .ok (.iload_n 3, 1) := by decide +kernel
theorem d_Model_works_63 : decode b_Model_works 63 = .ok (.iaload, 1) := by decide +kernel
theorem d_Model_works_64 : decode b_Model_works 64 = .ok (.iload_n 3, 1) := by decide +kernel
theorem d_Model_works_65 : decode b_Model_works 65 = .ok (.iconst 0, 1) := by decide +kernel
theorem d_Model_works_66 : decode b_Model_works 66 = .ok (.iconst 0, 1) := by decide +kernel
theorem d_Model_works_67 : decode b_Model_works 67 = .ok (.iconst (-1), 1) := by decide +kernel
theorem d_Model_works_68 : decode b_Model_works 68 = .ok (.invokevirtual 249, 3) := by decide +kernel
theorem d_Model_works_71 : decode b_Model_works 71 = .ok (.aload_n 0, 1) := by decide +kernel
theorem d_Model_works_72 : decode b_Model_works 72 = .ok (.getfield 7, 3) := by decide +kernel
theorem d_Model_works_75 : decode b_Model_works 75 = .ok (.aload_n 0, 1) := by decide +kernel
theorem d_Model_works_76 : decode b_Model_works 76 = .ok (.getfield 13, 3) := by decide +kernel
theorem d_Model_works_79 : decode b_Model_works 79 = .ok (.iload_n 3, 1) := by decide +kernel
theorem d_Model_works_80 : decode b_Model_works 80 = .ok (.iaload, 1) := by decide +kernel
theorem d_Model_works_81 : decode b_Model_works 81 = .ok (.iaload, 1) := by decide +kernel
theorem d_Model_works_82 : decode b_Model_works 82 = .ok (.iconst (-1), 1) := by decide +kernel
theorem d_Model_works_83 : decode b_Model_works 83 = .ok (.if_icmp .eq 28, 3) := by decide +kernel
theorem d_Model_works_86 : decode b_Model_works 86 = .ok (.aload_n 0, 1) := by decide +kernel
theorem d_Model_works_87 : decode b_Model_works 87 = .ok (.iconst 4, 1) := by decide +kernel
theorem d_Model_works_88 : decode b_Model_works 88 = .ok (.aload_n 0, 1) := by decide +kernel
theorem d_Model_works_89 : decode b_Model_works 89 = .ok (.getfield 7, 3) := by decide +kernel
theorem d_Model_works_92 : decode b_Model_works 92 = .ok (.aload_n 0, 1) := by decide +kernel
theorem d_Model_works_93 : decode b_Model_works 93 = .ok (.getfield 13, 3) := by decide +kernel
theorem d_Model_works_96 : decode b_Model_works 96 = .ok (.iload_n 3, 1) := by decide +kernel
theorem d_Model_works_97 : decode b_Model_works 97 = .ok (.iaload, 1) := by decide +kernel
theorem d_Model_works_98 : decode b_Model_works 98 = .ok (.iaload, 1) := by decide +kernel
theorem d_Model_works_99 : decode b_Model_works 99 = .ok (.iload_n 3, 1) := by decide +kernel
theorem d_Model_works_100 : decode b_Model_works 100 = .ok (.iconst 0, 1) := by decide +kernel
theorem d_Model_works_101 : decode b_Model_works 101 = .ok (.iconst 0, 1) := by decide +kernel
theorem d_Model_works_102 : decode b_Model_works 102 = .ok (.aload_n 0, 1) := by decide +kernel
theorem d_Model_works_103 : decode b_Model_works 103 = .ok (.getfield 13, 3) := by decide +kernel
theorem d_Model_works_106 : decode b_Model_works 106 = .ok (.iload_n 3, 1) := by decide +kernel
theorem d_Model_works_107 : decode b_Model_works 107 = .ok (.iaload, 1) := by decide +kernel
theorem d_Model_works_108 : decode b_Model_works 108 = .ok (.invokevirtual 249, 3) := by decide +kernel
theorem d_Model_works_111 : decode b_Model_works 111 = .ok (.iinc 3 1, 3) := by decide +kernel
theorem d_Model_works_114 : decode b_Model_works 114 = .ok (.goto (-102), 3) := by decide +kernel
theorem d_Model_works_117 : decode b_Model_works 117 = .ok (.iconst 0, 1) := by decide +kernel
theorem d_Model_works_118 : decode b_Model_works 118 = .ok (.istore_n 3, 1) := by decide +kernel
theorem d_Model_works_119 : decode b_Model_works 119 = .ok (.iload_n 3, 1) := by decide +kernel
theorem d_Model_works_120 : decode b_Model_works 120 = .ok (.iload_n 1, 1) := by decide +kernel
theorem d_Model_works_121 : decode b_Model_works 121 = .ok (.if_icmp .ge 32, 3) := by decide +kernel
theorem d_Model_works_124 : decode b_Model_works 124 = .ok (.iload_n 2, 1) := by decide +kernel
theorem d_Model_works_125 : decode b_Model_works 125 = .ok (.iload_n 3, 1) := by decide +kernel
theorem d_Model_works_126 : decode b_Model_works 126 = .ok (.ishr, 1) := by decide +kernel
theorem d_Model_works_127 : decode b_Model_works 127 = .ok (.iconst 1, 1) := by decide +kernel
theorem d_Model_works_128 : decode b_Model_works 128 = .ok (.iand, 1) := by decide +kernel
theorem d_Model_works_129 : decode b_Model_works 129 = .ok (.ifCond .ne 18, 3) := by decide +kernel
theorem d_Model_works_132 : decode b_Model_works 132 = .ok (.aload_n 0, 1) := by decide +kernel
theorem d_Model_works_133 : decode b_Model_works 133 = .ok (.iload_n 3, 1) := by decide +kernel
theorem d_Model_works_134 : decode b_Model_works 134 = .ok (.invokevirtual 262, 3) := by decide +kernel
theorem d_Model_works_137 : decode b_Model_works 137 = .ok (.aload_n 0, 1) := by decide +kernel
theorem d_Model_works_138 : decode b_Model_works 138 = .ok (.aload_n 0, 1) := by decide +kernel
theorem d_Model_works_139 : decode b_Model_works 139 = .ok (.getfield 19, 3) := by decide +kernel
theorem d_Model_works_142 : decode b_Model_works 142 = .ok (.iload_n 3, 1) := by decide +kernel
theorem d_Model_works_143 : decode b_Model_works 143 = .ok (.iaload, 1) := by decide +kernel
theorem d_Model_works_144 : decode b_Model_works 144 = .ok (.putfield 259, 3) := by decide +kernel
theorem d_Model_works_147 : decode b_Model_works 147 = .ok (.iinc 3 1, 3) := by decide +kernel
theorem d_Model_works_150 : decode b_Model_works 150 = .ok (.goto (-31), 3) := by decide +kernel
theorem d_Model_works_153 : decode b_Model_works 153 = .ok (.return_, 1) := by decide +kernel
theorem v_Model_works : dk_Yv y_Model_works b_Model_works 4 (none) 2 := ⟨dk_in (List.mem_of_getElem? (i := 1244) (by decide +kernel)) rfl, dk_in (List.mem_of_getElem? (i := 49) (by decide +kernel)) rfl, dk_in (List.mem_of_getElem? (i := 75) (by decide +kernel)) rfl, dk_in (List.mem_of_getElem? (i := 1245) (by decide +kernel)) rfl, by decide +kernel, by decide +kernel, by decide +kernel⟩
abbrev rm_Model_works : Room := { frames := 3, cells := 0, slots := 0, locals := 75 }
theorem f_Model_259 : Cond.fieldLink R_Model 259 (T_Model 30).1 (T_Model 30).2.1 (T_Model 30).2.2.1 ∈ dk_tb := dk_in (List.mem_of_getElem? (i := 994) (by decide +kernel)) rfl
theorem m_Model_262 : Cond.methodLink R_Model 262 y_Model_passes ∈ dk_tb := dk_in (List.mem_of_getElem? (i := 1250) (by decide +kernel)) rfl
def B_Model_works_111 (n : Nat) (k12 : Int32 → Int32 → Int32 → dk_S → Option dk_S) (x1 : Int32) (x2 : Int32) (x3 : Int32) (S : dk_S) : Option dk_S :=
  k12 x1 x2 (x3 + (1 : Int32)) S
set_option maxRecDepth 20000 in
theorem kb_Model_works_111 {p : Program} {l : Launch} {e : Env} {s : State} {m : MethodId} {args : Array Value} {below : List Frame} {meth : Method} {c : Code} {g : dk_G} {A : Nat → Prop} {Q : State → Prop} {am : Nat → Nat} {n : Nat} {res : dk_S} (X : dk_X p s m args meth c b_Model_works 4 R_Model (none) g A) (hR : dk_Rv p l e rm_Model_works s m args below meth c g A Q 4 b_Model_works (none) (wM g am) res) {k12 : Int32 → Int32 → Int32 → dk_S → Option dk_S} (hk12 : ∀ (x1 : Int32) (x2 : Int32) (x3 : Int32)  (S : dk_S), k12 x1 x2 x3 S = some res → dk_J p l e rm_Model_works s m args below meth c g A Q 4 0 0 12 [(0, .ref (am 0)), (1, .int x1), (2, .int x2), (3, .int x3)] [] (wM g am S)) {x1 : Int32} {x2 : Int32} {x3 : Int32} {S : dk_S}  (hF : B_Model_works_111 n k12 x1 x2 x3 S = some res) : dk_J p l e rm_Model_works s m args below meth c g A Q 4 0 0 111 [(0, .ref (am 0)), (1, .int x1), (2, .int x2), (3, .int x3)] [] (wM g am S) := by
  unfold B_Model_works_111 at hF
  refine dk_iinc (i := 3) (v := (x3 + (1 : Int32))) (lv' := [(3, .int (x3 + (1 : Int32))), (0, .ref (am 0)), (1, .int x1), (2, .int x2)]) X 3 rfl (dk_ii _ (by decide)) (by decide) rfl d_Model_works_111 ?_
  refine dk_goto (tgt := 12) X (by decide) d_Model_works_114 ?_
  exact dk_sub [1, 2, 3, 0] rfl (hk12 x1 x2 (x3 + (1 : Int32)) S hF)
def B_Model_works_71 (n : Nat) (k12 : Int32 → Int32 → Int32 → dk_S → Option dk_S) (x1 : Int32) (x2 : Int32) (x3 : Int32) (S : dk_S) : Option dk_S :=
  dk_r 6 (S 3) x3 fun v1 => dk_r 8 (S 1) v1 fun v2 => if v2 = (-1 : Int32) then (B_Model_works_111 n k12 x1 x2 x3 S) else (dk_r 6 (S 3) x3 fun v3 => dk_r 8 (S 1) v3 fun v4 => dk_r 6 (S 3) x3 fun v5 => dk_cv (F_Model_makes n (4 : Int32) v4 x3 (0 : Int32) (0 : Int32) v5 S) fun S6 => B_Model_works_111 n k12 x1 x2 x3 S6)
set_option maxRecDepth 20000 in
theorem kb_Model_works_71 {p : Program} {l : Launch} {e : Env} {s : State} {m : MethodId} {args : Array Value} {below : List Frame} {meth : Method} {c : Code} {g : dk_G} {A : Nat → Prop} {Q : State → Prop} {am : Nat → Nat} {n : Nat} {res : dk_S} (X : dk_X p s m args meth c b_Model_works 4 R_Model (none) g A) (hR : dk_Rv p l e rm_Model_works s m args below meth c g A Q 4 b_Model_works (none) (wM g am) res) {k12 : Int32 → Int32 → Int32 → dk_S → Option dk_S} (hk12 : ∀ (x1 : Int32) (x2 : Int32) (x3 : Int32)  (S : dk_S), k12 x1 x2 x3 S = some res → dk_J p l e rm_Model_works s m args below meth c g A Q 4 0 0 12 [(0, .ref (am 0)), (1, .int x1), (2, .int x2), (3, .int x3)] [] (wM g am S)) {x1 : Int32} {x2 : Int32} {x3 : Int32} {S : dk_S}  (hF : B_Model_works_71 n k12 x1 x2 x3 S = some res) : dk_J p l e rm_Model_works s m args below meth c g A Q 4 0 0 71 [(0, .ref (am 0)), (1, .int x1), (2, .int x2), (3, .int x3)] [] (wM g am S) := by
  unfold B_Model_works_71 at hF
  refine dk_aload_n (k := 0) (i := 0) X 0 rfl rfl d_Model_works_71 ?_
  refine dk_get X q_Model 0 1 (by decide) (oM_Model g am S) rfl f_Model_7 d_Model_works_72 ?_
  refine dk_aload_n (k := 0) (i := 0) X 0 rfl rfl d_Model_works_75 ?_
  refine dk_get X q_Model 0 3 (by decide) (oM_Model g am S) rfl f_Model_13 d_Model_works_76 ?_
  refine dk_iload_n (k := 3) (i := 3) X 3 rfl rfl d_Model_works_79 ?_
  refine dk_iald X 2 (aM_2 g am S) d_Model_works_80 hF (fun v1 hF => ?_)
  refine dk_iald X 1 (aM_1 g am S) d_Model_works_81 hF (fun v2 hF => ?_)
  refine dk_iconst (v := -1) X (by decide) d_Model_works_82 ?_
  refine dk_icmp_eq (tgt := 111) X (by decide) d_Model_works_83 hF (fun hF => ?_) (fun hF => ?_)
  · exact (kb_Model_works_111 (n := n) X hR hk12  hF)
  · refine dk_aload_n (k := 0) (i := 0) X 0 rfl rfl d_Model_works_86 ?_
    refine dk_iconst (v := 4) X (by decide) d_Model_works_87 ?_
    refine dk_aload_n (k := 0) (i := 0) X 0 rfl rfl d_Model_works_88 ?_
    refine dk_get X q_Model 0 1 (by decide) (oM_Model g am S) rfl f_Model_7 d_Model_works_89 ?_
    refine dk_aload_n (k := 0) (i := 0) X 0 rfl rfl d_Model_works_92 ?_
    refine dk_get X q_Model 0 3 (by decide) (oM_Model g am S) rfl f_Model_13 d_Model_works_93 ?_
    refine dk_iload_n (k := 3) (i := 3) X 3 rfl rfl d_Model_works_96 ?_
    refine dk_iald X 2 (aM_2 g am S) d_Model_works_97 hF (fun v3 hF => ?_)
    refine dk_iald X 1 (aM_1 g am S) d_Model_works_98 hF (fun v4 hF => ?_)
    refine dk_iload_n (k := 3) (i := 3) X 3 rfl rfl d_Model_works_99 ?_
    refine dk_iconst (v := 0) X (by decide) d_Model_works_100 ?_
    refine dk_iconst (v := 0) X (by decide) d_Model_works_101 ?_
    refine dk_aload_n (k := 0) (i := 0) X 0 rfl rfl d_Model_works_102 ?_
    refine dk_get X q_Model 0 3 (by decide) (oM_Model g am S) rfl f_Model_13 d_Model_works_103 ?_
    refine dk_iload_n (k := 3) (i := 3) X 3 rfl rfl d_Model_works_106 ?_
    refine dk_iald X 2 (aM_2 g am S) d_Model_works_107 hF (fun v5 hF => ?_)
    refine dk_callVv X v_Model_makes [.int (4 : Int32), .int v4, .int x3, .int (0 : Int32), .int (0 : Int32), .int v5] (c_Model_makes l g am n (4 : Int32) v4 x3 (0 : Int32) (0 : Int32) v5 S) 0 (oM_Model g am S) rfl rfl m_Model_249 rfl rfl ⟨rfl, rfl, Nat.le_of_ble_eq_true rfl, Nat.le_of_ble_eq_true rfl, Nat.le_refl _, Nat.le_refl _⟩ (Nat.le_of_ble_eq_true rfl) d_Model_works_108 hF (fun S6 hF => ?_)
    exact (kb_Model_works_111 (n := n) X hR hk12  hF)
def B_Model_works_147 (n : Nat) (k119 : Int32 → Int32 → Int32 → dk_S → Option dk_S) (x1 : Int32) (x2 : Int32) (x3 : Int32) (S : dk_S) : Option dk_S :=
  k119 x1 x2 (x3 + (1 : Int32)) S
set_option maxRecDepth 20000 in
theorem kb_Model_works_147 {p : Program} {l : Launch} {e : Env} {s : State} {m : MethodId} {args : Array Value} {below : List Frame} {meth : Method} {c : Code} {g : dk_G} {A : Nat → Prop} {Q : State → Prop} {am : Nat → Nat} {n : Nat} {res : dk_S} (X : dk_X p s m args meth c b_Model_works 4 R_Model (none) g A) (hR : dk_Rv p l e rm_Model_works s m args below meth c g A Q 4 b_Model_works (none) (wM g am) res) {k119 : Int32 → Int32 → Int32 → dk_S → Option dk_S} (hk119 : ∀ (x1 : Int32) (x2 : Int32) (x3 : Int32)  (S : dk_S), k119 x1 x2 x3 S = some res → dk_J p l e rm_Model_works s m args below meth c g A Q 4 0 0 119 [(0, .ref (am 0)), (1, .int x1), (2, .int x2), (3, .int x3)] [] (wM g am S)) {x1 : Int32} {x2 : Int32} {x3 : Int32} {S : dk_S}  (hF : B_Model_works_147 n k119 x1 x2 x3 S = some res) : dk_J p l e rm_Model_works s m args below meth c g A Q 4 0 0 147 [(0, .ref (am 0)), (1, .int x1), (2, .int x2), (3, .int x3)] [] (wM g am S) := by
  unfold B_Model_works_147 at hF
  refine dk_iinc (i := 3) (v := (x3 + (1 : Int32))) (lv' := [(3, .int (x3 + (1 : Int32))), (0, .ref (am 0)), (1, .int x1), (2, .int x2)]) X 3 rfl (dk_ii _ (by decide)) (by decide) rfl d_Model_works_147 ?_
  refine dk_goto (tgt := 119) X (by decide) d_Model_works_150 ?_
  exact dk_sub [1, 2, 3, 0] rfl (hk119 x1 x2 (x3 + (1 : Int32)) S hF)
def B_Model_works_119b (n : Nat) (k119 : Int32 → Int32 → Int32 → dk_S → Option dk_S) (x1 : Int32) (x2 : Int32) (x3 : Int32) (S : dk_S) : Option dk_S :=
  if x1 ≤ x3 then (some S) else (if ¬ ((x2 >>> (x3 &&& 31)) &&& (1 : Int32)) = 0 then (B_Model_works_147 n k119 x1 x2 x3 S) else (dk_cv (F_Model_passes n x3 S) fun S8 => dk_r 32 (S8 6) x3 fun v10 => dk_p S8 30 v10 fun S11 => B_Model_works_147 n k119 x1 x2 x3 S11))
set_option maxRecDepth 20000 in
theorem kb_Model_works_119b {p : Program} {l : Launch} {e : Env} {s : State} {m : MethodId} {args : Array Value} {below : List Frame} {meth : Method} {c : Code} {g : dk_G} {A : Nat → Prop} {Q : State → Prop} {am : Nat → Nat} {n : Nat} {res : dk_S} (X : dk_X p s m args meth c b_Model_works 4 R_Model (none) g A) (hR : dk_Rv p l e rm_Model_works s m args below meth c g A Q 4 b_Model_works (none) (wM g am) res) {k119 : Int32 → Int32 → Int32 → dk_S → Option dk_S} (hk119 : ∀ (x1 : Int32) (x2 : Int32) (x3 : Int32)  (S : dk_S), k119 x1 x2 x3 S = some res → dk_J p l e rm_Model_works s m args below meth c g A Q 4 0 0 119 [(0, .ref (am 0)), (1, .int x1), (2, .int x2), (3, .int x3)] [] (wM g am S)) {x1 : Int32} {x2 : Int32} {x3 : Int32} {S : dk_S}  (hF : B_Model_works_119b n k119 x1 x2 x3 S = some res) : dk_J p l e rm_Model_works s m args below meth c g A Q 4 0 0 119 [(0, .ref (am 0)), (1, .int x1), (2, .int x2), (3, .int x3)] [] (wM g am S) := by
  unfold B_Model_works_119b at hF
  refine dk_iload_n (k := 3) (i := 3) X 3 rfl rfl d_Model_works_119 ?_
  refine dk_iload_n (k := 1) (i := 1) X 1 rfl rfl d_Model_works_120 ?_
  refine dk_icmp_ge (tgt := 153) X (by decide) d_Model_works_121 hF (fun hF => ?_) (fun hF => ?_)
  · exact dk_retv hR hF d_Model_works_153
  · refine dk_iload_n (k := 2) (i := 2) X 2 rfl rfl d_Model_works_124 ?_
    refine dk_iload_n (k := 3) (i := 3) X 3 rfl rfl d_Model_works_125 ?_
    refine dk_ishr X d_Model_works_126 ?_
    refine dk_iconst (v := 1) X (by decide) d_Model_works_127 ?_
    refine dk_iand X d_Model_works_128 ?_
    refine dk_if_ne (tgt := 147) X (by decide) d_Model_works_129 hF (fun hF => ?_) (fun hF => ?_)
    · exact (kb_Model_works_147 (n := n) X hR hk119  hF)
    · refine dk_aload_n (k := 0) (i := 0) X 0 rfl rfl d_Model_works_132 ?_
      refine dk_iload_n (k := 3) (i := 3) X 3 rfl rfl d_Model_works_133 ?_
      refine dk_callVv X v_Model_passes [.int x3] (c_Model_passes l g am n x3 S) 0 (oM_Model g am S) rfl rfl m_Model_262 rfl rfl ⟨rfl, rfl, Nat.le_of_ble_eq_true rfl, Nat.le_of_ble_eq_true rfl, Nat.le_refl _, Nat.le_refl _⟩ (Nat.le_of_ble_eq_true rfl) d_Model_works_134 hF (fun S8 hF => ?_)
      refine dk_aload_n (k := 0) (i := 0) X 0 rfl rfl d_Model_works_137 ?_
      refine dk_aload_n (k := 0) (i := 0) X 0 rfl rfl d_Model_works_138 ?_
      refine dk_get X q_Model 0 6 (by decide) (oM_Model g am S8) rfl f_Model_19 d_Model_works_139 ?_
      refine dk_iload_n (k := 3) (i := 3) X 3 rfl rfl d_Model_works_142 ?_
      refine dk_iald X 4 (aM_4 g am S8) d_Model_works_143 hF (fun v10 hF => ?_)
      refine dk_puti X q_Model 0 30 (by decide) (oM_Model g am S8) f_Model_259 rfl rfl (Nat.le_of_ble_eq_true rfl) (sM_Model_now g am S8 _) d_Model_works_144 hF (fun S11 hF => ?_)
      exact (kb_Model_works_147 (n := n) X hR hk119  hF)
def B_Model_works_119 (n : Nat)  : Nat → Int32 → Int32 → Int32 → dk_S → Option dk_S
  | 0 => fun _ _ _ _ => none
  | q + 1 => fun x1 x2 x3 S => B_Model_works_119b n (fun x1 x2 x3 S => B_Model_works_119 n  q x1 x2 x3 S) x1 x2 x3 S
theorem kb_Model_works_119 {p : Program} {l : Launch} {e : Env} {s : State} {m : MethodId} {args : Array Value} {below : List Frame} {meth : Method} {c : Code} {g : dk_G} {A : Nat → Prop} {Q : State → Prop} {am : Nat → Nat} {n : Nat} {res : dk_S} (X : dk_X p s m args meth c b_Model_works 4 R_Model (none) g A) (hR : dk_Rv p l e rm_Model_works s m args below meth c g A Q 4 b_Model_works (none) (wM g am) res)  : ∀ (q : Nat) (x1 : Int32) (x2 : Int32) (x3 : Int32)  (S : dk_S), B_Model_works_119 n  q x1 x2 x3 S = some res → dk_J p l e rm_Model_works s m args below meth c g A Q 4 0 0 119 [(0, .ref (am 0)), (1, .int x1), (2, .int x2), (3, .int x3)] [] (wM g am S) := by
  intro q
  induction q with
  | zero => intro x1 x2 x3  S hF; cases hF
  | succ q ih => intro x1 x2 x3  S hF; exact kb_Model_works_119b (n := n) X hR ih  hF
def B_Model_works_12b (n : Nat) (k12 : Int32 → Int32 → Int32 → dk_S → Option dk_S) (x1 : Int32) (x2 : Int32) (x3 : Int32) (S : dk_S) : Option dk_S :=
  if (S 2 0) ≤ x3 then (B_Model_works_119 n  n x1 x2 (0 : Int32) S) else (dk_r 6 (S 3) x3 fun v12 => dk_w S 27 6 x3 v12 fun S13 => dk_w S13 28 6 x3 (0 : Int32) fun S14 => dk_w S14 29 6 x3 (vp_nar .boolean (0 : Int32)) fun S15 => dk_r 6 (S15 4) x3 fun v16 => if v16 = (-1 : Int32) then (B_Model_works_71 n k12 x1 x2 x3 S15) else (dk_r 6 (S15 4) x3 fun v17 => dk_cv (F_Model_makes n (5 : Int32) v17 x3 (0 : Int32) (0 : Int32) (-1 : Int32) S15) fun S18 => B_Model_works_71 n k12 x1 x2 x3 S18))
set_option maxRecDepth 20000 in
theorem kb_Model_works_12b {p : Program} {l : Launch} {e : Env} {s : State} {m : MethodId} {args : Array Value} {below : List Frame} {meth : Method} {c : Code} {g : dk_G} {A : Nat → Prop} {Q : State → Prop} {am : Nat → Nat} {n : Nat} {res : dk_S} (X : dk_X p s m args meth c b_Model_works 4 R_Model (none) g A) (hR : dk_Rv p l e rm_Model_works s m args below meth c g A Q 4 b_Model_works (none) (wM g am) res) {k12 : Int32 → Int32 → Int32 → dk_S → Option dk_S} (hk12 : ∀ (x1 : Int32) (x2 : Int32) (x3 : Int32)  (S : dk_S), k12 x1 x2 x3 S = some res → dk_J p l e rm_Model_works s m args below meth c g A Q 4 0 0 12 [(0, .ref (am 0)), (1, .int x1), (2, .int x2), (3, .int x3)] [] (wM g am S)) {x1 : Int32} {x2 : Int32} {x3 : Int32} {S : dk_S}  (hF : B_Model_works_12b n k12 x1 x2 x3 S = some res) : dk_J p l e rm_Model_works s m args below meth c g A Q 4 0 0 12 [(0, .ref (am 0)), (1, .int x1), (2, .int x2), (3, .int x3)] [] (wM g am S) := by
  unfold B_Model_works_12b at hF
  refine dk_iload_n (k := 3) (i := 3) X 3 rfl rfl d_Model_works_12 ?_
  refine dk_aload_n (k := 0) (i := 0) X 0 rfl rfl d_Model_works_13 ?_
  refine dk_get X q_Model 0 2 (by decide) (oM_Model g am S) rfl f_Model_148 d_Model_works_14 ?_
  refine dk_icmp_ge (tgt := 117) X (by decide) d_Model_works_17 hF (fun hF => ?_) (fun hF => ?_)
  · refine dk_iconst (v := 0) X (by decide) d_Model_works_117 ?_
    refine dk_istore_n (k := 3) (i := 3) (lv' := [(3, .int (0 : Int32)), (0, .ref (am 0)), (1, .int x1), (2, .int x2)]) X rfl (by decide) rfl d_Model_works_118 ?_
    exact dk_sub [1, 2, 3, 0] rfl (kb_Model_works_119 (n := n) X hR  n x1 x2 (0 : Int32) S hF)
  · refine dk_aload_n (k := 0) (i := 0) X 0 rfl rfl d_Model_works_20 ?_
    refine dk_get X q_Model 0 27 (by decide) (oM_Model g am S) rfl f_Model_75 d_Model_works_21 ?_
    refine dk_iload_n (k := 3) (i := 3) X 3 rfl rfl d_Model_works_24 ?_
    refine dk_aload_n (k := 0) (i := 0) X 0 rfl rfl d_Model_works_25 ?_
    refine dk_get X q_Model 0 3 (by decide) (oM_Model g am S) rfl f_Model_13 d_Model_works_26 ?_
    refine dk_iload_n (k := 3) (i := 3) X 3 rfl rfl d_Model_works_29 ?_
    refine dk_iald X 2 (aM_2 g am S) d_Model_works_30 hF (fun v12 hF => ?_)
    refine dk_iast X 21 (aM_21 g am S) (sM_21 g am S _ _) d_Model_works_31 hF (fun S13 hF => ?_)
    refine dk_aload_n (k := 0) (i := 0) X 0 rfl rfl d_Model_works_32 ?_
    refine dk_get X q_Model 0 28 (by decide) (oM_Model g am S13) rfl f_Model_78 d_Model_works_33 ?_
    refine dk_iload_n (k := 3) (i := 3) X 3 rfl rfl d_Model_works_36 ?_
    refine dk_iconst (v := 0) X (by decide) d_Model_works_37 ?_
    refine dk_iast X 22 (aM_22 g am S13) (sM_22 g am S13 _ _) d_Model_works_38 hF (fun S14 hF => ?_)
    refine dk_aload_n (k := 0) (i := 0) X 0 rfl rfl d_Model_works_39 ?_
    refine dk_get X q_Model 0 29 (by decide) (oM_Model g am S14) rfl f_Model_81 d_Model_works_40 ?_
    refine dk_iload_n (k := 3) (i := 3) X 3 rfl rfl d_Model_works_43 ?_
    refine dk_iconst (v := 0) X (by decide) d_Model_works_44 ?_
    refine dk_zast X 23 (aM_23 g am S14) (sM_23 g am S14 _ _) d_Model_works_45 hF (fun S15 hF => ?_)
    refine dk_aload_n (k := 0) (i := 0) X 0 rfl rfl d_Model_works_46 ?_
    refine dk_get X q_Model 0 4 (by decide) (oM_Model g am S15) rfl f_Model_16 d_Model_works_47 ?_
    refine dk_iload_n (k := 3) (i := 3) X 3 rfl rfl d_Model_works_50 ?_
    refine dk_iald X 3 (aM_3 g am S15) d_Model_works_51 hF (fun v16 hF => ?_)
    refine dk_iconst (v := -1) X (by decide) d_Model_works_52 ?_
    refine dk_icmp_eq (tgt := 71) X (by decide) d_Model_works_53 hF (fun hF => ?_) (fun hF => ?_)
    · exact (kb_Model_works_71 (n := n) X hR hk12  hF)
    · refine dk_aload_n (k := 0) (i := 0) X 0 rfl rfl d_Model_works_56 ?_
      refine dk_iconst (v := 5) X (by decide) d_Model_works_57 ?_
      refine dk_aload_n (k := 0) (i := 0) X 0 rfl rfl d_Model_works_58 ?_
      refine dk_get X q_Model 0 4 (by decide) (oM_Model g am S15) rfl f_Model_16 d_Model_works_59 ?_
      refine dk_iload_n (k := 3) (i := 3) X 3 rfl rfl d_Model_works_62 ?_
      refine dk_iald X 3 (aM_3 g am S15) d_Model_works_63 hF (fun v17 hF => ?_)
      refine dk_iload_n (k := 3) (i := 3) X 3 rfl rfl d_Model_works_64 ?_
      refine dk_iconst (v := 0) X (by decide) d_Model_works_65 ?_
      refine dk_iconst (v := 0) X (by decide) d_Model_works_66 ?_
      refine dk_iconst (v := -1) X (by decide) d_Model_works_67 ?_
      refine dk_callVv X v_Model_makes [.int (5 : Int32), .int v17, .int x3, .int (0 : Int32), .int (0 : Int32), .int (-1 : Int32)] (c_Model_makes l g am n (5 : Int32) v17 x3 (0 : Int32) (0 : Int32) (-1 : Int32) S15) 0 (oM_Model g am S15) rfl rfl m_Model_249 rfl rfl ⟨rfl, rfl, Nat.le_of_ble_eq_true rfl, Nat.le_of_ble_eq_true rfl, Nat.le_refl _, Nat.le_refl _⟩ (Nat.le_of_ble_eq_true rfl) d_Model_works_68 hF (fun S18 hF => ?_)
      exact (kb_Model_works_71 (n := n) X hR hk12  hF)
def B_Model_works_12 (n : Nat)  : Nat → Int32 → Int32 → Int32 → dk_S → Option dk_S
  | 0 => fun _ _ _ _ => none
  | q + 1 => fun x1 x2 x3 S => B_Model_works_12b n (fun x1 x2 x3 S => B_Model_works_12 n  q x1 x2 x3 S) x1 x2 x3 S
theorem kb_Model_works_12 {p : Program} {l : Launch} {e : Env} {s : State} {m : MethodId} {args : Array Value} {below : List Frame} {meth : Method} {c : Code} {g : dk_G} {A : Nat → Prop} {Q : State → Prop} {am : Nat → Nat} {n : Nat} {res : dk_S} (X : dk_X p s m args meth c b_Model_works 4 R_Model (none) g A) (hR : dk_Rv p l e rm_Model_works s m args below meth c g A Q 4 b_Model_works (none) (wM g am) res)  : ∀ (q : Nat) (x1 : Int32) (x2 : Int32) (x3 : Int32)  (S : dk_S), B_Model_works_12 n  q x1 x2 x3 S = some res → dk_J p l e rm_Model_works s m args below meth c g A Q 4 0 0 12 [(0, .ref (am 0)), (1, .int x1), (2, .int x2), (3, .int x3)] [] (wM g am S) := by
  intro q
  induction q with
  | zero => intro x1 x2 x3  S hF; cases hF
  | succ q ih => intro x1 x2 x3  S hF; exact kb_Model_works_12b (n := n) X hR ih  hF
def B_Model_works_0 (n : Nat)  (x1 : Int32) (x2 : Int32) (S : dk_S) : Option dk_S :=
  dk_p S 18 (0 : Int32) fun S20 => dk_p S20 30 (0 : Int32) fun S21 => B_Model_works_12 n  n x1 x2 (0 : Int32) S21
set_option maxRecDepth 20000 in
theorem kb_Model_works_0 {p : Program} {l : Launch} {e : Env} {s : State} {m : MethodId} {args : Array Value} {below : List Frame} {meth : Method} {c : Code} {g : dk_G} {A : Nat → Prop} {Q : State → Prop} {am : Nat → Nat} {n : Nat} {res : dk_S} (X : dk_X p s m args meth c b_Model_works 4 R_Model (none) g A) (hR : dk_Rv p l e rm_Model_works s m args below meth c g A Q 4 b_Model_works (none) (wM g am) res)  {x1 : Int32} {x2 : Int32} {S : dk_S}  (hF : B_Model_works_0 n  x1 x2 S = some res) : dk_J p l e rm_Model_works s m args below meth c g A Q 4 0 0 0 [(0, .ref (am 0)), (1, .int x1), (2, .int x2)] [] (wM g am S) := by
  unfold B_Model_works_0 at hF
  refine dk_aload_n (k := 0) (i := 0) X 0 rfl rfl d_Model_works_0 ?_
  refine dk_iconst (v := 0) X (by decide) d_Model_works_1 ?_
  refine dk_puti X q_Model 0 18 (by decide) (oM_Model g am S) f_Model_246 rfl rfl (Nat.le_of_ble_eq_true rfl) (sM_Model_claims g am S _) d_Model_works_2 hF (fun S20 hF => ?_)
  refine dk_aload_n (k := 0) (i := 0) X 0 rfl rfl d_Model_works_5 ?_
  refine dk_iconst (v := 0) X (by decide) d_Model_works_6 ?_
  refine dk_puti X q_Model 0 30 (by decide) (oM_Model g am S20) f_Model_259 rfl rfl (Nat.le_of_ble_eq_true rfl) (sM_Model_now g am S20 _) d_Model_works_7 hF (fun S21 hF => ?_)
  refine dk_iconst (v := 0) X (by decide) d_Model_works_10 ?_
  refine dk_istore_n (k := 3) (i := 3) (lv' := [(3, .int (0 : Int32)), (0, .ref (am 0)), (1, .int x1), (2, .int x2)]) X rfl (by decide) rfl d_Model_works_11 ?_
  exact dk_sub [1, 2, 3, 0] rfl (kb_Model_works_12 (n := n) X hR  n x1 x2 (0 : Int32) S21 hF)
def F_Model_works (n : Nat) (x1 : Int32) (x2 : Int32) (S : dk_S) : Option dk_S := B_Model_works_0 n x1 x2 S
theorem c_Model_works (l : Launch) (g : dk_G) (am : Nat → Nat) (n : Nat) (x1 : Int32) (x2 : Int32)  (S : dk_S) : dk_Mv l g y_Model_works b_Model_works 4 rm_Model_works (none) [.ref (am 0), .int x1, .int x2] (wM g am) S (F_Model_works n x1 x2 S) := dk_enterv (by decide) rfl (Nat.le_of_ble_eq_true rfl) (fun p e s m args below meth c A Q res hF X hR => (kb_Model_works_0 (n := n) X hR  hF))
abbrev b_Model_claims : ByteArray := prog_11_method_45_code
def y_Model_claims : MethodName := ⟨R_Model, "claims", "(I)I"⟩
theorem d_Model_claims_0 : decode b_Model_claims 0 = .ok (.iload_n 1, 1) := by decide +kernel
theorem d_Model_claims_1 : decode b_Model_claims 1 = .ok (.iconst 0, 1) := by decide +kernel
theorem d_Model_claims_2 : decode b_Model_claims 2 = .ok (.aload_n 0, 1) := by decide +kernel
theorem d_Model_claims_3 : decode b_Model_claims 3 = .ok (.getfield 151, 3) := by decide +kernel
theorem d_Model_claims_6 : decode b_Model_claims 6 = .ok (.invokestatic 144, 3) := by decide +kernel
theorem d_Model_claims_9 : decode b_Model_claims 9 = .ok (.ifCond .ne 6, 3) := by decide +kernel
theorem d_Model_claims_12 : decode b_Model_claims 12 = .ok (.bipush (-2), 2) := by decide +kernel
theorem d_Model_claims_14 : decode b_Model_claims 14 = .ok (.ireturn, 1) := by decide +kernel
theorem d_Model_claims_15 : decode b_Model_claims 15 = .ok (.aload_n 0, 1) := by decide +kernel
theorem d_Model_claims_16 : decode b_Model_claims 16 = .ok (.iload_n 1, 1) := by decide +kernel
theorem d_Model_claims_17 : decode b_Model_claims 17 = .ok (.iconst 0, 1) := by decide +kernel
theorem d_Model_claims_18 : decode b_Model_claims 18 = .ok (.invokevirtual 280, 3) := by decide +kernel
theorem d_Model_claims_21 : decode b_Model_claims 21 = .ok (.aload_n 0, 1) := by decide +kernel
theorem d_Model_claims_22 : decode b_Model_claims 22 = .ok (.getfield 246, 3) := by decide +kernel
theorem d_Model_claims_25 : decode b_Model_claims 25 = .ok (.ireturn, 1) := by decide +kernel
theorem v_Model_claims : dk_Yv y_Model_claims b_Model_claims 2 (some .int) 1 := ⟨dk_in (List.mem_of_getElem? (i := 1239) (by decide +kernel)) rfl, dk_in (List.mem_of_getElem? (i := 1240) (by decide +kernel)) rfl, dk_in (List.mem_of_getElem? (i := 75) (by decide +kernel)) rfl, dk_in (List.mem_of_getElem? (i := 1241) (by decide +kernel)) rfl, by decide +kernel, by decide +kernel, by decide +kernel⟩
abbrev rm_Model_claims : Room := { frames := 4, cells := 0, slots := 0, locals := 98 }
theorem m_Model_280 : Cond.methodLink R_Model 280 y_Model_works ∈ dk_tb := dk_in (List.mem_of_getElem? (i := 1242) (by decide +kernel)) rfl
def B_Model_claims_0 (n : Nat)  (x1 : Int32) (S : dk_S) : Option (Int32 × dk_S) :=
  dk_c (F_Model_in n x1 (0 : Int32) (S 5 0) S) fun r2 S1 => if ¬ r2 = 0 then (dk_cv (F_Model_works n x1 (0 : Int32) S1) fun S3 => some ((S3 18 0), S3)) else (some ((-2 : Int32), S1))
set_option maxRecDepth 20000 in
theorem kb_Model_claims_0 {p : Program} {l : Launch} {e : Env} {s : State} {m : MethodId} {args : Array Value} {below : List Frame} {meth : Method} {c : Code} {g : dk_G} {A : Nat → Prop} {Q : State → Prop} {am : Nat → Nat} {n : Nat} {res : (Int32 × dk_S)} (X : dk_X p s m args meth c b_Model_claims 2 R_Model (some .int) g A) (hR : dk_Ri p l e rm_Model_claims s m args below meth c g A Q 2 b_Model_claims (some .int) (wM g am) res)  {x1 : Int32} {S : dk_S}  (hF : B_Model_claims_0 n  x1 S = some res) : dk_J p l e rm_Model_claims s m args below meth c g A Q 2 0 0 0 [(0, .ref (am 0)), (1, .int x1)] [] (wM g am S) := by
  unfold B_Model_claims_0 at hF
  refine dk_iload_n (k := 1) (i := 1) X 1 rfl rfl d_Model_claims_0 ?_
  refine dk_iconst (v := 0) X (by decide) d_Model_claims_1 ?_
  refine dk_aload_n (k := 0) (i := 0) X 0 rfl rfl d_Model_claims_2 ?_
  refine dk_get X q_Model 0 5 (by decide) (oM_Model g am S) rfl f_Model_151 d_Model_claims_3 ?_
  refine dk_callSi X v_Model_in [.int x1, .int (0 : Int32), .int (S 5 0)] (c_Model_in l g am n x1 (0 : Int32) (S 5 0) S) m_Model_144 rfl rfl ⟨rfl, rfl, Nat.le_of_ble_eq_true rfl, Nat.le_of_ble_eq_true rfl, Nat.le_refl _, Nat.le_refl _⟩ (Nat.le_of_ble_eq_true rfl) d_Model_claims_6 hF (fun r2 S1 hF => ?_)
  refine dk_if_ne (tgt := 15) X (by decide) d_Model_claims_9 hF (fun hF => ?_) (fun hF => ?_)
  · refine dk_aload_n (k := 0) (i := 0) X 0 rfl rfl d_Model_claims_15 ?_
    refine dk_iload_n (k := 1) (i := 1) X 1 rfl rfl d_Model_claims_16 ?_
    refine dk_iconst (v := 0) X (by decide) d_Model_claims_17 ?_
    refine dk_callVv X v_Model_works [.int x1, .int (0 : Int32)] (c_Model_works l g am n x1 (0 : Int32) S1) 0 (oM_Model g am S1) rfl rfl m_Model_280 rfl rfl ⟨rfl, rfl, Nat.le_of_ble_eq_true rfl, Nat.le_of_ble_eq_true rfl, Nat.le_refl _, Nat.le_refl _⟩ (Nat.le_of_ble_eq_true rfl) d_Model_claims_18 hF (fun S3 hF => ?_)
    refine dk_aload_n (k := 0) (i := 0) X 0 rfl rfl d_Model_claims_21 ?_
    refine dk_get X q_Model 0 18 (by decide) (oM_Model g am S3) rfl f_Model_246 d_Model_claims_22 ?_
    exact dk_reti hR hF d_Model_claims_25
  · refine dk_bipush (v := -2) X (by decide) d_Model_claims_12 ?_
    exact dk_reti hR hF d_Model_claims_14
def F_Model_claims (n : Nat) (x1 : Int32) (S : dk_S) : Option (Int32 × dk_S) := B_Model_claims_0 n x1 S
theorem c_Model_claims (l : Launch) (g : dk_G) (am : Nat → Nat) (n : Nat) (x1 : Int32)  (S : dk_S) : dk_Mi l g y_Model_claims b_Model_claims 2 rm_Model_claims (some .int) [.ref (am 0), .int x1] (wM g am) S (F_Model_claims n x1 S) := dk_enteri (by decide) (Nat.le_of_ble_eq_true rfl) (fun p e s m args below meth c A Q res hF X hR => (kb_Model_claims_0 (n := n) X hR  hF))
abbrev b_Model_isHeld : ByteArray := prog_11_method_39_code
def y_Model_isHeld : MethodName := ⟨R_Model, "isHeld", "(I)Z"⟩
theorem d_Model_isHeld_0 : decode b_Model_isHeld 0 = .ok (.iconst 0, 1) := by decide +kernel
theorem d_Model_isHeld_1 : decode b_Model_isHeld 1 = .ok (.istore_n 2, 1) := by decide +kernel
theorem d_Model_isHeld_2 : decode b_Model_isHeld 2 = .ok (.iload_n 2, 1) := by decide +kernel
theorem d_Model_isHeld_3 : decode b_Model_isHeld 3 = .ok (.aload_n 0, 1) := by decide +kernel
theorem d_Model_isHeld_4 : decode b_Model_isHeld 4 = .ok (.getfield 246, 3) := by decide +kernel
theorem d_Model_isHeld_7 : decode b_Model_isHeld 7 = .ok (.if_icmp .ge 40, 3) := by decide +kernel
theorem d_Model_isHeld_10 : decode b_Model_isHeld 10 = .ok (.aload_n 0, 1) := by decide +kernel
theorem d_Model_isHeld_11 : decode b_Model_isHeld 11 = .ok (.getfield 56, 3) := by decide +kernel
theorem d_Model_isHeld_14 : decode b_Model_isHeld 14 = .ok (.iload_n 2, 1) := by decide +kernel
theorem d_Model_isHeld_15 : decode b_Model_isHeld 15 = .ok (.iaload, 1) := by decide +kernel
theorem d_Model_isHeld_16 : decode b_Model_isHeld 16 = .ok (.iload_n 1, 1) := by decide +kernel
theorem d_Model_isHeld_17 : decode b_Model_isHeld 17 = .ok (.if_icmp .ne 24, 3) := by decide +kernel
theorem d_Model_isHeld_20 : decode b_Model_isHeld 20 = .ok (.aload_n 0, 1) := by decide +kernel
theorem d_Model_isHeld_21 : decode b_Model_isHeld 21 = .ok (.getfield 50, 3) := by decide +kernel
theorem d_Model_isHeld_24 : decode b_Model_isHeld 24 = .ok (.iload_n 2, 1) := by decide +kernel
theorem d_Model_isHeld_25 : decode b_Model_isHeld 25 = .ok (.iaload, 1) := by decide +kernel
theorem d_Model_isHeld_26 : decode b_Model_isHeld 26 = .ok (.iconst 3, 1) := by decide +kernel
theorem d_Model_isHeld_27 : decode b_Model_isHeld 27 = .ok (.if_icmp .ne 14, 3) := by decide +kernel
theorem d_Model_isHeld_30 : decode b_Model_isHeld 30 = .ok (.aload_n 0, 1) := by decide +kernel
theorem d_Model_isHeld_31 : decode b_Model_isHeld 31 = .ok (.getfield 71, 3) := by decide +kernel
theorem d_Model_isHeld_34 : decode b_Model_isHeld 34 = .ok (.iload_n 2, 1) := by decide +kernel
theorem d_Model_isHeld_35 : decode b_Model_isHeld 35 = .ok (.baload, 1) := by decide +kernel
theorem d_Model_isHeld_36 : decode b_Model_isHeld 36 = .ok (.ifCond .ne 5, 3) := by decide +kernel
theorem d_Model_isHeld_39 : decode b_Model_isHeld 39 = .ok (.iconst 1, 1) := by decide +kernel
theorem d_Model_isHeld_40 : decode b_Model_isHeld 40 = .ok (.ireturn, 1) := by decide +kernel
theorem d_Model_isHeld_41 : decode b_Model_isHeld 41 = .ok (.iinc 2 1, 3) := by decide +kernel
theorem d_Model_isHeld_44 : decode b_Model_isHeld 44 = .ok (.goto (-42), 3) := by decide +kernel
theorem d_Model_isHeld_47 : decode b_Model_isHeld 47 = .ok (.iconst 0, 1) := by decide +kernel
theorem d_Model_isHeld_48 : decode b_Model_isHeld 48 = .ok (.ireturn, 1) := by decide +kernel
theorem v_Model_isHeld : dk_Yv y_Model_isHeld b_Model_isHeld 3 (some .boolean) 1 := ⟨dk_in (List.mem_of_getElem? (i := 1272) (by decide +kernel)) rfl, dk_in (List.mem_of_getElem? (i := 55) (by decide +kernel)) rfl, dk_in (List.mem_of_getElem? (i := 75) (by decide +kernel)) rfl, dk_in (List.mem_of_getElem? (i := 1273) (by decide +kernel)) rfl, by decide +kernel, by decide +kernel, by decide +kernel⟩
abbrev rm_Model_isHeld : Room := { frames := 0, cells := 0, slots := 0, locals := 0 }
def B_Model_isHeld_41 (n : Nat) (k2 : Int32 → Int32 → dk_S → Option (Int32 × dk_S)) (x1 : Int32) (x2 : Int32) (S : dk_S) : Option (Int32 × dk_S) :=
  k2 x1 (x2 + (1 : Int32)) S
set_option maxRecDepth 20000 in
theorem kb_Model_isHeld_41 {p : Program} {l : Launch} {e : Env} {s : State} {m : MethodId} {args : Array Value} {below : List Frame} {meth : Method} {c : Code} {g : dk_G} {A : Nat → Prop} {Q : State → Prop} {am : Nat → Nat} {n : Nat} {res : (Int32 × dk_S)} (X : dk_X p s m args meth c b_Model_isHeld 3 R_Model (some .boolean) g A) (hR : dk_Ri p l e rm_Model_isHeld s m args below meth c g A Q 3 b_Model_isHeld (some .boolean) (wM g am) res) {k2 : Int32 → Int32 → dk_S → Option (Int32 × dk_S)} (hk2 : ∀ (x1 : Int32) (x2 : Int32)  (S : dk_S), k2 x1 x2 S = some res → dk_J p l e rm_Model_isHeld s m args below meth c g A Q 3 0 0 2 [(0, .ref (am 0)), (1, .int x1), (2, .int x2)] [] (wM g am S)) {x1 : Int32} {x2 : Int32} {S : dk_S}  (hF : B_Model_isHeld_41 n k2 x1 x2 S = some res) : dk_J p l e rm_Model_isHeld s m args below meth c g A Q 3 0 0 41 [(0, .ref (am 0)), (1, .int x1), (2, .int x2)] [] (wM g am S) := by
  unfold B_Model_isHeld_41 at hF
  refine dk_iinc (i := 2) (v := (x2 + (1 : Int32))) (lv' := [(2, .int (x2 + (1 : Int32))), (0, .ref (am 0)), (1, .int x1)]) X 2 rfl (dk_ii _ (by decide)) (by decide) rfl d_Model_isHeld_41 ?_
  refine dk_goto (tgt := 2) X (by decide) d_Model_isHeld_44 ?_
  exact dk_sub [1, 2, 0] rfl (hk2 x1 (x2 + (1 : Int32)) S hF)
def B_Model_isHeld_2b (n : Nat) (k2 : Int32 → Int32 → dk_S → Option (Int32 × dk_S)) (x1 : Int32) (x2 : Int32) (S : dk_S) : Option (Int32 × dk_S) :=
  if (S 18 0) ≤ x2 then (dk_b (0 : Int32) (some ((0 : Int32), S))) else (dk_r 44 (S 21) x2 fun v1 => if ¬ v1 = x1 then (B_Model_isHeld_41 n k2 x1 x2 S) else (dk_r 44 (S 19) x2 fun v2 => if ¬ v2 = (3 : Int32) then (B_Model_isHeld_41 n k2 x1 x2 S) else (dk_r 44 (S 26) x2 fun v3 => if ¬ v3 = 0 then (B_Model_isHeld_41 n k2 x1 x2 S) else (dk_b (1 : Int32) (some ((1 : Int32), S))))))
set_option maxRecDepth 20000 in
theorem kb_Model_isHeld_2b {p : Program} {l : Launch} {e : Env} {s : State} {m : MethodId} {args : Array Value} {below : List Frame} {meth : Method} {c : Code} {g : dk_G} {A : Nat → Prop} {Q : State → Prop} {am : Nat → Nat} {n : Nat} {res : (Int32 × dk_S)} (X : dk_X p s m args meth c b_Model_isHeld 3 R_Model (some .boolean) g A) (hR : dk_Ri p l e rm_Model_isHeld s m args below meth c g A Q 3 b_Model_isHeld (some .boolean) (wM g am) res) {k2 : Int32 → Int32 → dk_S → Option (Int32 × dk_S)} (hk2 : ∀ (x1 : Int32) (x2 : Int32)  (S : dk_S), k2 x1 x2 S = some res → dk_J p l e rm_Model_isHeld s m args below meth c g A Q 3 0 0 2 [(0, .ref (am 0)), (1, .int x1), (2, .int x2)] [] (wM g am S)) {x1 : Int32} {x2 : Int32} {S : dk_S}  (hF : B_Model_isHeld_2b n k2 x1 x2 S = some res) : dk_J p l e rm_Model_isHeld s m args below meth c g A Q 3 0 0 2 [(0, .ref (am 0)), (1, .int x1), (2, .int x2)] [] (wM g am S) := by
  unfold B_Model_isHeld_2b at hF
  refine dk_iload_n (k := 2) (i := 2) X 2 rfl rfl d_Model_isHeld_2 ?_
  refine dk_aload_n (k := 0) (i := 0) X 0 rfl rfl d_Model_isHeld_3 ?_
  refine dk_get X q_Model 0 18 (by decide) (oM_Model g am S) rfl f_Model_246 d_Model_isHeld_4 ?_
  refine dk_icmp_ge (tgt := 47) X (by decide) d_Model_isHeld_7 hF (fun hF => ?_) (fun hF => ?_)
  · refine dk_iconst (v := 0) X (by decide) d_Model_isHeld_47 ?_
    exact dk_retz hR hF d_Model_isHeld_48
  · refine dk_aload_n (k := 0) (i := 0) X 0 rfl rfl d_Model_isHeld_10 ?_
    refine dk_get X q_Model 0 21 (by decide) (oM_Model g am S) rfl f_Model_56 d_Model_isHeld_11 ?_
    refine dk_iload_n (k := 2) (i := 2) X 2 rfl rfl d_Model_isHeld_14 ?_
    refine dk_iald X 15 (aM_15 g am S) d_Model_isHeld_15 hF (fun v1 hF => ?_)
    refine dk_iload_n (k := 1) (i := 1) X 1 rfl rfl d_Model_isHeld_16 ?_
    refine dk_icmp_ne (tgt := 41) X (by decide) d_Model_isHeld_17 hF (fun hF => ?_) (fun hF => ?_)
    · exact (kb_Model_isHeld_41 (n := n) X hR hk2  hF)
    · refine dk_aload_n (k := 0) (i := 0) X 0 rfl rfl d_Model_isHeld_20 ?_
      refine dk_get X q_Model 0 19 (by decide) (oM_Model g am S) rfl f_Model_50 d_Model_isHeld_21 ?_
      refine dk_iload_n (k := 2) (i := 2) X 2 rfl rfl d_Model_isHeld_24 ?_
      refine dk_iald X 13 (aM_13 g am S) d_Model_isHeld_25 hF (fun v2 hF => ?_)
      refine dk_iconst (v := 3) X (by decide) d_Model_isHeld_26 ?_
      refine dk_icmp_ne (tgt := 41) X (by decide) d_Model_isHeld_27 hF (fun hF => ?_) (fun hF => ?_)
      · exact (kb_Model_isHeld_41 (n := n) X hR hk2  hF)
      · refine dk_aload_n (k := 0) (i := 0) X 0 rfl rfl d_Model_isHeld_30 ?_
        refine dk_get X q_Model 0 26 (by decide) (oM_Model g am S) rfl f_Model_71 d_Model_isHeld_31 ?_
        refine dk_iload_n (k := 2) (i := 2) X 2 rfl rfl d_Model_isHeld_34 ?_
        refine dk_zald X 20 (aM_20 g am S) d_Model_isHeld_35 hF (fun v3 hF => ?_)
        refine dk_if_ne (tgt := 41) X (by decide) d_Model_isHeld_36 hF (fun hF => ?_) (fun hF => ?_)
        · exact (kb_Model_isHeld_41 (n := n) X hR hk2  hF)
        · refine dk_iconst (v := 1) X (by decide) d_Model_isHeld_39 ?_
          exact dk_retz hR hF d_Model_isHeld_40
def B_Model_isHeld_2 (n : Nat)  : Nat → Int32 → Int32 → dk_S → Option (Int32 × dk_S)
  | 0 => fun _ _ _ => none
  | q + 1 => fun x1 x2 S => B_Model_isHeld_2b n (fun x1 x2 S => B_Model_isHeld_2 n  q x1 x2 S) x1 x2 S
theorem kb_Model_isHeld_2 {p : Program} {l : Launch} {e : Env} {s : State} {m : MethodId} {args : Array Value} {below : List Frame} {meth : Method} {c : Code} {g : dk_G} {A : Nat → Prop} {Q : State → Prop} {am : Nat → Nat} {n : Nat} {res : (Int32 × dk_S)} (X : dk_X p s m args meth c b_Model_isHeld 3 R_Model (some .boolean) g A) (hR : dk_Ri p l e rm_Model_isHeld s m args below meth c g A Q 3 b_Model_isHeld (some .boolean) (wM g am) res)  : ∀ (q : Nat) (x1 : Int32) (x2 : Int32)  (S : dk_S), B_Model_isHeld_2 n  q x1 x2 S = some res → dk_J p l e rm_Model_isHeld s m args below meth c g A Q 3 0 0 2 [(0, .ref (am 0)), (1, .int x1), (2, .int x2)] [] (wM g am S) := by
  intro q
  induction q with
  | zero => intro x1 x2  S hF; cases hF
  | succ q ih => intro x1 x2  S hF; exact kb_Model_isHeld_2b (n := n) X hR ih  hF
def B_Model_isHeld_0 (n : Nat)  (x1 : Int32) (S : dk_S) : Option (Int32 × dk_S) :=
  B_Model_isHeld_2 n  n x1 (0 : Int32) S
set_option maxRecDepth 20000 in
theorem kb_Model_isHeld_0 {p : Program} {l : Launch} {e : Env} {s : State} {m : MethodId} {args : Array Value} {below : List Frame} {meth : Method} {c : Code} {g : dk_G} {A : Nat → Prop} {Q : State → Prop} {am : Nat → Nat} {n : Nat} {res : (Int32 × dk_S)} (X : dk_X p s m args meth c b_Model_isHeld 3 R_Model (some .boolean) g A) (hR : dk_Ri p l e rm_Model_isHeld s m args below meth c g A Q 3 b_Model_isHeld (some .boolean) (wM g am) res)  {x1 : Int32} {S : dk_S}  (hF : B_Model_isHeld_0 n  x1 S = some res) : dk_J p l e rm_Model_isHeld s m args below meth c g A Q 3 0 0 0 [(0, .ref (am 0)), (1, .int x1)] [] (wM g am S) := by
  unfold B_Model_isHeld_0 at hF
  refine dk_iconst (v := 0) X (by decide) d_Model_isHeld_0 ?_
  refine dk_istore_n (k := 2) (i := 2) (lv' := [(2, .int (0 : Int32)), (0, .ref (am 0)), (1, .int x1)]) X rfl (by decide) rfl d_Model_isHeld_1 ?_
  exact dk_sub [1, 2, 0] rfl (kb_Model_isHeld_2 (n := n) X hR  n x1 (0 : Int32) S hF)
def F_Model_isHeld (n : Nat) (x1 : Int32) (S : dk_S) : Option (Int32 × dk_S) := B_Model_isHeld_0 n x1 S
theorem c_Model_isHeld (l : Launch) (g : dk_G) (am : Nat → Nat) (n : Nat) (x1 : Int32)  (S : dk_S) : dk_Mi l g y_Model_isHeld b_Model_isHeld 3 rm_Model_isHeld (some .boolean) [.ref (am 0), .int x1] (wM g am) S (F_Model_isHeld n x1 S) := dk_enteri (by decide) (Nat.le_of_ble_eq_true rfl) (fun p e s m args below meth c A Q res hF X hR => (kb_Model_isHeld_0 (n := n) X hR  hF))
