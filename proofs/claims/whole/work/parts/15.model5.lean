abbrev b_Model_copy : ByteArray := prog_11_method_70_code
def y_Model_copy : MethodName := ⟨R_Model, "copy", "(IIIII)I"⟩
theorem d_Model_copy_0 : decode b_Model_copy 0 = .ok (.iload_n 1, 1) := by decide +kernel
theorem d_Model_copy_1 : decode b_Model_copy 1 = .ok (.iconst 0, 1) := by decide +kernel
theorem d_Model_copy_2 : decode b_Model_copy 2 = .ok (.iconst 3, 1) := by decide +kernel
theorem d_Model_copy_3 : decode b_Model_copy 3 = .ok (.invokestatic 144, 3) := by decide +kernel
theorem d_Model_copy_6 : decode b_Model_copy 6 = .ok (.ifCond .eq 12, 3) := by decide +kernel
theorem d_Model_copy_9 : decode b_Model_copy 9 = .ok (.iload_n 3, 1) := by decide +kernel
theorem d_Model_copy_10 : decode b_Model_copy 10 = .ok (.iconst 0, 1) := by decide +kernel
theorem d_Model_copy_11 : decode b_Model_copy 11 = .ok (.iconst 3, 1) := by decide +kernel
theorem d_Model_copy_12 : decode b_Model_copy 12 = .ok (.invokestatic 144, 3) := by decide +kernel
theorem d_Model_copy_15 : decode b_Model_copy 15 = .ok (.ifCond .ne 6, 3) := by decide +kernel
theorem d_Model_copy_18 : decode b_Model_copy 18 = .ok (.bipush (-2), 2) := by decide +kernel
theorem d_Model_copy_20 : decode b_Model_copy 20 = .ok (.ireturn, 1) := by decide +kernel
theorem d_Model_copy_21 : decode b_Model_copy 21 = .ok (.aload_n 0, 1) := by decide +kernel
theorem d_Model_copy_22 : decode b_Model_copy 22 = .ok (.getfield 90, 3) := by decide +kernel
theorem d_Model_copy_25 : decode b_Model_copy 25 = .ok (.iload_n 1, 1) := by decide +kernel
theorem d_Model_copy_26 : decode b_Model_copy 26 = .ok (.iaload, 1) := by decide +kernel
theorem d_Model_copy_27 : decode b_Model_copy 27 = .ok (.iconst (-1), 1) := by decide +kernel
theorem d_Model_copy_28 : decode b_Model_copy 28 = .ok (.if_icmp .eq 13, 3) := by decide +kernel
theorem d_Model_copy_31 : decode b_Model_copy 31 = .ok (.aload_n 0, 1) := by decide +kernel
theorem d_Model_copy_32 : decode b_Model_copy 32 = .ok (.getfield 90, 3) := by decide +kernel
theorem d_Model_copy_35 : decode b_Model_copy 35 = .ok (.iload_n 3, 1) := by decide +kernel
theorem d_Model_copy_36 : decode b_Model_copy 36 = .ok (.iaload, 1) := by decide +kernel
theorem d_Model_copy_37 : decode b_Model_copy 37 = .ok (.iconst (-1), 1) := by decide +kernel
theorem d_Model_copy_38 : decode b_Model_copy 38 = .ok (.if_icmp .ne 6, 3) := by decide +kernel
theorem d_Model_copy_41 : decode b_Model_copy 41 = .ok (.bipush (-11), 2) := by decide +kernel
theorem d_Model_copy_43 : decode b_Model_copy 43 = .ok (.ireturn, 1) := by decide +kernel
theorem d_Model_copy_44 : decode b_Model_copy 44 = .ok (.aload_n 0, 1) := by decide +kernel
theorem d_Model_copy_45 : decode b_Model_copy 45 = .ok (.getfield 90, 3) := by decide +kernel
theorem d_Model_copy_48 : decode b_Model_copy 48 = .ok (.iload_n 1, 1) := by decide +kernel
theorem d_Model_copy_49 : decode b_Model_copy 49 = .ok (.iaload, 1) := by decide +kernel
theorem d_Model_copy_50 : decode b_Model_copy 50 = .ok (.aload_n 0, 1) := by decide +kernel
theorem d_Model_copy_51 : decode b_Model_copy 51 = .ok (.getfield 90, 3) := by decide +kernel
theorem d_Model_copy_54 : decode b_Model_copy 54 = .ok (.iload_n 3, 1) := by decide +kernel
theorem d_Model_copy_55 : decode b_Model_copy 55 = .ok (.iaload, 1) := by decide +kernel
theorem d_Model_copy_56 : decode b_Model_copy 56 = .ok (.if_icmp .eq 6, 3) := by decide +kernel
theorem d_Model_copy_59 : decode b_Model_copy 59 = .ok (.bipush (-13), 2) := by decide +kernel
theorem d_Model_copy_61 : decode b_Model_copy 61 = .ok (.ireturn, 1) := by decide +kernel
theorem d_Model_copy_62 : decode b_Model_copy 62 = .ok (.iload 5, 2) := by decide +kernel
theorem d_Model_copy_64 : decode b_Model_copy 64 = .ok (.ifCond .lt 60, 3) := by decide +kernel
theorem d_Model_copy_67 : decode b_Model_copy 67 = .ok (.iload_n 2, 1) := by decide +kernel
theorem d_Model_copy_68 : decode b_Model_copy 68 = .ok (.ifCond .lt 56, 3) := by decide +kernel
theorem d_Model_copy_71 : decode b_Model_copy 71 = .ok (.iload 4, 2) := by decide +kernel
theorem d_Model_copy_73 : decode b_Model_copy 73 = .ok (.ifCond .lt 51, 3) := by decide +kernel
theorem d_Model_copy_76 : decode b_Model_copy 76 = .ok (.iload_n 2, 1) := by decide +kernel
theorem d_Model_copy_77 : decode b_Model_copy 77 = .ok (.aload_n 0, 1) := by decide +kernel
theorem d_Model_copy_78 : decode b_Model_copy 78 = .ok (.getfield 93, 3) := by decide +kernel
theorem d_Model_copy_81 : decode b_Model_copy 81 = .ok (.iload_n 1, 1) := by decide +kernel
theorem d_Model_copy_82 : decode b_Model_copy 82 = .ok (.iaload, 1) := by decide +kernel
theorem d_Model_copy_83 : decode b_Model_copy 83 = .ok (.if_icmp .gt 41, 3) := by decide +kernel
theorem d_Model_copy_86 : decode b_Model_copy 86 = .ok (.iload 4, 2) := by decide +kernel
theorem d_Model_copy_88 : decode b_Model_copy 88 = .ok (.aload_n 0, 1) := by decide +kernel
theorem d_Model_copy_89 : decode b_Model_copy 89 = .ok (.getfield 93, 3) := by decide +kernel
theorem d_Model_copy_92 : decode b_Model_copy 92 = .ok (.iload_n 3, 1) := by decide +kernel
theorem d_Model_copy_93 : decode b_Model_copy 93 = .ok (.iaload, 1) := by decide +kernel
theorem d_Model_copy_94 : decode b_Model_copy 94 = .ok (.if_icmp .gt 30, 3) := by decide +kernel
theorem d_Model_copy_97 : decode b_Model_copy 97 = .ok (.iload 5, 2) := by decide +kernel
theorem d_Model_copy_99 : decode b_Model_copy 99 = .ok (.aload_n 0, 1) := by decide +kernel
theorem d_Model_copy_100 : decode b_Model_copy 100 = .ok (.getfield 93, 3) := by decide +kernel
theorem d_Model_copy_103 : decode b_Model_copy 103 = .ok (.iload_n 1, 1) := by decide +kernel
theorem d_Model_copy_104 : decode b_Model_copy 104 = .ok (.iaload, 1) := by decide +kernel
theorem d_Model_copy_105 : decode b_Model_copy 105 = .ok (.iload_n 2, 1) := by decide +kernel
theorem d_Model_copy_106 : decode b_Model_copy 106 = .ok (.isub, 1) := by decide +kernel
theorem d_Model_copy_107 : decode b_Model_copy 107 = .ok (.if_icmp .gt 17, 3) := by decide +kernel
theorem d_Model_copy_110 : decode b_Model_copy 110 = .ok (.iload 5, 2) := by decide +kernel
theorem d_Model_copy_112 : decode b_Model_copy 112 = .ok (.aload_n 0, 1) := by decide +kernel
theorem d_Model_copy_113 : decode b_Model_copy 113 = .ok (.getfield 93, 3) := by decide +kernel
theorem d_Model_copy_116 : decode b_Model_copy 116 = .ok (.iload_n 3, 1) := by decide +kernel
theorem d_Model_copy_117 : decode b_Model_copy 117 = .ok (.iaload, 1) := by decide +kernel
theorem d_Model_copy_118 : decode b_Model_copy 118 = .ok (.iload 4, 2) := by decide +kernel
theorem d_Model_copy_120 : decode b_Model_copy 120 = .ok (.isub, 1) := by decide +kernel
theorem d_Model_copy_121 : decode b_Model_copy 121 = .ok (.if_icmp .le 6, 3) := by decide +kernel
theorem d_Model_copy_124 : decode b_Model_copy 124 = .ok (.bipush (-12), 2) := by decide +kernel
theorem d_Model_copy_126 : decode b_Model_copy 126 = .ok (.ireturn, 1) := by decide +kernel
theorem d_Model_copy_127 : decode b_Model_copy 127 = .ok (.bipush 40, 2) := by decide +kernel
theorem d_Model_copy_129 : decode b_Model_copy 129 = .ok (.iload_n 1, 1) := by decide +kernel
theorem d_Model_copy_130 : decode b_Model_copy 130 = .ok (.imul, 1) := by decide +kernel
theorem d_Model_copy_131 : decode b_Model_copy 131 = .ok (.iload_n 2, 1) := by decide +kernel
theorem d_Model_copy_132 : decode b_Model_copy 132 = .ok (.iadd, 1) := by decide +kernel
theorem d_Model_copy_133 : decode b_Model_copy 133 = .ok (.istore 6, 2) := by decide +kernel
theorem d_Model_copy_135 : decode b_Model_copy 135 = .ok (.bipush 40, 2) := by decide +kernel
theorem d_Model_copy_137 : decode b_Model_copy 137 = .ok (.iload_n 3, 1) := by decide +kernel
theorem d_Model_copy_138 : decode b_Model_copy 138 = .ok (.imul, 1) := by decide +kernel
theorem d_Model_copy_139 : decode b_Model_copy 139 = .ok (.iload 4, 2) := by decide +kernel
theorem d_Model_copy_141 : decode b_Model_copy 141 = .ok (.iadd, 1) := by decide +kernel
theorem d_Model_copy_142 : decode b_Model_copy 142 = .ok (.istore 7, 2) := by decide +kernel
theorem d_Model_copy_144 : decode b_Model_copy 144 = .ok (.iconst 0, 1) := by decide +kernel
theorem d_Model_copy_145 : decode b_Model_copy 145 = .ok (.istore 8, 2) := by decide +kernel
theorem d_Model_copy_147 : decode b_Model_copy 147 = .ok (.iload 8, 2) := by decide +kernel
theorem d_Model_copy_149 : decode b_Model_copy 149 = .ok (.iload 5, 2) := by decide +kernel
theorem d_Model_copy_151 : decode b_Model_copy 151 = .ok (.if_icmp .ge 50, 3) := by decide +kernel
theorem d_Model_copy_154 : decode b_Model_copy 154 = .ok (.iload 6, 2) := by decide +kernel
theorem d_Model_copy_156 : decode b_Model_copy 156 = .ok (.iload 7, 2) := by decide +kernel
theorem d_Model_copy_158 : decode b_Model_copy 158 = .ok (.if_icmp .ge 13, 3) := by decide +kernel
theorem d_Model_copy_161 : decode b_Model_copy 161 = .ok (.iload 5, 2) := by decide +kernel
theorem d_Model_copy_163 : decode b_Model_copy 163 = .ok (.iconst 1, 1) := by decide +kernel
theorem d_Model_copy_164 : decode b_Model_copy 164 = .ok (.isub, 1) := by decide +kernel
theorem d_Model_copy_165 : decode b_Model_copy 165 = .ok (.iload 8, 2) := by decide +kernel
theorem d_Model_copy_167 : decode b_Model_copy 167 = .ok (.isub, 1) := by decide +kernel
theorem d_Model_copy_168 : decode b_Model_copy 168 = .ok (.goto 5, 3) := by decide +kernel
theorem d_Model_copy_171 : decode b_Model_copy 171 = .ok (.iload 8, 2) := by decide +kernel
theorem d_Model_copy_173 : decode b_Model_copy 173 = .ok (.istore 9, 2) := by decide +kernel
theorem d_Model_copy_175 : decode b_Model_copy 175 = .ok (.aload_n 0, 1) := by decide +kernel
theorem d_Model_copy_176 : decode b_Model_copy 176 = .ok (.getfield 96, 3) := by decide +kernel
theorem d_Model_copy_179 : decode b_Model_copy 179 = .ok (.iload 7, 2) := by decide +kernel
theorem d_Model_copy_181 : decode b_Model_copy 181 = .ok (.iload 9, 2) := by decide +kernel
theorem d_Model_copy_183 : decode b_Model_copy 183 = .ok (.iadd, 1) := by decide +kernel
theorem d_Model_copy_184 : decode b_Model_copy 184 = .ok (.aload_n 0, 1) := by decide +kernel
theorem d_Model_copy_185 : decode b_Model_copy 185 = .ok (.getfield 96, 3) := by decide +kernel
theorem d_Model_copy_188 : decode b_Model_copy 188 = .ok (.iload 6, 2) := by decide +kernel
theorem d_Model_copy_190 : decode b_Model_copy 190 = .ok (.iload 9, 2) := by decide +kernel
theorem d_Model_copy_192 : decode b_Model_copy 192 = .ok (.iadd, 1) := by decide +kernel
theorem d_Model_copy_193 : decode b_Model_copy 193 = .ok (.iaload, 1) := by decide +kernel
theorem d_Model_copy_194 : decode b_Model_copy 194 = .ok (.iastore, 1) := by decide +kernel
theorem d_Model_copy_195 : decode b_Model_copy 195 = .ok (.iinc 8 1, 3) := by decide +kernel
theorem d_Model_copy_198 : decode b_Model_copy 198 = .ok (.goto (-51), 3) := by decide +kernel
theorem d_Model_copy_201 : decode b_Model_copy 201 = .ok (.iload 5, 2) := by decide +kernel
theorem d_Model_copy_203 : decode b_Model_copy 203 = .ok (.ireturn, 1) := by decide +kernel
theorem v_Model_copy : dk_Yv y_Model_copy b_Model_copy 10 (some .int) 5 := ⟨dk_in (List.mem_of_getElem? (i := 1382) (by decide +kernel)) rfl, dk_in (List.mem_of_getElem? (i := 1383) (by decide +kernel)) rfl, dk_in (List.mem_of_getElem? (i := 75) (by decide +kernel)) rfl, dk_in (List.mem_of_getElem? (i := 1384) (by decide +kernel)) rfl, by decide +kernel, by decide +kernel, by decide +kernel⟩
abbrev rm_Model_copy : Room := { frames := 1, cells := 0, slots := 0, locals := 22 }
def B_Model_copy_173 (n : Nat) (k147 : Int32 → Int32 → Int32 → Int32 → dk_S → Option (Int32 × dk_S)) (x5 : Int32) (x6 : Int32) (x7 : Int32) (x8 : Int32) (u0 : Int32) (S : dk_S) : Option (Int32 × dk_S) :=
  dk_r 160 (S 39) (x6 + u0) fun v1 => dk_w S 39 160 (x7 + u0) v1 fun S2 => k147 x5 x6 x7 (x8 + (1 : Int32)) S2
set_option maxRecDepth 20000 in
theorem kb_Model_copy_173 {p : Program} {l : Launch} {e : Env} {s : State} {m : MethodId} {args : Array Value} {below : List Frame} {meth : Method} {c : Code} {g : dk_G} {A : Nat → Prop} {Q : State → Prop} {am : Nat → Nat} {n : Nat} {res : (Int32 × dk_S)} (X : dk_X p s m args meth c b_Model_copy 10 R_Model (some .int) g A) (hR : dk_Ri p l e rm_Model_copy s m args below meth c g A Q 10 b_Model_copy (some .int) (wM g am) res) {k147 : Int32 → Int32 → Int32 → Int32 → dk_S → Option (Int32 × dk_S)} (hk147 : ∀ (x5 : Int32) (x6 : Int32) (x7 : Int32) (x8 : Int32)  (S : dk_S), k147 x5 x6 x7 x8 S = some res → dk_J p l e rm_Model_copy s m args below meth c g A Q 10 0 0 147 [(0, .ref (am 0)), (5, .int x5), (6, .int x6), (7, .int x7), (8, .int x8)] [] (wM g am S)) {x5 : Int32} {x6 : Int32} {x7 : Int32} {x8 : Int32} {u0 : Int32} {S : dk_S}  (hF : B_Model_copy_173 n k147 x5 x6 x7 x8 u0 S = some res) : dk_J p l e rm_Model_copy s m args below meth c g A Q 10 0 0 173 [(0, .ref (am 0)), (5, .int x5), (6, .int x6), (7, .int x7), (8, .int x8)] [.int u0] (wM g am S) := by
  unfold B_Model_copy_173 at hF
  refine dk_istore (i := 9) (lv' := [(9, .int u0), (0, .ref (am 0)), (5, .int x5), (6, .int x6), (7, .int x7), (8, .int x8)]) X (by decide) rfl d_Model_copy_173 ?_
  refine dk_aload_n (k := 0) (i := 0) X 1 rfl rfl d_Model_copy_175 ?_
  refine dk_get X q_Model 0 39 (by decide) (oM_Model g am S) rfl f_Model_96 d_Model_copy_176 ?_
  refine dk_iload (i := 7) X 4 rfl d_Model_copy_179 ?_
  refine dk_iload (i := 9) X 0 rfl d_Model_copy_181 ?_
  refine dk_iadd X d_Model_copy_183 ?_
  refine dk_aload_n (k := 0) (i := 0) X 1 rfl rfl d_Model_copy_184 ?_
  refine dk_get X q_Model 0 39 (by decide) (oM_Model g am S) rfl f_Model_96 d_Model_copy_185 ?_
  refine dk_iload (i := 6) X 3 rfl d_Model_copy_188 ?_
  refine dk_iload (i := 9) X 0 rfl d_Model_copy_190 ?_
  refine dk_iadd X d_Model_copy_192 ?_
  refine dk_iald X 28 (aM_28 g am S) d_Model_copy_193 hF (fun v1 hF => ?_)
  refine dk_iast X 28 (aM_28 g am S) (sM_28 g am S _ _) d_Model_copy_194 hF (fun S2 hF => ?_)
  refine dk_iinc (i := 8) (v := (x8 + (1 : Int32))) (lv' := [(8, .int (x8 + (1 : Int32))), (9, .int u0), (0, .ref (am 0)), (5, .int x5), (6, .int x6), (7, .int x7)]) X 5 rfl (dk_ii _ (by decide)) (by decide) rfl d_Model_copy_195 ?_
  refine dk_goto (tgt := 147) X (by decide) d_Model_copy_198 ?_
  exact dk_sub [2, 3, 4, 5, 0] rfl (hk147 x5 x6 x7 (x8 + (1 : Int32)) S2 hF)
def B_Model_copy_147b (n : Nat) (k147 : Int32 → Int32 → Int32 → Int32 → dk_S → Option (Int32 × dk_S)) (x5 : Int32) (x6 : Int32) (x7 : Int32) (x8 : Int32) (S : dk_S) : Option (Int32 × dk_S) :=
  if x5 ≤ x8 then (some (x5, S)) else (if x7 ≤ x6 then (B_Model_copy_173 n k147 x5 x6 x7 x8 x8 S) else (B_Model_copy_173 n k147 x5 x6 x7 x8 ((x5 - (1 : Int32)) - x8) S))
set_option maxRecDepth 20000 in
theorem kb_Model_copy_147b {p : Program} {l : Launch} {e : Env} {s : State} {m : MethodId} {args : Array Value} {below : List Frame} {meth : Method} {c : Code} {g : dk_G} {A : Nat → Prop} {Q : State → Prop} {am : Nat → Nat} {n : Nat} {res : (Int32 × dk_S)} (X : dk_X p s m args meth c b_Model_copy 10 R_Model (some .int) g A) (hR : dk_Ri p l e rm_Model_copy s m args below meth c g A Q 10 b_Model_copy (some .int) (wM g am) res) {k147 : Int32 → Int32 → Int32 → Int32 → dk_S → Option (Int32 × dk_S)} (hk147 : ∀ (x5 : Int32) (x6 : Int32) (x7 : Int32) (x8 : Int32)  (S : dk_S), k147 x5 x6 x7 x8 S = some res → dk_J p l e rm_Model_copy s m args below meth c g A Q 10 0 0 147 [(0, .ref (am 0)), (5, .int x5), (6, .int x6), (7, .int x7), (8, .int x8)] [] (wM g am S)) {x5 : Int32} {x6 : Int32} {x7 : Int32} {x8 : Int32} {S : dk_S}  (hF : B_Model_copy_147b n k147 x5 x6 x7 x8 S = some res) : dk_J p l e rm_Model_copy s m args below meth c g A Q 10 0 0 147 [(0, .ref (am 0)), (5, .int x5), (6, .int x6), (7, .int x7), (8, .int x8)] [] (wM g am S) := by
  unfold B_Model_copy_147b at hF
  refine dk_iload (i := 8) X 4 rfl d_Model_copy_147 ?_
  refine dk_iload (i := 5) X 1 rfl d_Model_copy_149 ?_
  refine dk_icmp_ge (tgt := 201) X (by decide) d_Model_copy_151 hF (fun hF => ?_) (fun hF => ?_)
  · refine dk_iload (i := 5) X 1 rfl d_Model_copy_201 ?_
    exact dk_reti hR hF d_Model_copy_203
  · refine dk_iload (i := 6) X 2 rfl d_Model_copy_154 ?_
    refine dk_iload (i := 7) X 3 rfl d_Model_copy_156 ?_
    refine dk_icmp_ge (tgt := 171) X (by decide) d_Model_copy_158 hF (fun hF => ?_) (fun hF => ?_)
    · refine dk_iload (i := 8) X 4 rfl d_Model_copy_171 ?_
      exact (kb_Model_copy_173 (n := n) X hR hk147  hF)
    · refine dk_iload (i := 5) X 1 rfl d_Model_copy_161 ?_
      refine dk_iconst (v := 1) X (by decide) d_Model_copy_163 ?_
      refine dk_isub X d_Model_copy_164 ?_
      refine dk_iload (i := 8) X 4 rfl d_Model_copy_165 ?_
      refine dk_isub X d_Model_copy_167 ?_
      refine dk_goto (tgt := 173) X (by decide) d_Model_copy_168 ?_
      exact (kb_Model_copy_173 (n := n) X hR hk147  hF)
def B_Model_copy_147 (n : Nat)  : Nat → Int32 → Int32 → Int32 → Int32 → dk_S → Option (Int32 × dk_S)
  | 0 => fun _ _ _ _ _ => none
  | q + 1 => fun x5 x6 x7 x8 S => B_Model_copy_147b n (fun x5 x6 x7 x8 S => B_Model_copy_147 n  q x5 x6 x7 x8 S) x5 x6 x7 x8 S
theorem kb_Model_copy_147 {p : Program} {l : Launch} {e : Env} {s : State} {m : MethodId} {args : Array Value} {below : List Frame} {meth : Method} {c : Code} {g : dk_G} {A : Nat → Prop} {Q : State → Prop} {am : Nat → Nat} {n : Nat} {res : (Int32 × dk_S)} (X : dk_X p s m args meth c b_Model_copy 10 R_Model (some .int) g A) (hR : dk_Ri p l e rm_Model_copy s m args below meth c g A Q 10 b_Model_copy (some .int) (wM g am) res)  : ∀ (q : Nat) (x5 : Int32) (x6 : Int32) (x7 : Int32) (x8 : Int32)  (S : dk_S), B_Model_copy_147 n  q x5 x6 x7 x8 S = some res → dk_J p l e rm_Model_copy s m args below meth c g A Q 10 0 0 147 [(0, .ref (am 0)), (5, .int x5), (6, .int x6), (7, .int x7), (8, .int x8)] [] (wM g am S) := by
  intro q
  induction q with
  | zero => intro x5 x6 x7 x8  S hF; cases hF
  | succ q ih => intro x5 x6 x7 x8  S hF; exact kb_Model_copy_147b (n := n) X hR ih  hF
def B_Model_copy_0 (n : Nat)  (x1 : Int32) (x2 : Int32) (x3 : Int32) (x4 : Int32) (x5 : Int32) (S : dk_S) : Option (Int32 × dk_S) :=
  dk_c (F_Model_in n x1 (0 : Int32) (3 : Int32) S) fun r4 S3 => if r4 = 0 then (some ((-2 : Int32), S3)) else (dk_c (F_Model_in n x3 (0 : Int32) (3 : Int32) S3) fun r6 S5 => if ¬ r6 = 0 then (dk_r 4 (S5 37) x1 fun v7 => if v7 = (-1 : Int32) then (some ((-11 : Int32), S5)) else (dk_r 4 (S5 37) x3 fun v8 => if ¬ v8 = (-1 : Int32) then (dk_r 4 (S5 37) x1 fun v9 => dk_r 4 (S5 37) x3 fun v10 => if v9 = v10 then (if x5 < 0 then (some ((-12 : Int32), S5)) else (if x2 < 0 then (some ((-12 : Int32), S5)) else (if x4 < 0 then (some ((-12 : Int32), S5)) else (dk_r 4 (S5 38) x1 fun v11 => if v11 < x2 then (some ((-12 : Int32), S5)) else (dk_r 4 (S5 38) x3 fun v12 => if v12 < x4 then (some ((-12 : Int32), S5)) else (dk_r 4 (S5 38) x1 fun v13 => if (v13 - x2) < x5 then (some ((-12 : Int32), S5)) else (dk_r 4 (S5 38) x3 fun v14 => if x5 ≤ (v14 - x4) then (B_Model_copy_147 n  n x5 (((40 : Int32) * x1) + x2) (((40 : Int32) * x3) + x4) (0 : Int32) S5) else (some ((-12 : Int32), S5))))))))) else (some ((-13 : Int32), S5))) else (some ((-11 : Int32), S5)))) else (some ((-2 : Int32), S5)))
set_option maxRecDepth 20000 in
theorem kb_Model_copy_0 {p : Program} {l : Launch} {e : Env} {s : State} {m : MethodId} {args : Array Value} {below : List Frame} {meth : Method} {c : Code} {g : dk_G} {A : Nat → Prop} {Q : State → Prop} {am : Nat → Nat} {n : Nat} {res : (Int32 × dk_S)} (X : dk_X p s m args meth c b_Model_copy 10 R_Model (some .int) g A) (hR : dk_Ri p l e rm_Model_copy s m args below meth c g A Q 10 b_Model_copy (some .int) (wM g am) res)  {x1 : Int32} {x2 : Int32} {x3 : Int32} {x4 : Int32} {x5 : Int32} {S : dk_S}  (hF : B_Model_copy_0 n  x1 x2 x3 x4 x5 S = some res) : dk_J p l e rm_Model_copy s m args below meth c g A Q 10 0 0 0 [(0, .ref (am 0)), (1, .int x1), (2, .int x2), (3, .int x3), (4, .int x4), (5, .int x5)] [] (wM g am S) := by
  unfold B_Model_copy_0 at hF
  refine dk_iload_n (k := 1) (i := 1) X 1 rfl rfl d_Model_copy_0 ?_
  refine dk_iconst (v := 0) X (by decide) d_Model_copy_1 ?_
  refine dk_iconst (v := 3) X (by decide) d_Model_copy_2 ?_
  refine dk_callSi X v_Model_in [.int x1, .int (0 : Int32), .int (3 : Int32)] (c_Model_in l g am n x1 (0 : Int32) (3 : Int32) S) m_Model_144 rfl rfl ⟨rfl, rfl, Nat.le_of_ble_eq_true rfl, Nat.le_of_ble_eq_true rfl, Nat.le_refl _, Nat.le_refl _⟩ (Nat.le_of_ble_eq_true rfl) d_Model_copy_3 hF (fun r4 S3 hF => ?_)
  refine dk_if_eq (tgt := 18) X (by decide) d_Model_copy_6 hF (fun hF => ?_) (fun hF => ?_)
  · refine dk_bipush (v := -2) X (by decide) d_Model_copy_18 ?_
    exact dk_reti hR hF d_Model_copy_20
  · refine dk_iload_n (k := 3) (i := 3) X 3 rfl rfl d_Model_copy_9 ?_
    refine dk_iconst (v := 0) X (by decide) d_Model_copy_10 ?_
    refine dk_iconst (v := 3) X (by decide) d_Model_copy_11 ?_
    refine dk_callSi X v_Model_in [.int x3, .int (0 : Int32), .int (3 : Int32)] (c_Model_in l g am n x3 (0 : Int32) (3 : Int32) S3) m_Model_144 rfl rfl ⟨rfl, rfl, Nat.le_of_ble_eq_true rfl, Nat.le_of_ble_eq_true rfl, Nat.le_refl _, Nat.le_refl _⟩ (Nat.le_of_ble_eq_true rfl) d_Model_copy_12 hF (fun r6 S5 hF => ?_)
    refine dk_if_ne (tgt := 21) X (by decide) d_Model_copy_15 hF (fun hF => ?_) (fun hF => ?_)
    · refine dk_aload_n (k := 0) (i := 0) X 0 rfl rfl d_Model_copy_21 ?_
      refine dk_get X q_Model 0 37 (by decide) (oM_Model g am S5) rfl f_Model_90 d_Model_copy_22 ?_
      refine dk_iload_n (k := 1) (i := 1) X 1 rfl rfl d_Model_copy_25 ?_
      refine dk_iald X 26 (aM_26 g am S5) d_Model_copy_26 hF (fun v7 hF => ?_)
      refine dk_iconst (v := -1) X (by decide) d_Model_copy_27 ?_
      refine dk_icmp_eq (tgt := 41) X (by decide) d_Model_copy_28 hF (fun hF => ?_) (fun hF => ?_)
      · refine dk_bipush (v := -11) X (by decide) d_Model_copy_41 ?_
        exact dk_reti hR hF d_Model_copy_43
      · refine dk_aload_n (k := 0) (i := 0) X 0 rfl rfl d_Model_copy_31 ?_
        refine dk_get X q_Model 0 37 (by decide) (oM_Model g am S5) rfl f_Model_90 d_Model_copy_32 ?_
        refine dk_iload_n (k := 3) (i := 3) X 3 rfl rfl d_Model_copy_35 ?_
        refine dk_iald X 26 (aM_26 g am S5) d_Model_copy_36 hF (fun v8 hF => ?_)
        refine dk_iconst (v := -1) X (by decide) d_Model_copy_37 ?_
        refine dk_icmp_ne (tgt := 44) X (by decide) d_Model_copy_38 hF (fun hF => ?_) (fun hF => ?_)
        · refine dk_aload_n (k := 0) (i := 0) X 0 rfl rfl d_Model_copy_44 ?_
          refine dk_get X q_Model 0 37 (by decide) (oM_Model g am S5) rfl f_Model_90 d_Model_copy_45 ?_
          refine dk_iload_n (k := 1) (i := 1) X 1 rfl rfl d_Model_copy_48 ?_
          refine dk_iald X 26 (aM_26 g am S5) d_Model_copy_49 hF (fun v9 hF => ?_)
          refine dk_aload_n (k := 0) (i := 0) X 0 rfl rfl d_Model_copy_50 ?_
          refine dk_get X q_Model 0 37 (by decide) (oM_Model g am S5) rfl f_Model_90 d_Model_copy_51 ?_
          refine dk_iload_n (k := 3) (i := 3) X 3 rfl rfl d_Model_copy_54 ?_
          refine dk_iald X 26 (aM_26 g am S5) d_Model_copy_55 hF (fun v10 hF => ?_)
          refine dk_icmp_eq (tgt := 62) X (by decide) d_Model_copy_56 hF (fun hF => ?_) (fun hF => ?_)
          · refine dk_iload (i := 5) X 5 rfl d_Model_copy_62 ?_
            refine dk_if_lt (tgt := 124) X (by decide) d_Model_copy_64 hF (fun hF => ?_) (fun hF => ?_)
            · refine dk_bipush (v := -12) X (by decide) d_Model_copy_124 ?_
              exact dk_reti hR hF d_Model_copy_126
            · refine dk_iload_n (k := 2) (i := 2) X 2 rfl rfl d_Model_copy_67 ?_
              refine dk_if_lt (tgt := 124) X (by decide) d_Model_copy_68 hF (fun hF => ?_) (fun hF => ?_)
              · refine dk_bipush (v := -12) X (by decide) d_Model_copy_124 ?_
                exact dk_reti hR hF d_Model_copy_126
              · refine dk_iload (i := 4) X 4 rfl d_Model_copy_71 ?_
                refine dk_if_lt (tgt := 124) X (by decide) d_Model_copy_73 hF (fun hF => ?_) (fun hF => ?_)
                · refine dk_bipush (v := -12) X (by decide) d_Model_copy_124 ?_
                  exact dk_reti hR hF d_Model_copy_126
                · refine dk_iload_n (k := 2) (i := 2) X 2 rfl rfl d_Model_copy_76 ?_
                  refine dk_aload_n (k := 0) (i := 0) X 0 rfl rfl d_Model_copy_77 ?_
                  refine dk_get X q_Model 0 38 (by decide) (oM_Model g am S5) rfl f_Model_93 d_Model_copy_78 ?_
                  refine dk_iload_n (k := 1) (i := 1) X 1 rfl rfl d_Model_copy_81 ?_
                  refine dk_iald X 27 (aM_27 g am S5) d_Model_copy_82 hF (fun v11 hF => ?_)
                  refine dk_icmp_gt (tgt := 124) X (by decide) d_Model_copy_83 hF (fun hF => ?_) (fun hF => ?_)
                  · refine dk_bipush (v := -12) X (by decide) d_Model_copy_124 ?_
                    exact dk_reti hR hF d_Model_copy_126
                  · refine dk_iload (i := 4) X 4 rfl d_Model_copy_86 ?_
                    refine dk_aload_n (k := 0) (i := 0) X 0 rfl rfl d_Model_copy_88 ?_
                    refine dk_get X q_Model 0 38 (by decide) (oM_Model g am S5) rfl f_Model_93 d_Model_copy_89 ?_
                    refine dk_iload_n (k := 3) (i := 3) X 3 rfl rfl d_Model_copy_92 ?_
                    refine dk_iald X 27 (aM_27 g am S5) d_Model_copy_93 hF (fun v12 hF => ?_)
                    refine dk_icmp_gt (tgt := 124) X (by decide) d_Model_copy_94 hF (fun hF => ?_) (fun hF => ?_)
                    · refine dk_bipush (v := -12) X (by decide) d_Model_copy_124 ?_
                      exact dk_reti hR hF d_Model_copy_126
                    · refine dk_iload (i := 5) X 5 rfl d_Model_copy_97 ?_
                      refine dk_aload_n (k := 0) (i := 0) X 0 rfl rfl d_Model_copy_99 ?_
                      refine dk_get X q_Model 0 38 (by decide) (oM_Model g am S5) rfl f_Model_93 d_Model_copy_100 ?_
                      refine dk_iload_n (k := 1) (i := 1) X 1 rfl rfl d_Model_copy_103 ?_
                      refine dk_iald X 27 (aM_27 g am S5) d_Model_copy_104 hF (fun v13 hF => ?_)
                      refine dk_iload_n (k := 2) (i := 2) X 2 rfl rfl d_Model_copy_105 ?_
                      refine dk_isub X d_Model_copy_106 ?_
                      refine dk_icmp_gt (tgt := 124) X (by decide) d_Model_copy_107 hF (fun hF => ?_) (fun hF => ?_)
                      · refine dk_bipush (v := -12) X (by decide) d_Model_copy_124 ?_
                        exact dk_reti hR hF d_Model_copy_126
                      · refine dk_iload (i := 5) X 5 rfl d_Model_copy_110 ?_
                        refine dk_aload_n (k := 0) (i := 0) X 0 rfl rfl d_Model_copy_112 ?_
                        refine dk_get X q_Model 0 38 (by decide) (oM_Model g am S5) rfl f_Model_93 d_Model_copy_113 ?_
                        refine dk_iload_n (k := 3) (i := 3) X 3 rfl rfl d_Model_copy_116 ?_
                        refine dk_iald X 27 (aM_27 g am S5) d_Model_copy_117 hF (fun v14 hF => ?_)
                        refine dk_iload (i := 4) X 4 rfl d_Model_copy_118 ?_
                        refine dk_isub X d_Model_copy_120 ?_
                        refine dk_icmp_le (tgt := 127) X (by decide) d_Model_copy_121 hF (fun hF => ?_) (fun hF => ?_)
                        · refine dk_bipush (v := 40) X (by decide) d_Model_copy_127 ?_
                          refine dk_iload_n (k := 1) (i := 1) X 1 rfl rfl d_Model_copy_129 ?_
                          refine dk_imul X d_Model_copy_130 ?_
                          refine dk_iload_n (k := 2) (i := 2) X 2 rfl rfl d_Model_copy_131 ?_
                          refine dk_iadd X d_Model_copy_132 ?_
                          refine dk_istore (i := 6) (lv' := [(6, .int (((40 : Int32) * x1) + x2)), (0, .ref (am 0)), (1, .int x1), (2, .int x2), (3, .int x3), (4, .int x4), (5, .int x5)]) X (by decide) rfl d_Model_copy_133 ?_
                          refine dk_bipush (v := 40) X (by decide) d_Model_copy_135 ?_
                          refine dk_iload_n (k := 3) (i := 3) X 4 rfl rfl d_Model_copy_137 ?_
                          refine dk_imul X d_Model_copy_138 ?_
                          refine dk_iload (i := 4) X 5 rfl d_Model_copy_139 ?_
                          refine dk_iadd X d_Model_copy_141 ?_
                          refine dk_istore (i := 7) (lv' := [(7, .int (((40 : Int32) * x3) + x4)), (6, .int (((40 : Int32) * x1) + x2)), (0, .ref (am 0)), (1, .int x1), (2, .int x2), (3, .int x3), (4, .int x4), (5, .int x5)]) X (by decide) rfl d_Model_copy_142 ?_
                          refine dk_iconst (v := 0) X (by decide) d_Model_copy_144 ?_
                          refine dk_istore (i := 8) (lv' := [(8, .int (0 : Int32)), (7, .int (((40 : Int32) * x3) + x4)), (6, .int (((40 : Int32) * x1) + x2)), (0, .ref (am 0)), (1, .int x1), (2, .int x2), (3, .int x3), (4, .int x4), (5, .int x5)]) X (by decide) rfl d_Model_copy_145 ?_
                          exact dk_sub [3, 8, 2, 1, 0] rfl (kb_Model_copy_147 (n := n) X hR  n x5 (((40 : Int32) * x1) + x2) (((40 : Int32) * x3) + x4) (0 : Int32) S5 hF)
                        · refine dk_bipush (v := -12) X (by decide) d_Model_copy_124 ?_
                          exact dk_reti hR hF d_Model_copy_126
          · refine dk_bipush (v := -13) X (by decide) d_Model_copy_59 ?_
            exact dk_reti hR hF d_Model_copy_61
        · refine dk_bipush (v := -11) X (by decide) d_Model_copy_41 ?_
          exact dk_reti hR hF d_Model_copy_43
    · refine dk_bipush (v := -2) X (by decide) d_Model_copy_18 ?_
      exact dk_reti hR hF d_Model_copy_20
def F_Model_copy (n : Nat) (x1 : Int32) (x2 : Int32) (x3 : Int32) (x4 : Int32) (x5 : Int32) (S : dk_S) : Option (Int32 × dk_S) := B_Model_copy_0 n x1 x2 x3 x4 x5 S
theorem c_Model_copy (l : Launch) (g : dk_G) (am : Nat → Nat) (n : Nat) (x1 : Int32) (x2 : Int32) (x3 : Int32) (x4 : Int32) (x5 : Int32)  (S : dk_S) : dk_Mi l g y_Model_copy b_Model_copy 10 rm_Model_copy (some .int) [.ref (am 0), .int x1, .int x2, .int x3, .int x4, .int x5] (wM g am) S (F_Model_copy n x1 x2 x3 x4 x5 S) := dk_enteri (by decide) (Nat.le_of_ble_eq_true rfl) (fun p e s m args below meth c A Q res hF X hR => (kb_Model_copy_0 (n := n) X hR  hF))
abbrev b_Model_tell : ByteArray := prog_11_method_71_code
def y_Model_tell : MethodName := ⟨R_Model, "tell", "(IIII)I"⟩
theorem d_Model_tell_0 : decode b_Model_tell 0 = .ok (.iload_n 1, 1) := by decide +kernel
theorem d_Model_tell_1 : decode b_Model_tell 1 = .ok (.iconst 0, 1) := by decide +kernel
theorem d_Model_tell_2 : decode b_Model_tell 2 = .ok (.iconst 3, 1) := by decide +kernel
theorem d_Model_tell_3 : decode b_Model_tell 3 = .ok (.invokestatic 144, 3) := by decide +kernel
theorem d_Model_tell_6 : decode b_Model_tell 6 = .ok (.ifCond .eq 23, 3) := by decide +kernel
theorem d_Model_tell_9 : decode b_Model_tell 9 = .ok (.iload_n 2, 1) := by decide +kernel
theorem d_Model_tell_10 : decode b_Model_tell 10 = .ok (.iconst 0, 1) := by decide +kernel
theorem d_Model_tell_11 : decode b_Model_tell 11 = .ok (.iconst 2, 1) := by decide +kernel
theorem d_Model_tell_12 : decode b_Model_tell 12 = .ok (.invokestatic 144, 3) := by decide +kernel
theorem d_Model_tell_15 : decode b_Model_tell 15 = .ok (.ifCond .eq 14, 3) := by decide +kernel
theorem d_Model_tell_18 : decode b_Model_tell 18 = .ok (.iload 4, 2) := by decide +kernel
theorem d_Model_tell_20 : decode b_Model_tell 20 = .ok (.iconst 0, 1) := by decide +kernel
theorem d_Model_tell_21 : decode b_Model_tell 21 = .ok (.bipush 8, 2) := by decide +kernel
theorem d_Model_tell_23 : decode b_Model_tell 23 = .ok (.invokestatic 144, 3) := by decide +kernel
theorem d_Model_tell_26 : decode b_Model_tell 26 = .ok (.ifCond .ne 6, 3) := by decide +kernel
theorem d_Model_tell_29 : decode b_Model_tell 29 = .ok (.bipush (-2), 2) := by decide +kernel
theorem d_Model_tell_31 : decode b_Model_tell 31 = .ok (.ireturn, 1) := by decide +kernel
theorem d_Model_tell_32 : decode b_Model_tell 32 = .ok (.aload_n 0, 1) := by decide +kernel
theorem d_Model_tell_33 : decode b_Model_tell 33 = .ok (.getfield 90, 3) := by decide +kernel
theorem d_Model_tell_36 : decode b_Model_tell 36 = .ok (.iload_n 1, 1) := by decide +kernel
theorem d_Model_tell_37 : decode b_Model_tell 37 = .ok (.iaload, 1) := by decide +kernel
theorem d_Model_tell_38 : decode b_Model_tell 38 = .ok (.iconst (-1), 1) := by decide +kernel
theorem d_Model_tell_39 : decode b_Model_tell 39 = .ok (.if_icmp .ne 6, 3) := by decide +kernel
theorem d_Model_tell_42 : decode b_Model_tell 42 = .ok (.bipush (-11), 2) := by decide +kernel
theorem d_Model_tell_44 : decode b_Model_tell 44 = .ok (.ireturn, 1) := by decide +kernel
theorem d_Model_tell_45 : decode b_Model_tell 45 = .ok (.aload_n 0, 1) := by decide +kernel
theorem d_Model_tell_46 : decode b_Model_tell 46 = .ok (.getfield 90, 3) := by decide +kernel
theorem d_Model_tell_49 : decode b_Model_tell 49 = .ok (.iload_n 1, 1) := by decide +kernel
theorem d_Model_tell_50 : decode b_Model_tell 50 = .ok (.iaload, 1) := by decide +kernel
theorem d_Model_tell_51 : decode b_Model_tell 51 = .ok (.iload_n 2, 1) := by decide +kernel
theorem d_Model_tell_52 : decode b_Model_tell 52 = .ok (.if_icmp .eq 6, 3) := by decide +kernel
theorem d_Model_tell_55 : decode b_Model_tell 55 = .ok (.bipush (-13), 2) := by decide +kernel
theorem d_Model_tell_57 : decode b_Model_tell 57 = .ok (.ireturn, 1) := by decide +kernel
theorem d_Model_tell_58 : decode b_Model_tell 58 = .ok (.iconst 0, 1) := by decide +kernel
theorem d_Model_tell_59 : decode b_Model_tell 59 = .ok (.istore 5, 2) := by decide +kernel
theorem d_Model_tell_61 : decode b_Model_tell 61 = .ok (.iconst 0, 1) := by decide +kernel
theorem d_Model_tell_62 : decode b_Model_tell 62 = .ok (.istore 6, 2) := by decide +kernel
theorem d_Model_tell_64 : decode b_Model_tell 64 = .ok (.iload 6, 2) := by decide +kernel
theorem d_Model_tell_66 : decode b_Model_tell 66 = .ok (.iload 4, 2) := by decide +kernel
theorem d_Model_tell_68 : decode b_Model_tell 68 = .ok (.if_icmp .ge 112, 3) := by decide +kernel
theorem d_Model_tell_71 : decode b_Model_tell 71 = .ok (.iload_n 3, 1) := by decide +kernel
theorem d_Model_tell_72 : decode b_Model_tell 72 = .ok (.iconst 5, 1) := by decide +kernel
theorem d_Model_tell_73 : decode b_Model_tell 73 = .ok (.iload 6, 2) := by decide +kernel
theorem d_Model_tell_75 : decode b_Model_tell 75 = .ok (.imul, 1) := by decide +kernel
theorem d_Model_tell_76 : decode b_Model_tell 76 = .ok (.iadd, 1) := by decide +kernel
theorem d_Model_tell_77 : decode b_Model_tell 77 = .ok (.istore 7, 2) := by decide +kernel
theorem d_Model_tell_79 : decode b_Model_tell 79 = .ok (.iload_n 3, 1) := by decide +kernel
theorem d_Model_tell_80 : decode b_Model_tell 80 = .ok (.ifCond .lt 22, 3) := by decide +kernel
theorem d_Model_tell_83 : decode b_Model_tell 83 = .ok (.iload 7, 2) := by decide +kernel
theorem d_Model_tell_85 : decode b_Model_tell 85 = .ok (.iload_n 3, 1) := by decide +kernel
theorem d_Model_tell_86 : decode b_Model_tell 86 = .ok (.if_icmp .lt 16, 3) := by decide +kernel
theorem d_Model_tell_89 : decode b_Model_tell 89 = .ok (.iload 7, 2) := by decide +kernel
theorem d_Model_tell_91 : decode b_Model_tell 91 = .ok (.aload_n 0, 1) := by decide +kernel
theorem d_Model_tell_92 : decode b_Model_tell 92 = .ok (.getfield 93, 3) := by decide +kernel
theorem d_Model_tell_95 : decode b_Model_tell 95 = .ok (.iload_n 1, 1) := by decide +kernel
theorem d_Model_tell_96 : decode b_Model_tell 96 = .ok (.iaload, 1) := by decide +kernel
theorem d_Model_tell_97 : decode b_Model_tell 97 = .ok (.iconst 5, 1) := by decide +kernel
theorem d_Model_tell_98 : decode b_Model_tell 98 = .ok (.isub, 1) := by decide +kernel
theorem d_Model_tell_99 : decode b_Model_tell 99 = .ok (.if_icmp .le 6, 3) := by decide +kernel
theorem d_Model_tell_102 : decode b_Model_tell 102 = .ok (.bipush (-12), 2) := by decide +kernel
theorem d_Model_tell_104 : decode b_Model_tell 104 = .ok (.ireturn, 1) := by decide +kernel
theorem d_Model_tell_105 : decode b_Model_tell 105 = .ok (.bipush 40, 2) := by decide +kernel
theorem d_Model_tell_107 : decode b_Model_tell 107 = .ok (.iload_n 1, 1) := by decide +kernel
theorem d_Model_tell_108 : decode b_Model_tell 108 = .ok (.imul, 1) := by decide +kernel
theorem d_Model_tell_109 : decode b_Model_tell 109 = .ok (.iload 7, 2) := by decide +kernel
theorem d_Model_tell_111 : decode b_Model_tell 111 = .ok (.iadd, 1) := by decide +kernel
theorem d_Model_tell_112 : decode b_Model_tell 112 = .ok (.istore 8, 2) := by decide +kernel
theorem d_Model_tell_114 : decode b_Model_tell 114 = .ok (.iload 5, 2) := by decide +kernel
theorem d_Model_tell_116 : decode b_Model_tell 116 = .ok (.aload_n 0, 1) := by decide +kernel
theorem d_Model_tell_117 : decode b_Model_tell 117 = .ok (.aload_n 0, 1) := by decide +kernel
theorem d_Model_tell_118 : decode b_Model_tell 118 = .ok (.getfield 96, 3) := by decide +kernel
theorem d_Model_tell_121 : decode b_Model_tell 121 = .ok (.iload 8, 2) := by decide +kernel
theorem d_Model_tell_123 : decode b_Model_tell 123 = .ok (.iaload, 1) := by decide +kernel
theorem d_Model_tell_124 : decode b_Model_tell 124 = .ok (.aload_n 0, 1) := by decide +kernel
theorem d_Model_tell_125 : decode b_Model_tell 125 = .ok (.getfield 96, 3) := by decide +kernel
theorem d_Model_tell_128 : decode b_Model_tell 128 = .ok (.iload 8, 2) := by decide +kernel
theorem d_Model_tell_130 : decode b_Model_tell 130 = .ok (.iconst 1, 1) := by decide +kernel
theorem d_Model_tell_131 : decode b_Model_tell 131 = .ok (.iadd, 1) := by decide +kernel
theorem d_Model_tell_132 : decode b_Model_tell 132 = .ok (.iaload, 1) := by decide +kernel
theorem d_Model_tell_133 : decode b_Model_tell 133 = .ok (.aload_n 0, 1) := by decide +kernel
theorem d_Model_tell_134 : decode b_Model_tell 134 = .ok (.getfield 96, 3) := by decide +kernel
theorem d_Model_tell_137 : decode b_Model_tell 137 = .ok (.iload 8, 2) := by decide +kernel
theorem d_Model_tell_139 : decode b_Model_tell 139 = .ok (.iconst 2, 1) := by decide +kernel
theorem d_Model_tell_140 : decode b_Model_tell 140 = .ok (.iadd, 1) := by decide +kernel
theorem d_Model_tell_141 : decode b_Model_tell 141 = .ok (.iaload, 1) := by decide +kernel
theorem d_Model_tell_142 : decode b_Model_tell 142 = .ok (.aload_n 0, 1) := by decide +kernel
theorem d_Model_tell_143 : decode b_Model_tell 143 = .ok (.getfield 96, 3) := by decide +kernel
theorem d_Model_tell_146 : decode b_Model_tell 146 = .ok (.iload 8, 2) := by decide +kernel
theorem d_Model_tell_148 : decode b_Model_tell 148 = .ok (.iconst 3, 1) := by decide +kernel
theorem d_Model_tell_149 : decode b_Model_tell 149 = .ok (.iadd, 1) := by decide +kernel
theorem d_Model_tell_150 : decode b_Model_tell 150 = .ok (.iaload, 1) := by decide +kernel
theorem d_Model_tell_151 : decode b_Model_tell 151 = .ok (.aload_n 0, 1) := by decide +kernel
theorem d_Model_tell_152 : decode b_Model_tell 152 = .ok (.getfield 96, 3) := by decide +kernel
theorem d_Model_tell_155 : decode b_Model_tell 155 = .ok (.iload 8, 2) := by decide +kernel
theorem d_Model_tell_157 : decode b_Model_tell 157 = .ok (.iconst 4, 1) := by decide +kernel
theorem d_Model_tell_158 : decode b_Model_tell 158 = .ok (.iadd, 1) := by decide +kernel
theorem d_Model_tell_159 : decode b_Model_tell 159 = .ok (.iaload, 1) := by decide +kernel
theorem d_Model_tell_160 : decode b_Model_tell 160 = .ok (.invokevirtual 325, 3) := by decide +kernel
theorem d_Model_tell_163 : decode b_Model_tell 163 = .ok (.ifCond .lt 7, 3) := by decide +kernel
theorem d_Model_tell_166 : decode b_Model_tell 166 = .ok (.iconst 1, 1) := by decide +kernel
theorem d_Model_tell_167 : decode b_Model_tell 167 = .ok (.goto 4, 3) := by decide +kernel
theorem d_Model_tell_170 : decode b_Model_tell 170 = .ok (.iconst 0, 1) := by decide +kernel
theorem d_Model_tell_171 : decode b_Model_tell 171 = .ok (.iadd, 1) := by decide +kernel
theorem d_Model_tell_172 : decode b_Model_tell 172 = .ok (.istore 5, 2) := by decide +kernel
theorem d_Model_tell_174 : decode b_Model_tell 174 = .ok (.iinc 6 1, 3) := by decide +kernel
theorem d_Model_tell_177 : decode b_Model_tell 177 = .ok (.goto (-113), 3) := by decide +kernel
theorem d_Model_tell_180 : decode b_Model_tell 180 = .ok (.iload 5, 2) := by decide +kernel
theorem d_Model_tell_182 : decode b_Model_tell 182 = .ok (.ireturn, 1) := by decide +kernel
theorem v_Model_tell : dk_Yv y_Model_tell b_Model_tell 9 (some .int) 4 := ⟨dk_in (List.mem_of_getElem? (i := 1386) (by decide +kernel)) rfl, dk_in (List.mem_of_getElem? (i := 1387) (by decide +kernel)) rfl, dk_in (List.mem_of_getElem? (i := 75) (by decide +kernel)) rfl, dk_in (List.mem_of_getElem? (i := 1388) (by decide +kernel)) rfl, by decide +kernel, by decide +kernel, by decide +kernel⟩
abbrev rm_Model_tell : Room := { frames := 3, cells := 0, slots := 0, locals := 69 }
theorem m_Model_325 : Cond.methodLink R_Model 325 y_Model_moment ∈ dk_tb := dk_in (List.mem_of_getElem? (i := 1389) (by decide +kernel)) rfl
def B_Model_tell_171 (n : Nat) (k64 : Int32 → Int32 → Int32 → Int32 → Int32 → dk_S → Option (Int32 × dk_S)) (x1 : Int32) (x3 : Int32) (x4 : Int32) (x6 : Int32) (u0 : Int32) (u1 : Int32) (S : dk_S) : Option (Int32 × dk_S) :=
  k64 x1 x3 x4 (u0 + u1) (x6 + (1 : Int32)) S
set_option maxRecDepth 20000 in
theorem kb_Model_tell_171 {p : Program} {l : Launch} {e : Env} {s : State} {m : MethodId} {args : Array Value} {below : List Frame} {meth : Method} {c : Code} {g : dk_G} {A : Nat → Prop} {Q : State → Prop} {am : Nat → Nat} {n : Nat} {res : (Int32 × dk_S)} (X : dk_X p s m args meth c b_Model_tell 9 R_Model (some .int) g A) (hR : dk_Ri p l e rm_Model_tell s m args below meth c g A Q 9 b_Model_tell (some .int) (wM g am) res) {k64 : Int32 → Int32 → Int32 → Int32 → Int32 → dk_S → Option (Int32 × dk_S)} (hk64 : ∀ (x1 : Int32) (x3 : Int32) (x4 : Int32) (x5 : Int32) (x6 : Int32)  (S : dk_S), k64 x1 x3 x4 x5 x6 S = some res → dk_J p l e rm_Model_tell s m args below meth c g A Q 9 0 0 64 [(0, .ref (am 0)), (1, .int x1), (3, .int x3), (4, .int x4), (5, .int x5), (6, .int x6)] [] (wM g am S)) {x1 : Int32} {x3 : Int32} {x4 : Int32} {x6 : Int32} {u0 : Int32} {u1 : Int32} {S : dk_S}  (hF : B_Model_tell_171 n k64 x1 x3 x4 x6 u0 u1 S = some res) : dk_J p l e rm_Model_tell s m args below meth c g A Q 9 0 0 171 [(0, .ref (am 0)), (1, .int x1), (3, .int x3), (4, .int x4), (6, .int x6)] [.int u1, .int u0] (wM g am S) := by
  unfold B_Model_tell_171 at hF
  refine dk_iadd X d_Model_tell_171 ?_
  refine dk_istore (i := 5) (lv' := [(5, .int (u0 + u1)), (0, .ref (am 0)), (1, .int x1), (3, .int x3), (4, .int x4), (6, .int x6)]) X (by decide) rfl d_Model_tell_172 ?_
  refine dk_iinc (i := 6) (v := (x6 + (1 : Int32))) (lv' := [(6, .int (x6 + (1 : Int32))), (5, .int (u0 + u1)), (0, .ref (am 0)), (1, .int x1), (3, .int x3), (4, .int x4)]) X 5 rfl (dk_ii _ (by decide)) (by decide) rfl d_Model_tell_174 ?_
  refine dk_goto (tgt := 64) X (by decide) d_Model_tell_177 ?_
  exact dk_sub [2, 3, 4, 5, 1, 0] rfl (hk64 x1 x3 x4 (u0 + u1) (x6 + (1 : Int32)) S hF)
def B_Model_tell_64b (n : Nat) (k64 : Int32 → Int32 → Int32 → Int32 → Int32 → dk_S → Option (Int32 × dk_S)) (x1 : Int32) (x3 : Int32) (x4 : Int32) (x5 : Int32) (x6 : Int32) (S : dk_S) : Option (Int32 × dk_S) :=
  if x4 ≤ x6 then (some (x5, S)) else (if x3 < 0 then (some ((-12 : Int32), S)) else (if (x3 + ((5 : Int32) * x6)) < x3 then (some ((-12 : Int32), S)) else (dk_r 4 (S 38) x1 fun v1 => if (x3 + ((5 : Int32) * x6)) ≤ (v1 - (5 : Int32)) then (dk_r 160 (S 39) (((40 : Int32) * x1) + (x3 + ((5 : Int32) * x6))) fun v2 => dk_r 160 (S 39) ((((40 : Int32) * x1) + (x3 + ((5 : Int32) * x6))) + (1 : Int32)) fun v3 => dk_r 160 (S 39) ((((40 : Int32) * x1) + (x3 + ((5 : Int32) * x6))) + (2 : Int32)) fun v4 => dk_r 160 (S 39) ((((40 : Int32) * x1) + (x3 + ((5 : Int32) * x6))) + (3 : Int32)) fun v5 => dk_r 160 (S 39) ((((40 : Int32) * x1) + (x3 + ((5 : Int32) * x6))) + (4 : Int32)) fun v6 => dk_c (F_Model_moment n v2 v3 v4 v5 v6 S) fun r8 S7 => if r8 < 0 then (B_Model_tell_171 n k64 x1 x3 x4 x6 x5 (0 : Int32) S7) else (B_Model_tell_171 n k64 x1 x3 x4 x6 x5 (1 : Int32) S7)) else (some ((-12 : Int32), S)))))
set_option maxRecDepth 20000 in
theorem kb_Model_tell_64b {p : Program} {l : Launch} {e : Env} {s : State} {m : MethodId} {args : Array Value} {below : List Frame} {meth : Method} {c : Code} {g : dk_G} {A : Nat → Prop} {Q : State → Prop} {am : Nat → Nat} {n : Nat} {res : (Int32 × dk_S)} (X : dk_X p s m args meth c b_Model_tell 9 R_Model (some .int) g A) (hR : dk_Ri p l e rm_Model_tell s m args below meth c g A Q 9 b_Model_tell (some .int) (wM g am) res) {k64 : Int32 → Int32 → Int32 → Int32 → Int32 → dk_S → Option (Int32 × dk_S)} (hk64 : ∀ (x1 : Int32) (x3 : Int32) (x4 : Int32) (x5 : Int32) (x6 : Int32)  (S : dk_S), k64 x1 x3 x4 x5 x6 S = some res → dk_J p l e rm_Model_tell s m args below meth c g A Q 9 0 0 64 [(0, .ref (am 0)), (1, .int x1), (3, .int x3), (4, .int x4), (5, .int x5), (6, .int x6)] [] (wM g am S)) {x1 : Int32} {x3 : Int32} {x4 : Int32} {x5 : Int32} {x6 : Int32} {S : dk_S}  (hF : B_Model_tell_64b n k64 x1 x3 x4 x5 x6 S = some res) : dk_J p l e rm_Model_tell s m args below meth c g A Q 9 0 0 64 [(0, .ref (am 0)), (1, .int x1), (3, .int x3), (4, .int x4), (5, .int x5), (6, .int x6)] [] (wM g am S) := by
  unfold B_Model_tell_64b at hF
  refine dk_iload (i := 6) X 5 rfl d_Model_tell_64 ?_
  refine dk_iload (i := 4) X 3 rfl d_Model_tell_66 ?_
  refine dk_icmp_ge (tgt := 180) X (by decide) d_Model_tell_68 hF (fun hF => ?_) (fun hF => ?_)
  · refine dk_iload (i := 5) X 4 rfl d_Model_tell_180 ?_
    exact dk_reti hR hF d_Model_tell_182
  · refine dk_iload_n (k := 3) (i := 3) X 2 rfl rfl d_Model_tell_71 ?_
    refine dk_iconst (v := 5) X (by decide) d_Model_tell_72 ?_
    refine dk_iload (i := 6) X 5 rfl d_Model_tell_73 ?_
    refine dk_imul X d_Model_tell_75 ?_
    refine dk_iadd X d_Model_tell_76 ?_
    refine dk_istore (i := 7) (lv' := [(7, .int (x3 + ((5 : Int32) * x6))), (0, .ref (am 0)), (1, .int x1), (3, .int x3), (4, .int x4), (5, .int x5), (6, .int x6)]) X (by decide) rfl d_Model_tell_77 ?_
    refine dk_iload_n (k := 3) (i := 3) X 3 rfl rfl d_Model_tell_79 ?_
    refine dk_if_lt (tgt := 102) X (by decide) d_Model_tell_80 hF (fun hF => ?_) (fun hF => ?_)
    · refine dk_bipush (v := -12) X (by decide) d_Model_tell_102 ?_
      exact dk_reti hR hF d_Model_tell_104
    · refine dk_iload (i := 7) X 0 rfl d_Model_tell_83 ?_
      refine dk_iload_n (k := 3) (i := 3) X 3 rfl rfl d_Model_tell_85 ?_
      refine dk_icmp_lt (tgt := 102) X (by decide) d_Model_tell_86 hF (fun hF => ?_) (fun hF => ?_)
      · refine dk_bipush (v := -12) X (by decide) d_Model_tell_102 ?_
        exact dk_reti hR hF d_Model_tell_104
      · refine dk_iload (i := 7) X 0 rfl d_Model_tell_89 ?_
        refine dk_aload_n (k := 0) (i := 0) X 1 rfl rfl d_Model_tell_91 ?_
        refine dk_get X q_Model 0 38 (by decide) (oM_Model g am S) rfl f_Model_93 d_Model_tell_92 ?_
        refine dk_iload_n (k := 1) (i := 1) X 2 rfl rfl d_Model_tell_95 ?_
        refine dk_iald X 27 (aM_27 g am S) d_Model_tell_96 hF (fun v1 hF => ?_)
        refine dk_iconst (v := 5) X (by decide) d_Model_tell_97 ?_
        refine dk_isub X d_Model_tell_98 ?_
        refine dk_icmp_le (tgt := 105) X (by decide) d_Model_tell_99 hF (fun hF => ?_) (fun hF => ?_)
        · refine dk_bipush (v := 40) X (by decide) d_Model_tell_105 ?_
          refine dk_iload_n (k := 1) (i := 1) X 2 rfl rfl d_Model_tell_107 ?_
          refine dk_imul X d_Model_tell_108 ?_
          refine dk_iload (i := 7) X 0 rfl d_Model_tell_109 ?_
          refine dk_iadd X d_Model_tell_111 ?_
          refine dk_istore (i := 8) (lv' := [(8, .int (((40 : Int32) * x1) + (x3 + ((5 : Int32) * x6)))), (7, .int (x3 + ((5 : Int32) * x6))), (0, .ref (am 0)), (1, .int x1), (3, .int x3), (4, .int x4), (5, .int x5), (6, .int x6)]) X (by decide) rfl d_Model_tell_112 ?_
          refine dk_iload (i := 5) X 6 rfl d_Model_tell_114 ?_
          refine dk_aload_n (k := 0) (i := 0) X 2 rfl rfl d_Model_tell_116 ?_
          refine dk_aload_n (k := 0) (i := 0) X 2 rfl rfl d_Model_tell_117 ?_
          refine dk_get X q_Model 0 39 (by decide) (oM_Model g am S) rfl f_Model_96 d_Model_tell_118 ?_
          refine dk_iload (i := 8) X 0 rfl d_Model_tell_121 ?_
          refine dk_iald X 28 (aM_28 g am S) d_Model_tell_123 hF (fun v2 hF => ?_)
          refine dk_aload_n (k := 0) (i := 0) X 2 rfl rfl d_Model_tell_124 ?_
          refine dk_get X q_Model 0 39 (by decide) (oM_Model g am S) rfl f_Model_96 d_Model_tell_125 ?_
          refine dk_iload (i := 8) X 0 rfl d_Model_tell_128 ?_
          refine dk_iconst (v := 1) X (by decide) d_Model_tell_130 ?_
          refine dk_iadd X d_Model_tell_131 ?_
          refine dk_iald X 28 (aM_28 g am S) d_Model_tell_132 hF (fun v3 hF => ?_)
          refine dk_aload_n (k := 0) (i := 0) X 2 rfl rfl d_Model_tell_133 ?_
          refine dk_get X q_Model 0 39 (by decide) (oM_Model g am S) rfl f_Model_96 d_Model_tell_134 ?_
          refine dk_iload (i := 8) X 0 rfl d_Model_tell_137 ?_
          refine dk_iconst (v := 2) X (by decide) d_Model_tell_139 ?_
          refine dk_iadd X d_Model_tell_140 ?_
          refine dk_iald X 28 (aM_28 g am S) d_Model_tell_141 hF (fun v4 hF => ?_)
          refine dk_aload_n (k := 0) (i := 0) X 2 rfl rfl d_Model_tell_142 ?_
          refine dk_get X q_Model 0 39 (by decide) (oM_Model g am S) rfl f_Model_96 d_Model_tell_143 ?_
          refine dk_iload (i := 8) X 0 rfl d_Model_tell_146 ?_
          refine dk_iconst (v := 3) X (by decide) d_Model_tell_148 ?_
          refine dk_iadd X d_Model_tell_149 ?_
          refine dk_iald X 28 (aM_28 g am S) d_Model_tell_150 hF (fun v5 hF => ?_)
          refine dk_aload_n (k := 0) (i := 0) X 2 rfl rfl d_Model_tell_151 ?_
          refine dk_get X q_Model 0 39 (by decide) (oM_Model g am S) rfl f_Model_96 d_Model_tell_152 ?_
          refine dk_iload (i := 8) X 0 rfl d_Model_tell_155 ?_
          refine dk_iconst (v := 4) X (by decide) d_Model_tell_157 ?_
          refine dk_iadd X d_Model_tell_158 ?_
          refine dk_iald X 28 (aM_28 g am S) d_Model_tell_159 hF (fun v6 hF => ?_)
          refine dk_callVi X v_Model_moment [.int v2, .int v3, .int v4, .int v5, .int v6] (c_Model_moment l g am n v2 v3 v4 v5 v6 S) 0 (oM_Model g am S) rfl rfl m_Model_325 rfl rfl ⟨rfl, rfl, Nat.le_of_ble_eq_true rfl, Nat.le_of_ble_eq_true rfl, Nat.le_refl _, Nat.le_refl _⟩ (Nat.le_of_ble_eq_true rfl) d_Model_tell_160 hF (fun r8 S7 hF => ?_)
          refine dk_if_lt (tgt := 170) X (by decide) d_Model_tell_163 hF (fun hF => ?_) (fun hF => ?_)
          · refine dk_iconst (v := 0) X (by decide) d_Model_tell_170 ?_
            exact dk_sub [2, 3, 4, 5, 7] rfl (kb_Model_tell_171 (n := n) X hR hk64  hF)
          · refine dk_iconst (v := 1) X (by decide) d_Model_tell_166 ?_
            refine dk_goto (tgt := 171) X (by decide) d_Model_tell_167 ?_
            exact dk_sub [2, 3, 4, 5, 7] rfl (kb_Model_tell_171 (n := n) X hR hk64  hF)
        · refine dk_bipush (v := -12) X (by decide) d_Model_tell_102 ?_
          exact dk_reti hR hF d_Model_tell_104
def B_Model_tell_64 (n : Nat)  : Nat → Int32 → Int32 → Int32 → Int32 → Int32 → dk_S → Option (Int32 × dk_S)
  | 0 => fun _ _ _ _ _ _ => none
  | q + 1 => fun x1 x3 x4 x5 x6 S => B_Model_tell_64b n (fun x1 x3 x4 x5 x6 S => B_Model_tell_64 n  q x1 x3 x4 x5 x6 S) x1 x3 x4 x5 x6 S
theorem kb_Model_tell_64 {p : Program} {l : Launch} {e : Env} {s : State} {m : MethodId} {args : Array Value} {below : List Frame} {meth : Method} {c : Code} {g : dk_G} {A : Nat → Prop} {Q : State → Prop} {am : Nat → Nat} {n : Nat} {res : (Int32 × dk_S)} (X : dk_X p s m args meth c b_Model_tell 9 R_Model (some .int) g A) (hR : dk_Ri p l e rm_Model_tell s m args below meth c g A Q 9 b_Model_tell (some .int) (wM g am) res)  : ∀ (q : Nat) (x1 : Int32) (x3 : Int32) (x4 : Int32) (x5 : Int32) (x6 : Int32)  (S : dk_S), B_Model_tell_64 n  q x1 x3 x4 x5 x6 S = some res → dk_J p l e rm_Model_tell s m args below meth c g A Q 9 0 0 64 [(0, .ref (am 0)), (1, .int x1), (3, .int x3), (4, .int x4), (5, .int x5), (6, .int x6)] [] (wM g am S) := by
  intro q
  induction q with
  | zero => intro x1 x3 x4 x5 x6  S hF; cases hF
  | succ q ih => intro x1 x3 x4 x5 x6  S hF; exact kb_Model_tell_64b (n := n) X hR ih  hF
def B_Model_tell_0 (n : Nat)  (x1 : Int32) (x2 : Int32) (x3 : Int32) (x4 : Int32) (S : dk_S) : Option (Int32 × dk_S) :=
  dk_c (F_Model_in n x1 (0 : Int32) (3 : Int32) S) fun r10 S9 => if r10 = 0 then (some ((-2 : Int32), S9)) else (dk_c (F_Model_in n x2 (0 : Int32) (2 : Int32) S9) fun r12 S11 => if r12 = 0 then (some ((-2 : Int32), S11)) else (dk_c (F_Model_in n x4 (0 : Int32) (8 : Int32) S11) fun r14 S13 => if ¬ r14 = 0 then (dk_r 4 (S13 37) x1 fun v15 => if ¬ v15 = (-1 : Int32) then (dk_r 4 (S13 37) x1 fun v16 => if v16 = x2 then (B_Model_tell_64 n  n x1 x3 x4 (0 : Int32) (0 : Int32) S13) else (some ((-13 : Int32), S13))) else (some ((-11 : Int32), S13))) else (some ((-2 : Int32), S13))))
set_option maxRecDepth 20000 in
theorem kb_Model_tell_0 {p : Program} {l : Launch} {e : Env} {s : State} {m : MethodId} {args : Array Value} {below : List Frame} {meth : Method} {c : Code} {g : dk_G} {A : Nat → Prop} {Q : State → Prop} {am : Nat → Nat} {n : Nat} {res : (Int32 × dk_S)} (X : dk_X p s m args meth c b_Model_tell 9 R_Model (some .int) g A) (hR : dk_Ri p l e rm_Model_tell s m args below meth c g A Q 9 b_Model_tell (some .int) (wM g am) res)  {x1 : Int32} {x2 : Int32} {x3 : Int32} {x4 : Int32} {S : dk_S}  (hF : B_Model_tell_0 n  x1 x2 x3 x4 S = some res) : dk_J p l e rm_Model_tell s m args below meth c g A Q 9 0 0 0 [(0, .ref (am 0)), (1, .int x1), (2, .int x2), (3, .int x3), (4, .int x4)] [] (wM g am S) := by
  unfold B_Model_tell_0 at hF
  refine dk_iload_n (k := 1) (i := 1) X 1 rfl rfl d_Model_tell_0 ?_
  refine dk_iconst (v := 0) X (by decide) d_Model_tell_1 ?_
  refine dk_iconst (v := 3) X (by decide) d_Model_tell_2 ?_
  refine dk_callSi X v_Model_in [.int x1, .int (0 : Int32), .int (3 : Int32)] (c_Model_in l g am n x1 (0 : Int32) (3 : Int32) S) m_Model_144 rfl rfl ⟨rfl, rfl, Nat.le_of_ble_eq_true rfl, Nat.le_of_ble_eq_true rfl, Nat.le_refl _, Nat.le_refl _⟩ (Nat.le_of_ble_eq_true rfl) d_Model_tell_3 hF (fun r10 S9 hF => ?_)
  refine dk_if_eq (tgt := 29) X (by decide) d_Model_tell_6 hF (fun hF => ?_) (fun hF => ?_)
  · refine dk_bipush (v := -2) X (by decide) d_Model_tell_29 ?_
    exact dk_reti hR hF d_Model_tell_31
  · refine dk_iload_n (k := 2) (i := 2) X 2 rfl rfl d_Model_tell_9 ?_
    refine dk_iconst (v := 0) X (by decide) d_Model_tell_10 ?_
    refine dk_iconst (v := 2) X (by decide) d_Model_tell_11 ?_
    refine dk_callSi X v_Model_in [.int x2, .int (0 : Int32), .int (2 : Int32)] (c_Model_in l g am n x2 (0 : Int32) (2 : Int32) S9) m_Model_144 rfl rfl ⟨rfl, rfl, Nat.le_of_ble_eq_true rfl, Nat.le_of_ble_eq_true rfl, Nat.le_refl _, Nat.le_refl _⟩ (Nat.le_of_ble_eq_true rfl) d_Model_tell_12 hF (fun r12 S11 hF => ?_)
    refine dk_if_eq (tgt := 29) X (by decide) d_Model_tell_15 hF (fun hF => ?_) (fun hF => ?_)
    · refine dk_bipush (v := -2) X (by decide) d_Model_tell_29 ?_
      exact dk_reti hR hF d_Model_tell_31
    · refine dk_iload (i := 4) X 4 rfl d_Model_tell_18 ?_
      refine dk_iconst (v := 0) X (by decide) d_Model_tell_20 ?_
      refine dk_bipush (v := 8) X (by decide) d_Model_tell_21 ?_
      refine dk_callSi X v_Model_in [.int x4, .int (0 : Int32), .int (8 : Int32)] (c_Model_in l g am n x4 (0 : Int32) (8 : Int32) S11) m_Model_144 rfl rfl ⟨rfl, rfl, Nat.le_of_ble_eq_true rfl, Nat.le_of_ble_eq_true rfl, Nat.le_refl _, Nat.le_refl _⟩ (Nat.le_of_ble_eq_true rfl) d_Model_tell_23 hF (fun r14 S13 hF => ?_)
      refine dk_if_ne (tgt := 32) X (by decide) d_Model_tell_26 hF (fun hF => ?_) (fun hF => ?_)
      · refine dk_aload_n (k := 0) (i := 0) X 0 rfl rfl d_Model_tell_32 ?_
        refine dk_get X q_Model 0 37 (by decide) (oM_Model g am S13) rfl f_Model_90 d_Model_tell_33 ?_
        refine dk_iload_n (k := 1) (i := 1) X 1 rfl rfl d_Model_tell_36 ?_
        refine dk_iald X 26 (aM_26 g am S13) d_Model_tell_37 hF (fun v15 hF => ?_)
        refine dk_iconst (v := -1) X (by decide) d_Model_tell_38 ?_
        refine dk_icmp_ne (tgt := 45) X (by decide) d_Model_tell_39 hF (fun hF => ?_) (fun hF => ?_)
        · refine dk_aload_n (k := 0) (i := 0) X 0 rfl rfl d_Model_tell_45 ?_
          refine dk_get X q_Model 0 37 (by decide) (oM_Model g am S13) rfl f_Model_90 d_Model_tell_46 ?_
          refine dk_iload_n (k := 1) (i := 1) X 1 rfl rfl d_Model_tell_49 ?_
          refine dk_iald X 26 (aM_26 g am S13) d_Model_tell_50 hF (fun v16 hF => ?_)
          refine dk_iload_n (k := 2) (i := 2) X 2 rfl rfl d_Model_tell_51 ?_
          refine dk_icmp_eq (tgt := 58) X (by decide) d_Model_tell_52 hF (fun hF => ?_) (fun hF => ?_)
          · refine dk_iconst (v := 0) X (by decide) d_Model_tell_58 ?_
            refine dk_istore (i := 5) (lv' := [(5, .int (0 : Int32)), (0, .ref (am 0)), (1, .int x1), (2, .int x2), (3, .int x3), (4, .int x4)]) X (by decide) rfl d_Model_tell_59 ?_
            refine dk_iconst (v := 0) X (by decide) d_Model_tell_61 ?_
            refine dk_istore (i := 6) (lv' := [(6, .int (0 : Int32)), (5, .int (0 : Int32)), (0, .ref (am 0)), (1, .int x1), (2, .int x2), (3, .int x3), (4, .int x4)]) X (by decide) rfl d_Model_tell_62 ?_
            exact dk_sub [2, 3, 5, 6, 1, 0] rfl (kb_Model_tell_64 (n := n) X hR  n x1 x3 x4 (0 : Int32) (0 : Int32) S13 hF)
          · refine dk_bipush (v := -13) X (by decide) d_Model_tell_55 ?_
            exact dk_reti hR hF d_Model_tell_57
        · refine dk_bipush (v := -11) X (by decide) d_Model_tell_42 ?_
          exact dk_reti hR hF d_Model_tell_44
      · refine dk_bipush (v := -2) X (by decide) d_Model_tell_29 ?_
        exact dk_reti hR hF d_Model_tell_31
def F_Model_tell (n : Nat) (x1 : Int32) (x2 : Int32) (x3 : Int32) (x4 : Int32) (S : dk_S) : Option (Int32 × dk_S) := B_Model_tell_0 n x1 x2 x3 x4 S
theorem c_Model_tell (l : Launch) (g : dk_G) (am : Nat → Nat) (n : Nat) (x1 : Int32) (x2 : Int32) (x3 : Int32) (x4 : Int32)  (S : dk_S) : dk_Mi l g y_Model_tell b_Model_tell 9 rm_Model_tell (some .int) [.ref (am 0), .int x1, .int x2, .int x3, .int x4] (wM g am) S (F_Model_tell n x1 x2 x3 x4 S) := dk_enteri (by decide) (Nat.le_of_ble_eq_true rfl) (fun p e s m args below meth c A Q res hF X hR => (kb_Model_tell_0 (n := n) X hR  hF))
abbrev b_Model_isUnder : ByteArray := prog_11_method_72_code
def y_Model_isUnder : MethodName := ⟨R_Model, "isUnder", "(II)Z"⟩
theorem d_Model_isUnder_0 : decode b_Model_isUnder 0 = .ok (.iload_n 1, 1) := by decide +kernel
theorem d_Model_isUnder_1 : decode b_Model_isUnder 1 = .ok (.ifCond .eq 28, 3) := by decide +kernel
theorem d_Model_isUnder_4 : decode b_Model_isUnder 4 = .ok (.iload_n 0, 1) := by decide +kernel
theorem d_Model_isUnder_5 : decode b_Model_isUnder 5 = .ok (.iload_n 1, 1) := by decide +kernel
theorem d_Model_isUnder_6 : decode b_Model_isUnder 6 = .ok (.if_icmp .eq 23, 3) := by decide +kernel
theorem d_Model_isUnder_9 : decode b_Model_isUnder 9 = .ok (.iload_n 1, 1) := by decide +kernel
theorem d_Model_isUnder_10 : decode b_Model_isUnder 10 = .ok (.iconst 1, 1) := by decide +kernel
theorem d_Model_isUnder_11 : decode b_Model_isUnder 11 = .ok (.if_icmp .ne 8, 3) := by decide +kernel
theorem d_Model_isUnder_14 : decode b_Model_isUnder 14 = .ok (.iload_n 0, 1) := by decide +kernel
theorem d_Model_isUnder_15 : decode b_Model_isUnder 15 = .ok (.iconst 2, 1) := by decide +kernel
theorem d_Model_isUnder_16 : decode b_Model_isUnder 16 = .ok (.if_icmp .eq 13, 3) := by decide +kernel
theorem d_Model_isUnder_19 : decode b_Model_isUnder 19 = .ok (.iload_n 1, 1) := by decide +kernel
theorem d_Model_isUnder_20 : decode b_Model_isUnder 20 = .ok (.iconst 3, 1) := by decide +kernel
theorem d_Model_isUnder_21 : decode b_Model_isUnder 21 = .ok (.if_icmp .ne 12, 3) := by decide +kernel
theorem d_Model_isUnder_24 : decode b_Model_isUnder 24 = .ok (.iload_n 0, 1) := by decide +kernel
theorem d_Model_isUnder_25 : decode b_Model_isUnder 25 = .ok (.iconst 5, 1) := by decide +kernel
theorem d_Model_isUnder_26 : decode b_Model_isUnder 26 = .ok (.if_icmp .ne 7, 3) := by decide +kernel
theorem d_Model_isUnder_29 : decode b_Model_isUnder 29 = .ok (.iconst 1, 1) := by decide +kernel
theorem d_Model_isUnder_30 : decode b_Model_isUnder 30 = .ok (.goto 4, 3) := by decide +kernel
theorem d_Model_isUnder_33 : decode b_Model_isUnder 33 = .ok (.iconst 0, 1) := by decide +kernel
theorem d_Model_isUnder_34 : decode b_Model_isUnder 34 = .ok (.ireturn, 1) := by decide +kernel
theorem v_Model_isUnder : dk_Ys y_Model_isUnder b_Model_isUnder 2 (some .boolean) 2 := ⟨dk_in (List.mem_of_getElem? (i := 1395) (by decide +kernel)) rfl, dk_in (List.mem_of_getElem? (i := 75) (by decide +kernel)) rfl, dk_in (List.mem_of_getElem? (i := 1396) (by decide +kernel)) rfl, by decide +kernel, by decide +kernel, by decide +kernel⟩
abbrev rm_Model_isUnder : Room := { frames := 0, cells := 0, slots := 0, locals := 0 }
def B_Model_isUnder_19 (n : Nat)  (x0 : Int32) (x1 : Int32) (S : dk_S) : Option (Int32 × dk_S) :=
  if ¬ x1 = (3 : Int32) then (dk_b (0 : Int32) (some ((0 : Int32), S))) else (if ¬ x0 = (5 : Int32) then (dk_b (0 : Int32) (some ((0 : Int32), S))) else (dk_b (1 : Int32) (some ((1 : Int32), S))))
set_option maxRecDepth 20000 in
theorem kb_Model_isUnder_19 {p : Program} {l : Launch} {e : Env} {s : State} {m : MethodId} {args : Array Value} {below : List Frame} {meth : Method} {c : Code} {g : dk_G} {A : Nat → Prop} {Q : State → Prop} {am : Nat → Nat} {n : Nat} {res : (Int32 × dk_S)} (X : dk_X p s m args meth c b_Model_isUnder 2 R_Model (some .boolean) g A) (hR : dk_Ri p l e rm_Model_isUnder s m args below meth c g A Q 2 b_Model_isUnder (some .boolean) (wM g am) res)  {x0 : Int32} {x1 : Int32} {S : dk_S}  (hF : B_Model_isUnder_19 n  x0 x1 S = some res) : dk_J p l e rm_Model_isUnder s m args below meth c g A Q 2 0 0 19 [(0, .int x0), (1, .int x1)] [] (wM g am S) := by
  unfold B_Model_isUnder_19 at hF
  refine dk_iload_n (k := 1) (i := 1) X 1 rfl rfl d_Model_isUnder_19 ?_
  refine dk_iconst (v := 3) X (by decide) d_Model_isUnder_20 ?_
  refine dk_icmp_ne (tgt := 33) X (by decide) d_Model_isUnder_21 hF (fun hF => ?_) (fun hF => ?_)
  · refine dk_iconst (v := 0) X (by decide) d_Model_isUnder_33 ?_
    exact dk_retz hR hF d_Model_isUnder_34
  · refine dk_iload_n (k := 0) (i := 0) X 0 rfl rfl d_Model_isUnder_24 ?_
    refine dk_iconst (v := 5) X (by decide) d_Model_isUnder_25 ?_
    refine dk_icmp_ne (tgt := 33) X (by decide) d_Model_isUnder_26 hF (fun hF => ?_) (fun hF => ?_)
    · refine dk_iconst (v := 0) X (by decide) d_Model_isUnder_33 ?_
      exact dk_retz hR hF d_Model_isUnder_34
    · refine dk_iconst (v := 1) X (by decide) d_Model_isUnder_29 ?_
      refine dk_goto (tgt := 34) X (by decide) d_Model_isUnder_30 ?_
      exact dk_retz hR hF d_Model_isUnder_34
def B_Model_isUnder_0 (n : Nat)  (x0 : Int32) (x1 : Int32) (S : dk_S) : Option (Int32 × dk_S) :=
  if x1 = 0 then (dk_b (1 : Int32) (some ((1 : Int32), S))) else (if x0 = x1 then (dk_b (1 : Int32) (some ((1 : Int32), S))) else (if ¬ x1 = (1 : Int32) then (B_Model_isUnder_19 n  x0 x1 S) else (if x0 = (2 : Int32) then (dk_b (1 : Int32) (some ((1 : Int32), S))) else (B_Model_isUnder_19 n  x0 x1 S))))
set_option maxRecDepth 20000 in
theorem kb_Model_isUnder_0 {p : Program} {l : Launch} {e : Env} {s : State} {m : MethodId} {args : Array Value} {below : List Frame} {meth : Method} {c : Code} {g : dk_G} {A : Nat → Prop} {Q : State → Prop} {am : Nat → Nat} {n : Nat} {res : (Int32 × dk_S)} (X : dk_X p s m args meth c b_Model_isUnder 2 R_Model (some .boolean) g A) (hR : dk_Ri p l e rm_Model_isUnder s m args below meth c g A Q 2 b_Model_isUnder (some .boolean) (wM g am) res)  {x0 : Int32} {x1 : Int32} {S : dk_S}  (hF : B_Model_isUnder_0 n  x0 x1 S = some res) : dk_J p l e rm_Model_isUnder s m args below meth c g A Q 2 0 0 0 [(0, .int x0), (1, .int x1)] [] (wM g am S) := by
  unfold B_Model_isUnder_0 at hF
  refine dk_iload_n (k := 1) (i := 1) X 1 rfl rfl d_Model_isUnder_0 ?_
  refine dk_if_eq (tgt := 29) X (by decide) d_Model_isUnder_1 hF (fun hF => ?_) (fun hF => ?_)
  · refine dk_iconst (v := 1) X (by decide) d_Model_isUnder_29 ?_
    refine dk_goto (tgt := 34) X (by decide) d_Model_isUnder_30 ?_
    exact dk_retz hR hF d_Model_isUnder_34
  · refine dk_iload_n (k := 0) (i := 0) X 0 rfl rfl d_Model_isUnder_4 ?_
    refine dk_iload_n (k := 1) (i := 1) X 1 rfl rfl d_Model_isUnder_5 ?_
    refine dk_icmp_eq (tgt := 29) X (by decide) d_Model_isUnder_6 hF (fun hF => ?_) (fun hF => ?_)
    · refine dk_iconst (v := 1) X (by decide) d_Model_isUnder_29 ?_
      refine dk_goto (tgt := 34) X (by decide) d_Model_isUnder_30 ?_
      exact dk_retz hR hF d_Model_isUnder_34
    · refine dk_iload_n (k := 1) (i := 1) X 1 rfl rfl d_Model_isUnder_9 ?_
      refine dk_iconst (v := 1) X (by decide) d_Model_isUnder_10 ?_
      refine dk_icmp_ne (tgt := 19) X (by decide) d_Model_isUnder_11 hF (fun hF => ?_) (fun hF => ?_)
      · exact (kb_Model_isUnder_19 (n := n) X hR   hF)
      · refine dk_iload_n (k := 0) (i := 0) X 0 rfl rfl d_Model_isUnder_14 ?_
        refine dk_iconst (v := 2) X (by decide) d_Model_isUnder_15 ?_
        refine dk_icmp_eq (tgt := 29) X (by decide) d_Model_isUnder_16 hF (fun hF => ?_) (fun hF => ?_)
        · refine dk_iconst (v := 1) X (by decide) d_Model_isUnder_29 ?_
          refine dk_goto (tgt := 34) X (by decide) d_Model_isUnder_30 ?_
          exact dk_retz hR hF d_Model_isUnder_34
        · exact (kb_Model_isUnder_19 (n := n) X hR   hF)
def F_Model_isUnder (n : Nat) (x0 : Int32) (x1 : Int32) (S : dk_S) : Option (Int32 × dk_S) := B_Model_isUnder_0 n x0 x1 S
theorem c_Model_isUnder (l : Launch) (g : dk_G) (am : Nat → Nat) (n : Nat) (x0 : Int32) (x1 : Int32)  (S : dk_S) : dk_Mi l g y_Model_isUnder b_Model_isUnder 2 rm_Model_isUnder (some .boolean) [.int x0, .int x1] (wM g am) S (F_Model_isUnder n x0 x1 S) := dk_enteri (by decide) (Nat.le_of_ble_eq_true rfl) (fun p e s m args below meth c A Q res hF X hR => (kb_Model_isUnder_0 (n := n) X hR  hF))
abbrev b_Model_taken : ByteArray := prog_11_method_73_code
def y_Model_taken : MethodName := ⟨R_Model, "taken", "(II)I"⟩
theorem d_Model_taken_0 : decode b_Model_taken 0 = .ok (.iload_n 2, 1) := by decide +kernel
theorem d_Model_taken_1 : decode b_Model_taken 1 = .ok (.iconst 0, 1) := by decide +kernel
theorem d_Model_taken_2 : decode b_Model_taken 2 = .ok (.bipush 6, 2) := by decide +kernel
theorem d_Model_taken_4 : decode b_Model_taken 4 = .ok (.invokestatic 144, 3) := by decide +kernel
theorem d_Model_taken_7 : decode b_Model_taken 7 = .ok (.ifCond .ne 6, 3) := by decide +kernel
theorem d_Model_taken_10 : decode b_Model_taken 10 = .ok (.bipush (-2), 2) := by decide +kernel
theorem d_Model_taken_12 : decode b_Model_taken 12 = .ok (.ireturn, 1) := by decide +kernel
theorem d_Model_taken_13 : decode b_Model_taken 13 = .ok (.iload_n 1, 1) := by decide +kernel
theorem d_Model_taken_14 : decode b_Model_taken 14 = .ok (.iconst 0, 1) := by decide +kernel
theorem d_Model_taken_15 : decode b_Model_taken 15 = .ok (.bipush 49, 2) := by decide +kernel
theorem d_Model_taken_17 : decode b_Model_taken 17 = .ok (.invokestatic 144, 3) := by decide +kernel
theorem d_Model_taken_20 : decode b_Model_taken 20 = .ok (.ifCond .ne 6, 3) := by decide +kernel
theorem d_Model_taken_23 : decode b_Model_taken 23 = .ok (.bipush (-12), 2) := by decide +kernel
theorem d_Model_taken_25 : decode b_Model_taken 25 = .ok (.ireturn, 1) := by decide +kernel
theorem d_Model_taken_26 : decode b_Model_taken 26 = .ok (.iload_n 1, 1) := by decide +kernel
theorem d_Model_taken_27 : decode b_Model_taken 27 = .ok (.bipush 6, 2) := by decide +kernel
theorem d_Model_taken_29 : decode b_Model_taken 29 = .ok (.if_icmp .ge 34, 3) := by decide +kernel
theorem d_Model_taken_32 : decode b_Model_taken 32 = .ok (.iload_n 1, 1) := by decide +kernel
theorem d_Model_taken_33 : decode b_Model_taken 33 = .ok (.aload_n 0, 1) := by decide +kernel
theorem d_Model_taken_34 : decode b_Model_taken 34 = .ok (.getfield 148, 3) := by decide +kernel
theorem d_Model_taken_37 : decode b_Model_taken 37 = .ok (.if_icmp .lt 8, 3) := by decide +kernel
theorem d_Model_taken_40 : decode b_Model_taken 40 = .ok (.bipush (-11), 2) := by decide +kernel
theorem d_Model_taken_42 : decode b_Model_taken 42 = .ok (.goto 20, 3) := by decide +kernel
theorem d_Model_taken_45 : decode b_Model_taken 45 = .ok (.iload_n 2, 1) := by decide +kernel
theorem d_Model_taken_46 : decode b_Model_taken 46 = .ok (.bipush 6, 2) := by decide +kernel
theorem d_Model_taken_48 : decode b_Model_taken 48 = .ok (.if_icmp .ne 12, 3) := by decide +kernel
theorem d_Model_taken_51 : decode b_Model_taken 51 = .ok (.aload_n 0, 1) := by decide +kernel
theorem d_Model_taken_52 : decode b_Model_taken 52 = .ok (.getfield 13, 3) := by decide +kernel
theorem d_Model_taken_55 : decode b_Model_taken 55 = .ok (.iload_n 1, 1) := by decide +kernel
theorem d_Model_taken_56 : decode b_Model_taken 56 = .ok (.iaload, 1) := by decide +kernel
theorem d_Model_taken_57 : decode b_Model_taken 57 = .ok (.goto 5, 3) := by decide +kernel
theorem d_Model_taken_60 : decode b_Model_taken 60 = .ok (.bipush (-13), 2) := by decide +kernel
theorem d_Model_taken_62 : decode b_Model_taken 62 = .ok (.ireturn, 1) := by decide +kernel
theorem d_Model_taken_63 : decode b_Model_taken 63 = .ok (.aload_n 0, 1) := by decide +kernel
theorem d_Model_taken_64 : decode b_Model_taken 64 = .ok (.aload_n 0, 1) := by decide +kernel
theorem d_Model_taken_65 : decode b_Model_taken 65 = .ok (.getfield 151, 3) := by decide +kernel
theorem d_Model_taken_68 : decode b_Model_taken 68 = .ok (.iconst 0, 1) := by decide +kernel
theorem d_Model_taken_69 : decode b_Model_taken 69 = .ok (.invokevirtual 280, 3) := by decide +kernel
theorem d_Model_taken_72 : decode b_Model_taken 72 = .ok (.iload_n 1, 1) := by decide +kernel
theorem d_Model_taken_73 : decode b_Model_taken 73 = .ok (.bipush 6, 2) := by decide +kernel
theorem d_Model_taken_75 : decode b_Model_taken 75 = .ok (.isub, 1) := by decide +kernel
theorem d_Model_taken_76 : decode b_Model_taken 76 = .ok (.aload_n 0, 1) := by decide +kernel
theorem d_Model_taken_77 : decode b_Model_taken 77 = .ok (.getfield 246, 3) := by decide +kernel
theorem d_Model_taken_80 : decode b_Model_taken 80 = .ok (.if_icmp .lt 8, 3) := by decide +kernel
theorem d_Model_taken_83 : decode b_Model_taken 83 = .ok (.bipush (-11), 2) := by decide +kernel
theorem d_Model_taken_85 : decode b_Model_taken 85 = .ok (.goto 39, 3) := by decide +kernel
theorem d_Model_taken_88 : decode b_Model_taken 88 = .ok (.iload_n 2, 1) := by decide +kernel
theorem d_Model_taken_89 : decode b_Model_taken 89 = .ok (.bipush 6, 2) := by decide +kernel
theorem d_Model_taken_91 : decode b_Model_taken 91 = .ok (.if_icmp .ge 31, 3) := by decide +kernel
theorem d_Model_taken_94 : decode b_Model_taken 94 = .ok (.aload_n 0, 1) := by decide +kernel
theorem d_Model_taken_95 : decode b_Model_taken 95 = .ok (.getfield 50, 3) := by decide +kernel
theorem d_Model_taken_98 : decode b_Model_taken 98 = .ok (.iload_n 1, 1) := by decide +kernel
theorem d_Model_taken_99 : decode b_Model_taken 99 = .ok (.bipush 6, 2) := by decide +kernel
theorem d_Model_taken_101 : decode b_Model_taken 101 = .ok (.isub, 1) := by decide +kernel
theorem d_Model_taken_102 : decode b_Model_taken 102 = .ok (.iaload, 1) := by decide +kernel
theorem d_Model_taken_103 : decode b_Model_taken 103 = .ok (.iload_n 2, 1) := by decide +kernel
theorem d_Model_taken_104 : decode b_Model_taken 104 = .ok (.invokestatic 329, 3) := by decide +kernel
theorem d_Model_taken_107 : decode b_Model_taken 107 = .ok (.ifCond .eq 15, 3) := by decide +kernel
theorem d_Model_taken_110 : decode b_Model_taken 110 = .ok (.aload_n 0, 1) := by decide +kernel
theorem d_Model_taken_111 : decode b_Model_taken 111 = .ok (.getfield 53, 3) := by decide +kernel
theorem d_Model_taken_114 : decode b_Model_taken 114 = .ok (.iload_n 1, 1) := by decide +kernel
theorem d_Model_taken_115 : decode b_Model_taken 115 = .ok (.bipush 6, 2) := by decide +kernel
theorem d_Model_taken_117 : decode b_Model_taken 117 = .ok (.isub, 1) := by decide +kernel
theorem d_Model_taken_118 : decode b_Model_taken 118 = .ok (.iaload, 1) := by decide +kernel
theorem d_Model_taken_119 : decode b_Model_taken 119 = .ok (.goto 5, 3) := by decide +kernel
theorem d_Model_taken_122 : decode b_Model_taken 122 = .ok (.bipush (-13), 2) := by decide +kernel
theorem d_Model_taken_124 : decode b_Model_taken 124 = .ok (.ireturn, 1) := by decide +kernel
theorem v_Model_taken : dk_Yv y_Model_taken b_Model_taken 3 (some .int) 2 := ⟨dk_in (List.mem_of_getElem? (i := 1391) (by decide +kernel)) rfl, dk_in (List.mem_of_getElem? (i := 1392) (by decide +kernel)) rfl, dk_in (List.mem_of_getElem? (i := 75) (by decide +kernel)) rfl, dk_in (List.mem_of_getElem? (i := 1393) (by decide +kernel)) rfl, by decide +kernel, by decide +kernel, by decide +kernel⟩
abbrev rm_Model_taken : Room := { frames := 4, cells := 0, slots := 0, locals := 98 }
theorem m_Model_329 : Cond.methodLink R_Model 329 y_Model_isUnder ∈ dk_tb := dk_in (List.mem_of_getElem? (i := 1394) (by decide +kernel)) rfl
def B_Model_taken_0 (n : Nat)  (x1 : Int32) (x2 : Int32) (S : dk_S) : Option (Int32 × dk_S) :=
  dk_c (F_Model_in n x2 (0 : Int32) (6 : Int32) S) fun r2 S1 => if ¬ r2 = 0 then (dk_c (F_Model_in n x1 (0 : Int32) (49 : Int32) S1) fun r4 S3 => if ¬ r4 = 0 then (if (6 : Int32) ≤ x1 then (dk_cv (F_Model_works n (S3 5 0) (0 : Int32) S3) fun S5 => if (x1 - (6 : Int32)) < (S5 18 0) then (if (6 : Int32) ≤ x2 then (some ((-13 : Int32), S5)) else (dk_r 44 (S5 19) (x1 - (6 : Int32)) fun v7 => dk_c (F_Model_isUnder n v7 x2 S5) fun r9 S8 => if r9 = 0 then (some ((-13 : Int32), S8)) else (dk_r 44 (S8 20) (x1 - (6 : Int32)) fun v10 => some (v10, S8)))) else (some ((-11 : Int32), S5))) else (if x1 < (S3 2 0) then (if ¬ x2 = (6 : Int32) then (some ((-13 : Int32), S3)) else (dk_r 6 (S3 3) x1 fun v11 => some (v11, S3))) else (some ((-11 : Int32), S3)))) else (some ((-12 : Int32), S3))) else (some ((-2 : Int32), S1))
set_option maxRecDepth 20000 in
theorem kb_Model_taken_0 {p : Program} {l : Launch} {e : Env} {s : State} {m : MethodId} {args : Array Value} {below : List Frame} {meth : Method} {c : Code} {g : dk_G} {A : Nat → Prop} {Q : State → Prop} {am : Nat → Nat} {n : Nat} {res : (Int32 × dk_S)} (X : dk_X p s m args meth c b_Model_taken 3 R_Model (some .int) g A) (hR : dk_Ri p l e rm_Model_taken s m args below meth c g A Q 3 b_Model_taken (some .int) (wM g am) res)  {x1 : Int32} {x2 : Int32} {S : dk_S}  (hF : B_Model_taken_0 n  x1 x2 S = some res) : dk_J p l e rm_Model_taken s m args below meth c g A Q 3 0 0 0 [(0, .ref (am 0)), (1, .int x1), (2, .int x2)] [] (wM g am S) := by
  unfold B_Model_taken_0 at hF
  refine dk_iload_n (k := 2) (i := 2) X 2 rfl rfl d_Model_taken_0 ?_
  refine dk_iconst (v := 0) X (by decide) d_Model_taken_1 ?_
  refine dk_bipush (v := 6) X (by decide) d_Model_taken_2 ?_
  refine dk_callSi X v_Model_in [.int x2, .int (0 : Int32), .int (6 : Int32)] (c_Model_in l g am n x2 (0 : Int32) (6 : Int32) S) m_Model_144 rfl rfl ⟨rfl, rfl, Nat.le_of_ble_eq_true rfl, Nat.le_of_ble_eq_true rfl, Nat.le_refl _, Nat.le_refl _⟩ (Nat.le_of_ble_eq_true rfl) d_Model_taken_4 hF (fun r2 S1 hF => ?_)
  refine dk_if_ne (tgt := 13) X (by decide) d_Model_taken_7 hF (fun hF => ?_) (fun hF => ?_)
  · refine dk_iload_n (k := 1) (i := 1) X 1 rfl rfl d_Model_taken_13 ?_
    refine dk_iconst (v := 0) X (by decide) d_Model_taken_14 ?_
    refine dk_bipush (v := 49) X (by decide) d_Model_taken_15 ?_
    refine dk_callSi X v_Model_in [.int x1, .int (0 : Int32), .int (49 : Int32)] (c_Model_in l g am n x1 (0 : Int32) (49 : Int32) S1) m_Model_144 rfl rfl ⟨rfl, rfl, Nat.le_of_ble_eq_true rfl, Nat.le_of_ble_eq_true rfl, Nat.le_refl _, Nat.le_refl _⟩ (Nat.le_of_ble_eq_true rfl) d_Model_taken_17 hF (fun r4 S3 hF => ?_)
    refine dk_if_ne (tgt := 26) X (by decide) d_Model_taken_20 hF (fun hF => ?_) (fun hF => ?_)
    · refine dk_iload_n (k := 1) (i := 1) X 1 rfl rfl d_Model_taken_26 ?_
      refine dk_bipush (v := 6) X (by decide) d_Model_taken_27 ?_
      refine dk_icmp_ge (tgt := 63) X (by decide) d_Model_taken_29 hF (fun hF => ?_) (fun hF => ?_)
      · refine dk_aload_n (k := 0) (i := 0) X 0 rfl rfl d_Model_taken_63 ?_
        refine dk_aload_n (k := 0) (i := 0) X 0 rfl rfl d_Model_taken_64 ?_
        refine dk_get X q_Model 0 5 (by decide) (oM_Model g am S3) rfl f_Model_151 d_Model_taken_65 ?_
        refine dk_iconst (v := 0) X (by decide) d_Model_taken_68 ?_
        refine dk_callVv X v_Model_works [.int (S3 5 0), .int (0 : Int32)] (c_Model_works l g am n (S3 5 0) (0 : Int32) S3) 0 (oM_Model g am S3) rfl rfl m_Model_280 rfl rfl ⟨rfl, rfl, Nat.le_of_ble_eq_true rfl, Nat.le_of_ble_eq_true rfl, Nat.le_refl _, Nat.le_refl _⟩ (Nat.le_of_ble_eq_true rfl) d_Model_taken_69 hF (fun S5 hF => ?_)
        refine dk_iload_n (k := 1) (i := 1) X 1 rfl rfl d_Model_taken_72 ?_
        refine dk_bipush (v := 6) X (by decide) d_Model_taken_73 ?_
        refine dk_isub X d_Model_taken_75 ?_
        refine dk_aload_n (k := 0) (i := 0) X 0 rfl rfl d_Model_taken_76 ?_
        refine dk_get X q_Model 0 18 (by decide) (oM_Model g am S5) rfl f_Model_246 d_Model_taken_77 ?_
        refine dk_icmp_lt (tgt := 88) X (by decide) d_Model_taken_80 hF (fun hF => ?_) (fun hF => ?_)
        · refine dk_iload_n (k := 2) (i := 2) X 2 rfl rfl d_Model_taken_88 ?_
          refine dk_bipush (v := 6) X (by decide) d_Model_taken_89 ?_
          refine dk_icmp_ge (tgt := 122) X (by decide) d_Model_taken_91 hF (fun hF => ?_) (fun hF => ?_)
          · refine dk_bipush (v := -13) X (by decide) d_Model_taken_122 ?_
            exact dk_reti hR hF d_Model_taken_124
          · refine dk_aload_n (k := 0) (i := 0) X 0 rfl rfl d_Model_taken_94 ?_
            refine dk_get X q_Model 0 19 (by decide) (oM_Model g am S5) rfl f_Model_50 d_Model_taken_95 ?_
            refine dk_iload_n (k := 1) (i := 1) X 1 rfl rfl d_Model_taken_98 ?_
            refine dk_bipush (v := 6) X (by decide) d_Model_taken_99 ?_
            refine dk_isub X d_Model_taken_101 ?_
            refine dk_iald X 13 (aM_13 g am S5) d_Model_taken_102 hF (fun v7 hF => ?_)
            refine dk_iload_n (k := 2) (i := 2) X 2 rfl rfl d_Model_taken_103 ?_
            refine dk_callSi X v_Model_isUnder [.int v7, .int x2] (c_Model_isUnder l g am n v7 x2 S5) m_Model_329 rfl rfl ⟨rfl, rfl, Nat.le_of_ble_eq_true rfl, Nat.le_of_ble_eq_true rfl, Nat.le_refl _, Nat.le_refl _⟩ (Nat.le_of_ble_eq_true rfl) d_Model_taken_104 hF (fun r9 S8 hF => ?_)
            refine dk_if_eq (tgt := 122) X (by decide) d_Model_taken_107 hF (fun hF => ?_) (fun hF => ?_)
            · refine dk_bipush (v := -13) X (by decide) d_Model_taken_122 ?_
              exact dk_reti hR hF d_Model_taken_124
            · refine dk_aload_n (k := 0) (i := 0) X 0 rfl rfl d_Model_taken_110 ?_
              refine dk_get X q_Model 0 20 (by decide) (oM_Model g am S8) rfl f_Model_53 d_Model_taken_111 ?_
              refine dk_iload_n (k := 1) (i := 1) X 1 rfl rfl d_Model_taken_114 ?_
              refine dk_bipush (v := 6) X (by decide) d_Model_taken_115 ?_
              refine dk_isub X d_Model_taken_117 ?_
              refine dk_iald X 14 (aM_14 g am S8) d_Model_taken_118 hF (fun v10 hF => ?_)
              refine dk_goto (tgt := 124) X (by decide) d_Model_taken_119 ?_
              exact dk_reti hR hF d_Model_taken_124
        · refine dk_bipush (v := -11) X (by decide) d_Model_taken_83 ?_
          refine dk_goto (tgt := 124) X (by decide) d_Model_taken_85 ?_
          exact dk_reti hR hF d_Model_taken_124
      · refine dk_iload_n (k := 1) (i := 1) X 1 rfl rfl d_Model_taken_32 ?_
        refine dk_aload_n (k := 0) (i := 0) X 0 rfl rfl d_Model_taken_33 ?_
        refine dk_get X q_Model 0 2 (by decide) (oM_Model g am S3) rfl f_Model_148 d_Model_taken_34 ?_
        refine dk_icmp_lt (tgt := 45) X (by decide) d_Model_taken_37 hF (fun hF => ?_) (fun hF => ?_)
        · refine dk_iload_n (k := 2) (i := 2) X 2 rfl rfl d_Model_taken_45 ?_
          refine dk_bipush (v := 6) X (by decide) d_Model_taken_46 ?_
          refine dk_icmp_ne (tgt := 60) X (by decide) d_Model_taken_48 hF (fun hF => ?_) (fun hF => ?_)
          · refine dk_bipush (v := -13) X (by decide) d_Model_taken_60 ?_
            exact dk_reti hR hF d_Model_taken_62
          · refine dk_aload_n (k := 0) (i := 0) X 0 rfl rfl d_Model_taken_51 ?_
            refine dk_get X q_Model 0 3 (by decide) (oM_Model g am S3) rfl f_Model_13 d_Model_taken_52 ?_
            refine dk_iload_n (k := 1) (i := 1) X 1 rfl rfl d_Model_taken_55 ?_
            refine dk_iald X 2 (aM_2 g am S3) d_Model_taken_56 hF (fun v11 hF => ?_)
            refine dk_goto (tgt := 62) X (by decide) d_Model_taken_57 ?_
            exact dk_reti hR hF d_Model_taken_62
        · refine dk_bipush (v := -11) X (by decide) d_Model_taken_40 ?_
          refine dk_goto (tgt := 62) X (by decide) d_Model_taken_42 ?_
          exact dk_reti hR hF d_Model_taken_62
    · refine dk_bipush (v := -12) X (by decide) d_Model_taken_23 ?_
      exact dk_reti hR hF d_Model_taken_25
  · refine dk_bipush (v := -2) X (by decide) d_Model_taken_10 ?_
    exact dk_reti hR hF d_Model_taken_12
def F_Model_taken (n : Nat) (x1 : Int32) (x2 : Int32) (S : dk_S) : Option (Int32 × dk_S) := B_Model_taken_0 n x1 x2 S
theorem c_Model_taken (l : Launch) (g : dk_G) (am : Nat → Nat) (n : Nat) (x1 : Int32) (x2 : Int32)  (S : dk_S) : dk_Mi l g y_Model_taken b_Model_taken 3 rm_Model_taken (some .int) [.ref (am 0), .int x1, .int x2] (wM g am) S (F_Model_taken n x1 x2 S) := dk_enteri (by decide) (Nat.le_of_ble_eq_true rfl) (fun p e s m args below meth c A Q res hF X hR => (kb_Model_taken_0 (n := n) X hR  hF))
