abbrev b_Model_stands : ByteArray := prog_11_method_40_code
def y_Model_stands : MethodName := ⟨R_Model, "stands", "(I)Z"⟩
theorem d_Model_stands_0 : decode b_Model_stands 0 = .ok (.aload_n 0, 1) := by decide +kernel
theorem d_Model_stands_1 : decode b_Model_stands 1 = .ok (.getfield 71, 3) := by decide +kernel
theorem d_Model_stands_4 : decode b_Model_stands 4 = .ok (.iload_n 1, 1) := by decide +kernel
theorem d_Model_stands_5 : decode b_Model_stands 5 = .ok (.baload, 1) := by decide +kernel
theorem d_Model_stands_6 : decode b_Model_stands 6 = .ok (.ifCond .eq 5, 3) := by decide +kernel
theorem d_Model_stands_9 : decode b_Model_stands 9 = .ok (.iconst 0, 1) := by decide +kernel
theorem d_Model_stands_10 : decode b_Model_stands 10 = .ok (.ireturn, 1) := by decide +kernel
theorem d_Model_stands_11 : decode b_Model_stands 11 = .ok (.aload_n 0, 1) := by decide +kernel
theorem d_Model_stands_12 : decode b_Model_stands 12 = .ok (.getfield 56, 3) := by decide +kernel
theorem d_Model_stands_15 : decode b_Model_stands 15 = .ok (.iload_n 1, 1) := by decide +kernel
theorem d_Model_stands_16 : decode b_Model_stands 16 = .ok (.iaload, 1) := by decide +kernel
theorem d_Model_stands_17 : decode b_Model_stands 17 = .ok (.istore_n 2, 1) := by decide +kernel
theorem d_Model_stands_18 : decode b_Model_stands 18 = .ok (.aload_n 0, 1) := by decide +kernel
theorem d_Model_stands_19 : decode b_Model_stands 19 = .ok (.getfield 50, 3) := by decide +kernel
theorem d_Model_stands_22 : decode b_Model_stands 22 = .ok (.iload_n 1, 1) := by decide +kernel
theorem d_Model_stands_23 : decode b_Model_stands 23 = .ok (.iaload, 1) := by decide +kernel
theorem d_Model_stands_24 : decode b_Model_stands 24 = .ok (.tableswitch 205 0 4 #[36, 52, 88, 144, 146], 36) := by decide +kernel
theorem d_Model_stands_60 : decode b_Model_stands 60 = .ok (.aload_n 0, 1) := by decide +kernel
theorem d_Model_stands_61 : decode b_Model_stands 61 = .ok (.getfield 68, 3) := by decide +kernel
theorem d_Model_stands_64 : decode b_Model_stands 64 = .ok (.iload_n 1, 1) := by decide +kernel
theorem d_Model_stands_65 : decode b_Model_stands 65 = .ok (.iaload, 1) := by decide +kernel
theorem d_Model_stands_66 : decode b_Model_stands 66 = .ok (.iconst (-1), 1) := by decide +kernel
theorem d_Model_stands_67 : decode b_Model_stands 67 = .ok (.if_icmp .ne 7, 3) := by decide +kernel
theorem d_Model_stands_70 : decode b_Model_stands 70 = .ok (.iconst 1, 1) := by decide +kernel
theorem d_Model_stands_71 : decode b_Model_stands 71 = .ok (.goto 4, 3) := by decide +kernel
theorem d_Model_stands_74 : decode b_Model_stands 74 = .ok (.iconst 0, 1) := by decide +kernel
theorem d_Model_stands_75 : decode b_Model_stands 75 = .ok (.ireturn, 1) := by decide +kernel
theorem d_Model_stands_76 : decode b_Model_stands 76 = .ok (.aload_n 0, 1) := by decide +kernel
theorem d_Model_stands_77 : decode b_Model_stands 77 = .ok (.getfield 68, 3) := by decide +kernel
theorem d_Model_stands_80 : decode b_Model_stands 80 = .ok (.iload_n 1, 1) := by decide +kernel
theorem d_Model_stands_81 : decode b_Model_stands 81 = .ok (.iaload, 1) := by decide +kernel
theorem d_Model_stands_82 : decode b_Model_stands 82 = .ok (.iconst (-1), 1) := by decide +kernel
theorem d_Model_stands_83 : decode b_Model_stands 83 = .ok (.if_icmp .ne 27, 3) := by decide +kernel
theorem d_Model_stands_86 : decode b_Model_stands 86 = .ok (.aload_n 0, 1) := by decide +kernel
theorem d_Model_stands_87 : decode b_Model_stands 87 = .ok (.aload_n 0, 1) := by decide +kernel
theorem d_Model_stands_88 : decode b_Model_stands 88 = .ok (.getfield 53, 3) := by decide +kernel
theorem d_Model_stands_91 : decode b_Model_stands 91 = .ok (.iload_n 1, 1) := by decide +kernel
theorem d_Model_stands_92 : decode b_Model_stands 92 = .ok (.iaload, 1) := by decide +kernel
theorem d_Model_stands_93 : decode b_Model_stands 93 = .ok (.aload_n 0, 1) := by decide +kernel
theorem d_Model_stands_94 : decode b_Model_stands 94 = .ok (.getfield 75, 3) := by decide +kernel
theorem d_Model_stands_97 : decode b_Model_stands 97 = .ok (.iload_n 2, 1) := by decide +kernel
theorem d_Model_stands_98 : decode b_Model_stands 98 = .ok (.iaload, 1) := by decide +kernel
theorem d_Model_stands_99 : decode b_Model_stands 99 = .ok (.iload_n 2, 1) := by decide +kernel
theorem d_Model_stands_100 : decode b_Model_stands 100 = .ok (.invokevirtual 243, 3) := by decide +kernel
theorem d_Model_stands_103 : decode b_Model_stands 103 = .ok (.ifCond .eq 7, 3) := by decide +kernel
theorem d_Model_stands_106 : decode b_Model_stands 106 = .ok (.iconst 1, 1) := by decide +kernel
theorem d_Model_stands_107 : decode b_Model_stands 107 = .ok (.goto 4, 3) := by decide +kernel
theorem d_Model_stands_110 : decode b_Model_stands 110 = .ok (.iconst 0, 1) := by decide +kernel
theorem d_Model_stands_111 : decode b_Model_stands 111 = .ok (.ireturn, 1) := by decide +kernel
theorem d_Model_stands_112 : decode b_Model_stands 112 = .ok (.aload_n 0, 1) := by decide +kernel
theorem d_Model_stands_113 : decode b_Model_stands 113 = .ok (.getfield 68, 3) := by decide +kernel
theorem d_Model_stands_116 : decode b_Model_stands 116 = .ok (.iload_n 1, 1) := by decide +kernel
theorem d_Model_stands_117 : decode b_Model_stands 117 = .ok (.iaload, 1) := by decide +kernel
theorem d_Model_stands_118 : decode b_Model_stands 118 = .ok (.iconst (-1), 1) := by decide +kernel
theorem d_Model_stands_119 : decode b_Model_stands 119 = .ok (.if_icmp .eq 23, 3) := by decide +kernel
theorem d_Model_stands_122 : decode b_Model_stands 122 = .ok (.aload_n 0, 1) := by decide +kernel
theorem d_Model_stands_123 : decode b_Model_stands 123 = .ok (.getfield 259, 3) := by decide +kernel
theorem d_Model_stands_126 : decode b_Model_stands 126 = .ok (.aload_n 0, 1) := by decide +kernel
theorem d_Model_stands_127 : decode b_Model_stands 127 = .ok (.getfield 68, 3) := by decide +kernel
theorem d_Model_stands_130 : decode b_Model_stands 130 = .ok (.iload_n 1, 1) := by decide +kernel
theorem d_Model_stands_131 : decode b_Model_stands 131 = .ok (.iaload, 1) := by decide +kernel
theorem d_Model_stands_132 : decode b_Model_stands 132 = .ok (.aload_n 0, 1) := by decide +kernel
theorem d_Model_stands_133 : decode b_Model_stands 133 = .ok (.getfield 62, 3) := by decide +kernel
theorem d_Model_stands_136 : decode b_Model_stands 136 = .ok (.iload_n 1, 1) := by decide +kernel
theorem d_Model_stands_137 : decode b_Model_stands 137 = .ok (.iaload, 1) := by decide +kernel
theorem d_Model_stands_138 : decode b_Model_stands 138 = .ok (.iadd, 1) := by decide +kernel
theorem d_Model_stands_139 : decode b_Model_stands 139 = .ok (.if_icmp .gt 27, 3) := by decide +kernel
theorem d_Model_stands_142 : decode b_Model_stands 142 = .ok (.aload_n 0, 1) := by decide +kernel
theorem d_Model_stands_143 : decode b_Model_stands 143 = .ok (.aload_n 0, 1) := by decide +kernel
theorem d_Model_stands_144 : decode b_Model_stands 144 = .ok (.getfield 53, 3) := by decide +kernel
theorem d_Model_stands_147 : decode b_Model_stands 147 = .ok (.iload_n 1, 1) := by decide +kernel
theorem d_Model_stands_148 : decode b_Model_stands 148 = .ok (.iaload, 1) := by decide +kernel
theorem d_Model_stands_149 : decode b_Model_stands 149 = .ok (.aload_n 0, 1) := by decide +kernel
theorem d_Model_stands_150 : decode b_Model_stands 150 = .ok (.getfield 75, 3) := by decide +kernel
theorem d_Model_stands_153 : decode b_Model_stands 153 = .ok (.iload_n 2, 1) := by decide +kernel
theorem d_Model_stands_154 : decode b_Model_stands 154 = .ok (.iaload, 1) := by decide +kernel
theorem d_Model_stands_155 : decode b_Model_stands 155 = .ok (.iload_n 2, 1) := by decide +kernel
theorem d_Model_stands_156 : decode b_Model_stands 156 = .ok (.invokevirtual 243, 3) := by decide +kernel
theorem d_Model_stands_159 : decode b_Model_stands 159 = .ok (.ifCond .eq 7, 3) := by decide +kernel
theorem d_Model_stands_162 : decode b_Model_stands 162 = .ok (.iconst 1, 1) := by decide +kernel
theorem d_Model_stands_163 : decode b_Model_stands 163 = .ok (.goto 4, 3) := by decide +kernel
theorem d_Model_stands_166 : decode b_Model_stands 166 = .ok (.iconst 0, 1) := by decide +kernel
theorem d_Model_stands_167 : decode b_Model_stands 167 = .ok (.ireturn, 1) := by decide +kernel
theorem d_Model_stands_168 : decode b_Model_stands 168 = .ok (.iconst 1, 1) := by decide +kernel
theorem d_Model_stands_169 : decode b_Model_stands 169 = .ok (.ireturn, 1) := by decide +kernel
theorem d_Model_stands_170 : decode b_Model_stands 170 = .ok (.aload_n 0, 1) := by decide +kernel
theorem d_Model_stands_171 : decode b_Model_stands 171 = .ok (.getfield 68, 3) := by decide +kernel
theorem d_Model_stands_174 : decode b_Model_stands 174 = .ok (.iload_n 1, 1) := by decide +kernel
theorem d_Model_stands_175 : decode b_Model_stands 175 = .ok (.iaload, 1) := by decide +kernel
theorem d_Model_stands_176 : decode b_Model_stands 176 = .ok (.iconst (-1), 1) := by decide +kernel
theorem d_Model_stands_177 : decode b_Model_stands 177 = .ok (.if_icmp .ne 50, 3) := by decide +kernel
theorem d_Model_stands_180 : decode b_Model_stands 180 = .ok (.aload_n 0, 1) := by decide +kernel
theorem d_Model_stands_181 : decode b_Model_stands 181 = .ok (.getfield 75, 3) := by decide +kernel
theorem d_Model_stands_184 : decode b_Model_stands 184 = .ok (.iload_n 2, 1) := by decide +kernel
theorem d_Model_stands_185 : decode b_Model_stands 185 = .ok (.iaload, 1) := by decide +kernel
theorem d_Model_stands_186 : decode b_Model_stands 186 = .ok (.aload_n 0, 1) := by decide +kernel
theorem d_Model_stands_187 : decode b_Model_stands 187 = .ok (.getfield 65, 3) := by decide +kernel
theorem d_Model_stands_190 : decode b_Model_stands 190 = .ok (.iload_n 1, 1) := by decide +kernel
theorem d_Model_stands_191 : decode b_Model_stands 191 = .ok (.iaload, 1) := by decide +kernel
theorem d_Model_stands_192 : decode b_Model_stands 192 = .ok (.if_icmp .ne 35, 3) := by decide +kernel
theorem d_Model_stands_195 : decode b_Model_stands 195 = .ok (.aload_n 0, 1) := by decide +kernel
theorem d_Model_stands_196 : decode b_Model_stands 196 = .ok (.getfield 7, 3) := by decide +kernel
theorem d_Model_stands_199 : decode b_Model_stands 199 = .ok (.aload_n 0, 1) := by decide +kernel
theorem d_Model_stands_200 : decode b_Model_stands 200 = .ok (.getfield 65, 3) := by decide +kernel
theorem d_Model_stands_203 : decode b_Model_stands 203 = .ok (.iload_n 1, 1) := by decide +kernel
theorem d_Model_stands_204 : decode b_Model_stands 204 = .ok (.iaload, 1) := by decide +kernel
theorem d_Model_stands_205 : decode b_Model_stands 205 = .ok (.iaload, 1) := by decide +kernel
theorem d_Model_stands_206 : decode b_Model_stands 206 = .ok (.aload_n 0, 1) := by decide +kernel
theorem d_Model_stands_207 : decode b_Model_stands 207 = .ok (.getfield 53, 3) := by decide +kernel
theorem d_Model_stands_210 : decode b_Model_stands 210 = .ok (.iload_n 1, 1) := by decide +kernel
theorem d_Model_stands_211 : decode b_Model_stands 211 = .ok (.iaload, 1) := by decide +kernel
theorem d_Model_stands_212 : decode b_Model_stands 212 = .ok (.if_icmp .ne 15, 3) := by decide +kernel
theorem d_Model_stands_215 : decode b_Model_stands 215 = .ok (.aload_n 0, 1) := by decide +kernel
theorem d_Model_stands_216 : decode b_Model_stands 216 = .ok (.iload_n 2, 1) := by decide +kernel
theorem d_Model_stands_217 : decode b_Model_stands 217 = .ok (.invokevirtual 265, 3) := by decide +kernel
theorem d_Model_stands_220 : decode b_Model_stands 220 = .ok (.ifCond .ne 7, 3) := by decide +kernel
theorem d_Model_stands_223 : decode b_Model_stands 223 = .ok (.iconst 1, 1) := by decide +kernel
theorem d_Model_stands_224 : decode b_Model_stands 224 = .ok (.goto 4, 3) := by decide +kernel
theorem d_Model_stands_227 : decode b_Model_stands 227 = .ok (.iconst 0, 1) := by decide +kernel
theorem d_Model_stands_228 : decode b_Model_stands 228 = .ok (.ireturn, 1) := by decide +kernel
theorem d_Model_stands_229 : decode b_Model_stands 229 = .ok (.aload_n 0, 1) := by decide +kernel
theorem d_Model_stands_230 : decode b_Model_stands 230 = .ok (.getfield 75, 3) := by decide +kernel
theorem d_Model_stands_233 : decode b_Model_stands 233 = .ok (.iload_n 2, 1) := by decide +kernel
theorem d_Model_stands_234 : decode b_Model_stands 234 = .ok (.iaload, 1) := by decide +kernel
theorem d_Model_stands_235 : decode b_Model_stands 235 = .ok (.aload_n 0, 1) := by decide +kernel
theorem d_Model_stands_236 : decode b_Model_stands 236 = .ok (.getfield 13, 3) := by decide +kernel
theorem d_Model_stands_239 : decode b_Model_stands 239 = .ok (.iload_n 2, 1) := by decide +kernel
theorem d_Model_stands_240 : decode b_Model_stands 240 = .ok (.iaload, 1) := by decide +kernel
theorem d_Model_stands_241 : decode b_Model_stands 241 = .ok (.if_icmp .eq 19, 3) := by decide +kernel
theorem d_Model_stands_244 : decode b_Model_stands 244 = .ok (.aload_n 0, 1) := by decide +kernel
theorem d_Model_stands_245 : decode b_Model_stands 245 = .ok (.getfield 259, 3) := by decide +kernel
theorem d_Model_stands_248 : decode b_Model_stands 248 = .ok (.aload_n 0, 1) := by decide +kernel
theorem d_Model_stands_249 : decode b_Model_stands 249 = .ok (.getfield 78, 3) := by decide +kernel
theorem d_Model_stands_252 : decode b_Model_stands 252 = .ok (.iload_n 2, 1) := by decide +kernel
theorem d_Model_stands_253 : decode b_Model_stands 253 = .ok (.iaload, 1) := by decide +kernel
theorem d_Model_stands_254 : decode b_Model_stands 254 = .ok (.bipush 30, 2) := by decide +kernel
theorem d_Model_stands_256 : decode b_Model_stands 256 = .ok (.iadd, 1) := by decide +kernel
theorem d_Model_stands_257 : decode b_Model_stands 257 = .ok (.if_icmp .gt 7, 3) := by decide +kernel
theorem d_Model_stands_260 : decode b_Model_stands 260 = .ok (.iconst 1, 1) := by decide +kernel
theorem d_Model_stands_261 : decode b_Model_stands 261 = .ok (.goto 4, 3) := by decide +kernel
theorem d_Model_stands_264 : decode b_Model_stands 264 = .ok (.iconst 0, 1) := by decide +kernel
theorem d_Model_stands_265 : decode b_Model_stands 265 = .ok (.ireturn, 1) := by decide +kernel
theorem v_Model_stands : dk_Yv y_Model_stands b_Model_stands 3 (some .boolean) 1 := ⟨dk_in (List.mem_of_getElem? (i := 1268) (by decide +kernel)) rfl, dk_in (List.mem_of_getElem? (i := 54) (by decide +kernel)) rfl, dk_in (List.mem_of_getElem? (i := 75) (by decide +kernel)) rfl, dk_in (List.mem_of_getElem? (i := 1269) (by decide +kernel)) rfl, by decide +kernel, by decide +kernel, by decide +kernel⟩
abbrev rm_Model_stands : Room := { frames := 3, cells := 0, slots := 0, locals := 69 }
theorem m_Model_265 : Cond.methodLink R_Model 265 y_Model_isHeld ∈ dk_tb := dk_in (List.mem_of_getElem? (i := 1270) (by decide +kernel)) rfl
def B_Model_stands_142 (n : Nat)  (x1 : Int32) (x2 : Int32) (S : dk_S) : Option (Int32 × dk_S) :=
  dk_r 44 (S 20) x1 fun v1 => dk_r 6 (S 27) x2 fun v2 => dk_c (F_Model_mayFollow n v1 v2 x2 S) fun r4 S3 => if r4 = 0 then (dk_b (0 : Int32) (some ((0 : Int32), S3))) else (dk_b (1 : Int32) (some ((1 : Int32), S3)))
set_option maxRecDepth 20000 in
theorem kb_Model_stands_142 {p : Program} {l : Launch} {e : Env} {s : State} {m : MethodId} {args : Array Value} {below : List Frame} {meth : Method} {c : Code} {g : dk_G} {A : Nat → Prop} {Q : State → Prop} {am : Nat → Nat} {n : Nat} {res : (Int32 × dk_S)} (X : dk_X p s m args meth c b_Model_stands 3 R_Model (some .boolean) g A) (hR : dk_Ri p l e rm_Model_stands s m args below meth c g A Q 3 b_Model_stands (some .boolean) (wM g am) res)  {x1 : Int32} {x2 : Int32} {S : dk_S}  (hF : B_Model_stands_142 n  x1 x2 S = some res) : dk_J p l e rm_Model_stands s m args below meth c g A Q 3 0 0 142 [(0, .ref (am 0)), (1, .int x1), (2, .int x2)] [] (wM g am S) := by
  unfold B_Model_stands_142 at hF
  refine dk_aload_n (k := 0) (i := 0) X 0 rfl rfl d_Model_stands_142 ?_
  refine dk_aload_n (k := 0) (i := 0) X 0 rfl rfl d_Model_stands_143 ?_
  refine dk_get X q_Model 0 20 (by decide) (oM_Model g am S) rfl f_Model_53 d_Model_stands_144 ?_
  refine dk_iload_n (k := 1) (i := 1) X 1 rfl rfl d_Model_stands_147 ?_
  refine dk_iald X 14 (aM_14 g am S) d_Model_stands_148 hF (fun v1 hF => ?_)
  refine dk_aload_n (k := 0) (i := 0) X 0 rfl rfl d_Model_stands_149 ?_
  refine dk_get X q_Model 0 27 (by decide) (oM_Model g am S) rfl f_Model_75 d_Model_stands_150 ?_
  refine dk_iload_n (k := 2) (i := 2) X 2 rfl rfl d_Model_stands_153 ?_
  refine dk_iald X 21 (aM_21 g am S) d_Model_stands_154 hF (fun v2 hF => ?_)
  refine dk_iload_n (k := 2) (i := 2) X 2 rfl rfl d_Model_stands_155 ?_
  refine dk_callVi X v_Model_mayFollow [.int v1, .int v2, .int x2] (c_Model_mayFollow l g am n v1 v2 x2 S) 0 (oM_Model g am S) rfl rfl m_Model_243 rfl rfl ⟨rfl, rfl, Nat.le_of_ble_eq_true rfl, Nat.le_of_ble_eq_true rfl, Nat.le_refl _, Nat.le_refl _⟩ (Nat.le_of_ble_eq_true rfl) d_Model_stands_156 hF (fun r4 S3 hF => ?_)
  refine dk_if_eq (tgt := 166) X (by decide) d_Model_stands_159 hF (fun hF => ?_) (fun hF => ?_)
  · refine dk_iconst (v := 0) X (by decide) d_Model_stands_166 ?_
    exact dk_retz hR hF d_Model_stands_167
  · refine dk_iconst (v := 1) X (by decide) d_Model_stands_162 ?_
    refine dk_goto (tgt := 167) X (by decide) d_Model_stands_163 ?_
    exact dk_retz hR hF d_Model_stands_167
def B_Model_stands_0 (n : Nat)  (x1 : Int32) (S : dk_S) : Option (Int32 × dk_S) :=
  dk_r 44 (S 26) x1 fun v5 => if v5 = 0 then (dk_r 44 (S 21) x1 fun v6 => dk_r 44 (S 19) x1 fun v7 => if v7 = (0 : Int32) then (dk_r 44 (S 25) x1 fun v8 => if ¬ v8 = (-1 : Int32) then (dk_b (0 : Int32) (some ((0 : Int32), S))) else (dk_b (1 : Int32) (some ((1 : Int32), S)))) else (if v7 = (1 : Int32) then (dk_r 44 (S 25) x1 fun v9 => if ¬ v9 = (-1 : Int32) then (dk_b (0 : Int32) (some ((0 : Int32), S))) else (dk_r 44 (S 20) x1 fun v10 => dk_r 6 (S 27) v6 fun v11 => dk_c (F_Model_mayFollow n v10 v11 v6 S) fun r13 S12 => if r13 = 0 then (dk_b (0 : Int32) (some ((0 : Int32), S12))) else (dk_b (1 : Int32) (some ((1 : Int32), S12))))) else (if v7 = (2 : Int32) then (dk_r 44 (S 25) x1 fun v14 => if v14 = (-1 : Int32) then (B_Model_stands_142 n  x1 v6 S) else (dk_r 44 (S 25) x1 fun v15 => dk_r 44 (S 23) x1 fun v16 => if (v15 + v16) < (S 30 0) then (dk_b (0 : Int32) (some ((0 : Int32), S))) else (B_Model_stands_142 n  x1 v6 S))) else (if v7 = (3 : Int32) then (dk_b (1 : Int32) (some ((1 : Int32), S))) else (if v7 = (4 : Int32) then (dk_r 44 (S 25) x1 fun v17 => if ¬ v17 = (-1 : Int32) then (dk_b (0 : Int32) (some ((0 : Int32), S))) else (dk_r 6 (S 27) v6 fun v18 => dk_r 44 (S 24) x1 fun v19 => if ¬ v18 = v19 then (dk_b (0 : Int32) (some ((0 : Int32), S))) else (dk_r 44 (S 24) x1 fun v20 => dk_r 8 (S 1) v20 fun v21 => dk_r 44 (S 20) x1 fun v22 => if ¬ v21 = v22 then (dk_b (0 : Int32) (some ((0 : Int32), S))) else (dk_c (F_Model_isHeld n v6 S) fun r24 S23 => if ¬ r24 = 0 then (dk_b (0 : Int32) (some ((0 : Int32), S23))) else (dk_b (1 : Int32) (some ((1 : Int32), S23))))))) else (dk_r 6 (S 27) v6 fun v25 => dk_r 6 (S 3) v6 fun v26 => if v25 = v26 then (dk_b (1 : Int32) (some ((1 : Int32), S))) else (dk_r 6 (S 28) v6 fun v27 => if (v27 + (30 : Int32)) < (S 30 0) then (dk_b (0 : Int32) (some ((0 : Int32), S))) else (dk_b (1 : Int32) (some ((1 : Int32), S)))))))))) else (dk_b (0 : Int32) (some ((0 : Int32), S)))
set_option maxRecDepth 20000 in
theorem kb_Model_stands_0 {p : Program} {l : Launch} {e : Env} {s : State} {m : MethodId} {args : Array Value} {below : List Frame} {meth : Method} {c : Code} {g : dk_G} {A : Nat → Prop} {Q : State → Prop} {am : Nat → Nat} {n : Nat} {res : (Int32 × dk_S)} (X : dk_X p s m args meth c b_Model_stands 3 R_Model (some .boolean) g A) (hR : dk_Ri p l e rm_Model_stands s m args below meth c g A Q 3 b_Model_stands (some .boolean) (wM g am) res)  {x1 : Int32} {S : dk_S}  (hF : B_Model_stands_0 n  x1 S = some res) : dk_J p l e rm_Model_stands s m args below meth c g A Q 3 0 0 0 [(0, .ref (am 0)), (1, .int x1)] [] (wM g am S) := by
  unfold B_Model_stands_0 at hF
  refine dk_aload_n (k := 0) (i := 0) X 0 rfl rfl d_Model_stands_0 ?_
  refine dk_get X q_Model 0 26 (by decide) (oM_Model g am S) rfl f_Model_71 d_Model_stands_1 ?_
  refine dk_iload_n (k := 1) (i := 1) X 1 rfl rfl d_Model_stands_4 ?_
  refine dk_zald X 20 (aM_20 g am S) d_Model_stands_5 hF (fun v5 hF => ?_)
  refine dk_if_eq (tgt := 11) X (by decide) d_Model_stands_6 hF (fun hF => ?_) (fun hF => ?_)
  · refine dk_aload_n (k := 0) (i := 0) X 0 rfl rfl d_Model_stands_11 ?_
    refine dk_get X q_Model 0 21 (by decide) (oM_Model g am S) rfl f_Model_56 d_Model_stands_12 ?_
    refine dk_iload_n (k := 1) (i := 1) X 1 rfl rfl d_Model_stands_15 ?_
    refine dk_iald X 15 (aM_15 g am S) d_Model_stands_16 hF (fun v6 hF => ?_)
    refine dk_istore_n (k := 2) (i := 2) (lv' := [(2, .int v6), (0, .ref (am 0)), (1, .int x1)]) X rfl (by decide) rfl d_Model_stands_17 ?_
    refine dk_aload_n (k := 0) (i := 0) X 1 rfl rfl d_Model_stands_18 ?_
    refine dk_get X q_Model 0 19 (by decide) (oM_Model g am S) rfl f_Model_50 d_Model_stands_19 ?_
    refine dk_iload_n (k := 1) (i := 1) X 2 rfl rfl d_Model_stands_22 ?_
    refine dk_iald X 13 (aM_13 g am S) d_Model_stands_23 hF (fun v7 hF => ?_)
    refine dk_if hF (fun hc0 hF => ?_) (fun hc0 hF => ?_)
    · refine dk_tsIn (v := 0) (tgt := 60) X d_Model_stands_24 (by rw [hc0]; decide) (by decide) (by decide) rfl (by decide) ?_
      refine dk_aload_n (k := 0) (i := 0) X 1 rfl rfl d_Model_stands_60 ?_
      refine dk_get X q_Model 0 25 (by decide) (oM_Model g am S) rfl f_Model_68 d_Model_stands_61 ?_
      refine dk_iload_n (k := 1) (i := 1) X 2 rfl rfl d_Model_stands_64 ?_
      refine dk_iald X 19 (aM_19 g am S) d_Model_stands_65 hF (fun v8 hF => ?_)
      refine dk_iconst (v := -1) X (by decide) d_Model_stands_66 ?_
      refine dk_icmp_ne (tgt := 74) X (by decide) d_Model_stands_67 hF (fun hF => ?_) (fun hF => ?_)
      · refine dk_iconst (v := 0) X (by decide) d_Model_stands_74 ?_
        exact dk_retz hR hF d_Model_stands_75
      · refine dk_iconst (v := 1) X (by decide) d_Model_stands_70 ?_
        refine dk_goto (tgt := 75) X (by decide) d_Model_stands_71 ?_
        exact dk_retz hR hF d_Model_stands_75
    · refine dk_if hF (fun hc1 hF => ?_) (fun hc1 hF => ?_)
      · refine dk_tsIn (v := 1) (tgt := 76) X d_Model_stands_24 (by rw [hc1]; decide) (by decide) (by decide) rfl (by decide) ?_
        refine dk_aload_n (k := 0) (i := 0) X 1 rfl rfl d_Model_stands_76 ?_
        refine dk_get X q_Model 0 25 (by decide) (oM_Model g am S) rfl f_Model_68 d_Model_stands_77 ?_
        refine dk_iload_n (k := 1) (i := 1) X 2 rfl rfl d_Model_stands_80 ?_
        refine dk_iald X 19 (aM_19 g am S) d_Model_stands_81 hF (fun v9 hF => ?_)
        refine dk_iconst (v := -1) X (by decide) d_Model_stands_82 ?_
        refine dk_icmp_ne (tgt := 110) X (by decide) d_Model_stands_83 hF (fun hF => ?_) (fun hF => ?_)
        · refine dk_iconst (v := 0) X (by decide) d_Model_stands_110 ?_
          exact dk_retz hR hF d_Model_stands_111
        · refine dk_aload_n (k := 0) (i := 0) X 1 rfl rfl d_Model_stands_86 ?_
          refine dk_aload_n (k := 0) (i := 0) X 1 rfl rfl d_Model_stands_87 ?_
          refine dk_get X q_Model 0 20 (by decide) (oM_Model g am S) rfl f_Model_53 d_Model_stands_88 ?_
          refine dk_iload_n (k := 1) (i := 1) X 2 rfl rfl d_Model_stands_91 ?_
          refine dk_iald X 14 (aM_14 g am S) d_Model_stands_92 hF (fun v10 hF => ?_)
          refine dk_aload_n (k := 0) (i := 0) X 1 rfl rfl d_Model_stands_93 ?_
          refine dk_get X q_Model 0 27 (by decide) (oM_Model g am S) rfl f_Model_75 d_Model_stands_94 ?_
          refine dk_iload_n (k := 2) (i := 2) X 0 rfl rfl d_Model_stands_97 ?_
          refine dk_iald X 21 (aM_21 g am S) d_Model_stands_98 hF (fun v11 hF => ?_)
          refine dk_iload_n (k := 2) (i := 2) X 0 rfl rfl d_Model_stands_99 ?_
          refine dk_callVi X v_Model_mayFollow [.int v10, .int v11, .int v6] (c_Model_mayFollow l g am n v10 v11 v6 S) 0 (oM_Model g am S) rfl rfl m_Model_243 rfl rfl ⟨rfl, rfl, Nat.le_of_ble_eq_true rfl, Nat.le_of_ble_eq_true rfl, Nat.le_refl _, Nat.le_refl _⟩ (Nat.le_of_ble_eq_true rfl) d_Model_stands_100 hF (fun r13 S12 hF => ?_)
          refine dk_if_eq (tgt := 110) X (by decide) d_Model_stands_103 hF (fun hF => ?_) (fun hF => ?_)
          · refine dk_iconst (v := 0) X (by decide) d_Model_stands_110 ?_
            exact dk_retz hR hF d_Model_stands_111
          · refine dk_iconst (v := 1) X (by decide) d_Model_stands_106 ?_
            refine dk_goto (tgt := 111) X (by decide) d_Model_stands_107 ?_
            exact dk_retz hR hF d_Model_stands_111
      · refine dk_if hF (fun hc2 hF => ?_) (fun hc2 hF => ?_)
        · refine dk_tsIn (v := 2) (tgt := 112) X d_Model_stands_24 (by rw [hc2]; decide) (by decide) (by decide) rfl (by decide) ?_
          refine dk_aload_n (k := 0) (i := 0) X 1 rfl rfl d_Model_stands_112 ?_
          refine dk_get X q_Model 0 25 (by decide) (oM_Model g am S) rfl f_Model_68 d_Model_stands_113 ?_
          refine dk_iload_n (k := 1) (i := 1) X 2 rfl rfl d_Model_stands_116 ?_
          refine dk_iald X 19 (aM_19 g am S) d_Model_stands_117 hF (fun v14 hF => ?_)
          refine dk_iconst (v := -1) X (by decide) d_Model_stands_118 ?_
          refine dk_icmp_eq (tgt := 142) X (by decide) d_Model_stands_119 hF (fun hF => ?_) (fun hF => ?_)
          · exact dk_sub [1, 2, 0] rfl (kb_Model_stands_142 (n := n) X hR   hF)
          · refine dk_aload_n (k := 0) (i := 0) X 1 rfl rfl d_Model_stands_122 ?_
            refine dk_get X q_Model 0 30 (by decide) (oM_Model g am S) rfl f_Model_259 d_Model_stands_123 ?_
            refine dk_aload_n (k := 0) (i := 0) X 1 rfl rfl d_Model_stands_126 ?_
            refine dk_get X q_Model 0 25 (by decide) (oM_Model g am S) rfl f_Model_68 d_Model_stands_127 ?_
            refine dk_iload_n (k := 1) (i := 1) X 2 rfl rfl d_Model_stands_130 ?_
            refine dk_iald X 19 (aM_19 g am S) d_Model_stands_131 hF (fun v15 hF => ?_)
            refine dk_aload_n (k := 0) (i := 0) X 1 rfl rfl d_Model_stands_132 ?_
            refine dk_get X q_Model 0 23 (by decide) (oM_Model g am S) rfl f_Model_62 d_Model_stands_133 ?_
            refine dk_iload_n (k := 1) (i := 1) X 2 rfl rfl d_Model_stands_136 ?_
            refine dk_iald X 17 (aM_17 g am S) d_Model_stands_137 hF (fun v16 hF => ?_)
            refine dk_iadd X d_Model_stands_138 ?_
            refine dk_icmp_gt (tgt := 166) X (by decide) d_Model_stands_139 hF (fun hF => ?_) (fun hF => ?_)
            · refine dk_iconst (v := 0) X (by decide) d_Model_stands_166 ?_
              exact dk_retz hR hF d_Model_stands_167
            · exact dk_sub [1, 2, 0] rfl (kb_Model_stands_142 (n := n) X hR   hF)
        · refine dk_if hF (fun hc3 hF => ?_) (fun hc3 hF => ?_)
          · refine dk_tsIn (v := 3) (tgt := 168) X d_Model_stands_24 (by rw [hc3]; decide) (by decide) (by decide) rfl (by decide) ?_
            refine dk_iconst (v := 1) X (by decide) d_Model_stands_168 ?_
            exact dk_retz hR hF d_Model_stands_169
          · refine dk_if hF (fun hc4 hF => ?_) (fun hc4 hF => ?_)
            · refine dk_tsIn (v := 4) (tgt := 170) X d_Model_stands_24 (by rw [hc4]; decide) (by decide) (by decide) rfl (by decide) ?_
              refine dk_aload_n (k := 0) (i := 0) X 1 rfl rfl d_Model_stands_170 ?_
              refine dk_get X q_Model 0 25 (by decide) (oM_Model g am S) rfl f_Model_68 d_Model_stands_171 ?_
              refine dk_iload_n (k := 1) (i := 1) X 2 rfl rfl d_Model_stands_174 ?_
              refine dk_iald X 19 (aM_19 g am S) d_Model_stands_175 hF (fun v17 hF => ?_)
              refine dk_iconst (v := -1) X (by decide) d_Model_stands_176 ?_
              refine dk_icmp_ne (tgt := 227) X (by decide) d_Model_stands_177 hF (fun hF => ?_) (fun hF => ?_)
              · refine dk_iconst (v := 0) X (by decide) d_Model_stands_227 ?_
                exact dk_retz hR hF d_Model_stands_228
              · refine dk_aload_n (k := 0) (i := 0) X 1 rfl rfl d_Model_stands_180 ?_
                refine dk_get X q_Model 0 27 (by decide) (oM_Model g am S) rfl f_Model_75 d_Model_stands_181 ?_
                refine dk_iload_n (k := 2) (i := 2) X 0 rfl rfl d_Model_stands_184 ?_
                refine dk_iald X 21 (aM_21 g am S) d_Model_stands_185 hF (fun v18 hF => ?_)
                refine dk_aload_n (k := 0) (i := 0) X 1 rfl rfl d_Model_stands_186 ?_
                refine dk_get X q_Model 0 24 (by decide) (oM_Model g am S) rfl f_Model_65 d_Model_stands_187 ?_
                refine dk_iload_n (k := 1) (i := 1) X 2 rfl rfl d_Model_stands_190 ?_
                refine dk_iald X 18 (aM_18 g am S) d_Model_stands_191 hF (fun v19 hF => ?_)
                refine dk_icmp_ne (tgt := 227) X (by decide) d_Model_stands_192 hF (fun hF => ?_) (fun hF => ?_)
                · refine dk_iconst (v := 0) X (by decide) d_Model_stands_227 ?_
                  exact dk_retz hR hF d_Model_stands_228
                · refine dk_aload_n (k := 0) (i := 0) X 1 rfl rfl d_Model_stands_195 ?_
                  refine dk_get X q_Model 0 1 (by decide) (oM_Model g am S) rfl f_Model_7 d_Model_stands_196 ?_
                  refine dk_aload_n (k := 0) (i := 0) X 1 rfl rfl d_Model_stands_199 ?_
                  refine dk_get X q_Model 0 24 (by decide) (oM_Model g am S) rfl f_Model_65 d_Model_stands_200 ?_
                  refine dk_iload_n (k := 1) (i := 1) X 2 rfl rfl d_Model_stands_203 ?_
                  refine dk_iald X 18 (aM_18 g am S) d_Model_stands_204 hF (fun v20 hF => ?_)
                  refine dk_iald X 1 (aM_1 g am S) d_Model_stands_205 hF (fun v21 hF => ?_)
                  refine dk_aload_n (k := 0) (i := 0) X 1 rfl rfl d_Model_stands_206 ?_
                  refine dk_get X q_Model 0 20 (by decide) (oM_Model g am S) rfl f_Model_53 d_Model_stands_207 ?_
                  refine dk_iload_n (k := 1) (i := 1) X 2 rfl rfl d_Model_stands_210 ?_
                  refine dk_iald X 14 (aM_14 g am S) d_Model_stands_211 hF (fun v22 hF => ?_)
                  refine dk_icmp_ne (tgt := 227) X (by decide) d_Model_stands_212 hF (fun hF => ?_) (fun hF => ?_)
                  · refine dk_iconst (v := 0) X (by decide) d_Model_stands_227 ?_
                    exact dk_retz hR hF d_Model_stands_228
                  · refine dk_aload_n (k := 0) (i := 0) X 1 rfl rfl d_Model_stands_215 ?_
                    refine dk_iload_n (k := 2) (i := 2) X 0 rfl rfl d_Model_stands_216 ?_
                    refine dk_callVi X v_Model_isHeld [.int v6] (c_Model_isHeld l g am n v6 S) 0 (oM_Model g am S) rfl rfl m_Model_265 rfl rfl ⟨rfl, rfl, Nat.le_of_ble_eq_true rfl, Nat.le_of_ble_eq_true rfl, Nat.le_refl _, Nat.le_refl _⟩ (Nat.le_of_ble_eq_true rfl) d_Model_stands_217 hF (fun r24 S23 hF => ?_)
                    refine dk_if_ne (tgt := 227) X (by decide) d_Model_stands_220 hF (fun hF => ?_) (fun hF => ?_)
                    · refine dk_iconst (v := 0) X (by decide) d_Model_stands_227 ?_
                      exact dk_retz hR hF d_Model_stands_228
                    · refine dk_iconst (v := 1) X (by decide) d_Model_stands_223 ?_
                      refine dk_goto (tgt := 228) X (by decide) d_Model_stands_224 ?_
                      exact dk_retz hR hF d_Model_stands_228
            · refine dk_tsOut (tgt := 229) X d_Model_stands_24 (by have e0 := lv_neT hc0 (a := 0) (by decide); have e1 := lv_neT hc1 (a := 1) (by decide); have e2 := lv_neT hc2 (a := 2) (by decide); have e3 := lv_neT hc3 (a := 3) (by decide); have e4 := lv_neT hc4 (a := 4) (by decide); omega) (by decide) ?_
              refine dk_aload_n (k := 0) (i := 0) X 1 rfl rfl d_Model_stands_229 ?_
              refine dk_get X q_Model 0 27 (by decide) (oM_Model g am S) rfl f_Model_75 d_Model_stands_230 ?_
              refine dk_iload_n (k := 2) (i := 2) X 0 rfl rfl d_Model_stands_233 ?_
              refine dk_iald X 21 (aM_21 g am S) d_Model_stands_234 hF (fun v25 hF => ?_)
              refine dk_aload_n (k := 0) (i := 0) X 1 rfl rfl d_Model_stands_235 ?_
              refine dk_get X q_Model 0 3 (by decide) (oM_Model g am S) rfl f_Model_13 d_Model_stands_236 ?_
              refine dk_iload_n (k := 2) (i := 2) X 0 rfl rfl d_Model_stands_239 ?_
              refine dk_iald X 2 (aM_2 g am S) d_Model_stands_240 hF (fun v26 hF => ?_)
              refine dk_icmp_eq (tgt := 260) X (by decide) d_Model_stands_241 hF (fun hF => ?_) (fun hF => ?_)
              · refine dk_iconst (v := 1) X (by decide) d_Model_stands_260 ?_
                refine dk_goto (tgt := 265) X (by decide) d_Model_stands_261 ?_
                exact dk_retz hR hF d_Model_stands_265
              · refine dk_aload_n (k := 0) (i := 0) X 1 rfl rfl d_Model_stands_244 ?_
                refine dk_get X q_Model 0 30 (by decide) (oM_Model g am S) rfl f_Model_259 d_Model_stands_245 ?_
                refine dk_aload_n (k := 0) (i := 0) X 1 rfl rfl d_Model_stands_248 ?_
                refine dk_get X q_Model 0 28 (by decide) (oM_Model g am S) rfl f_Model_78 d_Model_stands_249 ?_
                refine dk_iload_n (k := 2) (i := 2) X 0 rfl rfl d_Model_stands_252 ?_
                refine dk_iald X 22 (aM_22 g am S) d_Model_stands_253 hF (fun v27 hF => ?_)
                refine dk_bipush (v := 30) X (by decide) d_Model_stands_254 ?_
                refine dk_iadd X d_Model_stands_256 ?_
                refine dk_icmp_gt (tgt := 264) X (by decide) d_Model_stands_257 hF (fun hF => ?_) (fun hF => ?_)
                · refine dk_iconst (v := 0) X (by decide) d_Model_stands_264 ?_
                  exact dk_retz hR hF d_Model_stands_265
                · refine dk_iconst (v := 1) X (by decide) d_Model_stands_260 ?_
                  refine dk_goto (tgt := 265) X (by decide) d_Model_stands_261 ?_
                  exact dk_retz hR hF d_Model_stands_265
  · refine dk_iconst (v := 0) X (by decide) d_Model_stands_9 ?_
    exact dk_retz hR hF d_Model_stands_10
def F_Model_stands (n : Nat) (x1 : Int32) (S : dk_S) : Option (Int32 × dk_S) := B_Model_stands_0 n x1 S
theorem c_Model_stands (l : Launch) (g : dk_G) (am : Nat → Nat) (n : Nat) (x1 : Int32)  (S : dk_S) : dk_Mi l g y_Model_stands b_Model_stands 3 rm_Model_stands (some .boolean) [.ref (am 0), .int x1] (wM g am) S (F_Model_stands n x1 S) := dk_enteri (by decide) (Nat.le_of_ble_eq_true rfl) (fun p e s m args below meth c A Q res hF X hR => (kb_Model_stands_0 (n := n) X hR  hF))
abbrev b_Model_weight : ByteArray := prog_11_method_41_code
def y_Model_weight : MethodName := ⟨R_Model, "weight", "(I)I"⟩
theorem d_Model_weight_0 : decode b_Model_weight 0 = .ok (.aload_n 0, 1) := by decide +kernel
theorem d_Model_weight_1 : decode b_Model_weight 1 = .ok (.getfield 50, 3) := by decide +kernel
theorem d_Model_weight_4 : decode b_Model_weight 4 = .ok (.iload_n 1, 1) := by decide +kernel
theorem d_Model_weight_5 : decode b_Model_weight 5 = .ok (.iaload, 1) := by decide +kernel
theorem d_Model_weight_6 : decode b_Model_weight 6 = .ok (.istore_n 2, 1) := by decide +kernel
theorem d_Model_weight_7 : decode b_Model_weight 7 = .ok (.iload_n 2, 1) := by decide +kernel
theorem d_Model_weight_8 : decode b_Model_weight 8 = .ok (.ifCond .ne 7, 3) := by decide +kernel
theorem d_Model_weight_11 : decode b_Model_weight 11 = .ok (.iconst 1, 1) := by decide +kernel
theorem d_Model_weight_12 : decode b_Model_weight 12 = .ok (.goto 63, 3) := by decide +kernel
theorem d_Model_weight_15 : decode b_Model_weight 15 = .ok (.iload_n 2, 1) := by decide +kernel
theorem d_Model_weight_16 : decode b_Model_weight 16 = .ok (.iconst 1, 1) := by decide +kernel
theorem d_Model_weight_17 : decode b_Model_weight 17 = .ok (.if_icmp .ne 7, 3) := by decide +kernel
theorem d_Model_weight_20 : decode b_Model_weight 20 = .ok (.iconst 3, 1) := by decide +kernel
theorem d_Model_weight_21 : decode b_Model_weight 21 = .ok (.goto 54, 3) := by decide +kernel
theorem d_Model_weight_24 : decode b_Model_weight 24 = .ok (.iload_n 2, 1) := by decide +kernel
theorem d_Model_weight_25 : decode b_Model_weight 25 = .ok (.iconst 2, 1) := by decide +kernel
theorem d_Model_weight_26 : decode b_Model_weight 26 = .ok (.if_icmp .ne 14, 3) := by decide +kernel
theorem d_Model_weight_29 : decode b_Model_weight 29 = .ok (.iconst 3, 1) := by decide +kernel
theorem d_Model_weight_30 : decode b_Model_weight 30 = .ok (.aload_n 0, 1) := by decide +kernel
theorem d_Model_weight_31 : decode b_Model_weight 31 = .ok (.getfield 62, 3) := by decide +kernel
theorem d_Model_weight_34 : decode b_Model_weight 34 = .ok (.iload_n 1, 1) := by decide +kernel
theorem d_Model_weight_35 : decode b_Model_weight 35 = .ok (.iaload, 1) := by decide +kernel
theorem d_Model_weight_36 : decode b_Model_weight 36 = .ok (.iadd, 1) := by decide +kernel
theorem d_Model_weight_37 : decode b_Model_weight 37 = .ok (.goto 38, 3) := by decide +kernel
theorem d_Model_weight_40 : decode b_Model_weight 40 = .ok (.iload_n 2, 1) := by decide +kernel
theorem d_Model_weight_41 : decode b_Model_weight 41 = .ok (.iconst 3, 1) := by decide +kernel
theorem d_Model_weight_42 : decode b_Model_weight 42 = .ok (.if_icmp .ne 15, 3) := by decide +kernel
theorem d_Model_weight_45 : decode b_Model_weight 45 = .ok (.bipush 10, 2) := by decide +kernel
theorem d_Model_weight_47 : decode b_Model_weight 47 = .ok (.aload_n 0, 1) := by decide +kernel
theorem d_Model_weight_48 : decode b_Model_weight 48 = .ok (.getfield 62, 3) := by decide +kernel
theorem d_Model_weight_51 : decode b_Model_weight 51 = .ok (.iload_n 1, 1) := by decide +kernel
theorem d_Model_weight_52 : decode b_Model_weight 52 = .ok (.iaload, 1) := by decide +kernel
theorem d_Model_weight_53 : decode b_Model_weight 53 = .ok (.iadd, 1) := by decide +kernel
theorem d_Model_weight_54 : decode b_Model_weight 54 = .ok (.goto 21, 3) := by decide +kernel
theorem d_Model_weight_57 : decode b_Model_weight 57 = .ok (.iload_n 2, 1) := by decide +kernel
theorem d_Model_weight_58 : decode b_Model_weight 58 = .ok (.iconst 4, 1) := by decide +kernel
theorem d_Model_weight_59 : decode b_Model_weight 59 = .ok (.if_icmp .ne 7, 3) := by decide +kernel
theorem d_Model_weight_62 : decode b_Model_weight 62 = .ok (.iconst 4, 1) := by decide +kernel
theorem d_Model_weight_63 : decode b_Model_weight 63 = .ok (.goto 12, 3) := by decide +kernel
theorem d_Model_weight_66 : decode b_Model_weight 66 = .ok (.bipush 6, 2) := by decide +kernel
theorem d_Model_weight_68 : decode b_Model_weight 68 = .ok (.aload_n 0, 1) := by decide +kernel
theorem d_Model_weight_69 : decode b_Model_weight 69 = .ok (.getfield 62, 3) := by decide +kernel
theorem d_Model_weight_72 : decode b_Model_weight 72 = .ok (.iload_n 1, 1) := by decide +kernel
theorem d_Model_weight_73 : decode b_Model_weight 73 = .ok (.iaload, 1) := by decide +kernel
theorem d_Model_weight_74 : decode b_Model_weight 74 = .ok (.iadd, 1) := by decide +kernel
theorem d_Model_weight_75 : decode b_Model_weight 75 = .ok (.ireturn, 1) := by decide +kernel
theorem v_Model_weight : dk_Yv y_Model_weight b_Model_weight 3 (some .int) 1 := ⟨dk_in (List.mem_of_getElem? (i := 1276) (by decide +kernel)) rfl, dk_in (List.mem_of_getElem? (i := 56) (by decide +kernel)) rfl, dk_in (List.mem_of_getElem? (i := 75) (by decide +kernel)) rfl, dk_in (List.mem_of_getElem? (i := 1277) (by decide +kernel)) rfl, by decide +kernel, by decide +kernel, by decide +kernel⟩
abbrev rm_Model_weight : Room := { frames := 0, cells := 0, slots := 0, locals := 0 }
def B_Model_weight_0 (n : Nat)  (x1 : Int32) (S : dk_S) : Option (Int32 × dk_S) :=
  dk_r 44 (S 19) x1 fun v1 => if ¬ v1 = 0 then (if ¬ v1 = (1 : Int32) then (if ¬ v1 = (2 : Int32) then (if ¬ v1 = (3 : Int32) then (if ¬ v1 = (4 : Int32) then (dk_r 44 (S 23) x1 fun v2 => some (((6 : Int32) + v2), S)) else (some ((4 : Int32), S))) else (dk_r 44 (S 23) x1 fun v3 => some (((10 : Int32) + v3), S))) else (dk_r 44 (S 23) x1 fun v4 => some (((3 : Int32) + v4), S))) else (some ((3 : Int32), S))) else (some ((1 : Int32), S))
set_option maxRecDepth 20000 in
theorem kb_Model_weight_0 {p : Program} {l : Launch} {e : Env} {s : State} {m : MethodId} {args : Array Value} {below : List Frame} {meth : Method} {c : Code} {g : dk_G} {A : Nat → Prop} {Q : State → Prop} {am : Nat → Nat} {n : Nat} {res : (Int32 × dk_S)} (X : dk_X p s m args meth c b_Model_weight 3 R_Model (some .int) g A) (hR : dk_Ri p l e rm_Model_weight s m args below meth c g A Q 3 b_Model_weight (some .int) (wM g am) res)  {x1 : Int32} {S : dk_S}  (hF : B_Model_weight_0 n  x1 S = some res) : dk_J p l e rm_Model_weight s m args below meth c g A Q 3 0 0 0 [(0, .ref (am 0)), (1, .int x1)] [] (wM g am S) := by
  unfold B_Model_weight_0 at hF
  refine dk_aload_n (k := 0) (i := 0) X 0 rfl rfl d_Model_weight_0 ?_
  refine dk_get X q_Model 0 19 (by decide) (oM_Model g am S) rfl f_Model_50 d_Model_weight_1 ?_
  refine dk_iload_n (k := 1) (i := 1) X 1 rfl rfl d_Model_weight_4 ?_
  refine dk_iald X 13 (aM_13 g am S) d_Model_weight_5 hF (fun v1 hF => ?_)
  refine dk_istore_n (k := 2) (i := 2) (lv' := [(2, .int v1), (0, .ref (am 0)), (1, .int x1)]) X rfl (by decide) rfl d_Model_weight_6 ?_
  refine dk_iload_n (k := 2) (i := 2) X 0 rfl rfl d_Model_weight_7 ?_
  refine dk_if_ne (tgt := 15) X (by decide) d_Model_weight_8 hF (fun hF => ?_) (fun hF => ?_)
  · refine dk_iload_n (k := 2) (i := 2) X 0 rfl rfl d_Model_weight_15 ?_
    refine dk_iconst (v := 1) X (by decide) d_Model_weight_16 ?_
    refine dk_icmp_ne (tgt := 24) X (by decide) d_Model_weight_17 hF (fun hF => ?_) (fun hF => ?_)
    · refine dk_iload_n (k := 2) (i := 2) X 0 rfl rfl d_Model_weight_24 ?_
      refine dk_iconst (v := 2) X (by decide) d_Model_weight_25 ?_
      refine dk_icmp_ne (tgt := 40) X (by decide) d_Model_weight_26 hF (fun hF => ?_) (fun hF => ?_)
      · refine dk_iload_n (k := 2) (i := 2) X 0 rfl rfl d_Model_weight_40 ?_
        refine dk_iconst (v := 3) X (by decide) d_Model_weight_41 ?_
        refine dk_icmp_ne (tgt := 57) X (by decide) d_Model_weight_42 hF (fun hF => ?_) (fun hF => ?_)
        · refine dk_iload_n (k := 2) (i := 2) X 0 rfl rfl d_Model_weight_57 ?_
          refine dk_iconst (v := 4) X (by decide) d_Model_weight_58 ?_
          refine dk_icmp_ne (tgt := 66) X (by decide) d_Model_weight_59 hF (fun hF => ?_) (fun hF => ?_)
          · refine dk_bipush (v := 6) X (by decide) d_Model_weight_66 ?_
            refine dk_aload_n (k := 0) (i := 0) X 1 rfl rfl d_Model_weight_68 ?_
            refine dk_get X q_Model 0 23 (by decide) (oM_Model g am S) rfl f_Model_62 d_Model_weight_69 ?_
            refine dk_iload_n (k := 1) (i := 1) X 2 rfl rfl d_Model_weight_72 ?_
            refine dk_iald X 17 (aM_17 g am S) d_Model_weight_73 hF (fun v2 hF => ?_)
            refine dk_iadd X d_Model_weight_74 ?_
            exact dk_reti hR hF d_Model_weight_75
          · refine dk_iconst (v := 4) X (by decide) d_Model_weight_62 ?_
            refine dk_goto (tgt := 75) X (by decide) d_Model_weight_63 ?_
            exact dk_reti hR hF d_Model_weight_75
        · refine dk_bipush (v := 10) X (by decide) d_Model_weight_45 ?_
          refine dk_aload_n (k := 0) (i := 0) X 1 rfl rfl d_Model_weight_47 ?_
          refine dk_get X q_Model 0 23 (by decide) (oM_Model g am S) rfl f_Model_62 d_Model_weight_48 ?_
          refine dk_iload_n (k := 1) (i := 1) X 2 rfl rfl d_Model_weight_51 ?_
          refine dk_iald X 17 (aM_17 g am S) d_Model_weight_52 hF (fun v3 hF => ?_)
          refine dk_iadd X d_Model_weight_53 ?_
          refine dk_goto (tgt := 75) X (by decide) d_Model_weight_54 ?_
          exact dk_reti hR hF d_Model_weight_75
      · refine dk_iconst (v := 3) X (by decide) d_Model_weight_29 ?_
        refine dk_aload_n (k := 0) (i := 0) X 1 rfl rfl d_Model_weight_30 ?_
        refine dk_get X q_Model 0 23 (by decide) (oM_Model g am S) rfl f_Model_62 d_Model_weight_31 ?_
        refine dk_iload_n (k := 1) (i := 1) X 2 rfl rfl d_Model_weight_34 ?_
        refine dk_iald X 17 (aM_17 g am S) d_Model_weight_35 hF (fun v4 hF => ?_)
        refine dk_iadd X d_Model_weight_36 ?_
        refine dk_goto (tgt := 75) X (by decide) d_Model_weight_37 ?_
        exact dk_reti hR hF d_Model_weight_75
    · refine dk_iconst (v := 3) X (by decide) d_Model_weight_20 ?_
      refine dk_goto (tgt := 75) X (by decide) d_Model_weight_21 ?_
      exact dk_reti hR hF d_Model_weight_75
  · refine dk_iconst (v := 1) X (by decide) d_Model_weight_11 ?_
    refine dk_goto (tgt := 75) X (by decide) d_Model_weight_12 ?_
    exact dk_reti hR hF d_Model_weight_75
def F_Model_weight (n : Nat) (x1 : Int32) (S : dk_S) : Option (Int32 × dk_S) := B_Model_weight_0 n x1 S
theorem c_Model_weight (l : Launch) (g : dk_G) (am : Nat → Nat) (n : Nat) (x1 : Int32)  (S : dk_S) : dk_Mi l g y_Model_weight b_Model_weight 3 rm_Model_weight (some .int) [.ref (am 0), .int x1] (wM g am) S (F_Model_weight n x1 S) := dk_enteri (by decide) (Nat.le_of_ble_eq_true rfl) (fun p e s m args below meth c A Q res hF X hR => (kb_Model_weight_0 (n := n) X hR  hF))
abbrev b_Model_worthOf : ByteArray := prog_11_method_42_code
def y_Model_worthOf : MethodName := ⟨R_Model, "worthOf", "(I)I"⟩
theorem d_Model_worthOf_0 : decode b_Model_worthOf 0 = .ok (.aload_n 0, 1) := by decide +kernel
theorem d_Model_worthOf_1 : decode b_Model_worthOf 1 = .ok (.getfield 56, 3) := by decide +kernel
theorem d_Model_worthOf_4 : decode b_Model_worthOf 4 = .ok (.iload_n 1, 1) := by decide +kernel
theorem d_Model_worthOf_5 : decode b_Model_worthOf 5 = .ok (.iaload, 1) := by decide +kernel
theorem d_Model_worthOf_6 : decode b_Model_worthOf 6 = .ok (.istore_n 2, 1) := by decide +kernel
theorem d_Model_worthOf_7 : decode b_Model_worthOf 7 = .ok (.aload_n 0, 1) := by decide +kernel
theorem d_Model_worthOf_8 : decode b_Model_worthOf 8 = .ok (.aload_n 0, 1) := by decide +kernel
theorem d_Model_worthOf_9 : decode b_Model_worthOf 9 = .ok (.getfield 50, 3) := by decide +kernel
theorem d_Model_worthOf_12 : decode b_Model_worthOf 12 = .ok (.iload_n 1, 1) := by decide +kernel
theorem d_Model_worthOf_13 : decode b_Model_worthOf 13 = .ok (.iaload, 1) := by decide +kernel
theorem d_Model_worthOf_14 : decode b_Model_worthOf 14 = .ok (.aload_n 0, 1) := by decide +kernel
theorem d_Model_worthOf_15 : decode b_Model_worthOf 15 = .ok (.getfield 259, 3) := by decide +kernel
theorem d_Model_worthOf_18 : decode b_Model_worthOf 18 = .ok (.aload_n 0, 1) := by decide +kernel
theorem d_Model_worthOf_19 : decode b_Model_worthOf 19 = .ok (.getfield 59, 3) := by decide +kernel
theorem d_Model_worthOf_22 : decode b_Model_worthOf 22 = .ok (.iload_n 1, 1) := by decide +kernel
theorem d_Model_worthOf_23 : decode b_Model_worthOf 23 = .ok (.iaload, 1) := by decide +kernel
theorem d_Model_worthOf_24 : decode b_Model_worthOf 24 = .ok (.isub, 1) := by decide +kernel
theorem d_Model_worthOf_25 : decode b_Model_worthOf 25 = .ok (.aload_n 0, 1) := by decide +kernel
theorem d_Model_worthOf_26 : decode b_Model_worthOf 26 = .ok (.iload_n 1, 1) := by decide +kernel
theorem d_Model_worthOf_27 : decode b_Model_worthOf 27 = .ok (.invokevirtual 268, 3) := by decide +kernel
theorem d_Model_worthOf_30 : decode b_Model_worthOf 30 = .ok (.aload_n 0, 1) := by decide +kernel
theorem d_Model_worthOf_31 : decode b_Model_worthOf 31 = .ok (.getfield 7, 3) := by decide +kernel
theorem d_Model_worthOf_34 : decode b_Model_worthOf 34 = .ok (.aload_n 0, 1) := by decide +kernel
theorem d_Model_worthOf_35 : decode b_Model_worthOf 35 = .ok (.getfield 75, 3) := by decide +kernel
theorem d_Model_worthOf_38 : decode b_Model_worthOf 38 = .ok (.iload_n 2, 1) := by decide +kernel
theorem d_Model_worthOf_39 : decode b_Model_worthOf 39 = .ok (.iaload, 1) := by decide +kernel
theorem d_Model_worthOf_40 : decode b_Model_worthOf 40 = .ok (.iaload, 1) := by decide +kernel
theorem d_Model_worthOf_41 : decode b_Model_worthOf 41 = .ok (.aload_n 0, 1) := by decide +kernel
theorem d_Model_worthOf_42 : decode b_Model_worthOf 42 = .ok (.getfield 53, 3) := by decide +kernel
theorem d_Model_worthOf_45 : decode b_Model_worthOf 45 = .ok (.iload_n 1, 1) := by decide +kernel
theorem d_Model_worthOf_46 : decode b_Model_worthOf 46 = .ok (.iaload, 1) := by decide +kernel
theorem d_Model_worthOf_47 : decode b_Model_worthOf 47 = .ok (.if_icmp .ne 7, 3) := by decide +kernel
theorem d_Model_worthOf_50 : decode b_Model_worthOf 50 = .ok (.iconst 1, 1) := by decide +kernel
theorem d_Model_worthOf_51 : decode b_Model_worthOf 51 = .ok (.goto 4, 3) := by decide +kernel
theorem d_Model_worthOf_54 : decode b_Model_worthOf 54 = .ok (.iconst 0, 1) := by decide +kernel
theorem d_Model_worthOf_55 : decode b_Model_worthOf 55 = .ok (.iload_n 2, 1) := by decide +kernel
theorem d_Model_worthOf_56 : decode b_Model_worthOf 56 = .ok (.aload_n 0, 1) := by decide +kernel
theorem d_Model_worthOf_57 : decode b_Model_worthOf 57 = .ok (.getfield 53, 3) := by decide +kernel
theorem d_Model_worthOf_60 : decode b_Model_worthOf 60 = .ok (.iload_n 1, 1) := by decide +kernel
theorem d_Model_worthOf_61 : decode b_Model_worthOf 61 = .ok (.iaload, 1) := by decide +kernel
theorem d_Model_worthOf_62 : decode b_Model_worthOf 62 = .ok (.invokevirtual 236, 3) := by decide +kernel
theorem d_Model_worthOf_65 : decode b_Model_worthOf 65 = .ok (.aload_n 0, 1) := by decide +kernel
theorem d_Model_worthOf_66 : decode b_Model_worthOf 66 = .ok (.iconst 0, 1) := by decide +kernel
theorem d_Model_worthOf_67 : decode b_Model_worthOf 67 = .ok (.invokevirtual 240, 3) := by decide +kernel
theorem d_Model_worthOf_70 : decode b_Model_worthOf 70 = .ok (.istore_n 3, 1) := by decide +kernel
theorem d_Model_worthOf_71 : decode b_Model_worthOf 71 = .ok (.iload_n 3, 1) := by decide +kernel
theorem d_Model_worthOf_72 : decode b_Model_worthOf 72 = .ok (.ifCond .ge 7, 3) := by decide +kernel
theorem d_Model_worthOf_75 : decode b_Model_worthOf 75 = .ok (.iconst 0, 1) := by decide +kernel
theorem d_Model_worthOf_76 : decode b_Model_worthOf 76 = .ok (.goto 17, 3) := by decide +kernel
theorem d_Model_worthOf_79 : decode b_Model_worthOf 79 = .ok (.iload_n 3, 1) := by decide +kernel
theorem d_Model_worthOf_80 : decode b_Model_worthOf 80 = .ok (.sipush 9999, 3) := by decide +kernel
theorem d_Model_worthOf_83 : decode b_Model_worthOf 83 = .ok (.if_icmp .le 9, 3) := by decide +kernel
theorem d_Model_worthOf_86 : decode b_Model_worthOf 86 = .ok (.sipush 9999, 3) := by decide +kernel
theorem d_Model_worthOf_89 : decode b_Model_worthOf 89 = .ok (.goto 4, 3) := by decide +kernel
theorem d_Model_worthOf_92 : decode b_Model_worthOf 92 = .ok (.iload_n 3, 1) := by decide +kernel
theorem d_Model_worthOf_93 : decode b_Model_worthOf 93 = .ok (.ireturn, 1) := by decide +kernel
theorem v_Model_worthOf : dk_Yv y_Model_worthOf b_Model_worthOf 4 (some .int) 1 := ⟨dk_in (List.mem_of_getElem? (i := 1280) (by decide +kernel)) rfl, dk_in (List.mem_of_getElem? (i := 57) (by decide +kernel)) rfl, dk_in (List.mem_of_getElem? (i := 75) (by decide +kernel)) rfl, dk_in (List.mem_of_getElem? (i := 1281) (by decide +kernel)) rfl, by decide +kernel, by decide +kernel, by decide +kernel⟩
abbrev rm_Model_worthOf : Room := { frames := 2, cells := 0, slots := 0, locals := 46 }
theorem m_Model_268 : Cond.methodLink R_Model 268 y_Model_weight ∈ dk_tb := dk_in (List.mem_of_getElem? (i := 1274) (by decide +kernel)) rfl
def B_Model_worthOf_55 (n : Nat)  (x1 : Int32) (x2 : Int32) (u1 : Int32) (u2 : Int32) (u3 : Int32) (u4 : Int32) (S : dk_S) : Option (Int32 × dk_S) :=
  dk_r 44 (S 20) x1 fun v1 => dk_cv (F_Model_names n u1 u2 u3 u4 x2 v1 S) fun S2 => dk_c (F_Model_worth n (0 : Int32) S2) fun r5 S4 => if 0 ≤ r5 then (if r5 ≤ (9999 : Int32) then (some (r5, S4)) else (some ((9999 : Int32), S4))) else (some ((0 : Int32), S4))
set_option maxRecDepth 20000 in
theorem kb_Model_worthOf_55 {p : Program} {l : Launch} {e : Env} {s : State} {m : MethodId} {args : Array Value} {below : List Frame} {meth : Method} {c : Code} {g : dk_G} {A : Nat → Prop} {Q : State → Prop} {am : Nat → Nat} {n : Nat} {res : (Int32 × dk_S)} (X : dk_X p s m args meth c b_Model_worthOf 4 R_Model (some .int) g A) (hR : dk_Ri p l e rm_Model_worthOf s m args below meth c g A Q 4 b_Model_worthOf (some .int) (wM g am) res)  {x1 : Int32} {x2 : Int32} {u1 : Int32} {u2 : Int32} {u3 : Int32} {u4 : Int32} {S : dk_S}  (hF : B_Model_worthOf_55 n  x1 x2 u1 u2 u3 u4 S = some res) : dk_J p l e rm_Model_worthOf s m args below meth c g A Q 4 0 0 55 [(0, .ref (am 0)), (1, .int x1), (2, .int x2)] [.int u4, .int u3, .int u2, .int u1, .ref (am 0)] (wM g am S) := by
  unfold B_Model_worthOf_55 at hF
  refine dk_iload_n (k := 2) (i := 2) X 2 rfl rfl d_Model_worthOf_55 ?_
  refine dk_aload_n (k := 0) (i := 0) X 0 rfl rfl d_Model_worthOf_56 ?_
  refine dk_get X q_Model 0 20 (by decide) (oM_Model g am S) rfl f_Model_53 d_Model_worthOf_57 ?_
  refine dk_iload_n (k := 1) (i := 1) X 1 rfl rfl d_Model_worthOf_60 ?_
  refine dk_iald X 14 (aM_14 g am S) d_Model_worthOf_61 hF (fun v1 hF => ?_)
  refine dk_callVv X v_Model_names [.int u1, .int u2, .int u3, .int u4, .int x2, .int v1] (c_Model_names l g am n u1 u2 u3 u4 x2 v1 S) 0 (oM_Model g am S) rfl rfl m_Model_236 rfl rfl ⟨rfl, rfl, Nat.le_of_ble_eq_true rfl, Nat.le_of_ble_eq_true rfl, Nat.le_refl _, Nat.le_refl _⟩ (Nat.le_of_ble_eq_true rfl) d_Model_worthOf_62 hF (fun S2 hF => ?_)
  refine dk_aload_n (k := 0) (i := 0) X 0 rfl rfl d_Model_worthOf_65 ?_
  refine dk_iconst (v := 0) X (by decide) d_Model_worthOf_66 ?_
  refine dk_callVi X v_Model_worth [.int (0 : Int32)] (c_Model_worth l g am n (0 : Int32) S2) 0 (oM_Model g am S2) rfl rfl m_Model_240 rfl rfl ⟨rfl, rfl, Nat.le_of_ble_eq_true rfl, Nat.le_of_ble_eq_true rfl, Nat.le_refl _, Nat.le_refl _⟩ (Nat.le_of_ble_eq_true rfl) d_Model_worthOf_67 hF (fun r5 S4 hF => ?_)
  refine dk_istore_n (k := 3) (i := 3) (lv' := [(3, .int r5), (0, .ref (am 0)), (1, .int x1), (2, .int x2)]) X rfl (by decide) rfl d_Model_worthOf_70 ?_
  refine dk_iload_n (k := 3) (i := 3) X 0 rfl rfl d_Model_worthOf_71 ?_
  refine dk_if_ge (tgt := 79) X (by decide) d_Model_worthOf_72 hF (fun hF => ?_) (fun hF => ?_)
  · refine dk_iload_n (k := 3) (i := 3) X 0 rfl rfl d_Model_worthOf_79 ?_
    refine dk_sipush (v := 9999) X (by decide) d_Model_worthOf_80 ?_
    refine dk_icmp_le (tgt := 92) X (by decide) d_Model_worthOf_83 hF (fun hF => ?_) (fun hF => ?_)
    · refine dk_iload_n (k := 3) (i := 3) X 0 rfl rfl d_Model_worthOf_92 ?_
      exact dk_reti hR hF d_Model_worthOf_93
    · refine dk_sipush (v := 9999) X (by decide) d_Model_worthOf_86 ?_
      refine dk_goto (tgt := 93) X (by decide) d_Model_worthOf_89 ?_
      exact dk_reti hR hF d_Model_worthOf_93
  · refine dk_iconst (v := 0) X (by decide) d_Model_worthOf_75 ?_
    refine dk_goto (tgt := 93) X (by decide) d_Model_worthOf_76 ?_
    exact dk_reti hR hF d_Model_worthOf_93
def B_Model_worthOf_0 (n : Nat)  (x1 : Int32) (S : dk_S) : Option (Int32 × dk_S) :=
  dk_r 44 (S 21) x1 fun v6 => dk_r 44 (S 19) x1 fun v7 => dk_r 44 (S 22) x1 fun v8 => dk_c (F_Model_weight n x1 S) fun r10 S9 => dk_r 6 (S9 27) v6 fun v11 => dk_r 8 (S9 1) v11 fun v12 => dk_r 44 (S9 20) x1 fun v13 => if ¬ v12 = v13 then (B_Model_worthOf_55 n  x1 v6 v7 ((S 30 0) - v8) r10 (0 : Int32) S9) else (B_Model_worthOf_55 n  x1 v6 v7 ((S 30 0) - v8) r10 (1 : Int32) S9)
set_option maxRecDepth 20000 in
theorem kb_Model_worthOf_0 {p : Program} {l : Launch} {e : Env} {s : State} {m : MethodId} {args : Array Value} {below : List Frame} {meth : Method} {c : Code} {g : dk_G} {A : Nat → Prop} {Q : State → Prop} {am : Nat → Nat} {n : Nat} {res : (Int32 × dk_S)} (X : dk_X p s m args meth c b_Model_worthOf 4 R_Model (some .int) g A) (hR : dk_Ri p l e rm_Model_worthOf s m args below meth c g A Q 4 b_Model_worthOf (some .int) (wM g am) res)  {x1 : Int32} {S : dk_S}  (hF : B_Model_worthOf_0 n  x1 S = some res) : dk_J p l e rm_Model_worthOf s m args below meth c g A Q 4 0 0 0 [(0, .ref (am 0)), (1, .int x1)] [] (wM g am S) := by
  unfold B_Model_worthOf_0 at hF
  refine dk_aload_n (k := 0) (i := 0) X 0 rfl rfl d_Model_worthOf_0 ?_
  refine dk_get X q_Model 0 21 (by decide) (oM_Model g am S) rfl f_Model_56 d_Model_worthOf_1 ?_
  refine dk_iload_n (k := 1) (i := 1) X 1 rfl rfl d_Model_worthOf_4 ?_
  refine dk_iald X 15 (aM_15 g am S) d_Model_worthOf_5 hF (fun v6 hF => ?_)
  refine dk_istore_n (k := 2) (i := 2) (lv' := [(2, .int v6), (0, .ref (am 0)), (1, .int x1)]) X rfl (by decide) rfl d_Model_worthOf_6 ?_
  refine dk_aload_n (k := 0) (i := 0) X 1 rfl rfl d_Model_worthOf_7 ?_
  refine dk_aload_n (k := 0) (i := 0) X 1 rfl rfl d_Model_worthOf_8 ?_
  refine dk_get X q_Model 0 19 (by decide) (oM_Model g am S) rfl f_Model_50 d_Model_worthOf_9 ?_
  refine dk_iload_n (k := 1) (i := 1) X 2 rfl rfl d_Model_worthOf_12 ?_
  refine dk_iald X 13 (aM_13 g am S) d_Model_worthOf_13 hF (fun v7 hF => ?_)
  refine dk_aload_n (k := 0) (i := 0) X 1 rfl rfl d_Model_worthOf_14 ?_
  refine dk_get X q_Model 0 30 (by decide) (oM_Model g am S) rfl f_Model_259 d_Model_worthOf_15 ?_
  refine dk_aload_n (k := 0) (i := 0) X 1 rfl rfl d_Model_worthOf_18 ?_
  refine dk_get X q_Model 0 22 (by decide) (oM_Model g am S) rfl f_Model_59 d_Model_worthOf_19 ?_
  refine dk_iload_n (k := 1) (i := 1) X 2 rfl rfl d_Model_worthOf_22 ?_
  refine dk_iald X 16 (aM_16 g am S) d_Model_worthOf_23 hF (fun v8 hF => ?_)
  refine dk_isub X d_Model_worthOf_24 ?_
  refine dk_aload_n (k := 0) (i := 0) X 1 rfl rfl d_Model_worthOf_25 ?_
  refine dk_iload_n (k := 1) (i := 1) X 2 rfl rfl d_Model_worthOf_26 ?_
  refine dk_callVi X v_Model_weight [.int x1] (c_Model_weight l g am n x1 S) 0 (oM_Model g am S) rfl rfl m_Model_268 rfl rfl ⟨rfl, rfl, Nat.le_of_ble_eq_true rfl, Nat.le_of_ble_eq_true rfl, Nat.le_refl _, Nat.le_refl _⟩ (Nat.le_of_ble_eq_true rfl) d_Model_worthOf_27 hF (fun r10 S9 hF => ?_)
  refine dk_aload_n (k := 0) (i := 0) X 1 rfl rfl d_Model_worthOf_30 ?_
  refine dk_get X q_Model 0 1 (by decide) (oM_Model g am S9) rfl f_Model_7 d_Model_worthOf_31 ?_
  refine dk_aload_n (k := 0) (i := 0) X 1 rfl rfl d_Model_worthOf_34 ?_
  refine dk_get X q_Model 0 27 (by decide) (oM_Model g am S9) rfl f_Model_75 d_Model_worthOf_35 ?_
  refine dk_iload_n (k := 2) (i := 2) X 0 rfl rfl d_Model_worthOf_38 ?_
  refine dk_iald X 21 (aM_21 g am S9) d_Model_worthOf_39 hF (fun v11 hF => ?_)
  refine dk_iald X 1 (aM_1 g am S9) d_Model_worthOf_40 hF (fun v12 hF => ?_)
  refine dk_aload_n (k := 0) (i := 0) X 1 rfl rfl d_Model_worthOf_41 ?_
  refine dk_get X q_Model 0 20 (by decide) (oM_Model g am S9) rfl f_Model_53 d_Model_worthOf_42 ?_
  refine dk_iload_n (k := 1) (i := 1) X 2 rfl rfl d_Model_worthOf_45 ?_
  refine dk_iald X 14 (aM_14 g am S9) d_Model_worthOf_46 hF (fun v13 hF => ?_)
  refine dk_icmp_ne (tgt := 54) X (by decide) d_Model_worthOf_47 hF (fun hF => ?_) (fun hF => ?_)
  · refine dk_iconst (v := 0) X (by decide) d_Model_worthOf_54 ?_
    exact dk_sub [1, 2, 0] rfl (kb_Model_worthOf_55 (n := n) X hR   hF)
  · refine dk_iconst (v := 1) X (by decide) d_Model_worthOf_50 ?_
    refine dk_goto (tgt := 55) X (by decide) d_Model_worthOf_51 ?_
    exact dk_sub [1, 2, 0] rfl (kb_Model_worthOf_55 (n := n) X hR   hF)
def F_Model_worthOf (n : Nat) (x1 : Int32) (S : dk_S) : Option (Int32 × dk_S) := B_Model_worthOf_0 n x1 S
theorem c_Model_worthOf (l : Launch) (g : dk_G) (am : Nat → Nat) (n : Nat) (x1 : Int32)  (S : dk_S) : dk_Mi l g y_Model_worthOf b_Model_worthOf 4 rm_Model_worthOf (some .int) [.ref (am 0), .int x1] (wM g am) S (F_Model_worthOf n x1 S) := dk_enteri (by decide) (Nat.le_of_ble_eq_true rfl) (fun p e s m args below meth c A Q res hF X hR => (kb_Model_worthOf_0 (n := n) X hR  hF))
abbrev b_Model_claimTold : ByteArray := prog_11_method_46_code
def y_Model_claimTold : MethodName := ⟨R_Model, "claimTold", "(III)I"⟩
theorem d_Model_claimTold_0 : decode b_Model_claimTold 0 = .ok (.iload_n 1, 1) := by decide +kernel
theorem d_Model_claimTold_1 : decode b_Model_claimTold 1 = .ok (.iconst 0, 1) := by decide +kernel
theorem d_Model_claimTold_2 : decode b_Model_claimTold 2 = .ok (.aload_n 0, 1) := by decide +kernel
theorem d_Model_claimTold_3 : decode b_Model_claimTold 3 = .ok (.getfield 151, 3) := by decide +kernel
theorem d_Model_claimTold_6 : decode b_Model_claimTold 6 = .ok (.invokestatic 144, 3) := by decide +kernel
theorem d_Model_claimTold_9 : decode b_Model_claimTold 9 = .ok (.ifCond .ne 6, 3) := by decide +kernel
theorem d_Model_claimTold_12 : decode b_Model_claimTold 12 = .ok (.bipush (-2), 2) := by decide +kernel
theorem d_Model_claimTold_14 : decode b_Model_claimTold 14 = .ok (.ireturn, 1) := by decide +kernel
theorem d_Model_claimTold_15 : decode b_Model_claimTold 15 = .ok (.aload_n 0, 1) := by decide +kernel
theorem d_Model_claimTold_16 : decode b_Model_claimTold 16 = .ok (.iload_n 1, 1) := by decide +kernel
theorem d_Model_claimTold_17 : decode b_Model_claimTold 17 = .ok (.iconst 0, 1) := by decide +kernel
theorem d_Model_claimTold_18 : decode b_Model_claimTold 18 = .ok (.invokevirtual 280, 3) := by decide +kernel
theorem d_Model_claimTold_21 : decode b_Model_claimTold 21 = .ok (.iload_n 2, 1) := by decide +kernel
theorem d_Model_claimTold_22 : decode b_Model_claimTold 22 = .ok (.iconst 0, 1) := by decide +kernel
theorem d_Model_claimTold_23 : decode b_Model_claimTold 23 = .ok (.aload_n 0, 1) := by decide +kernel
theorem d_Model_claimTold_24 : decode b_Model_claimTold 24 = .ok (.getfield 246, 3) := by decide +kernel
theorem d_Model_claimTold_27 : decode b_Model_claimTold 27 = .ok (.iconst 1, 1) := by decide +kernel
theorem d_Model_claimTold_28 : decode b_Model_claimTold 28 = .ok (.isub, 1) := by decide +kernel
theorem d_Model_claimTold_29 : decode b_Model_claimTold 29 = .ok (.invokestatic 144, 3) := by decide +kernel
theorem d_Model_claimTold_32 : decode b_Model_claimTold 32 = .ok (.ifCond .ne 6, 3) := by decide +kernel
theorem d_Model_claimTold_35 : decode b_Model_claimTold 35 = .ok (.bipush (-5), 2) := by decide +kernel
theorem d_Model_claimTold_37 : decode b_Model_claimTold 37 = .ok (.ireturn, 1) := by decide +kernel
theorem d_Model_claimTold_38 : decode b_Model_claimTold 38 = .ok (.iload_n 3, 1) := by decide +kernel
theorem d_Model_claimTold_39 : decode b_Model_claimTold 39 = .ok (.tableswitch 106 0 7 #[45, 52, 59, 66, 73, 80, 94, 100], 45) := by decide +kernel
theorem d_Model_claimTold_84 : decode b_Model_claimTold 84 = .ok (.aload_n 0, 1) := by decide +kernel
theorem d_Model_claimTold_85 : decode b_Model_claimTold 85 = .ok (.getfield 50, 3) := by decide +kernel
theorem d_Model_claimTold_88 : decode b_Model_claimTold 88 = .ok (.iload_n 2, 1) := by decide +kernel
theorem d_Model_claimTold_89 : decode b_Model_claimTold 89 = .ok (.iaload, 1) := by decide +kernel
theorem d_Model_claimTold_90 : decode b_Model_claimTold 90 = .ok (.ireturn, 1) := by decide +kernel
theorem d_Model_claimTold_91 : decode b_Model_claimTold 91 = .ok (.aload_n 0, 1) := by decide +kernel
theorem d_Model_claimTold_92 : decode b_Model_claimTold 92 = .ok (.getfield 53, 3) := by decide +kernel
theorem d_Model_claimTold_95 : decode b_Model_claimTold 95 = .ok (.iload_n 2, 1) := by decide +kernel
theorem d_Model_claimTold_96 : decode b_Model_claimTold 96 = .ok (.iaload, 1) := by decide +kernel
theorem d_Model_claimTold_97 : decode b_Model_claimTold 97 = .ok (.ireturn, 1) := by decide +kernel
theorem d_Model_claimTold_98 : decode b_Model_claimTold 98 = .ok (.aload_n 0, 1) := by decide +kernel
theorem d_Model_claimTold_99 : decode b_Model_claimTold 99 = .ok (.getfield 56, 3) := by decide +kernel
theorem d_Model_claimTold_102 : decode b_Model_claimTold 102 = .ok (.iload_n 2, 1) := by decide +kernel
theorem d_Model_claimTold_103 : decode b_Model_claimTold 103 = .ok (.iaload, 1) := by decide +kernel
theorem d_Model_claimTold_104 : decode b_Model_claimTold 104 = .ok (.ireturn, 1) := by decide +kernel
theorem d_Model_claimTold_105 : decode b_Model_claimTold 105 = .ok (.aload_n 0, 1) := by decide +kernel
theorem d_Model_claimTold_106 : decode b_Model_claimTold 106 = .ok (.getfield 59, 3) := by decide +kernel
theorem d_Model_claimTold_109 : decode b_Model_claimTold 109 = .ok (.iload_n 2, 1) := by decide +kernel
theorem d_Model_claimTold_110 : decode b_Model_claimTold 110 = .ok (.iaload, 1) := by decide +kernel
theorem d_Model_claimTold_111 : decode b_Model_claimTold 111 = .ok (.ireturn, 1) := by decide +kernel
theorem d_Model_claimTold_112 : decode b_Model_claimTold 112 = .ok (.aload_n 0, 1) := by decide +kernel
theorem d_Model_claimTold_113 : decode b_Model_claimTold 113 = .ok (.getfield 62, 3) := by decide +kernel
theorem d_Model_claimTold_116 : decode b_Model_claimTold 116 = .ok (.iload_n 2, 1) := by decide +kernel
theorem d_Model_claimTold_117 : decode b_Model_claimTold 117 = .ok (.iaload, 1) := by decide +kernel
theorem d_Model_claimTold_118 : decode b_Model_claimTold 118 = .ok (.ireturn, 1) := by decide +kernel
theorem d_Model_claimTold_119 : decode b_Model_claimTold 119 = .ok (.aload_n 0, 1) := by decide +kernel
theorem d_Model_claimTold_120 : decode b_Model_claimTold 120 = .ok (.iload_n 2, 1) := by decide +kernel
theorem d_Model_claimTold_121 : decode b_Model_claimTold 121 = .ok (.invokevirtual 271, 3) := by decide +kernel
theorem d_Model_claimTold_124 : decode b_Model_claimTold 124 = .ok (.ifCond .eq 7, 3) := by decide +kernel
theorem d_Model_claimTold_127 : decode b_Model_claimTold 127 = .ok (.iconst 1, 1) := by decide +kernel
theorem d_Model_claimTold_128 : decode b_Model_claimTold 128 = .ok (.goto 4, 3) := by decide +kernel
theorem d_Model_claimTold_131 : decode b_Model_claimTold 131 = .ok (.iconst 0, 1) := by decide +kernel
theorem d_Model_claimTold_132 : decode b_Model_claimTold 132 = .ok (.ireturn, 1) := by decide +kernel
theorem d_Model_claimTold_133 : decode b_Model_claimTold 133 = .ok (.aload_n 0, 1) := by decide +kernel
theorem d_Model_claimTold_134 : decode b_Model_claimTold 134 = .ok (.iload_n 2, 1) := by decide +kernel
theorem d_Model_claimTold_135 : decode b_Model_claimTold 135 = .ok (.invokevirtual 268, 3) := by decide +kernel
theorem d_Model_claimTold_138 : decode b_Model_claimTold 138 = .ok (.ireturn, 1) := by decide +kernel
theorem d_Model_claimTold_139 : decode b_Model_claimTold 139 = .ok (.aload_n 0, 1) := by decide +kernel
theorem d_Model_claimTold_140 : decode b_Model_claimTold 140 = .ok (.iload_n 2, 1) := by decide +kernel
theorem d_Model_claimTold_141 : decode b_Model_claimTold 141 = .ok (.invokevirtual 274, 3) := by decide +kernel
theorem d_Model_claimTold_144 : decode b_Model_claimTold 144 = .ok (.ireturn, 1) := by decide +kernel
theorem d_Model_claimTold_145 : decode b_Model_claimTold 145 = .ok (.bipush (-7), 2) := by decide +kernel
theorem d_Model_claimTold_147 : decode b_Model_claimTold 147 = .ok (.ireturn, 1) := by decide +kernel
theorem v_Model_claimTold : dk_Yv y_Model_claimTold b_Model_claimTold 4 (some .int) 3 := ⟨dk_in (List.mem_of_getElem? (i := 1263) (by decide +kernel)) rfl, dk_in (List.mem_of_getElem? (i := 1264) (by decide +kernel)) rfl, dk_in (List.mem_of_getElem? (i := 75) (by decide +kernel)) rfl, dk_in (List.mem_of_getElem? (i := 1265) (by decide +kernel)) rfl, by decide +kernel, by decide +kernel, by decide +kernel⟩
abbrev rm_Model_claimTold : Room := { frames := 4, cells := 0, slots := 0, locals := 98 }
theorem m_Model_271 : Cond.methodLink R_Model 271 y_Model_stands ∈ dk_tb := dk_in (List.mem_of_getElem? (i := 1266) (by decide +kernel)) rfl
theorem m_Model_274 : Cond.methodLink R_Model 274 y_Model_worthOf ∈ dk_tb := dk_in (List.mem_of_getElem? (i := 1278) (by decide +kernel)) rfl
def B_Model_claimTold_0 (n : Nat)  (x1 : Int32) (x2 : Int32) (x3 : Int32) (S : dk_S) : Option (Int32 × dk_S) :=
  dk_c (F_Model_in n x1 (0 : Int32) (S 5 0) S) fun r2 S1 => if ¬ r2 = 0 then (dk_cv (F_Model_works n x1 (0 : Int32) S1) fun S3 => dk_c (F_Model_in n x2 (0 : Int32) ((S3 18 0) - (1 : Int32)) S3) fun r6 S5 => if ¬ r6 = 0 then (if x3 = (0 : Int32) then (dk_r 44 (S5 19) x2 fun v7 => some (v7, S5)) else (if x3 = (1 : Int32) then (dk_r 44 (S5 20) x2 fun v8 => some (v8, S5)) else (if x3 = (2 : Int32) then (dk_r 44 (S5 21) x2 fun v9 => some (v9, S5)) else (if x3 = (3 : Int32) then (dk_r 44 (S5 22) x2 fun v10 => some (v10, S5)) else (if x3 = (4 : Int32) then (dk_r 44 (S5 23) x2 fun v11 => some (v11, S5)) else (if x3 = (5 : Int32) then (dk_c (F_Model_stands n x2 S5) fun r13 S12 => if r13 = 0 then (some ((0 : Int32), S12)) else (some ((1 : Int32), S12))) else (if x3 = (6 : Int32) then (dk_c (F_Model_weight n x2 S5) fun r15 S14 => some (r15, S14)) else (if x3 = (7 : Int32) then (dk_c (F_Model_worthOf n x2 S5) fun r17 S16 => some (r17, S16)) else (some ((-7 : Int32), S5)))))))))) else (some ((-5 : Int32), S5))) else (some ((-2 : Int32), S1))
set_option maxRecDepth 20000 in
theorem kb_Model_claimTold_0 {p : Program} {l : Launch} {e : Env} {s : State} {m : MethodId} {args : Array Value} {below : List Frame} {meth : Method} {c : Code} {g : dk_G} {A : Nat → Prop} {Q : State → Prop} {am : Nat → Nat} {n : Nat} {res : (Int32 × dk_S)} (X : dk_X p s m args meth c b_Model_claimTold 4 R_Model (some .int) g A) (hR : dk_Ri p l e rm_Model_claimTold s m args below meth c g A Q 4 b_Model_claimTold (some .int) (wM g am) res)  {x1 : Int32} {x2 : Int32} {x3 : Int32} {S : dk_S}  (hF : B_Model_claimTold_0 n  x1 x2 x3 S = some res) : dk_J p l e rm_Model_claimTold s m args below meth c g A Q 4 0 0 0 [(0, .ref (am 0)), (1, .int x1), (2, .int x2), (3, .int x3)] [] (wM g am S) := by
  unfold B_Model_claimTold_0 at hF
  refine dk_iload_n (k := 1) (i := 1) X 1 rfl rfl d_Model_claimTold_0 ?_
  refine dk_iconst (v := 0) X (by decide) d_Model_claimTold_1 ?_
  refine dk_aload_n (k := 0) (i := 0) X 0 rfl rfl d_Model_claimTold_2 ?_
  refine dk_get X q_Model 0 5 (by decide) (oM_Model g am S) rfl f_Model_151 d_Model_claimTold_3 ?_
  refine dk_callSi X v_Model_in [.int x1, .int (0 : Int32), .int (S 5 0)] (c_Model_in l g am n x1 (0 : Int32) (S 5 0) S) m_Model_144 rfl rfl ⟨rfl, rfl, Nat.le_of_ble_eq_true rfl, Nat.le_of_ble_eq_true rfl, Nat.le_refl _, Nat.le_refl _⟩ (Nat.le_of_ble_eq_true rfl) d_Model_claimTold_6 hF (fun r2 S1 hF => ?_)
  refine dk_if_ne (tgt := 15) X (by decide) d_Model_claimTold_9 hF (fun hF => ?_) (fun hF => ?_)
  · refine dk_aload_n (k := 0) (i := 0) X 0 rfl rfl d_Model_claimTold_15 ?_
    refine dk_iload_n (k := 1) (i := 1) X 1 rfl rfl d_Model_claimTold_16 ?_
    refine dk_iconst (v := 0) X (by decide) d_Model_claimTold_17 ?_
    refine dk_callVv X v_Model_works [.int x1, .int (0 : Int32)] (c_Model_works l g am n x1 (0 : Int32) S1) 0 (oM_Model g am S1) rfl rfl m_Model_280 rfl rfl ⟨rfl, rfl, Nat.le_of_ble_eq_true rfl, Nat.le_of_ble_eq_true rfl, Nat.le_refl _, Nat.le_refl _⟩ (Nat.le_of_ble_eq_true rfl) d_Model_claimTold_18 hF (fun S3 hF => ?_)
    refine dk_iload_n (k := 2) (i := 2) X 2 rfl rfl d_Model_claimTold_21 ?_
    refine dk_iconst (v := 0) X (by decide) d_Model_claimTold_22 ?_
    refine dk_aload_n (k := 0) (i := 0) X 0 rfl rfl d_Model_claimTold_23 ?_
    refine dk_get X q_Model 0 18 (by decide) (oM_Model g am S3) rfl f_Model_246 d_Model_claimTold_24 ?_
    refine dk_iconst (v := 1) X (by decide) d_Model_claimTold_27 ?_
    refine dk_isub X d_Model_claimTold_28 ?_
    refine dk_callSi X v_Model_in [.int x2, .int (0 : Int32), .int ((S3 18 0) - (1 : Int32))] (c_Model_in l g am n x2 (0 : Int32) ((S3 18 0) - (1 : Int32)) S3) m_Model_144 rfl rfl ⟨rfl, rfl, Nat.le_of_ble_eq_true rfl, Nat.le_of_ble_eq_true rfl, Nat.le_refl _, Nat.le_refl _⟩ (Nat.le_of_ble_eq_true rfl) d_Model_claimTold_29 hF (fun r6 S5 hF => ?_)
    refine dk_if_ne (tgt := 38) X (by decide) d_Model_claimTold_32 hF (fun hF => ?_) (fun hF => ?_)
    · refine dk_iload_n (k := 3) (i := 3) X 3 rfl rfl d_Model_claimTold_38 ?_
      refine dk_if hF (fun hc0 hF => ?_) (fun hc0 hF => ?_)
      · refine dk_tsIn (v := 0) (tgt := 84) X d_Model_claimTold_39 (by rw [hc0]; decide) (by decide) (by decide) rfl (by decide) ?_
        refine dk_aload_n (k := 0) (i := 0) X 0 rfl rfl d_Model_claimTold_84 ?_
        refine dk_get X q_Model 0 19 (by decide) (oM_Model g am S5) rfl f_Model_50 d_Model_claimTold_85 ?_
        refine dk_iload_n (k := 2) (i := 2) X 2 rfl rfl d_Model_claimTold_88 ?_
        refine dk_iald X 13 (aM_13 g am S5) d_Model_claimTold_89 hF (fun v7 hF => ?_)
        exact dk_reti hR hF d_Model_claimTold_90
      · refine dk_if hF (fun hc1 hF => ?_) (fun hc1 hF => ?_)
        · refine dk_tsIn (v := 1) (tgt := 91) X d_Model_claimTold_39 (by rw [hc1]; decide) (by decide) (by decide) rfl (by decide) ?_
          refine dk_aload_n (k := 0) (i := 0) X 0 rfl rfl d_Model_claimTold_91 ?_
          refine dk_get X q_Model 0 20 (by decide) (oM_Model g am S5) rfl f_Model_53 d_Model_claimTold_92 ?_
          refine dk_iload_n (k := 2) (i := 2) X 2 rfl rfl d_Model_claimTold_95 ?_
          refine dk_iald X 14 (aM_14 g am S5) d_Model_claimTold_96 hF (fun v8 hF => ?_)
          exact dk_reti hR hF d_Model_claimTold_97
        · refine dk_if hF (fun hc2 hF => ?_) (fun hc2 hF => ?_)
          · refine dk_tsIn (v := 2) (tgt := 98) X d_Model_claimTold_39 (by rw [hc2]; decide) (by decide) (by decide) rfl (by decide) ?_
            refine dk_aload_n (k := 0) (i := 0) X 0 rfl rfl d_Model_claimTold_98 ?_
            refine dk_get X q_Model 0 21 (by decide) (oM_Model g am S5) rfl f_Model_56 d_Model_claimTold_99 ?_
            refine dk_iload_n (k := 2) (i := 2) X 2 rfl rfl d_Model_claimTold_102 ?_
            refine dk_iald X 15 (aM_15 g am S5) d_Model_claimTold_103 hF (fun v9 hF => ?_)
            exact dk_reti hR hF d_Model_claimTold_104
          · refine dk_if hF (fun hc3 hF => ?_) (fun hc3 hF => ?_)
            · refine dk_tsIn (v := 3) (tgt := 105) X d_Model_claimTold_39 (by rw [hc3]; decide) (by decide) (by decide) rfl (by decide) ?_
              refine dk_aload_n (k := 0) (i := 0) X 0 rfl rfl d_Model_claimTold_105 ?_
              refine dk_get X q_Model 0 22 (by decide) (oM_Model g am S5) rfl f_Model_59 d_Model_claimTold_106 ?_
              refine dk_iload_n (k := 2) (i := 2) X 2 rfl rfl d_Model_claimTold_109 ?_
              refine dk_iald X 16 (aM_16 g am S5) d_Model_claimTold_110 hF (fun v10 hF => ?_)
              exact dk_reti hR hF d_Model_claimTold_111
            · refine dk_if hF (fun hc4 hF => ?_) (fun hc4 hF => ?_)
              · refine dk_tsIn (v := 4) (tgt := 112) X d_Model_claimTold_39 (by rw [hc4]; decide) (by decide) (by decide) rfl (by decide) ?_
                refine dk_aload_n (k := 0) (i := 0) X 0 rfl rfl d_Model_claimTold_112 ?_
                refine dk_get X q_Model 0 23 (by decide) (oM_Model g am S5) rfl f_Model_62 d_Model_claimTold_113 ?_
                refine dk_iload_n (k := 2) (i := 2) X 2 rfl rfl d_Model_claimTold_116 ?_
                refine dk_iald X 17 (aM_17 g am S5) d_Model_claimTold_117 hF (fun v11 hF => ?_)
                exact dk_reti hR hF d_Model_claimTold_118
              · refine dk_if hF (fun hc5 hF => ?_) (fun hc5 hF => ?_)
                · refine dk_tsIn (v := 5) (tgt := 119) X d_Model_claimTold_39 (by rw [hc5]; decide) (by decide) (by decide) rfl (by decide) ?_
                  refine dk_aload_n (k := 0) (i := 0) X 0 rfl rfl d_Model_claimTold_119 ?_
                  refine dk_iload_n (k := 2) (i := 2) X 2 rfl rfl d_Model_claimTold_120 ?_
                  refine dk_callVi X v_Model_stands [.int x2] (c_Model_stands l g am n x2 S5) 0 (oM_Model g am S5) rfl rfl m_Model_271 rfl rfl ⟨rfl, rfl, Nat.le_of_ble_eq_true rfl, Nat.le_of_ble_eq_true rfl, Nat.le_refl _, Nat.le_refl _⟩ (Nat.le_of_ble_eq_true rfl) d_Model_claimTold_121 hF (fun r13 S12 hF => ?_)
                  refine dk_if_eq (tgt := 131) X (by decide) d_Model_claimTold_124 hF (fun hF => ?_) (fun hF => ?_)
                  · refine dk_iconst (v := 0) X (by decide) d_Model_claimTold_131 ?_
                    exact dk_reti hR hF d_Model_claimTold_132
                  · refine dk_iconst (v := 1) X (by decide) d_Model_claimTold_127 ?_
                    refine dk_goto (tgt := 132) X (by decide) d_Model_claimTold_128 ?_
                    exact dk_reti hR hF d_Model_claimTold_132
                · refine dk_if hF (fun hc6 hF => ?_) (fun hc6 hF => ?_)
                  · refine dk_tsIn (v := 6) (tgt := 133) X d_Model_claimTold_39 (by rw [hc6]; decide) (by decide) (by decide) rfl (by decide) ?_
                    refine dk_aload_n (k := 0) (i := 0) X 0 rfl rfl d_Model_claimTold_133 ?_
                    refine dk_iload_n (k := 2) (i := 2) X 2 rfl rfl d_Model_claimTold_134 ?_
                    refine dk_callVi X v_Model_weight [.int x2] (c_Model_weight l g am n x2 S5) 0 (oM_Model g am S5) rfl rfl m_Model_268 rfl rfl ⟨rfl, rfl, Nat.le_of_ble_eq_true rfl, Nat.le_of_ble_eq_true rfl, Nat.le_refl _, Nat.le_refl _⟩ (Nat.le_of_ble_eq_true rfl) d_Model_claimTold_135 hF (fun r15 S14 hF => ?_)
                    exact dk_reti hR hF d_Model_claimTold_138
                  · refine dk_if hF (fun hc7 hF => ?_) (fun hc7 hF => ?_)
                    · refine dk_tsIn (v := 7) (tgt := 139) X d_Model_claimTold_39 (by rw [hc7]; decide) (by decide) (by decide) rfl (by decide) ?_
                      refine dk_aload_n (k := 0) (i := 0) X 0 rfl rfl d_Model_claimTold_139 ?_
                      refine dk_iload_n (k := 2) (i := 2) X 2 rfl rfl d_Model_claimTold_140 ?_
                      refine dk_callVi X v_Model_worthOf [.int x2] (c_Model_worthOf l g am n x2 S5) 0 (oM_Model g am S5) rfl rfl m_Model_274 rfl rfl ⟨rfl, rfl, Nat.le_of_ble_eq_true rfl, Nat.le_of_ble_eq_true rfl, Nat.le_refl _, Nat.le_refl _⟩ (Nat.le_of_ble_eq_true rfl) d_Model_claimTold_141 hF (fun r17 S16 hF => ?_)
                      exact dk_reti hR hF d_Model_claimTold_144
                    · refine dk_tsOut (tgt := 145) X d_Model_claimTold_39 (by have e0 := lv_neT hc0 (a := 0) (by decide); have e1 := lv_neT hc1 (a := 1) (by decide); have e2 := lv_neT hc2 (a := 2) (by decide); have e3 := lv_neT hc3 (a := 3) (by decide); have e4 := lv_neT hc4 (a := 4) (by decide); have e5 := lv_neT hc5 (a := 5) (by decide); have e6 := lv_neT hc6 (a := 6) (by decide); have e7 := lv_neT hc7 (a := 7) (by decide); omega) (by decide) ?_
                      refine dk_bipush (v := -7) X (by decide) d_Model_claimTold_145 ?_
                      exact dk_reti hR hF d_Model_claimTold_147
    · refine dk_bipush (v := -5) X (by decide) d_Model_claimTold_35 ?_
      exact dk_reti hR hF d_Model_claimTold_37
  · refine dk_bipush (v := -2) X (by decide) d_Model_claimTold_12 ?_
    exact dk_reti hR hF d_Model_claimTold_14
def F_Model_claimTold (n : Nat) (x1 : Int32) (x2 : Int32) (x3 : Int32) (S : dk_S) : Option (Int32 × dk_S) := B_Model_claimTold_0 n x1 x2 x3 S
theorem c_Model_claimTold (l : Launch) (g : dk_G) (am : Nat → Nat) (n : Nat) (x1 : Int32) (x2 : Int32) (x3 : Int32)  (S : dk_S) : dk_Mi l g y_Model_claimTold b_Model_claimTold 4 rm_Model_claimTold (some .int) [.ref (am 0), .int x1, .int x2, .int x3] (wM g am) S (F_Model_claimTold n x1 x2 x3 S) := dk_enteri (by decide) (Nat.le_of_ble_eq_true rfl) (fun p e s m args below meth c A Q res hF X hR => (kb_Model_claimTold_0 (n := n) X hR  hF))
abbrev b_Model_winner : ByteArray := prog_11_method_43_code
def y_Model_winner : MethodName := ⟨R_Model, "winner", "(I)I"⟩
theorem d_Model_winner_0 : decode b_Model_winner 0 = .ok (.iconst (-1), 1) := by decide +kernel
theorem d_Model_winner_1 : decode b_Model_winner 1 = .ok (.istore_n 2, 1) := by decide +kernel
theorem d_Model_winner_2 : decode b_Model_winner 2 = .ok (.iconst 0, 1) := by decide +kernel
theorem d_Model_winner_3 : decode b_Model_winner 3 = .ok (.istore_n 3, 1) := by decide +kernel
theorem d_Model_winner_4 : decode b_Model_winner 4 = .ok (.iconst 0, 1) := by decide +kernel
theorem d_Model_winner_5 : decode b_Model_winner 5 = .ok (.istore 4, 2) := by decide +kernel
theorem d_Model_winner_7 : decode b_Model_winner 7 = .ok (.iload 4, 2) := by decide +kernel
theorem d_Model_winner_9 : decode b_Model_winner 9 = .ok (.aload_n 0, 1) := by decide +kernel
theorem d_Model_winner_10 : decode b_Model_winner 10 = .ok (.getfield 246, 3) := by decide +kernel
theorem d_Model_winner_13 : decode b_Model_winner 13 = .ok (.if_icmp .ge 63, 3) := by decide +kernel
theorem d_Model_winner_16 : decode b_Model_winner 16 = .ok (.aload_n 0, 1) := by decide +kernel
theorem d_Model_winner_17 : decode b_Model_winner 17 = .ok (.getfield 56, 3) := by decide +kernel
theorem d_Model_winner_20 : decode b_Model_winner 20 = .ok (.iload 4, 2) := by decide +kernel
theorem d_Model_winner_22 : decode b_Model_winner 22 = .ok (.iaload, 1) := by decide +kernel
theorem d_Model_winner_23 : decode b_Model_winner 23 = .ok (.iload_n 1, 1) := by decide +kernel
theorem d_Model_winner_24 : decode b_Model_winner 24 = .ok (.if_icmp .ne 46, 3) := by decide +kernel
theorem d_Model_winner_27 : decode b_Model_winner 27 = .ok (.aload_n 0, 1) := by decide +kernel
theorem d_Model_winner_28 : decode b_Model_winner 28 = .ok (.iload 4, 2) := by decide +kernel
theorem d_Model_winner_30 : decode b_Model_winner 30 = .ok (.invokevirtual 271, 3) := by decide +kernel
theorem d_Model_winner_33 : decode b_Model_winner 33 = .ok (.ifCond .eq 37, 3) := by decide +kernel
theorem d_Model_winner_36 : decode b_Model_winner 36 = .ok (.aload_n 0, 1) := by decide +kernel
theorem d_Model_winner_37 : decode b_Model_winner 37 = .ok (.iload 4, 2) := by decide +kernel
theorem d_Model_winner_39 : decode b_Model_winner 39 = .ok (.invokevirtual 274, 3) := by decide +kernel
theorem d_Model_winner_42 : decode b_Model_winner 42 = .ok (.istore 5, 2) := by decide +kernel
theorem d_Model_winner_44 : decode b_Model_winner 44 = .ok (.iload 5, 2) := by decide +kernel
theorem d_Model_winner_46 : decode b_Model_winner 46 = .ok (.iload_n 3, 1) := by decide +kernel
theorem d_Model_winner_47 : decode b_Model_winner 47 = .ok (.if_icmp .le 8, 3) := by decide +kernel
theorem d_Model_winner_50 : decode b_Model_winner 50 = .ok (.iload 4, 2) := by decide +kernel
theorem d_Model_winner_52 : decode b_Model_winner 52 = .ok (.goto 4, 3) := by decide +kernel
theorem d_Model_winner_55 : decode b_Model_winner 55 = .ok (.iload_n 2, 1) := by decide +kernel
theorem d_Model_winner_56 : decode b_Model_winner 56 = .ok (.istore_n 2, 1) := by decide +kernel
theorem d_Model_winner_57 : decode b_Model_winner 57 = .ok (.iload 5, 2) := by decide +kernel
theorem d_Model_winner_59 : decode b_Model_winner 59 = .ok (.iload_n 3, 1) := by decide +kernel
theorem d_Model_winner_60 : decode b_Model_winner 60 = .ok (.if_icmp .le 8, 3) := by decide +kernel
theorem d_Model_winner_63 : decode b_Model_winner 63 = .ok (.iload 5, 2) := by decide +kernel
theorem d_Model_winner_65 : decode b_Model_winner 65 = .ok (.goto 4, 3) := by decide +kernel
theorem d_Model_winner_68 : decode b_Model_winner 68 = .ok (.iload_n 3, 1) := by decide +kernel
theorem d_Model_winner_69 : decode b_Model_winner 69 = .ok (.istore_n 3, 1) := by decide +kernel
theorem d_Model_winner_70 : decode b_Model_winner 70 = .ok (.iinc 4 1, 3) := by decide +kernel
theorem d_Model_winner_73 : decode b_Model_winner 73 = .ok (.goto (-66), 3) := by decide +kernel
theorem d_Model_winner_76 : decode b_Model_winner 76 = .ok (.iload_n 2, 1) := by decide +kernel
theorem d_Model_winner_77 : decode b_Model_winner 77 = .ok (.ireturn, 1) := by decide +kernel
theorem v_Model_winner : dk_Yv y_Model_winner b_Model_winner 6 (some .int) 1 := ⟨dk_in (List.mem_of_getElem? (i := 1292) (by decide +kernel)) rfl, dk_in (List.mem_of_getElem? (i := 59) (by decide +kernel)) rfl, dk_in (List.mem_of_getElem? (i := 75) (by decide +kernel)) rfl, dk_in (List.mem_of_getElem? (i := 1293) (by decide +kernel)) rfl, by decide +kernel, by decide +kernel, by decide +kernel⟩
abbrev rm_Model_winner : Room := { frames := 4, cells := 0, slots := 0, locals := 91 }
def B_Model_winner_70 (n : Nat) (k7 : Int32 → Int32 → Int32 → Int32 → dk_S → Option (Int32 × dk_S)) (x1 : Int32) (x2 : Int32) (x3 : Int32) (x4 : Int32) (S : dk_S) : Option (Int32 × dk_S) :=
  k7 x1 x2 x3 (x4 + (1 : Int32)) S
set_option maxRecDepth 20000 in
theorem kb_Model_winner_70 {p : Program} {l : Launch} {e : Env} {s : State} {m : MethodId} {args : Array Value} {below : List Frame} {meth : Method} {c : Code} {g : dk_G} {A : Nat → Prop} {Q : State → Prop} {am : Nat → Nat} {n : Nat} {res : (Int32 × dk_S)} (X : dk_X p s m args meth c b_Model_winner 6 R_Model (some .int) g A) (hR : dk_Ri p l e rm_Model_winner s m args below meth c g A Q 6 b_Model_winner (some .int) (wM g am) res) {k7 : Int32 → Int32 → Int32 → Int32 → dk_S → Option (Int32 × dk_S)} (hk7 : ∀ (x1 : Int32) (x2 : Int32) (x3 : Int32) (x4 : Int32)  (S : dk_S), k7 x1 x2 x3 x4 S = some res → dk_J p l e rm_Model_winner s m args below meth c g A Q 6 0 0 7 [(0, .ref (am 0)), (1, .int x1), (2, .int x2), (3, .int x3), (4, .int x4)] [] (wM g am S)) {x1 : Int32} {x2 : Int32} {x3 : Int32} {x4 : Int32} {S : dk_S}  (hF : B_Model_winner_70 n k7 x1 x2 x3 x4 S = some res) : dk_J p l e rm_Model_winner s m args below meth c g A Q 6 0 0 70 [(0, .ref (am 0)), (1, .int x1), (2, .int x2), (3, .int x3), (4, .int x4)] [] (wM g am S) := by
  unfold B_Model_winner_70 at hF
  refine dk_iinc (i := 4) (v := (x4 + (1 : Int32))) (lv' := [(4, .int (x4 + (1 : Int32))), (0, .ref (am 0)), (1, .int x1), (2, .int x2), (3, .int x3)]) X 4 rfl (dk_ii _ (by decide)) (by decide) rfl d_Model_winner_70 ?_
  refine dk_goto (tgt := 7) X (by decide) d_Model_winner_73 ?_
  exact dk_sub [1, 2, 3, 4, 0] rfl (hk7 x1 x2 x3 (x4 + (1 : Int32)) S hF)
def B_Model_winner_69 (n : Nat) (k7 : Int32 → Int32 → Int32 → Int32 → dk_S → Option (Int32 × dk_S)) (x1 : Int32) (x2 : Int32) (x4 : Int32) (u0 : Int32) (S : dk_S) : Option (Int32 × dk_S) :=
  B_Model_winner_70 n k7 x1 x2 u0 x4 S
set_option maxRecDepth 20000 in
theorem kb_Model_winner_69 {p : Program} {l : Launch} {e : Env} {s : State} {m : MethodId} {args : Array Value} {below : List Frame} {meth : Method} {c : Code} {g : dk_G} {A : Nat → Prop} {Q : State → Prop} {am : Nat → Nat} {n : Nat} {res : (Int32 × dk_S)} (X : dk_X p s m args meth c b_Model_winner 6 R_Model (some .int) g A) (hR : dk_Ri p l e rm_Model_winner s m args below meth c g A Q 6 b_Model_winner (some .int) (wM g am) res) {k7 : Int32 → Int32 → Int32 → Int32 → dk_S → Option (Int32 × dk_S)} (hk7 : ∀ (x1 : Int32) (x2 : Int32) (x3 : Int32) (x4 : Int32)  (S : dk_S), k7 x1 x2 x3 x4 S = some res → dk_J p l e rm_Model_winner s m args below meth c g A Q 6 0 0 7 [(0, .ref (am 0)), (1, .int x1), (2, .int x2), (3, .int x3), (4, .int x4)] [] (wM g am S)) {x1 : Int32} {x2 : Int32} {x4 : Int32} {u0 : Int32} {S : dk_S}  (hF : B_Model_winner_69 n k7 x1 x2 x4 u0 S = some res) : dk_J p l e rm_Model_winner s m args below meth c g A Q 6 0 0 69 [(0, .ref (am 0)), (1, .int x1), (2, .int x2), (4, .int x4)] [.int u0] (wM g am S) := by
  unfold B_Model_winner_69 at hF
  refine dk_istore_n (k := 3) (i := 3) (lv' := [(3, .int u0), (0, .ref (am 0)), (1, .int x1), (2, .int x2), (4, .int x4)]) X rfl (by decide) rfl d_Model_winner_69 ?_
  exact dk_sub [1, 2, 3, 0, 4] rfl (kb_Model_winner_70 (n := n) X hR hk7  hF)
def B_Model_winner_56 (n : Nat) (k7 : Int32 → Int32 → Int32 → Int32 → dk_S → Option (Int32 × dk_S)) (x1 : Int32) (x3 : Int32) (x4 : Int32) (x5 : Int32) (u0 : Int32) (S : dk_S) : Option (Int32 × dk_S) :=
  if x5 ≤ x3 then (B_Model_winner_69 n k7 x1 u0 x4 x3 S) else (B_Model_winner_69 n k7 x1 u0 x4 x5 S)
set_option maxRecDepth 20000 in
theorem kb_Model_winner_56 {p : Program} {l : Launch} {e : Env} {s : State} {m : MethodId} {args : Array Value} {below : List Frame} {meth : Method} {c : Code} {g : dk_G} {A : Nat → Prop} {Q : State → Prop} {am : Nat → Nat} {n : Nat} {res : (Int32 × dk_S)} (X : dk_X p s m args meth c b_Model_winner 6 R_Model (some .int) g A) (hR : dk_Ri p l e rm_Model_winner s m args below meth c g A Q 6 b_Model_winner (some .int) (wM g am) res) {k7 : Int32 → Int32 → Int32 → Int32 → dk_S → Option (Int32 × dk_S)} (hk7 : ∀ (x1 : Int32) (x2 : Int32) (x3 : Int32) (x4 : Int32)  (S : dk_S), k7 x1 x2 x3 x4 S = some res → dk_J p l e rm_Model_winner s m args below meth c g A Q 6 0 0 7 [(0, .ref (am 0)), (1, .int x1), (2, .int x2), (3, .int x3), (4, .int x4)] [] (wM g am S)) {x1 : Int32} {x3 : Int32} {x4 : Int32} {x5 : Int32} {u0 : Int32} {S : dk_S}  (hF : B_Model_winner_56 n k7 x1 x3 x4 x5 u0 S = some res) : dk_J p l e rm_Model_winner s m args below meth c g A Q 6 0 0 56 [(0, .ref (am 0)), (1, .int x1), (3, .int x3), (4, .int x4), (5, .int x5)] [.int u0] (wM g am S) := by
  unfold B_Model_winner_56 at hF
  refine dk_istore_n (k := 2) (i := 2) (lv' := [(2, .int u0), (0, .ref (am 0)), (1, .int x1), (3, .int x3), (4, .int x4), (5, .int x5)]) X rfl (by decide) rfl d_Model_winner_56 ?_
  refine dk_iload (i := 5) X 5 rfl d_Model_winner_57 ?_
  refine dk_iload_n (k := 3) (i := 3) X 3 rfl rfl d_Model_winner_59 ?_
  refine dk_icmp_le (tgt := 68) X (by decide) d_Model_winner_60 hF (fun hF => ?_) (fun hF => ?_)
  · refine dk_iload_n (k := 3) (i := 3) X 3 rfl rfl d_Model_winner_68 ?_
    exact dk_sub [1, 2, 0, 4] rfl (kb_Model_winner_69 (n := n) X hR hk7  hF)
  · refine dk_iload (i := 5) X 5 rfl d_Model_winner_63 ?_
    refine dk_goto (tgt := 69) X (by decide) d_Model_winner_65 ?_
    exact dk_sub [1, 2, 0, 4] rfl (kb_Model_winner_69 (n := n) X hR hk7  hF)
def B_Model_winner_7b (n : Nat) (k7 : Int32 → Int32 → Int32 → Int32 → dk_S → Option (Int32 × dk_S)) (x1 : Int32) (x2 : Int32) (x3 : Int32) (x4 : Int32) (S : dk_S) : Option (Int32 × dk_S) :=
  if (S 18 0) ≤ x4 then (some (x2, S)) else (dk_r 44 (S 21) x4 fun v1 => if ¬ v1 = x1 then (B_Model_winner_70 n k7 x1 x2 x3 x4 S) else (dk_c (F_Model_stands n x4 S) fun r3 S2 => if r3 = 0 then (B_Model_winner_70 n k7 x1 x2 x3 x4 S2) else (dk_c (F_Model_worthOf n x4 S2) fun r5 S4 => if r5 ≤ x3 then (B_Model_winner_56 n k7 x1 x3 x4 r5 x2 S4) else (B_Model_winner_56 n k7 x1 x3 x4 r5 x4 S4))))
set_option maxRecDepth 20000 in
theorem kb_Model_winner_7b {p : Program} {l : Launch} {e : Env} {s : State} {m : MethodId} {args : Array Value} {below : List Frame} {meth : Method} {c : Code} {g : dk_G} {A : Nat → Prop} {Q : State → Prop} {am : Nat → Nat} {n : Nat} {res : (Int32 × dk_S)} (X : dk_X p s m args meth c b_Model_winner 6 R_Model (some .int) g A) (hR : dk_Ri p l e rm_Model_winner s m args below meth c g A Q 6 b_Model_winner (some .int) (wM g am) res) {k7 : Int32 → Int32 → Int32 → Int32 → dk_S → Option (Int32 × dk_S)} (hk7 : ∀ (x1 : Int32) (x2 : Int32) (x3 : Int32) (x4 : Int32)  (S : dk_S), k7 x1 x2 x3 x4 S = some res → dk_J p l e rm_Model_winner s m args below meth c g A Q 6 0 0 7 [(0, .ref (am 0)), (1, .int x1), (2, .int x2), (3, .int x3), (4, .int x4)] [] (wM g am S)) {x1 : Int32} {x2 : Int32} {x3 : Int32} {x4 : Int32} {S : dk_S}  (hF : B_Model_winner_7b n k7 x1 x2 x3 x4 S = some res) : dk_J p l e rm_Model_winner s m args below meth c g A Q 6 0 0 7 [(0, .ref (am 0)), (1, .int x1), (2, .int x2), (3, .int x3), (4, .int x4)] [] (wM g am S) := by
  unfold B_Model_winner_7b at hF
  refine dk_iload (i := 4) X 4 rfl d_Model_winner_7 ?_
  refine dk_aload_n (k := 0) (i := 0) X 0 rfl rfl d_Model_winner_9 ?_
  refine dk_get X q_Model 0 18 (by decide) (oM_Model g am S) rfl f_Model_246 d_Model_winner_10 ?_
  refine dk_icmp_ge (tgt := 76) X (by decide) d_Model_winner_13 hF (fun hF => ?_) (fun hF => ?_)
  · refine dk_iload_n (k := 2) (i := 2) X 2 rfl rfl d_Model_winner_76 ?_
    exact dk_reti hR hF d_Model_winner_77
  · refine dk_aload_n (k := 0) (i := 0) X 0 rfl rfl d_Model_winner_16 ?_
    refine dk_get X q_Model 0 21 (by decide) (oM_Model g am S) rfl f_Model_56 d_Model_winner_17 ?_
    refine dk_iload (i := 4) X 4 rfl d_Model_winner_20 ?_
    refine dk_iald X 15 (aM_15 g am S) d_Model_winner_22 hF (fun v1 hF => ?_)
    refine dk_iload_n (k := 1) (i := 1) X 1 rfl rfl d_Model_winner_23 ?_
    refine dk_icmp_ne (tgt := 70) X (by decide) d_Model_winner_24 hF (fun hF => ?_) (fun hF => ?_)
    · exact (kb_Model_winner_70 (n := n) X hR hk7  hF)
    · refine dk_aload_n (k := 0) (i := 0) X 0 rfl rfl d_Model_winner_27 ?_
      refine dk_iload (i := 4) X 4 rfl d_Model_winner_28 ?_
      refine dk_callVi X v_Model_stands [.int x4] (c_Model_stands l g am n x4 S) 0 (oM_Model g am S) rfl rfl m_Model_271 rfl rfl ⟨rfl, rfl, Nat.le_of_ble_eq_true rfl, Nat.le_of_ble_eq_true rfl, Nat.le_refl _, Nat.le_refl _⟩ (Nat.le_of_ble_eq_true rfl) d_Model_winner_30 hF (fun r3 S2 hF => ?_)
      refine dk_if_eq (tgt := 70) X (by decide) d_Model_winner_33 hF (fun hF => ?_) (fun hF => ?_)
      · exact (kb_Model_winner_70 (n := n) X hR hk7  hF)
      · refine dk_aload_n (k := 0) (i := 0) X 0 rfl rfl d_Model_winner_36 ?_
        refine dk_iload (i := 4) X 4 rfl d_Model_winner_37 ?_
        refine dk_callVi X v_Model_worthOf [.int x4] (c_Model_worthOf l g am n x4 S2) 0 (oM_Model g am S2) rfl rfl m_Model_274 rfl rfl ⟨rfl, rfl, Nat.le_of_ble_eq_true rfl, Nat.le_of_ble_eq_true rfl, Nat.le_refl _, Nat.le_refl _⟩ (Nat.le_of_ble_eq_true rfl) d_Model_winner_39 hF (fun r5 S4 hF => ?_)
        refine dk_istore (i := 5) (lv' := [(5, .int r5), (0, .ref (am 0)), (1, .int x1), (2, .int x2), (3, .int x3), (4, .int x4)]) X (by decide) rfl d_Model_winner_42 ?_
        refine dk_iload (i := 5) X 0 rfl d_Model_winner_44 ?_
        refine dk_iload_n (k := 3) (i := 3) X 4 rfl rfl d_Model_winner_46 ?_
        refine dk_icmp_le (tgt := 55) X (by decide) d_Model_winner_47 hF (fun hF => ?_) (fun hF => ?_)
        · refine dk_iload_n (k := 2) (i := 2) X 3 rfl rfl d_Model_winner_55 ?_
          exact dk_sub [1, 2, 4, 5, 0] rfl (kb_Model_winner_56 (n := n) X hR hk7  hF)
        · refine dk_iload (i := 4) X 5 rfl d_Model_winner_50 ?_
          refine dk_goto (tgt := 56) X (by decide) d_Model_winner_52 ?_
          exact dk_sub [1, 2, 4, 5, 0] rfl (kb_Model_winner_56 (n := n) X hR hk7  hF)
def B_Model_winner_7 (n : Nat)  : Nat → Int32 → Int32 → Int32 → Int32 → dk_S → Option (Int32 × dk_S)
  | 0 => fun _ _ _ _ _ => none
  | q + 1 => fun x1 x2 x3 x4 S => B_Model_winner_7b n (fun x1 x2 x3 x4 S => B_Model_winner_7 n  q x1 x2 x3 x4 S) x1 x2 x3 x4 S
theorem kb_Model_winner_7 {p : Program} {l : Launch} {e : Env} {s : State} {m : MethodId} {args : Array Value} {below : List Frame} {meth : Method} {c : Code} {g : dk_G} {A : Nat → Prop} {Q : State → Prop} {am : Nat → Nat} {n : Nat} {res : (Int32 × dk_S)} (X : dk_X p s m args meth c b_Model_winner 6 R_Model (some .int) g A) (hR : dk_Ri p l e rm_Model_winner s m args below meth c g A Q 6 b_Model_winner (some .int) (wM g am) res)  : ∀ (q : Nat) (x1 : Int32) (x2 : Int32) (x3 : Int32) (x4 : Int32)  (S : dk_S), B_Model_winner_7 n  q x1 x2 x3 x4 S = some res → dk_J p l e rm_Model_winner s m args below meth c g A Q 6 0 0 7 [(0, .ref (am 0)), (1, .int x1), (2, .int x2), (3, .int x3), (4, .int x4)] [] (wM g am S) := by
  intro q
  induction q with
  | zero => intro x1 x2 x3 x4  S hF; cases hF
  | succ q ih => intro x1 x2 x3 x4  S hF; exact kb_Model_winner_7b (n := n) X hR ih  hF
def B_Model_winner_0 (n : Nat)  (x1 : Int32) (S : dk_S) : Option (Int32 × dk_S) :=
  B_Model_winner_7 n  n x1 (-1 : Int32) (0 : Int32) (0 : Int32) S
set_option maxRecDepth 20000 in
theorem kb_Model_winner_0 {p : Program} {l : Launch} {e : Env} {s : State} {m : MethodId} {args : Array Value} {below : List Frame} {meth : Method} {c : Code} {g : dk_G} {A : Nat → Prop} {Q : State → Prop} {am : Nat → Nat} {n : Nat} {res : (Int32 × dk_S)} (X : dk_X p s m args meth c b_Model_winner 6 R_Model (some .int) g A) (hR : dk_Ri p l e rm_Model_winner s m args below meth c g A Q 6 b_Model_winner (some .int) (wM g am) res)  {x1 : Int32} {S : dk_S}  (hF : B_Model_winner_0 n  x1 S = some res) : dk_J p l e rm_Model_winner s m args below meth c g A Q 6 0 0 0 [(0, .ref (am 0)), (1, .int x1)] [] (wM g am S) := by
  unfold B_Model_winner_0 at hF
  refine dk_iconst (v := -1) X (by decide) d_Model_winner_0 ?_
  refine dk_istore_n (k := 2) (i := 2) (lv' := [(2, .int (-1 : Int32)), (0, .ref (am 0)), (1, .int x1)]) X rfl (by decide) rfl d_Model_winner_1 ?_
  refine dk_iconst (v := 0) X (by decide) d_Model_winner_2 ?_
  refine dk_istore_n (k := 3) (i := 3) (lv' := [(3, .int (0 : Int32)), (2, .int (-1 : Int32)), (0, .ref (am 0)), (1, .int x1)]) X rfl (by decide) rfl d_Model_winner_3 ?_
  refine dk_iconst (v := 0) X (by decide) d_Model_winner_4 ?_
  refine dk_istore (i := 4) (lv' := [(4, .int (0 : Int32)), (3, .int (0 : Int32)), (2, .int (-1 : Int32)), (0, .ref (am 0)), (1, .int x1)]) X (by decide) rfl d_Model_winner_5 ?_
  exact dk_sub [3, 4, 2, 1, 0] rfl (kb_Model_winner_7 (n := n) X hR  n x1 (-1 : Int32) (0 : Int32) (0 : Int32) S hF)
def F_Model_winner (n : Nat) (x1 : Int32) (S : dk_S) : Option (Int32 × dk_S) := B_Model_winner_0 n x1 S
theorem c_Model_winner (l : Launch) (g : dk_G) (am : Nat → Nat) (n : Nat) (x1 : Int32)  (S : dk_S) : dk_Mi l g y_Model_winner b_Model_winner 6 rm_Model_winner (some .int) [.ref (am 0), .int x1] (wM g am) S (F_Model_winner n x1 S) := dk_enteri (by decide) (Nat.le_of_ble_eq_true rfl) (fun p e s m args below meth c A Q res hF X hR => (kb_Model_winner_0 (n := n) X hR  hF))
abbrev b_Model_whose : ByteArray := prog_11_method_44_code
def y_Model_whose : MethodName := ⟨R_Model, "whose", "(I)I"⟩
theorem d_Model_whose_0 : decode b_Model_whose 0 = .ok (.aload_n 0, 1) := by decide +kernel
theorem d_Model_whose_1 : decode b_Model_whose 1 = .ok (.iload_n 1, 1) := by decide +kernel
theorem d_Model_whose_2 : decode b_Model_whose 2 = .ok (.invokevirtual 277, 3) := by decide +kernel
theorem d_Model_whose_5 : decode b_Model_whose 5 = .ok (.istore_n 2, 1) := by decide +kernel
theorem d_Model_whose_6 : decode b_Model_whose 6 = .ok (.iload_n 2, 1) := by decide +kernel
theorem d_Model_whose_7 : decode b_Model_whose 7 = .ok (.iconst (-1), 1) := by decide +kernel
theorem d_Model_whose_8 : decode b_Model_whose 8 = .ok (.if_icmp .ne 7, 3) := by decide +kernel
theorem d_Model_whose_11 : decode b_Model_whose 11 = .ok (.iconst (-1), 1) := by decide +kernel
theorem d_Model_whose_12 : decode b_Model_whose 12 = .ok (.goto 9, 3) := by decide +kernel
theorem d_Model_whose_15 : decode b_Model_whose 15 = .ok (.aload_n 0, 1) := by decide +kernel
theorem d_Model_whose_16 : decode b_Model_whose 16 = .ok (.getfield 53, 3) := by decide +kernel
theorem d_Model_whose_19 : decode b_Model_whose 19 = .ok (.iload_n 2, 1) := by decide +kernel
theorem d_Model_whose_20 : decode b_Model_whose 20 = .ok (.iaload, 1) := by decide +kernel
theorem d_Model_whose_21 : decode b_Model_whose 21 = .ok (.ireturn, 1) := by decide +kernel
theorem v_Model_whose : dk_Yv y_Model_whose b_Model_whose 3 (some .int) 1 := ⟨dk_in (List.mem_of_getElem? (i := 1288) (by decide +kernel)) rfl, dk_in (List.mem_of_getElem? (i := 58) (by decide +kernel)) rfl, dk_in (List.mem_of_getElem? (i := 75) (by decide +kernel)) rfl, dk_in (List.mem_of_getElem? (i := 1289) (by decide +kernel)) rfl, by decide +kernel, by decide +kernel, by decide +kernel⟩
abbrev rm_Model_whose : Room := { frames := 5, cells := 0, slots := 0, locals := 116 }
theorem m_Model_277 : Cond.methodLink R_Model 277 y_Model_winner ∈ dk_tb := dk_in (List.mem_of_getElem? (i := 1290) (by decide +kernel)) rfl
def B_Model_whose_0 (n : Nat)  (x1 : Int32) (S : dk_S) : Option (Int32 × dk_S) :=
  dk_c (F_Model_winner n x1 S) fun r2 S1 => if ¬ r2 = (-1 : Int32) then (dk_r 44 (S1 20) r2 fun v3 => some (v3, S1)) else (some ((-1 : Int32), S1))
set_option maxRecDepth 20000 in
theorem kb_Model_whose_0 {p : Program} {l : Launch} {e : Env} {s : State} {m : MethodId} {args : Array Value} {below : List Frame} {meth : Method} {c : Code} {g : dk_G} {A : Nat → Prop} {Q : State → Prop} {am : Nat → Nat} {n : Nat} {res : (Int32 × dk_S)} (X : dk_X p s m args meth c b_Model_whose 3 R_Model (some .int) g A) (hR : dk_Ri p l e rm_Model_whose s m args below meth c g A Q 3 b_Model_whose (some .int) (wM g am) res)  {x1 : Int32} {S : dk_S}  (hF : B_Model_whose_0 n  x1 S = some res) : dk_J p l e rm_Model_whose s m args below meth c g A Q 3 0 0 0 [(0, .ref (am 0)), (1, .int x1)] [] (wM g am S) := by
  unfold B_Model_whose_0 at hF
  refine dk_aload_n (k := 0) (i := 0) X 0 rfl rfl d_Model_whose_0 ?_
  refine dk_iload_n (k := 1) (i := 1) X 1 rfl rfl d_Model_whose_1 ?_
  refine dk_callVi X v_Model_winner [.int x1] (c_Model_winner l g am n x1 S) 0 (oM_Model g am S) rfl rfl m_Model_277 rfl rfl ⟨rfl, rfl, Nat.le_of_ble_eq_true rfl, Nat.le_of_ble_eq_true rfl, Nat.le_refl _, Nat.le_refl _⟩ (Nat.le_of_ble_eq_true rfl) d_Model_whose_2 hF (fun r2 S1 hF => ?_)
  refine dk_istore_n (k := 2) (i := 2) (lv' := [(2, .int r2), (0, .ref (am 0)), (1, .int x1)]) X rfl (by decide) rfl d_Model_whose_5 ?_
  refine dk_iload_n (k := 2) (i := 2) X 0 rfl rfl d_Model_whose_6 ?_
  refine dk_iconst (v := -1) X (by decide) d_Model_whose_7 ?_
  refine dk_icmp_ne (tgt := 15) X (by decide) d_Model_whose_8 hF (fun hF => ?_) (fun hF => ?_)
  · refine dk_aload_n (k := 0) (i := 0) X 1 rfl rfl d_Model_whose_15 ?_
    refine dk_get X q_Model 0 20 (by decide) (oM_Model g am S1) rfl f_Model_53 d_Model_whose_16 ?_
    refine dk_iload_n (k := 2) (i := 2) X 0 rfl rfl d_Model_whose_19 ?_
    refine dk_iald X 14 (aM_14 g am S1) d_Model_whose_20 hF (fun v3 hF => ?_)
    exact dk_reti hR hF d_Model_whose_21
  · refine dk_iconst (v := -1) X (by decide) d_Model_whose_11 ?_
    refine dk_goto (tgt := 21) X (by decide) d_Model_whose_12 ?_
    exact dk_reti hR hF d_Model_whose_21
def F_Model_whose (n : Nat) (x1 : Int32) (S : dk_S) : Option (Int32 × dk_S) := B_Model_whose_0 n x1 S
theorem c_Model_whose (l : Launch) (g : dk_G) (am : Nat → Nat) (n : Nat) (x1 : Int32)  (S : dk_S) : dk_Mi l g y_Model_whose b_Model_whose 3 rm_Model_whose (some .int) [.ref (am 0), .int x1] (wM g am) S (F_Model_whose n x1 S) := dk_enteri (by decide) (Nat.le_of_ble_eq_true rfl) (fun p e s m args below meth c A Q res hF X hR => (kb_Model_whose_0 (n := n) X hR  hF))
abbrev b_Model_whoseIs : ByteArray := prog_11_method_47_code
def y_Model_whoseIs : MethodName := ⟨R_Model, "whoseIs", "(II)I"⟩
theorem d_Model_whoseIs_0 : decode b_Model_whoseIs 0 = .ok (.aload_n 0, 1) := by decide +kernel
theorem d_Model_whoseIs_1 : decode b_Model_whoseIs 1 = .ok (.iload_n 1, 1) := by decide +kernel
theorem d_Model_whoseIs_2 : decode b_Model_whoseIs 2 = .ok (.invokevirtual 158, 3) := by decide +kernel
theorem d_Model_whoseIs_5 : decode b_Model_whoseIs 5 = .ok (.ifCond .ne 6, 3) := by decide +kernel
theorem d_Model_whoseIs_8 : decode b_Model_whoseIs 8 = .ok (.bipush (-5), 2) := by decide +kernel
theorem d_Model_whoseIs_10 : decode b_Model_whoseIs 10 = .ok (.ireturn, 1) := by decide +kernel
theorem d_Model_whoseIs_11 : decode b_Model_whoseIs 11 = .ok (.iload_n 2, 1) := by decide +kernel
theorem d_Model_whoseIs_12 : decode b_Model_whoseIs 12 = .ok (.iconst 0, 1) := by decide +kernel
theorem d_Model_whoseIs_13 : decode b_Model_whoseIs 13 = .ok (.aload_n 0, 1) := by decide +kernel
theorem d_Model_whoseIs_14 : decode b_Model_whoseIs 14 = .ok (.getfield 151, 3) := by decide +kernel
theorem d_Model_whoseIs_17 : decode b_Model_whoseIs 17 = .ok (.invokestatic 144, 3) := by decide +kernel
theorem d_Model_whoseIs_20 : decode b_Model_whoseIs 20 = .ok (.ifCond .ne 6, 3) := by decide +kernel
theorem d_Model_whoseIs_23 : decode b_Model_whoseIs 23 = .ok (.bipush (-7), 2) := by decide +kernel
theorem d_Model_whoseIs_25 : decode b_Model_whoseIs 25 = .ok (.ireturn, 1) := by decide +kernel
theorem d_Model_whoseIs_26 : decode b_Model_whoseIs 26 = .ok (.aload_n 0, 1) := by decide +kernel
theorem d_Model_whoseIs_27 : decode b_Model_whoseIs 27 = .ok (.iload_n 2, 1) := by decide +kernel
theorem d_Model_whoseIs_28 : decode b_Model_whoseIs 28 = .ok (.iconst 0, 1) := by decide +kernel
theorem d_Model_whoseIs_29 : decode b_Model_whoseIs 29 = .ok (.invokevirtual 280, 3) := by decide +kernel
theorem d_Model_whoseIs_32 : decode b_Model_whoseIs 32 = .ok (.aload_n 0, 1) := by decide +kernel
theorem d_Model_whoseIs_33 : decode b_Model_whoseIs 33 = .ok (.iload_n 1, 1) := by decide +kernel
theorem d_Model_whoseIs_34 : decode b_Model_whoseIs 34 = .ok (.invokevirtual 284, 3) := by decide +kernel
theorem d_Model_whoseIs_37 : decode b_Model_whoseIs 37 = .ok (.ireturn, 1) := by decide +kernel
theorem v_Model_whoseIs : dk_Yv y_Model_whoseIs b_Model_whoseIs 3 (some .int) 2 := ⟨dk_in (List.mem_of_getElem? (i := 1283) (by decide +kernel)) rfl, dk_in (List.mem_of_getElem? (i := 1284) (by decide +kernel)) rfl, dk_in (List.mem_of_getElem? (i := 75) (by decide +kernel)) rfl, dk_in (List.mem_of_getElem? (i := 1285) (by decide +kernel)) rfl, by decide +kernel, by decide +kernel, by decide +kernel⟩
abbrev rm_Model_whoseIs : Room := { frames := 6, cells := 0, slots := 0, locals := 138 }
theorem m_Model_284 : Cond.methodLink R_Model 284 y_Model_whose ∈ dk_tb := dk_in (List.mem_of_getElem? (i := 1286) (by decide +kernel)) rfl
def B_Model_whoseIs_0 (n : Nat)  (x1 : Int32) (x2 : Int32) (S : dk_S) : Option (Int32 × dk_S) :=
  dk_c (F_Model_isBeast n x1 S) fun r2 S1 => if ¬ r2 = 0 then (dk_c (F_Model_in n x2 (0 : Int32) (S1 5 0) S1) fun r4 S3 => if ¬ r4 = 0 then (dk_cv (F_Model_works n x2 (0 : Int32) S3) fun S5 => dk_c (F_Model_whose n x1 S5) fun r8 S7 => some (r8, S7)) else (some ((-7 : Int32), S3))) else (some ((-5 : Int32), S1))
set_option maxRecDepth 20000 in
theorem kb_Model_whoseIs_0 {p : Program} {l : Launch} {e : Env} {s : State} {m : MethodId} {args : Array Value} {below : List Frame} {meth : Method} {c : Code} {g : dk_G} {A : Nat → Prop} {Q : State → Prop} {am : Nat → Nat} {n : Nat} {res : (Int32 × dk_S)} (X : dk_X p s m args meth c b_Model_whoseIs 3 R_Model (some .int) g A) (hR : dk_Ri p l e rm_Model_whoseIs s m args below meth c g A Q 3 b_Model_whoseIs (some .int) (wM g am) res)  {x1 : Int32} {x2 : Int32} {S : dk_S}  (hF : B_Model_whoseIs_0 n  x1 x2 S = some res) : dk_J p l e rm_Model_whoseIs s m args below meth c g A Q 3 0 0 0 [(0, .ref (am 0)), (1, .int x1), (2, .int x2)] [] (wM g am S) := by
  unfold B_Model_whoseIs_0 at hF
  refine dk_aload_n (k := 0) (i := 0) X 0 rfl rfl d_Model_whoseIs_0 ?_
  refine dk_iload_n (k := 1) (i := 1) X 1 rfl rfl d_Model_whoseIs_1 ?_
  refine dk_callVi X v_Model_isBeast [.int x1] (c_Model_isBeast l g am n x1 S) 0 (oM_Model g am S) rfl rfl m_Model_158 rfl rfl ⟨rfl, rfl, Nat.le_of_ble_eq_true rfl, Nat.le_of_ble_eq_true rfl, Nat.le_refl _, Nat.le_refl _⟩ (Nat.le_of_ble_eq_true rfl) d_Model_whoseIs_2 hF (fun r2 S1 hF => ?_)
  refine dk_if_ne (tgt := 11) X (by decide) d_Model_whoseIs_5 hF (fun hF => ?_) (fun hF => ?_)
  · refine dk_iload_n (k := 2) (i := 2) X 2 rfl rfl d_Model_whoseIs_11 ?_
    refine dk_iconst (v := 0) X (by decide) d_Model_whoseIs_12 ?_
    refine dk_aload_n (k := 0) (i := 0) X 0 rfl rfl d_Model_whoseIs_13 ?_
    refine dk_get X q_Model 0 5 (by decide) (oM_Model g am S1) rfl f_Model_151 d_Model_whoseIs_14 ?_
    refine dk_callSi X v_Model_in [.int x2, .int (0 : Int32), .int (S1 5 0)] (c_Model_in l g am n x2 (0 : Int32) (S1 5 0) S1) m_Model_144 rfl rfl ⟨rfl, rfl, Nat.le_of_ble_eq_true rfl, Nat.le_of_ble_eq_true rfl, Nat.le_refl _, Nat.le_refl _⟩ (Nat.le_of_ble_eq_true rfl) d_Model_whoseIs_17 hF (fun r4 S3 hF => ?_)
    refine dk_if_ne (tgt := 26) X (by decide) d_Model_whoseIs_20 hF (fun hF => ?_) (fun hF => ?_)
    · refine dk_aload_n (k := 0) (i := 0) X 0 rfl rfl d_Model_whoseIs_26 ?_
      refine dk_iload_n (k := 2) (i := 2) X 2 rfl rfl d_Model_whoseIs_27 ?_
      refine dk_iconst (v := 0) X (by decide) d_Model_whoseIs_28 ?_
      refine dk_callVv X v_Model_works [.int x2, .int (0 : Int32)] (c_Model_works l g am n x2 (0 : Int32) S3) 0 (oM_Model g am S3) rfl rfl m_Model_280 rfl rfl ⟨rfl, rfl, Nat.le_of_ble_eq_true rfl, Nat.le_of_ble_eq_true rfl, Nat.le_refl _, Nat.le_refl _⟩ (Nat.le_of_ble_eq_true rfl) d_Model_whoseIs_29 hF (fun S5 hF => ?_)
      refine dk_aload_n (k := 0) (i := 0) X 0 rfl rfl d_Model_whoseIs_32 ?_
      refine dk_iload_n (k := 1) (i := 1) X 1 rfl rfl d_Model_whoseIs_33 ?_
      refine dk_callVi X v_Model_whose [.int x1] (c_Model_whose l g am n x1 S5) 0 (oM_Model g am S5) rfl rfl m_Model_284 rfl rfl ⟨rfl, rfl, Nat.le_of_ble_eq_true rfl, Nat.le_of_ble_eq_true rfl, Nat.le_refl _, Nat.le_refl _⟩ (Nat.le_of_ble_eq_true rfl) d_Model_whoseIs_34 hF (fun r8 S7 hF => ?_)
      exact dk_reti hR hF d_Model_whoseIs_37
    · refine dk_bipush (v := -7) X (by decide) d_Model_whoseIs_23 ?_
      exact dk_reti hR hF d_Model_whoseIs_25
  · refine dk_bipush (v := -5) X (by decide) d_Model_whoseIs_8 ?_
    exact dk_reti hR hF d_Model_whoseIs_10
def F_Model_whoseIs (n : Nat) (x1 : Int32) (x2 : Int32) (S : dk_S) : Option (Int32 × dk_S) := B_Model_whoseIs_0 n x1 x2 S
theorem c_Model_whoseIs (l : Launch) (g : dk_G) (am : Nat → Nat) (n : Nat) (x1 : Int32) (x2 : Int32)  (S : dk_S) : dk_Mi l g y_Model_whoseIs b_Model_whoseIs 3 rm_Model_whoseIs (some .int) [.ref (am 0), .int x1, .int x2] (wM g am) S (F_Model_whoseIs n x1 x2 S) := dk_enteri (by decide) (Nat.le_of_ble_eq_true rfl) (fun p e s m args below meth c A Q res hF X hR => (kb_Model_whoseIs_0 (n := n) X hR  hF))
abbrev b_Model_why : ByteArray := prog_11_method_48_code
def y_Model_why : MethodName := ⟨R_Model, "why", "(II)I"⟩
theorem d_Model_why_0 : decode b_Model_why 0 = .ok (.aload_n 0, 1) := by decide +kernel
theorem d_Model_why_1 : decode b_Model_why 1 = .ok (.iload_n 1, 1) := by decide +kernel
theorem d_Model_why_2 : decode b_Model_why 2 = .ok (.invokevirtual 158, 3) := by decide +kernel
theorem d_Model_why_5 : decode b_Model_why 5 = .ok (.ifCond .ne 6, 3) := by decide +kernel
theorem d_Model_why_8 : decode b_Model_why 8 = .ok (.bipush (-5), 2) := by decide +kernel
theorem d_Model_why_10 : decode b_Model_why 10 = .ok (.ireturn, 1) := by decide +kernel
theorem d_Model_why_11 : decode b_Model_why 11 = .ok (.iload_n 2, 1) := by decide +kernel
theorem d_Model_why_12 : decode b_Model_why 12 = .ok (.iconst 0, 1) := by decide +kernel
theorem d_Model_why_13 : decode b_Model_why 13 = .ok (.aload_n 0, 1) := by decide +kernel
theorem d_Model_why_14 : decode b_Model_why 14 = .ok (.getfield 151, 3) := by decide +kernel
theorem d_Model_why_17 : decode b_Model_why 17 = .ok (.invokestatic 144, 3) := by decide +kernel
theorem d_Model_why_20 : decode b_Model_why 20 = .ok (.ifCond .ne 6, 3) := by decide +kernel
theorem d_Model_why_23 : decode b_Model_why 23 = .ok (.bipush (-7), 2) := by decide +kernel
theorem d_Model_why_25 : decode b_Model_why 25 = .ok (.ireturn, 1) := by decide +kernel
theorem d_Model_why_26 : decode b_Model_why 26 = .ok (.aload_n 0, 1) := by decide +kernel
theorem d_Model_why_27 : decode b_Model_why 27 = .ok (.iload_n 2, 1) := by decide +kernel
theorem d_Model_why_28 : decode b_Model_why 28 = .ok (.iconst 0, 1) := by decide +kernel
theorem d_Model_why_29 : decode b_Model_why 29 = .ok (.invokevirtual 280, 3) := by decide +kernel
theorem d_Model_why_32 : decode b_Model_why 32 = .ok (.aload_n 0, 1) := by decide +kernel
theorem d_Model_why_33 : decode b_Model_why 33 = .ok (.iload_n 1, 1) := by decide +kernel
theorem d_Model_why_34 : decode b_Model_why 34 = .ok (.invokevirtual 277, 3) := by decide +kernel
theorem d_Model_why_37 : decode b_Model_why 37 = .ok (.ireturn, 1) := by decide +kernel
theorem v_Model_why : dk_Yv y_Model_why b_Model_why 3 (some .int) 2 := ⟨dk_in (List.mem_of_getElem? (i := 1295) (by decide +kernel)) rfl, dk_in (List.mem_of_getElem? (i := 1296) (by decide +kernel)) rfl, dk_in (List.mem_of_getElem? (i := 75) (by decide +kernel)) rfl, dk_in (List.mem_of_getElem? (i := 1297) (by decide +kernel)) rfl, by decide +kernel, by decide +kernel, by decide +kernel⟩
abbrev rm_Model_why : Room := { frames := 5, cells := 0, slots := 0, locals := 116 }
def B_Model_why_0 (n : Nat)  (x1 : Int32) (x2 : Int32) (S : dk_S) : Option (Int32 × dk_S) :=
  dk_c (F_Model_isBeast n x1 S) fun r2 S1 => if ¬ r2 = 0 then (dk_c (F_Model_in n x2 (0 : Int32) (S1 5 0) S1) fun r4 S3 => if ¬ r4 = 0 then (dk_cv (F_Model_works n x2 (0 : Int32) S3) fun S5 => dk_c (F_Model_winner n x1 S5) fun r8 S7 => some (r8, S7)) else (some ((-7 : Int32), S3))) else (some ((-5 : Int32), S1))
set_option maxRecDepth 20000 in
theorem kb_Model_why_0 {p : Program} {l : Launch} {e : Env} {s : State} {m : MethodId} {args : Array Value} {below : List Frame} {meth : Method} {c : Code} {g : dk_G} {A : Nat → Prop} {Q : State → Prop} {am : Nat → Nat} {n : Nat} {res : (Int32 × dk_S)} (X : dk_X p s m args meth c b_Model_why 3 R_Model (some .int) g A) (hR : dk_Ri p l e rm_Model_why s m args below meth c g A Q 3 b_Model_why (some .int) (wM g am) res)  {x1 : Int32} {x2 : Int32} {S : dk_S}  (hF : B_Model_why_0 n  x1 x2 S = some res) : dk_J p l e rm_Model_why s m args below meth c g A Q 3 0 0 0 [(0, .ref (am 0)), (1, .int x1), (2, .int x2)] [] (wM g am S) := by
  unfold B_Model_why_0 at hF
  refine dk_aload_n (k := 0) (i := 0) X 0 rfl rfl d_Model_why_0 ?_
  refine dk_iload_n (k := 1) (i := 1) X 1 rfl rfl d_Model_why_1 ?_
  refine dk_callVi X v_Model_isBeast [.int x1] (c_Model_isBeast l g am n x1 S) 0 (oM_Model g am S) rfl rfl m_Model_158 rfl rfl ⟨rfl, rfl, Nat.le_of_ble_eq_true rfl, Nat.le_of_ble_eq_true rfl, Nat.le_refl _, Nat.le_refl _⟩ (Nat.le_of_ble_eq_true rfl) d_Model_why_2 hF (fun r2 S1 hF => ?_)
  refine dk_if_ne (tgt := 11) X (by decide) d_Model_why_5 hF (fun hF => ?_) (fun hF => ?_)
  · refine dk_iload_n (k := 2) (i := 2) X 2 rfl rfl d_Model_why_11 ?_
    refine dk_iconst (v := 0) X (by decide) d_Model_why_12 ?_
    refine dk_aload_n (k := 0) (i := 0) X 0 rfl rfl d_Model_why_13 ?_
    refine dk_get X q_Model 0 5 (by decide) (oM_Model g am S1) rfl f_Model_151 d_Model_why_14 ?_
    refine dk_callSi X v_Model_in [.int x2, .int (0 : Int32), .int (S1 5 0)] (c_Model_in l g am n x2 (0 : Int32) (S1 5 0) S1) m_Model_144 rfl rfl ⟨rfl, rfl, Nat.le_of_ble_eq_true rfl, Nat.le_of_ble_eq_true rfl, Nat.le_refl _, Nat.le_refl _⟩ (Nat.le_of_ble_eq_true rfl) d_Model_why_17 hF (fun r4 S3 hF => ?_)
    refine dk_if_ne (tgt := 26) X (by decide) d_Model_why_20 hF (fun hF => ?_) (fun hF => ?_)
    · refine dk_aload_n (k := 0) (i := 0) X 0 rfl rfl d_Model_why_26 ?_
      refine dk_iload_n (k := 2) (i := 2) X 2 rfl rfl d_Model_why_27 ?_
      refine dk_iconst (v := 0) X (by decide) d_Model_why_28 ?_
      refine dk_callVv X v_Model_works [.int x2, .int (0 : Int32)] (c_Model_works l g am n x2 (0 : Int32) S3) 0 (oM_Model g am S3) rfl rfl m_Model_280 rfl rfl ⟨rfl, rfl, Nat.le_of_ble_eq_true rfl, Nat.le_of_ble_eq_true rfl, Nat.le_refl _, Nat.le_refl _⟩ (Nat.le_of_ble_eq_true rfl) d_Model_why_29 hF (fun S5 hF => ?_)
      refine dk_aload_n (k := 0) (i := 0) X 0 rfl rfl d_Model_why_32 ?_
      refine dk_iload_n (k := 1) (i := 1) X 1 rfl rfl d_Model_why_33 ?_
      refine dk_callVi X v_Model_winner [.int x1] (c_Model_winner l g am n x1 S5) 0 (oM_Model g am S5) rfl rfl m_Model_277 rfl rfl ⟨rfl, rfl, Nat.le_of_ble_eq_true rfl, Nat.le_of_ble_eq_true rfl, Nat.le_refl _, Nat.le_refl _⟩ (Nat.le_of_ble_eq_true rfl) d_Model_why_34 hF (fun r8 S7 hF => ?_)
      exact dk_reti hR hF d_Model_why_37
    · refine dk_bipush (v := -7) X (by decide) d_Model_why_23 ?_
      exact dk_reti hR hF d_Model_why_25
  · refine dk_bipush (v := -5) X (by decide) d_Model_why_8 ?_
    exact dk_reti hR hF d_Model_why_10
def F_Model_why (n : Nat) (x1 : Int32) (x2 : Int32) (S : dk_S) : Option (Int32 × dk_S) := B_Model_why_0 n x1 x2 S
theorem c_Model_why (l : Launch) (g : dk_G) (am : Nat → Nat) (n : Nat) (x1 : Int32) (x2 : Int32)  (S : dk_S) : dk_Mi l g y_Model_why b_Model_why 3 rm_Model_why (some .int) [.ref (am 0), .int x1, .int x2] (wM g am) S (F_Model_why n x1 x2 S) := dk_enteri (by decide) (Nat.le_of_ble_eq_true rfl) (fun p e s m args below meth c A Q res hF X hR => (kb_Model_why_0 (n := n) X hR  hF))
abbrev b_Model_where : ByteArray := prog_11_method_49_code
def y_Model_where : MethodName := ⟨R_Model, "where", "(III)I"⟩
theorem d_Model_where_0 : decode b_Model_where 0 = .ok (.aload_n 0, 1) := by decide +kernel
theorem d_Model_where_1 : decode b_Model_where 1 = .ok (.iload_n 1, 1) := by decide +kernel
theorem d_Model_where_2 : decode b_Model_where 2 = .ok (.invokevirtual 158, 3) := by decide +kernel
theorem d_Model_where_5 : decode b_Model_where 5 = .ok (.ifCond .ne 6, 3) := by decide +kernel
theorem d_Model_where_8 : decode b_Model_where 8 = .ok (.bipush (-5), 2) := by decide +kernel
theorem d_Model_where_10 : decode b_Model_where 10 = .ok (.ireturn, 1) := by decide +kernel
theorem d_Model_where_11 : decode b_Model_where 11 = .ok (.iload_n 2, 1) := by decide +kernel
theorem d_Model_where_12 : decode b_Model_where 12 = .ok (.iconst 0, 1) := by decide +kernel
theorem d_Model_where_13 : decode b_Model_where 13 = .ok (.aload_n 0, 1) := by decide +kernel
theorem d_Model_where_14 : decode b_Model_where 14 = .ok (.getfield 151, 3) := by decide +kernel
theorem d_Model_where_17 : decode b_Model_where 17 = .ok (.invokestatic 144, 3) := by decide +kernel
theorem d_Model_where_20 : decode b_Model_where 20 = .ok (.ifCond .eq 12, 3) := by decide +kernel
theorem d_Model_where_23 : decode b_Model_where 23 = .ok (.iload_n 3, 1) := by decide +kernel
theorem d_Model_where_24 : decode b_Model_where 24 = .ok (.iconst 0, 1) := by decide +kernel
theorem d_Model_where_25 : decode b_Model_where 25 = .ok (.iconst 2, 1) := by decide +kernel
theorem d_Model_where_26 : decode b_Model_where 26 = .ok (.invokestatic 144, 3) := by decide +kernel
theorem d_Model_where_29 : decode b_Model_where 29 = .ok (.ifCond .ne 6, 3) := by decide +kernel
theorem d_Model_where_32 : decode b_Model_where 32 = .ok (.bipush (-7), 2) := by decide +kernel
theorem d_Model_where_34 : decode b_Model_where 34 = .ok (.ireturn, 1) := by decide +kernel
theorem d_Model_where_35 : decode b_Model_where 35 = .ok (.aload_n 0, 1) := by decide +kernel
theorem d_Model_where_36 : decode b_Model_where 36 = .ok (.iload_n 2, 1) := by decide +kernel
theorem d_Model_where_37 : decode b_Model_where 37 = .ok (.iconst 0, 1) := by decide +kernel
theorem d_Model_where_38 : decode b_Model_where 38 = .ok (.invokevirtual 280, 3) := by decide +kernel
theorem d_Model_where_41 : decode b_Model_where 41 = .ok (.iload_n 3, 1) := by decide +kernel
theorem d_Model_where_42 : decode b_Model_where 42 = .ok (.ifCond .ne 12, 3) := by decide +kernel
theorem d_Model_where_45 : decode b_Model_where 45 = .ok (.aload_n 0, 1) := by decide +kernel
theorem d_Model_where_46 : decode b_Model_where 46 = .ok (.getfield 75, 3) := by decide +kernel
theorem d_Model_where_49 : decode b_Model_where 49 = .ok (.iload_n 1, 1) := by decide +kernel
theorem d_Model_where_50 : decode b_Model_where 50 = .ok (.iaload, 1) := by decide +kernel
theorem d_Model_where_51 : decode b_Model_where 51 = .ok (.goto 31, 3) := by decide +kernel
theorem d_Model_where_54 : decode b_Model_where 54 = .ok (.iload_n 3, 1) := by decide +kernel
theorem d_Model_where_55 : decode b_Model_where 55 = .ok (.iconst 1, 1) := by decide +kernel
theorem d_Model_where_56 : decode b_Model_where 56 = .ok (.if_icmp .ne 12, 3) := by decide +kernel
theorem d_Model_where_59 : decode b_Model_where 59 = .ok (.aload_n 0, 1) := by decide +kernel
theorem d_Model_where_60 : decode b_Model_where 60 = .ok (.getfield 78, 3) := by decide +kernel
theorem d_Model_where_63 : decode b_Model_where 63 = .ok (.iload_n 1, 1) := by decide +kernel
theorem d_Model_where_64 : decode b_Model_where 64 = .ok (.iaload, 1) := by decide +kernel
theorem d_Model_where_65 : decode b_Model_where 65 = .ok (.goto 17, 3) := by decide +kernel
theorem d_Model_where_68 : decode b_Model_where 68 = .ok (.aload_n 0, 1) := by decide +kernel
theorem d_Model_where_69 : decode b_Model_where 69 = .ok (.getfield 81, 3) := by decide +kernel
theorem d_Model_where_72 : decode b_Model_where 72 = .ok (.iload_n 1, 1) := by decide +kernel
theorem d_Model_where_73 : decode b_Model_where 73 = .ok (.baload, 1) := by decide +kernel
theorem d_Model_where_74 : decode b_Model_where 74 = .ok (.ifCond .eq 7, 3) := by decide +kernel
theorem d_Model_where_77 : decode b_Model_where 77 = .ok (.iconst 1, 1) := by decide +kernel
theorem d_Model_where_78 : decode b_Model_where 78 = .ok (.goto 4, 3) := by decide +kernel
theorem d_Model_where_81 : decode b_Model_where 81 = .ok (.iconst 0, 1) := by decide +kernel
theorem d_Model_where_82 : decode b_Model_where 82 = .ok (.ireturn, 1) := by decide +kernel
theorem v_Model_where : dk_Yv y_Model_where b_Model_where 4 (some .int) 3 := ⟨dk_in (List.mem_of_getElem? (i := 1299) (by decide +kernel)) rfl, dk_in (List.mem_of_getElem? (i := 1300) (by decide +kernel)) rfl, dk_in (List.mem_of_getElem? (i := 75) (by decide +kernel)) rfl, dk_in (List.mem_of_getElem? (i := 1301) (by decide +kernel)) rfl, by decide +kernel, by decide +kernel, by decide +kernel⟩
abbrev rm_Model_where : Room := { frames := 4, cells := 0, slots := 0, locals := 98 }
def B_Model_where_0 (n : Nat)  (x1 : Int32) (x2 : Int32) (x3 : Int32) (S : dk_S) : Option (Int32 × dk_S) :=
  dk_c (F_Model_isBeast n x1 S) fun r2 S1 => if ¬ r2 = 0 then (dk_c (F_Model_in n x2 (0 : Int32) (S1 5 0) S1) fun r4 S3 => if r4 = 0 then (some ((-7 : Int32), S3)) else (dk_c (F_Model_in n x3 (0 : Int32) (2 : Int32) S3) fun r6 S5 => if ¬ r6 = 0 then (dk_cv (F_Model_works n x2 (0 : Int32) S5) fun S7 => if ¬ x3 = 0 then (if ¬ x3 = (1 : Int32) then (dk_r 6 (S7 29) x1 fun v9 => if v9 = 0 then (some ((0 : Int32), S7)) else (some ((1 : Int32), S7))) else (dk_r 6 (S7 28) x1 fun v10 => some (v10, S7))) else (dk_r 6 (S7 27) x1 fun v11 => some (v11, S7))) else (some ((-7 : Int32), S5)))) else (some ((-5 : Int32), S1))
set_option maxRecDepth 20000 in
theorem kb_Model_where_0 {p : Program} {l : Launch} {e : Env} {s : State} {m : MethodId} {args : Array Value} {below : List Frame} {meth : Method} {c : Code} {g : dk_G} {A : Nat → Prop} {Q : State → Prop} {am : Nat → Nat} {n : Nat} {res : (Int32 × dk_S)} (X : dk_X p s m args meth c b_Model_where 4 R_Model (some .int) g A) (hR : dk_Ri p l e rm_Model_where s m args below meth c g A Q 4 b_Model_where (some .int) (wM g am) res)  {x1 : Int32} {x2 : Int32} {x3 : Int32} {S : dk_S}  (hF : B_Model_where_0 n  x1 x2 x3 S = some res) : dk_J p l e rm_Model_where s m args below meth c g A Q 4 0 0 0 [(0, .ref (am 0)), (1, .int x1), (2, .int x2), (3, .int x3)] [] (wM g am S) := by
  unfold B_Model_where_0 at hF
  refine dk_aload_n (k := 0) (i := 0) X 0 rfl rfl d_Model_where_0 ?_
  refine dk_iload_n (k := 1) (i := 1) X 1 rfl rfl d_Model_where_1 ?_
  refine dk_callVi X v_Model_isBeast [.int x1] (c_Model_isBeast l g am n x1 S) 0 (oM_Model g am S) rfl rfl m_Model_158 rfl rfl ⟨rfl, rfl, Nat.le_of_ble_eq_true rfl, Nat.le_of_ble_eq_true rfl, Nat.le_refl _, Nat.le_refl _⟩ (Nat.le_of_ble_eq_true rfl) d_Model_where_2 hF (fun r2 S1 hF => ?_)
  refine dk_if_ne (tgt := 11) X (by decide) d_Model_where_5 hF (fun hF => ?_) (fun hF => ?_)
  · refine dk_iload_n (k := 2) (i := 2) X 2 rfl rfl d_Model_where_11 ?_
    refine dk_iconst (v := 0) X (by decide) d_Model_where_12 ?_
    refine dk_aload_n (k := 0) (i := 0) X 0 rfl rfl d_Model_where_13 ?_
    refine dk_get X q_Model 0 5 (by decide) (oM_Model g am S1) rfl f_Model_151 d_Model_where_14 ?_
    refine dk_callSi X v_Model_in [.int x2, .int (0 : Int32), .int (S1 5 0)] (c_Model_in l g am n x2 (0 : Int32) (S1 5 0) S1) m_Model_144 rfl rfl ⟨rfl, rfl, Nat.le_of_ble_eq_true rfl, Nat.le_of_ble_eq_true rfl, Nat.le_refl _, Nat.le_refl _⟩ (Nat.le_of_ble_eq_true rfl) d_Model_where_17 hF (fun r4 S3 hF => ?_)
    refine dk_if_eq (tgt := 32) X (by decide) d_Model_where_20 hF (fun hF => ?_) (fun hF => ?_)
    · refine dk_bipush (v := -7) X (by decide) d_Model_where_32 ?_
      exact dk_reti hR hF d_Model_where_34
    · refine dk_iload_n (k := 3) (i := 3) X 3 rfl rfl d_Model_where_23 ?_
      refine dk_iconst (v := 0) X (by decide) d_Model_where_24 ?_
      refine dk_iconst (v := 2) X (by decide) d_Model_where_25 ?_
      refine dk_callSi X v_Model_in [.int x3, .int (0 : Int32), .int (2 : Int32)] (c_Model_in l g am n x3 (0 : Int32) (2 : Int32) S3) m_Model_144 rfl rfl ⟨rfl, rfl, Nat.le_of_ble_eq_true rfl, Nat.le_of_ble_eq_true rfl, Nat.le_refl _, Nat.le_refl _⟩ (Nat.le_of_ble_eq_true rfl) d_Model_where_26 hF (fun r6 S5 hF => ?_)
      refine dk_if_ne (tgt := 35) X (by decide) d_Model_where_29 hF (fun hF => ?_) (fun hF => ?_)
      · refine dk_aload_n (k := 0) (i := 0) X 0 rfl rfl d_Model_where_35 ?_
        refine dk_iload_n (k := 2) (i := 2) X 2 rfl rfl d_Model_where_36 ?_
        refine dk_iconst (v := 0) X (by decide) d_Model_where_37 ?_
        refine dk_callVv X v_Model_works [.int x2, .int (0 : Int32)] (c_Model_works l g am n x2 (0 : Int32) S5) 0 (oM_Model g am S5) rfl rfl m_Model_280 rfl rfl ⟨rfl, rfl, Nat.le_of_ble_eq_true rfl, Nat.le_of_ble_eq_true rfl, Nat.le_refl _, Nat.le_refl _⟩ (Nat.le_of_ble_eq_true rfl) d_Model_where_38 hF (fun S7 hF => ?_)
        refine dk_iload_n (k := 3) (i := 3) X 3 rfl rfl d_Model_where_41 ?_
        refine dk_if_ne (tgt := 54) X (by decide) d_Model_where_42 hF (fun hF => ?_) (fun hF => ?_)
        · refine dk_iload_n (k := 3) (i := 3) X 3 rfl rfl d_Model_where_54 ?_
          refine dk_iconst (v := 1) X (by decide) d_Model_where_55 ?_
          refine dk_icmp_ne (tgt := 68) X (by decide) d_Model_where_56 hF (fun hF => ?_) (fun hF => ?_)
          · refine dk_aload_n (k := 0) (i := 0) X 0 rfl rfl d_Model_where_68 ?_
            refine dk_get X q_Model 0 29 (by decide) (oM_Model g am S7) rfl f_Model_81 d_Model_where_69 ?_
            refine dk_iload_n (k := 1) (i := 1) X 1 rfl rfl d_Model_where_72 ?_
            refine dk_zald X 23 (aM_23 g am S7) d_Model_where_73 hF (fun v9 hF => ?_)
            refine dk_if_eq (tgt := 81) X (by decide) d_Model_where_74 hF (fun hF => ?_) (fun hF => ?_)
            · refine dk_iconst (v := 0) X (by decide) d_Model_where_81 ?_
              exact dk_reti hR hF d_Model_where_82
            · refine dk_iconst (v := 1) X (by decide) d_Model_where_77 ?_
              refine dk_goto (tgt := 82) X (by decide) d_Model_where_78 ?_
              exact dk_reti hR hF d_Model_where_82
          · refine dk_aload_n (k := 0) (i := 0) X 0 rfl rfl d_Model_where_59 ?_
            refine dk_get X q_Model 0 28 (by decide) (oM_Model g am S7) rfl f_Model_78 d_Model_where_60 ?_
            refine dk_iload_n (k := 1) (i := 1) X 1 rfl rfl d_Model_where_63 ?_
            refine dk_iald X 22 (aM_22 g am S7) d_Model_where_64 hF (fun v10 hF => ?_)
            refine dk_goto (tgt := 82) X (by decide) d_Model_where_65 ?_
            exact dk_reti hR hF d_Model_where_82
        · refine dk_aload_n (k := 0) (i := 0) X 0 rfl rfl d_Model_where_45 ?_
          refine dk_get X q_Model 0 27 (by decide) (oM_Model g am S7) rfl f_Model_75 d_Model_where_46 ?_
          refine dk_iload_n (k := 1) (i := 1) X 1 rfl rfl d_Model_where_49 ?_
          refine dk_iald X 21 (aM_21 g am S7) d_Model_where_50 hF (fun v11 hF => ?_)
          refine dk_goto (tgt := 82) X (by decide) d_Model_where_51 ?_
          exact dk_reti hR hF d_Model_where_82
      · refine dk_bipush (v := -7) X (by decide) d_Model_where_32 ?_
        exact dk_reti hR hF d_Model_where_34
  · refine dk_bipush (v := -5) X (by decide) d_Model_where_8 ?_
    exact dk_reti hR hF d_Model_where_10
def F_Model_where (n : Nat) (x1 : Int32) (x2 : Int32) (x3 : Int32) (S : dk_S) : Option (Int32 × dk_S) := B_Model_where_0 n x1 x2 x3 S
theorem c_Model_where (l : Launch) (g : dk_G) (am : Nat → Nat) (n : Nat) (x1 : Int32) (x2 : Int32) (x3 : Int32)  (S : dk_S) : dk_Mi l g y_Model_where b_Model_where 4 rm_Model_where (some .int) [.ref (am 0), .int x1, .int x2, .int x3] (wM g am) S (F_Model_where n x1 x2 x3 S) := dk_enteri (by decide) (Nat.le_of_ble_eq_true rfl) (fun p e s m args below meth c A Q res hF X hR => (kb_Model_where_0 (n := n) X hR  hF))
abbrev b_Model_nobodyOf : ByteArray := prog_11_method_50_code
def y_Model_nobodyOf : MethodName := ⟨R_Model, "nobodyOf", "(I)I"⟩
theorem d_Model_nobodyOf_0 : decode b_Model_nobodyOf 0 = .ok (.iconst 0, 1) := by decide +kernel
theorem d_Model_nobodyOf_1 : decode b_Model_nobodyOf 1 = .ok (.istore_n 2, 1) := by decide +kernel
theorem d_Model_nobodyOf_2 : decode b_Model_nobodyOf 2 = .ok (.iconst 0, 1) := by decide +kernel
theorem d_Model_nobodyOf_3 : decode b_Model_nobodyOf 3 = .ok (.istore_n 3, 1) := by decide +kernel
theorem d_Model_nobodyOf_4 : decode b_Model_nobodyOf 4 = .ok (.iload_n 3, 1) := by decide +kernel
theorem d_Model_nobodyOf_5 : decode b_Model_nobodyOf 5 = .ok (.aload_n 0, 1) := by decide +kernel
theorem d_Model_nobodyOf_6 : decode b_Model_nobodyOf 6 = .ok (.getfield 151, 3) := by decide +kernel
theorem d_Model_nobodyOf_9 : decode b_Model_nobodyOf 9 = .ok (.if_icmp .gt 32, 3) := by decide +kernel
theorem d_Model_nobodyOf_12 : decode b_Model_nobodyOf 12 = .ok (.aload_n 0, 1) := by decide +kernel
theorem d_Model_nobodyOf_13 : decode b_Model_nobodyOf 13 = .ok (.iload_n 3, 1) := by decide +kernel
theorem d_Model_nobodyOf_14 : decode b_Model_nobodyOf 14 = .ok (.iconst 0, 1) := by decide +kernel
theorem d_Model_nobodyOf_15 : decode b_Model_nobodyOf 15 = .ok (.invokevirtual 280, 3) := by decide +kernel
theorem d_Model_nobodyOf_18 : decode b_Model_nobodyOf 18 = .ok (.iload_n 2, 1) := by decide +kernel
theorem d_Model_nobodyOf_19 : decode b_Model_nobodyOf 19 = .ok (.aload_n 0, 1) := by decide +kernel
theorem d_Model_nobodyOf_20 : decode b_Model_nobodyOf 20 = .ok (.iload_n 1, 1) := by decide +kernel
theorem d_Model_nobodyOf_21 : decode b_Model_nobodyOf 21 = .ok (.invokevirtual 277, 3) := by decide +kernel
theorem d_Model_nobodyOf_24 : decode b_Model_nobodyOf 24 = .ok (.iconst (-1), 1) := by decide +kernel
theorem d_Model_nobodyOf_25 : decode b_Model_nobodyOf 25 = .ok (.if_icmp .ne 7, 3) := by decide +kernel
theorem d_Model_nobodyOf_28 : decode b_Model_nobodyOf 28 = .ok (.iconst 1, 1) := by decide +kernel
theorem d_Model_nobodyOf_29 : decode b_Model_nobodyOf 29 = .ok (.goto 4, 3) := by decide +kernel
theorem d_Model_nobodyOf_32 : decode b_Model_nobodyOf 32 = .ok (.iconst 0, 1) := by decide +kernel
theorem d_Model_nobodyOf_33 : decode b_Model_nobodyOf 33 = .ok (.iadd, 1) := by decide +kernel
theorem d_Model_nobodyOf_34 : decode b_Model_nobodyOf 34 = .ok (.istore_n 2, 1) := by decide +kernel
theorem d_Model_nobodyOf_35 : decode b_Model_nobodyOf 35 = .ok (.iinc 3 1, 3) := by decide +kernel
theorem d_Model_nobodyOf_38 : decode b_Model_nobodyOf 38 = .ok (.goto (-34), 3) := by decide +kernel
theorem d_Model_nobodyOf_41 : decode b_Model_nobodyOf 41 = .ok (.iload_n 2, 1) := by decide +kernel
theorem d_Model_nobodyOf_42 : decode b_Model_nobodyOf 42 = .ok (.ireturn, 1) := by decide +kernel
theorem v_Model_nobodyOf : dk_Yv y_Model_nobodyOf b_Model_nobodyOf 4 (some .int) 1 := ⟨dk_in (List.mem_of_getElem? (i := 1308) (by decide +kernel)) rfl, dk_in (List.mem_of_getElem? (i := 60) (by decide +kernel)) rfl, dk_in (List.mem_of_getElem? (i := 75) (by decide +kernel)) rfl, dk_in (List.mem_of_getElem? (i := 1309) (by decide +kernel)) rfl, by decide +kernel, by decide +kernel, by decide +kernel⟩
abbrev rm_Model_nobodyOf : Room := { frames := 5, cells := 0, slots := 0, locals := 116 }
def B_Model_nobodyOf_33 (n : Nat) (k4 : Int32 → Int32 → Int32 → dk_S → Option (Int32 × dk_S)) (x1 : Int32) (x3 : Int32) (u0 : Int32) (u1 : Int32) (S : dk_S) : Option (Int32 × dk_S) :=
  k4 x1 (u0 + u1) (x3 + (1 : Int32)) S
set_option maxRecDepth 20000 in
theorem kb_Model_nobodyOf_33 {p : Program} {l : Launch} {e : Env} {s : State} {m : MethodId} {args : Array Value} {below : List Frame} {meth : Method} {c : Code} {g : dk_G} {A : Nat → Prop} {Q : State → Prop} {am : Nat → Nat} {n : Nat} {res : (Int32 × dk_S)} (X : dk_X p s m args meth c b_Model_nobodyOf 4 R_Model (some .int) g A) (hR : dk_Ri p l e rm_Model_nobodyOf s m args below meth c g A Q 4 b_Model_nobodyOf (some .int) (wM g am) res) {k4 : Int32 → Int32 → Int32 → dk_S → Option (Int32 × dk_S)} (hk4 : ∀ (x1 : Int32) (x2 : Int32) (x3 : Int32)  (S : dk_S), k4 x1 x2 x3 S = some res → dk_J p l e rm_Model_nobodyOf s m args below meth c g A Q 4 0 0 4 [(0, .ref (am 0)), (1, .int x1), (2, .int x2), (3, .int x3)] [] (wM g am S)) {x1 : Int32} {x3 : Int32} {u0 : Int32} {u1 : Int32} {S : dk_S}  (hF : B_Model_nobodyOf_33 n k4 x1 x3 u0 u1 S = some res) : dk_J p l e rm_Model_nobodyOf s m args below meth c g A Q 4 0 0 33 [(0, .ref (am 0)), (1, .int x1), (3, .int x3)] [.int u1, .int u0] (wM g am S) := by
  unfold B_Model_nobodyOf_33 at hF
  refine dk_iadd X d_Model_nobodyOf_33 ?_
  refine dk_istore_n (k := 2) (i := 2) (lv' := [(2, .int (u0 + u1)), (0, .ref (am 0)), (1, .int x1), (3, .int x3)]) X rfl (by decide) rfl d_Model_nobodyOf_34 ?_
  refine dk_iinc (i := 3) (v := (x3 + (1 : Int32))) (lv' := [(3, .int (x3 + (1 : Int32))), (2, .int (u0 + u1)), (0, .ref (am 0)), (1, .int x1)]) X 3 rfl (dk_ii _ (by decide)) (by decide) rfl d_Model_nobodyOf_35 ?_
  refine dk_goto (tgt := 4) X (by decide) d_Model_nobodyOf_38 ?_
  exact dk_sub [2, 3, 1, 0] rfl (hk4 x1 (u0 + u1) (x3 + (1 : Int32)) S hF)
def B_Model_nobodyOf_4b (n : Nat) (k4 : Int32 → Int32 → Int32 → dk_S → Option (Int32 × dk_S)) (x1 : Int32) (x2 : Int32) (x3 : Int32) (S : dk_S) : Option (Int32 × dk_S) :=
  if (S 5 0) < x3 then (some (x2, S)) else (dk_cv (F_Model_works n x3 (0 : Int32) S) fun S1 => dk_c (F_Model_winner n x1 S1) fun r4 S3 => if ¬ r4 = (-1 : Int32) then (B_Model_nobodyOf_33 n k4 x1 x3 x2 (0 : Int32) S3) else (B_Model_nobodyOf_33 n k4 x1 x3 x2 (1 : Int32) S3))
set_option maxRecDepth 20000 in
theorem kb_Model_nobodyOf_4b {p : Program} {l : Launch} {e : Env} {s : State} {m : MethodId} {args : Array Value} {below : List Frame} {meth : Method} {c : Code} {g : dk_G} {A : Nat → Prop} {Q : State → Prop} {am : Nat → Nat} {n : Nat} {res : (Int32 × dk_S)} (X : dk_X p s m args meth c b_Model_nobodyOf 4 R_Model (some .int) g A) (hR : dk_Ri p l e rm_Model_nobodyOf s m args below meth c g A Q 4 b_Model_nobodyOf (some .int) (wM g am) res) {k4 : Int32 → Int32 → Int32 → dk_S → Option (Int32 × dk_S)} (hk4 : ∀ (x1 : Int32) (x2 : Int32) (x3 : Int32)  (S : dk_S), k4 x1 x2 x3 S = some res → dk_J p l e rm_Model_nobodyOf s m args below meth c g A Q 4 0 0 4 [(0, .ref (am 0)), (1, .int x1), (2, .int x2), (3, .int x3)] [] (wM g am S)) {x1 : Int32} {x2 : Int32} {x3 : Int32} {S : dk_S}  (hF : B_Model_nobodyOf_4b n k4 x1 x2 x3 S = some res) : dk_J p l e rm_Model_nobodyOf s m args below meth c g A Q 4 0 0 4 [(0, .ref (am 0)), (1, .int x1), (2, .int x2), (3, .int x3)] [] (wM g am S) := by
  unfold B_Model_nobodyOf_4b at hF
  refine dk_iload_n (k := 3) (i := 3) X 3 rfl rfl d_Model_nobodyOf_4 ?_
  refine dk_aload_n (k := 0) (i := 0) X 0 rfl rfl d_Model_nobodyOf_5 ?_
  refine dk_get X q_Model 0 5 (by decide) (oM_Model g am S) rfl f_Model_151 d_Model_nobodyOf_6 ?_
  refine dk_icmp_gt (tgt := 41) X (by decide) d_Model_nobodyOf_9 hF (fun hF => ?_) (fun hF => ?_)
  · refine dk_iload_n (k := 2) (i := 2) X 2 rfl rfl d_Model_nobodyOf_41 ?_
    exact dk_reti hR hF d_Model_nobodyOf_42
  · refine dk_aload_n (k := 0) (i := 0) X 0 rfl rfl d_Model_nobodyOf_12 ?_
    refine dk_iload_n (k := 3) (i := 3) X 3 rfl rfl d_Model_nobodyOf_13 ?_
    refine dk_iconst (v := 0) X (by decide) d_Model_nobodyOf_14 ?_
    refine dk_callVv X v_Model_works [.int x3, .int (0 : Int32)] (c_Model_works l g am n x3 (0 : Int32) S) 0 (oM_Model g am S) rfl rfl m_Model_280 rfl rfl ⟨rfl, rfl, Nat.le_of_ble_eq_true rfl, Nat.le_of_ble_eq_true rfl, Nat.le_refl _, Nat.le_refl _⟩ (Nat.le_of_ble_eq_true rfl) d_Model_nobodyOf_15 hF (fun S1 hF => ?_)
    refine dk_iload_n (k := 2) (i := 2) X 2 rfl rfl d_Model_nobodyOf_18 ?_
    refine dk_aload_n (k := 0) (i := 0) X 0 rfl rfl d_Model_nobodyOf_19 ?_
    refine dk_iload_n (k := 1) (i := 1) X 1 rfl rfl d_Model_nobodyOf_20 ?_
    refine dk_callVi X v_Model_winner [.int x1] (c_Model_winner l g am n x1 S1) 0 (oM_Model g am S1) rfl rfl m_Model_277 rfl rfl ⟨rfl, rfl, Nat.le_of_ble_eq_true rfl, Nat.le_of_ble_eq_true rfl, Nat.le_refl _, Nat.le_refl _⟩ (Nat.le_of_ble_eq_true rfl) d_Model_nobodyOf_21 hF (fun r4 S3 hF => ?_)
    refine dk_iconst (v := -1) X (by decide) d_Model_nobodyOf_24 ?_
    refine dk_icmp_ne (tgt := 32) X (by decide) d_Model_nobodyOf_25 hF (fun hF => ?_) (fun hF => ?_)
    · refine dk_iconst (v := 0) X (by decide) d_Model_nobodyOf_32 ?_
      exact dk_sub [0, 1, 3] rfl (kb_Model_nobodyOf_33 (n := n) X hR hk4  hF)
    · refine dk_iconst (v := 1) X (by decide) d_Model_nobodyOf_28 ?_
      refine dk_goto (tgt := 33) X (by decide) d_Model_nobodyOf_29 ?_
      exact dk_sub [0, 1, 3] rfl (kb_Model_nobodyOf_33 (n := n) X hR hk4  hF)
def B_Model_nobodyOf_4 (n : Nat)  : Nat → Int32 → Int32 → Int32 → dk_S → Option (Int32 × dk_S)
  | 0 => fun _ _ _ _ => none
  | q + 1 => fun x1 x2 x3 S => B_Model_nobodyOf_4b n (fun x1 x2 x3 S => B_Model_nobodyOf_4 n  q x1 x2 x3 S) x1 x2 x3 S
theorem kb_Model_nobodyOf_4 {p : Program} {l : Launch} {e : Env} {s : State} {m : MethodId} {args : Array Value} {below : List Frame} {meth : Method} {c : Code} {g : dk_G} {A : Nat → Prop} {Q : State → Prop} {am : Nat → Nat} {n : Nat} {res : (Int32 × dk_S)} (X : dk_X p s m args meth c b_Model_nobodyOf 4 R_Model (some .int) g A) (hR : dk_Ri p l e rm_Model_nobodyOf s m args below meth c g A Q 4 b_Model_nobodyOf (some .int) (wM g am) res)  : ∀ (q : Nat) (x1 : Int32) (x2 : Int32) (x3 : Int32)  (S : dk_S), B_Model_nobodyOf_4 n  q x1 x2 x3 S = some res → dk_J p l e rm_Model_nobodyOf s m args below meth c g A Q 4 0 0 4 [(0, .ref (am 0)), (1, .int x1), (2, .int x2), (3, .int x3)] [] (wM g am S) := by
  intro q
  induction q with
  | zero => intro x1 x2 x3  S hF; cases hF
  | succ q ih => intro x1 x2 x3  S hF; exact kb_Model_nobodyOf_4b (n := n) X hR ih  hF
def B_Model_nobodyOf_0 (n : Nat)  (x1 : Int32) (S : dk_S) : Option (Int32 × dk_S) :=
  B_Model_nobodyOf_4 n  n x1 (0 : Int32) (0 : Int32) S
set_option maxRecDepth 20000 in
theorem kb_Model_nobodyOf_0 {p : Program} {l : Launch} {e : Env} {s : State} {m : MethodId} {args : Array Value} {below : List Frame} {meth : Method} {c : Code} {g : dk_G} {A : Nat → Prop} {Q : State → Prop} {am : Nat → Nat} {n : Nat} {res : (Int32 × dk_S)} (X : dk_X p s m args meth c b_Model_nobodyOf 4 R_Model (some .int) g A) (hR : dk_Ri p l e rm_Model_nobodyOf s m args below meth c g A Q 4 b_Model_nobodyOf (some .int) (wM g am) res)  {x1 : Int32} {S : dk_S}  (hF : B_Model_nobodyOf_0 n  x1 S = some res) : dk_J p l e rm_Model_nobodyOf s m args below meth c g A Q 4 0 0 0 [(0, .ref (am 0)), (1, .int x1)] [] (wM g am S) := by
  unfold B_Model_nobodyOf_0 at hF
  refine dk_iconst (v := 0) X (by decide) d_Model_nobodyOf_0 ?_
  refine dk_istore_n (k := 2) (i := 2) (lv' := [(2, .int (0 : Int32)), (0, .ref (am 0)), (1, .int x1)]) X rfl (by decide) rfl d_Model_nobodyOf_1 ?_
  refine dk_iconst (v := 0) X (by decide) d_Model_nobodyOf_2 ?_
  refine dk_istore_n (k := 3) (i := 3) (lv' := [(3, .int (0 : Int32)), (2, .int (0 : Int32)), (0, .ref (am 0)), (1, .int x1)]) X rfl (by decide) rfl d_Model_nobodyOf_3 ?_
  exact dk_sub [2, 3, 1, 0] rfl (kb_Model_nobodyOf_4 (n := n) X hR  n x1 (0 : Int32) (0 : Int32) S hF)
def F_Model_nobodyOf (n : Nat) (x1 : Int32) (S : dk_S) : Option (Int32 × dk_S) := B_Model_nobodyOf_0 n x1 S
theorem c_Model_nobodyOf (l : Launch) (g : dk_G) (am : Nat → Nat) (n : Nat) (x1 : Int32)  (S : dk_S) : dk_Mi l g y_Model_nobodyOf b_Model_nobodyOf 4 rm_Model_nobodyOf (some .int) [.ref (am 0), .int x1] (wM g am) S (F_Model_nobodyOf n x1 S) := dk_enteri (by decide) (Nat.le_of_ble_eq_true rfl) (fun p e s m args below meth c A Q res hF X hR => (kb_Model_nobodyOf_0 (n := n) X hR  hF))
abbrev b_Model_nobody : ByteArray := prog_11_method_51_code
def y_Model_nobody : MethodName := ⟨R_Model, "nobody", "(I)I"⟩
theorem d_Model_nobody_0 : decode b_Model_nobody 0 = .ok (.aload_n 0, 1) := by decide +kernel
theorem d_Model_nobody_1 : decode b_Model_nobody 1 = .ok (.iload_n 1, 1) := by decide +kernel
theorem d_Model_nobody_2 : decode b_Model_nobody 2 = .ok (.invokevirtual 158, 3) := by decide +kernel
theorem d_Model_nobody_5 : decode b_Model_nobody 5 = .ok (.ifCond .eq 11, 3) := by decide +kernel
theorem d_Model_nobody_8 : decode b_Model_nobody 8 = .ok (.aload_n 0, 1) := by decide +kernel
theorem d_Model_nobody_9 : decode b_Model_nobody 9 = .ok (.iload_n 1, 1) := by decide +kernel
theorem d_Model_nobody_10 : decode b_Model_nobody 10 = .ok (.invokevirtual 287, 3) := by decide +kernel
theorem d_Model_nobody_13 : decode b_Model_nobody 13 = .ok (.goto 5, 3) := by decide +kernel
theorem d_Model_nobody_16 : decode b_Model_nobody 16 = .ok (.bipush (-5), 2) := by decide +kernel
theorem d_Model_nobody_18 : decode b_Model_nobody 18 = .ok (.ireturn, 1) := by decide +kernel
theorem v_Model_nobody : dk_Yv y_Model_nobody b_Model_nobody 2 (some .int) 1 := ⟨dk_in (List.mem_of_getElem? (i := 1303) (by decide +kernel)) rfl, dk_in (List.mem_of_getElem? (i := 1304) (by decide +kernel)) rfl, dk_in (List.mem_of_getElem? (i := 75) (by decide +kernel)) rfl, dk_in (List.mem_of_getElem? (i := 1305) (by decide +kernel)) rfl, by decide +kernel, by decide +kernel, by decide +kernel⟩
abbrev rm_Model_nobody : Room := { frames := 6, cells := 0, slots := 0, locals := 139 }
theorem m_Model_287 : Cond.methodLink R_Model 287 y_Model_nobodyOf ∈ dk_tb := dk_in (List.mem_of_getElem? (i := 1306) (by decide +kernel)) rfl
def B_Model_nobody_0 (n : Nat)  (x1 : Int32) (S : dk_S) : Option (Int32 × dk_S) :=
  dk_c (F_Model_isBeast n x1 S) fun r2 S1 => if r2 = 0 then (some ((-5 : Int32), S1)) else (dk_c (F_Model_nobodyOf n x1 S1) fun r4 S3 => some (r4, S3))
set_option maxRecDepth 20000 in
theorem kb_Model_nobody_0 {p : Program} {l : Launch} {e : Env} {s : State} {m : MethodId} {args : Array Value} {below : List Frame} {meth : Method} {c : Code} {g : dk_G} {A : Nat → Prop} {Q : State → Prop} {am : Nat → Nat} {n : Nat} {res : (Int32 × dk_S)} (X : dk_X p s m args meth c b_Model_nobody 2 R_Model (some .int) g A) (hR : dk_Ri p l e rm_Model_nobody s m args below meth c g A Q 2 b_Model_nobody (some .int) (wM g am) res)  {x1 : Int32} {S : dk_S}  (hF : B_Model_nobody_0 n  x1 S = some res) : dk_J p l e rm_Model_nobody s m args below meth c g A Q 2 0 0 0 [(0, .ref (am 0)), (1, .int x1)] [] (wM g am S) := by
  unfold B_Model_nobody_0 at hF
  refine dk_aload_n (k := 0) (i := 0) X 0 rfl rfl d_Model_nobody_0 ?_
  refine dk_iload_n (k := 1) (i := 1) X 1 rfl rfl d_Model_nobody_1 ?_
  refine dk_callVi X v_Model_isBeast [.int x1] (c_Model_isBeast l g am n x1 S) 0 (oM_Model g am S) rfl rfl m_Model_158 rfl rfl ⟨rfl, rfl, Nat.le_of_ble_eq_true rfl, Nat.le_of_ble_eq_true rfl, Nat.le_refl _, Nat.le_refl _⟩ (Nat.le_of_ble_eq_true rfl) d_Model_nobody_2 hF (fun r2 S1 hF => ?_)
  refine dk_if_eq (tgt := 16) X (by decide) d_Model_nobody_5 hF (fun hF => ?_) (fun hF => ?_)
  · refine dk_bipush (v := -5) X (by decide) d_Model_nobody_16 ?_
    exact dk_reti hR hF d_Model_nobody_18
  · refine dk_aload_n (k := 0) (i := 0) X 0 rfl rfl d_Model_nobody_8 ?_
    refine dk_iload_n (k := 1) (i := 1) X 1 rfl rfl d_Model_nobody_9 ?_
    refine dk_callVi X v_Model_nobodyOf [.int x1] (c_Model_nobodyOf l g am n x1 S1) 0 (oM_Model g am S1) rfl rfl m_Model_287 rfl rfl ⟨rfl, rfl, Nat.le_of_ble_eq_true rfl, Nat.le_of_ble_eq_true rfl, Nat.le_refl _, Nat.le_refl _⟩ (Nat.le_of_ble_eq_true rfl) d_Model_nobody_10 hF (fun r4 S3 hF => ?_)
    refine dk_goto (tgt := 18) X (by decide) d_Model_nobody_13 ?_
    exact dk_reti hR hF d_Model_nobody_18
def F_Model_nobody (n : Nat) (x1 : Int32) (S : dk_S) : Option (Int32 × dk_S) := B_Model_nobody_0 n x1 S
theorem c_Model_nobody (l : Launch) (g : dk_G) (am : Nat → Nat) (n : Nat) (x1 : Int32)  (S : dk_S) : dk_Mi l g y_Model_nobody b_Model_nobody 2 rm_Model_nobody (some .int) [.ref (am 0), .int x1] (wM g am) S (F_Model_nobody n x1 S) := dk_enteri (by decide) (Nat.le_of_ble_eq_true rfl) (fun p e s m args below meth c A Q res hF X hR => (kb_Model_nobody_0 (n := n) X hR  hF))
abbrev b_Model_judge : ByteArray := prog_11_method_52_code
def y_Model_judge : MethodName := ⟨R_Model, "judge", "(II)I"⟩
theorem d_Model_judge_0 : decode b_Model_judge 0 = .ok (.aload_n 0, 1) := by decide +kernel
theorem d_Model_judge_1 : decode b_Model_judge 1 = .ok (.iload_n 1, 1) := by decide +kernel
theorem d_Model_judge_2 : decode b_Model_judge 2 = .ok (.invokevirtual 158, 3) := by decide +kernel
theorem d_Model_judge_5 : decode b_Model_judge 5 = .ok (.ifCond .ne 6, 3) := by decide +kernel
theorem d_Model_judge_8 : decode b_Model_judge 8 = .ok (.bipush (-5), 2) := by decide +kernel
theorem d_Model_judge_10 : decode b_Model_judge 10 = .ok (.ireturn, 1) := by decide +kernel
theorem d_Model_judge_11 : decode b_Model_judge 11 = .ok (.iload_n 2, 1) := by decide +kernel
theorem d_Model_judge_12 : decode b_Model_judge 12 = .ok (.iconst 0, 1) := by decide +kernel
theorem d_Model_judge_13 : decode b_Model_judge 13 = .ok (.iconst 3, 1) := by decide +kernel
theorem d_Model_judge_14 : decode b_Model_judge 14 = .ok (.invokestatic 144, 3) := by decide +kernel
theorem d_Model_judge_17 : decode b_Model_judge 17 = .ok (.ifCond .ne 6, 3) := by decide +kernel
theorem d_Model_judge_20 : decode b_Model_judge 20 = .ok (.bipush (-2), 2) := by decide +kernel
theorem d_Model_judge_22 : decode b_Model_judge 22 = .ok (.ireturn, 1) := by decide +kernel
theorem d_Model_judge_23 : decode b_Model_judge 23 = .ok (.aload_n 0, 1) := by decide +kernel
theorem d_Model_judge_24 : decode b_Model_judge 24 = .ok (.getfield 90, 3) := by decide +kernel
theorem d_Model_judge_27 : decode b_Model_judge 27 = .ok (.iload_n 2, 1) := by decide +kernel
theorem d_Model_judge_28 : decode b_Model_judge 28 = .ok (.iaload, 1) := by decide +kernel
theorem d_Model_judge_29 : decode b_Model_judge 29 = .ok (.iconst (-1), 1) := by decide +kernel
theorem d_Model_judge_30 : decode b_Model_judge 30 = .ok (.if_icmp .ne 6, 3) := by decide +kernel
theorem d_Model_judge_33 : decode b_Model_judge 33 = .ok (.bipush (-11), 2) := by decide +kernel
theorem d_Model_judge_35 : decode b_Model_judge 35 = .ok (.ireturn, 1) := by decide +kernel
theorem d_Model_judge_36 : decode b_Model_judge 36 = .ok (.aload_n 0, 1) := by decide +kernel
theorem d_Model_judge_37 : decode b_Model_judge 37 = .ok (.getfield 93, 3) := by decide +kernel
theorem d_Model_judge_40 : decode b_Model_judge 40 = .ok (.iload_n 2, 1) := by decide +kernel
theorem d_Model_judge_41 : decode b_Model_judge 41 = .ok (.iaload, 1) := by decide +kernel
theorem d_Model_judge_42 : decode b_Model_judge 42 = .ok (.aload_n 0, 1) := by decide +kernel
theorem d_Model_judge_43 : decode b_Model_judge 43 = .ok (.getfield 151, 3) := by decide +kernel
theorem d_Model_judge_46 : decode b_Model_judge 46 = .ok (.iconst 1, 1) := by decide +kernel
theorem d_Model_judge_47 : decode b_Model_judge 47 = .ok (.iadd, 1) := by decide +kernel
theorem d_Model_judge_48 : decode b_Model_judge 48 = .ok (.if_icmp .eq 6, 3) := by decide +kernel
theorem d_Model_judge_51 : decode b_Model_judge 51 = .ok (.bipush (-2), 2) := by decide +kernel
theorem d_Model_judge_53 : decode b_Model_judge 53 = .ok (.ireturn, 1) := by decide +kernel
theorem d_Model_judge_54 : decode b_Model_judge 54 = .ok (.iconst 0, 1) := by decide +kernel
theorem d_Model_judge_55 : decode b_Model_judge 55 = .ok (.istore_n 3, 1) := by decide +kernel
theorem d_Model_judge_56 : decode b_Model_judge 56 = .ok (.iload_n 3, 1) := by decide +kernel
theorem d_Model_judge_57 : decode b_Model_judge 57 = .ok (.aload_n 0, 1) := by decide +kernel
theorem d_Model_judge_58 : decode b_Model_judge 58 = .ok (.getfield 151, 3) := by decide +kernel
theorem d_Model_judge_61 : decode b_Model_judge 61 = .ok (.if_icmp .gt 36, 3) := by decide +kernel
theorem d_Model_judge_64 : decode b_Model_judge 64 = .ok (.aload_n 0, 1) := by decide +kernel
theorem d_Model_judge_65 : decode b_Model_judge 65 = .ok (.iload_n 3, 1) := by decide +kernel
theorem d_Model_judge_66 : decode b_Model_judge 66 = .ok (.iconst 0, 1) := by decide +kernel
theorem d_Model_judge_67 : decode b_Model_judge 67 = .ok (.invokevirtual 280, 3) := by decide +kernel
theorem d_Model_judge_70 : decode b_Model_judge 70 = .ok (.aload_n 0, 1) := by decide +kernel
theorem d_Model_judge_71 : decode b_Model_judge 71 = .ok (.iload_n 1, 1) := by decide +kernel
theorem d_Model_judge_72 : decode b_Model_judge 72 = .ok (.invokevirtual 284, 3) := by decide +kernel
theorem d_Model_judge_75 : decode b_Model_judge 75 = .ok (.aload_n 0, 1) := by decide +kernel
theorem d_Model_judge_76 : decode b_Model_judge 76 = .ok (.getfield 96, 3) := by decide +kernel
theorem d_Model_judge_79 : decode b_Model_judge 79 = .ok (.bipush 40, 2) := by decide +kernel
theorem d_Model_judge_81 : decode b_Model_judge 81 = .ok (.iload_n 2, 1) := by decide +kernel
theorem d_Model_judge_82 : decode b_Model_judge 82 = .ok (.imul, 1) := by decide +kernel
theorem d_Model_judge_83 : decode b_Model_judge 83 = .ok (.iload_n 3, 1) := by decide +kernel
theorem d_Model_judge_84 : decode b_Model_judge 84 = .ok (.iadd, 1) := by decide +kernel
theorem d_Model_judge_85 : decode b_Model_judge 85 = .ok (.iaload, 1) := by decide +kernel
theorem d_Model_judge_86 : decode b_Model_judge 86 = .ok (.if_icmp .eq 5, 3) := by decide +kernel
theorem d_Model_judge_89 : decode b_Model_judge 89 = .ok (.iload_n 3, 1) := by decide +kernel
theorem d_Model_judge_90 : decode b_Model_judge 90 = .ok (.ireturn, 1) := by decide +kernel
theorem d_Model_judge_91 : decode b_Model_judge 91 = .ok (.iinc 3 1, 3) := by decide +kernel
theorem d_Model_judge_94 : decode b_Model_judge 94 = .ok (.goto (-38), 3) := by decide +kernel
theorem d_Model_judge_97 : decode b_Model_judge 97 = .ok (.iconst (-1), 1) := by decide +kernel
theorem d_Model_judge_98 : decode b_Model_judge 98 = .ok (.ireturn, 1) := by decide +kernel
theorem v_Model_judge : dk_Yv y_Model_judge b_Model_judge 4 (some .int) 2 := ⟨dk_in (List.mem_of_getElem? (i := 1311) (by decide +kernel)) rfl, dk_in (List.mem_of_getElem? (i := 1312) (by decide +kernel)) rfl, dk_in (List.mem_of_getElem? (i := 75) (by decide +kernel)) rfl, dk_in (List.mem_of_getElem? (i := 1313) (by decide +kernel)) rfl, by decide +kernel, by decide +kernel, by decide +kernel⟩
abbrev rm_Model_judge : Room := { frames := 6, cells := 0, slots := 0, locals := 138 }
theorem f_Model_90 : Cond.fieldLink R_Model 90 (T_Model 37).1 (T_Model 37).2.1 (T_Model 37).2.2.1 ∈ dk_tb := dk_in (List.mem_of_getElem? (i := 1001) (by decide +kernel)) rfl
theorem f_Model_93 : Cond.fieldLink R_Model 93 (T_Model 38).1 (T_Model 38).2.1 (T_Model 38).2.2.1 ∈ dk_tb := dk_in (List.mem_of_getElem? (i := 1002) (by decide +kernel)) rfl
theorem f_Model_96 : Cond.fieldLink R_Model 96 (T_Model 39).1 (T_Model 39).2.1 (T_Model 39).2.2.1 ∈ dk_tb := dk_in (List.mem_of_getElem? (i := 1003) (by decide +kernel)) rfl
def B_Model_judge_56b (n : Nat) (k56 : Int32 → Int32 → Int32 → dk_S → Option (Int32 × dk_S)) (x1 : Int32) (x2 : Int32) (x3 : Int32) (S : dk_S) : Option (Int32 × dk_S) :=
  if (S 5 0) < x3 then (some ((-1 : Int32), S)) else (dk_cv (F_Model_works n x3 (0 : Int32) S) fun S1 => dk_c (F_Model_whose n x1 S1) fun r4 S3 => dk_r 160 (S3 39) (((40 : Int32) * x2) + x3) fun v5 => if r4 = v5 then (k56 x1 x2 (x3 + (1 : Int32)) S3) else (some (x3, S3)))
set_option maxRecDepth 20000 in
theorem kb_Model_judge_56b {p : Program} {l : Launch} {e : Env} {s : State} {m : MethodId} {args : Array Value} {below : List Frame} {meth : Method} {c : Code} {g : dk_G} {A : Nat → Prop} {Q : State → Prop} {am : Nat → Nat} {n : Nat} {res : (Int32 × dk_S)} (X : dk_X p s m args meth c b_Model_judge 4 R_Model (some .int) g A) (hR : dk_Ri p l e rm_Model_judge s m args below meth c g A Q 4 b_Model_judge (some .int) (wM g am) res) {k56 : Int32 → Int32 → Int32 → dk_S → Option (Int32 × dk_S)} (hk56 : ∀ (x1 : Int32) (x2 : Int32) (x3 : Int32)  (S : dk_S), k56 x1 x2 x3 S = some res → dk_J p l e rm_Model_judge s m args below meth c g A Q 4 0 0 56 [(0, .ref (am 0)), (1, .int x1), (2, .int x2), (3, .int x3)] [] (wM g am S)) {x1 : Int32} {x2 : Int32} {x3 : Int32} {S : dk_S}  (hF : B_Model_judge_56b n k56 x1 x2 x3 S = some res) : dk_J p l e rm_Model_judge s m args below meth c g A Q 4 0 0 56 [(0, .ref (am 0)), (1, .int x1), (2, .int x2), (3, .int x3)] [] (wM g am S) := by
  unfold B_Model_judge_56b at hF
  refine dk_iload_n (k := 3) (i := 3) X 3 rfl rfl d_Model_judge_56 ?_
  refine dk_aload_n (k := 0) (i := 0) X 0 rfl rfl d_Model_judge_57 ?_
  refine dk_get X q_Model 0 5 (by decide) (oM_Model g am S) rfl f_Model_151 d_Model_judge_58 ?_
  refine dk_icmp_gt (tgt := 97) X (by decide) d_Model_judge_61 hF (fun hF => ?_) (fun hF => ?_)
  · refine dk_iconst (v := -1) X (by decide) d_Model_judge_97 ?_
    exact dk_reti hR hF d_Model_judge_98
  · refine dk_aload_n (k := 0) (i := 0) X 0 rfl rfl d_Model_judge_64 ?_
    refine dk_iload_n (k := 3) (i := 3) X 3 rfl rfl d_Model_judge_65 ?_
    refine dk_iconst (v := 0) X (by decide) d_Model_judge_66 ?_
    refine dk_callVv X v_Model_works [.int x3, .int (0 : Int32)] (c_Model_works l g am n x3 (0 : Int32) S) 0 (oM_Model g am S) rfl rfl m_Model_280 rfl rfl ⟨rfl, rfl, Nat.le_of_ble_eq_true rfl, Nat.le_of_ble_eq_true rfl, Nat.le_refl _, Nat.le_refl _⟩ (Nat.le_of_ble_eq_true rfl) d_Model_judge_67 hF (fun S1 hF => ?_)
    refine dk_aload_n (k := 0) (i := 0) X 0 rfl rfl d_Model_judge_70 ?_
    refine dk_iload_n (k := 1) (i := 1) X 1 rfl rfl d_Model_judge_71 ?_
    refine dk_callVi X v_Model_whose [.int x1] (c_Model_whose l g am n x1 S1) 0 (oM_Model g am S1) rfl rfl m_Model_284 rfl rfl ⟨rfl, rfl, Nat.le_of_ble_eq_true rfl, Nat.le_of_ble_eq_true rfl, Nat.le_refl _, Nat.le_refl _⟩ (Nat.le_of_ble_eq_true rfl) d_Model_judge_72 hF (fun r4 S3 hF => ?_)
    refine dk_aload_n (k := 0) (i := 0) X 0 rfl rfl d_Model_judge_75 ?_
    refine dk_get X q_Model 0 39 (by decide) (oM_Model g am S3) rfl f_Model_96 d_Model_judge_76 ?_
    refine dk_bipush (v := 40) X (by decide) d_Model_judge_79 ?_
    refine dk_iload_n (k := 2) (i := 2) X 2 rfl rfl d_Model_judge_81 ?_
    refine dk_imul X d_Model_judge_82 ?_
    refine dk_iload_n (k := 3) (i := 3) X 3 rfl rfl d_Model_judge_83 ?_
    refine dk_iadd X d_Model_judge_84 ?_
    refine dk_iald X 28 (aM_28 g am S3) d_Model_judge_85 hF (fun v5 hF => ?_)
    refine dk_icmp_eq (tgt := 91) X (by decide) d_Model_judge_86 hF (fun hF => ?_) (fun hF => ?_)
    · refine dk_iinc (i := 3) (v := (x3 + (1 : Int32))) (lv' := [(3, .int (x3 + (1 : Int32))), (0, .ref (am 0)), (1, .int x1), (2, .int x2)]) X 3 rfl (dk_ii _ (by decide)) (by decide) rfl d_Model_judge_91 ?_
      refine dk_goto (tgt := 56) X (by decide) d_Model_judge_94 ?_
      exact dk_sub [1, 2, 3, 0] rfl (hk56 x1 x2 (x3 + (1 : Int32)) S3 hF)
    · refine dk_iload_n (k := 3) (i := 3) X 3 rfl rfl d_Model_judge_89 ?_
      exact dk_reti hR hF d_Model_judge_90
def B_Model_judge_56 (n : Nat)  : Nat → Int32 → Int32 → Int32 → dk_S → Option (Int32 × dk_S)
  | 0 => fun _ _ _ _ => none
  | q + 1 => fun x1 x2 x3 S => B_Model_judge_56b n (fun x1 x2 x3 S => B_Model_judge_56 n  q x1 x2 x3 S) x1 x2 x3 S
theorem kb_Model_judge_56 {p : Program} {l : Launch} {e : Env} {s : State} {m : MethodId} {args : Array Value} {below : List Frame} {meth : Method} {c : Code} {g : dk_G} {A : Nat → Prop} {Q : State → Prop} {am : Nat → Nat} {n : Nat} {res : (Int32 × dk_S)} (X : dk_X p s m args meth c b_Model_judge 4 R_Model (some .int) g A) (hR : dk_Ri p l e rm_Model_judge s m args below meth c g A Q 4 b_Model_judge (some .int) (wM g am) res)  : ∀ (q : Nat) (x1 : Int32) (x2 : Int32) (x3 : Int32)  (S : dk_S), B_Model_judge_56 n  q x1 x2 x3 S = some res → dk_J p l e rm_Model_judge s m args below meth c g A Q 4 0 0 56 [(0, .ref (am 0)), (1, .int x1), (2, .int x2), (3, .int x3)] [] (wM g am S) := by
  intro q
  induction q with
  | zero => intro x1 x2 x3  S hF; cases hF
  | succ q ih => intro x1 x2 x3  S hF; exact kb_Model_judge_56b (n := n) X hR ih  hF
def B_Model_judge_0 (n : Nat)  (x1 : Int32) (x2 : Int32) (S : dk_S) : Option (Int32 × dk_S) :=
  dk_c (F_Model_isBeast n x1 S) fun r7 S6 => if ¬ r7 = 0 then (dk_c (F_Model_in n x2 (0 : Int32) (3 : Int32) S6) fun r9 S8 => if ¬ r9 = 0 then (dk_r 4 (S8 37) x2 fun v10 => if ¬ v10 = (-1 : Int32) then (dk_r 4 (S8 38) x2 fun v11 => if v11 = ((S8 5 0) + (1 : Int32)) then (B_Model_judge_56 n  n x1 x2 (0 : Int32) S8) else (some ((-2 : Int32), S8))) else (some ((-11 : Int32), S8))) else (some ((-2 : Int32), S8))) else (some ((-5 : Int32), S6))
set_option maxRecDepth 20000 in
theorem kb_Model_judge_0 {p : Program} {l : Launch} {e : Env} {s : State} {m : MethodId} {args : Array Value} {below : List Frame} {meth : Method} {c : Code} {g : dk_G} {A : Nat → Prop} {Q : State → Prop} {am : Nat → Nat} {n : Nat} {res : (Int32 × dk_S)} (X : dk_X p s m args meth c b_Model_judge 4 R_Model (some .int) g A) (hR : dk_Ri p l e rm_Model_judge s m args below meth c g A Q 4 b_Model_judge (some .int) (wM g am) res)  {x1 : Int32} {x2 : Int32} {S : dk_S}  (hF : B_Model_judge_0 n  x1 x2 S = some res) : dk_J p l e rm_Model_judge s m args below meth c g A Q 4 0 0 0 [(0, .ref (am 0)), (1, .int x1), (2, .int x2)] [] (wM g am S) := by
  unfold B_Model_judge_0 at hF
  refine dk_aload_n (k := 0) (i := 0) X 0 rfl rfl d_Model_judge_0 ?_
  refine dk_iload_n (k := 1) (i := 1) X 1 rfl rfl d_Model_judge_1 ?_
  refine dk_callVi X v_Model_isBeast [.int x1] (c_Model_isBeast l g am n x1 S) 0 (oM_Model g am S) rfl rfl m_Model_158 rfl rfl ⟨rfl, rfl, Nat.le_of_ble_eq_true rfl, Nat.le_of_ble_eq_true rfl, Nat.le_refl _, Nat.le_refl _⟩ (Nat.le_of_ble_eq_true rfl) d_Model_judge_2 hF (fun r7 S6 hF => ?_)
  refine dk_if_ne (tgt := 11) X (by decide) d_Model_judge_5 hF (fun hF => ?_) (fun hF => ?_)
  · refine dk_iload_n (k := 2) (i := 2) X 2 rfl rfl d_Model_judge_11 ?_
    refine dk_iconst (v := 0) X (by decide) d_Model_judge_12 ?_
    refine dk_iconst (v := 3) X (by decide) d_Model_judge_13 ?_
    refine dk_callSi X v_Model_in [.int x2, .int (0 : Int32), .int (3 : Int32)] (c_Model_in l g am n x2 (0 : Int32) (3 : Int32) S6) m_Model_144 rfl rfl ⟨rfl, rfl, Nat.le_of_ble_eq_true rfl, Nat.le_of_ble_eq_true rfl, Nat.le_refl _, Nat.le_refl _⟩ (Nat.le_of_ble_eq_true rfl) d_Model_judge_14 hF (fun r9 S8 hF => ?_)
    refine dk_if_ne (tgt := 23) X (by decide) d_Model_judge_17 hF (fun hF => ?_) (fun hF => ?_)
    · refine dk_aload_n (k := 0) (i := 0) X 0 rfl rfl d_Model_judge_23 ?_
      refine dk_get X q_Model 0 37 (by decide) (oM_Model g am S8) rfl f_Model_90 d_Model_judge_24 ?_
      refine dk_iload_n (k := 2) (i := 2) X 2 rfl rfl d_Model_judge_27 ?_
      refine dk_iald X 26 (aM_26 g am S8) d_Model_judge_28 hF (fun v10 hF => ?_)
      refine dk_iconst (v := -1) X (by decide) d_Model_judge_29 ?_
      refine dk_icmp_ne (tgt := 36) X (by decide) d_Model_judge_30 hF (fun hF => ?_) (fun hF => ?_)
      · refine dk_aload_n (k := 0) (i := 0) X 0 rfl rfl d_Model_judge_36 ?_
        refine dk_get X q_Model 0 38 (by decide) (oM_Model g am S8) rfl f_Model_93 d_Model_judge_37 ?_
        refine dk_iload_n (k := 2) (i := 2) X 2 rfl rfl d_Model_judge_40 ?_
        refine dk_iald X 27 (aM_27 g am S8) d_Model_judge_41 hF (fun v11 hF => ?_)
        refine dk_aload_n (k := 0) (i := 0) X 0 rfl rfl d_Model_judge_42 ?_
        refine dk_get X q_Model 0 5 (by decide) (oM_Model g am S8) rfl f_Model_151 d_Model_judge_43 ?_
        refine dk_iconst (v := 1) X (by decide) d_Model_judge_46 ?_
        refine dk_iadd X d_Model_judge_47 ?_
        refine dk_icmp_eq (tgt := 54) X (by decide) d_Model_judge_48 hF (fun hF => ?_) (fun hF => ?_)
        · refine dk_iconst (v := 0) X (by decide) d_Model_judge_54 ?_
          refine dk_istore_n (k := 3) (i := 3) (lv' := [(3, .int (0 : Int32)), (0, .ref (am 0)), (1, .int x1), (2, .int x2)]) X rfl (by decide) rfl d_Model_judge_55 ?_
          exact dk_sub [1, 2, 3, 0] rfl (kb_Model_judge_56 (n := n) X hR  n x1 x2 (0 : Int32) S8 hF)
        · refine dk_bipush (v := -2) X (by decide) d_Model_judge_51 ?_
          exact dk_reti hR hF d_Model_judge_53
      · refine dk_bipush (v := -11) X (by decide) d_Model_judge_33 ?_
        exact dk_reti hR hF d_Model_judge_35
    · refine dk_bipush (v := -2) X (by decide) d_Model_judge_20 ?_
      exact dk_reti hR hF d_Model_judge_22
  · refine dk_bipush (v := -5) X (by decide) d_Model_judge_8 ?_
    exact dk_reti hR hF d_Model_judge_10
def F_Model_judge (n : Nat) (x1 : Int32) (x2 : Int32) (S : dk_S) : Option (Int32 × dk_S) := B_Model_judge_0 n x1 x2 S
theorem c_Model_judge (l : Launch) (g : dk_G) (am : Nat → Nat) (n : Nat) (x1 : Int32) (x2 : Int32)  (S : dk_S) : dk_Mi l g y_Model_judge b_Model_judge 4 rm_Model_judge (some .int) [.ref (am 0), .int x1, .int x2] (wM g am) S (F_Model_judge n x1 x2 S) := dk_enteri (by decide) (Nat.le_of_ble_eq_true rfl) (fun p e s m args below meth c A Q res hF X hR => (kb_Model_judge_0 (n := n) X hR  hF))
abbrev b_Model_without : ByteArray := prog_11_method_53_code
def y_Model_without : MethodName := ⟨R_Model, "without", "(I)I"⟩
theorem d_Model_without_0 : decode b_Model_without 0 = .ok (.iconst 0, 1) := by decide +kernel
theorem d_Model_without_1 : decode b_Model_without 1 = .ok (.istore_n 2, 1) := by decide +kernel
theorem d_Model_without_2 : decode b_Model_without 2 = .ok (.iconst 0, 1) := by decide +kernel
theorem d_Model_without_3 : decode b_Model_without 3 = .ok (.istore_n 3, 1) := by decide +kernel
theorem d_Model_without_4 : decode b_Model_without 4 = .ok (.iconst 0, 1) := by decide +kernel
theorem d_Model_without_5 : decode b_Model_without 5 = .ok (.istore 4, 2) := by decide +kernel
theorem d_Model_without_7 : decode b_Model_without 7 = .ok (.iload 4, 2) := by decide +kernel
theorem d_Model_without_9 : decode b_Model_without 9 = .ok (.aload_n 0, 1) := by decide +kernel
theorem d_Model_without_10 : decode b_Model_without 10 = .ok (.getfield 151, 3) := by decide +kernel
theorem d_Model_without_13 : decode b_Model_without 13 = .ok (.if_icmp .ge 34, 3) := by decide +kernel
theorem d_Model_without_16 : decode b_Model_without 16 = .ok (.aload_n 0, 1) := by decide +kernel
theorem d_Model_without_17 : decode b_Model_without 17 = .ok (.getfield 34, 3) := by decide +kernel
theorem d_Model_without_20 : decode b_Model_without 20 = .ok (.iload 4, 2) := by decide +kernel
theorem d_Model_without_22 : decode b_Model_without 22 = .ok (.iaload, 1) := by decide +kernel
theorem d_Model_without_23 : decode b_Model_without 23 = .ok (.iconst 1, 1) := by decide +kernel
theorem d_Model_without_24 : decode b_Model_without 24 = .ok (.if_icmp .ne 17, 3) := by decide +kernel
theorem d_Model_without_27 : decode b_Model_without 27 = .ok (.iload_n 2, 1) := by decide +kernel
theorem d_Model_without_28 : decode b_Model_without 28 = .ok (.iload_n 1, 1) := by decide +kernel
theorem d_Model_without_29 : decode b_Model_without 29 = .ok (.iload_n 3, 1) := by decide +kernel
theorem d_Model_without_30 : decode b_Model_without 30 = .ok (.ishr, 1) := by decide +kernel
theorem d_Model_without_31 : decode b_Model_without 31 = .ok (.iconst 1, 1) := by decide +kernel
theorem d_Model_without_32 : decode b_Model_without 32 = .ok (.iand, 1) := by decide +kernel
theorem d_Model_without_33 : decode b_Model_without 33 = .ok (.iload 4, 2) := by decide +kernel
theorem d_Model_without_35 : decode b_Model_without 35 = .ok (.ishl, 1) := by decide +kernel
theorem d_Model_without_36 : decode b_Model_without 36 = .ok (.ior, 1) := by decide +kernel
theorem d_Model_without_37 : decode b_Model_without 37 = .ok (.istore_n 2, 1) := by decide +kernel
theorem d_Model_without_38 : decode b_Model_without 38 = .ok (.iinc 3 1, 3) := by decide +kernel
theorem d_Model_without_41 : decode b_Model_without 41 = .ok (.iinc 4 1, 3) := by decide +kernel
theorem d_Model_without_44 : decode b_Model_without 44 = .ok (.goto (-37), 3) := by decide +kernel
theorem d_Model_without_47 : decode b_Model_without 47 = .ok (.iload_n 2, 1) := by decide +kernel
theorem d_Model_without_48 : decode b_Model_without 48 = .ok (.ireturn, 1) := by decide +kernel
theorem v_Model_without : dk_Yv y_Model_without b_Model_without 5 (some .int) 1 := ⟨dk_in (List.mem_of_getElem? (i := 1324) (by decide +kernel)) rfl, dk_in (List.mem_of_getElem? (i := 62) (by decide +kernel)) rfl, dk_in (List.mem_of_getElem? (i := 75) (by decide +kernel)) rfl, dk_in (List.mem_of_getElem? (i := 1325) (by decide +kernel)) rfl, by decide +kernel, by decide +kernel, by decide +kernel⟩
abbrev rm_Model_without : Room := { frames := 0, cells := 0, slots := 0, locals := 0 }
def B_Model_without_41 (n : Nat) (k7 : Int32 → Int32 → Int32 → Int32 → dk_S → Option (Int32 × dk_S)) (x1 : Int32) (x2 : Int32) (x3 : Int32) (x4 : Int32) (S : dk_S) : Option (Int32 × dk_S) :=
  k7 x1 x2 x3 (x4 + (1 : Int32)) S
set_option maxRecDepth 20000 in
theorem kb_Model_without_41 {p : Program} {l : Launch} {e : Env} {s : State} {m : MethodId} {args : Array Value} {below : List Frame} {meth : Method} {c : Code} {g : dk_G} {A : Nat → Prop} {Q : State → Prop} {am : Nat → Nat} {n : Nat} {res : (Int32 × dk_S)} (X : dk_X p s m args meth c b_Model_without 5 R_Model (some .int) g A) (hR : dk_Ri p l e rm_Model_without s m args below meth c g A Q 5 b_Model_without (some .int) (wM g am) res) {k7 : Int32 → Int32 → Int32 → Int32 → dk_S → Option (Int32 × dk_S)} (hk7 : ∀ (x1 : Int32) (x2 : Int32) (x3 : Int32) (x4 : Int32)  (S : dk_S), k7 x1 x2 x3 x4 S = some res → dk_J p l e rm_Model_without s m args below meth c g A Q 5 0 0 7 [(0, .ref (am 0)), (1, .int x1), (2, .int x2), (3, .int x3), (4, .int x4)] [] (wM g am S)) {x1 : Int32} {x2 : Int32} {x3 : Int32} {x4 : Int32} {S : dk_S}  (hF : B_Model_without_41 n k7 x1 x2 x3 x4 S = some res) : dk_J p l e rm_Model_without s m args below meth c g A Q 5 0 0 41 [(0, .ref (am 0)), (1, .int x1), (2, .int x2), (3, .int x3), (4, .int x4)] [] (wM g am S) := by
  unfold B_Model_without_41 at hF
  refine dk_iinc (i := 4) (v := (x4 + (1 : Int32))) (lv' := [(4, .int (x4 + (1 : Int32))), (0, .ref (am 0)), (1, .int x1), (2, .int x2), (3, .int x3)]) X 4 rfl (dk_ii _ (by decide)) (by decide) rfl d_Model_without_41 ?_
  refine dk_goto (tgt := 7) X (by decide) d_Model_without_44 ?_
  exact dk_sub [1, 2, 3, 4, 0] rfl (hk7 x1 x2 x3 (x4 + (1 : Int32)) S hF)
def B_Model_without_7b (n : Nat) (k7 : Int32 → Int32 → Int32 → Int32 → dk_S → Option (Int32 × dk_S)) (x1 : Int32) (x2 : Int32) (x3 : Int32) (x4 : Int32) (S : dk_S) : Option (Int32 × dk_S) :=
  if (S 5 0) ≤ x4 then (some (x2, S)) else (dk_r 32 (S 11) x4 fun v1 => if ¬ v1 = (1 : Int32) then (B_Model_without_41 n k7 x1 x2 x3 x4 S) else (B_Model_without_41 n k7 x1 (x2 ||| (((x1 >>> (x3 &&& 31)) &&& (1 : Int32)) <<< (x4 &&& 31))) (x3 + (1 : Int32)) x4 S))
set_option maxRecDepth 20000 in
theorem kb_Model_without_7b {p : Program} {l : Launch} {e : Env} {s : State} {m : MethodId} {args : Array Value} {below : List Frame} {meth : Method} {c : Code} {g : dk_G} {A : Nat → Prop} {Q : State → Prop} {am : Nat → Nat} {n : Nat} {res : (Int32 × dk_S)} (X : dk_X p s m args meth c b_Model_without 5 R_Model (some .int) g A) (hR : dk_Ri p l e rm_Model_without s m args below meth c g A Q 5 b_Model_without (some .int) (wM g am) res) {k7 : Int32 → Int32 → Int32 → Int32 → dk_S → Option (Int32 × dk_S)} (hk7 : ∀ (x1 : Int32) (x2 : Int32) (x3 : Int32) (x4 : Int32)  (S : dk_S), k7 x1 x2 x3 x4 S = some res → dk_J p l e rm_Model_without s m args below meth c g A Q 5 0 0 7 [(0, .ref (am 0)), (1, .int x1), (2, .int x2), (3, .int x3), (4, .int x4)] [] (wM g am S)) {x1 : Int32} {x2 : Int32} {x3 : Int32} {x4 : Int32} {S : dk_S}  (hF : B_Model_without_7b n k7 x1 x2 x3 x4 S = some res) : dk_J p l e rm_Model_without s m args below meth c g A Q 5 0 0 7 [(0, .ref (am 0)), (1, .int x1), (2, .int x2), (3, .int x3), (4, .int x4)] [] (wM g am S) := by
  unfold B_Model_without_7b at hF
  refine dk_iload (i := 4) X 4 rfl d_Model_without_7 ?_
  refine dk_aload_n (k := 0) (i := 0) X 0 rfl rfl d_Model_without_9 ?_
  refine dk_get X q_Model 0 5 (by decide) (oM_Model g am S) rfl f_Model_151 d_Model_without_10 ?_
  refine dk_icmp_ge (tgt := 47) X (by decide) d_Model_without_13 hF (fun hF => ?_) (fun hF => ?_)
  · refine dk_iload_n (k := 2) (i := 2) X 2 rfl rfl d_Model_without_47 ?_
    exact dk_reti hR hF d_Model_without_48
  · refine dk_aload_n (k := 0) (i := 0) X 0 rfl rfl d_Model_without_16 ?_
    refine dk_get X q_Model 0 11 (by decide) (oM_Model g am S) rfl f_Model_34 d_Model_without_17 ?_
    refine dk_iload (i := 4) X 4 rfl d_Model_without_20 ?_
    refine dk_iald X 9 (aM_9 g am S) d_Model_without_22 hF (fun v1 hF => ?_)
    refine dk_iconst (v := 1) X (by decide) d_Model_without_23 ?_
    refine dk_icmp_ne (tgt := 41) X (by decide) d_Model_without_24 hF (fun hF => ?_) (fun hF => ?_)
    · exact (kb_Model_without_41 (n := n) X hR hk7  hF)
    · refine dk_iload_n (k := 2) (i := 2) X 2 rfl rfl d_Model_without_27 ?_
      refine dk_iload_n (k := 1) (i := 1) X 1 rfl rfl d_Model_without_28 ?_
      refine dk_iload_n (k := 3) (i := 3) X 3 rfl rfl d_Model_without_29 ?_
      refine dk_ishr X d_Model_without_30 ?_
      refine dk_iconst (v := 1) X (by decide) d_Model_without_31 ?_
      refine dk_iand X d_Model_without_32 ?_
      refine dk_iload (i := 4) X 4 rfl d_Model_without_33 ?_
      refine dk_ishl X d_Model_without_35 ?_
      refine dk_ior X d_Model_without_36 ?_
      refine dk_istore_n (k := 2) (i := 2) (lv' := [(2, .int (x2 ||| (((x1 >>> (x3 &&& 31)) &&& (1 : Int32)) <<< (x4 &&& 31)))), (0, .ref (am 0)), (1, .int x1), (3, .int x3), (4, .int x4)]) X rfl (by decide) rfl d_Model_without_37 ?_
      refine dk_iinc (i := 3) (v := (x3 + (1 : Int32))) (lv' := [(3, .int (x3 + (1 : Int32))), (2, .int (x2 ||| (((x1 >>> (x3 &&& 31)) &&& (1 : Int32)) <<< (x4 &&& 31)))), (0, .ref (am 0)), (1, .int x1), (4, .int x4)]) X 3 rfl (dk_ii _ (by decide)) (by decide) rfl d_Model_without_38 ?_
      exact dk_sub [2, 3, 1, 0, 4] rfl (kb_Model_without_41 (n := n) X hR hk7  hF)
def B_Model_without_7 (n : Nat)  : Nat → Int32 → Int32 → Int32 → Int32 → dk_S → Option (Int32 × dk_S)
  | 0 => fun _ _ _ _ _ => none
  | q + 1 => fun x1 x2 x3 x4 S => B_Model_without_7b n (fun x1 x2 x3 x4 S => B_Model_without_7 n  q x1 x2 x3 x4 S) x1 x2 x3 x4 S
theorem kb_Model_without_7 {p : Program} {l : Launch} {e : Env} {s : State} {m : MethodId} {args : Array Value} {below : List Frame} {meth : Method} {c : Code} {g : dk_G} {A : Nat → Prop} {Q : State → Prop} {am : Nat → Nat} {n : Nat} {res : (Int32 × dk_S)} (X : dk_X p s m args meth c b_Model_without 5 R_Model (some .int) g A) (hR : dk_Ri p l e rm_Model_without s m args below meth c g A Q 5 b_Model_without (some .int) (wM g am) res)  : ∀ (q : Nat) (x1 : Int32) (x2 : Int32) (x3 : Int32) (x4 : Int32)  (S : dk_S), B_Model_without_7 n  q x1 x2 x3 x4 S = some res → dk_J p l e rm_Model_without s m args below meth c g A Q 5 0 0 7 [(0, .ref (am 0)), (1, .int x1), (2, .int x2), (3, .int x3), (4, .int x4)] [] (wM g am S) := by
  intro q
  induction q with
  | zero => intro x1 x2 x3 x4  S hF; cases hF
  | succ q ih => intro x1 x2 x3 x4  S hF; exact kb_Model_without_7b (n := n) X hR ih  hF
def B_Model_without_0 (n : Nat)  (x1 : Int32) (S : dk_S) : Option (Int32 × dk_S) :=
  B_Model_without_7 n  n x1 (0 : Int32) (0 : Int32) (0 : Int32) S
set_option maxRecDepth 20000 in
theorem kb_Model_without_0 {p : Program} {l : Launch} {e : Env} {s : State} {m : MethodId} {args : Array Value} {below : List Frame} {meth : Method} {c : Code} {g : dk_G} {A : Nat → Prop} {Q : State → Prop} {am : Nat → Nat} {n : Nat} {res : (Int32 × dk_S)} (X : dk_X p s m args meth c b_Model_without 5 R_Model (some .int) g A) (hR : dk_Ri p l e rm_Model_without s m args below meth c g A Q 5 b_Model_without (some .int) (wM g am) res)  {x1 : Int32} {S : dk_S}  (hF : B_Model_without_0 n  x1 S = some res) : dk_J p l e rm_Model_without s m args below meth c g A Q 5 0 0 0 [(0, .ref (am 0)), (1, .int x1)] [] (wM g am S) := by
  unfold B_Model_without_0 at hF
  refine dk_iconst (v := 0) X (by decide) d_Model_without_0 ?_
  refine dk_istore_n (k := 2) (i := 2) (lv' := [(2, .int (0 : Int32)), (0, .ref (am 0)), (1, .int x1)]) X rfl (by decide) rfl d_Model_without_1 ?_
  refine dk_iconst (v := 0) X (by decide) d_Model_without_2 ?_
  refine dk_istore_n (k := 3) (i := 3) (lv' := [(3, .int (0 : Int32)), (2, .int (0 : Int32)), (0, .ref (am 0)), (1, .int x1)]) X rfl (by decide) rfl d_Model_without_3 ?_
  refine dk_iconst (v := 0) X (by decide) d_Model_without_4 ?_
  refine dk_istore (i := 4) (lv' := [(4, .int (0 : Int32)), (3, .int (0 : Int32)), (2, .int (0 : Int32)), (0, .ref (am 0)), (1, .int x1)]) X (by decide) rfl d_Model_without_5 ?_
  exact dk_sub [3, 4, 2, 1, 0] rfl (kb_Model_without_7 (n := n) X hR  n x1 (0 : Int32) (0 : Int32) (0 : Int32) S hF)
def F_Model_without (n : Nat) (x1 : Int32) (S : dk_S) : Option (Int32 × dk_S) := B_Model_without_0 n x1 S
theorem c_Model_without (l : Launch) (g : dk_G) (am : Nat → Nat) (n : Nat) (x1 : Int32)  (S : dk_S) : dk_Mi l g y_Model_without b_Model_without 5 rm_Model_without (some .int) [.ref (am 0), .int x1] (wM g am) S (F_Model_without n x1 S) := dk_enteri (by decide) (Nat.le_of_ble_eq_true rfl) (fun p e s m args below meth c A Q res hF X hR => (kb_Model_without_0 (n := n) X hR  hF))
abbrev b_Model_whoseWithout : ByteArray := prog_11_method_54_code
def y_Model_whoseWithout : MethodName := ⟨R_Model, "whoseWithout", "(II)I"⟩
theorem d_Model_whoseWithout_0 : decode b_Model_whoseWithout 0 = .ok (.aload_n 0, 1) := by decide +kernel
theorem d_Model_whoseWithout_1 : decode b_Model_whoseWithout 1 = .ok (.aload_n 0, 1) := by decide +kernel
theorem d_Model_whoseWithout_2 : decode b_Model_whoseWithout 2 = .ok (.getfield 151, 3) := by decide +kernel
theorem d_Model_whoseWithout_5 : decode b_Model_whoseWithout 5 = .ok (.aload_n 0, 1) := by decide +kernel
theorem d_Model_whoseWithout_6 : decode b_Model_whoseWithout 6 = .ok (.iload_n 2, 1) := by decide +kernel
theorem d_Model_whoseWithout_7 : decode b_Model_whoseWithout 7 = .ok (.invokevirtual 290, 3) := by decide +kernel
theorem d_Model_whoseWithout_10 : decode b_Model_whoseWithout 10 = .ok (.invokevirtual 280, 3) := by decide +kernel
theorem d_Model_whoseWithout_13 : decode b_Model_whoseWithout 13 = .ok (.aload_n 0, 1) := by decide +kernel
theorem d_Model_whoseWithout_14 : decode b_Model_whoseWithout 14 = .ok (.iload_n 1, 1) := by decide +kernel
theorem d_Model_whoseWithout_15 : decode b_Model_whoseWithout 15 = .ok (.invokevirtual 284, 3) := by decide +kernel
theorem d_Model_whoseWithout_18 : decode b_Model_whoseWithout 18 = .ok (.ireturn, 1) := by decide +kernel
theorem v_Model_whoseWithout : dk_Yv y_Model_whoseWithout b_Model_whoseWithout 3 (some .int) 2 := ⟨dk_in (List.mem_of_getElem? (i := 1320) (by decide +kernel)) rfl, dk_in (List.mem_of_getElem? (i := 61) (by decide +kernel)) rfl, dk_in (List.mem_of_getElem? (i := 75) (by decide +kernel)) rfl, dk_in (List.mem_of_getElem? (i := 1321) (by decide +kernel)) rfl, by decide +kernel, by decide +kernel, by decide +kernel⟩
abbrev rm_Model_whoseWithout : Room := { frames := 6, cells := 0, slots := 0, locals := 138 }
theorem m_Model_290 : Cond.methodLink R_Model 290 y_Model_without ∈ dk_tb := dk_in (List.mem_of_getElem? (i := 1322) (by decide +kernel)) rfl
def B_Model_whoseWithout_0 (n : Nat)  (x1 : Int32) (x2 : Int32) (S : dk_S) : Option (Int32 × dk_S) :=
  dk_c (F_Model_without n x2 S) fun r2 S1 => dk_cv (F_Model_works n (S 5 0) r2 S1) fun S3 => dk_c (F_Model_whose n x1 S3) fun r6 S5 => some (r6, S5)
set_option maxRecDepth 20000 in
theorem kb_Model_whoseWithout_0 {p : Program} {l : Launch} {e : Env} {s : State} {m : MethodId} {args : Array Value} {below : List Frame} {meth : Method} {c : Code} {g : dk_G} {A : Nat → Prop} {Q : State → Prop} {am : Nat → Nat} {n : Nat} {res : (Int32 × dk_S)} (X : dk_X p s m args meth c b_Model_whoseWithout 3 R_Model (some .int) g A) (hR : dk_Ri p l e rm_Model_whoseWithout s m args below meth c g A Q 3 b_Model_whoseWithout (some .int) (wM g am) res)  {x1 : Int32} {x2 : Int32} {S : dk_S}  (hF : B_Model_whoseWithout_0 n  x1 x2 S = some res) : dk_J p l e rm_Model_whoseWithout s m args below meth c g A Q 3 0 0 0 [(0, .ref (am 0)), (1, .int x1), (2, .int x2)] [] (wM g am S) := by
  unfold B_Model_whoseWithout_0 at hF
  refine dk_aload_n (k := 0) (i := 0) X 0 rfl rfl d_Model_whoseWithout_0 ?_
  refine dk_aload_n (k := 0) (i := 0) X 0 rfl rfl d_Model_whoseWithout_1 ?_
  refine dk_get X q_Model 0 5 (by decide) (oM_Model g am S) rfl f_Model_151 d_Model_whoseWithout_2 ?_
  refine dk_aload_n (k := 0) (i := 0) X 0 rfl rfl d_Model_whoseWithout_5 ?_
  refine dk_iload_n (k := 2) (i := 2) X 2 rfl rfl d_Model_whoseWithout_6 ?_
  refine dk_callVi X v_Model_without [.int x2] (c_Model_without l g am n x2 S) 0 (oM_Model g am S) rfl rfl m_Model_290 rfl rfl ⟨rfl, rfl, Nat.le_of_ble_eq_true rfl, Nat.le_of_ble_eq_true rfl, Nat.le_refl _, Nat.le_refl _⟩ (Nat.le_of_ble_eq_true rfl) d_Model_whoseWithout_7 hF (fun r2 S1 hF => ?_)
  refine dk_callVv X v_Model_works [.int (S 5 0), .int r2] (c_Model_works l g am n (S 5 0) r2 S1) 0 (oM_Model g am S1) rfl rfl m_Model_280 rfl rfl ⟨rfl, rfl, Nat.le_of_ble_eq_true rfl, Nat.le_of_ble_eq_true rfl, Nat.le_refl _, Nat.le_refl _⟩ (Nat.le_of_ble_eq_true rfl) d_Model_whoseWithout_10 hF (fun S3 hF => ?_)
  refine dk_aload_n (k := 0) (i := 0) X 0 rfl rfl d_Model_whoseWithout_13 ?_
  refine dk_iload_n (k := 1) (i := 1) X 1 rfl rfl d_Model_whoseWithout_14 ?_
  refine dk_callVi X v_Model_whose [.int x1] (c_Model_whose l g am n x1 S3) 0 (oM_Model g am S3) rfl rfl m_Model_284 rfl rfl ⟨rfl, rfl, Nat.le_of_ble_eq_true rfl, Nat.le_of_ble_eq_true rfl, Nat.le_refl _, Nat.le_refl _⟩ (Nat.le_of_ble_eq_true rfl) d_Model_whoseWithout_15 hF (fun r6 S5 hF => ?_)
  exact dk_reti hR hF d_Model_whoseWithout_18
def F_Model_whoseWithout (n : Nat) (x1 : Int32) (x2 : Int32) (S : dk_S) : Option (Int32 × dk_S) := B_Model_whoseWithout_0 n x1 x2 S
theorem c_Model_whoseWithout (l : Launch) (g : dk_G) (am : Nat → Nat) (n : Nat) (x1 : Int32) (x2 : Int32)  (S : dk_S) : dk_Mi l g y_Model_whoseWithout b_Model_whoseWithout 3 rm_Model_whoseWithout (some .int) [.ref (am 0), .int x1, .int x2] (wM g am) S (F_Model_whoseWithout n x1 x2 S) := dk_enteri (by decide) (Nat.le_of_ble_eq_true rfl) (fun p e s m args below meth c A Q res hF X hR => (kb_Model_whoseWithout_0 (n := n) X hR  hF))
abbrev b_Model_may : ByteArray := prog_11_method_55_code
def y_Model_may : MethodName := ⟨R_Model, "may", "(I)I"⟩
theorem d_Model_may_0 : decode b_Model_may 0 = .ok (.aload_n 0, 1) := by decide +kernel
theorem d_Model_may_1 : decode b_Model_may 1 = .ok (.iload_n 1, 1) := by decide +kernel
theorem d_Model_may_2 : decode b_Model_may 2 = .ok (.invokevirtual 158, 3) := by decide +kernel
theorem d_Model_may_5 : decode b_Model_may 5 = .ok (.ifCond .ne 6, 3) := by decide +kernel
theorem d_Model_may_8 : decode b_Model_may 8 = .ok (.bipush (-5), 2) := by decide +kernel
theorem d_Model_may_10 : decode b_Model_may 10 = .ok (.ireturn, 1) := by decide +kernel
theorem d_Model_may_11 : decode b_Model_may 11 = .ok (.iconst 0, 1) := by decide +kernel
theorem d_Model_may_12 : decode b_Model_may 12 = .ok (.istore_n 2, 1) := by decide +kernel
theorem d_Model_may_13 : decode b_Model_may 13 = .ok (.iconst 0, 1) := by decide +kernel
theorem d_Model_may_14 : decode b_Model_may 14 = .ok (.istore_n 3, 1) := by decide +kernel
theorem d_Model_may_15 : decode b_Model_may 15 = .ok (.iload_n 3, 1) := by decide +kernel
theorem d_Model_may_16 : decode b_Model_may 16 = .ok (.iconst 1, 1) := by decide +kernel
theorem d_Model_may_17 : decode b_Model_may 17 = .ok (.aload_n 0, 1) := by decide +kernel
theorem d_Model_may_18 : decode b_Model_may 18 = .ok (.invokevirtual 164, 3) := by decide +kernel
theorem d_Model_may_21 : decode b_Model_may 21 = .ok (.ishl, 1) := by decide +kernel
theorem d_Model_may_22 : decode b_Model_may 22 = .ok (.if_icmp .ge 35, 3) := by decide +kernel
theorem d_Model_may_25 : decode b_Model_may 25 = .ok (.aload_n 0, 1) := by decide +kernel
theorem d_Model_may_26 : decode b_Model_may 26 = .ok (.iload_n 1, 1) := by decide +kernel
theorem d_Model_may_27 : decode b_Model_may 27 = .ok (.iload_n 3, 1) := by decide +kernel
theorem d_Model_may_28 : decode b_Model_may 28 = .ok (.invokevirtual 293, 3) := by decide +kernel
theorem d_Model_may_31 : decode b_Model_may 31 = .ok (.istore 4, 2) := by decide +kernel
theorem d_Model_may_33 : decode b_Model_may 33 = .ok (.iload_n 2, 1) := by decide +kernel
theorem d_Model_may_34 : decode b_Model_may 34 = .ok (.iconst 1, 1) := by decide +kernel
theorem d_Model_may_35 : decode b_Model_may 35 = .ok (.iload 4, 2) := by decide +kernel
theorem d_Model_may_37 : decode b_Model_may 37 = .ok (.iconst (-1), 1) := by decide +kernel
theorem d_Model_may_38 : decode b_Model_may 38 = .ok (.if_icmp .ne 8, 3) := by decide +kernel
theorem d_Model_may_41 : decode b_Model_may 41 = .ok (.bipush 10, 2) := by decide +kernel
theorem d_Model_may_43 : decode b_Model_may 43 = .ok (.goto 5, 3) := by decide +kernel
theorem d_Model_may_46 : decode b_Model_may 46 = .ok (.iload 4, 2) := by decide +kernel
theorem d_Model_may_48 : decode b_Model_may 48 = .ok (.ishl, 1) := by decide +kernel
theorem d_Model_may_49 : decode b_Model_may 49 = .ok (.ior, 1) := by decide +kernel
theorem d_Model_may_50 : decode b_Model_may 50 = .ok (.istore_n 2, 1) := by decide +kernel
theorem d_Model_may_51 : decode b_Model_may 51 = .ok (.iinc 3 1, 3) := by decide +kernel
theorem d_Model_may_54 : decode b_Model_may 54 = .ok (.goto (-39), 3) := by decide +kernel
theorem d_Model_may_57 : decode b_Model_may 57 = .ok (.iload_n 2, 1) := by decide +kernel
theorem d_Model_may_58 : decode b_Model_may 58 = .ok (.ireturn, 1) := by decide +kernel
theorem v_Model_may : dk_Yv y_Model_may b_Model_may 5 (some .int) 1 := ⟨dk_in (List.mem_of_getElem? (i := 1315) (by decide +kernel)) rfl, dk_in (List.mem_of_getElem? (i := 1316) (by decide +kernel)) rfl, dk_in (List.mem_of_getElem? (i := 75) (by decide +kernel)) rfl, dk_in (List.mem_of_getElem? (i := 1317) (by decide +kernel)) rfl, by decide +kernel, by decide +kernel, by decide +kernel⟩
abbrev rm_Model_may : Room := { frames := 7, cells := 0, slots := 0, locals := 160 }
theorem m_Model_293 : Cond.methodLink R_Model 293 y_Model_whoseWithout ∈ dk_tb := dk_in (List.mem_of_getElem? (i := 1318) (by decide +kernel)) rfl
def B_Model_may_48 (n : Nat) (k15 : Int32 → Int32 → Int32 → dk_S → Option (Int32 × dk_S)) (x1 : Int32) (x3 : Int32) (u0 : Int32) (u1 : Int32) (u2 : Int32) (S : dk_S) : Option (Int32 × dk_S) :=
  k15 x1 (u0 ||| (u1 <<< (u2 &&& 31))) (x3 + (1 : Int32)) S
set_option maxRecDepth 20000 in
theorem kb_Model_may_48 {p : Program} {l : Launch} {e : Env} {s : State} {m : MethodId} {args : Array Value} {below : List Frame} {meth : Method} {c : Code} {g : dk_G} {A : Nat → Prop} {Q : State → Prop} {am : Nat → Nat} {n : Nat} {res : (Int32 × dk_S)} (X : dk_X p s m args meth c b_Model_may 5 R_Model (some .int) g A) (hR : dk_Ri p l e rm_Model_may s m args below meth c g A Q 5 b_Model_may (some .int) (wM g am) res) {k15 : Int32 → Int32 → Int32 → dk_S → Option (Int32 × dk_S)} (hk15 : ∀ (x1 : Int32) (x2 : Int32) (x3 : Int32)  (S : dk_S), k15 x1 x2 x3 S = some res → dk_J p l e rm_Model_may s m args below meth c g A Q 5 0 0 15 [(0, .ref (am 0)), (1, .int x1), (2, .int x2), (3, .int x3)] [] (wM g am S)) {x1 : Int32} {x3 : Int32} {u0 : Int32} {u1 : Int32} {u2 : Int32} {S : dk_S}  (hF : B_Model_may_48 n k15 x1 x3 u0 u1 u2 S = some res) : dk_J p l e rm_Model_may s m args below meth c g A Q 5 0 0 48 [(0, .ref (am 0)), (1, .int x1), (3, .int x3)] [.int u2, .int u1, .int u0] (wM g am S) := by
  unfold B_Model_may_48 at hF
  refine dk_ishl X d_Model_may_48 ?_
  refine dk_ior X d_Model_may_49 ?_
  refine dk_istore_n (k := 2) (i := 2) (lv' := [(2, .int (u0 ||| (u1 <<< (u2 &&& 31)))), (0, .ref (am 0)), (1, .int x1), (3, .int x3)]) X rfl (by decide) rfl d_Model_may_50 ?_
  refine dk_iinc (i := 3) (v := (x3 + (1 : Int32))) (lv' := [(3, .int (x3 + (1 : Int32))), (2, .int (u0 ||| (u1 <<< (u2 &&& 31)))), (0, .ref (am 0)), (1, .int x1)]) X 3 rfl (dk_ii _ (by decide)) (by decide) rfl d_Model_may_51 ?_
  refine dk_goto (tgt := 15) X (by decide) d_Model_may_54 ?_
  exact dk_sub [2, 3, 1, 0] rfl (hk15 x1 (u0 ||| (u1 <<< (u2 &&& 31))) (x3 + (1 : Int32)) S hF)
def B_Model_may_15b (n : Nat) (k15 : Int32 → Int32 → Int32 → dk_S → Option (Int32 × dk_S)) (x1 : Int32) (x2 : Int32) (x3 : Int32) (S : dk_S) : Option (Int32 × dk_S) :=
  dk_c (F_Model_unsureMany n S) fun r2 S1 => if ((1 : Int32) <<< (r2 &&& 31)) ≤ x3 then (some (x2, S1)) else (dk_c (F_Model_whoseWithout n x1 x3 S1) fun r4 S3 => if ¬ r4 = (-1 : Int32) then (B_Model_may_48 n k15 x1 x3 x2 (1 : Int32) r4 S3) else (B_Model_may_48 n k15 x1 x3 x2 (1 : Int32) (10 : Int32) S3))
set_option maxRecDepth 20000 in
theorem kb_Model_may_15b {p : Program} {l : Launch} {e : Env} {s : State} {m : MethodId} {args : Array Value} {below : List Frame} {meth : Method} {c : Code} {g : dk_G} {A : Nat → Prop} {Q : State → Prop} {am : Nat → Nat} {n : Nat} {res : (Int32 × dk_S)} (X : dk_X p s m args meth c b_Model_may 5 R_Model (some .int) g A) (hR : dk_Ri p l e rm_Model_may s m args below meth c g A Q 5 b_Model_may (some .int) (wM g am) res) {k15 : Int32 → Int32 → Int32 → dk_S → Option (Int32 × dk_S)} (hk15 : ∀ (x1 : Int32) (x2 : Int32) (x3 : Int32)  (S : dk_S), k15 x1 x2 x3 S = some res → dk_J p l e rm_Model_may s m args below meth c g A Q 5 0 0 15 [(0, .ref (am 0)), (1, .int x1), (2, .int x2), (3, .int x3)] [] (wM g am S)) {x1 : Int32} {x2 : Int32} {x3 : Int32} {S : dk_S}  (hF : B_Model_may_15b n k15 x1 x2 x3 S = some res) : dk_J p l e rm_Model_may s m args below meth c g A Q 5 0 0 15 [(0, .ref (am 0)), (1, .int x1), (2, .int x2), (3, .int x3)] [] (wM g am S) := by
  unfold B_Model_may_15b at hF
  refine dk_iload_n (k := 3) (i := 3) X 3 rfl rfl d_Model_may_15 ?_
  refine dk_iconst (v := 1) X (by decide) d_Model_may_16 ?_
  refine dk_aload_n (k := 0) (i := 0) X 0 rfl rfl d_Model_may_17 ?_
  refine dk_callVi X v_Model_unsureMany [] (c_Model_unsureMany l g am n S) 0 (oM_Model g am S) rfl rfl m_Model_164 rfl rfl ⟨rfl, rfl, Nat.le_of_ble_eq_true rfl, Nat.le_of_ble_eq_true rfl, Nat.le_refl _, Nat.le_refl _⟩ (Nat.le_of_ble_eq_true rfl) d_Model_may_18 hF (fun r2 S1 hF => ?_)
  refine dk_ishl X d_Model_may_21 ?_
  refine dk_icmp_ge (tgt := 57) X (by decide) d_Model_may_22 hF (fun hF => ?_) (fun hF => ?_)
  · refine dk_iload_n (k := 2) (i := 2) X 2 rfl rfl d_Model_may_57 ?_
    exact dk_reti hR hF d_Model_may_58
  · refine dk_aload_n (k := 0) (i := 0) X 0 rfl rfl d_Model_may_25 ?_
    refine dk_iload_n (k := 1) (i := 1) X 1 rfl rfl d_Model_may_26 ?_
    refine dk_iload_n (k := 3) (i := 3) X 3 rfl rfl d_Model_may_27 ?_
    refine dk_callVi X v_Model_whoseWithout [.int x1, .int x3] (c_Model_whoseWithout l g am n x1 x3 S1) 0 (oM_Model g am S1) rfl rfl m_Model_293 rfl rfl ⟨rfl, rfl, Nat.le_of_ble_eq_true rfl, Nat.le_of_ble_eq_true rfl, Nat.le_refl _, Nat.le_refl _⟩ (Nat.le_of_ble_eq_true rfl) d_Model_may_28 hF (fun r4 S3 hF => ?_)
    refine dk_istore (i := 4) (lv' := [(4, .int r4), (0, .ref (am 0)), (1, .int x1), (2, .int x2), (3, .int x3)]) X (by decide) rfl d_Model_may_31 ?_
    refine dk_iload_n (k := 2) (i := 2) X 3 rfl rfl d_Model_may_33 ?_
    refine dk_iconst (v := 1) X (by decide) d_Model_may_34 ?_
    refine dk_iload (i := 4) X 0 rfl d_Model_may_35 ?_
    refine dk_iconst (v := -1) X (by decide) d_Model_may_37 ?_
    refine dk_icmp_ne (tgt := 46) X (by decide) d_Model_may_38 hF (fun hF => ?_) (fun hF => ?_)
    · refine dk_iload (i := 4) X 0 rfl d_Model_may_46 ?_
      exact dk_sub [1, 2, 4] rfl (kb_Model_may_48 (n := n) X hR hk15  hF)
    · refine dk_bipush (v := 10) X (by decide) d_Model_may_41 ?_
      refine dk_goto (tgt := 48) X (by decide) d_Model_may_43 ?_
      exact dk_sub [1, 2, 4] rfl (kb_Model_may_48 (n := n) X hR hk15  hF)
def B_Model_may_15 (n : Nat)  : Nat → Int32 → Int32 → Int32 → dk_S → Option (Int32 × dk_S)
  | 0 => fun _ _ _ _ => none
  | q + 1 => fun x1 x2 x3 S => B_Model_may_15b n (fun x1 x2 x3 S => B_Model_may_15 n  q x1 x2 x3 S) x1 x2 x3 S
theorem kb_Model_may_15 {p : Program} {l : Launch} {e : Env} {s : State} {m : MethodId} {args : Array Value} {below : List Frame} {meth : Method} {c : Code} {g : dk_G} {A : Nat → Prop} {Q : State → Prop} {am : Nat → Nat} {n : Nat} {res : (Int32 × dk_S)} (X : dk_X p s m args meth c b_Model_may 5 R_Model (some .int) g A) (hR : dk_Ri p l e rm_Model_may s m args below meth c g A Q 5 b_Model_may (some .int) (wM g am) res)  : ∀ (q : Nat) (x1 : Int32) (x2 : Int32) (x3 : Int32)  (S : dk_S), B_Model_may_15 n  q x1 x2 x3 S = some res → dk_J p l e rm_Model_may s m args below meth c g A Q 5 0 0 15 [(0, .ref (am 0)), (1, .int x1), (2, .int x2), (3, .int x3)] [] (wM g am S) := by
  intro q
  induction q with
  | zero => intro x1 x2 x3  S hF; cases hF
  | succ q ih => intro x1 x2 x3  S hF; exact kb_Model_may_15b (n := n) X hR ih  hF
def B_Model_may_0 (n : Nat)  (x1 : Int32) (S : dk_S) : Option (Int32 × dk_S) :=
  dk_c (F_Model_isBeast n x1 S) fun r6 S5 => if ¬ r6 = 0 then (B_Model_may_15 n  n x1 (0 : Int32) (0 : Int32) S5) else (some ((-5 : Int32), S5))
set_option maxRecDepth 20000 in
theorem kb_Model_may_0 {p : Program} {l : Launch} {e : Env} {s : State} {m : MethodId} {args : Array Value} {below : List Frame} {meth : Method} {c : Code} {g : dk_G} {A : Nat → Prop} {Q : State → Prop} {am : Nat → Nat} {n : Nat} {res : (Int32 × dk_S)} (X : dk_X p s m args meth c b_Model_may 5 R_Model (some .int) g A) (hR : dk_Ri p l e rm_Model_may s m args below meth c g A Q 5 b_Model_may (some .int) (wM g am) res)  {x1 : Int32} {S : dk_S}  (hF : B_Model_may_0 n  x1 S = some res) : dk_J p l e rm_Model_may s m args below meth c g A Q 5 0 0 0 [(0, .ref (am 0)), (1, .int x1)] [] (wM g am S) := by
  unfold B_Model_may_0 at hF
  refine dk_aload_n (k := 0) (i := 0) X 0 rfl rfl d_Model_may_0 ?_
  refine dk_iload_n (k := 1) (i := 1) X 1 rfl rfl d_Model_may_1 ?_
  refine dk_callVi X v_Model_isBeast [.int x1] (c_Model_isBeast l g am n x1 S) 0 (oM_Model g am S) rfl rfl m_Model_158 rfl rfl ⟨rfl, rfl, Nat.le_of_ble_eq_true rfl, Nat.le_of_ble_eq_true rfl, Nat.le_refl _, Nat.le_refl _⟩ (Nat.le_of_ble_eq_true rfl) d_Model_may_2 hF (fun r6 S5 hF => ?_)
  refine dk_if_ne (tgt := 11) X (by decide) d_Model_may_5 hF (fun hF => ?_) (fun hF => ?_)
  · refine dk_iconst (v := 0) X (by decide) d_Model_may_11 ?_
    refine dk_istore_n (k := 2) (i := 2) (lv' := [(2, .int (0 : Int32)), (0, .ref (am 0)), (1, .int x1)]) X rfl (by decide) rfl d_Model_may_12 ?_
    refine dk_iconst (v := 0) X (by decide) d_Model_may_13 ?_
    refine dk_istore_n (k := 3) (i := 3) (lv' := [(3, .int (0 : Int32)), (2, .int (0 : Int32)), (0, .ref (am 0)), (1, .int x1)]) X rfl (by decide) rfl d_Model_may_14 ?_
    exact dk_sub [2, 3, 1, 0] rfl (kb_Model_may_15 (n := n) X hR  n x1 (0 : Int32) (0 : Int32) S5 hF)
  · refine dk_bipush (v := -5) X (by decide) d_Model_may_8 ?_
    exact dk_reti hR hF d_Model_may_10
def F_Model_may (n : Nat) (x1 : Int32) (S : dk_S) : Option (Int32 × dk_S) := B_Model_may_0 n x1 S
theorem c_Model_may (l : Launch) (g : dk_G) (am : Nat → Nat) (n : Nat) (x1 : Int32)  (S : dk_S) : dk_Mi l g y_Model_may b_Model_may 5 rm_Model_may (some .int) [.ref (am 0), .int x1] (wM g am) S (F_Model_may n x1 S) := dk_enteri (by decide) (Nat.le_of_ble_eq_true rfl) (fun p e s m args below meth c A Q res hF X hR => (kb_Model_may_0 (n := n) X hR  hF))
