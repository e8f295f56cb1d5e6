abbrev b_Scene_stands : ByteArray := prog_7_method_18_code
def y_Scene_stands : MethodName := ⟨R_Scene, "stands", "(I)Z"⟩
theorem d_Scene_stands_0 : decode b_Scene_stands 0 = .ok (.aload_n 0, 1) := by decide +kernel
theorem d_Scene_stands_1 : decode b_Scene_stands 1 = .ok (.getfield 33, 3) := by decide +kernel
theorem d_Scene_stands_4 : decode b_Scene_stands 4 = .ok (.iload_n 1, 1) := by decide +kernel
theorem d_Scene_stands_5 : decode b_Scene_stands 5 = .ok (.baload, 1) := by decide +kernel
theorem d_Scene_stands_6 : decode b_Scene_stands 6 = .ok (.ifCond .eq 5, 3) := by decide +kernel
theorem d_Scene_stands_9 : decode b_Scene_stands 9 = .ok (.iconst 0, 1) := by decide +kernel
theorem d_Scene_stands_10 : decode b_Scene_stands 10 = .ok (.ireturn, 1) := by decide +kernel
theorem d_Scene_stands_11 : decode b_Scene_stands 11 = .ok (.aload_n 0, 1) := by decide +kernel
theorem d_Scene_stands_12 : decode b_Scene_stands 12 = .ok (.getfield 18, 3) := by decide +kernel
theorem d_Scene_stands_15 : decode b_Scene_stands 15 = .ok (.iload_n 1, 1) := by decide +kernel
theorem d_Scene_stands_16 : decode b_Scene_stands 16 = .ok (.iaload, 1) := by decide +kernel
theorem d_Scene_stands_17 : decode b_Scene_stands 17 = .ok (.istore_n 2, 1) := by decide +kernel
theorem d_Scene_stands_18 : decode b_Scene_stands 18 = .ok (.aload_n 0, 1) := by decide +kernel
theorem d_Scene_stands_19 : decode b_Scene_stands 19 = .ok (.getfield 9, 3) := by decide +kernel
theorem d_Scene_stands_22 : decode b_Scene_stands 22 = .ok (.iload_n 1, 1) := by decide +kernel
theorem d_Scene_stands_23 : decode b_Scene_stands 23 = .ok (.iaload, 1) := by decide +kernel
theorem d_Scene_stands_24 : decode b_Scene_stands 24 = .ok (.tableswitch 180 1 5 #[36, 72, 106, 108, 140], 36) := by decide +kernel
theorem d_Scene_stands_60 : decode b_Scene_stands 60 = .ok (.aload_n 0, 1) := by decide +kernel
theorem d_Scene_stands_61 : decode b_Scene_stands 61 = .ok (.getfield 30, 3) := by decide +kernel
theorem d_Scene_stands_64 : decode b_Scene_stands 64 = .ok (.iload_n 1, 1) := by decide +kernel
theorem d_Scene_stands_65 : decode b_Scene_stands 65 = .ok (.iaload, 1) := by decide +kernel
theorem d_Scene_stands_66 : decode b_Scene_stands 66 = .ok (.iconst (-1), 1) := by decide +kernel
theorem d_Scene_stands_67 : decode b_Scene_stands 67 = .ok (.if_icmp .ne 27, 3) := by decide +kernel
theorem d_Scene_stands_70 : decode b_Scene_stands 70 = .ok (.aload_n 0, 1) := by decide +kernel
theorem d_Scene_stands_71 : decode b_Scene_stands 71 = .ok (.aload_n 0, 1) := by decide +kernel
theorem d_Scene_stands_72 : decode b_Scene_stands 72 = .ok (.getfield 15, 3) := by decide +kernel
theorem d_Scene_stands_75 : decode b_Scene_stands 75 = .ok (.iload_n 1, 1) := by decide +kernel
theorem d_Scene_stands_76 : decode b_Scene_stands 76 = .ok (.iaload, 1) := by decide +kernel
theorem d_Scene_stands_77 : decode b_Scene_stands 77 = .ok (.aload_n 0, 1) := by decide +kernel
theorem d_Scene_stands_78 : decode b_Scene_stands 78 = .ok (.getfield 37, 3) := by decide +kernel
theorem d_Scene_stands_81 : decode b_Scene_stands 81 = .ok (.iload_n 2, 1) := by decide +kernel
theorem d_Scene_stands_82 : decode b_Scene_stands 82 = .ok (.iaload, 1) := by decide +kernel
theorem d_Scene_stands_83 : decode b_Scene_stands 83 = .ok (.iload_n 2, 1) := by decide +kernel
theorem d_Scene_stands_84 : decode b_Scene_stands 84 = .ok (.invokevirtual 150, 3) := by decide +kernel
theorem d_Scene_stands_87 : decode b_Scene_stands 87 = .ok (.ifCond .eq 7, 3) := by decide +kernel
theorem d_Scene_stands_90 : decode b_Scene_stands 90 = .ok (.iconst 1, 1) := by decide +kernel
theorem d_Scene_stands_91 : decode b_Scene_stands 91 = .ok (.goto 4, 3) := by decide +kernel
theorem d_Scene_stands_94 : decode b_Scene_stands 94 = .ok (.iconst 0, 1) := by decide +kernel
theorem d_Scene_stands_95 : decode b_Scene_stands 95 = .ok (.ireturn, 1) := by decide +kernel
theorem d_Scene_stands_96 : decode b_Scene_stands 96 = .ok (.aload_n 0, 1) := by decide +kernel
theorem d_Scene_stands_97 : decode b_Scene_stands 97 = .ok (.iload_n 1, 1) := by decide +kernel
theorem d_Scene_stands_98 : decode b_Scene_stands 98 = .ok (.invokevirtual 154, 3) := by decide +kernel
theorem d_Scene_stands_101 : decode b_Scene_stands 101 = .ok (.ifCond .ne 27, 3) := by decide +kernel
theorem d_Scene_stands_104 : decode b_Scene_stands 104 = .ok (.aload_n 0, 1) := by decide +kernel
theorem d_Scene_stands_105 : decode b_Scene_stands 105 = .ok (.aload_n 0, 1) := by decide +kernel
theorem d_Scene_stands_106 : decode b_Scene_stands 106 = .ok (.getfield 15, 3) := by decide +kernel
theorem d_Scene_stands_109 : decode b_Scene_stands 109 = .ok (.iload_n 1, 1) := by decide +kernel
theorem d_Scene_stands_110 : decode b_Scene_stands 110 = .ok (.iaload, 1) := by decide +kernel
theorem d_Scene_stands_111 : decode b_Scene_stands 111 = .ok (.aload_n 0, 1) := by decide +kernel
theorem d_Scene_stands_112 : decode b_Scene_stands 112 = .ok (.getfield 37, 3) := by decide +kernel
theorem d_Scene_stands_115 : decode b_Scene_stands 115 = .ok (.iload_n 2, 1) := by decide +kernel
theorem d_Scene_stands_116 : decode b_Scene_stands 116 = .ok (.iaload, 1) := by decide +kernel
theorem d_Scene_stands_117 : decode b_Scene_stands 117 = .ok (.iload_n 2, 1) := by decide +kernel
theorem d_Scene_stands_118 : decode b_Scene_stands 118 = .ok (.invokevirtual 150, 3) := by decide +kernel
theorem d_Scene_stands_121 : decode b_Scene_stands 121 = .ok (.ifCond .eq 7, 3) := by decide +kernel
theorem d_Scene_stands_124 : decode b_Scene_stands 124 = .ok (.iconst 1, 1) := by decide +kernel
theorem d_Scene_stands_125 : decode b_Scene_stands 125 = .ok (.goto 4, 3) := by decide +kernel
theorem d_Scene_stands_128 : decode b_Scene_stands 128 = .ok (.iconst 0, 1) := by decide +kernel
theorem d_Scene_stands_129 : decode b_Scene_stands 129 = .ok (.ireturn, 1) := by decide +kernel
theorem d_Scene_stands_130 : decode b_Scene_stands 130 = .ok (.iconst 1, 1) := by decide +kernel
theorem d_Scene_stands_131 : decode b_Scene_stands 131 = .ok (.ireturn, 1) := by decide +kernel
theorem d_Scene_stands_132 : decode b_Scene_stands 132 = .ok (.aload_n 0, 1) := by decide +kernel
theorem d_Scene_stands_133 : decode b_Scene_stands 133 = .ok (.getfield 30, 3) := by decide +kernel
theorem d_Scene_stands_136 : decode b_Scene_stands 136 = .ok (.iload_n 1, 1) := by decide +kernel
theorem d_Scene_stands_137 : decode b_Scene_stands 137 = .ok (.iaload, 1) := by decide +kernel
theorem d_Scene_stands_138 : decode b_Scene_stands 138 = .ok (.iconst (-1), 1) := by decide +kernel
theorem d_Scene_stands_139 : decode b_Scene_stands 139 = .ok (.if_icmp .ne 23, 3) := by decide +kernel
theorem d_Scene_stands_142 : decode b_Scene_stands 142 = .ok (.aload_n 0, 1) := by decide +kernel
theorem d_Scene_stands_143 : decode b_Scene_stands 143 = .ok (.iload_n 1, 1) := by decide +kernel
theorem d_Scene_stands_144 : decode b_Scene_stands 144 = .ok (.invokevirtual 157, 3) := by decide +kernel
theorem d_Scene_stands_147 : decode b_Scene_stands 147 = .ok (.ifCond .eq 15, 3) := by decide +kernel
theorem d_Scene_stands_150 : decode b_Scene_stands 150 = .ok (.aload_n 0, 1) := by decide +kernel
theorem d_Scene_stands_151 : decode b_Scene_stands 151 = .ok (.iload_n 2, 1) := by decide +kernel
theorem d_Scene_stands_152 : decode b_Scene_stands 152 = .ok (.invokevirtual 160, 3) := by decide +kernel
theorem d_Scene_stands_155 : decode b_Scene_stands 155 = .ok (.ifCond .ne 7, 3) := by decide +kernel
theorem d_Scene_stands_158 : decode b_Scene_stands 158 = .ok (.iconst 1, 1) := by decide +kernel
theorem d_Scene_stands_159 : decode b_Scene_stands 159 = .ok (.goto 4, 3) := by decide +kernel
theorem d_Scene_stands_162 : decode b_Scene_stands 162 = .ok (.iconst 0, 1) := by decide +kernel
theorem d_Scene_stands_163 : decode b_Scene_stands 163 = .ok (.ireturn, 1) := by decide +kernel
theorem d_Scene_stands_164 : decode b_Scene_stands 164 = .ok (.aload_n 0, 1) := by decide +kernel
theorem d_Scene_stands_165 : decode b_Scene_stands 165 = .ok (.getfield 37, 3) := by decide +kernel
theorem d_Scene_stands_168 : decode b_Scene_stands 168 = .ok (.iload_n 2, 1) := by decide +kernel
theorem d_Scene_stands_169 : decode b_Scene_stands 169 = .ok (.iaload, 1) := by decide +kernel
theorem d_Scene_stands_170 : decode b_Scene_stands 170 = .ok (.aload_n 0, 1) := by decide +kernel
theorem d_Scene_stands_171 : decode b_Scene_stands 171 = .ok (.getfield 46, 3) := by decide +kernel
theorem d_Scene_stands_174 : decode b_Scene_stands 174 = .ok (.getfield 83, 3) := by decide +kernel
theorem d_Scene_stands_177 : decode b_Scene_stands 177 = .ok (.iload_n 2, 1) := by decide +kernel
theorem d_Scene_stands_178 : decode b_Scene_stands 178 = .ok (.iaload, 1) := by decide +kernel
theorem d_Scene_stands_179 : decode b_Scene_stands 179 = .ok (.if_icmp .eq 19, 3) := by decide +kernel
theorem d_Scene_stands_182 : decode b_Scene_stands 182 = .ok (.aload_n 0, 1) := by decide +kernel
theorem d_Scene_stands_183 : decode b_Scene_stands 183 = .ok (.getfield 75, 3) := by decide +kernel
theorem d_Scene_stands_186 : decode b_Scene_stands 186 = .ok (.aload_n 0, 1) := by decide +kernel
theorem d_Scene_stands_187 : decode b_Scene_stands 187 = .ok (.getfield 40, 3) := by decide +kernel
theorem d_Scene_stands_190 : decode b_Scene_stands 190 = .ok (.iload_n 2, 1) := by decide +kernel
theorem d_Scene_stands_191 : decode b_Scene_stands 191 = .ok (.iaload, 1) := by decide +kernel
theorem d_Scene_stands_192 : decode b_Scene_stands 192 = .ok (.isub, 1) := by decide +kernel
theorem d_Scene_stands_193 : decode b_Scene_stands 193 = .ok (.bipush 30, 2) := by decide +kernel
theorem d_Scene_stands_195 : decode b_Scene_stands 195 = .ok (.if_icmp .gt 7, 3) := by decide +kernel
theorem d_Scene_stands_198 : decode b_Scene_stands 198 = .ok (.iconst 1, 1) := by decide +kernel
theorem d_Scene_stands_199 : decode b_Scene_stands 199 = .ok (.goto 4, 3) := by decide +kernel
theorem d_Scene_stands_202 : decode b_Scene_stands 202 = .ok (.iconst 0, 1) := by decide +kernel
theorem d_Scene_stands_203 : decode b_Scene_stands 203 = .ok (.ireturn, 1) := by decide +kernel
theorem d_Scene_stands_204 : decode b_Scene_stands 204 = .ok (.aload_n 0, 1) := by decide +kernel
theorem d_Scene_stands_205 : decode b_Scene_stands 205 = .ok (.getfield 30, 3) := by decide +kernel
theorem d_Scene_stands_208 : decode b_Scene_stands 208 = .ok (.iload_n 1, 1) := by decide +kernel
theorem d_Scene_stands_209 : decode b_Scene_stands 209 = .ok (.iaload, 1) := by decide +kernel
theorem d_Scene_stands_210 : decode b_Scene_stands 210 = .ok (.iconst (-1), 1) := by decide +kernel
theorem d_Scene_stands_211 : decode b_Scene_stands 211 = .ok (.if_icmp .ne 7, 3) := by decide +kernel
theorem d_Scene_stands_214 : decode b_Scene_stands 214 = .ok (.iconst 1, 1) := by decide +kernel
theorem d_Scene_stands_215 : decode b_Scene_stands 215 = .ok (.goto 4, 3) := by decide +kernel
theorem d_Scene_stands_218 : decode b_Scene_stands 218 = .ok (.iconst 0, 1) := by decide +kernel
theorem d_Scene_stands_219 : decode b_Scene_stands 219 = .ok (.ireturn, 1) := by decide +kernel
theorem v_Scene_stands : dk_Yv y_Scene_stands b_Scene_stands 3 (some .boolean) 1 := ⟨dk_in (List.mem_of_getElem? (i := 748) (by decide +kernel)) rfl, dk_in (List.mem_of_getElem? (i := 749) (by decide +kernel)) rfl, dk_in (List.mem_of_getElem? (i := 72) (by decide +kernel)) rfl, dk_in (List.mem_of_getElem? (i := 750) (by decide +kernel)) rfl, by decide +kernel, by decide +kernel, by decide +kernel⟩
abbrev rm_Scene_stands : Room := { frames := 3, cells := 0, slots := 0, locals := 70 }
theorem m_Scene_150 : Cond.methodLink R_Scene 150 y_Scene_mayFollow ∈ dk_tb := dk_in (List.mem_of_getElem? (i := 751) (by decide +kernel)) rfl
theorem m_Scene_154 : Cond.methodLink R_Scene 154 y_Scene_isLostForLong ∈ dk_tb := dk_in (List.mem_of_getElem? (i := 752) (by decide +kernel)) rfl
theorem m_Scene_157 : Cond.methodLink R_Scene 157 y_Scene_isOnItsPlace ∈ dk_tb := dk_in (List.mem_of_getElem? (i := 756) (by decide +kernel)) rfl
theorem m_Scene_160 : Cond.methodLink R_Scene 160 y_Scene_isHeld ∈ dk_tb := dk_in (List.mem_of_getElem? (i := 760) (by decide +kernel)) rfl
def B_Scene_stands_0 (n T : Nat)  (x1 : Int32) (S : dk_S) : Option (Int32 × dk_S) :=
  dk_r 44 (S 26) x1 fun v1 => if v1 = 0 then (dk_r 44 (S 21) x1 fun v2 => dk_r 44 (S 19) x1 fun v3 => if v3 = (1 : Int32) then (dk_r 44 (S 25) x1 fun v4 => if ¬ v4 = (-1 : Int32) then (dk_b (0 : Int32) (some ((0 : Int32), S))) else (dk_r 44 (S 20) x1 fun v5 => dk_r 6 (S 27) v2 fun v6 => dk_c (F_Scene_mayFollow n T v5 v6 v2 S) fun r8 S7 => if r8 = 0 then (dk_b (0 : Int32) (some ((0 : Int32), S7))) else (dk_b (1 : Int32) (some ((1 : Int32), S7))))) else (if v3 = (2 : Int32) then (dk_c (F_Scene_isLostForLong n T x1 S) fun r10 S9 => if ¬ r10 = 0 then (dk_b (0 : Int32) (some ((0 : Int32), S9))) else (dk_r 44 (S9 20) x1 fun v11 => dk_r 6 (S9 27) v2 fun v12 => dk_c (F_Scene_mayFollow n T v11 v12 v2 S9) fun r14 S13 => if r14 = 0 then (dk_b (0 : Int32) (some ((0 : Int32), S13))) else (dk_b (1 : Int32) (some ((1 : Int32), S13))))) else (if v3 = (3 : Int32) then (dk_b (1 : Int32) (some ((1 : Int32), S))) else (if v3 = (4 : Int32) then (dk_r 44 (S 25) x1 fun v15 => if ¬ v15 = (-1 : Int32) then (dk_b (0 : Int32) (some ((0 : Int32), S))) else (dk_c (F_Scene_isOnItsPlace n T x1 S) fun r17 S16 => if r17 = 0 then (dk_b (0 : Int32) (some ((0 : Int32), S16))) else (dk_c (F_Scene_isHeld n T v2 S16) fun r19 S18 => if ¬ r19 = 0 then (dk_b (0 : Int32) (some ((0 : Int32), S18))) else (dk_b (1 : Int32) (some ((1 : Int32), S18)))))) else (if v3 = (5 : Int32) then (dk_r 6 (S 27) v2 fun v20 => dk_r 6 (S 3) v2 fun v21 => if v20 = v21 then (dk_b (1 : Int32) (some ((1 : Int32), S))) else (dk_r 6 (S 28) v2 fun v22 => if (30 : Int32) < ((S 116 0) - v22) then (dk_b (0 : Int32) (some ((0 : Int32), S))) else (dk_b (1 : Int32) (some ((1 : Int32), S))))) else (dk_r 44 (S 25) x1 fun v23 => if ¬ v23 = (-1 : Int32) then (dk_b (0 : Int32) (some ((0 : Int32), S))) else (dk_b (1 : Int32) (some ((1 : Int32), S))))))))) else (dk_b (0 : Int32) (some ((0 : Int32), S)))
set_option maxRecDepth 20000 in
theorem kb_Scene_stands_0 {p : Program} {l : Launch} {e : Env} {s : State} {m : MethodId} {args : Array Value} {below : List Frame} {meth : Method} {c : Code} {g : dk_G} {A : Nat → Prop} {Q : State → Prop} {ad : Nat → Nat} {T : Nat} {n : Nat} {res : (Int32 × dk_S)} (X : dk_X p s m args meth c b_Scene_stands 3 R_Scene (some .boolean) g A) (hR : dk_Ri p l e rm_Scene_stands s m args below meth c g A Q 3 b_Scene_stands (some .boolean) (wC g ad T) res)  {x1 : Int32} {S : dk_S}  (hF : B_Scene_stands_0 n T  x1 S = some res) : dk_J p l e rm_Scene_stands s m args below meth c g A Q 3 0 0 0 [(0, .ref (ad 18)), (1, .int x1)] [] (wC g ad T S) := by
  unfold B_Scene_stands_0 at hF
  refine dk_aload_n (k := 0) (i := 0) X 0 rfl rfl d_Scene_stands_0 ?_
  refine dk_get X q_Scene 18 10 (by decide) (oC_Scene g ad T S) rfl f_Scene_33 d_Scene_stands_1 ?_
  refine dk_iload_n (k := 1) (i := 1) X 1 rfl rfl d_Scene_stands_4 ?_
  refine dk_zald X 26 (aC_26 g ad T S) d_Scene_stands_5 hF (fun v1 hF => ?_)
  refine dk_if_eq (tgt := 11) X (by decide) d_Scene_stands_6 hF (fun hF => ?_) (fun hF => ?_)
  · refine dk_aload_n (k := 0) (i := 0) X 0 rfl rfl d_Scene_stands_11 ?_
    refine dk_get X q_Scene 18 5 (by decide) (oC_Scene g ad T S) rfl f_Scene_18 d_Scene_stands_12 ?_
    refine dk_iload_n (k := 1) (i := 1) X 1 rfl rfl d_Scene_stands_15 ?_
    refine dk_iald X 21 (aC_21 g ad T S) d_Scene_stands_16 hF (fun v2 hF => ?_)
    refine dk_istore_n (k := 2) (i := 2) (lv' := [(2, .int v2), (0, .ref (ad 18)), (1, .int x1)]) X rfl (by decide) rfl d_Scene_stands_17 ?_
    refine dk_aload_n (k := 0) (i := 0) X 1 rfl rfl d_Scene_stands_18 ?_
    refine dk_get X q_Scene 18 3 (by decide) (oC_Scene g ad T S) rfl f_Scene_9 d_Scene_stands_19 ?_
    refine dk_iload_n (k := 1) (i := 1) X 2 rfl rfl d_Scene_stands_22 ?_
    refine dk_iald X 19 (aC_19 g ad T S) d_Scene_stands_23 hF (fun v3 hF => ?_)
    refine dk_if hF (fun hc1 hF => ?_) (fun hc1 hF => ?_)
    · refine dk_tsIn (v := 1) (tgt := 60) X d_Scene_stands_24 (by rw [hc1]; decide) (by decide) (by decide) rfl (by decide) ?_
      refine dk_aload_n (k := 0) (i := 0) X 1 rfl rfl d_Scene_stands_60 ?_
      refine dk_get X q_Scene 18 9 (by decide) (oC_Scene g ad T S) rfl f_Scene_30 d_Scene_stands_61 ?_
      refine dk_iload_n (k := 1) (i := 1) X 2 rfl rfl d_Scene_stands_64 ?_
      refine dk_iald X 25 (aC_25 g ad T S) d_Scene_stands_65 hF (fun v4 hF => ?_)
      refine dk_iconst (v := -1) X (by decide) d_Scene_stands_66 ?_
      refine dk_icmp_ne (tgt := 94) X (by decide) d_Scene_stands_67 hF (fun hF => ?_) (fun hF => ?_)
      · refine dk_iconst (v := 0) X (by decide) d_Scene_stands_94 ?_
        exact dk_retz hR hF d_Scene_stands_95
      · refine dk_aload_n (k := 0) (i := 0) X 1 rfl rfl d_Scene_stands_70 ?_
        refine dk_aload_n (k := 0) (i := 0) X 1 rfl rfl d_Scene_stands_71 ?_
        refine dk_get X q_Scene 18 4 (by decide) (oC_Scene g ad T S) rfl f_Scene_15 d_Scene_stands_72 ?_
        refine dk_iload_n (k := 1) (i := 1) X 2 rfl rfl d_Scene_stands_75 ?_
        refine dk_iald X 20 (aC_20 g ad T S) d_Scene_stands_76 hF (fun v5 hF => ?_)
        refine dk_aload_n (k := 0) (i := 0) X 1 rfl rfl d_Scene_stands_77 ?_
        refine dk_get X q_Scene 18 13 (by decide) (oC_Scene g ad T S) rfl f_Scene_37 d_Scene_stands_78 ?_
        refine dk_iload_n (k := 2) (i := 2) X 0 rfl rfl d_Scene_stands_81 ?_
        refine dk_iald X 27 (aC_27 g ad T S) d_Scene_stands_82 hF (fun v6 hF => ?_)
        refine dk_iload_n (k := 2) (i := 2) X 0 rfl rfl d_Scene_stands_83 ?_
        refine dk_callVi X v_Scene_mayFollow [.int v5, .int v6, .int v2] (c_Scene_mayFollow l g ad T n v5 v6 v2 S) 18 (oC_Scene g ad T S) rfl rfl m_Scene_150 rfl rfl ⟨rfl, rfl, Nat.le_of_ble_eq_true rfl, Nat.le_of_ble_eq_true rfl, Nat.le_refl _, Nat.le_refl _⟩ (Nat.le_of_ble_eq_true rfl) d_Scene_stands_84 hF (fun r8 S7 hF => ?_)
        refine dk_if_eq (tgt := 94) X (by decide) d_Scene_stands_87 hF (fun hF => ?_) (fun hF => ?_)
        · refine dk_iconst (v := 0) X (by decide) d_Scene_stands_94 ?_
          exact dk_retz hR hF d_Scene_stands_95
        · refine dk_iconst (v := 1) X (by decide) d_Scene_stands_90 ?_
          refine dk_goto (tgt := 95) X (by decide) d_Scene_stands_91 ?_
          exact dk_retz hR hF d_Scene_stands_95
    · refine dk_if hF (fun hc2 hF => ?_) (fun hc2 hF => ?_)
      · refine dk_tsIn (v := 2) (tgt := 96) X d_Scene_stands_24 (by rw [hc2]; decide) (by decide) (by decide) rfl (by decide) ?_
        refine dk_aload_n (k := 0) (i := 0) X 1 rfl rfl d_Scene_stands_96 ?_
        refine dk_iload_n (k := 1) (i := 1) X 2 rfl rfl d_Scene_stands_97 ?_
        refine dk_callVi X v_Scene_isLostForLong [.int x1] (c_Scene_isLostForLong l g ad T n x1 S) 18 (oC_Scene g ad T S) rfl rfl m_Scene_154 rfl rfl ⟨rfl, rfl, Nat.le_of_ble_eq_true rfl, Nat.le_of_ble_eq_true rfl, Nat.le_refl _, Nat.le_refl _⟩ (Nat.le_of_ble_eq_true rfl) d_Scene_stands_98 hF (fun r10 S9 hF => ?_)
        refine dk_if_ne (tgt := 128) X (by decide) d_Scene_stands_101 hF (fun hF => ?_) (fun hF => ?_)
        · refine dk_iconst (v := 0) X (by decide) d_Scene_stands_128 ?_
          exact dk_retz hR hF d_Scene_stands_129
        · refine dk_aload_n (k := 0) (i := 0) X 1 rfl rfl d_Scene_stands_104 ?_
          refine dk_aload_n (k := 0) (i := 0) X 1 rfl rfl d_Scene_stands_105 ?_
          refine dk_get X q_Scene 18 4 (by decide) (oC_Scene g ad T S9) rfl f_Scene_15 d_Scene_stands_106 ?_
          refine dk_iload_n (k := 1) (i := 1) X 2 rfl rfl d_Scene_stands_109 ?_
          refine dk_iald X 20 (aC_20 g ad T S9) d_Scene_stands_110 hF (fun v11 hF => ?_)
          refine dk_aload_n (k := 0) (i := 0) X 1 rfl rfl d_Scene_stands_111 ?_
          refine dk_get X q_Scene 18 13 (by decide) (oC_Scene g ad T S9) rfl f_Scene_37 d_Scene_stands_112 ?_
          refine dk_iload_n (k := 2) (i := 2) X 0 rfl rfl d_Scene_stands_115 ?_
          refine dk_iald X 27 (aC_27 g ad T S9) d_Scene_stands_116 hF (fun v12 hF => ?_)
          refine dk_iload_n (k := 2) (i := 2) X 0 rfl rfl d_Scene_stands_117 ?_
          refine dk_callVi X v_Scene_mayFollow [.int v11, .int v12, .int v2] (c_Scene_mayFollow l g ad T n v11 v12 v2 S9) 18 (oC_Scene g ad T S9) rfl rfl m_Scene_150 rfl rfl ⟨rfl, rfl, Nat.le_of_ble_eq_true rfl, Nat.le_of_ble_eq_true rfl, Nat.le_refl _, Nat.le_refl _⟩ (Nat.le_of_ble_eq_true rfl) d_Scene_stands_118 hF (fun r14 S13 hF => ?_)
          refine dk_if_eq (tgt := 128) X (by decide) d_Scene_stands_121 hF (fun hF => ?_) (fun hF => ?_)
          · refine dk_iconst (v := 0) X (by decide) d_Scene_stands_128 ?_
            exact dk_retz hR hF d_Scene_stands_129
          · refine dk_iconst (v := 1) X (by decide) d_Scene_stands_124 ?_
            refine dk_goto (tgt := 129) X (by decide) d_Scene_stands_125 ?_
            exact dk_retz hR hF d_Scene_stands_129
      · refine dk_if hF (fun hc3 hF => ?_) (fun hc3 hF => ?_)
        · refine dk_tsIn (v := 3) (tgt := 130) X d_Scene_stands_24 (by rw [hc3]; decide) (by decide) (by decide) rfl (by decide) ?_
          refine dk_iconst (v := 1) X (by decide) d_Scene_stands_130 ?_
          exact dk_retz hR hF d_Scene_stands_131
        · refine dk_if hF (fun hc4 hF => ?_) (fun hc4 hF => ?_)
          · refine dk_tsIn (v := 4) (tgt := 132) X d_Scene_stands_24 (by rw [hc4]; decide) (by decide) (by decide) rfl (by decide) ?_
            refine dk_aload_n (k := 0) (i := 0) X 1 rfl rfl d_Scene_stands_132 ?_
            refine dk_get X q_Scene 18 9 (by decide) (oC_Scene g ad T S) rfl f_Scene_30 d_Scene_stands_133 ?_
            refine dk_iload_n (k := 1) (i := 1) X 2 rfl rfl d_Scene_stands_136 ?_
            refine dk_iald X 25 (aC_25 g ad T S) d_Scene_stands_137 hF (fun v15 hF => ?_)
            refine dk_iconst (v := -1) X (by decide) d_Scene_stands_138 ?_
            refine dk_icmp_ne (tgt := 162) X (by decide) d_Scene_stands_139 hF (fun hF => ?_) (fun hF => ?_)
            · refine dk_iconst (v := 0) X (by decide) d_Scene_stands_162 ?_
              exact dk_retz hR hF d_Scene_stands_163
            · refine dk_aload_n (k := 0) (i := 0) X 1 rfl rfl d_Scene_stands_142 ?_
              refine dk_iload_n (k := 1) (i := 1) X 2 rfl rfl d_Scene_stands_143 ?_
              refine dk_callVi X v_Scene_isOnItsPlace [.int x1] (c_Scene_isOnItsPlace l g ad T n x1 S) 18 (oC_Scene g ad T S) rfl rfl m_Scene_157 rfl rfl ⟨rfl, rfl, Nat.le_of_ble_eq_true rfl, Nat.le_of_ble_eq_true rfl, Nat.le_refl _, Nat.le_refl _⟩ (Nat.le_of_ble_eq_true rfl) d_Scene_stands_144 hF (fun r17 S16 hF => ?_)
              refine dk_if_eq (tgt := 162) X (by decide) d_Scene_stands_147 hF (fun hF => ?_) (fun hF => ?_)
              · refine dk_iconst (v := 0) X (by decide) d_Scene_stands_162 ?_
                exact dk_retz hR hF d_Scene_stands_163
              · refine dk_aload_n (k := 0) (i := 0) X 1 rfl rfl d_Scene_stands_150 ?_
                refine dk_iload_n (k := 2) (i := 2) X 0 rfl rfl d_Scene_stands_151 ?_
                refine dk_callVi X v_Scene_isHeld [.int v2] (c_Scene_isHeld l g ad T n v2 S16) 18 (oC_Scene g ad T S16) rfl rfl m_Scene_160 rfl rfl ⟨rfl, rfl, Nat.le_of_ble_eq_true rfl, Nat.le_of_ble_eq_true rfl, Nat.le_refl _, Nat.le_refl _⟩ (Nat.le_of_ble_eq_true rfl) d_Scene_stands_152 hF (fun r19 S18 hF => ?_)
                refine dk_if_ne (tgt := 162) X (by decide) d_Scene_stands_155 hF (fun hF => ?_) (fun hF => ?_)
                · refine dk_iconst (v := 0) X (by decide) d_Scene_stands_162 ?_
                  exact dk_retz hR hF d_Scene_stands_163
                · refine dk_iconst (v := 1) X (by decide) d_Scene_stands_158 ?_
                  refine dk_goto (tgt := 163) X (by decide) d_Scene_stands_159 ?_
                  exact dk_retz hR hF d_Scene_stands_163
          · refine dk_if hF (fun hc5 hF => ?_) (fun hc5 hF => ?_)
            · refine dk_tsIn (v := 5) (tgt := 164) X d_Scene_stands_24 (by rw [hc5]; decide) (by decide) (by decide) rfl (by decide) ?_
              refine dk_aload_n (k := 0) (i := 0) X 1 rfl rfl d_Scene_stands_164 ?_
              refine dk_get X q_Scene 18 13 (by decide) (oC_Scene g ad T S) rfl f_Scene_37 d_Scene_stands_165 ?_
              refine dk_iload_n (k := 2) (i := 2) X 0 rfl rfl d_Scene_stands_168 ?_
              refine dk_iald X 27 (aC_27 g ad T S) d_Scene_stands_169 hF (fun v20 hF => ?_)
              refine dk_aload_n (k := 0) (i := 0) X 1 rfl rfl d_Scene_stands_170 ?_
              refine dk_get X q_Scene 18 0 (by decide) (oC_Scene g ad T S) rfl f_Scene_46 d_Scene_stands_171 ?_
              refine dk_get X q_Land 1 1 (by decide) (oC_Land g ad T S) rfl f_Scene_83 d_Scene_stands_174 ?_
              refine dk_iload_n (k := 2) (i := 2) X 0 rfl rfl d_Scene_stands_177 ?_
              refine dk_iald X 3 (aC_3 g ad T S) d_Scene_stands_178 hF (fun v21 hF => ?_)
              refine dk_icmp_eq (tgt := 198) X (by decide) d_Scene_stands_179 hF (fun hF => ?_) (fun hF => ?_)
              · refine dk_iconst (v := 1) X (by decide) d_Scene_stands_198 ?_
                refine dk_goto (tgt := 203) X (by decide) d_Scene_stands_199 ?_
                exact dk_retz hR hF d_Scene_stands_203
              · refine dk_aload_n (k := 0) (i := 0) X 1 rfl rfl d_Scene_stands_182 ?_
                refine dk_get X q_Scene 18 12 (by decide) (oC_Scene g ad T S) rfl f_Scene_75 d_Scene_stands_183 ?_
                refine dk_aload_n (k := 0) (i := 0) X 1 rfl rfl d_Scene_stands_186 ?_
                refine dk_get X q_Scene 18 14 (by decide) (oC_Scene g ad T S) rfl f_Scene_40 d_Scene_stands_187 ?_
                refine dk_iload_n (k := 2) (i := 2) X 0 rfl rfl d_Scene_stands_190 ?_
                refine dk_iald X 28 (aC_28 g ad T S) d_Scene_stands_191 hF (fun v22 hF => ?_)
                refine dk_isub X d_Scene_stands_192 ?_
                refine dk_bipush (v := 30) X (by decide) d_Scene_stands_193 ?_
                refine dk_icmp_gt (tgt := 202) X (by decide) d_Scene_stands_195 hF (fun hF => ?_) (fun hF => ?_)
                · refine dk_iconst (v := 0) X (by decide) d_Scene_stands_202 ?_
                  exact dk_retz hR hF d_Scene_stands_203
                · refine dk_iconst (v := 1) X (by decide) d_Scene_stands_198 ?_
                  refine dk_goto (tgt := 203) X (by decide) d_Scene_stands_199 ?_
                  exact dk_retz hR hF d_Scene_stands_203
            · refine dk_tsOut (tgt := 204) X d_Scene_stands_24 (by have e1 := lv_neT hc1 (a := 1) (by decide); have e2 := lv_neT hc2 (a := 2) (by decide); have e3 := lv_neT hc3 (a := 3) (by decide); have e4 := lv_neT hc4 (a := 4) (by decide); have e5 := lv_neT hc5 (a := 5) (by decide); omega) (by decide) ?_
              refine dk_aload_n (k := 0) (i := 0) X 1 rfl rfl d_Scene_stands_204 ?_
              refine dk_get X q_Scene 18 9 (by decide) (oC_Scene g ad T S) rfl f_Scene_30 d_Scene_stands_205 ?_
              refine dk_iload_n (k := 1) (i := 1) X 2 rfl rfl d_Scene_stands_208 ?_
              refine dk_iald X 25 (aC_25 g ad T S) d_Scene_stands_209 hF (fun v23 hF => ?_)
              refine dk_iconst (v := -1) X (by decide) d_Scene_stands_210 ?_
              refine dk_icmp_ne (tgt := 218) X (by decide) d_Scene_stands_211 hF (fun hF => ?_) (fun hF => ?_)
              · refine dk_iconst (v := 0) X (by decide) d_Scene_stands_218 ?_
                exact dk_retz hR hF d_Scene_stands_219
              · refine dk_iconst (v := 1) X (by decide) d_Scene_stands_214 ?_
                refine dk_goto (tgt := 219) X (by decide) d_Scene_stands_215 ?_
                exact dk_retz hR hF d_Scene_stands_219
  · refine dk_iconst (v := 0) X (by decide) d_Scene_stands_9 ?_
    exact dk_retz hR hF d_Scene_stands_10
def F_Scene_stands (n T : Nat) (x1 : Int32) (S : dk_S) : Option (Int32 × dk_S) := B_Scene_stands_0 n T x1 S
theorem c_Scene_stands (l : Launch) (g : dk_G) (ad : Nat → Nat) (T n : Nat) (x1 : Int32)  (S : dk_S) : dk_Mi l g y_Scene_stands b_Scene_stands 3 rm_Scene_stands (some .boolean) [.ref (ad 18), .int x1] (wC g ad T) S (F_Scene_stands n T x1 S) := dk_enteri (by decide) (Nat.le_of_ble_eq_true rfl) (fun p e s m args below meth c A Q res hF X hR => (kb_Scene_stands_0 (n := n) X hR  hF))
abbrev b_Scene_weight : ByteArray := prog_7_method_17_code
def y_Scene_weight : MethodName := ⟨R_Scene, "weight", "(I)I"⟩
theorem d_Scene_weight_0 : decode b_Scene_weight 0 = .ok (.aload_n 0, 1) := by decide +kernel
theorem d_Scene_weight_1 : decode b_Scene_weight 1 = .ok (.getfield 9, 3) := by decide +kernel
theorem d_Scene_weight_4 : decode b_Scene_weight 4 = .ok (.iload_n 1, 1) := by decide +kernel
theorem d_Scene_weight_5 : decode b_Scene_weight 5 = .ok (.iaload, 1) := by decide +kernel
theorem d_Scene_weight_6 : decode b_Scene_weight 6 = .ok (.tableswitch 67 1 5 #[34, 36, 45, 55, 57], 34) := by decide +kernel
theorem d_Scene_weight_40 : decode b_Scene_weight 40 = .ok (.iconst 3, 1) := by decide +kernel
theorem d_Scene_weight_41 : decode b_Scene_weight 41 = .ok (.ireturn, 1) := by decide +kernel
theorem d_Scene_weight_42 : decode b_Scene_weight 42 = .ok (.iconst 3, 1) := by decide +kernel
theorem d_Scene_weight_43 : decode b_Scene_weight 43 = .ok (.aload_n 0, 1) := by decide +kernel
theorem d_Scene_weight_44 : decode b_Scene_weight 44 = .ok (.getfield 24, 3) := by decide +kernel
theorem d_Scene_weight_47 : decode b_Scene_weight 47 = .ok (.iload_n 1, 1) := by decide +kernel
theorem d_Scene_weight_48 : decode b_Scene_weight 48 = .ok (.iaload, 1) := by decide +kernel
theorem d_Scene_weight_49 : decode b_Scene_weight 49 = .ok (.iadd, 1) := by decide +kernel
theorem d_Scene_weight_50 : decode b_Scene_weight 50 = .ok (.ireturn, 1) := by decide +kernel
theorem d_Scene_weight_51 : decode b_Scene_weight 51 = .ok (.bipush 10, 2) := by decide +kernel
theorem d_Scene_weight_53 : decode b_Scene_weight 53 = .ok (.aload_n 0, 1) := by decide +kernel
theorem d_Scene_weight_54 : decode b_Scene_weight 54 = .ok (.getfield 24, 3) := by decide +kernel
theorem d_Scene_weight_57 : decode b_Scene_weight 57 = .ok (.iload_n 1, 1) := by decide +kernel
theorem d_Scene_weight_58 : decode b_Scene_weight 58 = .ok (.iaload, 1) := by decide +kernel
theorem d_Scene_weight_59 : decode b_Scene_weight 59 = .ok (.iadd, 1) := by decide +kernel
theorem d_Scene_weight_60 : decode b_Scene_weight 60 = .ok (.ireturn, 1) := by decide +kernel
theorem d_Scene_weight_61 : decode b_Scene_weight 61 = .ok (.iconst 4, 1) := by decide +kernel
theorem d_Scene_weight_62 : decode b_Scene_weight 62 = .ok (.ireturn, 1) := by decide +kernel
theorem d_Scene_weight_63 : decode b_Scene_weight 63 = .ok (.bipush 6, 2) := by decide +kernel
theorem d_Scene_weight_65 : decode b_Scene_weight 65 = .ok (.aload_n 0, 1) := by decide +kernel
theorem d_Scene_weight_66 : decode b_Scene_weight 66 = .ok (.getfield 24, 3) := by decide +kernel
theorem d_Scene_weight_69 : decode b_Scene_weight 69 = .ok (.iload_n 1, 1) := by decide +kernel
theorem d_Scene_weight_70 : decode b_Scene_weight 70 = .ok (.iaload, 1) := by decide +kernel
theorem d_Scene_weight_71 : decode b_Scene_weight 71 = .ok (.iadd, 1) := by decide +kernel
theorem d_Scene_weight_72 : decode b_Scene_weight 72 = .ok (.ireturn, 1) := by decide +kernel
theorem d_Scene_weight_73 : decode b_Scene_weight 73 = .ok (.iconst 1, 1) := by decide +kernel
theorem d_Scene_weight_74 : decode b_Scene_weight 74 = .ok (.ireturn, 1) := by decide +kernel
theorem v_Scene_weight : dk_Yv y_Scene_weight b_Scene_weight 2 (some .int) 1 := ⟨dk_in (List.mem_of_getElem? (i := 765) (by decide +kernel)) rfl, dk_in (List.mem_of_getElem? (i := 766) (by decide +kernel)) rfl, dk_in (List.mem_of_getElem? (i := 72) (by decide +kernel)) rfl, dk_in (List.mem_of_getElem? (i := 767) (by decide +kernel)) rfl, by decide +kernel, by decide +kernel, by decide +kernel⟩
abbrev rm_Scene_weight : Room := { frames := 0, cells := 0, slots := 0, locals := 0 }
def B_Scene_weight_0 (n T : Nat)  (x1 : Int32) (S : dk_S) : Option (Int32 × dk_S) :=
  dk_r 44 (S 19) x1 fun v1 => if v1 = (1 : Int32) then (some ((3 : Int32), S)) else (if v1 = (2 : Int32) then (dk_r 44 (S 23) x1 fun v2 => some (((3 : Int32) + v2), S)) else (if v1 = (3 : Int32) then (dk_r 44 (S 23) x1 fun v3 => some (((10 : Int32) + v3), S)) else (if v1 = (4 : Int32) then (some ((4 : Int32), S)) else (if v1 = (5 : Int32) then (dk_r 44 (S 23) x1 fun v4 => some (((6 : Int32) + v4), S)) else (some ((1 : Int32), S))))))
set_option maxRecDepth 20000 in
theorem kb_Scene_weight_0 {p : Program} {l : Launch} {e : Env} {s : State} {m : MethodId} {args : Array Value} {below : List Frame} {meth : Method} {c : Code} {g : dk_G} {A : Nat → Prop} {Q : State → Prop} {ad : Nat → Nat} {T : Nat} {n : Nat} {res : (Int32 × dk_S)} (X : dk_X p s m args meth c b_Scene_weight 2 R_Scene (some .int) g A) (hR : dk_Ri p l e rm_Scene_weight s m args below meth c g A Q 2 b_Scene_weight (some .int) (wC g ad T) res)  {x1 : Int32} {S : dk_S}  (hF : B_Scene_weight_0 n T  x1 S = some res) : dk_J p l e rm_Scene_weight s m args below meth c g A Q 2 0 0 0 [(0, .ref (ad 18)), (1, .int x1)] [] (wC g ad T S) := by
  unfold B_Scene_weight_0 at hF
  refine dk_aload_n (k := 0) (i := 0) X 0 rfl rfl d_Scene_weight_0 ?_
  refine dk_get X q_Scene 18 3 (by decide) (oC_Scene g ad T S) rfl f_Scene_9 d_Scene_weight_1 ?_
  refine dk_iload_n (k := 1) (i := 1) X 1 rfl rfl d_Scene_weight_4 ?_
  refine dk_iald X 19 (aC_19 g ad T S) d_Scene_weight_5 hF (fun v1 hF => ?_)
  refine dk_if hF (fun hc1 hF => ?_) (fun hc1 hF => ?_)
  · refine dk_tsIn (v := 1) (tgt := 40) X d_Scene_weight_6 (by rw [hc1]; decide) (by decide) (by decide) rfl (by decide) ?_
    refine dk_iconst (v := 3) X (by decide) d_Scene_weight_40 ?_
    exact dk_reti hR hF d_Scene_weight_41
  · refine dk_if hF (fun hc2 hF => ?_) (fun hc2 hF => ?_)
    · refine dk_tsIn (v := 2) (tgt := 42) X d_Scene_weight_6 (by rw [hc2]; decide) (by decide) (by decide) rfl (by decide) ?_
      refine dk_iconst (v := 3) X (by decide) d_Scene_weight_42 ?_
      refine dk_aload_n (k := 0) (i := 0) X 0 rfl rfl d_Scene_weight_43 ?_
      refine dk_get X q_Scene 18 7 (by decide) (oC_Scene g ad T S) rfl f_Scene_24 d_Scene_weight_44 ?_
      refine dk_iload_n (k := 1) (i := 1) X 1 rfl rfl d_Scene_weight_47 ?_
      refine dk_iald X 23 (aC_23 g ad T S) d_Scene_weight_48 hF (fun v2 hF => ?_)
      refine dk_iadd X d_Scene_weight_49 ?_
      exact dk_reti hR hF d_Scene_weight_50
    · refine dk_if hF (fun hc3 hF => ?_) (fun hc3 hF => ?_)
      · refine dk_tsIn (v := 3) (tgt := 51) X d_Scene_weight_6 (by rw [hc3]; decide) (by decide) (by decide) rfl (by decide) ?_
        refine dk_bipush (v := 10) X (by decide) d_Scene_weight_51 ?_
        refine dk_aload_n (k := 0) (i := 0) X 0 rfl rfl d_Scene_weight_53 ?_
        refine dk_get X q_Scene 18 7 (by decide) (oC_Scene g ad T S) rfl f_Scene_24 d_Scene_weight_54 ?_
        refine dk_iload_n (k := 1) (i := 1) X 1 rfl rfl d_Scene_weight_57 ?_
        refine dk_iald X 23 (aC_23 g ad T S) d_Scene_weight_58 hF (fun v3 hF => ?_)
        refine dk_iadd X d_Scene_weight_59 ?_
        exact dk_reti hR hF d_Scene_weight_60
      · refine dk_if hF (fun hc4 hF => ?_) (fun hc4 hF => ?_)
        · refine dk_tsIn (v := 4) (tgt := 61) X d_Scene_weight_6 (by rw [hc4]; decide) (by decide) (by decide) rfl (by decide) ?_
          refine dk_iconst (v := 4) X (by decide) d_Scene_weight_61 ?_
          exact dk_reti hR hF d_Scene_weight_62
        · refine dk_if hF (fun hc5 hF => ?_) (fun hc5 hF => ?_)
          · refine dk_tsIn (v := 5) (tgt := 63) X d_Scene_weight_6 (by rw [hc5]; decide) (by decide) (by decide) rfl (by decide) ?_
            refine dk_bipush (v := 6) X (by decide) d_Scene_weight_63 ?_
            refine dk_aload_n (k := 0) (i := 0) X 0 rfl rfl d_Scene_weight_65 ?_
            refine dk_get X q_Scene 18 7 (by decide) (oC_Scene g ad T S) rfl f_Scene_24 d_Scene_weight_66 ?_
            refine dk_iload_n (k := 1) (i := 1) X 1 rfl rfl d_Scene_weight_69 ?_
            refine dk_iald X 23 (aC_23 g ad T S) d_Scene_weight_70 hF (fun v4 hF => ?_)
            refine dk_iadd X d_Scene_weight_71 ?_
            exact dk_reti hR hF d_Scene_weight_72
          · refine dk_tsOut (tgt := 73) X d_Scene_weight_6 (by have e1 := lv_neT hc1 (a := 1) (by decide); have e2 := lv_neT hc2 (a := 2) (by decide); have e3 := lv_neT hc3 (a := 3) (by decide); have e4 := lv_neT hc4 (a := 4) (by decide); have e5 := lv_neT hc5 (a := 5) (by decide); omega) (by decide) ?_
            refine dk_iconst (v := 1) X (by decide) d_Scene_weight_73 ?_
            exact dk_reti hR hF d_Scene_weight_74
def F_Scene_weight (n T : Nat) (x1 : Int32) (S : dk_S) : Option (Int32 × dk_S) := B_Scene_weight_0 n T x1 S
theorem c_Scene_weight (l : Launch) (g : dk_G) (ad : Nat → Nat) (T n : Nat) (x1 : Int32)  (S : dk_S) : dk_Mi l g y_Scene_weight b_Scene_weight 2 rm_Scene_weight (some .int) [.ref (ad 18), .int x1] (wC g ad T) S (F_Scene_weight n T x1 S) := dk_enteri (by decide) (Nat.le_of_ble_eq_true rfl) (fun p e s m args below meth c A Q res hF X hR => (kb_Scene_weight_0 (n := n) X hR  hF))
abbrev b_Scene_worth : ByteArray := prog_7_method_23_code
def y_Scene_worth : MethodName := ⟨R_Scene, "worth", "(I)I"⟩
theorem d_Scene_worth_0 : decode b_Scene_worth 0 = .ok (.aload_n 0, 1) := by decide +kernel
theorem d_Scene_worth_1 : decode b_Scene_worth 1 = .ok (.getfield 18, 3) := by decide +kernel
theorem d_Scene_worth_4 : decode b_Scene_worth 4 = .ok (.iload_n 1, 1) := by decide +kernel
theorem d_Scene_worth_5 : decode b_Scene_worth 5 = .ok (.iaload, 1) := by decide +kernel
theorem d_Scene_worth_6 : decode b_Scene_worth 6 = .ok (.istore_n 2, 1) := by decide +kernel
theorem d_Scene_worth_7 : decode b_Scene_worth 7 = .ok (.aload_n 0, 1) := by decide +kernel
theorem d_Scene_worth_8 : decode b_Scene_worth 8 = .ok (.getfield 54, 3) := by decide +kernel
theorem d_Scene_worth_11 : decode b_Scene_worth 11 = .ok (.iconst (-1), 1) := by decide +kernel
theorem d_Scene_worth_12 : decode b_Scene_worth 12 = .ok (.aload_n 0, 1) := by decide +kernel
theorem d_Scene_worth_13 : decode b_Scene_worth 13 = .ok (.getfield 9, 3) := by decide +kernel
theorem d_Scene_worth_16 : decode b_Scene_worth 16 = .ok (.iload_n 1, 1) := by decide +kernel
theorem d_Scene_worth_17 : decode b_Scene_worth 17 = .ok (.iaload, 1) := by decide +kernel
theorem d_Scene_worth_18 : decode b_Scene_worth 18 = .ok (.invokevirtual 163, 3) := by decide +kernel
theorem d_Scene_worth_21 : decode b_Scene_worth 21 = .ok (.aload_n 0, 1) := by decide +kernel
theorem d_Scene_worth_22 : decode b_Scene_worth 22 = .ok (.getfield 54, 3) := by decide +kernel
theorem d_Scene_worth_25 : decode b_Scene_worth 25 = .ok (.bipush (-2), 2) := by decide +kernel
theorem d_Scene_worth_27 : decode b_Scene_worth 27 = .ok (.aload_n 0, 1) := by decide +kernel
theorem d_Scene_worth_28 : decode b_Scene_worth 28 = .ok (.getfield 75, 3) := by decide +kernel
theorem d_Scene_worth_31 : decode b_Scene_worth 31 = .ok (.aload_n 0, 1) := by decide +kernel
theorem d_Scene_worth_32 : decode b_Scene_worth 32 = .ok (.getfield 21, 3) := by decide +kernel
theorem d_Scene_worth_35 : decode b_Scene_worth 35 = .ok (.iload_n 1, 1) := by decide +kernel
theorem d_Scene_worth_36 : decode b_Scene_worth 36 = .ok (.iaload, 1) := by decide +kernel
theorem d_Scene_worth_37 : decode b_Scene_worth 37 = .ok (.isub, 1) := by decide +kernel
theorem d_Scene_worth_38 : decode b_Scene_worth 38 = .ok (.invokevirtual 163, 3) := by decide +kernel
theorem d_Scene_worth_41 : decode b_Scene_worth 41 = .ok (.aload_n 0, 1) := by decide +kernel
theorem d_Scene_worth_42 : decode b_Scene_worth 42 = .ok (.getfield 54, 3) := by decide +kernel
theorem d_Scene_worth_45 : decode b_Scene_worth 45 = .ok (.bipush (-3), 2) := by decide +kernel
theorem d_Scene_worth_47 : decode b_Scene_worth 47 = .ok (.aload_n 0, 1) := by decide +kernel
theorem d_Scene_worth_48 : decode b_Scene_worth 48 = .ok (.iload_n 1, 1) := by decide +kernel
theorem d_Scene_worth_49 : decode b_Scene_worth 49 = .ok (.invokevirtual 181, 3) := by decide +kernel
theorem d_Scene_worth_52 : decode b_Scene_worth 52 = .ok (.invokevirtual 163, 3) := by decide +kernel
theorem d_Scene_worth_55 : decode b_Scene_worth 55 = .ok (.aload_n 0, 1) := by decide +kernel
theorem d_Scene_worth_56 : decode b_Scene_worth 56 = .ok (.getfield 54, 3) := by decide +kernel
theorem d_Scene_worth_59 : decode b_Scene_worth 59 = .ok (.bipush (-4), 2) := by decide +kernel
theorem d_Scene_worth_61 : decode b_Scene_worth 61 = .ok (.aload_n 0, 1) := by decide +kernel
theorem d_Scene_worth_62 : decode b_Scene_worth 62 = .ok (.getfield 46, 3) := by decide +kernel
theorem d_Scene_worth_65 : decode b_Scene_worth 65 = .ok (.aload_n 0, 1) := by decide +kernel
theorem d_Scene_worth_66 : decode b_Scene_worth 66 = .ok (.getfield 37, 3) := by decide +kernel
theorem d_Scene_worth_69 : decode b_Scene_worth 69 = .ok (.iload_n 2, 1) := by decide +kernel
theorem d_Scene_worth_70 : decode b_Scene_worth 70 = .ok (.iaload, 1) := by decide +kernel
theorem d_Scene_worth_71 : decode b_Scene_worth 71 = .ok (.invokevirtual 139, 3) := by decide +kernel
theorem d_Scene_worth_74 : decode b_Scene_worth 74 = .ok (.aload_n 0, 1) := by decide +kernel
theorem d_Scene_worth_75 : decode b_Scene_worth 75 = .ok (.getfield 15, 3) := by decide +kernel
theorem d_Scene_worth_78 : decode b_Scene_worth 78 = .ok (.iload_n 1, 1) := by decide +kernel
theorem d_Scene_worth_79 : decode b_Scene_worth 79 = .ok (.iaload, 1) := by decide +kernel
theorem d_Scene_worth_80 : decode b_Scene_worth 80 = .ok (.if_icmp .ne 7, 3) := by decide +kernel
theorem d_Scene_worth_83 : decode b_Scene_worth 83 = .ok (.iconst 1, 1) := by decide +kernel
theorem d_Scene_worth_84 : decode b_Scene_worth 84 = .ok (.goto 4, 3) := by decide +kernel
theorem d_Scene_worth_87 : decode b_Scene_worth 87 = .ok (.iconst 0, 1) := by decide +kernel
theorem d_Scene_worth_88 : decode b_Scene_worth 88 = .ok (.invokevirtual 163, 3) := by decide +kernel
theorem d_Scene_worth_91 : decode b_Scene_worth 91 = .ok (.aload_n 0, 1) := by decide +kernel
theorem d_Scene_worth_92 : decode b_Scene_worth 92 = .ok (.getfield 54, 3) := by decide +kernel
theorem d_Scene_worth_95 : decode b_Scene_worth 95 = .ok (.bipush (-5), 2) := by decide +kernel
theorem d_Scene_worth_97 : decode b_Scene_worth 97 = .ok (.aload_n 0, 1) := by decide +kernel
theorem d_Scene_worth_98 : decode b_Scene_worth 98 = .ok (.getfield 46, 3) := by decide +kernel
theorem d_Scene_worth_101 : decode b_Scene_worth 101 = .ok (.iload_n 2, 1) := by decide +kernel
theorem d_Scene_worth_102 : decode b_Scene_worth 102 = .ok (.invokevirtual 86, 3) := by decide +kernel
theorem d_Scene_worth_105 : decode b_Scene_worth 105 = .ok (.ifCond .eq 7, 3) := by decide +kernel
theorem d_Scene_worth_108 : decode b_Scene_worth 108 = .ok (.iconst 1, 1) := by decide +kernel
theorem d_Scene_worth_109 : decode b_Scene_worth 109 = .ok (.goto 4, 3) := by decide +kernel
theorem d_Scene_worth_112 : decode b_Scene_worth 112 = .ok (.iconst 0, 1) := by decide +kernel
theorem d_Scene_worth_113 : decode b_Scene_worth 113 = .ok (.invokevirtual 163, 3) := by decide +kernel
theorem d_Scene_worth_116 : decode b_Scene_worth 116 = .ok (.aload_n 0, 1) := by decide +kernel
theorem d_Scene_worth_117 : decode b_Scene_worth 117 = .ok (.getfield 54, 3) := by decide +kernel
theorem d_Scene_worth_120 : decode b_Scene_worth 120 = .ok (.bipush (-6), 2) := by decide +kernel
theorem d_Scene_worth_122 : decode b_Scene_worth 122 = .ok (.aload_n 0, 1) := by decide +kernel
theorem d_Scene_worth_123 : decode b_Scene_worth 123 = .ok (.getfield 15, 3) := by decide +kernel
theorem d_Scene_worth_126 : decode b_Scene_worth 126 = .ok (.iload_n 1, 1) := by decide +kernel
theorem d_Scene_worth_127 : decode b_Scene_worth 127 = .ok (.iaload, 1) := by decide +kernel
theorem d_Scene_worth_128 : decode b_Scene_worth 128 = .ok (.invokevirtual 163, 3) := by decide +kernel
theorem d_Scene_worth_131 : decode b_Scene_worth 131 = .ok (.iconst 0, 1) := by decide +kernel
theorem d_Scene_worth_132 : decode b_Scene_worth 132 = .ok (.sipush 9999, 3) := by decide +kernel
theorem d_Scene_worth_135 : decode b_Scene_worth 135 = .ok (.aload_n 0, 1) := by decide +kernel
theorem d_Scene_worth_136 : decode b_Scene_worth 136 = .ok (.getfield 54, 3) := by decide +kernel
theorem d_Scene_worth_139 : decode b_Scene_worth 139 = .ok (.aload_n 0, 1) := by decide +kernel
theorem d_Scene_worth_140 : decode b_Scene_worth 140 = .ok (.getfield 54, 3) := by decide +kernel
theorem d_Scene_worth_143 : decode b_Scene_worth 143 = .ok (.getfield 168, 3) := by decide +kernel
theorem d_Scene_worth_146 : decode b_Scene_worth 146 = .ok (.getfield 184, 3) := by decide +kernel
theorem d_Scene_worth_149 : decode b_Scene_worth 149 = .ok (.invokevirtual 177, 3) := by decide +kernel
theorem d_Scene_worth_152 : decode b_Scene_worth 152 = .ok (.invokestatic 187, 3) := by decide +kernel
theorem d_Scene_worth_155 : decode b_Scene_worth 155 = .ok (.invokestatic 193, 3) := by decide +kernel
theorem d_Scene_worth_158 : decode b_Scene_worth 158 = .ok (.ireturn, 1) := by decide +kernel
theorem v_Scene_worth : dk_Yv y_Scene_worth b_Scene_worth 3 (some .int) 1 := ⟨dk_in (List.mem_of_getElem? (i := 769) (by decide +kernel)) rfl, dk_in (List.mem_of_getElem? (i := 770) (by decide +kernel)) rfl, dk_in (List.mem_of_getElem? (i := 72) (by decide +kernel)) rfl, dk_in (List.mem_of_getElem? (i := 771) (by decide +kernel)) rfl, by decide +kernel, by decide +kernel, by decide +kernel⟩
abbrev rm_Scene_worth : Room := { frames := 2, cells := 0, slots := 0, locals := 46 }
theorem f_Scene_184 : Cond.fieldLink R_Scene 184 (T_Text 0).1 (T_Text 0).2.1 (T_Text 0).2.2.1 ∈ dk_tb := dk_in (List.mem_of_getElem? (i := 218) (by decide +kernel)) rfl
theorem m_Scene_181 : Cond.methodLink R_Scene 181 y_Scene_weight ∈ dk_tb := dk_in (List.mem_of_getElem? (i := 772) (by decide +kernel)) rfl
theorem mm_Scene_187 : Cond.methodLink R_Scene 187 Lib.Math.min.name ∈ dk_tb := dk_in (List.mem_of_getElem? (i := 773) (by decide +kernel)) rfl
theorem mm_Scene_193 : Cond.methodLink R_Scene 193 Lib.Math.max.name ∈ dk_tb := dk_in (List.mem_of_getElem? (i := 774) (by decide +kernel)) rfl
def B_Scene_worth_113 (n T : Nat)  (x1 : Int32) (u1 : Int32) (u2 : Int32) (S : dk_S) : Option (Int32 × dk_S) :=
  dk_cv (F_Scales_setName n T u1 u2 S) fun S1 => dk_r 44 (S1 20) x1 fun v3 => dk_cv (F_Scales_setName n T (-6 : Int32) v3 S1) fun S4 => dk_t T S4 fun t6 => dk_c (F_Scales_value n T t6 0 S4) fun r8 S7 => some ((if (0 : Int32) < (if r8 < (9999 : Int32) then r8 else (9999 : Int32)) then (if r8 < (9999 : Int32) then r8 else (9999 : Int32)) else (0 : Int32)), S7)
set_option maxRecDepth 20000 in
theorem kb_Scene_worth_113 {p : Program} {l : Launch} {e : Env} {s : State} {m : MethodId} {args : Array Value} {below : List Frame} {meth : Method} {c : Code} {g : dk_G} {A : Nat → Prop} {Q : State → Prop} {ad : Nat → Nat} {T : Nat} {n : Nat} {res : (Int32 × dk_S)} (X : dk_X p s m args meth c b_Scene_worth 3 R_Scene (some .int) g A) (hR : dk_Ri p l e rm_Scene_worth s m args below meth c g A Q 3 b_Scene_worth (some .int) (wC g ad T) res)  {x1 : Int32} {u1 : Int32} {u2 : Int32} {S : dk_S}  (hF : B_Scene_worth_113 n T  x1 u1 u2 S = some res) : dk_J p l e rm_Scene_worth s m args below meth c g A Q 3 0 0 113 [(0, .ref (ad 18)), (1, .int x1)] [.int u2, .int u1, .ref (ad 15)] (wC g ad T S) := by
  unfold B_Scene_worth_113 at hF
  refine dk_callVv X v_Scales_setName [.int u1, .int u2] (c_Scales_setName l g ad T n u1 u2 S) 15 (oC_Scales g ad T S) rfl rfl m_Scene_163 rfl rfl ⟨rfl, rfl, Nat.le_of_ble_eq_true rfl, Nat.le_of_ble_eq_true rfl, Nat.le_refl _, Nat.le_refl _⟩ (Nat.le_of_ble_eq_true rfl) d_Scene_worth_113 hF (fun S1 hF => ?_)
  refine dk_aload_n (k := 0) (i := 0) X 0 rfl rfl d_Scene_worth_116 ?_
  refine dk_get X q_Scene 18 2 (by decide) (oC_Scene g ad T S1) rfl f_Scene_54 d_Scene_worth_117 ?_
  refine dk_bipush (v := -6) X (by decide) d_Scene_worth_120 ?_
  refine dk_aload_n (k := 0) (i := 0) X 0 rfl rfl d_Scene_worth_122 ?_
  refine dk_get X q_Scene 18 4 (by decide) (oC_Scene g ad T S1) rfl f_Scene_15 d_Scene_worth_123 ?_
  refine dk_iload_n (k := 1) (i := 1) X 1 rfl rfl d_Scene_worth_126 ?_
  refine dk_iald X 20 (aC_20 g ad T S1) d_Scene_worth_127 hF (fun v3 hF => ?_)
  refine dk_callVv X v_Scales_setName [.int (-6 : Int32), .int v3] (c_Scales_setName l g ad T n (-6 : Int32) v3 S1) 15 (oC_Scales g ad T S1) rfl rfl m_Scene_163 rfl rfl ⟨rfl, rfl, Nat.le_of_ble_eq_true rfl, Nat.le_of_ble_eq_true rfl, Nat.le_refl _, Nat.le_refl _⟩ (Nat.le_of_ble_eq_true rfl) d_Scene_worth_128 hF (fun S4 hF => ?_)
  refine dk_iconst (v := 0) X (by decide) d_Scene_worth_131 ?_
  refine dk_sipush (v := 9999) X (by decide) d_Scene_worth_132 ?_
  refine dk_aload_n (k := 0) (i := 0) X 0 rfl rfl d_Scene_worth_135 ?_
  refine dk_get X q_Scene 18 2 (by decide) (oC_Scene g ad T S4) rfl f_Scene_54 d_Scene_worth_136 ?_
  refine dk_aload_n (k := 0) (i := 0) X 0 rfl rfl d_Scene_worth_139 ?_
  refine dk_get X q_Scene 18 2 (by decide) (oC_Scene g ad T S4) rfl f_Scene_54 d_Scene_worth_140 ?_
  obtain ⟨t6, ht6, et6, hF⟩ := dk_t_out hF
  refine dk_get X q_Scales 15 2 (by decide) (oC_Scales g ad T S4) (v := .ref (ad (43 + 3 * t6))) (by rw [et6]; rfl) f_Scene_168 d_Scene_worth_143 ?_
  refine dk_get X q_Text (43 + 3 * t6 + 0) 0 (by decide) (oC_text g ad T S4 t6 ht6) rfl f_Scene_184 d_Scene_worth_146 ?_
  refine dk_callVi X v_Scales_value [.ref (ad (44 + 3 * t6 + 0))] (c_Scales_value l g ad T n t6 0 ht6 (by decide) S4) 15 (oC_Scales g ad T S4) rfl rfl m_Scene_177 rfl rfl ⟨rfl, rfl, Nat.le_of_ble_eq_true rfl, Nat.le_of_ble_eq_true rfl, Nat.le_refl _, Nat.le_refl _⟩ (Nat.le_of_ble_eq_true rfl) d_Scene_worth_149 hF (fun r8 S7 hF => ?_)
  refine dk_mmin X mm_Scene_187 (Nat.le_of_ble_eq_true rfl) (Nat.le_of_ble_eq_true rfl) (Nat.le_refl _) (Nat.le_refl _) d_Scene_worth_152 ?_
  refine dk_mmax X mm_Scene_193 (Nat.le_of_ble_eq_true rfl) (Nat.le_of_ble_eq_true rfl) (Nat.le_refl _) (Nat.le_refl _) d_Scene_worth_155 ?_
  exact dk_reti hR hF d_Scene_worth_158
def B_Scene_worth_88 (n T : Nat)  (x1 : Int32) (x2 : Int32) (u1 : Int32) (u2 : Int32) (S : dk_S) : Option (Int32 × dk_S) :=
  dk_cv (F_Scales_setName n T u1 u2 S) fun S9 => dk_c (F_Land_isTame n T x2 S9) fun r12 S11 => if r12 = 0 then (B_Scene_worth_113 n T  x1 (-5 : Int32) (0 : Int32) S11) else (B_Scene_worth_113 n T  x1 (-5 : Int32) (1 : Int32) S11)
set_option maxRecDepth 20000 in
theorem kb_Scene_worth_88 {p : Program} {l : Launch} {e : Env} {s : State} {m : MethodId} {args : Array Value} {below : List Frame} {meth : Method} {c : Code} {g : dk_G} {A : Nat → Prop} {Q : State → Prop} {ad : Nat → Nat} {T : Nat} {n : Nat} {res : (Int32 × dk_S)} (X : dk_X p s m args meth c b_Scene_worth 3 R_Scene (some .int) g A) (hR : dk_Ri p l e rm_Scene_worth s m args below meth c g A Q 3 b_Scene_worth (some .int) (wC g ad T) res)  {x1 : Int32} {x2 : Int32} {u1 : Int32} {u2 : Int32} {S : dk_S}  (hF : B_Scene_worth_88 n T  x1 x2 u1 u2 S = some res) : dk_J p l e rm_Scene_worth s m args below meth c g A Q 3 0 0 88 [(0, .ref (ad 18)), (1, .int x1), (2, .int x2)] [.int u2, .int u1, .ref (ad 15)] (wC g ad T S) := by
  unfold B_Scene_worth_88 at hF
  refine dk_callVv X v_Scales_setName [.int u1, .int u2] (c_Scales_setName l g ad T n u1 u2 S) 15 (oC_Scales g ad T S) rfl rfl m_Scene_163 rfl rfl ⟨rfl, rfl, Nat.le_of_ble_eq_true rfl, Nat.le_of_ble_eq_true rfl, Nat.le_refl _, Nat.le_refl _⟩ (Nat.le_of_ble_eq_true rfl) d_Scene_worth_88 hF (fun S9 hF => ?_)
  refine dk_aload_n (k := 0) (i := 0) X 0 rfl rfl d_Scene_worth_91 ?_
  refine dk_get X q_Scene 18 2 (by decide) (oC_Scene g ad T S9) rfl f_Scene_54 d_Scene_worth_92 ?_
  refine dk_bipush (v := -5) X (by decide) d_Scene_worth_95 ?_
  refine dk_aload_n (k := 0) (i := 0) X 0 rfl rfl d_Scene_worth_97 ?_
  refine dk_get X q_Scene 18 0 (by decide) (oC_Scene g ad T S9) rfl f_Scene_46 d_Scene_worth_98 ?_
  refine dk_iload_n (k := 2) (i := 2) X 2 rfl rfl d_Scene_worth_101 ?_
  refine dk_callVi X v_Land_isTame [.int x2] (c_Land_isTame l g ad T n x2 S9) 1 (oC_Land g ad T S9) rfl rfl m_Scene_86 rfl rfl ⟨rfl, rfl, Nat.le_of_ble_eq_true rfl, Nat.le_of_ble_eq_true rfl, Nat.le_refl _, Nat.le_refl _⟩ (Nat.le_of_ble_eq_true rfl) d_Scene_worth_102 hF (fun r12 S11 hF => ?_)
  refine dk_if_eq (tgt := 112) X (by decide) d_Scene_worth_105 hF (fun hF => ?_) (fun hF => ?_)
  · refine dk_iconst (v := 0) X (by decide) d_Scene_worth_112 ?_
    exact dk_sub [0, 1] rfl (kb_Scene_worth_113 (n := n) X hR   hF)
  · refine dk_iconst (v := 1) X (by decide) d_Scene_worth_108 ?_
    refine dk_goto (tgt := 113) X (by decide) d_Scene_worth_109 ?_
    exact dk_sub [0, 1] rfl (kb_Scene_worth_113 (n := n) X hR   hF)
def B_Scene_worth_0 (n T : Nat)  (x1 : Int32) (S : dk_S) : Option (Int32 × dk_S) :=
  dk_r 44 (S 21) x1 fun v13 => dk_r 44 (S 19) x1 fun v14 => dk_cv (F_Scales_setName n T (-1 : Int32) v14 S) fun S15 => dk_r 44 (S15 22) x1 fun v17 => dk_cv (F_Scales_setName n T (-2 : Int32) ((S15 116 0) - v17) S15) fun S18 => dk_c (F_Scene_weight n T x1 S18) fun r21 S20 => dk_cv (F_Scales_setName n T (-3 : Int32) r21 S20) fun S22 => dk_r 6 (S22 27) v13 fun v24 => dk_c (F_Land_ownerOf n T v24 S22) fun r26 S25 => dk_r 44 (S25 20) x1 fun v27 => if ¬ r26 = v27 then (B_Scene_worth_88 n T  x1 v13 (-4 : Int32) (0 : Int32) S25) else (B_Scene_worth_88 n T  x1 v13 (-4 : Int32) (1 : Int32) S25)
set_option maxRecDepth 20000 in
theorem kb_Scene_worth_0 {p : Program} {l : Launch} {e : Env} {s : State} {m : MethodId} {args : Array Value} {below : List Frame} {meth : Method} {c : Code} {g : dk_G} {A : Nat → Prop} {Q : State → Prop} {ad : Nat → Nat} {T : Nat} {n : Nat} {res : (Int32 × dk_S)} (X : dk_X p s m args meth c b_Scene_worth 3 R_Scene (some .int) g A) (hR : dk_Ri p l e rm_Scene_worth s m args below meth c g A Q 3 b_Scene_worth (some .int) (wC g ad T) res)  {x1 : Int32} {S : dk_S}  (hF : B_Scene_worth_0 n T  x1 S = some res) : dk_J p l e rm_Scene_worth s m args below meth c g A Q 3 0 0 0 [(0, .ref (ad 18)), (1, .int x1)] [] (wC g ad T S) := by
  unfold B_Scene_worth_0 at hF
  refine dk_aload_n (k := 0) (i := 0) X 0 rfl rfl d_Scene_worth_0 ?_
  refine dk_get X q_Scene 18 5 (by decide) (oC_Scene g ad T S) rfl f_Scene_18 d_Scene_worth_1 ?_
  refine dk_iload_n (k := 1) (i := 1) X 1 rfl rfl d_Scene_worth_4 ?_
  refine dk_iald X 21 (aC_21 g ad T S) d_Scene_worth_5 hF (fun v13 hF => ?_)
  refine dk_istore_n (k := 2) (i := 2) (lv' := [(2, .int v13), (0, .ref (ad 18)), (1, .int x1)]) X rfl (by decide) rfl d_Scene_worth_6 ?_
  refine dk_aload_n (k := 0) (i := 0) X 1 rfl rfl d_Scene_worth_7 ?_
  refine dk_get X q_Scene 18 2 (by decide) (oC_Scene g ad T S) rfl f_Scene_54 d_Scene_worth_8 ?_
  refine dk_iconst (v := -1) X (by decide) d_Scene_worth_11 ?_
  refine dk_aload_n (k := 0) (i := 0) X 1 rfl rfl d_Scene_worth_12 ?_
  refine dk_get X q_Scene 18 3 (by decide) (oC_Scene g ad T S) rfl f_Scene_9 d_Scene_worth_13 ?_
  refine dk_iload_n (k := 1) (i := 1) X 2 rfl rfl d_Scene_worth_16 ?_
  refine dk_iald X 19 (aC_19 g ad T S) d_Scene_worth_17 hF (fun v14 hF => ?_)
  refine dk_callVv X v_Scales_setName [.int (-1 : Int32), .int v14] (c_Scales_setName l g ad T n (-1 : Int32) v14 S) 15 (oC_Scales g ad T S) rfl rfl m_Scene_163 rfl rfl ⟨rfl, rfl, Nat.le_of_ble_eq_true rfl, Nat.le_of_ble_eq_true rfl, Nat.le_refl _, Nat.le_refl _⟩ (Nat.le_of_ble_eq_true rfl) d_Scene_worth_18 hF (fun S15 hF => ?_)
  refine dk_aload_n (k := 0) (i := 0) X 1 rfl rfl d_Scene_worth_21 ?_
  refine dk_get X q_Scene 18 2 (by decide) (oC_Scene g ad T S15) rfl f_Scene_54 d_Scene_worth_22 ?_
  refine dk_bipush (v := -2) X (by decide) d_Scene_worth_25 ?_
  refine dk_aload_n (k := 0) (i := 0) X 1 rfl rfl d_Scene_worth_27 ?_
  refine dk_get X q_Scene 18 12 (by decide) (oC_Scene g ad T S15) rfl f_Scene_75 d_Scene_worth_28 ?_
  refine dk_aload_n (k := 0) (i := 0) X 1 rfl rfl d_Scene_worth_31 ?_
  refine dk_get X q_Scene 18 6 (by decide) (oC_Scene g ad T S15) rfl f_Scene_21 d_Scene_worth_32 ?_
  refine dk_iload_n (k := 1) (i := 1) X 2 rfl rfl d_Scene_worth_35 ?_
  refine dk_iald X 22 (aC_22 g ad T S15) d_Scene_worth_36 hF (fun v17 hF => ?_)
  refine dk_isub X d_Scene_worth_37 ?_
  refine dk_callVv X v_Scales_setName [.int (-2 : Int32), .int ((S15 116 0) - v17)] (c_Scales_setName l g ad T n (-2 : Int32) ((S15 116 0) - v17) S15) 15 (oC_Scales g ad T S15) rfl rfl m_Scene_163 rfl rfl ⟨rfl, rfl, Nat.le_of_ble_eq_true rfl, Nat.le_of_ble_eq_true rfl, Nat.le_refl _, Nat.le_refl _⟩ (Nat.le_of_ble_eq_true rfl) d_Scene_worth_38 hF (fun S18 hF => ?_)
  refine dk_aload_n (k := 0) (i := 0) X 1 rfl rfl d_Scene_worth_41 ?_
  refine dk_get X q_Scene 18 2 (by decide) (oC_Scene g ad T S18) rfl f_Scene_54 d_Scene_worth_42 ?_
  refine dk_bipush (v := -3) X (by decide) d_Scene_worth_45 ?_
  refine dk_aload_n (k := 0) (i := 0) X 1 rfl rfl d_Scene_worth_47 ?_
  refine dk_iload_n (k := 1) (i := 1) X 2 rfl rfl d_Scene_worth_48 ?_
  refine dk_callVi X v_Scene_weight [.int x1] (c_Scene_weight l g ad T n x1 S18) 18 (oC_Scene g ad T S18) rfl rfl m_Scene_181 rfl rfl ⟨rfl, rfl, Nat.le_of_ble_eq_true rfl, Nat.le_of_ble_eq_true rfl, Nat.le_refl _, Nat.le_refl _⟩ (Nat.le_of_ble_eq_true rfl) d_Scene_worth_49 hF (fun r21 S20 hF => ?_)
  refine dk_callVv X v_Scales_setName [.int (-3 : Int32), .int r21] (c_Scales_setName l g ad T n (-3 : Int32) r21 S20) 15 (oC_Scales g ad T S20) rfl rfl m_Scene_163 rfl rfl ⟨rfl, rfl, Nat.le_of_ble_eq_true rfl, Nat.le_of_ble_eq_true rfl, Nat.le_refl _, Nat.le_refl _⟩ (Nat.le_of_ble_eq_true rfl) d_Scene_worth_52 hF (fun S22 hF => ?_)
  refine dk_aload_n (k := 0) (i := 0) X 1 rfl rfl d_Scene_worth_55 ?_
  refine dk_get X q_Scene 18 2 (by decide) (oC_Scene g ad T S22) rfl f_Scene_54 d_Scene_worth_56 ?_
  refine dk_bipush (v := -4) X (by decide) d_Scene_worth_59 ?_
  refine dk_aload_n (k := 0) (i := 0) X 1 rfl rfl d_Scene_worth_61 ?_
  refine dk_get X q_Scene 18 0 (by decide) (oC_Scene g ad T S22) rfl f_Scene_46 d_Scene_worth_62 ?_
  refine dk_aload_n (k := 0) (i := 0) X 1 rfl rfl d_Scene_worth_65 ?_
  refine dk_get X q_Scene 18 13 (by decide) (oC_Scene g ad T S22) rfl f_Scene_37 d_Scene_worth_66 ?_
  refine dk_iload_n (k := 2) (i := 2) X 0 rfl rfl d_Scene_worth_69 ?_
  refine dk_iald X 27 (aC_27 g ad T S22) d_Scene_worth_70 hF (fun v24 hF => ?_)
  refine dk_callVi X v_Land_ownerOf [.int v24] (c_Land_ownerOf l g ad T n v24 S22) 1 (oC_Land g ad T S22) rfl rfl m_Scene_139 rfl rfl ⟨rfl, rfl, Nat.le_of_ble_eq_true rfl, Nat.le_of_ble_eq_true rfl, Nat.le_refl _, Nat.le_refl _⟩ (Nat.le_of_ble_eq_true rfl) d_Scene_worth_71 hF (fun r26 S25 hF => ?_)
  refine dk_aload_n (k := 0) (i := 0) X 1 rfl rfl d_Scene_worth_74 ?_
  refine dk_get X q_Scene 18 4 (by decide) (oC_Scene g ad T S25) rfl f_Scene_15 d_Scene_worth_75 ?_
  refine dk_iload_n (k := 1) (i := 1) X 2 rfl rfl d_Scene_worth_78 ?_
  refine dk_iald X 20 (aC_20 g ad T S25) d_Scene_worth_79 hF (fun v27 hF => ?_)
  refine dk_icmp_ne (tgt := 87) X (by decide) d_Scene_worth_80 hF (fun hF => ?_) (fun hF => ?_)
  · refine dk_iconst (v := 0) X (by decide) d_Scene_worth_87 ?_
    exact dk_sub [1, 2, 0] rfl (kb_Scene_worth_88 (n := n) X hR   hF)
  · refine dk_iconst (v := 1) X (by decide) d_Scene_worth_83 ?_
    refine dk_goto (tgt := 88) X (by decide) d_Scene_worth_84 ?_
    exact dk_sub [1, 2, 0] rfl (kb_Scene_worth_88 (n := n) X hR   hF)
def F_Scene_worth (n T : Nat) (x1 : Int32) (S : dk_S) : Option (Int32 × dk_S) := B_Scene_worth_0 n T x1 S
theorem c_Scene_worth (l : Launch) (g : dk_G) (ad : Nat → Nat) (T n : Nat) (x1 : Int32)  (S : dk_S) : dk_Mi l g y_Scene_worth b_Scene_worth 3 rm_Scene_worth (some .int) [.ref (ad 18), .int x1] (wC g ad T) S (F_Scene_worth n T x1 S) := dk_enteri (by decide) (Nat.le_of_ble_eq_true rfl) (fun p e s m args below meth c A Q res hF X hR => (kb_Scene_worth_0 (n := n) X hR  hF))
abbrev b_Scene_weigh : ByteArray := prog_7_method_24_code
def y_Scene_weigh : MethodName := ⟨R_Scene, "weigh", "(I)V"⟩
theorem d_Scene_weigh_0 : decode b_Scene_weigh 0 = .ok (.aload_n 0, 1) := by decide +kernel
theorem d_Scene_weigh_1 : decode b_Scene_weigh 1 = .ok (.iconst (-1), 1) := by decide +kernel
theorem d_Scene_weigh_2 : decode b_Scene_weigh 2 = .ok (.putfield 196, 3) := by decide +kernel
theorem d_Scene_weigh_5 : decode b_Scene_weigh 5 = .ok (.aload_n 0, 1) := by decide +kernel
theorem d_Scene_weigh_6 : decode b_Scene_weigh 6 = .ok (.iconst 0, 1) := by decide +kernel
theorem d_Scene_weigh_7 : decode b_Scene_weigh 7 = .ok (.putfield 199, 3) := by decide +kernel
theorem d_Scene_weigh_10 : decode b_Scene_weigh 10 = .ok (.iconst 0, 1) := by decide +kernel
theorem d_Scene_weigh_11 : decode b_Scene_weigh 11 = .ok (.istore_n 2, 1) := by decide +kernel
theorem d_Scene_weigh_12 : decode b_Scene_weigh 12 = .ok (.iconst 0, 1) := by decide +kernel
theorem d_Scene_weigh_13 : decode b_Scene_weigh 13 = .ok (.istore_n 3, 1) := by decide +kernel
theorem d_Scene_weigh_14 : decode b_Scene_weigh 14 = .ok (.iload_n 3, 1) := by decide +kernel
theorem d_Scene_weigh_15 : decode b_Scene_weigh 15 = .ok (.aload_n 0, 1) := by decide +kernel
theorem d_Scene_weigh_16 : decode b_Scene_weigh 16 = .ok (.getfield 58, 3) := by decide +kernel
theorem d_Scene_weigh_19 : decode b_Scene_weigh 19 = .ok (.if_icmp .ge 95, 3) := by decide +kernel
theorem d_Scene_weigh_22 : decode b_Scene_weigh 22 = .ok (.aload_n 0, 1) := by decide +kernel
theorem d_Scene_weigh_23 : decode b_Scene_weigh 23 = .ok (.getfield 18, 3) := by decide +kernel
theorem d_Scene_weigh_26 : decode b_Scene_weigh 26 = .ok (.iload_n 3, 1) := by decide +kernel
theorem d_Scene_weigh_27 : decode b_Scene_weigh 27 = .ok (.iaload, 1) := by decide +kernel
theorem d_Scene_weigh_28 : decode b_Scene_weigh 28 = .ok (.iload_n 1, 1) := by decide +kernel
theorem d_Scene_weigh_29 : decode b_Scene_weigh 29 = .ok (.if_icmp .ne 79, 3) := by decide +kernel
theorem d_Scene_weigh_32 : decode b_Scene_weigh 32 = .ok (.aload_n 0, 1) := by decide +kernel
theorem d_Scene_weigh_33 : decode b_Scene_weigh 33 = .ok (.iload_n 3, 1) := by decide +kernel
theorem d_Scene_weigh_34 : decode b_Scene_weigh 34 = .ok (.invokevirtual 203, 3) := by decide +kernel
theorem d_Scene_weigh_37 : decode b_Scene_weigh 37 = .ok (.ifCond .ne 6, 3) := by decide +kernel
theorem d_Scene_weigh_40 : decode b_Scene_weigh 40 = .ok (.goto 68, 3) := by decide +kernel
theorem d_Scene_weigh_43 : decode b_Scene_weigh 43 = .ok (.aload_n 0, 1) := by decide +kernel
theorem d_Scene_weigh_44 : decode b_Scene_weigh 44 = .ok (.iload_n 3, 1) := by decide +kernel
theorem d_Scene_weigh_45 : decode b_Scene_weigh 45 = .ok (.invokevirtual 206, 3) := by decide +kernel
theorem d_Scene_weigh_48 : decode b_Scene_weigh 48 = .ok (.istore 4, 2) := by decide +kernel
theorem d_Scene_weigh_50 : decode b_Scene_weigh 50 = .ok (.iload 4, 2) := by decide +kernel
theorem d_Scene_weigh_52 : decode b_Scene_weigh 52 = .ok (.iload_n 2, 1) := by decide +kernel
theorem d_Scene_weigh_53 : decode b_Scene_weigh 53 = .ok (.if_icmp .le 19, 3) := by decide +kernel
theorem d_Scene_weigh_56 : decode b_Scene_weigh 56 = .ok (.aload_n 0, 1) := by decide +kernel
theorem d_Scene_weigh_57 : decode b_Scene_weigh 57 = .ok (.iload_n 3, 1) := by decide +kernel
theorem d_Scene_weigh_58 : decode b_Scene_weigh 58 = .ok (.putfield 196, 3) := by decide +kernel
theorem d_Scene_weigh_61 : decode b_Scene_weigh 61 = .ok (.iload 4, 2) := by decide +kernel
theorem d_Scene_weigh_63 : decode b_Scene_weigh 63 = .ok (.istore_n 2, 1) := by decide +kernel
theorem d_Scene_weigh_64 : decode b_Scene_weigh 64 = .ok (.aload_n 0, 1) := by decide +kernel
theorem d_Scene_weigh_65 : decode b_Scene_weigh 65 = .ok (.iconst 0, 1) := by decide +kernel
theorem d_Scene_weigh_66 : decode b_Scene_weigh 66 = .ok (.putfield 199, 3) := by decide +kernel
theorem d_Scene_weigh_69 : decode b_Scene_weigh 69 = .ok (.goto 39, 3) := by decide +kernel
theorem d_Scene_weigh_72 : decode b_Scene_weigh 72 = .ok (.aload_n 0, 1) := by decide +kernel
theorem d_Scene_weigh_73 : decode b_Scene_weigh 73 = .ok (.getfield 196, 3) := by decide +kernel
theorem d_Scene_weigh_76 : decode b_Scene_weigh 76 = .ok (.ifCond .lt 32, 3) := by decide +kernel
theorem d_Scene_weigh_79 : decode b_Scene_weigh 79 = .ok (.iload 4, 2) := by decide +kernel
theorem d_Scene_weigh_81 : decode b_Scene_weigh 81 = .ok (.iload_n 2, 1) := by decide +kernel
theorem d_Scene_weigh_82 : decode b_Scene_weigh 82 = .ok (.if_icmp .ne 26, 3) := by decide +kernel
theorem d_Scene_weigh_85 : decode b_Scene_weigh 85 = .ok (.aload_n 0, 1) := by decide +kernel
theorem d_Scene_weigh_86 : decode b_Scene_weigh 86 = .ok (.getfield 15, 3) := by decide +kernel
theorem d_Scene_weigh_89 : decode b_Scene_weigh 89 = .ok (.iload_n 3, 1) := by decide +kernel
theorem d_Scene_weigh_90 : decode b_Scene_weigh 90 = .ok (.iaload, 1) := by decide +kernel
theorem d_Scene_weigh_91 : decode b_Scene_weigh 91 = .ok (.aload_n 0, 1) := by decide +kernel
theorem d_Scene_weigh_92 : decode b_Scene_weigh 92 = .ok (.getfield 15, 3) := by decide +kernel
theorem d_Scene_weigh_95 : decode b_Scene_weigh 95 = .ok (.aload_n 0, 1) := by decide +kernel
theorem d_Scene_weigh_96 : decode b_Scene_weigh 96 = .ok (.getfield 196, 3) := by decide +kernel
theorem d_Scene_weigh_99 : decode b_Scene_weigh 99 = .ok (.iaload, 1) := by decide +kernel
theorem d_Scene_weigh_100 : decode b_Scene_weigh 100 = .ok (.if_icmp .eq 8, 3) := by decide +kernel
theorem d_Scene_weigh_103 : decode b_Scene_weigh 103 = .ok (.aload_n 0, 1) := by decide +kernel
theorem d_Scene_weigh_104 : decode b_Scene_weigh 104 = .ok (.iconst 1, 1) := by decide +kernel
theorem d_Scene_weigh_105 : decode b_Scene_weigh 105 = .ok (.putfield 199, 3) := by decide +kernel
theorem d_Scene_weigh_108 : decode b_Scene_weigh 108 = .ok (.iinc 3 1, 3) := by decide +kernel
theorem d_Scene_weigh_111 : decode b_Scene_weigh 111 = .ok (.goto (-97), 3) := by decide +kernel
theorem d_Scene_weigh_114 : decode b_Scene_weigh 114 = .ok (.return_, 1) := by decide +kernel
theorem v_Scene_weigh : dk_Yv y_Scene_weigh b_Scene_weigh 5 (none) 1 := ⟨dk_in (List.mem_of_getElem? (i := 786) (by decide +kernel)) rfl, dk_in (List.mem_of_getElem? (i := 787) (by decide +kernel)) rfl, dk_in (List.mem_of_getElem? (i := 72) (by decide +kernel)) rfl, dk_in (List.mem_of_getElem? (i := 788) (by decide +kernel)) rfl, by decide +kernel, by decide +kernel, by decide +kernel⟩
abbrev rm_Scene_weigh : Room := { frames := 4, cells := 0, slots := 0, locals := 92 }
theorem f_Scene_196 : Cond.fieldLink R_Scene 196 (T_Scene 16).1 (T_Scene 16).2.1 (T_Scene 16).2.2.1 ∈ dk_tb := dk_in (List.mem_of_getElem? (i := 276) (by decide +kernel)) rfl
theorem f_Scene_199 : Cond.fieldLink R_Scene 199 (T_Scene 17).1 (T_Scene 17).2.1 (T_Scene 17).2.2.1 ∈ dk_tb := dk_in (List.mem_of_getElem? (i := 277) (by decide +kernel)) rfl
theorem m_Scene_203 : Cond.methodLink R_Scene 203 y_Scene_stands ∈ dk_tb := dk_in (List.mem_of_getElem? (i := 789) (by decide +kernel)) rfl
theorem m_Scene_206 : Cond.methodLink R_Scene 206 y_Scene_worth ∈ dk_tb := dk_in (List.mem_of_getElem? (i := 790) (by decide +kernel)) rfl
def B_Scene_weigh_108 (n T : Nat) (k14 : Int32 → Int32 → Int32 → dk_S → Option dk_S) (x1 : Int32) (x2 : Int32) (x3 : Int32) (S : dk_S) : Option dk_S :=
  k14 x1 x2 (x3 + (1 : Int32)) S
set_option maxRecDepth 20000 in
theorem kb_Scene_weigh_108 {p : Program} {l : Launch} {e : Env} {s : State} {m : MethodId} {args : Array Value} {below : List Frame} {meth : Method} {c : Code} {g : dk_G} {A : Nat → Prop} {Q : State → Prop} {ad : Nat → Nat} {T : Nat} {n : Nat} {res : dk_S} (X : dk_X p s m args meth c b_Scene_weigh 5 R_Scene (none) g A) (hR : dk_Rv p l e rm_Scene_weigh s m args below meth c g A Q 5 b_Scene_weigh (none) (wC g ad T) res) {k14 : Int32 → Int32 → Int32 → dk_S → Option dk_S} (hk14 : ∀ (x1 : Int32) (x2 : Int32) (x3 : Int32)  (S : dk_S), k14 x1 x2 x3 S = some res → dk_J p l e rm_Scene_weigh s m args below meth c g A Q 5 0 0 14 [(0, .ref (ad 18)), (1, .int x1), (2, .int x2), (3, .int x3)] [] (wC g ad T S)) {x1 : Int32} {x2 : Int32} {x3 : Int32} {S : dk_S}  (hF : B_Scene_weigh_108 n T k14 x1 x2 x3 S = some res) : dk_J p l e rm_Scene_weigh s m args below meth c g A Q 5 0 0 108 [(0, .ref (ad 18)), (1, .int x1), (2, .int x2), (3, .int x3)] [] (wC g ad T S) := by
  unfold B_Scene_weigh_108 at hF
  refine dk_iinc (i := 3) (v := (x3 + (1 : Int32))) (lv' := [(3, .int (x3 + (1 : Int32))), (0, .ref (ad 18)), (1, .int x1), (2, .int x2)]) X 3 rfl (dk_ii _ (by decide)) (by decide) rfl d_Scene_weigh_108 ?_
  refine dk_goto (tgt := 14) X (by decide) d_Scene_weigh_111 ?_
  exact dk_sub [1, 2, 3, 0] rfl (hk14 x1 x2 (x3 + (1 : Int32)) S hF)
def B_Scene_weigh_14b (n T : Nat) (k14 : Int32 → Int32 → Int32 → dk_S → Option dk_S) (x1 : Int32) (x2 : Int32) (x3 : Int32) (S : dk_S) : Option dk_S :=
  if (S 115 0) ≤ x3 then (some S) else (dk_r 44 (S 21) x3 fun v1 => if ¬ v1 = x1 then (B_Scene_weigh_108 n T k14 x1 x2 x3 S) else (dk_c (F_Scene_stands n T x3 S) fun r3 S2 => if ¬ r3 = 0 then (dk_c (F_Scene_worth n T x3 S2) fun r5 S4 => if r5 ≤ x2 then (if (S4 117 0) < 0 then (B_Scene_weigh_108 n T k14 x1 x2 x3 S4) else (if ¬ r5 = x2 then (B_Scene_weigh_108 n T k14 x1 x2 x3 S4) else (dk_r 44 (S4 20) x3 fun v6 => dk_r 44 (S4 20) (S4 117 0) fun v7 => if v6 = v7 then (B_Scene_weigh_108 n T k14 x1 x2 x3 S4) else (dk_b (1 : Int32) <| dk_p S4 118 (1 : Int32) fun S8 => B_Scene_weigh_108 n T k14 x1 x2 x3 S8)))) else (dk_p S4 117 x3 fun S9 => dk_b (0 : Int32) <| dk_p S9 118 (0 : Int32) fun S10 => B_Scene_weigh_108 n T k14 x1 r5 x3 S10)) else (B_Scene_weigh_108 n T k14 x1 x2 x3 S2)))
set_option maxRecDepth 20000 in
theorem kb_Scene_weigh_14b {p : Program} {l : Launch} {e : Env} {s : State} {m : MethodId} {args : Array Value} {below : List Frame} {meth : Method} {c : Code} {g : dk_G} {A : Nat → Prop} {Q : State → Prop} {ad : Nat → Nat} {T : Nat} {n : Nat} {res : dk_S} (X : dk_X p s m args meth c b_Scene_weigh 5 R_Scene (none) g A) (hR : dk_Rv p l e rm_Scene_weigh s m args below meth c g A Q 5 b_Scene_weigh (none) (wC g ad T) res) {k14 : Int32 → Int32 → Int32 → dk_S → Option dk_S} (hk14 : ∀ (x1 : Int32) (x2 : Int32) (x3 : Int32)  (S : dk_S), k14 x1 x2 x3 S = some res → dk_J p l e rm_Scene_weigh s m args below meth c g A Q 5 0 0 14 [(0, .ref (ad 18)), (1, .int x1), (2, .int x2), (3, .int x3)] [] (wC g ad T S)) {x1 : Int32} {x2 : Int32} {x3 : Int32} {S : dk_S}  (hF : B_Scene_weigh_14b n T k14 x1 x2 x3 S = some res) : dk_J p l e rm_Scene_weigh s m args below meth c g A Q 5 0 0 14 [(0, .ref (ad 18)), (1, .int x1), (2, .int x2), (3, .int x3)] [] (wC g ad T S) := by
  unfold B_Scene_weigh_14b at hF
  refine dk_iload_n (k := 3) (i := 3) X 3 rfl rfl d_Scene_weigh_14 ?_
  refine dk_aload_n (k := 0) (i := 0) X 0 rfl rfl d_Scene_weigh_15 ?_
  refine dk_get X q_Scene 18 11 (by decide) (oC_Scene g ad T S) rfl f_Scene_58 d_Scene_weigh_16 ?_
  refine dk_icmp_ge (tgt := 114) X (by decide) d_Scene_weigh_19 hF (fun hF => ?_) (fun hF => ?_)
  · exact dk_retv hR hF d_Scene_weigh_114
  · refine dk_aload_n (k := 0) (i := 0) X 0 rfl rfl d_Scene_weigh_22 ?_
    refine dk_get X q_Scene 18 5 (by decide) (oC_Scene g ad T S) rfl f_Scene_18 d_Scene_weigh_23 ?_
    refine dk_iload_n (k := 3) (i := 3) X 3 rfl rfl d_Scene_weigh_26 ?_
    refine dk_iald X 21 (aC_21 g ad T S) d_Scene_weigh_27 hF (fun v1 hF => ?_)
    refine dk_iload_n (k := 1) (i := 1) X 1 rfl rfl d_Scene_weigh_28 ?_
    refine dk_icmp_ne (tgt := 108) X (by decide) d_Scene_weigh_29 hF (fun hF => ?_) (fun hF => ?_)
    · exact (kb_Scene_weigh_108 (n := n) X hR hk14  hF)
    · refine dk_aload_n (k := 0) (i := 0) X 0 rfl rfl d_Scene_weigh_32 ?_
      refine dk_iload_n (k := 3) (i := 3) X 3 rfl rfl d_Scene_weigh_33 ?_
      refine dk_callVi X v_Scene_stands [.int x3] (c_Scene_stands l g ad T n x3 S) 18 (oC_Scene g ad T S) rfl rfl m_Scene_203 rfl rfl ⟨rfl, rfl, Nat.le_of_ble_eq_true rfl, Nat.le_of_ble_eq_true rfl, Nat.le_refl _, Nat.le_refl _⟩ (Nat.le_of_ble_eq_true rfl) d_Scene_weigh_34 hF (fun r3 S2 hF => ?_)
      refine dk_if_ne (tgt := 43) X (by decide) d_Scene_weigh_37 hF (fun hF => ?_) (fun hF => ?_)
      · refine dk_aload_n (k := 0) (i := 0) X 0 rfl rfl d_Scene_weigh_43 ?_
        refine dk_iload_n (k := 3) (i := 3) X 3 rfl rfl d_Scene_weigh_44 ?_
        refine dk_callVi X v_Scene_worth [.int x3] (c_Scene_worth l g ad T n x3 S2) 18 (oC_Scene g ad T S2) rfl rfl m_Scene_206 rfl rfl ⟨rfl, rfl, Nat.le_of_ble_eq_true rfl, Nat.le_of_ble_eq_true rfl, Nat.le_refl _, Nat.le_refl _⟩ (Nat.le_of_ble_eq_true rfl) d_Scene_weigh_45 hF (fun r5 S4 hF => ?_)
        refine dk_istore (i := 4) (lv' := [(4, .int r5), (0, .ref (ad 18)), (1, .int x1), (2, .int x2), (3, .int x3)]) X (by decide) rfl d_Scene_weigh_48 ?_
        refine dk_iload (i := 4) X 0 rfl d_Scene_weigh_50 ?_
        refine dk_iload_n (k := 2) (i := 2) X 3 rfl rfl d_Scene_weigh_52 ?_
        refine dk_icmp_le (tgt := 72) X (by decide) d_Scene_weigh_53 hF (fun hF => ?_) (fun hF => ?_)
        · refine dk_aload_n (k := 0) (i := 0) X 1 rfl rfl d_Scene_weigh_72 ?_
          refine dk_get X q_Scene 18 16 (by decide) (oC_Scene g ad T S4) rfl f_Scene_196 d_Scene_weigh_73 ?_
          refine dk_if_lt (tgt := 108) X (by decide) d_Scene_weigh_76 hF (fun hF => ?_) (fun hF => ?_)
          · exact dk_sub [1, 2, 3, 4] rfl (kb_Scene_weigh_108 (n := n) X hR hk14  hF)
          · refine dk_iload (i := 4) X 0 rfl d_Scene_weigh_79 ?_
            refine dk_iload_n (k := 2) (i := 2) X 3 rfl rfl d_Scene_weigh_81 ?_
            refine dk_icmp_ne (tgt := 108) X (by decide) d_Scene_weigh_82 hF (fun hF => ?_) (fun hF => ?_)
            · exact dk_sub [1, 2, 3, 4] rfl (kb_Scene_weigh_108 (n := n) X hR hk14  hF)
            · refine dk_aload_n (k := 0) (i := 0) X 1 rfl rfl d_Scene_weigh_85 ?_
              refine dk_get X q_Scene 18 4 (by decide) (oC_Scene g ad T S4) rfl f_Scene_15 d_Scene_weigh_86 ?_
              refine dk_iload_n (k := 3) (i := 3) X 4 rfl rfl d_Scene_weigh_89 ?_
              refine dk_iald X 20 (aC_20 g ad T S4) d_Scene_weigh_90 hF (fun v6 hF => ?_)
              refine dk_aload_n (k := 0) (i := 0) X 1 rfl rfl d_Scene_weigh_91 ?_
              refine dk_get X q_Scene 18 4 (by decide) (oC_Scene g ad T S4) rfl f_Scene_15 d_Scene_weigh_92 ?_
              refine dk_aload_n (k := 0) (i := 0) X 1 rfl rfl d_Scene_weigh_95 ?_
              refine dk_get X q_Scene 18 16 (by decide) (oC_Scene g ad T S4) rfl f_Scene_196 d_Scene_weigh_96 ?_
              refine dk_iald X 20 (aC_20 g ad T S4) d_Scene_weigh_99 hF (fun v7 hF => ?_)
              refine dk_icmp_eq (tgt := 108) X (by decide) d_Scene_weigh_100 hF (fun hF => ?_) (fun hF => ?_)
              · exact dk_sub [1, 2, 3, 4] rfl (kb_Scene_weigh_108 (n := n) X hR hk14  hF)
              · refine dk_aload_n (k := 0) (i := 0) X 1 rfl rfl d_Scene_weigh_103 ?_
                refine dk_iconst (v := 1) X (by decide) d_Scene_weigh_104 ?_
                refine dk_putz X q_Scene 18 17 (by decide) (oC_Scene g ad T S4) f_Scene_199 rfl rfl (Nat.le_of_ble_eq_true rfl) (sC_Scene_disputed g ad T S4 _) d_Scene_weigh_105 hF (fun S8 hF => ?_)
                exact dk_sub [1, 2, 3, 4] rfl (kb_Scene_weigh_108 (n := n) X hR hk14  hF)
        · refine dk_aload_n (k := 0) (i := 0) X 1 rfl rfl d_Scene_weigh_56 ?_
          refine dk_iload_n (k := 3) (i := 3) X 4 rfl rfl d_Scene_weigh_57 ?_
          refine dk_puti X q_Scene 18 16 (by decide) (oC_Scene g ad T S4) f_Scene_196 rfl rfl (Nat.le_of_ble_eq_true rfl) (sC_Scene_best g ad T S4 _) d_Scene_weigh_58 hF (fun S9 hF => ?_)
          refine dk_iload (i := 4) X 0 rfl d_Scene_weigh_61 ?_
          refine dk_istore_n (k := 2) (i := 2) (lv' := [(2, .int r5), (4, .int r5), (0, .ref (ad 18)), (1, .int x1), (3, .int x3)]) X rfl (by decide) rfl d_Scene_weigh_63 ?_
          refine dk_aload_n (k := 0) (i := 0) X 2 rfl rfl d_Scene_weigh_64 ?_
          refine dk_iconst (v := 0) X (by decide) d_Scene_weigh_65 ?_
          refine dk_putz X q_Scene 18 17 (by decide) (oC_Scene g ad T S9) f_Scene_199 rfl rfl (Nat.le_of_ble_eq_true rfl) (sC_Scene_disputed g ad T S9 _) d_Scene_weigh_66 hF (fun S10 hF => ?_)
          refine dk_goto (tgt := 108) X (by decide) d_Scene_weigh_69 ?_
          exact dk_sub [2, 3, 0, 4] rfl (kb_Scene_weigh_108 (n := n) X hR hk14  hF)
      · refine dk_goto (tgt := 108) X (by decide) d_Scene_weigh_40 ?_
        exact (kb_Scene_weigh_108 (n := n) X hR hk14  hF)
def B_Scene_weigh_14 (n T : Nat)  : Nat → Int32 → Int32 → Int32 → dk_S → Option dk_S
  | 0 => fun _ _ _ _ => none
  | q + 1 => fun x1 x2 x3 S => B_Scene_weigh_14b n T (fun x1 x2 x3 S => B_Scene_weigh_14 n T  q x1 x2 x3 S) x1 x2 x3 S
theorem kb_Scene_weigh_14 {p : Program} {l : Launch} {e : Env} {s : State} {m : MethodId} {args : Array Value} {below : List Frame} {meth : Method} {c : Code} {g : dk_G} {A : Nat → Prop} {Q : State → Prop} {ad : Nat → Nat} {T : Nat} {n : Nat} {res : dk_S} (X : dk_X p s m args meth c b_Scene_weigh 5 R_Scene (none) g A) (hR : dk_Rv p l e rm_Scene_weigh s m args below meth c g A Q 5 b_Scene_weigh (none) (wC g ad T) res)  : ∀ (q : Nat) (x1 : Int32) (x2 : Int32) (x3 : Int32)  (S : dk_S), B_Scene_weigh_14 n T  q x1 x2 x3 S = some res → dk_J p l e rm_Scene_weigh s m args below meth c g A Q 5 0 0 14 [(0, .ref (ad 18)), (1, .int x1), (2, .int x2), (3, .int x3)] [] (wC g ad T S) := by
  intro q
  induction q with
  | zero => intro x1 x2 x3  S hF; cases hF
  | succ q ih => intro x1 x2 x3  S hF; exact kb_Scene_weigh_14b (n := n) X hR ih  hF
def B_Scene_weigh_0 (n T : Nat)  (x1 : Int32) (S : dk_S) : Option dk_S :=
  dk_p S 117 (-1 : Int32) fun S11 => dk_b (0 : Int32) <| dk_p S11 118 (0 : Int32) fun S12 => B_Scene_weigh_14 n T  n x1 (0 : Int32) (0 : Int32) S12
set_option maxRecDepth 20000 in
theorem kb_Scene_weigh_0 {p : Program} {l : Launch} {e : Env} {s : State} {m : MethodId} {args : Array Value} {below : List Frame} {meth : Method} {c : Code} {g : dk_G} {A : Nat → Prop} {Q : State → Prop} {ad : Nat → Nat} {T : Nat} {n : Nat} {res : dk_S} (X : dk_X p s m args meth c b_Scene_weigh 5 R_Scene (none) g A) (hR : dk_Rv p l e rm_Scene_weigh s m args below meth c g A Q 5 b_Scene_weigh (none) (wC g ad T) res)  {x1 : Int32} {S : dk_S}  (hF : B_Scene_weigh_0 n T  x1 S = some res) : dk_J p l e rm_Scene_weigh s m args below meth c g A Q 5 0 0 0 [(0, .ref (ad 18)), (1, .int x1)] [] (wC g ad T S) := by
  unfold B_Scene_weigh_0 at hF
  refine dk_aload_n (k := 0) (i := 0) X 0 rfl rfl d_Scene_weigh_0 ?_
  refine dk_iconst (v := -1) X (by decide) d_Scene_weigh_1 ?_
  refine dk_puti X q_Scene 18 16 (by decide) (oC_Scene g ad T S) f_Scene_196 rfl rfl (Nat.le_of_ble_eq_true rfl) (sC_Scene_best g ad T S _) d_Scene_weigh_2 hF (fun S11 hF => ?_)
  refine dk_aload_n (k := 0) (i := 0) X 0 rfl rfl d_Scene_weigh_5 ?_
  refine dk_iconst (v := 0) X (by decide) d_Scene_weigh_6 ?_
  refine dk_putz X q_Scene 18 17 (by decide) (oC_Scene g ad T S11) f_Scene_199 rfl rfl (Nat.le_of_ble_eq_true rfl) (sC_Scene_disputed g ad T S11 _) d_Scene_weigh_7 hF (fun S12 hF => ?_)
  refine dk_iconst (v := 0) X (by decide) d_Scene_weigh_10 ?_
  refine dk_istore_n (k := 2) (i := 2) (lv' := [(2, .int (0 : Int32)), (0, .ref (ad 18)), (1, .int x1)]) X rfl (by decide) rfl d_Scene_weigh_11 ?_
  refine dk_iconst (v := 0) X (by decide) d_Scene_weigh_12 ?_
  refine dk_istore_n (k := 3) (i := 3) (lv' := [(3, .int (0 : Int32)), (2, .int (0 : Int32)), (0, .ref (ad 18)), (1, .int x1)]) X rfl (by decide) rfl d_Scene_weigh_13 ?_
  exact dk_sub [2, 3, 1, 0] rfl (kb_Scene_weigh_14 (n := n) X hR  n x1 (0 : Int32) (0 : Int32) S12 hF)
def F_Scene_weigh (n T : Nat) (x1 : Int32) (S : dk_S) : Option dk_S := B_Scene_weigh_0 n T x1 S
theorem c_Scene_weigh (l : Launch) (g : dk_G) (ad : Nat → Nat) (T n : Nat) (x1 : Int32)  (S : dk_S) : dk_Mv l g y_Scene_weigh b_Scene_weigh 5 rm_Scene_weigh (none) [.ref (ad 18), .int x1] (wC g ad T) S (F_Scene_weigh n T x1 S) := dk_enterv (by decide) rfl (Nat.le_of_ble_eq_true rfl) (fun p e s m args below meth c A Q res hF X hR => (kb_Scene_weigh_0 (n := n) X hR  hF))
abbrev b_Scene_possessor : ByteArray := prog_7_method_25_code
def y_Scene_possessor : MethodName := ⟨R_Scene, "possessor", "(I)I"⟩
theorem d_Scene_possessor_0 : decode b_Scene_possessor 0 = .ok (.aload_n 0, 1) := by decide +kernel
theorem d_Scene_possessor_1 : decode b_Scene_possessor 1 = .ok (.iload_n 1, 1) := by decide +kernel
theorem d_Scene_possessor_2 : decode b_Scene_possessor 2 = .ok (.invokevirtual 208, 3) := by decide +kernel
theorem d_Scene_possessor_5 : decode b_Scene_possessor 5 = .ok (.aload_n 0, 1) := by decide +kernel
theorem d_Scene_possessor_6 : decode b_Scene_possessor 6 = .ok (.getfield 196, 3) := by decide +kernel
theorem d_Scene_possessor_9 : decode b_Scene_possessor 9 = .ok (.ifCond .ge 7, 3) := by decide +kernel
theorem d_Scene_possessor_12 : decode b_Scene_possessor 12 = .ok (.iconst (-1), 1) := by decide +kernel
theorem d_Scene_possessor_13 : decode b_Scene_possessor 13 = .ok (.goto 12, 3) := by decide +kernel
theorem d_Scene_possessor_16 : decode b_Scene_possessor 16 = .ok (.aload_n 0, 1) := by decide +kernel
theorem d_Scene_possessor_17 : decode b_Scene_possessor 17 = .ok (.getfield 15, 3) := by decide +kernel
theorem d_Scene_possessor_20 : decode b_Scene_possessor 20 = .ok (.aload_n 0, 1) := by decide +kernel
theorem d_Scene_possessor_21 : decode b_Scene_possessor 21 = .ok (.getfield 196, 3) := by decide +kernel
theorem d_Scene_possessor_24 : decode b_Scene_possessor 24 = .ok (.iaload, 1) := by decide +kernel
theorem d_Scene_possessor_25 : decode b_Scene_possessor 25 = .ok (.ireturn, 1) := by decide +kernel
theorem v_Scene_possessor : dk_Yv y_Scene_possessor b_Scene_possessor 2 (some .int) 1 := ⟨dk_in (List.mem_of_getElem? (i := 782) (by decide +kernel)) rfl, dk_in (List.mem_of_getElem? (i := 783) (by decide +kernel)) rfl, dk_in (List.mem_of_getElem? (i := 72) (by decide +kernel)) rfl, dk_in (List.mem_of_getElem? (i := 784) (by decide +kernel)) rfl, by decide +kernel, by decide +kernel, by decide +kernel⟩
abbrev rm_Scene_possessor : Room := { frames := 5, cells := 0, slots := 0, locals := 116 }
theorem m_Scene_208 : Cond.methodLink R_Scene 208 y_Scene_weigh ∈ dk_tb := dk_in (List.mem_of_getElem? (i := 785) (by decide +kernel)) rfl
def B_Scene_possessor_0 (n T : Nat)  (x1 : Int32) (S : dk_S) : Option (Int32 × dk_S) :=
  dk_cv (F_Scene_weigh n T x1 S) fun S1 => if 0 ≤ (S1 117 0) then (dk_r 44 (S1 20) (S1 117 0) fun v3 => some (v3, S1)) else (some ((-1 : Int32), S1))
set_option maxRecDepth 20000 in
theorem kb_Scene_possessor_0 {p : Program} {l : Launch} {e : Env} {s : State} {m : MethodId} {args : Array Value} {below : List Frame} {meth : Method} {c : Code} {g : dk_G} {A : Nat → Prop} {Q : State → Prop} {ad : Nat → Nat} {T : Nat} {n : Nat} {res : (Int32 × dk_S)} (X : dk_X p s m args meth c b_Scene_possessor 2 R_Scene (some .int) g A) (hR : dk_Ri p l e rm_Scene_possessor s m args below meth c g A Q 2 b_Scene_possessor (some .int) (wC g ad T) res)  {x1 : Int32} {S : dk_S}  (hF : B_Scene_possessor_0 n T  x1 S = some res) : dk_J p l e rm_Scene_possessor s m args below meth c g A Q 2 0 0 0 [(0, .ref (ad 18)), (1, .int x1)] [] (wC g ad T S) := by
  unfold B_Scene_possessor_0 at hF
  refine dk_aload_n (k := 0) (i := 0) X 0 rfl rfl d_Scene_possessor_0 ?_
  refine dk_iload_n (k := 1) (i := 1) X 1 rfl rfl d_Scene_possessor_1 ?_
  refine dk_callVv X v_Scene_weigh [.int x1] (c_Scene_weigh l g ad T n x1 S) 18 (oC_Scene g ad T S) rfl rfl m_Scene_208 rfl rfl ⟨rfl, rfl, Nat.le_of_ble_eq_true rfl, Nat.le_of_ble_eq_true rfl, Nat.le_refl _, Nat.le_refl _⟩ (Nat.le_of_ble_eq_true rfl) d_Scene_possessor_2 hF (fun S1 hF => ?_)
  refine dk_aload_n (k := 0) (i := 0) X 0 rfl rfl d_Scene_possessor_5 ?_
  refine dk_get X q_Scene 18 16 (by decide) (oC_Scene g ad T S1) rfl f_Scene_196 d_Scene_possessor_6 ?_
  refine dk_if_ge (tgt := 16) X (by decide) d_Scene_possessor_9 hF (fun hF => ?_) (fun hF => ?_)
  · refine dk_aload_n (k := 0) (i := 0) X 0 rfl rfl d_Scene_possessor_16 ?_
    refine dk_get X q_Scene 18 4 (by decide) (oC_Scene g ad T S1) rfl f_Scene_15 d_Scene_possessor_17 ?_
    refine dk_aload_n (k := 0) (i := 0) X 0 rfl rfl d_Scene_possessor_20 ?_
    refine dk_get X q_Scene 18 16 (by decide) (oC_Scene g ad T S1) rfl f_Scene_196 d_Scene_possessor_21 ?_
    refine dk_iald X 20 (aC_20 g ad T S1) d_Scene_possessor_24 hF (fun v3 hF => ?_)
    exact dk_reti hR hF d_Scene_possessor_25
  · refine dk_iconst (v := -1) X (by decide) d_Scene_possessor_12 ?_
    refine dk_goto (tgt := 25) X (by decide) d_Scene_possessor_13 ?_
    exact dk_reti hR hF d_Scene_possessor_25
def F_Scene_possessor (n T : Nat) (x1 : Int32) (S : dk_S) : Option (Int32 × dk_S) := B_Scene_possessor_0 n T x1 S
theorem c_Scene_possessor (l : Launch) (g : dk_G) (ad : Nat → Nat) (T n : Nat) (x1 : Int32)  (S : dk_S) : dk_Mi l g y_Scene_possessor b_Scene_possessor 2 rm_Scene_possessor (some .int) [.ref (ad 18), .int x1] (wC g ad T) S (F_Scene_possessor n T x1 S) := dk_enteri (by decide) (Nat.le_of_ble_eq_true rfl) (fun p e s m args below meth c A Q res hF X hR => (kb_Scene_possessor_0 (n := n) X hR  hF))
abbrev b_Scene_tally : ByteArray := prog_7_method_27_code
def y_Scene_tally : MethodName := ⟨R_Scene, "tally", "(I)V"⟩
theorem d_Scene_tally_0 : decode b_Scene_tally 0 = .ok (.aload_n 0, 1) := by decide +kernel
theorem d_Scene_tally_1 : decode b_Scene_tally 1 = .ok (.iconst 0, 1) := by decide +kernel
theorem d_Scene_tally_2 : decode b_Scene_tally 2 = .ok (.putfield 214, 3) := by decide +kernel
theorem d_Scene_tally_5 : decode b_Scene_tally 5 = .ok (.aload_n 0, 1) := by decide +kernel
theorem d_Scene_tally_6 : decode b_Scene_tally 6 = .ok (.iconst 0, 1) := by decide +kernel
theorem d_Scene_tally_7 : decode b_Scene_tally 7 = .ok (.putfield 217, 3) := by decide +kernel
theorem d_Scene_tally_10 : decode b_Scene_tally 10 = .ok (.aload_n 0, 1) := by decide +kernel
theorem d_Scene_tally_11 : decode b_Scene_tally 11 = .ok (.invokevirtual 62, 3) := by decide +kernel
theorem d_Scene_tally_14 : decode b_Scene_tally 14 = .ok (.iconst 0, 1) := by decide +kernel
theorem d_Scene_tally_15 : decode b_Scene_tally 15 = .ok (.istore_n 2, 1) := by decide +kernel
theorem d_Scene_tally_16 : decode b_Scene_tally 16 = .ok (.iload_n 2, 1) := by decide +kernel
theorem d_Scene_tally_17 : decode b_Scene_tally 17 = .ok (.aload_n 0, 1) := by decide +kernel
theorem d_Scene_tally_18 : decode b_Scene_tally 18 = .ok (.getfield 50, 3) := by decide +kernel
theorem d_Scene_tally_21 : decode b_Scene_tally 21 = .ok (.getfield 69, 3) := by decide +kernel
theorem d_Scene_tally_24 : decode b_Scene_tally 24 = .ok (.if_icmp .gt 67, 3) := by decide +kernel
theorem d_Scene_tally_27 : decode b_Scene_tally 27 = .ok (.iload_n 2, 1) := by decide +kernel
theorem d_Scene_tally_28 : decode b_Scene_tally 28 = .ok (.ifCond .le 10, 3) := by decide +kernel
theorem d_Scene_tally_31 : decode b_Scene_tally 31 = .ok (.aload_n 0, 1) := by decide +kernel
theorem d_Scene_tally_32 : decode b_Scene_tally 32 = .ok (.iload_n 2, 1) := by decide +kernel
theorem d_Scene_tally_33 : decode b_Scene_tally 33 = .ok (.iconst 1, 1) := by decide +kernel
theorem d_Scene_tally_34 : decode b_Scene_tally 34 = .ok (.isub, 1) := by decide +kernel
theorem d_Scene_tally_35 : decode b_Scene_tally 35 = .ok (.invokevirtual 65, 3) := by decide +kernel
theorem d_Scene_tally_38 : decode b_Scene_tally 38 = .ok (.aload_n 0, 1) := by decide +kernel
theorem d_Scene_tally_39 : decode b_Scene_tally 39 = .ok (.iload_n 1, 1) := by decide +kernel
theorem d_Scene_tally_40 : decode b_Scene_tally 40 = .ok (.invokevirtual 208, 3) := by decide +kernel
theorem d_Scene_tally_43 : decode b_Scene_tally 43 = .ok (.aload_n 0, 1) := by decide +kernel
theorem d_Scene_tally_44 : decode b_Scene_tally 44 = .ok (.dup, 1) := by decide +kernel
theorem d_Scene_tally_45 : decode b_Scene_tally 45 = .ok (.getfield 214, 3) := by decide +kernel
theorem d_Scene_tally_48 : decode b_Scene_tally 48 = .ok (.aload_n 0, 1) := by decide +kernel
theorem d_Scene_tally_49 : decode b_Scene_tally 49 = .ok (.getfield 199, 3) := by decide +kernel
theorem d_Scene_tally_52 : decode b_Scene_tally 52 = .ok (.ifCond .eq 7, 3) := by decide +kernel
theorem d_Scene_tally_55 : decode b_Scene_tally 55 = .ok (.iconst 1, 1) := by decide +kernel
theorem d_Scene_tally_56 : decode b_Scene_tally 56 = .ok (.goto 4, 3) := by decide +kernel
theorem d_Scene_tally_59 : decode b_Scene_tally 59 = .ok (.iconst 0, 1) := by decide +kernel
theorem d_Scene_tally_60 : decode b_Scene_tally 60 = .ok (.iadd, 1) := by decide +kernel
theorem d_Scene_tally_61 : decode b_Scene_tally 61 = .ok (.putfield 214, 3) := by decide +kernel
theorem d_Scene_tally_64 : decode b_Scene_tally 64 = .ok (.aload_n 0, 1) := by decide +kernel
theorem d_Scene_tally_65 : decode b_Scene_tally 65 = .ok (.dup, 1) := by decide +kernel
theorem d_Scene_tally_66 : decode b_Scene_tally 66 = .ok (.getfield 217, 3) := by decide +kernel
theorem d_Scene_tally_69 : decode b_Scene_tally 69 = .ok (.aload_n 0, 1) := by decide +kernel
theorem d_Scene_tally_70 : decode b_Scene_tally 70 = .ok (.getfield 196, 3) := by decide +kernel
theorem d_Scene_tally_73 : decode b_Scene_tally 73 = .ok (.ifCond .ge 7, 3) := by decide +kernel
theorem d_Scene_tally_76 : decode b_Scene_tally 76 = .ok (.iconst 1, 1) := by decide +kernel
theorem d_Scene_tally_77 : decode b_Scene_tally 77 = .ok (.goto 4, 3) := by decide +kernel
theorem d_Scene_tally_80 : decode b_Scene_tally 80 = .ok (.iconst 0, 1) := by decide +kernel
theorem d_Scene_tally_81 : decode b_Scene_tally 81 = .ok (.iadd, 1) := by decide +kernel
theorem d_Scene_tally_82 : decode b_Scene_tally 82 = .ok (.putfield 217, 3) := by decide +kernel
theorem d_Scene_tally_85 : decode b_Scene_tally 85 = .ok (.iinc 2 1, 3) := by decide +kernel
theorem d_Scene_tally_88 : decode b_Scene_tally 88 = .ok (.goto (-72), 3) := by decide +kernel
theorem d_Scene_tally_91 : decode b_Scene_tally 91 = .ok (.return_, 1) := by decide +kernel
theorem v_Scene_tally : dk_Yv y_Scene_tally b_Scene_tally 3 (none) 1 := ⟨dk_in (List.mem_of_getElem? (i := 805) (by decide +kernel)) rfl, dk_in (List.mem_of_getElem? (i := 806) (by decide +kernel)) rfl, dk_in (List.mem_of_getElem? (i := 72) (by decide +kernel)) rfl, dk_in (List.mem_of_getElem? (i := 807) (by decide +kernel)) rfl, by decide +kernel, by decide +kernel, by decide +kernel⟩
abbrev rm_Scene_tally : Room := { frames := 5, cells := 0, slots := 0, locals := 116 }
theorem f_Scene_214 : Cond.fieldLink R_Scene 214 (T_Scene 18).1 (T_Scene 18).2.1 (T_Scene 18).2.2.1 ∈ dk_tb := dk_in (List.mem_of_getElem? (i := 279) (by decide +kernel)) rfl
theorem f_Scene_217 : Cond.fieldLink R_Scene 217 (T_Scene 19).1 (T_Scene 19).2.1 (T_Scene 19).2.2.1 ∈ dk_tb := dk_in (List.mem_of_getElem? (i := 281) (by decide +kernel)) rfl
theorem f_Scene_69 : Cond.fieldLink R_Scene 69 (T_Diary 6).1 (T_Diary 6).2.1 (T_Diary 6).2.2.1 ∈ dk_tb := dk_in (List.mem_of_getElem? (i := 151) (by decide +kernel)) rfl
def B_Scene_tally_81 (n T : Nat) (k16 : Int32 → Int32 → dk_S → Option dk_S) (x1 : Int32) (x2 : Int32) (u1 : Int32) (u2 : Int32) (S : dk_S) : Option dk_S :=
  dk_p S 120 (u1 + u2) fun S1 => k16 x1 (x2 + (1 : Int32)) S1
set_option maxRecDepth 20000 in
theorem kb_Scene_tally_81 {p : Program} {l : Launch} {e : Env} {s : State} {m : MethodId} {args : Array Value} {below : List Frame} {meth : Method} {c : Code} {g : dk_G} {A : Nat → Prop} {Q : State → Prop} {ad : Nat → Nat} {T : Nat} {n : Nat} {res : dk_S} (X : dk_X p s m args meth c b_Scene_tally 3 R_Scene (none) g A) (hR : dk_Rv p l e rm_Scene_tally s m args below meth c g A Q 3 b_Scene_tally (none) (wC g ad T) res) {k16 : Int32 → Int32 → dk_S → Option dk_S} (hk16 : ∀ (x1 : Int32) (x2 : Int32)  (S : dk_S), k16 x1 x2 S = some res → dk_J p l e rm_Scene_tally s m args below meth c g A Q 3 0 0 16 [(0, .ref (ad 18)), (1, .int x1), (2, .int x2)] [] (wC g ad T S)) {x1 : Int32} {x2 : Int32} {u1 : Int32} {u2 : Int32} {S : dk_S}  (hF : B_Scene_tally_81 n T k16 x1 x2 u1 u2 S = some res) : dk_J p l e rm_Scene_tally s m args below meth c g A Q 3 0 0 81 [(0, .ref (ad 18)), (1, .int x1), (2, .int x2)] [.int u2, .int u1, .ref (ad 18)] (wC g ad T S) := by
  unfold B_Scene_tally_81 at hF
  refine dk_iadd X d_Scene_tally_81 ?_
  refine dk_puti X q_Scene 18 19 (by decide) (oC_Scene g ad T S) f_Scene_217 rfl rfl (Nat.le_of_ble_eq_true rfl) (sC_Scene_unowned g ad T S _) d_Scene_tally_82 hF (fun S1 hF => ?_)
  refine dk_iinc (i := 2) (v := (x2 + (1 : Int32))) (lv' := [(2, .int (x2 + (1 : Int32))), (0, .ref (ad 18)), (1, .int x1)]) X 2 rfl (dk_ii _ (by decide)) (by decide) rfl d_Scene_tally_85 ?_
  refine dk_goto (tgt := 16) X (by decide) d_Scene_tally_88 ?_
  exact dk_sub [1, 2, 0] rfl (hk16 x1 (x2 + (1 : Int32)) S1 hF)
def B_Scene_tally_60 (n T : Nat) (k16 : Int32 → Int32 → dk_S → Option dk_S) (x1 : Int32) (x2 : Int32) (u1 : Int32) (u2 : Int32) (S : dk_S) : Option dk_S :=
  dk_p S 119 (u1 + u2) fun S2 => if 0 ≤ (S2 117 0) then (B_Scene_tally_81 n T k16 x1 x2 (S2 120 0) (0 : Int32) S2) else (B_Scene_tally_81 n T k16 x1 x2 (S2 120 0) (1 : Int32) S2)
set_option maxRecDepth 20000 in
theorem kb_Scene_tally_60 {p : Program} {l : Launch} {e : Env} {s : State} {m : MethodId} {args : Array Value} {below : List Frame} {meth : Method} {c : Code} {g : dk_G} {A : Nat → Prop} {Q : State → Prop} {ad : Nat → Nat} {T : Nat} {n : Nat} {res : dk_S} (X : dk_X p s m args meth c b_Scene_tally 3 R_Scene (none) g A) (hR : dk_Rv p l e rm_Scene_tally s m args below meth c g A Q 3 b_Scene_tally (none) (wC g ad T) res) {k16 : Int32 → Int32 → dk_S → Option dk_S} (hk16 : ∀ (x1 : Int32) (x2 : Int32)  (S : dk_S), k16 x1 x2 S = some res → dk_J p l e rm_Scene_tally s m args below meth c g A Q 3 0 0 16 [(0, .ref (ad 18)), (1, .int x1), (2, .int x2)] [] (wC g ad T S)) {x1 : Int32} {x2 : Int32} {u1 : Int32} {u2 : Int32} {S : dk_S}  (hF : B_Scene_tally_60 n T k16 x1 x2 u1 u2 S = some res) : dk_J p l e rm_Scene_tally s m args below meth c g A Q 3 0 0 60 [(0, .ref (ad 18)), (1, .int x1), (2, .int x2)] [.int u2, .int u1, .ref (ad 18)] (wC g ad T S) := by
  unfold B_Scene_tally_60 at hF
  refine dk_iadd X d_Scene_tally_60 ?_
  refine dk_puti X q_Scene 18 18 (by decide) (oC_Scene g ad T S) f_Scene_214 rfl rfl (Nat.le_of_ble_eq_true rfl) (sC_Scene_quarrels g ad T S _) d_Scene_tally_61 hF (fun S2 hF => ?_)
  refine dk_aload_n (k := 0) (i := 0) X 0 rfl rfl d_Scene_tally_64 ?_
  refine dk_dup X rfl d_Scene_tally_65 ?_
  refine dk_get X q_Scene 18 19 (by decide) (oC_Scene g ad T S2) rfl f_Scene_217 d_Scene_tally_66 ?_
  refine dk_aload_n (k := 0) (i := 0) X 0 rfl rfl d_Scene_tally_69 ?_
  refine dk_get X q_Scene 18 16 (by decide) (oC_Scene g ad T S2) rfl f_Scene_196 d_Scene_tally_70 ?_
  refine dk_if_ge (tgt := 80) X (by decide) d_Scene_tally_73 hF (fun hF => ?_) (fun hF => ?_)
  · refine dk_iconst (v := 0) X (by decide) d_Scene_tally_80 ?_
    exact (kb_Scene_tally_81 (n := n) X hR hk16  hF)
  · refine dk_iconst (v := 1) X (by decide) d_Scene_tally_76 ?_
    refine dk_goto (tgt := 81) X (by decide) d_Scene_tally_77 ?_
    exact (kb_Scene_tally_81 (n := n) X hR hk16  hF)
def B_Scene_tally_38 (n T : Nat) (k16 : Int32 → Int32 → dk_S → Option dk_S) (x1 : Int32) (x2 : Int32) (S : dk_S) : Option dk_S :=
  dk_cv (F_Scene_weigh n T x1 S) fun S3 => if (S3 118 0) = 0 then (B_Scene_tally_60 n T k16 x1 x2 (S3 119 0) (0 : Int32) S3) else (B_Scene_tally_60 n T k16 x1 x2 (S3 119 0) (1 : Int32) S3)
set_option maxRecDepth 20000 in
theorem kb_Scene_tally_38 {p : Program} {l : Launch} {e : Env} {s : State} {m : MethodId} {args : Array Value} {below : List Frame} {meth : Method} {c : Code} {g : dk_G} {A : Nat → Prop} {Q : State → Prop} {ad : Nat → Nat} {T : Nat} {n : Nat} {res : dk_S} (X : dk_X p s m args meth c b_Scene_tally 3 R_Scene (none) g A) (hR : dk_Rv p l e rm_Scene_tally s m args below meth c g A Q 3 b_Scene_tally (none) (wC g ad T) res) {k16 : Int32 → Int32 → dk_S → Option dk_S} (hk16 : ∀ (x1 : Int32) (x2 : Int32)  (S : dk_S), k16 x1 x2 S = some res → dk_J p l e rm_Scene_tally s m args below meth c g A Q 3 0 0 16 [(0, .ref (ad 18)), (1, .int x1), (2, .int x2)] [] (wC g ad T S)) {x1 : Int32} {x2 : Int32} {S : dk_S}  (hF : B_Scene_tally_38 n T k16 x1 x2 S = some res) : dk_J p l e rm_Scene_tally s m args below meth c g A Q 3 0 0 38 [(0, .ref (ad 18)), (1, .int x1), (2, .int x2)] [] (wC g ad T S) := by
  unfold B_Scene_tally_38 at hF
  refine dk_aload_n (k := 0) (i := 0) X 0 rfl rfl d_Scene_tally_38 ?_
  refine dk_iload_n (k := 1) (i := 1) X 1 rfl rfl d_Scene_tally_39 ?_
  refine dk_callVv X v_Scene_weigh [.int x1] (c_Scene_weigh l g ad T n x1 S) 18 (oC_Scene g ad T S) rfl rfl m_Scene_208 rfl rfl ⟨rfl, rfl, Nat.le_of_ble_eq_true rfl, Nat.le_of_ble_eq_true rfl, Nat.le_refl _, Nat.le_refl _⟩ (Nat.le_of_ble_eq_true rfl) d_Scene_tally_40 hF (fun S3 hF => ?_)
  refine dk_aload_n (k := 0) (i := 0) X 0 rfl rfl d_Scene_tally_43 ?_
  refine dk_dup X rfl d_Scene_tally_44 ?_
  refine dk_get X q_Scene 18 18 (by decide) (oC_Scene g ad T S3) rfl f_Scene_214 d_Scene_tally_45 ?_
  refine dk_aload_n (k := 0) (i := 0) X 0 rfl rfl d_Scene_tally_48 ?_
  refine dk_get X q_Scene 18 17 (by decide) (oC_Scene g ad T S3) rfl f_Scene_199 d_Scene_tally_49 ?_
  refine dk_if_eq (tgt := 59) X (by decide) d_Scene_tally_52 hF (fun hF => ?_) (fun hF => ?_)
  · refine dk_iconst (v := 0) X (by decide) d_Scene_tally_59 ?_
    exact (kb_Scene_tally_60 (n := n) X hR hk16  hF)
  · refine dk_iconst (v := 1) X (by decide) d_Scene_tally_55 ?_
    refine dk_goto (tgt := 60) X (by decide) d_Scene_tally_56 ?_
    exact (kb_Scene_tally_60 (n := n) X hR hk16  hF)
def B_Scene_tally_16b (n T : Nat) (k16 : Int32 → Int32 → dk_S → Option dk_S) (x1 : Int32) (x2 : Int32) (S : dk_S) : Option dk_S :=
  if (S 104 0) < x2 then (some S) else (if x2 ≤ 0 then (B_Scene_tally_38 n T k16 x1 x2 S) else (dk_cv (F_Scene_live n T (x2 - (1 : Int32)) S) fun S5 => B_Scene_tally_38 n T k16 x1 x2 S5))
set_option maxRecDepth 20000 in
theorem kb_Scene_tally_16b {p : Program} {l : Launch} {e : Env} {s : State} {m : MethodId} {args : Array Value} {below : List Frame} {meth : Method} {c : Code} {g : dk_G} {A : Nat → Prop} {Q : State → Prop} {ad : Nat → Nat} {T : Nat} {n : Nat} {res : dk_S} (X : dk_X p s m args meth c b_Scene_tally 3 R_Scene (none) g A) (hR : dk_Rv p l e rm_Scene_tally s m args below meth c g A Q 3 b_Scene_tally (none) (wC g ad T) res) {k16 : Int32 → Int32 → dk_S → Option dk_S} (hk16 : ∀ (x1 : Int32) (x2 : Int32)  (S : dk_S), k16 x1 x2 S = some res → dk_J p l e rm_Scene_tally s m args below meth c g A Q 3 0 0 16 [(0, .ref (ad 18)), (1, .int x1), (2, .int x2)] [] (wC g ad T S)) {x1 : Int32} {x2 : Int32} {S : dk_S}  (hF : B_Scene_tally_16b n T k16 x1 x2 S = some res) : dk_J p l e rm_Scene_tally s m args below meth c g A Q 3 0 0 16 [(0, .ref (ad 18)), (1, .int x1), (2, .int x2)] [] (wC g ad T S) := by
  unfold B_Scene_tally_16b at hF
  refine dk_iload_n (k := 2) (i := 2) X 2 rfl rfl d_Scene_tally_16 ?_
  refine dk_aload_n (k := 0) (i := 0) X 0 rfl rfl d_Scene_tally_17 ?_
  refine dk_get X q_Scene 18 1 (by decide) (oC_Scene g ad T S) rfl f_Scene_50 d_Scene_tally_18 ?_
  refine dk_get X q_Diary 5 6 (by decide) (oC_Diary g ad T S) rfl f_Scene_69 d_Scene_tally_21 ?_
  refine dk_icmp_gt (tgt := 91) X (by decide) d_Scene_tally_24 hF (fun hF => ?_) (fun hF => ?_)
  · exact dk_retv hR hF d_Scene_tally_91
  · refine dk_iload_n (k := 2) (i := 2) X 2 rfl rfl d_Scene_tally_27 ?_
    refine dk_if_le (tgt := 38) X (by decide) d_Scene_tally_28 hF (fun hF => ?_) (fun hF => ?_)
    · exact (kb_Scene_tally_38 (n := n) X hR hk16  hF)
    · refine dk_aload_n (k := 0) (i := 0) X 0 rfl rfl d_Scene_tally_31 ?_
      refine dk_iload_n (k := 2) (i := 2) X 2 rfl rfl d_Scene_tally_32 ?_
      refine dk_iconst (v := 1) X (by decide) d_Scene_tally_33 ?_
      refine dk_isub X d_Scene_tally_34 ?_
      refine dk_callVv X v_Scene_live [.int (x2 - (1 : Int32))] (c_Scene_live l g ad T n (x2 - (1 : Int32)) S) 18 (oC_Scene g ad T S) rfl rfl m_Scene_65 rfl rfl ⟨rfl, rfl, Nat.le_of_ble_eq_true rfl, Nat.le_of_ble_eq_true rfl, Nat.le_refl _, Nat.le_refl _⟩ (Nat.le_of_ble_eq_true rfl) d_Scene_tally_35 hF (fun S5 hF => ?_)
      exact (kb_Scene_tally_38 (n := n) X hR hk16  hF)
def B_Scene_tally_16 (n T : Nat)  : Nat → Int32 → Int32 → dk_S → Option dk_S
  | 0 => fun _ _ _ => none
  | q + 1 => fun x1 x2 S => B_Scene_tally_16b n T (fun x1 x2 S => B_Scene_tally_16 n T  q x1 x2 S) x1 x2 S
theorem kb_Scene_tally_16 {p : Program} {l : Launch} {e : Env} {s : State} {m : MethodId} {args : Array Value} {below : List Frame} {meth : Method} {c : Code} {g : dk_G} {A : Nat → Prop} {Q : State → Prop} {ad : Nat → Nat} {T : Nat} {n : Nat} {res : dk_S} (X : dk_X p s m args meth c b_Scene_tally 3 R_Scene (none) g A) (hR : dk_Rv p l e rm_Scene_tally s m args below meth c g A Q 3 b_Scene_tally (none) (wC g ad T) res)  : ∀ (q : Nat) (x1 : Int32) (x2 : Int32)  (S : dk_S), B_Scene_tally_16 n T  q x1 x2 S = some res → dk_J p l e rm_Scene_tally s m args below meth c g A Q 3 0 0 16 [(0, .ref (ad 18)), (1, .int x1), (2, .int x2)] [] (wC g ad T S) := by
  intro q
  induction q with
  | zero => intro x1 x2  S hF; cases hF
  | succ q ih => intro x1 x2  S hF; exact kb_Scene_tally_16b (n := n) X hR ih  hF
def B_Scene_tally_0 (n T : Nat)  (x1 : Int32) (S : dk_S) : Option dk_S :=
  dk_p S 119 (0 : Int32) fun S7 => dk_p S7 120 (0 : Int32) fun S8 => dk_cv (F_Scene_begin n T S8) fun S9 => B_Scene_tally_16 n T  n x1 (0 : Int32) S9
set_option maxRecDepth 20000 in
theorem kb_Scene_tally_0 {p : Program} {l : Launch} {e : Env} {s : State} {m : MethodId} {args : Array Value} {below : List Frame} {meth : Method} {c : Code} {g : dk_G} {A : Nat → Prop} {Q : State → Prop} {ad : Nat → Nat} {T : Nat} {n : Nat} {res : dk_S} (X : dk_X p s m args meth c b_Scene_tally 3 R_Scene (none) g A) (hR : dk_Rv p l e rm_Scene_tally s m args below meth c g A Q 3 b_Scene_tally (none) (wC g ad T) res)  {x1 : Int32} {S : dk_S}  (hF : B_Scene_tally_0 n T  x1 S = some res) : dk_J p l e rm_Scene_tally s m args below meth c g A Q 3 0 0 0 [(0, .ref (ad 18)), (1, .int x1)] [] (wC g ad T S) := by
  unfold B_Scene_tally_0 at hF
  refine dk_aload_n (k := 0) (i := 0) X 0 rfl rfl d_Scene_tally_0 ?_
  refine dk_iconst (v := 0) X (by decide) d_Scene_tally_1 ?_
  refine dk_puti X q_Scene 18 18 (by decide) (oC_Scene g ad T S) f_Scene_214 rfl rfl (Nat.le_of_ble_eq_true rfl) (sC_Scene_quarrels g ad T S _) d_Scene_tally_2 hF (fun S7 hF => ?_)
  refine dk_aload_n (k := 0) (i := 0) X 0 rfl rfl d_Scene_tally_5 ?_
  refine dk_iconst (v := 0) X (by decide) d_Scene_tally_6 ?_
  refine dk_puti X q_Scene 18 19 (by decide) (oC_Scene g ad T S7) f_Scene_217 rfl rfl (Nat.le_of_ble_eq_true rfl) (sC_Scene_unowned g ad T S7 _) d_Scene_tally_7 hF (fun S8 hF => ?_)
  refine dk_aload_n (k := 0) (i := 0) X 0 rfl rfl d_Scene_tally_10 ?_
  refine dk_callVv X v_Scene_begin [] (c_Scene_begin l g ad T n S8) 18 (oC_Scene g ad T S8) rfl rfl m_Scene_62 rfl rfl ⟨rfl, rfl, Nat.le_of_ble_eq_true rfl, Nat.le_of_ble_eq_true rfl, Nat.le_refl _, Nat.le_refl _⟩ (Nat.le_of_ble_eq_true rfl) d_Scene_tally_11 hF (fun S9 hF => ?_)
  refine dk_iconst (v := 0) X (by decide) d_Scene_tally_14 ?_
  refine dk_istore_n (k := 2) (i := 2) (lv' := [(2, .int (0 : Int32)), (0, .ref (ad 18)), (1, .int x1)]) X rfl (by decide) rfl d_Scene_tally_15 ?_
  exact dk_sub [1, 2, 0] rfl (kb_Scene_tally_16 (n := n) X hR  n x1 (0 : Int32) S9 hF)
def F_Scene_tally (n T : Nat) (x1 : Int32) (S : dk_S) : Option dk_S := B_Scene_tally_0 n T x1 S
theorem c_Scene_tally (l : Launch) (g : dk_G) (ad : Nat → Nat) (T n : Nat) (x1 : Int32)  (S : dk_S) : dk_Mv l g y_Scene_tally b_Scene_tally 3 rm_Scene_tally (none) [.ref (ad 18), .int x1] (wC g ad T) S (F_Scene_tally n T x1 S) := dk_enterv (by decide) rfl (Nat.le_of_ble_eq_true rfl) (fun p e s m args below meth c A Q res hF X hR => (kb_Scene_tally_0 (n := n) X hR  hF))
abbrev b_Scene_reachWithout : ByteArray := prog_7_method_4_code
def y_Scene_reachWithout : MethodName := ⟨R_Scene, "reachWithout", "(I)V"⟩
theorem d_Scene_reachWithout_0 : decode b_Scene_reachWithout 0 = .ok (.aload_n 0, 1) := by decide +kernel
theorem d_Scene_reachWithout_1 : decode b_Scene_reachWithout 1 = .ok (.invokevirtual 62, 3) := by decide +kernel
theorem d_Scene_reachWithout_4 : decode b_Scene_reachWithout 4 = .ok (.iconst 0, 1) := by decide +kernel
theorem d_Scene_reachWithout_5 : decode b_Scene_reachWithout 5 = .ok (.istore_n 2, 1) := by decide +kernel
theorem d_Scene_reachWithout_6 : decode b_Scene_reachWithout 6 = .ok (.iconst 0, 1) := by decide +kernel
theorem d_Scene_reachWithout_7 : decode b_Scene_reachWithout 7 = .ok (.istore_n 3, 1) := by decide +kernel
theorem d_Scene_reachWithout_8 : decode b_Scene_reachWithout 8 = .ok (.iload_n 3, 1) := by decide +kernel
theorem d_Scene_reachWithout_9 : decode b_Scene_reachWithout 9 = .ok (.aload_n 0, 1) := by decide +kernel
theorem d_Scene_reachWithout_10 : decode b_Scene_reachWithout 10 = .ok (.getfield 50, 3) := by decide +kernel
theorem d_Scene_reachWithout_13 : decode b_Scene_reachWithout 13 = .ok (.getfield 69, 3) := by decide +kernel
theorem d_Scene_reachWithout_16 : decode b_Scene_reachWithout 16 = .ok (.if_icmp .ge 53, 3) := by decide +kernel
theorem d_Scene_reachWithout_19 : decode b_Scene_reachWithout 19 = .ok (.iconst 1, 1) := by decide +kernel
theorem d_Scene_reachWithout_20 : decode b_Scene_reachWithout 20 = .ok (.istore 4, 2) := by decide +kernel
theorem d_Scene_reachWithout_22 : decode b_Scene_reachWithout 22 = .ok (.aload_n 0, 1) := by decide +kernel
theorem d_Scene_reachWithout_23 : decode b_Scene_reachWithout 23 = .ok (.getfield 50, 3) := by decide +kernel
theorem d_Scene_reachWithout_26 : decode b_Scene_reachWithout 26 = .ok (.getfield 72, 3) := by decide +kernel
theorem d_Scene_reachWithout_29 : decode b_Scene_reachWithout 29 = .ok (.iload_n 3, 1) := by decide +kernel
theorem d_Scene_reachWithout_30 : decode b_Scene_reachWithout 30 = .ok (.iaload, 1) := by decide +kernel
theorem d_Scene_reachWithout_31 : decode b_Scene_reachWithout 31 = .ok (.iconst 1, 1) := by decide +kernel
theorem d_Scene_reachWithout_32 : decode b_Scene_reachWithout 32 = .ok (.if_icmp .ne 21, 3) := by decide +kernel
theorem d_Scene_reachWithout_35 : decode b_Scene_reachWithout 35 = .ok (.iload_n 1, 1) := by decide +kernel
theorem d_Scene_reachWithout_36 : decode b_Scene_reachWithout 36 = .ok (.iload_n 2, 1) := by decide +kernel
theorem d_Scene_reachWithout_37 : decode b_Scene_reachWithout 37 = .ok (.ishr, 1) := by decide +kernel
theorem d_Scene_reachWithout_38 : decode b_Scene_reachWithout 38 = .ok (.iconst 1, 1) := by decide +kernel
theorem d_Scene_reachWithout_39 : decode b_Scene_reachWithout 39 = .ok (.iand, 1) := by decide +kernel
theorem d_Scene_reachWithout_40 : decode b_Scene_reachWithout 40 = .ok (.ifCond .ne 7, 3) := by decide +kernel
theorem d_Scene_reachWithout_43 : decode b_Scene_reachWithout 43 = .ok (.iconst 1, 1) := by decide +kernel
theorem d_Scene_reachWithout_44 : decode b_Scene_reachWithout 44 = .ok (.goto 4, 3) := by decide +kernel
theorem d_Scene_reachWithout_47 : decode b_Scene_reachWithout 47 = .ok (.iconst 0, 1) := by decide +kernel
theorem d_Scene_reachWithout_48 : decode b_Scene_reachWithout 48 = .ok (.istore 4, 2) := by decide +kernel
theorem d_Scene_reachWithout_50 : decode b_Scene_reachWithout 50 = .ok (.iinc 2 1, 3) := by decide +kernel
theorem d_Scene_reachWithout_53 : decode b_Scene_reachWithout 53 = .ok (.iload 4, 2) := by decide +kernel
theorem d_Scene_reachWithout_55 : decode b_Scene_reachWithout 55 = .ok (.ifCond .eq 8, 3) := by decide +kernel
theorem d_Scene_reachWithout_58 : decode b_Scene_reachWithout 58 = .ok (.aload_n 0, 1) := by decide +kernel
theorem d_Scene_reachWithout_59 : decode b_Scene_reachWithout 59 = .ok (.iload_n 3, 1) := by decide +kernel
theorem d_Scene_reachWithout_60 : decode b_Scene_reachWithout 60 = .ok (.invokevirtual 65, 3) := by decide +kernel
theorem d_Scene_reachWithout_63 : decode b_Scene_reachWithout 63 = .ok (.iinc 3 1, 3) := by decide +kernel
theorem d_Scene_reachWithout_66 : decode b_Scene_reachWithout 66 = .ok (.goto (-58), 3) := by decide +kernel
theorem d_Scene_reachWithout_69 : decode b_Scene_reachWithout 69 = .ok (.return_, 1) := by decide +kernel
theorem v_Scene_reachWithout : dk_Yv y_Scene_reachWithout b_Scene_reachWithout 5 (none) 1 := ⟨dk_in (List.mem_of_getElem? (i := 830) (by decide +kernel)) rfl, dk_in (List.mem_of_getElem? (i := 831) (by decide +kernel)) rfl, dk_in (List.mem_of_getElem? (i := 72) (by decide +kernel)) rfl, dk_in (List.mem_of_getElem? (i := 832) (by decide +kernel)) rfl, by decide +kernel, by decide +kernel, by decide +kernel⟩
abbrev rm_Scene_reachWithout : Room := { frames := 4, cells := 0, slots := 0, locals := 96 }
theorem f_Scene_72 : Cond.fieldLink R_Scene 72 (T_Diary 5).1 (T_Diary 5).2.1 (T_Diary 5).2.2.1 ∈ dk_tb := dk_in (List.mem_of_getElem? (i := 147) (by decide +kernel)) rfl
def B_Scene_reachWithout_63 (n T : Nat) (k8 : Int32 → Int32 → Int32 → dk_S → Option dk_S) (x1 : Int32) (x2 : Int32) (x3 : Int32) (S : dk_S) : Option dk_S :=
  k8 x1 x2 (x3 + (1 : Int32)) S
set_option maxRecDepth 20000 in
theorem kb_Scene_reachWithout_63 {p : Program} {l : Launch} {e : Env} {s : State} {m : MethodId} {args : Array Value} {below : List Frame} {meth : Method} {c : Code} {g : dk_G} {A : Nat → Prop} {Q : State → Prop} {ad : Nat → Nat} {T : Nat} {n : Nat} {res : dk_S} (X : dk_X p s m args meth c b_Scene_reachWithout 5 R_Scene (none) g A) (hR : dk_Rv p l e rm_Scene_reachWithout s m args below meth c g A Q 5 b_Scene_reachWithout (none) (wC g ad T) res) {k8 : Int32 → Int32 → Int32 → dk_S → Option dk_S} (hk8 : ∀ (x1 : Int32) (x2 : Int32) (x3 : Int32)  (S : dk_S), k8 x1 x2 x3 S = some res → dk_J p l e rm_Scene_reachWithout s m args below meth c g A Q 5 0 0 8 [(0, .ref (ad 18)), (1, .int x1), (2, .int x2), (3, .int x3)] [] (wC g ad T S)) {x1 : Int32} {x2 : Int32} {x3 : Int32} {S : dk_S}  (hF : B_Scene_reachWithout_63 n T k8 x1 x2 x3 S = some res) : dk_J p l e rm_Scene_reachWithout s m args below meth c g A Q 5 0 0 63 [(0, .ref (ad 18)), (1, .int x1), (2, .int x2), (3, .int x3)] [] (wC g ad T S) := by
  unfold B_Scene_reachWithout_63 at hF
  refine dk_iinc (i := 3) (v := (x3 + (1 : Int32))) (lv' := [(3, .int (x3 + (1 : Int32))), (0, .ref (ad 18)), (1, .int x1), (2, .int x2)]) X 3 rfl (dk_ii _ (by decide)) (by decide) rfl d_Scene_reachWithout_63 ?_
  refine dk_goto (tgt := 8) X (by decide) d_Scene_reachWithout_66 ?_
  exact dk_sub [1, 2, 3, 0] rfl (hk8 x1 x2 (x3 + (1 : Int32)) S hF)
def B_Scene_reachWithout_53 (n T : Nat) (k8 : Int32 → Int32 → Int32 → dk_S → Option dk_S) (x1 : Int32) (x2 : Int32) (x3 : Int32) (x4 : Int32) (S : dk_S) : Option dk_S :=
  if x4 = 0 then (B_Scene_reachWithout_63 n T k8 x1 x2 x3 S) else (dk_cv (F_Scene_live n T x3 S) fun S1 => B_Scene_reachWithout_63 n T k8 x1 x2 x3 S1)
set_option maxRecDepth 20000 in
theorem kb_Scene_reachWithout_53 {p : Program} {l : Launch} {e : Env} {s : State} {m : MethodId} {args : Array Value} {below : List Frame} {meth : Method} {c : Code} {g : dk_G} {A : Nat → Prop} {Q : State → Prop} {ad : Nat → Nat} {T : Nat} {n : Nat} {res : dk_S} (X : dk_X p s m args meth c b_Scene_reachWithout 5 R_Scene (none) g A) (hR : dk_Rv p l e rm_Scene_reachWithout s m args below meth c g A Q 5 b_Scene_reachWithout (none) (wC g ad T) res) {k8 : Int32 → Int32 → Int32 → dk_S → Option dk_S} (hk8 : ∀ (x1 : Int32) (x2 : Int32) (x3 : Int32)  (S : dk_S), k8 x1 x2 x3 S = some res → dk_J p l e rm_Scene_reachWithout s m args below meth c g A Q 5 0 0 8 [(0, .ref (ad 18)), (1, .int x1), (2, .int x2), (3, .int x3)] [] (wC g ad T S)) {x1 : Int32} {x2 : Int32} {x3 : Int32} {x4 : Int32} {S : dk_S}  (hF : B_Scene_reachWithout_53 n T k8 x1 x2 x3 x4 S = some res) : dk_J p l e rm_Scene_reachWithout s m args below meth c g A Q 5 0 0 53 [(0, .ref (ad 18)), (1, .int x1), (2, .int x2), (3, .int x3), (4, .int x4)] [] (wC g ad T S) := by
  unfold B_Scene_reachWithout_53 at hF
  refine dk_iload (i := 4) X 4 rfl d_Scene_reachWithout_53 ?_
  refine dk_if_eq (tgt := 63) X (by decide) d_Scene_reachWithout_55 hF (fun hF => ?_) (fun hF => ?_)
  · exact dk_sub [0, 1, 2, 3] rfl (kb_Scene_reachWithout_63 (n := n) X hR hk8  hF)
  · refine dk_aload_n (k := 0) (i := 0) X 0 rfl rfl d_Scene_reachWithout_58 ?_
    refine dk_iload_n (k := 3) (i := 3) X 3 rfl rfl d_Scene_reachWithout_59 ?_
    refine dk_callVv X v_Scene_live [.int x3] (c_Scene_live l g ad T n x3 S) 18 (oC_Scene g ad T S) rfl rfl m_Scene_65 rfl rfl ⟨rfl, rfl, Nat.le_of_ble_eq_true rfl, Nat.le_of_ble_eq_true rfl, Nat.le_refl _, Nat.le_refl _⟩ (Nat.le_of_ble_eq_true rfl) d_Scene_reachWithout_60 hF (fun S1 hF => ?_)
    exact dk_sub [0, 1, 2, 3] rfl (kb_Scene_reachWithout_63 (n := n) X hR hk8  hF)
def B_Scene_reachWithout_48 (n T : Nat) (k8 : Int32 → Int32 → Int32 → dk_S → Option dk_S) (x1 : Int32) (x2 : Int32) (x3 : Int32) (u0 : Int32) (S : dk_S) : Option dk_S :=
  B_Scene_reachWithout_53 n T k8 x1 (x2 + (1 : Int32)) x3 u0 S
set_option maxRecDepth 20000 in
theorem kb_Scene_reachWithout_48 {p : Program} {l : Launch} {e : Env} {s : State} {m : MethodId} {args : Array Value} {below : List Frame} {meth : Method} {c : Code} {g : dk_G} {A : Nat → Prop} {Q : State → Prop} {ad : Nat → Nat} {T : Nat} {n : Nat} {res : dk_S} (X : dk_X p s m args meth c b_Scene_reachWithout 5 R_Scene (none) g A) (hR : dk_Rv p l e rm_Scene_reachWithout s m args below meth c g A Q 5 b_Scene_reachWithout (none) (wC g ad T) res) {k8 : Int32 → Int32 → Int32 → dk_S → Option dk_S} (hk8 : ∀ (x1 : Int32) (x2 : Int32) (x3 : Int32)  (S : dk_S), k8 x1 x2 x3 S = some res → dk_J p l e rm_Scene_reachWithout s m args below meth c g A Q 5 0 0 8 [(0, .ref (ad 18)), (1, .int x1), (2, .int x2), (3, .int x3)] [] (wC g ad T S)) {x1 : Int32} {x2 : Int32} {x3 : Int32} {u0 : Int32} {S : dk_S}  (hF : B_Scene_reachWithout_48 n T k8 x1 x2 x3 u0 S = some res) : dk_J p l e rm_Scene_reachWithout s m args below meth c g A Q 5 0 0 48 [(0, .ref (ad 18)), (1, .int x1), (2, .int x2), (3, .int x3)] [.int u0] (wC g ad T S) := by
  unfold B_Scene_reachWithout_48 at hF
  refine dk_istore (i := 4) (lv' := [(4, .int u0), (0, .ref (ad 18)), (1, .int x1), (2, .int x2), (3, .int x3)]) X (by decide) rfl d_Scene_reachWithout_48 ?_
  refine dk_iinc (i := 2) (v := (x2 + (1 : Int32))) (lv' := [(2, .int (x2 + (1 : Int32))), (4, .int u0), (0, .ref (ad 18)), (1, .int x1), (3, .int x3)]) X 3 rfl (dk_ii _ (by decide)) (by decide) rfl d_Scene_reachWithout_50 ?_
  exact dk_sub [2, 3, 0, 4, 1] rfl (kb_Scene_reachWithout_53 (n := n) X hR hk8  hF)
def B_Scene_reachWithout_8b (n T : Nat) (k8 : Int32 → Int32 → Int32 → dk_S → Option dk_S) (x1 : Int32) (x2 : Int32) (x3 : Int32) (S : dk_S) : Option dk_S :=
  if (S 104 0) ≤ x3 then (some S) else (dk_r 32 (S 11) x3 fun v3 => if ¬ v3 = (1 : Int32) then (B_Scene_reachWithout_53 n T k8 x1 x2 x3 (1 : Int32) S) else (if ¬ ((x1 >>> (x2 &&& 31)) &&& (1 : Int32)) = 0 then (B_Scene_reachWithout_48 n T k8 x1 x2 x3 (0 : Int32) S) else (B_Scene_reachWithout_48 n T k8 x1 x2 x3 (1 : Int32) S)))
set_option maxRecDepth 20000 in
theorem kb_Scene_reachWithout_8b {p : Program} {l : Launch} {e : Env} {s : State} {m : MethodId} {args : Array Value} {below : List Frame} {meth : Method} {c : Code} {g : dk_G} {A : Nat → Prop} {Q : State → Prop} {ad : Nat → Nat} {T : Nat} {n : Nat} {res : dk_S} (X : dk_X p s m args meth c b_Scene_reachWithout 5 R_Scene (none) g A) (hR : dk_Rv p l e rm_Scene_reachWithout s m args below meth c g A Q 5 b_Scene_reachWithout (none) (wC g ad T) res) {k8 : Int32 → Int32 → Int32 → dk_S → Option dk_S} (hk8 : ∀ (x1 : Int32) (x2 : Int32) (x3 : Int32)  (S : dk_S), k8 x1 x2 x3 S = some res → dk_J p l e rm_Scene_reachWithout s m args below meth c g A Q 5 0 0 8 [(0, .ref (ad 18)), (1, .int x1), (2, .int x2), (3, .int x3)] [] (wC g ad T S)) {x1 : Int32} {x2 : Int32} {x3 : Int32} {S : dk_S}  (hF : B_Scene_reachWithout_8b n T k8 x1 x2 x3 S = some res) : dk_J p l e rm_Scene_reachWithout s m args below meth c g A Q 5 0 0 8 [(0, .ref (ad 18)), (1, .int x1), (2, .int x2), (3, .int x3)] [] (wC g ad T S) := by
  unfold B_Scene_reachWithout_8b at hF
  refine dk_iload_n (k := 3) (i := 3) X 3 rfl rfl d_Scene_reachWithout_8 ?_
  refine dk_aload_n (k := 0) (i := 0) X 0 rfl rfl d_Scene_reachWithout_9 ?_
  refine dk_get X q_Scene 18 1 (by decide) (oC_Scene g ad T S) rfl f_Scene_50 d_Scene_reachWithout_10 ?_
  refine dk_get X q_Diary 5 6 (by decide) (oC_Diary g ad T S) rfl f_Scene_69 d_Scene_reachWithout_13 ?_
  refine dk_icmp_ge (tgt := 69) X (by decide) d_Scene_reachWithout_16 hF (fun hF => ?_) (fun hF => ?_)
  · exact dk_retv hR hF d_Scene_reachWithout_69
  · refine dk_iconst (v := 1) X (by decide) d_Scene_reachWithout_19 ?_
    refine dk_istore (i := 4) (lv' := [(4, .int (1 : Int32)), (0, .ref (ad 18)), (1, .int x1), (2, .int x2), (3, .int x3)]) X (by decide) rfl d_Scene_reachWithout_20 ?_
    refine dk_aload_n (k := 0) (i := 0) X 1 rfl rfl d_Scene_reachWithout_22 ?_
    refine dk_get X q_Scene 18 1 (by decide) (oC_Scene g ad T S) rfl f_Scene_50 d_Scene_reachWithout_23 ?_
    refine dk_get X q_Diary 5 5 (by decide) (oC_Diary g ad T S) rfl f_Scene_72 d_Scene_reachWithout_26 ?_
    refine dk_iload_n (k := 3) (i := 3) X 4 rfl rfl d_Scene_reachWithout_29 ?_
    refine dk_iald X 11 (aC_11 g ad T S) d_Scene_reachWithout_30 hF (fun v3 hF => ?_)
    refine dk_iconst (v := 1) X (by decide) d_Scene_reachWithout_31 ?_
    refine dk_icmp_ne (tgt := 53) X (by decide) d_Scene_reachWithout_32 hF (fun hF => ?_) (fun hF => ?_)
    · exact dk_sub [1, 2, 3, 4, 0] rfl (kb_Scene_reachWithout_53 (n := n) X hR hk8  hF)
    · refine dk_iload_n (k := 1) (i := 1) X 2 rfl rfl d_Scene_reachWithout_35 ?_
      refine dk_iload_n (k := 2) (i := 2) X 3 rfl rfl d_Scene_reachWithout_36 ?_
      refine dk_ishr X d_Scene_reachWithout_37 ?_
      refine dk_iconst (v := 1) X (by decide) d_Scene_reachWithout_38 ?_
      refine dk_iand X d_Scene_reachWithout_39 ?_
      refine dk_if_ne (tgt := 47) X (by decide) d_Scene_reachWithout_40 hF (fun hF => ?_) (fun hF => ?_)
      · refine dk_iconst (v := 0) X (by decide) d_Scene_reachWithout_47 ?_
        exact dk_sub [1, 2, 3, 4] rfl (kb_Scene_reachWithout_48 (n := n) X hR hk8  hF)
      · refine dk_iconst (v := 1) X (by decide) d_Scene_reachWithout_43 ?_
        refine dk_goto (tgt := 48) X (by decide) d_Scene_reachWithout_44 ?_
        exact dk_sub [1, 2, 3, 4] rfl (kb_Scene_reachWithout_48 (n := n) X hR hk8  hF)
def B_Scene_reachWithout_8 (n T : Nat)  : Nat → Int32 → Int32 → Int32 → dk_S → Option dk_S
  | 0 => fun _ _ _ _ => none
  | q + 1 => fun x1 x2 x3 S => B_Scene_reachWithout_8b n T (fun x1 x2 x3 S => B_Scene_reachWithout_8 n T  q x1 x2 x3 S) x1 x2 x3 S
theorem kb_Scene_reachWithout_8 {p : Program} {l : Launch} {e : Env} {s : State} {m : MethodId} {args : Array Value} {below : List Frame} {meth : Method} {c : Code} {g : dk_G} {A : Nat → Prop} {Q : State → Prop} {ad : Nat → Nat} {T : Nat} {n : Nat} {res : dk_S} (X : dk_X p s m args meth c b_Scene_reachWithout 5 R_Scene (none) g A) (hR : dk_Rv p l e rm_Scene_reachWithout s m args below meth c g A Q 5 b_Scene_reachWithout (none) (wC g ad T) res)  : ∀ (q : Nat) (x1 : Int32) (x2 : Int32) (x3 : Int32)  (S : dk_S), B_Scene_reachWithout_8 n T  q x1 x2 x3 S = some res → dk_J p l e rm_Scene_reachWithout s m args below meth c g A Q 5 0 0 8 [(0, .ref (ad 18)), (1, .int x1), (2, .int x2), (3, .int x3)] [] (wC g ad T S) := by
  intro q
  induction q with
  | zero => intro x1 x2 x3  S hF; cases hF
  | succ q ih => intro x1 x2 x3  S hF; exact kb_Scene_reachWithout_8b (n := n) X hR ih  hF
def B_Scene_reachWithout_0 (n T : Nat)  (x1 : Int32) (S : dk_S) : Option dk_S :=
  dk_cv (F_Scene_begin n T S) fun S4 => B_Scene_reachWithout_8 n T  n x1 (0 : Int32) (0 : Int32) S4
set_option maxRecDepth 20000 in
theorem kb_Scene_reachWithout_0 {p : Program} {l : Launch} {e : Env} {s : State} {m : MethodId} {args : Array Value} {below : List Frame} {meth : Method} {c : Code} {g : dk_G} {A : Nat → Prop} {Q : State → Prop} {ad : Nat → Nat} {T : Nat} {n : Nat} {res : dk_S} (X : dk_X p s m args meth c b_Scene_reachWithout 5 R_Scene (none) g A) (hR : dk_Rv p l e rm_Scene_reachWithout s m args below meth c g A Q 5 b_Scene_reachWithout (none) (wC g ad T) res)  {x1 : Int32} {S : dk_S}  (hF : B_Scene_reachWithout_0 n T  x1 S = some res) : dk_J p l e rm_Scene_reachWithout s m args below meth c g A Q 5 0 0 0 [(0, .ref (ad 18)), (1, .int x1)] [] (wC g ad T S) := by
  unfold B_Scene_reachWithout_0 at hF
  refine dk_aload_n (k := 0) (i := 0) X 0 rfl rfl d_Scene_reachWithout_0 ?_
  refine dk_callVv X v_Scene_begin [] (c_Scene_begin l g ad T n S) 18 (oC_Scene g ad T S) rfl rfl m_Scene_62 rfl rfl ⟨rfl, rfl, Nat.le_of_ble_eq_true rfl, Nat.le_of_ble_eq_true rfl, Nat.le_refl _, Nat.le_refl _⟩ (Nat.le_of_ble_eq_true rfl) d_Scene_reachWithout_1 hF (fun S4 hF => ?_)
  refine dk_iconst (v := 0) X (by decide) d_Scene_reachWithout_4 ?_
  refine dk_istore_n (k := 2) (i := 2) (lv' := [(2, .int (0 : Int32)), (0, .ref (ad 18)), (1, .int x1)]) X rfl (by decide) rfl d_Scene_reachWithout_5 ?_
  refine dk_iconst (v := 0) X (by decide) d_Scene_reachWithout_6 ?_
  refine dk_istore_n (k := 3) (i := 3) (lv' := [(3, .int (0 : Int32)), (2, .int (0 : Int32)), (0, .ref (ad 18)), (1, .int x1)]) X rfl (by decide) rfl d_Scene_reachWithout_7 ?_
  exact dk_sub [2, 3, 1, 0] rfl (kb_Scene_reachWithout_8 (n := n) X hR  n x1 (0 : Int32) (0 : Int32) S4 hF)
def F_Scene_reachWithout (n T : Nat) (x1 : Int32) (S : dk_S) : Option dk_S := B_Scene_reachWithout_0 n T x1 S
theorem c_Scene_reachWithout (l : Launch) (g : dk_G) (ad : Nat → Nat) (T n : Nat) (x1 : Int32)  (S : dk_S) : dk_Mv l g y_Scene_reachWithout b_Scene_reachWithout 5 rm_Scene_reachWithout (none) [.ref (ad 18), .int x1] (wC g ad T) S (F_Scene_reachWithout n T x1 S) := dk_enterv (by decide) rfl (Nat.le_of_ble_eq_true rfl) (fun p e s m args below meth c A Q res hF X hR => (kb_Scene_reachWithout_0 (n := n) X hR  hF))
abbrev b_Scene_possessorWithout : ByteArray := prog_7_method_26_code
def y_Scene_possessorWithout : MethodName := ⟨R_Scene, "possessorWithout", "(II)I"⟩
theorem d_Scene_possessorWithout_0 : decode b_Scene_possessorWithout 0 = .ok (.aload_n 0, 1) := by decide +kernel
theorem d_Scene_possessorWithout_1 : decode b_Scene_possessorWithout 1 = .ok (.iload_n 2, 1) := by decide +kernel
theorem d_Scene_possessorWithout_2 : decode b_Scene_possessorWithout 2 = .ok (.invokevirtual 211, 3) := by decide +kernel
theorem d_Scene_possessorWithout_5 : decode b_Scene_possessorWithout 5 = .ok (.aload_n 0, 1) := by decide +kernel
theorem d_Scene_possessorWithout_6 : decode b_Scene_possessorWithout 6 = .ok (.iload_n 1, 1) := by decide +kernel
theorem d_Scene_possessorWithout_7 : decode b_Scene_possessorWithout 7 = .ok (.invokevirtual 208, 3) := by decide +kernel
theorem d_Scene_possessorWithout_10 : decode b_Scene_possessorWithout 10 = .ok (.aload_n 0, 1) := by decide +kernel
theorem d_Scene_possessorWithout_11 : decode b_Scene_possessorWithout 11 = .ok (.getfield 196, 3) := by decide +kernel
theorem d_Scene_possessorWithout_14 : decode b_Scene_possessorWithout 14 = .ok (.ifCond .ge 7, 3) := by decide +kernel
theorem d_Scene_possessorWithout_17 : decode b_Scene_possessorWithout 17 = .ok (.iconst (-1), 1) := by decide +kernel
theorem d_Scene_possessorWithout_18 : decode b_Scene_possessorWithout 18 = .ok (.goto 12, 3) := by decide +kernel
theorem d_Scene_possessorWithout_21 : decode b_Scene_possessorWithout 21 = .ok (.aload_n 0, 1) := by decide +kernel
theorem d_Scene_possessorWithout_22 : decode b_Scene_possessorWithout 22 = .ok (.getfield 15, 3) := by decide +kernel
theorem d_Scene_possessorWithout_25 : decode b_Scene_possessorWithout 25 = .ok (.aload_n 0, 1) := by decide +kernel
theorem d_Scene_possessorWithout_26 : decode b_Scene_possessorWithout 26 = .ok (.getfield 196, 3) := by decide +kernel
theorem d_Scene_possessorWithout_29 : decode b_Scene_possessorWithout 29 = .ok (.iaload, 1) := by decide +kernel
theorem d_Scene_possessorWithout_30 : decode b_Scene_possessorWithout 30 = .ok (.ireturn, 1) := by decide +kernel
theorem v_Scene_possessorWithout : dk_Yv y_Scene_possessorWithout b_Scene_possessorWithout 3 (some .int) 2 := ⟨dk_in (List.mem_of_getElem? (i := 826) (by decide +kernel)) rfl, dk_in (List.mem_of_getElem? (i := 827) (by decide +kernel)) rfl, dk_in (List.mem_of_getElem? (i := 72) (by decide +kernel)) rfl, dk_in (List.mem_of_getElem? (i := 828) (by decide +kernel)) rfl, by decide +kernel, by decide +kernel, by decide +kernel⟩
abbrev rm_Scene_possessorWithout : Room := { frames := 5, cells := 0, slots := 0, locals := 120 }
theorem m_Scene_211 : Cond.methodLink R_Scene 211 y_Scene_reachWithout ∈ dk_tb := dk_in (List.mem_of_getElem? (i := 829) (by decide +kernel)) rfl
def B_Scene_possessorWithout_0 (n T : Nat)  (x1 : Int32) (x2 : Int32) (S : dk_S) : Option (Int32 × dk_S) :=
  dk_cv (F_Scene_reachWithout n T x2 S) fun S1 => dk_cv (F_Scene_weigh n T x1 S1) fun S3 => if 0 ≤ (S3 117 0) then (dk_r 44 (S3 20) (S3 117 0) fun v5 => some (v5, S3)) else (some ((-1 : Int32), S3))
set_option maxRecDepth 20000 in
theorem kb_Scene_possessorWithout_0 {p : Program} {l : Launch} {e : Env} {s : State} {m : MethodId} {args : Array Value} {below : List Frame} {meth : Method} {c : Code} {g : dk_G} {A : Nat → Prop} {Q : State → Prop} {ad : Nat → Nat} {T : Nat} {n : Nat} {res : (Int32 × dk_S)} (X : dk_X p s m args meth c b_Scene_possessorWithout 3 R_Scene (some .int) g A) (hR : dk_Ri p l e rm_Scene_possessorWithout s m args below meth c g A Q 3 b_Scene_possessorWithout (some .int) (wC g ad T) res)  {x1 : Int32} {x2 : Int32} {S : dk_S}  (hF : B_Scene_possessorWithout_0 n T  x1 x2 S = some res) : dk_J p l e rm_Scene_possessorWithout s m args below meth c g A Q 3 0 0 0 [(0, .ref (ad 18)), (1, .int x1), (2, .int x2)] [] (wC g ad T S) := by
  unfold B_Scene_possessorWithout_0 at hF
  refine dk_aload_n (k := 0) (i := 0) X 0 rfl rfl d_Scene_possessorWithout_0 ?_
  refine dk_iload_n (k := 2) (i := 2) X 2 rfl rfl d_Scene_possessorWithout_1 ?_
  refine dk_callVv X v_Scene_reachWithout [.int x2] (c_Scene_reachWithout l g ad T n x2 S) 18 (oC_Scene g ad T S) rfl rfl m_Scene_211 rfl rfl ⟨rfl, rfl, Nat.le_of_ble_eq_true rfl, Nat.le_of_ble_eq_true rfl, Nat.le_refl _, Nat.le_refl _⟩ (Nat.le_of_ble_eq_true rfl) d_Scene_possessorWithout_2 hF (fun S1 hF => ?_)
  refine dk_aload_n (k := 0) (i := 0) X 0 rfl rfl d_Scene_possessorWithout_5 ?_
  refine dk_iload_n (k := 1) (i := 1) X 1 rfl rfl d_Scene_possessorWithout_6 ?_
  refine dk_callVv X v_Scene_weigh [.int x1] (c_Scene_weigh l g ad T n x1 S1) 18 (oC_Scene g ad T S1) rfl rfl m_Scene_208 rfl rfl ⟨rfl, rfl, Nat.le_of_ble_eq_true rfl, Nat.le_of_ble_eq_true rfl, Nat.le_refl _, Nat.le_refl _⟩ (Nat.le_of_ble_eq_true rfl) d_Scene_possessorWithout_7 hF (fun S3 hF => ?_)
  refine dk_aload_n (k := 0) (i := 0) X 0 rfl rfl d_Scene_possessorWithout_10 ?_
  refine dk_get X q_Scene 18 16 (by decide) (oC_Scene g ad T S3) rfl f_Scene_196 d_Scene_possessorWithout_11 ?_
  refine dk_if_ge (tgt := 21) X (by decide) d_Scene_possessorWithout_14 hF (fun hF => ?_) (fun hF => ?_)
  · refine dk_aload_n (k := 0) (i := 0) X 0 rfl rfl d_Scene_possessorWithout_21 ?_
    refine dk_get X q_Scene 18 4 (by decide) (oC_Scene g ad T S3) rfl f_Scene_15 d_Scene_possessorWithout_22 ?_
    refine dk_aload_n (k := 0) (i := 0) X 0 rfl rfl d_Scene_possessorWithout_25 ?_
    refine dk_get X q_Scene 18 16 (by decide) (oC_Scene g ad T S3) rfl f_Scene_196 d_Scene_possessorWithout_26 ?_
    refine dk_iald X 20 (aC_20 g ad T S3) d_Scene_possessorWithout_29 hF (fun v5 hF => ?_)
    exact dk_reti hR hF d_Scene_possessorWithout_30
  · refine dk_iconst (v := -1) X (by decide) d_Scene_possessorWithout_17 ?_
    refine dk_goto (tgt := 30) X (by decide) d_Scene_possessorWithout_18 ?_
    exact dk_reti hR hF d_Scene_possessorWithout_30
def F_Scene_possessorWithout (n T : Nat) (x1 : Int32) (x2 : Int32) (S : dk_S) : Option (Int32 × dk_S) := B_Scene_possessorWithout_0 n T x1 x2 S
theorem c_Scene_possessorWithout (l : Launch) (g : dk_G) (ad : Nat → Nat) (T n : Nat) (x1 : Int32) (x2 : Int32)  (S : dk_S) : dk_Mi l g y_Scene_possessorWithout b_Scene_possessorWithout 3 rm_Scene_possessorWithout (some .int) [.ref (ad 18), .int x1, .int x2] (wC g ad T) S (F_Scene_possessorWithout n T x1 x2 S) := dk_enteri (by decide) (Nat.le_of_ble_eq_true rfl) (fun p e s m args below meth c A Q res hF X hR => (kb_Scene_possessorWithout_0 (n := n) X hR  hF))
