set_option maxRecDepth 20000 in
theorem ggX9_findRest_X9_isHole : GoodIn wsX9_findRest wsX9_isHole := goodIn_r _ [9, 4, 10, 25, 26, 27, 28, 29, 30, 31, 32, 33, 34, 35, 36, 37, 38, 39, 40, 41, 42, 43, 44, 45, 46, 47, 48, 49, 50, 51, 52, 53, 54, 55, 56, 57, 58, 59, 60, 61, 62, 63, 64, 65, 66, 67, 68, 69, 70, 71, 72, 73, 74, 75, 76, 77] (by decide +kernel) (by decide +kernel)
set_option maxRecDepth 20000 in
theorem gX9_findRest_X9_isHole : GoodIn wsX9_findRest (wsV RX9 160 RX9 yX9_isHole wsX9_isHole) := goodIn_app (goodIn_of _ (by decide +kernel)) ggX9_findRest_X9_isHole
set_option maxRecDepth 20000 in
theorem ggX9_findRest_X9_typeOf : GoodIn wsX9_findRest wsX9_typeOf := goodIn_r _ [14, 1, 25, 26, 27, 28, 29, 30, 31, 32, 33, 34, 35, 36, 37, 38, 39, 40, 41, 42, 43, 44, 45, 46, 47, 48, 49, 50, 51, 52, 53, 54, 55, 56, 57, 58, 59, 60, 61, 62, 63, 64, 65, 66, 67, 68, 69, 70, 71, 72, 73, 74, 75, 76, 77] (by decide +kernel) (by decide +kernel)
set_option maxRecDepth 20000 in
theorem gX9_findRest_X9_typeOf : GoodIn wsX9_findRest (wsV RX9 197 RX9 yX9_typeOf wsX9_typeOf) := goodIn_app (goodIn_of _ (by decide +kernel)) ggX9_findRest_X9_typeOf
set_option maxRecDepth 20000 in
theorem ggX9_findRest_X9_holeAt : GoodIn wsX9_findRest wsX9_holeAt := goodIn_r _ [18, 19, 20, 25, 26, 27, 28, 29, 30, 31, 32, 33, 34, 35, 36, 37, 38, 39, 40, 41, 42, 43, 44, 45, 46, 47, 48, 49, 50, 51, 52, 53, 54, 55, 56, 57, 58, 59, 60, 61, 62, 63, 64, 65, 66, 67, 68, 69, 70, 71, 72, 73, 74, 75, 76, 77] (by decide +kernel) (by decide +kernel)
set_option maxRecDepth 20000 in
theorem gX9_findRest_X9_holeAt : GoodIn wsX9_findRest (wsV RX9 193 RX9 yX9_holeAt wsX9_holeAt) := goodIn_app (goodIn_of _ (by decide +kernel)) ggX9_findRest_X9_holeAt
set_option maxRecDepth 20000 in
theorem ggX9_findRest_X9_capped : GoodIn wsX9_findRest wsX9_capped := goodIn_r _ [23, 24] (by decide +kernel) (by decide +kernel)
set_option maxRecDepth 20000 in
theorem gX9_findRest_X9_capped : GoodIn wsX9_findRest (va_wsS RX9 201 yX9_capped wsX9_capped) := goodIn_app (goodIn_of _ (by decide +kernel)) ggX9_findRest_X9_capped
theorem dX9_findRest_0 : decode cX9_findRest 0 = .ok (.aload_n 0, 1) := by decide +kernel
theorem dX9_findRest_1 : decode cX9_findRest 1 = .ok (.getfield 17, 3) := by decide +kernel
theorem dX9_findRest_4 : decode cX9_findRest 4 = .ok (.iload_n 2, 1) := by decide +kernel
theorem dX9_findRest_5 : decode cX9_findRest 5 = .ok (.iaload, 1) := by decide +kernel
theorem dX9_findRest_6 : decode cX9_findRest 6 = .ok (.istore 5, 2) := by decide +kernel
theorem dX9_findRest_8 : decode cX9_findRest 8 = .ok (.iconst 0, 1) := by decide +kernel
theorem dX9_findRest_9 : decode cX9_findRest 9 = .ok (.istore 6, 2) := by decide +kernel
theorem dX9_findRest_11 : decode cX9_findRest 11 = .ok (.iload 6, 2) := by decide +kernel
theorem dX9_findRest_13 : decode cX9_findRest 13 = .ok (.sipush 410, 3) := by decide +kernel
theorem dX9_findRest_16 : decode cX9_findRest 16 = .ok (.if_icmp .ge 17, 3) := by decide +kernel
theorem dX9_findRest_19 : decode cX9_findRest 19 = .ok (.aload_n 0, 1) := by decide +kernel
theorem dX9_findRest_20 : decode cX9_findRest 20 = .ok (.getfield 53, 3) := by decide +kernel
theorem dX9_findRest_23 : decode cX9_findRest 23 = .ok (.iload 6, 2) := by decide +kernel
theorem dX9_findRest_25 : decode cX9_findRest 25 = .ok (.lconst 0, 1) := by decide +kernel
theorem dX9_findRest_26 : decode cX9_findRest 26 = .ok (.lastore, 1) := by decide +kernel
theorem dX9_findRest_27 : decode cX9_findRest 27 = .ok (.iinc 6 1, 3) := by decide +kernel
theorem dX9_findRest_30 : decode cX9_findRest 30 = .ok (.goto (-19), 3) := by decide +kernel
theorem dX9_findRest_33 : decode cX9_findRest 33 = .ok (.aload_n 0, 1) := by decide +kernel
theorem dX9_findRest_34 : decode cX9_findRest 34 = .ok (.getfield 53, 3) := by decide +kernel
theorem dX9_findRest_37 : decode cX9_findRest 37 = .ok (.bipush 41, 2) := by decide +kernel
theorem dX9_findRest_39 : decode cX9_findRest 39 = .ok (.iload 5, 2) := by decide +kernel
theorem dX9_findRest_41 : decode cX9_findRest 41 = .ok (.imul, 1) := by decide +kernel
theorem dX9_findRest_42 : decode cX9_findRest 42 = .ok (.iload 4, 2) := by decide +kernel
theorem dX9_findRest_44 : decode cX9_findRest 44 = .ok (.iadd, 1) := by decide +kernel
theorem dX9_findRest_45 : decode cX9_findRest 45 = .ok (.iload_n 3, 1) := by decide +kernel
theorem dX9_findRest_46 : decode cX9_findRest 46 = .ok (.isub, 1) := by decide +kernel
theorem dX9_findRest_47 : decode cX9_findRest 47 = .ok (.lconst 1, 1) := by decide +kernel
theorem dX9_findRest_48 : decode cX9_findRest 48 = .ok (.lastore, 1) := by decide +kernel
theorem dX9_findRest_49 : decode cX9_findRest 49 = .ok (.iload 5, 2) := by decide +kernel
theorem dX9_findRest_51 : decode cX9_findRest 51 = .ok (.iconst 1, 1) := by decide +kernel
theorem dX9_findRest_52 : decode cX9_findRest 52 = .ok (.isub, 1) := by decide +kernel
theorem dX9_findRest_53 : decode cX9_findRest 53 = .ok (.istore 6, 2) := by decide +kernel
theorem dX9_findRest_55 : decode cX9_findRest 55 = .ok (.iload 6, 2) := by decide +kernel
theorem dX9_findRest_57 : decode cX9_findRest 57 = .ok (.ifCond .lt 179, 3) := by decide +kernel
theorem dX9_findRest_60 : decode cX9_findRest 60 = .ok (.iload_n 3, 1) := by decide +kernel
theorem dX9_findRest_61 : decode cX9_findRest 61 = .ok (.istore 7, 2) := by decide +kernel
theorem dX9_findRest_63 : decode cX9_findRest 63 = .ok (.iload 7, 2) := by decide +kernel
theorem dX9_findRest_65 : decode cX9_findRest 65 = .ok (.iload 4, 2) := by decide +kernel
theorem dX9_findRest_67 : decode cX9_findRest 67 = .ok (.if_icmp .ge 163, 3) := by decide +kernel
theorem dX9_findRest_70 : decode cX9_findRest 70 = .ok (.lconst 0, 1) := by decide +kernel
theorem dX9_findRest_71 : decode cX9_findRest 71 = .ok (.lstore 8, 2) := by decide +kernel
theorem dX9_findRest_73 : decode cX9_findRest 73 = .ok (.aload_n 0, 1) := by decide +kernel
theorem dX9_findRest_74 : decode cX9_findRest 74 = .ok (.iload_n 2, 1) := by decide +kernel
theorem dX9_findRest_75 : decode cX9_findRest 75 = .ok (.iload 6, 2) := by decide +kernel
theorem dX9_findRest_77 : decode cX9_findRest 77 = .ok (.invokevirtual 160, 3) := by decide +kernel
theorem dX9_findRest_80 : decode cX9_findRest 80 = .ok (.ifCond .ne 59, 3) := by decide +kernel
theorem dX9_findRest_83 : decode cX9_findRest 83 = .ok (.aload_n 0, 1) := by decide +kernel
theorem dX9_findRest_84 : decode cX9_findRest 84 = .ok (.getfield 36, 3) := by decide +kernel
theorem dX9_findRest_87 : decode cX9_findRest 87 = .ok (.bipush 40, 2) := by decide +kernel
theorem dX9_findRest_89 : decode cX9_findRest 89 = .ok (.iload_n 1, 1) := by decide +kernel
theorem dX9_findRest_90 : decode cX9_findRest 90 = .ok (.imul, 1) := by decide +kernel
theorem dX9_findRest_91 : decode cX9_findRest 91 = .ok (.iload 7, 2) := by decide +kernel
theorem dX9_findRest_93 : decode cX9_findRest 93 = .ok (.iadd, 1) := by decide +kernel
theorem dX9_findRest_94 : decode cX9_findRest 94 = .ok (.laload, 1) := by decide +kernel
theorem dX9_findRest_95 : decode cX9_findRest 95 = .ok (.aload_n 0, 1) := by decide +kernel
theorem dX9_findRest_96 : decode cX9_findRest 96 = .ok (.getfield 13, 3) := by decide +kernel
theorem dX9_findRest_99 : decode cX9_findRest 99 = .ok (.bipush 9, 2) := by decide +kernel
theorem dX9_findRest_101 : decode cX9_findRest 101 = .ok (.iload_n 2, 1) := by decide +kernel
theorem dX9_findRest_102 : decode cX9_findRest 102 = .ok (.imul, 1) := by decide +kernel
theorem dX9_findRest_103 : decode cX9_findRest 103 = .ok (.iload 6, 2) := by decide +kernel
theorem dX9_findRest_105 : decode cX9_findRest 105 = .ok (.iadd, 1) := by decide +kernel
theorem dX9_findRest_106 : decode cX9_findRest 106 = .ok (.laload, 1) := by decide +kernel
theorem dX9_findRest_107 : decode cX9_findRest 107 = .ok (.lcmp, 1) := by decide +kernel
theorem dX9_findRest_108 : decode cX9_findRest 108 = .ok (.ifCond .ne 25, 3) := by decide +kernel
theorem dX9_findRest_111 : decode cX9_findRest 111 = .ok (.aload_n 0, 1) := by decide +kernel
theorem dX9_findRest_112 : decode cX9_findRest 112 = .ok (.getfield 53, 3) := by decide +kernel
theorem dX9_findRest_115 : decode cX9_findRest 115 = .ok (.bipush 41, 2) := by decide +kernel
theorem dX9_findRest_117 : decode cX9_findRest 117 = .ok (.iload 6, 2) := by decide +kernel
theorem dX9_findRest_119 : decode cX9_findRest 119 = .ok (.iconst 1, 1) := by decide +kernel
theorem dX9_findRest_120 : decode cX9_findRest 120 = .ok (.iadd, 1) := by decide +kernel
theorem dX9_findRest_121 : decode cX9_findRest 121 = .ok (.imul, 1) := by decide +kernel
theorem dX9_findRest_122 : decode cX9_findRest 122 = .ok (.iload 7, 2) := by decide +kernel
theorem dX9_findRest_124 : decode cX9_findRest 124 = .ok (.iadd, 1) := by decide +kernel
theorem dX9_findRest_125 : decode cX9_findRest 125 = .ok (.iconst 1, 1) := by decide +kernel
theorem dX9_findRest_126 : decode cX9_findRest 126 = .ok (.iadd, 1) := by decide +kernel
theorem dX9_findRest_127 : decode cX9_findRest 127 = .ok (.iload_n 3, 1) := by decide +kernel
theorem dX9_findRest_128 : decode cX9_findRest 128 = .ok (.isub, 1) := by decide +kernel
theorem dX9_findRest_129 : decode cX9_findRest 129 = .ok (.laload, 1) := by decide +kernel
theorem dX9_findRest_130 : decode cX9_findRest 130 = .ok (.goto 4, 3) := by decide +kernel
theorem dX9_findRest_133 : decode cX9_findRest 133 = .ok (.lconst 0, 1) := by decide +kernel
theorem dX9_findRest_134 : decode cX9_findRest 134 = .ok (.lstore 8, 2) := by decide +kernel
theorem dX9_findRest_136 : decode cX9_findRest 136 = .ok (.goto 71, 3) := by decide +kernel
theorem dX9_findRest_139 : decode cX9_findRest 139 = .ok (.iload 7, 2) := by decide +kernel
theorem dX9_findRest_141 : decode cX9_findRest 141 = .ok (.iconst 1, 1) := by decide +kernel
theorem dX9_findRest_142 : decode cX9_findRest 142 = .ok (.iadd, 1) := by decide +kernel
theorem dX9_findRest_143 : decode cX9_findRest 143 = .ok (.istore 10, 2) := by decide +kernel
theorem dX9_findRest_145 : decode cX9_findRest 145 = .ok (.iload 10, 2) := by decide +kernel
theorem dX9_findRest_147 : decode cX9_findRest 147 = .ok (.iload 4, 2) := by decide +kernel
theorem dX9_findRest_149 : decode cX9_findRest 149 = .ok (.if_icmp .gt 58, 3) := by decide +kernel
theorem dX9_findRest_152 : decode cX9_findRest 152 = .ok (.lload 8, 2) := by decide +kernel
theorem dX9_findRest_154 : decode cX9_findRest 154 = .ok (.aload_n 0, 1) := by decide +kernel
theorem dX9_findRest_155 : decode cX9_findRest 155 = .ok (.getfield 53, 3) := by decide +kernel
theorem dX9_findRest_158 : decode cX9_findRest 158 = .ok (.bipush 41, 2) := by decide +kernel
theorem dX9_findRest_160 : decode cX9_findRest 160 = .ok (.iload 6, 2) := by decide +kernel
theorem dX9_findRest_162 : decode cX9_findRest 162 = .ok (.iconst 1, 1) := by decide +kernel
theorem dX9_findRest_163 : decode cX9_findRest 163 = .ok (.iadd, 1) := by decide +kernel
theorem dX9_findRest_164 : decode cX9_findRest 164 = .ok (.imul, 1) := by decide +kernel
theorem dX9_findRest_165 : decode cX9_findRest 165 = .ok (.iload 10, 2) := by decide +kernel
theorem dX9_findRest_167 : decode cX9_findRest 167 = .ok (.iadd, 1) := by decide +kernel
theorem dX9_findRest_168 : decode cX9_findRest 168 = .ok (.iload_n 3, 1) := by decide +kernel
theorem dX9_findRest_169 : decode cX9_findRest 169 = .ok (.isub, 1) := by decide +kernel
theorem dX9_findRest_170 : decode cX9_findRest 170 = .ok (.laload, 1) := by decide +kernel
theorem dX9_findRest_171 : decode cX9_findRest 171 = .ok (.aload_n 0, 1) := by decide +kernel
theorem dX9_findRest_172 : decode cX9_findRest 172 = .ok (.iload_n 1, 1) := by decide +kernel
theorem dX9_findRest_173 : decode cX9_findRest 173 = .ok (.aload_n 0, 1) := by decide +kernel
theorem dX9_findRest_174 : decode cX9_findRest 174 = .ok (.iload_n 2, 1) := by decide +kernel
theorem dX9_findRest_175 : decode cX9_findRest 175 = .ok (.iload 6, 2) := by decide +kernel
theorem dX9_findRest_177 : decode cX9_findRest 177 = .ok (.invokevirtual 197, 3) := by decide +kernel
theorem dX9_findRest_180 : decode cX9_findRest 180 = .ok (.iload 7, 2) := by decide +kernel
theorem dX9_findRest_182 : decode cX9_findRest 182 = .ok (.iload 10, 2) := by decide +kernel
theorem dX9_findRest_184 : decode cX9_findRest 184 = .ok (.iload 7, 2) := by decide +kernel
theorem dX9_findRest_186 : decode cX9_findRest 186 = .ok (.isub, 1) := by decide +kernel
theorem dX9_findRest_187 : decode cX9_findRest 187 = .ok (.invokevirtual 193, 3) := by decide +kernel
theorem dX9_findRest_190 : decode cX9_findRest 190 = .ok (.i2l, 1) := by decide +kernel
theorem dX9_findRest_191 : decode cX9_findRest 191 = .ok (.lmul, 1) := by decide +kernel
theorem dX9_findRest_192 : decode cX9_findRest 192 = .ok (.invokestatic 201, 3) := by decide +kernel
theorem dX9_findRest_195 : decode cX9_findRest 195 = .ok (.ladd, 1) := by decide +kernel
theorem dX9_findRest_196 : decode cX9_findRest 196 = .ok (.invokestatic 201, 3) := by decide +kernel
theorem dX9_findRest_199 : decode cX9_findRest 199 = .ok (.lstore 8, 2) := by decide +kernel
theorem dX9_findRest_201 : decode cX9_findRest 201 = .ok (.iinc 10 1, 3) := by decide +kernel
theorem dX9_findRest_204 : decode cX9_findRest 204 = .ok (.goto (-59), 3) := by decide +kernel
theorem dX9_findRest_207 : decode cX9_findRest 207 = .ok (.aload_n 0, 1) := by decide +kernel
theorem dX9_findRest_208 : decode cX9_findRest 208 = .ok (.getfield 53, 3) := by decide +kernel
theorem dX9_findRest_211 : decode cX9_findRest 211 = .ok (.bipush 41, 2) := by decide +kernel
theorem dX9_findRest_213 : decode cX9_findRest 213 = .ok (.iload 6, 2) := by decide +kernel
theorem dX9_findRest_215 : decode cX9_findRest 215 = .ok (.imul, 1) := by decide +kernel
theorem dX9_findRest_216 : decode cX9_findRest 216 = .ok (.iload 7, 2) := by decide +kernel
theorem dX9_findRest_218 : decode cX9_findRest 218 = .ok (.iadd, 1) := by decide +kernel
theorem dX9_findRest_219 : decode cX9_findRest 219 = .ok (.iload_n 3, 1) := by decide +kernel
theorem dX9_findRest_220 : decode cX9_findRest 220 = .ok (.isub, 1) := by decide +kernel
theorem dX9_findRest_221 : decode cX9_findRest 221 = .ok (.lload 8, 2) := by decide +kernel
theorem dX9_findRest_223 : decode cX9_findRest 223 = .ok (.lastore, 1) := by decide +kernel
theorem dX9_findRest_224 : decode cX9_findRest 224 = .ok (.iinc 7 1, 3) := by decide +kernel
theorem dX9_findRest_227 : decode cX9_findRest 227 = .ok (.goto (-164), 3) := by decide +kernel
theorem dX9_findRest_230 : decode cX9_findRest 230 = .ok (.iinc 6 (-1), 3) := by decide +kernel
theorem dX9_findRest_233 : decode cX9_findRest 233 = .ok (.goto (-178), 3) := by decide +kernel
theorem dX9_findRest_236 : decode cX9_findRest 236 = .ok (.return_, 1) := by decide +kernel
/-! MixfixDeskModel.findRest(IIII)V -/
abbrev rm_X9_findRest : Room := { frames := 1, cells := 0, slots := 0, locals := 24 }
theorem X9_findRest_inX9 : ∀ w ∈ wsX90, w ∈ wsX9_findRest := by exact fun w h => List.mem_cons_of_mem _ (List.mem_append_right _ h)
abbrev RT_X9_findRest (p : Program) (l : Launch) (e : Env) (s : State) (m : MethodId) (args : Array Value) (below : List Frame) (meth : Method) (c : Code) (Q : State → Prop) (dC : Nat → ClassId) (dI : Nat → Nat → Nat) (cI cJ cB cZ : ClassId) (A : Nat → Prop) (aM : Nat → Nat) (M_nodes : Int32) (M_operators : Int32) (M_textSize : Int32) (M_wordCount : Int32) (M_isParsed : Int32) (M_isTaken : Int32) (M_items : Int32) (M_piled : Int32) (M_outSize : Int32) (M_told : Int32) (M_standing : Int32) (M_elements : Nat → Int64) (M_elementCount : Nat → Int32) (M_chartWord : Nat → Int64) (M_inHole : Nat → Int32) (res : (Nat → Int64)) : Prop := ∀ (M_rest : Nat → Int64), some M_rest = some res → ∀ (pc : Nat) (H : Heap) (locs : List Loc) (ls : Array Slot), decode cX9_findRest pc = .ok (.return_, 1) → va_P (dC, dI) vwCl [((aM 0), .inr (9, oX9 aM M_nodes M_operators M_textSize M_wordCount M_isParsed M_isTaken M_items M_piled M_outSize M_told M_standing)), ((aM 4), .inl (cJ, 270, .inr (.inl M_elements))), ((aM 5), .inl (cI, 30, .inl M_elementCount)), ((aM 13), .inl (cJ, 80, .inr (.inl M_chartWord))), ((aM 16), .inl (cI, 205082, .inl M_inHole)), ((aM 19), .inl (cJ, 410, .inr (.inl M_rest)))] H → va_D A [((aM 0), .inr (9, oX9 aM M_nodes M_operators M_textSize M_wordCount M_isParsed M_isTaken M_items M_piled M_outSize M_told M_standing)), ((aM 4), .inl (cJ, 270, .inr (.inl M_elements))), ((aM 5), .inl (cI, 30, .inl M_elementCount)), ((aM 13), .inl (cJ, 80, .inr (.inl M_chartWord))), ((aM 16), .inl (cI, 205082, .inl M_inHole)), ((aM 19), .inl (cJ, 410, .inr (.inl M_rest)))] → va_S A s.heap H locs → W p l e rm_X9_findRest s m args below meth c H locs 0 0 Q (F0 m pc ls [])
set_option maxHeartbeats 4000000 in
set_option maxRecDepth 100000 in
theorem k_X9_findRest_207 {p : Program} {l : Launch} {e : Env} {s : State} {m : MethodId} {args : Array Value} {below : List Frame} {meth : Method} {c : Code} {Q : State → Prop} {dC : Nat → ClassId} {dI : Nat → Nat → Nat} {cI cJ cB cZ : ClassId} {A : Nat → Prop} (C0 : Cx p s m meth c args cX9_findRest 11 none wsX9_findRest RX9) (hK : va_K (dC, dI) vwCl [(cI, .int), (cJ, .long), (cB, .byte), (cZ, .boolean)] s) (hN : NW s) (hA : ∀ q, s.heap.size ≤ q → A q) (aM : Nat → Nat) (M_nodes : Int32) (M_operators : Int32) (M_textSize : Int32) (M_wordCount : Int32) (M_isParsed : Int32) (M_isTaken : Int32) (M_items : Int32) (M_piled : Int32) (M_outSize : Int32) (M_told : Int32) (M_standing : Int32) (M_elements : Nat → Int64) (M_elementCount : Nat → Int32) (M_chartWord : Nat → Int64) (M_inHole : Nat → Int32) (res : (Nat → Int64)) (RET : RT_X9_findRest p l e s m args below meth c Q dC dI cI cJ cB cZ A aM M_nodes M_operators M_textSize M_wordCount M_isParsed M_isTaken M_items M_piled M_outSize M_told M_standing M_elements M_elementCount M_chartWord M_inHole res) (k55 : (Nat → Int64) → Int32 → Int32 → Int32 → Int32 → Int32 → Option ((Nat → Int64))) (k63 : (Nat → Int64) → Int32 → Int32 → Int32 → Int32 → Int32 → Int32 → Option ((Nat → Int64))) (hk55 : ∀ (M_rest : Nat → Int64) (x1 : Int32) (x2 : Int32) (x3 : Int32) (x4 : Int32) (x6 : Int32), k55 M_rest x1 x2 x3 x4 x6 = some res → ∀ (H : Heap) (locs : List Loc), va_P (dC, dI) vwCl [((aM 0), .inr (9, oX9 aM M_nodes M_operators M_textSize M_wordCount M_isParsed M_isTaken M_items M_piled M_outSize M_told M_standing)), ((aM 4), .inl (cJ, 270, .inr (.inl M_elements))), ((aM 5), .inl (cI, 30, .inl M_elementCount)), ((aM 13), .inl (cJ, 80, .inr (.inl M_chartWord))), ((aM 16), .inl (cI, 205082, .inl M_inHole)), ((aM 19), .inl (cJ, 410, .inr (.inl M_rest)))] H → va_D A [((aM 0), .inr (9, oX9 aM M_nodes M_operators M_textSize M_wordCount M_isParsed M_isTaken M_items M_piled M_outSize M_told M_standing)), ((aM 4), .inl (cJ, 270, .inr (.inl M_elements))), ((aM 5), .inl (cI, 30, .inl M_elementCount)), ((aM 13), .inl (cJ, 80, .inr (.inl M_chartWord))), ((aM 16), .inl (cI, 205082, .inl M_inHole)), ((aM 19), .inl (cJ, 410, .inr (.inl M_rest)))] → va_S A s.heap H locs → ∀ (ls : Array Slot), lv_has ls 11 [(0, .ref (aM 0)), (1, .int x1), (2, .int x2), (3, .int x3), (4, .int x4), (6, .int x6)] → W p l e rm_X9_findRest s m args below meth c H locs 0 0 Q (F0 m 55 ls [])) (hk63 : ∀ (M_rest : Nat → Int64) (x1 : Int32) (x2 : Int32) (x3 : Int32) (x4 : Int32) (x6 : Int32) (x7 : Int32), k63 M_rest x1 x2 x3 x4 x6 x7 = some res → ∀ (H : Heap) (locs : List Loc), va_P (dC, dI) vwCl [((aM 0), .inr (9, oX9 aM M_nodes M_operators M_textSize M_wordCount M_isParsed M_isTaken M_items M_piled M_outSize M_told M_standing)), ((aM 4), .inl (cJ, 270, .inr (.inl M_elements))), ((aM 5), .inl (cI, 30, .inl M_elementCount)), ((aM 13), .inl (cJ, 80, .inr (.inl M_chartWord))), ((aM 16), .inl (cI, 205082, .inl M_inHole)), ((aM 19), .inl (cJ, 410, .inr (.inl M_rest)))] H → va_D A [((aM 0), .inr (9, oX9 aM M_nodes M_operators M_textSize M_wordCount M_isParsed M_isTaken M_items M_piled M_outSize M_told M_standing)), ((aM 4), .inl (cJ, 270, .inr (.inl M_elements))), ((aM 5), .inl (cI, 30, .inl M_elementCount)), ((aM 13), .inl (cJ, 80, .inr (.inl M_chartWord))), ((aM 16), .inl (cI, 205082, .inl M_inHole)), ((aM 19), .inl (cJ, 410, .inr (.inl M_rest)))] → va_S A s.heap H locs → ∀ (ls : Array Slot), lv_has ls 11 [(0, .ref (aM 0)), (1, .int x1), (2, .int x2), (3, .int x3), (4, .int x4), (6, .int x6), (7, .int x7)] → W p l e rm_X9_findRest s m args below meth c H locs 0 0 Q (F0 m 63 ls [])) : ∀ (M_rest : Nat → Int64) (x1 : Int32) (x2 : Int32) (x3 : Int32) (x4 : Int32) (x6 : Int32) (x7 : Int32) (x8 : Int64), m_X9_findRest_207 M_elements M_elementCount M_chartWord M_inHole k55 k63 M_rest x1 x2 x3 x4 x6 x7 x8 = some res → ∀ (H : Heap) (locs : List Loc), va_P (dC, dI) vwCl [((aM 0), .inr (9, oX9 aM M_nodes M_operators M_textSize M_wordCount M_isParsed M_isTaken M_items M_piled M_outSize M_told M_standing)), ((aM 4), .inl (cJ, 270, .inr (.inl M_elements))), ((aM 5), .inl (cI, 30, .inl M_elementCount)), ((aM 13), .inl (cJ, 80, .inr (.inl M_chartWord))), ((aM 16), .inl (cI, 205082, .inl M_inHole)), ((aM 19), .inl (cJ, 410, .inr (.inl M_rest)))] H → va_D A [((aM 0), .inr (9, oX9 aM M_nodes M_operators M_textSize M_wordCount M_isParsed M_isTaken M_items M_piled M_outSize M_told M_standing)), ((aM 4), .inl (cJ, 270, .inr (.inl M_elements))), ((aM 5), .inl (cI, 30, .inl M_elementCount)), ((aM 13), .inl (cJ, 80, .inr (.inl M_chartWord))), ((aM 16), .inl (cI, 205082, .inl M_inHole)), ((aM 19), .inl (cJ, 410, .inr (.inl M_rest)))] → va_S A s.heap H locs → ∀ (ls : Array Slot), lv_has ls 11 [(0, .ref (aM 0)), (1, .int x1), (2, .int x2), (3, .int x3), (4, .int x4), (6, .int x6), (7, .int x7), (8, .long x8)] → W p l e rm_X9_findRest s m args below meth c H locs 0 0 Q (F0 m 207 ls []) := by
  obtain ⟨⟨hx, hb, hml, hown, hts⟩, hr, hlocks⟩ := id C0
  intro M_rest x1 x2 x3 x4 x6 x7 x8 hm H locs hP hD hS ls hl
  have hm : (gd (((41 * x6) + x7) - x3) 410 (k63 (vp_updL M_rest (((41 * x6) + x7) - x3).toNatClampNeg x8) x1 x2 x3 x4 x6 (x7 + 1))) = some res := hm
  refine lv_aload_n hx hb dX9_findRest_207 rfl (lv_at hl 0 rfl) ?_
  refine va_get (D := (dC, dI)) (ci := 9) (v := .ref (aM 19)) (C := RX9) (T := TX9) (N := 53) hx hb hts X9_findRest_inX9 hown hK hP 0 rfl rfl 18 (by decide) (hts (.fieldLink RX9 53 "MixfixDeskModel" "rest" "[J") (List.mem_of_getElem? (i := 2) rfl)) (fun _ h9 => h9) rfl dX9_findRest_208 ?_
  refine lv_bipush (v := 41) hx hb dX9_findRest_211 (by decide) ?_
  refine lv_iload hx hb dX9_findRest_213 (lv_at hl 5 rfl) ?_
  refine lv_imul hx hb dX9_findRest_215 ?_
  refine lv_iload hx hb dX9_findRest_216 (lv_at hl 6 rfl) ?_
  refine lv_iadd hx hb dX9_findRest_218 ?_
  refine lv_iload_n hx hb dX9_findRest_219 rfl (lv_at hl 3 rfl) ?_
  refine lv_isub hx hb dX9_findRest_220 ?_
  refine lv_lload hx hb dX9_findRest_221 (lv_at hl 7 rfl) ?_
  obtain ⟨hi_1, hm⟩ := gd_some hm
  refine va_last (D := (dC, dI)) hx hb hK hP hD hS 5 1 rfl rfl hi_1 dX9_findRest_223 (fun H locs hP hD hS => ?_)
  have hP : va_P (dC, dI) vwCl [((aM 0), .inr (9, oX9 aM M_nodes M_operators M_textSize M_wordCount M_isParsed M_isTaken M_items M_piled M_outSize M_told M_standing)), ((aM 4), .inl (cJ, 270, .inr (.inl M_elements))), ((aM 5), .inl (cI, 30, .inl M_elementCount)), ((aM 13), .inl (cJ, 80, .inr (.inl M_chartWord))), ((aM 16), .inl (cI, 205082, .inl M_inHole)), ((aM 19), .inl (cJ, 410, .inr (.inl (vp_updL M_rest (((41 * x6) + x7) - x3).toNatClampNeg x8))))] H := hP
  have hD : va_D A [((aM 0), .inr (9, oX9 aM M_nodes M_operators M_textSize M_wordCount M_isParsed M_isTaken M_items M_piled M_outSize M_told M_standing)), ((aM 4), .inl (cJ, 270, .inr (.inl M_elements))), ((aM 5), .inl (cI, 30, .inl M_elementCount)), ((aM 13), .inl (cJ, 80, .inr (.inl M_chartWord))), ((aM 16), .inl (cI, 205082, .inl M_inHole)), ((aM 19), .inl (cJ, 410, .inr (.inl (vp_updL M_rest (((41 * x6) + x7) - x3).toNatClampNeg x8))))] := hD
  refine lv_iinc (v := x7 + 1) (lv' := [(7, .int (x7 + 1)), (0, .ref (aM 0)), (1, .int x1), (2, .int x2), (3, .int x3), (4, .int x4), (6, .int x6), (8, .long x8)]) hx hb dX9_findRest_224 hl (k := 6) rfl rfl (by decide) rfl (fun ls hl => ?_)
  refine lv_goto (tgt := 63) hx hb dX9_findRest_227 (by decide) ?_
  exact hk63 (vp_updL M_rest (((41 * x6) + x7) - x3).toNatClampNeg x8) x1 x2 x3 x4 x6 (x7 + 1) hm H locs hP hD hS ls (lv_sub hl [1, 2, 3, 4, 5, 6, 0] rfl)
set_option maxHeartbeats 4000000 in
set_option maxRecDepth 100000 in
theorem k_X9_findRest_134 {p : Program} {l : Launch} {e : Env} {s : State} {m : MethodId} {args : Array Value} {below : List Frame} {meth : Method} {c : Code} {Q : State → Prop} {dC : Nat → ClassId} {dI : Nat → Nat → Nat} {cI cJ cB cZ : ClassId} {A : Nat → Prop} (C0 : Cx p s m meth c args cX9_findRest 11 none wsX9_findRest RX9) (hK : va_K (dC, dI) vwCl [(cI, .int), (cJ, .long), (cB, .byte), (cZ, .boolean)] s) (hN : NW s) (hA : ∀ q, s.heap.size ≤ q → A q) (aM : Nat → Nat) (M_nodes : Int32) (M_operators : Int32) (M_textSize : Int32) (M_wordCount : Int32) (M_isParsed : Int32) (M_isTaken : Int32) (M_items : Int32) (M_piled : Int32) (M_outSize : Int32) (M_told : Int32) (M_standing : Int32) (M_elements : Nat → Int64) (M_elementCount : Nat → Int32) (M_chartWord : Nat → Int64) (M_inHole : Nat → Int32) (res : (Nat → Int64)) (RET : RT_X9_findRest p l e s m args below meth c Q dC dI cI cJ cB cZ A aM M_nodes M_operators M_textSize M_wordCount M_isParsed M_isTaken M_items M_piled M_outSize M_told M_standing M_elements M_elementCount M_chartWord M_inHole res) (k55 : (Nat → Int64) → Int32 → Int32 → Int32 → Int32 → Int32 → Option ((Nat → Int64))) (k63 : (Nat → Int64) → Int32 → Int32 → Int32 → Int32 → Int32 → Int32 → Option ((Nat → Int64))) (hk55 : ∀ (M_rest : Nat → Int64) (x1 : Int32) (x2 : Int32) (x3 : Int32) (x4 : Int32) (x6 : Int32), k55 M_rest x1 x2 x3 x4 x6 = some res → ∀ (H : Heap) (locs : List Loc), va_P (dC, dI) vwCl [((aM 0), .inr (9, oX9 aM M_nodes M_operators M_textSize M_wordCount M_isParsed M_isTaken M_items M_piled M_outSize M_told M_standing)), ((aM 4), .inl (cJ, 270, .inr (.inl M_elements))), ((aM 5), .inl (cI, 30, .inl M_elementCount)), ((aM 13), .inl (cJ, 80, .inr (.inl M_chartWord))), ((aM 16), .inl (cI, 205082, .inl M_inHole)), ((aM 19), .inl (cJ, 410, .inr (.inl M_rest)))] H → va_D A [((aM 0), .inr (9, oX9 aM M_nodes M_operators M_textSize M_wordCount M_isParsed M_isTaken M_items M_piled M_outSize M_told M_standing)), ((aM 4), .inl (cJ, 270, .inr (.inl M_elements))), ((aM 5), .inl (cI, 30, .inl M_elementCount)), ((aM 13), .inl (cJ, 80, .inr (.inl M_chartWord))), ((aM 16), .inl (cI, 205082, .inl M_inHole)), ((aM 19), .inl (cJ, 410, .inr (.inl M_rest)))] → va_S A s.heap H locs → ∀ (ls : Array Slot), lv_has ls 11 [(0, .ref (aM 0)), (1, .int x1), (2, .int x2), (3, .int x3), (4, .int x4), (6, .int x6)] → W p l e rm_X9_findRest s m args below meth c H locs 0 0 Q (F0 m 55 ls [])) (hk63 : ∀ (M_rest : Nat → Int64) (x1 : Int32) (x2 : Int32) (x3 : Int32) (x4 : Int32) (x6 : Int32) (x7 : Int32), k63 M_rest x1 x2 x3 x4 x6 x7 = some res → ∀ (H : Heap) (locs : List Loc), va_P (dC, dI) vwCl [((aM 0), .inr (9, oX9 aM M_nodes M_operators M_textSize M_wordCount M_isParsed M_isTaken M_items M_piled M_outSize M_told M_standing)), ((aM 4), .inl (cJ, 270, .inr (.inl M_elements))), ((aM 5), .inl (cI, 30, .inl M_elementCount)), ((aM 13), .inl (cJ, 80, .inr (.inl M_chartWord))), ((aM 16), .inl (cI, 205082, .inl M_inHole)), ((aM 19), .inl (cJ, 410, .inr (.inl M_rest)))] H → va_D A [((aM 0), .inr (9, oX9 aM M_nodes M_operators M_textSize M_wordCount M_isParsed M_isTaken M_items M_piled M_outSize M_told M_standing)), ((aM 4), .inl (cJ, 270, .inr (.inl M_elements))), ((aM 5), .inl (cI, 30, .inl M_elementCount)), ((aM 13), .inl (cJ, 80, .inr (.inl M_chartWord))), ((aM 16), .inl (cI, 205082, .inl M_inHole)), ((aM 19), .inl (cJ, 410, .inr (.inl M_rest)))] → va_S A s.heap H locs → ∀ (ls : Array Slot), lv_has ls 11 [(0, .ref (aM 0)), (1, .int x1), (2, .int x2), (3, .int x3), (4, .int x4), (6, .int x6), (7, .int x7)] → W p l e rm_X9_findRest s m args below meth c H locs 0 0 Q (F0 m 63 ls [])) : ∀ (M_rest : Nat → Int64) (x1 : Int32) (x2 : Int32) (x3 : Int32) (x4 : Int32) (x6 : Int32) (x7 : Int32) (y0 : Int64), m_X9_findRest_134 M_elements M_elementCount M_chartWord M_inHole k55 k63 M_rest x1 x2 x3 x4 x6 x7 y0 = some res → ∀ (H : Heap) (locs : List Loc), va_P (dC, dI) vwCl [((aM 0), .inr (9, oX9 aM M_nodes M_operators M_textSize M_wordCount M_isParsed M_isTaken M_items M_piled M_outSize M_told M_standing)), ((aM 4), .inl (cJ, 270, .inr (.inl M_elements))), ((aM 5), .inl (cI, 30, .inl M_elementCount)), ((aM 13), .inl (cJ, 80, .inr (.inl M_chartWord))), ((aM 16), .inl (cI, 205082, .inl M_inHole)), ((aM 19), .inl (cJ, 410, .inr (.inl M_rest)))] H → va_D A [((aM 0), .inr (9, oX9 aM M_nodes M_operators M_textSize M_wordCount M_isParsed M_isTaken M_items M_piled M_outSize M_told M_standing)), ((aM 4), .inl (cJ, 270, .inr (.inl M_elements))), ((aM 5), .inl (cI, 30, .inl M_elementCount)), ((aM 13), .inl (cJ, 80, .inr (.inl M_chartWord))), ((aM 16), .inl (cI, 205082, .inl M_inHole)), ((aM 19), .inl (cJ, 410, .inr (.inl M_rest)))] → va_S A s.heap H locs → ∀ (ls : Array Slot), lv_has ls 11 [(0, .ref (aM 0)), (1, .int x1), (2, .int x2), (3, .int x3), (4, .int x4), (6, .int x6), (7, .int x7)] → W p l e rm_X9_findRest s m args below meth c H locs 0 0 Q (F0 m 134 ls [.long y0]) := by
  obtain ⟨⟨hx, hb, hml, hown, hts⟩, hr, hlocks⟩ := id C0
  intro M_rest x1 x2 x3 x4 x6 x7 y0 hm H locs hP hD hS ls hl
  have hm : (m_X9_findRest_207 M_elements M_elementCount M_chartWord M_inHole k55 k63 M_rest x1 x2 x3 x4 x6 x7 y0) = some res := hm
  refine lv_lstore (lv' := [(8, .long y0), (0, .ref (aM 0)), (1, .int x1), (2, .int x2), (3, .int x3), (4, .int x4), (6, .int x6), (7, .int x7)]) hx hb dX9_findRest_134 hl (by decide) rfl (fun ls hl => ?_)
  refine lv_goto (tgt := 207) hx hb dX9_findRest_136 (by decide) ?_
  exact k_X9_findRest_207 C0 hK hN hA aM M_nodes M_operators M_textSize M_wordCount M_isParsed M_isTaken M_items M_piled M_outSize M_told M_standing M_elements M_elementCount M_chartWord M_inHole res RET k55 k63 hk55 hk63 M_rest x1 x2 x3 x4 x6 x7 y0 hm H locs hP hD hS ls (lv_sub hl [1, 2, 3, 4, 5, 6, 7, 0] rfl)
set_option maxHeartbeats 4000000 in
set_option maxRecDepth 100000 in
theorem k_X9_findRest_145 {p : Program} {l : Launch} {e : Env} {s : State} {m : MethodId} {args : Array Value} {below : List Frame} {meth : Method} {c : Code} {Q : State → Prop} {dC : Nat → ClassId} {dI : Nat → Nat → Nat} {cI cJ cB cZ : ClassId} {A : Nat → Prop} (C0 : Cx p s m meth c args cX9_findRest 11 none wsX9_findRest RX9) (hK : va_K (dC, dI) vwCl [(cI, .int), (cJ, .long), (cB, .byte), (cZ, .boolean)] s) (hN : NW s) (hA : ∀ q, s.heap.size ≤ q → A q) (aM : Nat → Nat) (M_nodes : Int32) (M_operators : Int32) (M_textSize : Int32) (M_wordCount : Int32) (M_isParsed : Int32) (M_isTaken : Int32) (M_items : Int32) (M_piled : Int32) (M_outSize : Int32) (M_told : Int32) (M_standing : Int32) (M_elements : Nat → Int64) (M_elementCount : Nat → Int32) (M_chartWord : Nat → Int64) (M_inHole : Nat → Int32) (res : (Nat → Int64)) (RET : RT_X9_findRest p l e s m args below meth c Q dC dI cI cJ cB cZ A aM M_nodes M_operators M_textSize M_wordCount M_isParsed M_isTaken M_items M_piled M_outSize M_told M_standing M_elements M_elementCount M_chartWord M_inHole res) (k55 : (Nat → Int64) → Int32 → Int32 → Int32 → Int32 → Int32 → Option ((Nat → Int64))) (k63 : (Nat → Int64) → Int32 → Int32 → Int32 → Int32 → Int32 → Int32 → Option ((Nat → Int64))) (hk55 : ∀ (M_rest : Nat → Int64) (x1 : Int32) (x2 : Int32) (x3 : Int32) (x4 : Int32) (x6 : Int32), k55 M_rest x1 x2 x3 x4 x6 = some res → ∀ (H : Heap) (locs : List Loc), va_P (dC, dI) vwCl [((aM 0), .inr (9, oX9 aM M_nodes M_operators M_textSize M_wordCount M_isParsed M_isTaken M_items M_piled M_outSize M_told M_standing)), ((aM 4), .inl (cJ, 270, .inr (.inl M_elements))), ((aM 5), .inl (cI, 30, .inl M_elementCount)), ((aM 13), .inl (cJ, 80, .inr (.inl M_chartWord))), ((aM 16), .inl (cI, 205082, .inl M_inHole)), ((aM 19), .inl (cJ, 410, .inr (.inl M_rest)))] H → va_D A [((aM 0), .inr (9, oX9 aM M_nodes M_operators M_textSize M_wordCount M_isParsed M_isTaken M_items M_piled M_outSize M_told M_standing)), ((aM 4), .inl (cJ, 270, .inr (.inl M_elements))), ((aM 5), .inl (cI, 30, .inl M_elementCount)), ((aM 13), .inl (cJ, 80, .inr (.inl M_chartWord))), ((aM 16), .inl (cI, 205082, .inl M_inHole)), ((aM 19), .inl (cJ, 410, .inr (.inl M_rest)))] → va_S A s.heap H locs → ∀ (ls : Array Slot), lv_has ls 11 [(0, .ref (aM 0)), (1, .int x1), (2, .int x2), (3, .int x3), (4, .int x4), (6, .int x6)] → W p l e rm_X9_findRest s m args below meth c H locs 0 0 Q (F0 m 55 ls [])) (hk63 : ∀ (M_rest : Nat → Int64) (x1 : Int32) (x2 : Int32) (x3 : Int32) (x4 : Int32) (x6 : Int32) (x7 : Int32), k63 M_rest x1 x2 x3 x4 x6 x7 = some res → ∀ (H : Heap) (locs : List Loc), va_P (dC, dI) vwCl [((aM 0), .inr (9, oX9 aM M_nodes M_operators M_textSize M_wordCount M_isParsed M_isTaken M_items M_piled M_outSize M_told M_standing)), ((aM 4), .inl (cJ, 270, .inr (.inl M_elements))), ((aM 5), .inl (cI, 30, .inl M_elementCount)), ((aM 13), .inl (cJ, 80, .inr (.inl M_chartWord))), ((aM 16), .inl (cI, 205082, .inl M_inHole)), ((aM 19), .inl (cJ, 410, .inr (.inl M_rest)))] H → va_D A [((aM 0), .inr (9, oX9 aM M_nodes M_operators M_textSize M_wordCount M_isParsed M_isTaken M_items M_piled M_outSize M_told M_standing)), ((aM 4), .inl (cJ, 270, .inr (.inl M_elements))), ((aM 5), .inl (cI, 30, .inl M_elementCount)), ((aM 13), .inl (cJ, 80, .inr (.inl M_chartWord))), ((aM 16), .inl (cI, 205082, .inl M_inHole)), ((aM 19), .inl (cJ, 410, .inr (.inl M_rest)))] → va_S A s.heap H locs → ∀ (ls : Array Slot), lv_has ls 11 [(0, .ref (aM 0)), (1, .int x1), (2, .int x2), (3, .int x3), (4, .int x4), (6, .int x6), (7, .int x7)] → W p l e rm_X9_findRest s m args below meth c H locs 0 0 Q (F0 m 63 ls [])) : ∀ (n : Nat) (M_rest : Nat → Int64) (x1 : Int32) (x2 : Int32) (x3 : Int32) (x4 : Int32) (x6 : Int32) (x7 : Int32) (x8 : Int64) (x10 : Int32), m_X9_findRest_145 M_elements M_elementCount M_chartWord M_inHole k55 k63 n M_rest x1 x2 x3 x4 x6 x7 x8 x10 = some res → ∀ (H : Heap) (locs : List Loc), va_P (dC, dI) vwCl [((aM 0), .inr (9, oX9 aM M_nodes M_operators M_textSize M_wordCount M_isParsed M_isTaken M_items M_piled M_outSize M_told M_standing)), ((aM 4), .inl (cJ, 270, .inr (.inl M_elements))), ((aM 5), .inl (cI, 30, .inl M_elementCount)), ((aM 13), .inl (cJ, 80, .inr (.inl M_chartWord))), ((aM 16), .inl (cI, 205082, .inl M_inHole)), ((aM 19), .inl (cJ, 410, .inr (.inl M_rest)))] H → va_D A [((aM 0), .inr (9, oX9 aM M_nodes M_operators M_textSize M_wordCount M_isParsed M_isTaken M_items M_piled M_outSize M_told M_standing)), ((aM 4), .inl (cJ, 270, .inr (.inl M_elements))), ((aM 5), .inl (cI, 30, .inl M_elementCount)), ((aM 13), .inl (cJ, 80, .inr (.inl M_chartWord))), ((aM 16), .inl (cI, 205082, .inl M_inHole)), ((aM 19), .inl (cJ, 410, .inr (.inl M_rest)))] → va_S A s.heap H locs → ∀ (ls : Array Slot), lv_has ls 11 [(0, .ref (aM 0)), (1, .int x1), (2, .int x2), (3, .int x3), (4, .int x4), (6, .int x6), (7, .int x7), (8, .long x8), (10, .int x10)] → W p l e rm_X9_findRest s m args below meth c H locs 0 0 Q (F0 m 145 ls []) := by
  obtain ⟨⟨hx, hb, hml, hown, hts⟩, hr, hlocks⟩ := id C0
  intro n
  induction n with
  | zero =>
    intro M_rest x1 x2 x3 x4 x6 x7 x8 x10 hm
    exact absurd hm (by intro h; cases h)
  | succ n ih =>
    intro M_rest x1 x2 x3 x4 x6 x7 x8 x10 hm H locs hP hD hS ls hl
    have hm : (if x4 < x10 then (m_X9_findRest_207 M_elements M_elementCount M_chartWord M_inHole k55 k63 M_rest x1 x2 x3 x4 x6 x7 x8) else (gd (((41 * (x6 + 1)) + x10) - x3) 410 (Option.bind (m_X9_typeOf M_elementCount x2 x6) (fun r_4 => Option.bind (m_X9_holeAt M_inHole x1 r_4 x7 (x10 - x7)) (fun r_6 => Option.bind (m_X9_capped ((M_rest (((41 * (x6 + 1)) + x10) - x3).toNatClampNeg) * r_6.toInt64)) (fun r_8 => Option.bind (m_X9_capped (x8 + r_8)) (fun r_10 => m_X9_findRest_145 M_elements M_elementCount M_chartWord M_inHole k55 k63 n M_rest x1 x2 x3 x4 x6 x7 r_10 (x10 + 1)))))))) = some res := hm
    refine lv_iload hx hb dX9_findRest_145 (lv_at hl 8 rfl) ?_
    refine lv_iload hx hb dX9_findRest_147 (lv_at hl 4 rfl) ?_
    refine lv_icmp_gt (tgt := 207) hx hb dX9_findRest_149 (by decide) (fun c_2 => ?_) (fun c_2 => ?_)
    · have hm := it_some c_2 hm
      exact k_X9_findRest_207 C0 hK hN hA aM M_nodes M_operators M_textSize M_wordCount M_isParsed M_isTaken M_items M_piled M_outSize M_told M_standing M_elements M_elementCount M_chartWord M_inHole res RET k55 k63 hk55 hk63 M_rest x1 x2 x3 x4 x6 x7 x8 hm H locs hP hD hS ls (lv_sub hl [0, 1, 2, 3, 4, 5, 6, 7] rfl)
    · have hm := if_some' c_2 hm
      refine lv_lload hx hb dX9_findRest_152 (lv_at hl 7 rfl) ?_
      refine lv_aload_n hx hb dX9_findRest_154 rfl (lv_at hl 0 rfl) ?_
      refine va_get (D := (dC, dI)) (ci := 9) (v := .ref (aM 19)) (C := RX9) (T := TX9) (N := 53) hx hb hts X9_findRest_inX9 hown hK hP 0 rfl rfl 18 (by decide) (hts (.fieldLink RX9 53 "MixfixDeskModel" "rest" "[J") (List.mem_of_getElem? (i := 2) rfl)) (fun _ h9 => h9) rfl dX9_findRest_155 ?_
      refine lv_bipush (v := 41) hx hb dX9_findRest_158 (by decide) ?_
      refine lv_iload hx hb dX9_findRest_160 (lv_at hl 5 rfl) ?_
      refine lv_iconst (v := 1) hx hb dX9_findRest_162 (by decide) ?_
      refine lv_iadd hx hb dX9_findRest_163 ?_
      refine lv_imul hx hb dX9_findRest_164 ?_
      refine lv_iload hx hb dX9_findRest_165 (lv_at hl 8 rfl) ?_
      refine lv_iadd hx hb dX9_findRest_167 ?_
      refine lv_iload_n hx hb dX9_findRest_168 rfl (lv_at hl 3 rfl) ?_
      refine lv_isub hx hb dX9_findRest_169 ?_
      obtain ⟨hi_3, hm⟩ := gd_some hm
      refine va_lald (D := (dC, dI)) hx hb hK hP 5 1 rfl rfl hi_3 dX9_findRest_170 ?_
      refine lv_aload_n hx hb dX9_findRest_171 rfl (lv_at hl 0 rfl) ?_
      refine lv_iload_n hx hb dX9_findRest_172 rfl (lv_at hl 1 rfl) ?_
      refine lv_aload_n hx hb dX9_findRest_173 rfl (lv_at hl 0 rfl) ?_
      refine lv_iload_n hx hb dX9_findRest_174 rfl (lv_at hl 2 rfl) ?_
      refine lv_iload hx hb dX9_findRest_175 (lv_at hl 5 rfl) ?_
      obtain ⟨r_4, hc_5, hm⟩ := ob_some hm
      refine cx_i (wr := [((aM 4), .inl (cJ, 270, .inr (.inl M_elements))), ((aM 13), .inl (cJ, 80, .inr (.inl M_chartWord))), ((aM 16), .inl (cI, 205082, .inl M_inHole)), ((aM 19), .inl (cJ, 410, .inr (.inl M_rest)))]) (va_runV (As := [.int x2, .int x6]) (rest := [.int x1, .ref (aM 0), .long (M_rest (((41 * (x6 + 1)) + x10) - x3).toNatClampNeg), .long x8]) C0.1 (c_X9_typeOf l dC dI cI cJ cB cZ aM H.size M_nodes M_operators M_textSize M_wordCount M_isParsed M_isTaken M_items M_piled M_outSize M_told M_standing M_elementCount x2 x6 r_4 hc_5) (cwV 2 hts gX9_findRest_X9_typeOf rfl rfl rfl (by decide +kernel) ⟨Nat.le_of_ble_eq_true rfl, Nat.le_of_ble_eq_true rfl⟩) (cP_V (ci := 9) (q0 := 0) hK hN hP hD rfl rfl [0, 2] (by decide) rfl) rfl rfl hl.1 rfl (lv_room (Nat.le_of_ble_eq_true rfl)) dX9_findRest_177 ⟨Nat.le_of_ble_eq_true rfl, Nat.le_of_ble_eq_true rfl⟩) hP hD hS hA [0, 2] [1, 3, 4, 5] rfl rfl (by decide) (by decide) (fun H locs hP hD hS => ?_)
      have hP : va_P (dC, dI) vwCl [((aM 4), .inl (cJ, 270, .inr (.inl M_elements))), ((aM 13), .inl (cJ, 80, .inr (.inl M_chartWord))), ((aM 16), .inl (cI, 205082, .inl M_inHole)), ((aM 19), .inl (cJ, 410, .inr (.inl M_rest))), ((aM 0), .inr (9, oX9 aM M_nodes M_operators M_textSize M_wordCount M_isParsed M_isTaken M_items M_piled M_outSize M_told M_standing)), ((aM 5), .inl (cI, 30, .inl M_elementCount))] H := hP
      have hD : va_D A [((aM 4), .inl (cJ, 270, .inr (.inl M_elements))), ((aM 13), .inl (cJ, 80, .inr (.inl M_chartWord))), ((aM 16), .inl (cI, 205082, .inl M_inHole)), ((aM 19), .inl (cJ, 410, .inr (.inl M_rest))), ((aM 0), .inr (9, oX9 aM M_nodes M_operators M_textSize M_wordCount M_isParsed M_isTaken M_items M_piled M_outSize M_told M_standing)), ((aM 5), .inl (cI, 30, .inl M_elementCount))] := hD
      refine lv_iload hx hb dX9_findRest_180 (lv_at hl 6 rfl) ?_
      refine lv_iload hx hb dX9_findRest_182 (lv_at hl 8 rfl) ?_
      refine lv_iload hx hb dX9_findRest_184 (lv_at hl 6 rfl) ?_
      refine lv_isub hx hb dX9_findRest_186 ?_
      obtain ⟨r_6, hc_7, hm⟩ := ob_some hm
      refine cx_i (wr := [((aM 4), .inl (cJ, 270, .inr (.inl M_elements))), ((aM 13), .inl (cJ, 80, .inr (.inl M_chartWord))), ((aM 19), .inl (cJ, 410, .inr (.inl M_rest))), ((aM 5), .inl (cI, 30, .inl M_elementCount))]) (va_runV (As := [.int x1, .int r_4, .int x7, .int (x10 - x7)]) (rest := [.long (M_rest (((41 * (x6 + 1)) + x10) - x3).toNatClampNeg), .long x8]) C0.1 (c_X9_holeAt l dC dI cI cJ cB cZ aM H.size M_nodes M_operators M_textSize M_wordCount M_isParsed M_isTaken M_items M_piled M_outSize M_told M_standing M_inHole x1 r_4 x7 (x10 - x7) r_6 hc_7) (cwV 4 hts gX9_findRest_X9_holeAt rfl rfl rfl (by decide +kernel) ⟨Nat.le_of_ble_eq_true rfl, Nat.le_of_ble_eq_true rfl⟩) (cP_V (ci := 9) (q0 := 4) hK hN hP hD rfl rfl [4, 2] (by decide) rfl) rfl rfl hl.1 rfl (lv_room (Nat.le_of_ble_eq_true rfl)) dX9_findRest_187 ⟨Nat.le_of_ble_eq_true rfl, Nat.le_of_ble_eq_true rfl⟩) hP hD hS hA [4, 2] [0, 1, 3, 5] rfl rfl (by decide) (by decide) (fun H locs hP hD hS => ?_)
      have hP : va_P (dC, dI) vwCl [((aM 4), .inl (cJ, 270, .inr (.inl M_elements))), ((aM 13), .inl (cJ, 80, .inr (.inl M_chartWord))), ((aM 19), .inl (cJ, 410, .inr (.inl M_rest))), ((aM 5), .inl (cI, 30, .inl M_elementCount)), ((aM 0), .inr (9, oX9 aM M_nodes M_operators M_textSize M_wordCount M_isParsed M_isTaken M_items M_piled M_outSize M_told M_standing)), ((aM 16), .inl (cI, 205082, .inl M_inHole))] H := hP
      have hD : va_D A [((aM 4), .inl (cJ, 270, .inr (.inl M_elements))), ((aM 13), .inl (cJ, 80, .inr (.inl M_chartWord))), ((aM 19), .inl (cJ, 410, .inr (.inl M_rest))), ((aM 5), .inl (cI, 30, .inl M_elementCount)), ((aM 0), .inr (9, oX9 aM M_nodes M_operators M_textSize M_wordCount M_isParsed M_isTaken M_items M_piled M_outSize M_told M_standing)), ((aM 16), .inl (cI, 205082, .inl M_inHole))] := hD
      refine lv_i2l (v := r_6.toInt64) hx hb dX9_findRest_190 rfl ?_
      refine lv_lmul hx hb dX9_findRest_191 ?_
      obtain ⟨r_8, hc_9, hm⟩ := ob_some hm
      refine cx_l (wr := [((aM 4), .inl (cJ, 270, .inr (.inl M_elements))), ((aM 13), .inl (cJ, 80, .inr (.inl M_chartWord))), ((aM 19), .inl (cJ, 410, .inr (.inl M_rest))), ((aM 5), .inl (cI, 30, .inl M_elementCount)), ((aM 0), .inr (9, oX9 aM M_nodes M_operators M_textSize M_wordCount M_isParsed M_isTaken M_items M_piled M_outSize M_told M_standing)), ((aM 16), .inl (cI, 205082, .inl M_inHole))]) (va_runS (As := [.long ((M_rest (((41 * (x6 + 1)) + x10) - x3).toNatClampNeg) * r_6.toInt64)]) (rest := [.long x8]) C0.1 (c_X9_capped l dC dI cI cJ cB cZ H.size ((M_rest (((41 * (x6 + 1)) + x10) - x3).toNatClampNeg) * r_6.toInt64) r_8 hc_9) (va_cwS 1 hts gX9_findRest_X9_capped rfl rfl rfl (by decide +kernel) ⟨Nat.le_of_ble_eq_true rfl, Nat.le_of_ble_eq_true rfl⟩) (cP_S hK hN hP hD [] (by decide) rfl) rfl rfl hl.1 rfl (lv_room (Nat.le_of_ble_eq_true rfl)) dX9_findRest_192 ⟨Nat.le_of_ble_eq_true rfl, Nat.le_of_ble_eq_true rfl⟩) hP hD hS hA [] [0, 1, 2, 3, 4, 5] rfl rfl (by decide) (by decide) (fun H locs hP hD hS => ?_)
      have hP : va_P (dC, dI) vwCl [((aM 4), .inl (cJ, 270, .inr (.inl M_elements))), ((aM 13), .inl (cJ, 80, .inr (.inl M_chartWord))), ((aM 19), .inl (cJ, 410, .inr (.inl M_rest))), ((aM 5), .inl (cI, 30, .inl M_elementCount)), ((aM 0), .inr (9, oX9 aM M_nodes M_operators M_textSize M_wordCount M_isParsed M_isTaken M_items M_piled M_outSize M_told M_standing)), ((aM 16), .inl (cI, 205082, .inl M_inHole))] H := hP
      have hD : va_D A [((aM 4), .inl (cJ, 270, .inr (.inl M_elements))), ((aM 13), .inl (cJ, 80, .inr (.inl M_chartWord))), ((aM 19), .inl (cJ, 410, .inr (.inl M_rest))), ((aM 5), .inl (cI, 30, .inl M_elementCount)), ((aM 0), .inr (9, oX9 aM M_nodes M_operators M_textSize M_wordCount M_isParsed M_isTaken M_items M_piled M_outSize M_told M_standing)), ((aM 16), .inl (cI, 205082, .inl M_inHole))] := hD
      refine lv_ladd hx hb dX9_findRest_195 ?_
      obtain ⟨r_10, hc_11, hm⟩ := ob_some hm
      refine cx_l (wr := [((aM 4), .inl (cJ, 270, .inr (.inl M_elements))), ((aM 13), .inl (cJ, 80, .inr (.inl M_chartWord))), ((aM 19), .inl (cJ, 410, .inr (.inl M_rest))), ((aM 5), .inl (cI, 30, .inl M_elementCount)), ((aM 0), .inr (9, oX9 aM M_nodes M_operators M_textSize M_wordCount M_isParsed M_isTaken M_items M_piled M_outSize M_told M_standing)), ((aM 16), .inl (cI, 205082, .inl M_inHole))]) (va_runS (As := [.long (x8 + r_8)]) (rest := []) C0.1 (c_X9_capped l dC dI cI cJ cB cZ H.size (x8 + r_8) r_10 hc_11) (va_cwS 1 hts gX9_findRest_X9_capped rfl rfl rfl (by decide +kernel) ⟨Nat.le_of_ble_eq_true rfl, Nat.le_of_ble_eq_true rfl⟩) (cP_S hK hN hP hD [] (by decide) rfl) rfl rfl hl.1 rfl (lv_room (Nat.le_of_ble_eq_true rfl)) dX9_findRest_196 ⟨Nat.le_of_ble_eq_true rfl, Nat.le_of_ble_eq_true rfl⟩) hP hD hS hA [] [0, 1, 2, 3, 4, 5] rfl rfl (by decide) (by decide) (fun H locs hP hD hS => ?_)
      have hP : va_P (dC, dI) vwCl [((aM 4), .inl (cJ, 270, .inr (.inl M_elements))), ((aM 13), .inl (cJ, 80, .inr (.inl M_chartWord))), ((aM 19), .inl (cJ, 410, .inr (.inl M_rest))), ((aM 5), .inl (cI, 30, .inl M_elementCount)), ((aM 0), .inr (9, oX9 aM M_nodes M_operators M_textSize M_wordCount M_isParsed M_isTaken M_items M_piled M_outSize M_told M_standing)), ((aM 16), .inl (cI, 205082, .inl M_inHole))] H := hP
      have hD : va_D A [((aM 4), .inl (cJ, 270, .inr (.inl M_elements))), ((aM 13), .inl (cJ, 80, .inr (.inl M_chartWord))), ((aM 19), .inl (cJ, 410, .inr (.inl M_rest))), ((aM 5), .inl (cI, 30, .inl M_elementCount)), ((aM 0), .inr (9, oX9 aM M_nodes M_operators M_textSize M_wordCount M_isParsed M_isTaken M_items M_piled M_outSize M_told M_standing)), ((aM 16), .inl (cI, 205082, .inl M_inHole))] := hD
      refine lv_lstore (lv' := [(8, .long r_10), (0, .ref (aM 0)), (1, .int x1), (2, .int x2), (3, .int x3), (4, .int x4), (6, .int x6), (7, .int x7), (10, .int x10)]) hx hb dX9_findRest_199 hl (by decide) rfl (fun ls hl => ?_)
      refine lv_iinc (v := x10 + 1) (lv' := [(10, .int (x10 + 1)), (8, .long r_10), (0, .ref (aM 0)), (1, .int x1), (2, .int x2), (3, .int x3), (4, .int x4), (6, .int x6), (7, .int x7)]) hx hb dX9_findRest_201 hl (k := 8) rfl rfl (by decide) rfl (fun ls hl => ?_)
      refine lv_goto (tgt := 145) hx hb dX9_findRest_204 (by decide) ?_
      exact ih M_rest x1 x2 x3 x4 x6 x7 r_10 (x10 + 1) hm H locs (P_sub' hP [4, 0, 3, 1, 5, 2] rfl) (hD.sub [4, 0, 3, 1, 5, 2] (by decide) rfl) hS ls (lv_sub hl [2, 3, 4, 5, 6, 7, 8, 1, 0] rfl)
set_option maxHeartbeats 4000000 in
set_option maxRecDepth 100000 in
theorem k_X9_findRest_63 {p : Program} {l : Launch} {e : Env} {s : State} {m : MethodId} {args : Array Value} {below : List Frame} {meth : Method} {c : Code} {Q : State → Prop} {dC : Nat → ClassId} {dI : Nat → Nat → Nat} {cI cJ cB cZ : ClassId} {A : Nat → Prop} (C0 : Cx p s m meth c args cX9_findRest 11 none wsX9_findRest RX9) (hK : va_K (dC, dI) vwCl [(cI, .int), (cJ, .long), (cB, .byte), (cZ, .boolean)] s) (hN : NW s) (hA : ∀ q, s.heap.size ≤ q → A q) (aM : Nat → Nat) (M_nodes : Int32) (M_operators : Int32) (M_textSize : Int32) (M_wordCount : Int32) (M_isParsed : Int32) (M_isTaken : Int32) (M_items : Int32) (M_piled : Int32) (M_outSize : Int32) (M_told : Int32) (M_standing : Int32) (M_elements : Nat → Int64) (M_elementCount : Nat → Int32) (M_chartWord : Nat → Int64) (M_inHole : Nat → Int32) (res : (Nat → Int64)) (RET : RT_X9_findRest p l e s m args below meth c Q dC dI cI cJ cB cZ A aM M_nodes M_operators M_textSize M_wordCount M_isParsed M_isTaken M_items M_piled M_outSize M_told M_standing M_elements M_elementCount M_chartWord M_inHole res) (k55 : (Nat → Int64) → Int32 → Int32 → Int32 → Int32 → Int32 → Option ((Nat → Int64))) (hk55 : ∀ (M_rest : Nat → Int64) (x1 : Int32) (x2 : Int32) (x3 : Int32) (x4 : Int32) (x6 : Int32), k55 M_rest x1 x2 x3 x4 x6 = some res → ∀ (H : Heap) (locs : List Loc), va_P (dC, dI) vwCl [((aM 0), .inr (9, oX9 aM M_nodes M_operators M_textSize M_wordCount M_isParsed M_isTaken M_items M_piled M_outSize M_told M_standing)), ((aM 4), .inl (cJ, 270, .inr (.inl M_elements))), ((aM 5), .inl (cI, 30, .inl M_elementCount)), ((aM 13), .inl (cJ, 80, .inr (.inl M_chartWord))), ((aM 16), .inl (cI, 205082, .inl M_inHole)), ((aM 19), .inl (cJ, 410, .inr (.inl M_rest)))] H → va_D A [((aM 0), .inr (9, oX9 aM M_nodes M_operators M_textSize M_wordCount M_isParsed M_isTaken M_items M_piled M_outSize M_told M_standing)), ((aM 4), .inl (cJ, 270, .inr (.inl M_elements))), ((aM 5), .inl (cI, 30, .inl M_elementCount)), ((aM 13), .inl (cJ, 80, .inr (.inl M_chartWord))), ((aM 16), .inl (cI, 205082, .inl M_inHole)), ((aM 19), .inl (cJ, 410, .inr (.inl M_rest)))] → va_S A s.heap H locs → ∀ (ls : Array Slot), lv_has ls 11 [(0, .ref (aM 0)), (1, .int x1), (2, .int x2), (3, .int x3), (4, .int x4), (6, .int x6)] → W p l e rm_X9_findRest s m args below meth c H locs 0 0 Q (F0 m 55 ls [])) : ∀ (n : Nat) (M_rest : Nat → Int64) (x1 : Int32) (x2 : Int32) (x3 : Int32) (x4 : Int32) (x6 : Int32) (x7 : Int32), m_X9_findRest_63 M_elements M_elementCount M_chartWord M_inHole k55 n M_rest x1 x2 x3 x4 x6 x7 = some res → ∀ (H : Heap) (locs : List Loc), va_P (dC, dI) vwCl [((aM 0), .inr (9, oX9 aM M_nodes M_operators M_textSize M_wordCount M_isParsed M_isTaken M_items M_piled M_outSize M_told M_standing)), ((aM 4), .inl (cJ, 270, .inr (.inl M_elements))), ((aM 5), .inl (cI, 30, .inl M_elementCount)), ((aM 13), .inl (cJ, 80, .inr (.inl M_chartWord))), ((aM 16), .inl (cI, 205082, .inl M_inHole)), ((aM 19), .inl (cJ, 410, .inr (.inl M_rest)))] H → va_D A [((aM 0), .inr (9, oX9 aM M_nodes M_operators M_textSize M_wordCount M_isParsed M_isTaken M_items M_piled M_outSize M_told M_standing)), ((aM 4), .inl (cJ, 270, .inr (.inl M_elements))), ((aM 5), .inl (cI, 30, .inl M_elementCount)), ((aM 13), .inl (cJ, 80, .inr (.inl M_chartWord))), ((aM 16), .inl (cI, 205082, .inl M_inHole)), ((aM 19), .inl (cJ, 410, .inr (.inl M_rest)))] → va_S A s.heap H locs → ∀ (ls : Array Slot), lv_has ls 11 [(0, .ref (aM 0)), (1, .int x1), (2, .int x2), (3, .int x3), (4, .int x4), (6, .int x6), (7, .int x7)] → W p l e rm_X9_findRest s m args below meth c H locs 0 0 Q (F0 m 63 ls []) := by
  obtain ⟨⟨hx, hb, hml, hown, hts⟩, hr, hlocks⟩ := id C0
  intro n
  induction n with
  | zero =>
    intro M_rest x1 x2 x3 x4 x6 x7 hm
    exact absurd hm (by intro h; cases h)
  | succ n ih =>
    intro M_rest x1 x2 x3 x4 x6 x7 hm H locs hP hD hS ls hl
    have hm : (if x4 ≤ x7 then (k55 M_rest x1 x2 x3 x4 (x6 + (-1))) else (Option.bind (m_X9_isHole M_elements x2 x6) (fun r_13 => if r_13 = 0 then (gd ((40 * x1) + x7) 80 (gd ((9 * x2) + x6) 270 (if (lg_cmp (M_chartWord ((40 * x1) + x7).toNatClampNeg) (M_elements ((9 * x2) + x6).toNatClampNeg)) = 0 then (gd ((((41 * (x6 + 1)) + x7) + 1) - x3) 410 (m_X9_findRest_134 M_elements M_elementCount M_chartWord M_inHole k55 (m_X9_findRest_63 M_elements M_elementCount M_chartWord M_inHole k55 n) M_rest x1 x2 x3 x4 x6 x7 (M_rest ((((41 * (x6 + 1)) + x7) + 1) - x3).toNatClampNeg))) else (m_X9_findRest_134 M_elements M_elementCount M_chartWord M_inHole k55 (m_X9_findRest_63 M_elements M_elementCount M_chartWord M_inHole k55 n) M_rest x1 x2 x3 x4 x6 x7 0)))) else (m_X9_findRest_145 M_elements M_elementCount M_chartWord M_inHole k55 (m_X9_findRest_63 M_elements M_elementCount M_chartWord M_inHole k55 n) FU M_rest x1 x2 x3 x4 x6 x7 0 (x7 + 1))))) = some res := hm
    refine lv_iload hx hb dX9_findRest_63 (lv_at hl 6 rfl) ?_
    refine lv_iload hx hb dX9_findRest_65 (lv_at hl 4 rfl) ?_
    refine lv_icmp_ge (tgt := 230) hx hb dX9_findRest_67 (by decide) (fun c_12 => ?_) (fun c_12 => ?_)
    · have hm := it_some c_12 hm
      refine lv_iinc (v := x6 + (-1)) (lv' := [(6, .int (x6 + (-1))), (0, .ref (aM 0)), (1, .int x1), (2, .int x2), (3, .int x3), (4, .int x4), (7, .int x7)]) hx hb dX9_findRest_230 hl (k := 5) rfl rfl (by decide) rfl (fun ls hl => ?_)
      refine lv_goto (tgt := 55) hx hb dX9_findRest_233 (by decide) ?_
      exact hk55 M_rest x1 x2 x3 x4 (x6 + (-1)) hm H locs hP hD hS ls (lv_sub hl [1, 2, 3, 4, 5, 0] rfl)
    · have hm := if_some' c_12 hm
      refine lv_lconst (v := 0) hx hb dX9_findRest_70 rfl ?_
      refine lv_lstore (lv' := [(8, .long 0), (0, .ref (aM 0)), (1, .int x1), (2, .int x2), (3, .int x3), (4, .int x4), (6, .int x6), (7, .int x7)]) hx hb dX9_findRest_71 hl (by decide) rfl (fun ls hl => ?_)
      refine lv_aload_n hx hb dX9_findRest_73 rfl (lv_at hl 1 rfl) ?_
      refine lv_iload_n hx hb dX9_findRest_74 rfl (lv_at hl 3 rfl) ?_
      refine lv_iload hx hb dX9_findRest_75 (lv_at hl 6 rfl) ?_
      obtain ⟨r_13, hc_14, hm⟩ := ob_some hm
      refine cx_i (wr := [((aM 5), .inl (cI, 30, .inl M_elementCount)), ((aM 13), .inl (cJ, 80, .inr (.inl M_chartWord))), ((aM 16), .inl (cI, 205082, .inl M_inHole)), ((aM 19), .inl (cJ, 410, .inr (.inl M_rest)))]) (va_runV (As := [.int x2, .int x6]) (rest := []) C0.1 (c_X9_isHole l dC dI cI cJ cB cZ aM H.size M_nodes M_operators M_textSize M_wordCount M_isParsed M_isTaken M_items M_piled M_outSize M_told M_standing M_elements x2 x6 r_13 hc_14) (cwV 2 hts gX9_findRest_X9_isHole rfl rfl rfl (by decide +kernel) ⟨Nat.le_of_ble_eq_true rfl, Nat.le_of_ble_eq_true rfl⟩) (cP_V (ci := 9) (q0 := 0) hK hN hP hD rfl rfl [0, 1] (by decide) rfl) rfl rfl hl.1 rfl (lv_room (Nat.le_of_ble_eq_true rfl)) dX9_findRest_77 ⟨Nat.le_of_ble_eq_true rfl, Nat.le_of_ble_eq_true rfl⟩) hP hD hS hA [0, 1] [2, 3, 4, 5] rfl rfl (by decide) (by decide) (fun H locs hP hD hS => ?_)
      have hP : va_P (dC, dI) vwCl [((aM 5), .inl (cI, 30, .inl M_elementCount)), ((aM 13), .inl (cJ, 80, .inr (.inl M_chartWord))), ((aM 16), .inl (cI, 205082, .inl M_inHole)), ((aM 19), .inl (cJ, 410, .inr (.inl M_rest))), ((aM 0), .inr (9, oX9 aM M_nodes M_operators M_textSize M_wordCount M_isParsed M_isTaken M_items M_piled M_outSize M_told M_standing)), ((aM 4), .inl (cJ, 270, .inr (.inl M_elements)))] H := hP
      have hD : va_D A [((aM 5), .inl (cI, 30, .inl M_elementCount)), ((aM 13), .inl (cJ, 80, .inr (.inl M_chartWord))), ((aM 16), .inl (cI, 205082, .inl M_inHole)), ((aM 19), .inl (cJ, 410, .inr (.inl M_rest))), ((aM 0), .inr (9, oX9 aM M_nodes M_operators M_textSize M_wordCount M_isParsed M_isTaken M_items M_piled M_outSize M_told M_standing)), ((aM 4), .inl (cJ, 270, .inr (.inl M_elements)))] := hD
      refine lv_if_ne (tgt := 139) hx hb dX9_findRest_80 (by decide) (fun c_15 => ?_) (fun c_15 => ?_)
      · have hm := if_some' c_15 hm
        refine lv_iload hx hb dX9_findRest_139 (lv_at hl 7 rfl) ?_
        refine lv_iconst (v := 1) hx hb dX9_findRest_141 (by decide) ?_
        refine lv_iadd hx hb dX9_findRest_142 ?_
        refine lv_istore (lv' := [(10, .int (x7 + 1)), (8, .long 0), (0, .ref (aM 0)), (1, .int x1), (2, .int x2), (3, .int x3), (4, .int x4), (6, .int x6), (7, .int x7)]) hx hb dX9_findRest_143 hl (by decide) rfl (fun ls hl => ?_)
        exact k_X9_findRest_145 C0 hK hN hA aM M_nodes M_operators M_textSize M_wordCount M_isParsed M_isTaken M_items M_piled M_outSize M_told M_standing M_elements M_elementCount M_chartWord M_inHole res RET k55 (m_X9_findRest_63 M_elements M_elementCount M_chartWord M_inHole k55 n) hk55 ih FU M_rest x1 x2 x3 x4 x6 x7 0 (x7 + 1) hm H locs (P_sub' hP [4, 5, 0, 1, 2, 3] rfl) (hD.sub [4, 5, 0, 1, 2, 3] (by decide) rfl) hS ls (lv_sub hl [2, 3, 4, 5, 6, 7, 8, 1, 0] rfl)
      · have hm := it_some c_15 hm
        refine lv_aload_n hx hb dX9_findRest_83 rfl (lv_at hl 1 rfl) ?_
        refine va_get (D := (dC, dI)) (ci := 9) (v := .ref (aM 13)) (C := RX9) (T := TX9) (N := 53) hx hb hts X9_findRest_inX9 hown hK hP 4 rfl rfl 12 (by decide) (hts (.fieldLink RX9 36 "MixfixDeskModel" "chartWord" "[J") (List.mem_of_getElem? (i := 3) rfl)) (fun _ h9 => h9) rfl dX9_findRest_84 ?_
        refine lv_bipush (v := 40) hx hb dX9_findRest_87 (by decide) ?_
        refine lv_iload_n hx hb dX9_findRest_89 rfl (lv_at hl 2 rfl) ?_
        refine lv_imul hx hb dX9_findRest_90 ?_
        refine lv_iload hx hb dX9_findRest_91 (lv_at hl 7 rfl) ?_
        refine lv_iadd hx hb dX9_findRest_93 ?_
        obtain ⟨hi_16, hm⟩ := gd_some hm
        refine va_lald (D := (dC, dI)) hx hb hK hP 1 1 rfl rfl hi_16 dX9_findRest_94 ?_
        refine lv_aload_n hx hb dX9_findRest_95 rfl (lv_at hl 1 rfl) ?_
        refine va_get (D := (dC, dI)) (ci := 9) (v := .ref (aM 4)) (C := RX9) (T := TX9) (N := 53) hx hb hts X9_findRest_inX9 hown hK hP 4 rfl rfl 3 (by decide) (hts (.fieldLink RX9 13 "MixfixDeskModel" "elements" "[J") (List.mem_of_getElem? (i := 4) rfl)) (fun _ h9 => h9) rfl dX9_findRest_96 ?_
        refine lv_bipush (v := 9) hx hb dX9_findRest_99 (by decide) ?_
        refine lv_iload_n hx hb dX9_findRest_101 rfl (lv_at hl 3 rfl) ?_
        refine lv_imul hx hb dX9_findRest_102 ?_
        refine lv_iload hx hb dX9_findRest_103 (lv_at hl 6 rfl) ?_
        refine lv_iadd hx hb dX9_findRest_105 ?_
        obtain ⟨hi_17, hm⟩ := gd_some hm
        refine va_lald (D := (dC, dI)) hx hb hK hP 5 1 rfl rfl hi_17 dX9_findRest_106 ?_
        refine W.lcmp hx hb dX9_findRest_107 ?_
        refine lv_if_ne (tgt := 133) hx hb dX9_findRest_108 (by decide) (fun c_18 => ?_) (fun c_18 => ?_)
        · have hm := if_some' c_18 hm
          refine lv_lconst (v := 0) hx hb dX9_findRest_133 rfl ?_
          exact k_X9_findRest_134 C0 hK hN hA aM M_nodes M_operators M_textSize M_wordCount M_isParsed M_isTaken M_items M_piled M_outSize M_told M_standing M_elements M_elementCount M_chartWord M_inHole res RET k55 (m_X9_findRest_63 M_elements M_elementCount M_chartWord M_inHole k55 n) hk55 ih M_rest x1 x2 x3 x4 x6 x7 0 hm H locs (P_sub' hP [4, 5, 0, 1, 2, 3] rfl) (hD.sub [4, 5, 0, 1, 2, 3] (by decide) rfl) hS ls (lv_sub hl [1, 2, 3, 4, 5, 6, 7] rfl)
        · have hm := it_some c_18 hm
          refine lv_aload_n hx hb dX9_findRest_111 rfl (lv_at hl 1 rfl) ?_
          refine va_get (D := (dC, dI)) (ci := 9) (v := .ref (aM 19)) (C := RX9) (T := TX9) (N := 53) hx hb hts X9_findRest_inX9 hown hK hP 4 rfl rfl 18 (by decide) (hts (.fieldLink RX9 53 "MixfixDeskModel" "rest" "[J") (List.mem_of_getElem? (i := 2) rfl)) (fun _ h9 => h9) rfl dX9_findRest_112 ?_
          refine lv_bipush (v := 41) hx hb dX9_findRest_115 (by decide) ?_
          refine lv_iload hx hb dX9_findRest_117 (lv_at hl 6 rfl) ?_
          refine lv_iconst (v := 1) hx hb dX9_findRest_119 (by decide) ?_
          refine lv_iadd hx hb dX9_findRest_120 ?_
          refine lv_imul hx hb dX9_findRest_121 ?_
          refine lv_iload hx hb dX9_findRest_122 (lv_at hl 7 rfl) ?_
          refine lv_iadd hx hb dX9_findRest_124 ?_
          refine lv_iconst (v := 1) hx hb dX9_findRest_125 (by decide) ?_
          refine lv_iadd hx hb dX9_findRest_126 ?_
          refine lv_iload_n hx hb dX9_findRest_127 rfl (lv_at hl 4 rfl) ?_
          refine lv_isub hx hb dX9_findRest_128 ?_
          obtain ⟨hi_19, hm⟩ := gd_some hm
          refine va_lald (D := (dC, dI)) hx hb hK hP 3 1 rfl rfl hi_19 dX9_findRest_129 ?_
          refine lv_goto (tgt := 134) hx hb dX9_findRest_130 (by decide) ?_
          exact k_X9_findRest_134 C0 hK hN hA aM M_nodes M_operators M_textSize M_wordCount M_isParsed M_isTaken M_items M_piled M_outSize M_told M_standing M_elements M_elementCount M_chartWord M_inHole res RET k55 (m_X9_findRest_63 M_elements M_elementCount M_chartWord M_inHole k55 n) hk55 ih M_rest x1 x2 x3 x4 x6 x7 (M_rest ((((41 * (x6 + 1)) + x7) + 1) - x3).toNatClampNeg) hm H locs (P_sub' hP [4, 5, 0, 1, 2, 3] rfl) (hD.sub [4, 5, 0, 1, 2, 3] (by decide) rfl) hS ls (lv_sub hl [1, 2, 3, 4, 5, 6, 7] rfl)
set_option maxHeartbeats 4000000 in
set_option maxRecDepth 100000 in
theorem k_X9_findRest_55 {p : Program} {l : Launch} {e : Env} {s : State} {m : MethodId} {args : Array Value} {below : List Frame} {meth : Method} {c : Code} {Q : State → Prop} {dC : Nat → ClassId} {dI : Nat → Nat → Nat} {cI cJ cB cZ : ClassId} {A : Nat → Prop} (C0 : Cx p s m meth c args cX9_findRest 11 none wsX9_findRest RX9) (hK : va_K (dC, dI) vwCl [(cI, .int), (cJ, .long), (cB, .byte), (cZ, .boolean)] s) (hN : NW s) (hA : ∀ q, s.heap.size ≤ q → A q) (aM : Nat → Nat) (M_nodes : Int32) (M_operators : Int32) (M_textSize : Int32) (M_wordCount : Int32) (M_isParsed : Int32) (M_isTaken : Int32) (M_items : Int32) (M_piled : Int32) (M_outSize : Int32) (M_told : Int32) (M_standing : Int32) (M_elements : Nat → Int64) (M_elementCount : Nat → Int32) (M_chartWord : Nat → Int64) (M_inHole : Nat → Int32) (res : (Nat → Int64)) (RET : RT_X9_findRest p l e s m args below meth c Q dC dI cI cJ cB cZ A aM M_nodes M_operators M_textSize M_wordCount M_isParsed M_isTaken M_items M_piled M_outSize M_told M_standing M_elements M_elementCount M_chartWord M_inHole res)   : ∀ (n : Nat) (M_rest : Nat → Int64) (x1 : Int32) (x2 : Int32) (x3 : Int32) (x4 : Int32) (x6 : Int32), m_X9_findRest_55 M_elements M_elementCount M_chartWord M_inHole n M_rest x1 x2 x3 x4 x6 = some res → ∀ (H : Heap) (locs : List Loc), va_P (dC, dI) vwCl [((aM 0), .inr (9, oX9 aM M_nodes M_operators M_textSize M_wordCount M_isParsed M_isTaken M_items M_piled M_outSize M_told M_standing)), ((aM 4), .inl (cJ, 270, .inr (.inl M_elements))), ((aM 5), .inl (cI, 30, .inl M_elementCount)), ((aM 13), .inl (cJ, 80, .inr (.inl M_chartWord))), ((aM 16), .inl (cI, 205082, .inl M_inHole)), ((aM 19), .inl (cJ, 410, .inr (.inl M_rest)))] H → va_D A [((aM 0), .inr (9, oX9 aM M_nodes M_operators M_textSize M_wordCount M_isParsed M_isTaken M_items M_piled M_outSize M_told M_standing)), ((aM 4), .inl (cJ, 270, .inr (.inl M_elements))), ((aM 5), .inl (cI, 30, .inl M_elementCount)), ((aM 13), .inl (cJ, 80, .inr (.inl M_chartWord))), ((aM 16), .inl (cI, 205082, .inl M_inHole)), ((aM 19), .inl (cJ, 410, .inr (.inl M_rest)))] → va_S A s.heap H locs → ∀ (ls : Array Slot), lv_has ls 11 [(0, .ref (aM 0)), (1, .int x1), (2, .int x2), (3, .int x3), (4, .int x4), (6, .int x6)] → W p l e rm_X9_findRest s m args below meth c H locs 0 0 Q (F0 m 55 ls []) := by
  obtain ⟨⟨hx, hb, hml, hown, hts⟩, hr, hlocks⟩ := id C0
  intro n
  induction n with
  | zero =>
    intro M_rest x1 x2 x3 x4 x6 hm
    exact absurd hm (by intro h; cases h)
  | succ n ih =>
    intro M_rest x1 x2 x3 x4 x6 hm H locs hP hD hS ls hl
    have hm : (if x6 < 0 then (some M_rest) else (m_X9_findRest_63 M_elements M_elementCount M_chartWord M_inHole (m_X9_findRest_55 M_elements M_elementCount M_chartWord M_inHole n) FU M_rest x1 x2 x3 x4 x6 x3)) = some res := hm
    refine lv_iload hx hb dX9_findRest_55 (lv_at hl 5 rfl) ?_
    refine lv_if_lt (tgt := 236) hx hb dX9_findRest_57 (by decide) (fun c_20 => ?_) (fun c_20 => ?_)
    · have hm := it_some c_20 hm
      exact RET M_rest hm _ H locs ls dX9_findRest_236 hP hD hS
    · have hm := if_some' c_20 hm
      refine lv_iload_n hx hb dX9_findRest_60 rfl (lv_at hl 3 rfl) ?_
      refine lv_istore (lv' := [(7, .int x3), (0, .ref (aM 0)), (1, .int x1), (2, .int x2), (3, .int x3), (4, .int x4), (6, .int x6)]) hx hb dX9_findRest_61 hl (by decide) rfl (fun ls hl => ?_)
      exact k_X9_findRest_63 C0 hK hN hA aM M_nodes M_operators M_textSize M_wordCount M_isParsed M_isTaken M_items M_piled M_outSize M_told M_standing M_elements M_elementCount M_chartWord M_inHole res RET (m_X9_findRest_55 M_elements M_elementCount M_chartWord M_inHole n) ih FU M_rest x1 x2 x3 x4 x6 x3 hm H locs hP hD hS ls (lv_sub hl [1, 2, 3, 4, 5, 6, 0] rfl)
set_option maxHeartbeats 4000000 in
set_option maxRecDepth 100000 in
theorem k_X9_findRest_11 {p : Program} {l : Launch} {e : Env} {s : State} {m : MethodId} {args : Array Value} {below : List Frame} {meth : Method} {c : Code} {Q : State → Prop} {dC : Nat → ClassId} {dI : Nat → Nat → Nat} {cI cJ cB cZ : ClassId} {A : Nat → Prop} (C0 : Cx p s m meth c args cX9_findRest 11 none wsX9_findRest RX9) (hK : va_K (dC, dI) vwCl [(cI, .int), (cJ, .long), (cB, .byte), (cZ, .boolean)] s) (hN : NW s) (hA : ∀ q, s.heap.size ≤ q → A q) (aM : Nat → Nat) (M_nodes : Int32) (M_operators : Int32) (M_textSize : Int32) (M_wordCount : Int32) (M_isParsed : Int32) (M_isTaken : Int32) (M_items : Int32) (M_piled : Int32) (M_outSize : Int32) (M_told : Int32) (M_standing : Int32) (M_elements : Nat → Int64) (M_elementCount : Nat → Int32) (M_chartWord : Nat → Int64) (M_inHole : Nat → Int32) (res : (Nat → Int64)) (RET : RT_X9_findRest p l e s m args below meth c Q dC dI cI cJ cB cZ A aM M_nodes M_operators M_textSize M_wordCount M_isParsed M_isTaken M_items M_piled M_outSize M_told M_standing M_elements M_elementCount M_chartWord M_inHole res)   : ∀ (n : Nat) (M_rest : Nat → Int64) (x1 : Int32) (x2 : Int32) (x3 : Int32) (x4 : Int32) (x5 : Int32) (x6 : Int32), m_X9_findRest_11 M_elements M_elementCount M_chartWord M_inHole n M_rest x1 x2 x3 x4 x5 x6 = some res → ∀ (H : Heap) (locs : List Loc), va_P (dC, dI) vwCl [((aM 0), .inr (9, oX9 aM M_nodes M_operators M_textSize M_wordCount M_isParsed M_isTaken M_items M_piled M_outSize M_told M_standing)), ((aM 4), .inl (cJ, 270, .inr (.inl M_elements))), ((aM 5), .inl (cI, 30, .inl M_elementCount)), ((aM 13), .inl (cJ, 80, .inr (.inl M_chartWord))), ((aM 16), .inl (cI, 205082, .inl M_inHole)), ((aM 19), .inl (cJ, 410, .inr (.inl M_rest)))] H → va_D A [((aM 0), .inr (9, oX9 aM M_nodes M_operators M_textSize M_wordCount M_isParsed M_isTaken M_items M_piled M_outSize M_told M_standing)), ((aM 4), .inl (cJ, 270, .inr (.inl M_elements))), ((aM 5), .inl (cI, 30, .inl M_elementCount)), ((aM 13), .inl (cJ, 80, .inr (.inl M_chartWord))), ((aM 16), .inl (cI, 205082, .inl M_inHole)), ((aM 19), .inl (cJ, 410, .inr (.inl M_rest)))] → va_S A s.heap H locs → ∀ (ls : Array Slot), lv_has ls 11 [(0, .ref (aM 0)), (1, .int x1), (2, .int x2), (3, .int x3), (4, .int x4), (5, .int x5), (6, .int x6)] → W p l e rm_X9_findRest s m args below meth c H locs 0 0 Q (F0 m 11 ls []) := by
  obtain ⟨⟨hx, hb, hml, hown, hts⟩, hr, hlocks⟩ := id C0
  intro n
  induction n with
  | zero =>
    intro M_rest x1 x2 x3 x4 x5 x6 hm
    exact absurd hm (by intro h; cases h)
  | succ n ih =>
    intro M_rest x1 x2 x3 x4 x5 x6 hm H locs hP hD hS ls hl
    have hm : (if 410 ≤ x6 then (gd (((41 * x5) + x4) - x3) 410 (m_X9_findRest_55 M_elements M_elementCount M_chartWord M_inHole FU (vp_updL M_rest (((41 * x5) + x4) - x3).toNatClampNeg 1) x1 x2 x3 x4 (x5 - 1))) else (gd x6 410 (m_X9_findRest_11 M_elements M_elementCount M_chartWord M_inHole n (vp_updL M_rest x6.toNatClampNeg 0) x1 x2 x3 x4 x5 (x6 + 1)))) = some res := hm
    refine lv_iload hx hb dX9_findRest_11 (lv_at hl 6 rfl) ?_
    refine lv_sipush (v := 410) hx hb dX9_findRest_13 (by decide) ?_
    refine lv_icmp_ge (tgt := 33) hx hb dX9_findRest_16 (by decide) (fun c_21 => ?_) (fun c_21 => ?_)
    · have hm := it_some c_21 hm
      refine lv_aload_n hx hb dX9_findRest_33 rfl (lv_at hl 0 rfl) ?_
      refine va_get (D := (dC, dI)) (ci := 9) (v := .ref (aM 19)) (C := RX9) (T := TX9) (N := 53) hx hb hts X9_findRest_inX9 hown hK hP 0 rfl rfl 18 (by decide) (hts (.fieldLink RX9 53 "MixfixDeskModel" "rest" "[J") (List.mem_of_getElem? (i := 2) rfl)) (fun _ h9 => h9) rfl dX9_findRest_34 ?_
      refine lv_bipush (v := 41) hx hb dX9_findRest_37 (by decide) ?_
      refine lv_iload hx hb dX9_findRest_39 (lv_at hl 5 rfl) ?_
      refine lv_imul hx hb dX9_findRest_41 ?_
      refine lv_iload hx hb dX9_findRest_42 (lv_at hl 4 rfl) ?_
      refine lv_iadd hx hb dX9_findRest_44 ?_
      refine lv_iload_n hx hb dX9_findRest_45 rfl (lv_at hl 3 rfl) ?_
      refine lv_isub hx hb dX9_findRest_46 ?_
      refine lv_lconst (v := 1) hx hb dX9_findRest_47 rfl ?_
      obtain ⟨hi_22, hm⟩ := gd_some hm
      refine va_last (D := (dC, dI)) hx hb hK hP hD hS 5 1 rfl rfl hi_22 dX9_findRest_48 (fun H locs hP hD hS => ?_)
      have hP : va_P (dC, dI) vwCl [((aM 0), .inr (9, oX9 aM M_nodes M_operators M_textSize M_wordCount M_isParsed M_isTaken M_items M_piled M_outSize M_told M_standing)), ((aM 4), .inl (cJ, 270, .inr (.inl M_elements))), ((aM 5), .inl (cI, 30, .inl M_elementCount)), ((aM 13), .inl (cJ, 80, .inr (.inl M_chartWord))), ((aM 16), .inl (cI, 205082, .inl M_inHole)), ((aM 19), .inl (cJ, 410, .inr (.inl (vp_updL M_rest (((41 * x5) + x4) - x3).toNatClampNeg 1))))] H := hP
      have hD : va_D A [((aM 0), .inr (9, oX9 aM M_nodes M_operators M_textSize M_wordCount M_isParsed M_isTaken M_items M_piled M_outSize M_told M_standing)), ((aM 4), .inl (cJ, 270, .inr (.inl M_elements))), ((aM 5), .inl (cI, 30, .inl M_elementCount)), ((aM 13), .inl (cJ, 80, .inr (.inl M_chartWord))), ((aM 16), .inl (cI, 205082, .inl M_inHole)), ((aM 19), .inl (cJ, 410, .inr (.inl (vp_updL M_rest (((41 * x5) + x4) - x3).toNatClampNeg 1))))] := hD
      refine lv_iload hx hb dX9_findRest_49 (lv_at hl 5 rfl) ?_
      refine lv_iconst (v := 1) hx hb dX9_findRest_51 (by decide) ?_
      refine lv_isub hx hb dX9_findRest_52 ?_
      refine lv_istore (lv' := [(6, .int (x5 - 1)), (0, .ref (aM 0)), (1, .int x1), (2, .int x2), (3, .int x3), (4, .int x4), (5, .int x5)]) hx hb dX9_findRest_53 hl (by decide) rfl (fun ls hl => ?_)
      exact k_X9_findRest_55 C0 hK hN hA aM M_nodes M_operators M_textSize M_wordCount M_isParsed M_isTaken M_items M_piled M_outSize M_told M_standing M_elements M_elementCount M_chartWord M_inHole res RET FU (vp_updL M_rest (((41 * x5) + x4) - x3).toNatClampNeg 1) x1 x2 x3 x4 (x5 - 1) hm H locs hP hD hS ls (lv_sub hl [1, 2, 3, 4, 5, 0] rfl)
    · have hm := if_some' c_21 hm
      refine lv_aload_n hx hb dX9_findRest_19 rfl (lv_at hl 0 rfl) ?_
      refine va_get (D := (dC, dI)) (ci := 9) (v := .ref (aM 19)) (C := RX9) (T := TX9) (N := 53) hx hb hts X9_findRest_inX9 hown hK hP 0 rfl rfl 18 (by decide) (hts (.fieldLink RX9 53 "MixfixDeskModel" "rest" "[J") (List.mem_of_getElem? (i := 2) rfl)) (fun _ h9 => h9) rfl dX9_findRest_20 ?_
      refine lv_iload hx hb dX9_findRest_23 (lv_at hl 6 rfl) ?_
      refine lv_lconst (v := 0) hx hb dX9_findRest_25 rfl ?_
      obtain ⟨hi_23, hm⟩ := gd_some hm
      refine va_last (D := (dC, dI)) hx hb hK hP hD hS 5 1 rfl rfl hi_23 dX9_findRest_26 (fun H locs hP hD hS => ?_)
      have hP : va_P (dC, dI) vwCl [((aM 0), .inr (9, oX9 aM M_nodes M_operators M_textSize M_wordCount M_isParsed M_isTaken M_items M_piled M_outSize M_told M_standing)), ((aM 4), .inl (cJ, 270, .inr (.inl M_elements))), ((aM 5), .inl (cI, 30, .inl M_elementCount)), ((aM 13), .inl (cJ, 80, .inr (.inl M_chartWord))), ((aM 16), .inl (cI, 205082, .inl M_inHole)), ((aM 19), .inl (cJ, 410, .inr (.inl (vp_updL M_rest x6.toNatClampNeg 0))))] H := hP
      have hD : va_D A [((aM 0), .inr (9, oX9 aM M_nodes M_operators M_textSize M_wordCount M_isParsed M_isTaken M_items M_piled M_outSize M_told M_standing)), ((aM 4), .inl (cJ, 270, .inr (.inl M_elements))), ((aM 5), .inl (cI, 30, .inl M_elementCount)), ((aM 13), .inl (cJ, 80, .inr (.inl M_chartWord))), ((aM 16), .inl (cI, 205082, .inl M_inHole)), ((aM 19), .inl (cJ, 410, .inr (.inl (vp_updL M_rest x6.toNatClampNeg 0))))] := hD
      refine lv_iinc (v := x6 + 1) (lv' := [(6, .int (x6 + 1)), (0, .ref (aM 0)), (1, .int x1), (2, .int x2), (3, .int x3), (4, .int x4), (5, .int x5)]) hx hb dX9_findRest_27 hl (k := 6) rfl rfl (by decide) rfl (fun ls hl => ?_)
      refine lv_goto (tgt := 11) hx hb dX9_findRest_30 (by decide) ?_
      exact ih (vp_updL M_rest x6.toNatClampNeg 0) x1 x2 x3 x4 x5 (x6 + 1) hm H locs hP hD hS ls (lv_sub hl [1, 2, 3, 4, 5, 6, 0] rfl)
set_option maxHeartbeats 4000000 in
set_option maxRecDepth 100000 in
theorem k_X9_findRest_E {p : Program} {l : Launch} {e : Env} {s : State} {m : MethodId} {args : Array Value} {below : List Frame} {meth : Method} {c : Code} {Q : State → Prop} {dC : Nat → ClassId} {dI : Nat → Nat → Nat} {cI cJ cB cZ : ClassId} {A : Nat → Prop} (C0 : Cx p s m meth c args cX9_findRest 11 none wsX9_findRest RX9) (hK : va_K (dC, dI) vwCl [(cI, .int), (cJ, .long), (cB, .byte), (cZ, .boolean)] s) (hN : NW s) (hA : ∀ q, s.heap.size ≤ q → A q) (aM : Nat → Nat) (M_nodes : Int32) (M_operators : Int32) (M_textSize : Int32) (M_wordCount : Int32) (M_isParsed : Int32) (M_isTaken : Int32) (M_items : Int32) (M_piled : Int32) (M_outSize : Int32) (M_told : Int32) (M_standing : Int32) (M_elements : Nat → Int64) (M_elementCount : Nat → Int32) (M_chartWord : Nat → Int64) (M_inHole : Nat → Int32) (res : (Nat → Int64)) (RET : RT_X9_findRest p l e s m args below meth c Q dC dI cI cJ cB cZ A aM M_nodes M_operators M_textSize M_wordCount M_isParsed M_isTaken M_items M_piled M_outSize M_told M_standing M_elements M_elementCount M_chartWord M_inHole res) : ∀ (M_rest : Nat → Int64) (p0 : Int32) (p1 : Int32) (p2 : Int32) (p3 : Int32), m_X9_findRest M_elements M_elementCount M_chartWord M_inHole M_rest p0 p1 p2 p3 = some res → ∀ (H : Heap) (locs : List Loc), va_P (dC, dI) vwCl [((aM 0), .inr (9, oX9 aM M_nodes M_operators M_textSize M_wordCount M_isParsed M_isTaken M_items M_piled M_outSize M_told M_standing)), ((aM 4), .inl (cJ, 270, .inr (.inl M_elements))), ((aM 5), .inl (cI, 30, .inl M_elementCount)), ((aM 13), .inl (cJ, 80, .inr (.inl M_chartWord))), ((aM 16), .inl (cI, 205082, .inl M_inHole)), ((aM 19), .inl (cJ, 410, .inr (.inl M_rest)))] H → va_D A [((aM 0), .inr (9, oX9 aM M_nodes M_operators M_textSize M_wordCount M_isParsed M_isTaken M_items M_piled M_outSize M_told M_standing)), ((aM 4), .inl (cJ, 270, .inr (.inl M_elements))), ((aM 5), .inl (cI, 30, .inl M_elementCount)), ((aM 13), .inl (cJ, 80, .inr (.inl M_chartWord))), ((aM 16), .inl (cI, 205082, .inl M_inHole)), ((aM 19), .inl (cJ, 410, .inr (.inl M_rest)))] → va_S A s.heap H locs → ∀ (ls : Array Slot), lv_has ls 11 [(0, .ref (aM 0)), (1, .int p0), (2, .int p1), (3, .int p2), (4, .int p3)] → W p l e rm_X9_findRest s m args below meth c H locs 0 0 Q (F0 m 0 ls []) := by
  obtain ⟨⟨hx, hb, hml, hown, hts⟩, hr, hlocks⟩ := id C0
  intro M_rest p0 p1 p2 p3 hm H locs hP hD hS ls hl
  have hm : (gd p1 30 (m_X9_findRest_11 M_elements M_elementCount M_chartWord M_inHole FU M_rest p0 p1 p2 p3 (M_elementCount p1.toNatClampNeg) 0)) = some res := hm
  refine lv_aload_n hx hb dX9_findRest_0 rfl (lv_at hl 0 rfl) ?_
  refine va_get (D := (dC, dI)) (ci := 9) (v := .ref (aM 5)) (C := RX9) (T := TX9) (N := 53) hx hb hts X9_findRest_inX9 hown hK hP 0 rfl rfl 4 (by decide) (hts (.fieldLink RX9 17 "MixfixDeskModel" "elementCount" "[I") (List.mem_of_getElem? (i := 1) rfl)) (fun _ h9 => h9) rfl dX9_findRest_1 ?_
  refine lv_iload_n hx hb dX9_findRest_4 rfl (lv_at hl 2 rfl) ?_
  obtain ⟨hi_24, hm⟩ := gd_some hm
  refine va_iald (D := (dC, dI)) hx hb hK hP 2 0 rfl rfl hi_24 dX9_findRest_5 ?_
  refine lv_istore (lv' := [(5, .int (M_elementCount p1.toNatClampNeg)), (0, .ref (aM 0)), (1, .int p0), (2, .int p1), (3, .int p2), (4, .int p3)]) hx hb dX9_findRest_6 hl (by decide) rfl (fun ls hl => ?_)
  refine lv_iconst (v := 0) hx hb dX9_findRest_8 (by decide) ?_
  refine lv_istore (lv' := [(6, .int 0), (5, .int (M_elementCount p1.toNatClampNeg)), (0, .ref (aM 0)), (1, .int p0), (2, .int p1), (3, .int p2), (4, .int p3)]) hx hb dX9_findRest_9 hl (by decide) rfl (fun ls hl => ?_)
  exact k_X9_findRest_11 C0 hK hN hA aM M_nodes M_operators M_textSize M_wordCount M_isParsed M_isTaken M_items M_piled M_outSize M_told M_standing M_elements M_elementCount M_chartWord M_inHole res RET FU M_rest p0 p1 p2 p3 (M_elementCount p1.toNatClampNeg) 0 hm H locs hP hD hS ls (lv_sub hl [2, 3, 4, 5, 6, 1, 0] rfl)
set_option maxHeartbeats 4000000 in
set_option maxRecDepth 100000 in
theorem c_X9_findRest (l : Launch) (dC : Nat → ClassId) (dI : Nat → Nat → Nat) (cI cJ cB cZ : ClassId) (aM : Nat → Nat) (sz : Nat) (M_nodes : Int32) (M_operators : Int32) (M_textSize : Int32) (M_wordCount : Int32) (M_isParsed : Int32) (M_isTaken : Int32) (M_items : Int32) (M_piled : Int32) (M_outSize : Int32) (M_told : Int32) (M_standing : Int32) (M_elements : Nat → Int64) (M_elementCount : Nat → Int32) (M_chartWord : Nat → Int64) (M_inHole : Nat → Int32) (M_rest : Nat → Int64) (p0 : Int32) (p1 : Int32) (p2 : Int32) (p3 : Int32) (res : (Nat → Int64)) (hm : m_X9_findRest M_elements M_elementCount M_chartWord M_inHole M_rest p0 p1 p2 p3 = some res) : Met l yX9_findRest wsX9_findRest rm_X9_findRest (cP (dC, dI) vwCl [(cI, .int), (cJ, .long), (cB, .byte), (cZ, .boolean)] [.ref (aM 0), .int p0, .int p1, .int p2, .int p3] [((aM 0), .inr (9, oX9 aM M_nodes M_operators M_textSize M_wordCount M_isParsed M_isTaken M_items M_piled M_outSize M_told M_standing)), ((aM 4), .inl (cJ, 270, .inr (.inl M_elements))), ((aM 5), .inl (cI, 30, .inl M_elementCount)), ((aM 13), .inl (cJ, 80, .inr (.inl M_chartWord))), ((aM 16), .inl (cI, 205082, .inl M_inHole)), ((aM 19), .inl (cJ, 410, .inr (.inl M_rest)))] sz) (cQv (dC, dI) vwCl [((aM 0), .inr (9, oX9 aM M_nodes M_operators M_textSize M_wordCount M_isParsed M_isTaken M_items M_piled M_outSize M_told M_standing)), ((aM 4), .inl (cJ, 270, .inr (.inl M_elements))), ((aM 5), .inl (cI, 30, .inl M_elementCount)), ((aM 13), .inl (cJ, 80, .inr (.inl M_chartWord))), ((aM 16), .inl (cI, 205082, .inl M_inHole)), ((aM 19), .inl (cJ, 410, .inr (.inl res)))] [((aM 0), .inr (9, oX9 aM M_nodes M_operators M_textSize M_wordCount M_isParsed M_isTaken M_items M_piled M_outSize M_told M_standing)), ((aM 4), .inl (cJ, 270, .inr (.inl M_elements))), ((aM 5), .inl (cI, 30, .inl M_elementCount)), ((aM 13), .inl (cJ, 80, .inr (.inl M_chartWord))), ((aM 16), .inl (cI, 205082, .inl M_inHole)), ((aM 19), .inl (cJ, 410, .inr (.inl M_rest)))] sz) 0 0 (va_A [((aM 0), .inr (9, oX9 aM M_nodes M_operators M_textSize M_wordCount M_isParsed M_isTaken M_items M_piled M_outSize M_told M_standing)), ((aM 4), .inl (cJ, 270, .inr (.inl M_elements))), ((aM 5), .inl (cI, 30, .inl M_elementCount)), ((aM 13), .inl (cJ, 80, .inr (.inl M_chartWord))), ((aM 16), .inl (cI, 205082, .inl M_inHole)), ((aM 19), .inl (cJ, 410, .inr (.inl M_rest)))] sz) := by
  refine cx_of (cc := cX9_findRest) (maxL := 11) (ret := none) (own := RX9) (by decide) rfl rfl (Nat.le_of_ble_eq_true rfl) ?_
  intro p e s m below meth c A C0 hinN hK hN hsz hAe hA hP hD hS ls hl
  refine k_X9_findRest_E C0 hK hN hA aM M_nodes M_operators M_textSize M_wordCount M_isParsed M_isTaken M_items M_piled M_outSize M_told M_standing M_elements M_elementCount M_chartWord M_inHole res ?_ M_rest p0 p1 p2 p3 hm _ _ hP hD hS ls hl
  intro M_rest he pc H locs ls hdg hP hD hS
  have he := Option.some.inj he
  subst he
  exact cx_retv C0 hsz hAe hdg hP hD hS

