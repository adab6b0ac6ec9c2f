theorem dX8_settle_0 : decode cX8_settle 0 = .ok (.iconst 0, 1) := by decide +kernel
theorem dX8_settle_1 : decode cX8_settle 1 = .ok (.istore_n 3, 1) := by decide +kernel
theorem dX8_settle_2 : decode cX8_settle 2 = .ok (.iload_n 3, 1) := by decide +kernel
theorem dX8_settle_3 : decode cX8_settle 3 = .ok (.bipush 24, 2) := by decide +kernel
theorem dX8_settle_5 : decode cX8_settle 5 = .ok (.if_icmp .ge 23, 3) := by decide +kernel
theorem dX8_settle_8 : decode cX8_settle 8 = .ok (.aload_n 0, 1) := by decide +kernel
theorem dX8_settle_9 : decode cX8_settle 9 = .ok (.getfield 57, 3) := by decide +kernel
theorem dX8_settle_12 : decode cX8_settle 12 = .ok (.iload_n 3, 1) := by decide +kernel
theorem dX8_settle_13 : decode cX8_settle 13 = .ok (.iconst (-1), 1) := by decide +kernel
theorem dX8_settle_14 : decode cX8_settle 14 = .ok (.iastore, 1) := by decide +kernel
theorem dX8_settle_15 : decode cX8_settle 15 = .ok (.aload_n 0, 1) := by decide +kernel
theorem dX8_settle_16 : decode cX8_settle 16 = .ok (.getfield 60, 3) := by decide +kernel
theorem dX8_settle_19 : decode cX8_settle 19 = .ok (.iload_n 3, 1) := by decide +kernel
theorem dX8_settle_20 : decode cX8_settle 20 = .ok (.iconst (-1), 1) := by decide +kernel
theorem dX8_settle_21 : decode cX8_settle 21 = .ok (.iastore, 1) := by decide +kernel
theorem dX8_settle_22 : decode cX8_settle 22 = .ok (.iinc 3 1, 3) := by decide +kernel
theorem dX8_settle_25 : decode cX8_settle 25 = .ok (.goto (-23), 3) := by decide +kernel
theorem dX8_settle_28 : decode cX8_settle 28 = .ok (.aload_n 0, 1) := by decide +kernel
theorem dX8_settle_29 : decode cX8_settle 29 = .ok (.getfield 57, 3) := by decide +kernel
theorem dX8_settle_32 : decode cX8_settle 32 = .ok (.iload_n 1, 1) := by decide +kernel
theorem dX8_settle_33 : decode cX8_settle 33 = .ok (.iload_n 2, 1) := by decide +kernel
theorem dX8_settle_34 : decode cX8_settle 34 = .ok (.iastore, 1) := by decide +kernel
theorem dX8_settle_35 : decode cX8_settle 35 = .ok (.lconst 0, 1) := by decide +kernel
theorem dX8_settle_36 : decode cX8_settle 36 = .ok (.lstore_n 3, 1) := by decide +kernel
theorem dX8_settle_37 : decode cX8_settle 37 = .ok (.iload_n 1, 1) := by decide +kernel
theorem dX8_settle_38 : decode cX8_settle 38 = .ok (.istore 5, 2) := by decide +kernel
theorem dX8_settle_40 : decode cX8_settle 40 = .ok (.iload 5, 2) := by decide +kernel
theorem dX8_settle_42 : decode cX8_settle 42 = .ok (.ifCond .lt 240, 3) := by decide +kernel
theorem dX8_settle_45 : decode cX8_settle 45 = .ok (.lload_n 3, 1) := by decide +kernel
theorem dX8_settle_46 : decode cX8_settle 46 = .ok (.lconst 1, 1) := by decide +kernel
theorem dX8_settle_47 : decode cX8_settle 47 = .ok (.iload 5, 2) := by decide +kernel
theorem dX8_settle_49 : decode cX8_settle 49 = .ok (.lshl, 1) := by decide +kernel
theorem dX8_settle_50 : decode cX8_settle 50 = .ok (.lor, 1) := by decide +kernel
theorem dX8_settle_51 : decode cX8_settle 51 = .ok (.lstore_n 3, 1) := by decide +kernel
theorem dX8_settle_52 : decode cX8_settle 52 = .ok (.iconst 0, 1) := by decide +kernel
theorem dX8_settle_53 : decode cX8_settle 53 = .ok (.istore 6, 2) := by decide +kernel
theorem dX8_settle_55 : decode cX8_settle 55 = .ok (.iload 6, 2) := by decide +kernel
theorem dX8_settle_57 : decode cX8_settle 57 = .ok (.iconst 2, 1) := by decide +kernel
theorem dX8_settle_58 : decode cX8_settle 58 = .ok (.aload_n 0, 1) := by decide +kernel
theorem dX8_settle_59 : decode cX8_settle 59 = .ok (.getfield 85, 3) := by decide +kernel
theorem dX8_settle_62 : decode cX8_settle 62 = .ok (.imul, 1) := by decide +kernel
theorem dX8_settle_63 : decode cX8_settle 63 = .ok (.if_icmp .ge 129, 3) := by decide +kernel
theorem dX8_settle_66 : decode cX8_settle 66 = .ok (.lload_n 3, 1) := by decide +kernel
theorem dX8_settle_67 : decode cX8_settle 67 = .ok (.iload 6, 2) := by decide +kernel
theorem dX8_settle_69 : decode cX8_settle 69 = .ok (.lshr, 1) := by decide +kernel
theorem dX8_settle_70 : decode cX8_settle 70 = .ok (.lconst 1, 1) := by decide +kernel
theorem dX8_settle_71 : decode cX8_settle 71 = .ok (.land, 1) := by decide +kernel
theorem dX8_settle_72 : decode cX8_settle 72 = .ok (.lconst 0, 1) := by decide +kernel
theorem dX8_settle_73 : decode cX8_settle 73 = .ok (.lcmp, 1) := by decide +kernel
theorem dX8_settle_74 : decode cX8_settle 74 = .ok (.ifCond .ne 18, 3) := by decide +kernel
theorem dX8_settle_77 : decode cX8_settle 77 = .ok (.aload_n 0, 1) := by decide +kernel
theorem dX8_settle_78 : decode cX8_settle 78 = .ok (.iload 5, 2) := by decide +kernel
theorem dX8_settle_80 : decode cX8_settle 80 = .ok (.iload 6, 2) := by decide +kernel
theorem dX8_settle_82 : decode cX8_settle 82 = .ok (.invokevirtual 130, 3) := by decide +kernel
theorem dX8_settle_85 : decode cX8_settle 85 = .ok (.ifCond .eq 7, 3) := by decide +kernel
theorem dX8_settle_88 : decode cX8_settle 88 = .ok (.iconst 1, 1) := by decide +kernel
theorem dX8_settle_89 : decode cX8_settle 89 = .ok (.goto 4, 3) := by decide +kernel
theorem dX8_settle_92 : decode cX8_settle 92 = .ok (.iconst 0, 1) := by decide +kernel
theorem dX8_settle_93 : decode cX8_settle 93 = .ok (.istore 7, 2) := by decide +kernel
theorem dX8_settle_95 : decode cX8_settle 95 = .ok (.iload 7, 2) := by decide +kernel
theorem dX8_settle_97 : decode cX8_settle 97 = .ok (.ifCond .eq 21, 3) := by decide +kernel
theorem dX8_settle_100 : decode cX8_settle 100 = .ok (.aload_n 0, 1) := by decide +kernel
theorem dX8_settle_101 : decode cX8_settle 101 = .ok (.iload 5, 2) := by decide +kernel
theorem dX8_settle_103 : decode cX8_settle 103 = .ok (.aload_n 0, 1) := by decide +kernel
theorem dX8_settle_104 : decode cX8_settle 104 = .ok (.getfield 57, 3) := by decide +kernel
theorem dX8_settle_107 : decode cX8_settle 107 = .ok (.iload 5, 2) := by decide +kernel
theorem dX8_settle_109 : decode cX8_settle 109 = .ok (.iaload, 1) := by decide +kernel
theorem dX8_settle_110 : decode cX8_settle 110 = .ok (.iload 6, 2) := by decide +kernel
theorem dX8_settle_112 : decode cX8_settle 112 = .ok (.invokevirtual 134, 3) := by decide +kernel
theorem dX8_settle_115 : decode cX8_settle 115 = .ok (.goto 4, 3) := by decide +kernel
theorem dX8_settle_118 : decode cX8_settle 118 = .ok (.iconst (-1), 1) := by decide +kernel
theorem dX8_settle_119 : decode cX8_settle 119 = .ok (.istore 8, 2) := by decide +kernel
theorem dX8_settle_121 : decode cX8_settle 121 = .ok (.iload 8, 2) := by decide +kernel
theorem dX8_settle_123 : decode cX8_settle 123 = .ok (.ifCond .lt 63, 3) := by decide +kernel
theorem dX8_settle_126 : decode cX8_settle 126 = .ok (.aload_n 0, 1) := by decide +kernel
theorem dX8_settle_127 : decode cX8_settle 127 = .ok (.getfield 57, 3) := by decide +kernel
theorem dX8_settle_130 : decode cX8_settle 130 = .ok (.iload 6, 2) := by decide +kernel
theorem dX8_settle_132 : decode cX8_settle 132 = .ok (.iaload, 1) := by decide +kernel
theorem dX8_settle_133 : decode cX8_settle 133 = .ok (.ifCond .lt 25, 3) := by decide +kernel
theorem dX8_settle_136 : decode cX8_settle 136 = .ok (.iload 8, 2) := by decide +kernel
theorem dX8_settle_138 : decode cX8_settle 138 = .ok (.aload_n 0, 1) := by decide +kernel
theorem dX8_settle_139 : decode cX8_settle 139 = .ok (.getfield 26, 3) := by decide +kernel
theorem dX8_settle_142 : decode cX8_settle 142 = .ok (.iload 6, 2) := by decide +kernel
theorem dX8_settle_144 : decode cX8_settle 144 = .ok (.iconst 2, 1) := by decide +kernel
theorem dX8_settle_145 : decode cX8_settle 145 = .ok (.idiv, 1) := by decide +kernel
theorem dX8_settle_146 : decode cX8_settle 146 = .ok (.iaload, 1) := by decide +kernel
theorem dX8_settle_147 : decode cX8_settle 147 = .ok (.iadd, 1) := by decide +kernel
theorem dX8_settle_148 : decode cX8_settle 148 = .ok (.aload_n 0, 1) := by decide +kernel
theorem dX8_settle_149 : decode cX8_settle 149 = .ok (.getfield 57, 3) := by decide +kernel
theorem dX8_settle_152 : decode cX8_settle 152 = .ok (.iload 6, 2) := by decide +kernel
theorem dX8_settle_154 : decode cX8_settle 154 = .ok (.iaload, 1) := by decide +kernel
theorem dX8_settle_155 : decode cX8_settle 155 = .ok (.if_icmp .ge 31, 3) := by decide +kernel
theorem dX8_settle_158 : decode cX8_settle 158 = .ok (.aload_n 0, 1) := by decide +kernel
theorem dX8_settle_159 : decode cX8_settle 159 = .ok (.getfield 57, 3) := by decide +kernel
theorem dX8_settle_162 : decode cX8_settle 162 = .ok (.iload 6, 2) := by decide +kernel
theorem dX8_settle_164 : decode cX8_settle 164 = .ok (.iload 8, 2) := by decide +kernel
theorem dX8_settle_166 : decode cX8_settle 166 = .ok (.aload_n 0, 1) := by decide +kernel
theorem dX8_settle_167 : decode cX8_settle 167 = .ok (.getfield 26, 3) := by decide +kernel
theorem dX8_settle_170 : decode cX8_settle 170 = .ok (.iload 6, 2) := by decide +kernel
theorem dX8_settle_172 : decode cX8_settle 172 = .ok (.iconst 2, 1) := by decide +kernel
theorem dX8_settle_173 : decode cX8_settle 173 = .ok (.idiv, 1) := by decide +kernel
theorem dX8_settle_174 : decode cX8_settle 174 = .ok (.iaload, 1) := by decide +kernel
theorem dX8_settle_175 : decode cX8_settle 175 = .ok (.iadd, 1) := by decide +kernel
theorem dX8_settle_176 : decode cX8_settle 176 = .ok (.iastore, 1) := by decide +kernel
theorem dX8_settle_177 : decode cX8_settle 177 = .ok (.aload_n 0, 1) := by decide +kernel
theorem dX8_settle_178 : decode cX8_settle 178 = .ok (.getfield 60, 3) := by decide +kernel
theorem dX8_settle_181 : decode cX8_settle 181 = .ok (.iload 6, 2) := by decide +kernel
theorem dX8_settle_183 : decode cX8_settle 183 = .ok (.iload 8, 2) := by decide +kernel
theorem dX8_settle_185 : decode cX8_settle 185 = .ok (.iastore, 1) := by decide +kernel
theorem dX8_settle_186 : decode cX8_settle 186 = .ok (.iinc 6 1, 3) := by decide +kernel
theorem dX8_settle_189 : decode cX8_settle 189 = .ok (.goto (-134), 3) := by decide +kernel
theorem dX8_settle_192 : decode cX8_settle 192 = .ok (.iconst (-1), 1) := by decide +kernel
theorem dX8_settle_193 : decode cX8_settle 193 = .ok (.istore 5, 2) := by decide +kernel
theorem dX8_settle_195 : decode cX8_settle 195 = .ok (.iconst 0, 1) := by decide +kernel
theorem dX8_settle_196 : decode cX8_settle 196 = .ok (.istore 6, 2) := by decide +kernel
theorem dX8_settle_198 : decode cX8_settle 198 = .ok (.iload 6, 2) := by decide +kernel
theorem dX8_settle_200 : decode cX8_settle 200 = .ok (.iconst 2, 1) := by decide +kernel
theorem dX8_settle_201 : decode cX8_settle 201 = .ok (.aload_n 0, 1) := by decide +kernel
theorem dX8_settle_202 : decode cX8_settle 202 = .ok (.getfield 85, 3) := by decide +kernel
theorem dX8_settle_205 : decode cX8_settle 205 = .ok (.imul, 1) := by decide +kernel
theorem dX8_settle_206 : decode cX8_settle 206 = .ok (.if_icmp .ge 73, 3) := by decide +kernel
theorem dX8_settle_209 : decode cX8_settle 209 = .ok (.lload_n 3, 1) := by decide +kernel
theorem dX8_settle_210 : decode cX8_settle 210 = .ok (.iload 6, 2) := by decide +kernel
theorem dX8_settle_212 : decode cX8_settle 212 = .ok (.lshr, 1) := by decide +kernel
theorem dX8_settle_213 : decode cX8_settle 213 = .ok (.lconst 1, 1) := by decide +kernel
theorem dX8_settle_214 : decode cX8_settle 214 = .ok (.land, 1) := by decide +kernel
theorem dX8_settle_215 : decode cX8_settle 215 = .ok (.lconst 0, 1) := by decide +kernel
theorem dX8_settle_216 : decode cX8_settle 216 = .ok (.lcmp, 1) := by decide +kernel
theorem dX8_settle_217 : decode cX8_settle 217 = .ok (.ifCond .ne 17, 3) := by decide +kernel
theorem dX8_settle_220 : decode cX8_settle 220 = .ok (.aload_n 0, 1) := by decide +kernel
theorem dX8_settle_221 : decode cX8_settle 221 = .ok (.getfield 57, 3) := by decide +kernel
theorem dX8_settle_224 : decode cX8_settle 224 = .ok (.iload 6, 2) := by decide +kernel
theorem dX8_settle_226 : decode cX8_settle 226 = .ok (.iaload, 1) := by decide +kernel
theorem dX8_settle_227 : decode cX8_settle 227 = .ok (.ifCond .lt 7, 3) := by decide +kernel
theorem dX8_settle_230 : decode cX8_settle 230 = .ok (.iconst 1, 1) := by decide +kernel
theorem dX8_settle_231 : decode cX8_settle 231 = .ok (.goto 4, 3) := by decide +kernel
theorem dX8_settle_234 : decode cX8_settle 234 = .ok (.iconst 0, 1) := by decide +kernel
theorem dX8_settle_235 : decode cX8_settle 235 = .ok (.istore 7, 2) := by decide +kernel
theorem dX8_settle_237 : decode cX8_settle 237 = .ok (.iload 7, 2) := by decide +kernel
theorem dX8_settle_239 : decode cX8_settle 239 = .ok (.ifCond .eq 30, 3) := by decide +kernel
theorem dX8_settle_242 : decode cX8_settle 242 = .ok (.iload 5, 2) := by decide +kernel
theorem dX8_settle_244 : decode cX8_settle 244 = .ok (.ifCond .lt 20, 3) := by decide +kernel
theorem dX8_settle_247 : decode cX8_settle 247 = .ok (.aload_n 0, 1) := by decide +kernel
theorem dX8_settle_248 : decode cX8_settle 248 = .ok (.getfield 57, 3) := by decide +kernel
theorem dX8_settle_251 : decode cX8_settle 251 = .ok (.iload 6, 2) := by decide +kernel
theorem dX8_settle_253 : decode cX8_settle 253 = .ok (.iaload, 1) := by decide +kernel
theorem dX8_settle_254 : decode cX8_settle 254 = .ok (.aload_n 0, 1) := by decide +kernel
theorem dX8_settle_255 : decode cX8_settle 255 = .ok (.getfield 57, 3) := by decide +kernel
theorem dX8_settle_258 : decode cX8_settle 258 = .ok (.iload 5, 2) := by decide +kernel
theorem dX8_settle_260 : decode cX8_settle 260 = .ok (.iaload, 1) := by decide +kernel
theorem dX8_settle_261 : decode cX8_settle 261 = .ok (.if_icmp .ge 8, 3) := by decide +kernel
theorem dX8_settle_264 : decode cX8_settle 264 = .ok (.iload 6, 2) := by decide +kernel
theorem dX8_settle_266 : decode cX8_settle 266 = .ok (.goto 5, 3) := by decide +kernel
theorem dX8_settle_269 : decode cX8_settle 269 = .ok (.iload 5, 2) := by decide +kernel
theorem dX8_settle_271 : decode cX8_settle 271 = .ok (.istore 5, 2) := by decide +kernel
theorem dX8_settle_273 : decode cX8_settle 273 = .ok (.iinc 6 1, 3) := by decide +kernel
theorem dX8_settle_276 : decode cX8_settle 276 = .ok (.goto (-78), 3) := by decide +kernel
theorem dX8_settle_279 : decode cX8_settle 279 = .ok (.goto (-239), 3) := by decide +kernel
theorem dX8_settle_282 : decode cX8_settle 282 = .ok (.return_, 1) := by decide +kernel
abbrev rm_mM_settle : Room := { frames := 2, cells := 0, slots := 0, locals := 45 }
def mB_M_settle_198 (K40 : S4 → Int64 → Int32 → S4) (K198 : S4 → Int64 → Int32 → Int32 → S4) (u : S4) (y3 : Int64) (y5 : Int32) (y6 : Int32) : S4 :=
  if ((2 : Int32) * (s4_i u 1)) ≤ y6 then
    K40 u y3 y5
  else
    let v8 : Int64 := ((y3 >>> ((y6).toInt64 &&& 63)) &&& (1 : Int64))
    if (lg_cmp v8 (0 : Int64)) = (0 : Int32) then
      if (s4_ra u 13 y6) < (0 : Int32) then
        let v15 : Int32 := (y6 + (1 : Int32))
        K198 u y3 y5 v15
      else
        if y5 < (0 : Int32) then
          let v18 : Int32 := (y6 + (1 : Int32))
          K198 u y3 y6 v18
        else
          if (s4_ra u 13 y5) ≤ (s4_ra u 13 y6) then
            let v22 : Int32 := (y6 + (1 : Int32))
            K198 u y3 y5 v22
          else
            let v23 : Int32 := (y6 + (1 : Int32))
            K198 u y3 y6 v23
    else
      let v11 : Int32 := (y6 + (1 : Int32))
      K198 u y3 y5 v11
def mL_M_settle_198 (K40 : S4 → Int64 → Int32 → S4) : Nat → S4 → Int64 → Int32 → Int32 → S4
  | 0 => fun u _ _ _ => u
  | n + 1 => mB_M_settle_198 K40 (mL_M_settle_198 K40 n)
def mBq_M_settle_198 (Q40 : S4 → Int64 → Int32 → Prop) (Q198 : S4 → Int64 → Int32 → Int32 → Prop) (u : S4) (y3 : Int64) (y5 : Int32) (y6 : Int32) : Prop :=
  ((((2 : Int32) * (s4_i u 1)) ≤ y6 →
    Q40 u y3 y5) ∧ (¬ ((2 : Int32) * (s4_i u 1)) ≤ y6 →
    let v8 : Int64 := ((y3 >>> ((y6).toInt64 &&& 63)) &&& (1 : Int64))
    (((lg_cmp v8 (0 : Int64)) = (0 : Int32) →
      vp_in y6 24 ∧
      (((s4_ra u 13 y6) < (0 : Int32) →
        let v15 : Int32 := (y6 + (1 : Int32))
        Q198 u y3 y5 v15) ∧ (¬ (s4_ra u 13 y6) < (0 : Int32) →
        ((y5 < (0 : Int32) →
          let v18 : Int32 := (y6 + (1 : Int32))
          Q198 u y3 y6 v18) ∧ (¬ y5 < (0 : Int32) →
          vp_in y6 24 ∧
          vp_in y5 24 ∧
          (((s4_ra u 13 y5) ≤ (s4_ra u 13 y6) →
            let v22 : Int32 := (y6 + (1 : Int32))
            Q198 u y3 y5 v22) ∧ (¬ (s4_ra u 13 y5) ≤ (s4_ra u 13 y6) →
            let v23 : Int32 := (y6 + (1 : Int32))
            Q198 u y3 y6 v23))))))) ∧ (¬ (lg_cmp v8 (0 : Int64)) = (0 : Int32) →
      let v11 : Int32 := (y6 + (1 : Int32))
      Q198 u y3 y5 v11))))
def mLq_M_settle_198 (Q40 : S4 → Int64 → Int32 → Prop) : Nat → S4 → Int64 → Int32 → Int32 → Prop
  | 0 => fun _ _ _ _ => False
  | n + 1 => mBq_M_settle_198 Q40 (mLq_M_settle_198 Q40 n)
set_option maxHeartbeats 4000000 in
set_option maxRecDepth 100000 in
theorem ms_M_settle_198 (l : Launch) (D : va_G) (a : Nat → Nat) (k3 : K3) {p : Program} {e : Env} {s : State} {m : MethodId} {below : List Frame} {meth : Method} {c : Code} {A : Nat → Prop} (av : Array Value) (F : Fx p s m meth c av cX8_settle 9 none yX8_settle.cls (kX8_settle :: tbG) D vwCl (ty3 k3) nestW A) (P : S4) (K40 : S4 → Int64 → Int32 → S4) (Q40 : S4 → Int64 → Int32 → Prop) (hK40 : ∀ (u : S4) (y3 : Int64) (y5 : Int32) (H : Heap) (locs : List Loc) (ls : Array Slot), Q40 u y3 y5 → K40 u y3 y5 = P → wd D vwCl (mC a k3) A s.heap u H locs → lv_has ls 9 [(0, .ref (a 0)), (3, .long y3), (5, .int y5)] → W p l e rm_mM_settle s m av below meth c H locs 0 0 (QV below D vwCl (mC a k3) A av s P) (F0 m 40 ls [])) (K198 : S4 → Int64 → Int32 → Int32 → S4) (Q198 : S4 → Int64 → Int32 → Int32 → Prop) (hK198 : ∀ (u : S4) (y3 : Int64) (y5 : Int32) (y6 : Int32) (H : Heap) (locs : List Loc) (ls : Array Slot), Q198 u y3 y5 y6 → K198 u y3 y5 y6 = P → wd D vwCl (mC a k3) A s.heap u H locs → lv_has ls 9 [(0, .ref (a 0)), (3, .long y3), (5, .int y5), (6, .int y6)] → W p l e rm_mM_settle s m av below meth c H locs 0 0 (QV below D vwCl (mC a k3) A av s P) (F0 m 198 ls [])) : ∀ (u : S4) (y3 : Int64) (y5 : Int32) (y6 : Int32) (H : Heap) (locs : List Loc) (ls : Array Slot), mBq_M_settle_198 Q40 Q198 u y3 y5 y6 → mB_M_settle_198 K40 K198 u y3 y5 y6 = P → wd D vwCl (mC a k3) A s.heap u H locs → lv_has ls 9 [(0, .ref (a 0)), (3, .long y3), (5, .int y5), (6, .int y6)] → W p l e rm_mM_settle s m av below meth c H locs 0 0 (QV below D vwCl (mC a k3) A av s P) (F0 m 198 ls []) := by
  obtain ⟨hx, hb, hr, hml, hown, hts, hK, hN, hlocks, hA⟩ := id F
  have hown : s.vm.findClass RX8 = some m.cls := hown
  have htG : ∀ w ∈ tbG, w.before av s = true := fun w h => hts w (List.mem_cons_of_mem _ h)
  have f_85 := htG _ tb_518
  have f_57 := htG _ tb_534
  intro u y3 y5 y6 H locs ls hq hP hw hl
  refine lv_iload hx hb dX8_settle_198 (lv_at hl 3 rfl) ?_
  refine lv_iconst (v := 2) hx hb dX8_settle_200 (by decide) ?_
  refine lv_aload_n hx hb dX8_settle_201 rfl (lv_at hl 0 rfl) ?_
  refine va_get (D := D) (ci := 8) (v := .int (s4_i u 1)) (C := RX8) (T := TX8) (N := 28) hx hb htG in_8 hown hK hw.1 0 (mo_0 a k3 u) rfl 4 (by decide) f_85 (fun _ h9 => h9) rfl dX8_settle_202 ?_
  refine lv_imul hx hb dX8_settle_205 ?_
  refine lv_icmp_ge (tgt := 279) hx hb dX8_settle_206 (by decide) (fun c7 => ?_) (fun c7 => ?_)
  · have hP := (if_pos c7).symm.trans hP
    have hq := hq.1 c7
    refine lv_goto (tgt := 40) hx hb dX8_settle_279 (by decide) ?_
    exact hK40 u (y3) (y5) H locs ls hq hP hw (lv_sub hl [0, 1, 2] rfl)
  · have hP := (if_neg c7).symm.trans hP
    have hq := hq.2 c7
    refine lv_lload_n hx hb dX8_settle_209 rfl (lv_at hl 1 rfl) ?_
    refine lv_iload hx hb dX8_settle_210 (lv_at hl 3 rfl) ?_
    refine lv_lshr hx hb dX8_settle_212 rfl ?_
    refine lv_lconst (v := 1) hx hb dX8_settle_213 (by decide) ?_
    refine lv_land hx hb dX8_settle_214 ?_
    refine lv_lconst (v := 0) hx hb dX8_settle_215 (by decide) ?_
    let v8 : Int64 := ((y3 >>> ((y6).toInt64 &&& 63)) &&& (1 : Int64))
    refine W.lcmp hx hb dX8_settle_216 ?_
    refine lv_if_ne (tgt := 234) hx hb dX8_settle_217 (by decide) (fun c9 => ?_) (fun c9 => ?_)
    · have hP := (if_neg c9).symm.trans hP
      have hq := hq.2 c9
      refine lv_iconst (v := 0) hx hb dX8_settle_234 (by decide) ?_
      refine lv_istore (lv' := [(7, .int (0 : Int32)), (0, .ref (a 0)), (3, .long y3), (5, .int y5), (6, .int y6)]) hx hb dX8_settle_235 hl (by decide) rfl (fun ls hl => ?_)
      refine lv_iload hx hb dX8_settle_237 (lv_at hl 0 rfl) ?_
      refine lv_if_eq (tgt := 269) hx hb dX8_settle_239 (by decide) (fun _ => ?_) (fun c10 => absurd (show (0 : Int32) = (0 : Int32) by decide) c10)
      refine lv_iload hx hb dX8_settle_269 (lv_at hl 3 rfl) ?_
      refine lv_istore (lv' := [(5, .int y5), (7, .int (0 : Int32)), (0, .ref (a 0)), (3, .long y3), (6, .int y6)]) hx hb dX8_settle_271 hl (by decide) rfl (fun ls hl => ?_)
      let v11 : Int32 := (y6 + (1 : Int32))
      refine lv_iinc (v := v11) (lv' := [(6, .int v11), (5, .int y5), (7, .int (0 : Int32)), (0, .ref (a 0)), (3, .long y3)]) hx hb dX8_settle_273 hl (k := 4) rfl rfl (by decide) rfl (fun ls hl => ?_)
      refine lv_goto (tgt := 198) hx hb dX8_settle_276 (by decide) ?_
      exact hK198 u (y3) (y5) (v11) H locs ls hq hP hw (lv_sub hl [3, 4, 1, 0] rfl)
    · have hP := (if_pos c9).symm.trans hP
      have hq := hq.1 c9
      refine lv_aload_n hx hb dX8_settle_220 rfl (lv_at hl 0 rfl) ?_
      refine va_get (D := D) (ci := 8) (v := .ref (a 16)) (C := RX8) (T := TX8) (N := 28) hx hb htG in_8 hown hK hw.1 0 (mo_0 a k3 u) rfl 20 (by decide) f_57 (fun _ h9 => h9) rfl dX8_settle_221 ?_
      refine lv_iload hx hb dX8_settle_224 (lv_at hl 3 rfl) ?_
      obtain ⟨h12, hq⟩ := hq
      refine y_iald (t0 := 0) hx hb hK hw 13 (mo_16 a k3 u) rfl h12 dX8_settle_226 ?_
      refine lv_if_lt (tgt := 234) hx hb dX8_settle_227 (by decide) (fun c13 => ?_) (fun c13 => ?_)
      · have hP := (if_pos c13).symm.trans hP
        have hq := hq.1 c13
        refine lv_iconst (v := 0) hx hb dX8_settle_234 (by decide) ?_
        refine lv_istore (lv' := [(7, .int (0 : Int32)), (0, .ref (a 0)), (3, .long y3), (5, .int y5), (6, .int y6)]) hx hb dX8_settle_235 hl (by decide) rfl (fun ls hl => ?_)
        refine lv_iload hx hb dX8_settle_237 (lv_at hl 0 rfl) ?_
        refine lv_if_eq (tgt := 269) hx hb dX8_settle_239 (by decide) (fun _ => ?_) (fun c14 => absurd (show (0 : Int32) = (0 : Int32) by decide) c14)
        refine lv_iload hx hb dX8_settle_269 (lv_at hl 3 rfl) ?_
        refine lv_istore (lv' := [(5, .int y5), (7, .int (0 : Int32)), (0, .ref (a 0)), (3, .long y3), (6, .int y6)]) hx hb dX8_settle_271 hl (by decide) rfl (fun ls hl => ?_)
        let v15 : Int32 := (y6 + (1 : Int32))
        refine lv_iinc (v := v15) (lv' := [(6, .int v15), (5, .int y5), (7, .int (0 : Int32)), (0, .ref (a 0)), (3, .long y3)]) hx hb dX8_settle_273 hl (k := 4) rfl rfl (by decide) rfl (fun ls hl => ?_)
        refine lv_goto (tgt := 198) hx hb dX8_settle_276 (by decide) ?_
        exact hK198 u (y3) (y5) (v15) H locs ls hq hP hw (lv_sub hl [3, 4, 1, 0] rfl)
      · have hP := (if_neg c13).symm.trans hP
        have hq := hq.2 c13
        refine lv_iconst (v := 1) hx hb dX8_settle_230 (by decide) ?_
        refine lv_goto (tgt := 235) hx hb dX8_settle_231 (by decide) ?_
        refine lv_istore (lv' := [(7, .int (1 : Int32)), (0, .ref (a 0)), (3, .long y3), (5, .int y5), (6, .int y6)]) hx hb dX8_settle_235 hl (by decide) rfl (fun ls hl => ?_)
        refine lv_iload hx hb dX8_settle_237 (lv_at hl 0 rfl) ?_
        refine lv_if_eq (tgt := 269) hx hb dX8_settle_239 (by decide) (fun c16 => absurd c16 (show ¬ (1 : Int32) = (0 : Int32) by decide)) (fun _ => ?_)
        refine lv_iload hx hb dX8_settle_242 (lv_at hl 3 rfl) ?_
        refine lv_if_lt (tgt := 264) hx hb dX8_settle_244 (by decide) (fun c17 => ?_) (fun c17 => ?_)
        · have hP := (if_pos c17).symm.trans hP
          have hq := hq.1 c17
          refine lv_iload hx hb dX8_settle_264 (lv_at hl 4 rfl) ?_
          refine lv_goto (tgt := 271) hx hb dX8_settle_266 (by decide) ?_
          refine lv_istore (lv' := [(5, .int y6), (7, .int (1 : Int32)), (0, .ref (a 0)), (3, .long y3), (6, .int y6)]) hx hb dX8_settle_271 hl (by decide) rfl (fun ls hl => ?_)
          let v18 : Int32 := (y6 + (1 : Int32))
          refine lv_iinc (v := v18) (lv' := [(6, .int v18), (5, .int y6), (7, .int (1 : Int32)), (0, .ref (a 0)), (3, .long y3)]) hx hb dX8_settle_273 hl (k := 4) rfl rfl (by decide) rfl (fun ls hl => ?_)
          refine lv_goto (tgt := 198) hx hb dX8_settle_276 (by decide) ?_
          exact hK198 u (y3) (y6) (v18) H locs ls hq hP hw (lv_sub hl [3, 4, 1, 0] rfl)
        · have hP := (if_neg c17).symm.trans hP
          have hq := hq.2 c17
          refine lv_aload_n hx hb dX8_settle_247 rfl (lv_at hl 1 rfl) ?_
          refine va_get (D := D) (ci := 8) (v := .ref (a 16)) (C := RX8) (T := TX8) (N := 28) hx hb htG in_8 hown hK hw.1 0 (mo_0 a k3 u) rfl 20 (by decide) f_57 (fun _ h9 => h9) rfl dX8_settle_248 ?_
          refine lv_iload hx hb dX8_settle_251 (lv_at hl 4 rfl) ?_
          obtain ⟨h19, hq⟩ := hq
          refine y_iald (t0 := 0) hx hb hK hw 13 (mo_16 a k3 u) rfl h19 dX8_settle_253 ?_
          refine lv_aload_n hx hb dX8_settle_254 rfl (lv_at hl 1 rfl) ?_
          refine va_get (D := D) (ci := 8) (v := .ref (a 16)) (C := RX8) (T := TX8) (N := 28) hx hb htG in_8 hown hK hw.1 0 (mo_0 a k3 u) rfl 20 (by decide) f_57 (fun _ h9 => h9) rfl dX8_settle_255 ?_
          refine lv_iload hx hb dX8_settle_258 (lv_at hl 3 rfl) ?_
          obtain ⟨h20, hq⟩ := hq
          refine y_iald (t0 := 0) hx hb hK hw 13 (mo_16 a k3 u) rfl h20 dX8_settle_260 ?_
          refine lv_icmp_ge (tgt := 269) hx hb dX8_settle_261 (by decide) (fun c21 => ?_) (fun c21 => ?_)
          · have hP := (if_pos c21).symm.trans hP
            have hq := hq.1 c21
            refine lv_iload hx hb dX8_settle_269 (lv_at hl 3 rfl) ?_
            refine lv_istore (lv' := [(5, .int y5), (7, .int (1 : Int32)), (0, .ref (a 0)), (3, .long y3), (6, .int y6)]) hx hb dX8_settle_271 hl (by decide) rfl (fun ls hl => ?_)
            let v22 : Int32 := (y6 + (1 : Int32))
            refine lv_iinc (v := v22) (lv' := [(6, .int v22), (5, .int y5), (7, .int (1 : Int32)), (0, .ref (a 0)), (3, .long y3)]) hx hb dX8_settle_273 hl (k := 4) rfl rfl (by decide) rfl (fun ls hl => ?_)
            refine lv_goto (tgt := 198) hx hb dX8_settle_276 (by decide) ?_
            exact hK198 u (y3) (y5) (v22) H locs ls hq hP hw (lv_sub hl [3, 4, 1, 0] rfl)
          · have hP := (if_neg c21).symm.trans hP
            have hq := hq.2 c21
            refine lv_iload hx hb dX8_settle_264 (lv_at hl 4 rfl) ?_
            refine lv_goto (tgt := 271) hx hb dX8_settle_266 (by decide) ?_
            refine lv_istore (lv' := [(5, .int y6), (7, .int (1 : Int32)), (0, .ref (a 0)), (3, .long y3), (6, .int y6)]) hx hb dX8_settle_271 hl (by decide) rfl (fun ls hl => ?_)
            let v23 : Int32 := (y6 + (1 : Int32))
            refine lv_iinc (v := v23) (lv' := [(6, .int v23), (5, .int y6), (7, .int (1 : Int32)), (0, .ref (a 0)), (3, .long y3)]) hx hb dX8_settle_273 hl (k := 4) rfl rfl (by decide) rfl (fun ls hl => ?_)
            refine lv_goto (tgt := 198) hx hb dX8_settle_276 (by decide) ?_
            exact hK198 u (y3) (y6) (v23) H locs ls hq hP hw (lv_sub hl [3, 4, 1, 0] rfl)
set_option maxHeartbeats 4000000 in
set_option maxRecDepth 100000 in
theorem mw_M_settle_198 (l : Launch) (D : va_G) (a : Nat → Nat) (k3 : K3) {p : Program} {e : Env} {s : State} {m : MethodId} {below : List Frame} {meth : Method} {c : Code} {A : Nat → Prop} (av : Array Value) (F : Fx p s m meth c av cX8_settle 9 none yX8_settle.cls (kX8_settle :: tbG) D vwCl (ty3 k3) nestW A) (P : S4) (K40 : S4 → Int64 → Int32 → S4) (Q40 : S4 → Int64 → Int32 → Prop) (hK40 : ∀ (u : S4) (y3 : Int64) (y5 : Int32) (H : Heap) (locs : List Loc) (ls : Array Slot), Q40 u y3 y5 → K40 u y3 y5 = P → wd D vwCl (mC a k3) A s.heap u H locs → lv_has ls 9 [(0, .ref (a 0)), (3, .long y3), (5, .int y5)] → W p l e rm_mM_settle s m av below meth c H locs 0 0 (QV below D vwCl (mC a k3) A av s P) (F0 m 40 ls [])) : ∀ (n : Nat), ∀ (u : S4) (y3 : Int64) (y5 : Int32) (y6 : Int32) (H : Heap) (locs : List Loc) (ls : Array Slot), mLq_M_settle_198 Q40 n u y3 y5 y6 → mL_M_settle_198 K40 n u y3 y5 y6 = P → wd D vwCl (mC a k3) A s.heap u H locs → lv_has ls 9 [(0, .ref (a 0)), (3, .long y3), (5, .int y5), (6, .int y6)] → W p l e rm_mM_settle s m av below meth c H locs 0 0 (QV below D vwCl (mC a k3) A av s P) (F0 m 198 ls []) := by
  intro n
  induction n with
  | zero => intro u y3 y5 y6 H locs ls hq hP hw hl; exact hq.elim
  | succ n ih => intro u y3 y5 y6 H locs ls hq hP hw hl; exact ms_M_settle_198 l D a k3 av F P K40 Q40 hK40 (mL_M_settle_198 K40 n) (mLq_M_settle_198 Q40 n) ih u y3 y5 y6 H locs ls hq hP hw hl
def mB_M_settle_55 (K40 : S4 → Int64 → Int32 → S4) (K55 : S4 → Int64 → Int32 → Int32 → S4) (u : S4) (y3 : Int64) (y5 : Int32) (y6 : Int32) : S4 :=
  if ((2 : Int32) * (s4_i u 1)) ≤ y6 then
    mL_M_settle_198 K40 64 u y3 (-1 : Int32) (0 : Int32)
  else
    let v24 : Int64 := ((y3 >>> ((y6).toInt64 &&& 63)) &&& (1 : Int64))
    if (lg_cmp v24 (0 : Int64)) = (0 : Int32) then
      let r30 : Int32 := mp_M_goesInto u y5 y6
      if r30 = (0 : Int32) then
        let v34 : Int32 := (y6 + (1 : Int32))
        K55 u y3 y5 v34
      else
        let r38 : Int32 := mp_M_begun3 u y5 (s4_ra u 13 y5) y6
        if r38 < (0 : Int32) then
          let v40 : Int32 := (y6 + (1 : Int32))
          K55 u y3 y5 v40
        else
          if (s4_ra u 13 y6) < (0 : Int32) then
            let u45 : S4 := s4_wa u 13 y6 (r38 + (s4_ra u 5 (y6 / (2 : Int32))))
            let u47 : S4 := s4_wa u45 14 y6 r38
            let v48 : Int32 := (y6 + (1 : Int32))
            K55 u47 y3 y5 v48
          else
            if (s4_ra u 13 y6) ≤ (r38 + (s4_ra u 5 (y6 / (2 : Int32)))) then
              let v52 : Int32 := (y6 + (1 : Int32))
              K55 u y3 y5 v52
            else
              let u55 : S4 := s4_wa u 13 y6 (r38 + (s4_ra u 5 (y6 / (2 : Int32))))
              let u57 : S4 := s4_wa u55 14 y6 r38
              let v58 : Int32 := (y6 + (1 : Int32))
              K55 u57 y3 y5 v58
    else
      let v28 : Int32 := (y6 + (1 : Int32))
      K55 u y3 y5 v28
def mL_M_settle_55 (K40 : S4 → Int64 → Int32 → S4) : Nat → S4 → Int64 → Int32 → Int32 → S4
  | 0 => fun u _ _ _ => u
  | n + 1 => mB_M_settle_55 K40 (mL_M_settle_55 K40 n)
def mBq_M_settle_55 (Q40 : S4 → Int64 → Int32 → Prop) (Q55 : S4 → Int64 → Int32 → Int32 → Prop) (u : S4) (y3 : Int64) (y5 : Int32) (y6 : Int32) : Prop :=
  ((((2 : Int32) * (s4_i u 1)) ≤ y6 →
    mLq_M_settle_198 Q40 64 u y3 (-1 : Int32) (0 : Int32)) ∧ (¬ ((2 : Int32) * (s4_i u 1)) ≤ y6 →
    let v24 : Int64 := ((y3 >>> ((y6).toInt64 &&& 63)) &&& (1 : Int64))
    (((lg_cmp v24 (0 : Int64)) = (0 : Int32) →
      mq_M_goesInto u y5 y6 ∧
      let r30 : Int32 := mp_M_goesInto u y5 y6
      ((r30 = (0 : Int32) →
        let v34 : Int32 := (y6 + (1 : Int32))
        Q55 u y3 y5 v34) ∧ (¬ r30 = (0 : Int32) →
        vp_in y5 24 ∧
        mq_M_begun3 u y5 (s4_ra u 13 y5) y6 ∧
        let r38 : Int32 := mp_M_begun3 u y5 (s4_ra u 13 y5) y6
        ((r38 < (0 : Int32) →
          let v40 : Int32 := (y6 + (1 : Int32))
          Q55 u y3 y5 v40) ∧ (¬ r38 < (0 : Int32) →
          vp_in y6 24 ∧
          (((s4_ra u 13 y6) < (0 : Int32) →
            vp_in (y6 / (2 : Int32)) 12 ∧
            vp_in y6 24 ∧
            let u45 : S4 := s4_wa u 13 y6 (r38 + (s4_ra u 5 (y6 / (2 : Int32))))
            vp_in y6 24 ∧
            let u47 : S4 := s4_wa u45 14 y6 r38
            let v48 : Int32 := (y6 + (1 : Int32))
            Q55 u47 y3 y5 v48) ∧ (¬ (s4_ra u 13 y6) < (0 : Int32) →
            vp_in (y6 / (2 : Int32)) 12 ∧
            vp_in y6 24 ∧
            (((s4_ra u 13 y6) ≤ (r38 + (s4_ra u 5 (y6 / (2 : Int32)))) →
              let v52 : Int32 := (y6 + (1 : Int32))
              Q55 u y3 y5 v52) ∧ (¬ (s4_ra u 13 y6) ≤ (r38 + (s4_ra u 5 (y6 / (2 : Int32)))) →
              vp_in (y6 / (2 : Int32)) 12 ∧
              vp_in y6 24 ∧
              let u55 : S4 := s4_wa u 13 y6 (r38 + (s4_ra u 5 (y6 / (2 : Int32))))
              vp_in y6 24 ∧
              let u57 : S4 := s4_wa u55 14 y6 r38
              let v58 : Int32 := (y6 + (1 : Int32))
              Q55 u57 y3 y5 v58))))))))) ∧ (¬ (lg_cmp v24 (0 : Int64)) = (0 : Int32) →
      let v28 : Int32 := (y6 + (1 : Int32))
      Q55 u y3 y5 v28))))
def mLq_M_settle_55 (Q40 : S4 → Int64 → Int32 → Prop) : Nat → S4 → Int64 → Int32 → Int32 → Prop
  | 0 => fun _ _ _ _ => False
  | n + 1 => mBq_M_settle_55 Q40 (mLq_M_settle_55 Q40 n)
set_option maxHeartbeats 4000000 in
set_option maxRecDepth 100000 in
theorem ms_M_settle_55 (l : Launch) (D : va_G) (a : Nat → Nat) (k3 : K3) {p : Program} {e : Env} {s : State} {m : MethodId} {below : List Frame} {meth : Method} {c : Code} {A : Nat → Prop} (av : Array Value) (F : Fx p s m meth c av cX8_settle 9 none yX8_settle.cls (kX8_settle :: tbG) D vwCl (ty3 k3) nestW A) (P : S4) (K40 : S4 → Int64 → Int32 → S4) (Q40 : S4 → Int64 → Int32 → Prop) (hK40 : ∀ (u : S4) (y3 : Int64) (y5 : Int32) (H : Heap) (locs : List Loc) (ls : Array Slot), Q40 u y3 y5 → K40 u y3 y5 = P → wd D vwCl (mC a k3) A s.heap u H locs → lv_has ls 9 [(0, .ref (a 0)), (3, .long y3), (5, .int y5)] → W p l e rm_mM_settle s m av below meth c H locs 0 0 (QV below D vwCl (mC a k3) A av s P) (F0 m 40 ls [])) (K55 : S4 → Int64 → Int32 → Int32 → S4) (Q55 : S4 → Int64 → Int32 → Int32 → Prop) (hK55 : ∀ (u : S4) (y3 : Int64) (y5 : Int32) (y6 : Int32) (H : Heap) (locs : List Loc) (ls : Array Slot), Q55 u y3 y5 y6 → K55 u y3 y5 y6 = P → wd D vwCl (mC a k3) A s.heap u H locs → lv_has ls 9 [(0, .ref (a 0)), (3, .long y3), (5, .int y5), (6, .int y6)] → W p l e rm_mM_settle s m av below meth c H locs 0 0 (QV below D vwCl (mC a k3) A av s P) (F0 m 55 ls [])) : ∀ (u : S4) (y3 : Int64) (y5 : Int32) (y6 : Int32) (H : Heap) (locs : List Loc) (ls : Array Slot), mBq_M_settle_55 Q40 Q55 u y3 y5 y6 → mB_M_settle_55 K40 K55 u y3 y5 y6 = P → wd D vwCl (mC a k3) A s.heap u H locs → lv_has ls 9 [(0, .ref (a 0)), (3, .long y3), (5, .int y5), (6, .int y6)] → W p l e rm_mM_settle s m av below meth c H locs 0 0 (QV below D vwCl (mC a k3) A av s P) (F0 m 55 ls []) := by
  obtain ⟨hx, hb, hr, hml, hown, hts, hK, hN, hlocks, hA⟩ := id F
  have hown : s.vm.findClass RX8 = some m.cls := hown
  have htG : ∀ w ∈ tbG, w.before av s = true := fun w h => hts w (List.mem_cons_of_mem _ h)
  have f_85 := htG _ tb_518
  have f_57 := htG _ tb_534
  have f_26 := htG _ tb_521
  have f_60 := htG _ tb_535
  intro u y3 y5 y6 H locs ls hq hP hw hl
  refine lv_iload hx hb dX8_settle_55 (lv_at hl 3 rfl) ?_
  refine lv_iconst (v := 2) hx hb dX8_settle_57 (by decide) ?_
  refine lv_aload_n hx hb dX8_settle_58 rfl (lv_at hl 0 rfl) ?_
  refine va_get (D := D) (ci := 8) (v := .int (s4_i u 1)) (C := RX8) (T := TX8) (N := 28) hx hb htG in_8 hown hK hw.1 0 (mo_0 a k3 u) rfl 4 (by decide) f_85 (fun _ h9 => h9) rfl dX8_settle_59 ?_
  refine lv_imul hx hb dX8_settle_62 ?_
  refine lv_icmp_ge (tgt := 192) hx hb dX8_settle_63 (by decide) (fun c6 => ?_) (fun c6 => ?_)
  · have hP := (if_pos c6).symm.trans hP
    have hq := hq.1 c6
    refine lv_iconst (v := -1) hx hb dX8_settle_192 (by decide) ?_
    refine lv_istore (lv' := [(5, .int (-1 : Int32)), (0, .ref (a 0)), (3, .long y3), (6, .int y6)]) hx hb dX8_settle_193 hl (by decide) rfl (fun ls hl => ?_)
    refine lv_iconst (v := 0) hx hb dX8_settle_195 (by decide) ?_
    refine lv_istore (lv' := [(6, .int (0 : Int32)), (5, .int (-1 : Int32)), (0, .ref (a 0)), (3, .long y3)]) hx hb dX8_settle_196 hl (by decide) rfl (fun ls hl => ?_)
    exact mw_M_settle_198 l D a k3 av F P K40 Q40 hK40 64 u y3 (-1 : Int32) (0 : Int32) H locs ls hq hP hw (lv_sub hl [2, 3, 1, 0] rfl)
  · have hP := (if_neg c6).symm.trans hP
    have hq := hq.2 c6
    refine lv_lload_n hx hb dX8_settle_66 rfl (lv_at hl 1 rfl) ?_
    refine lv_iload hx hb dX8_settle_67 (lv_at hl 3 rfl) ?_
    refine lv_lshr hx hb dX8_settle_69 rfl ?_
    refine lv_lconst (v := 1) hx hb dX8_settle_70 (by decide) ?_
    refine lv_land hx hb dX8_settle_71 ?_
    refine lv_lconst (v := 0) hx hb dX8_settle_72 (by decide) ?_
    let v24 : Int64 := ((y3 >>> ((y6).toInt64 &&& 63)) &&& (1 : Int64))
    refine W.lcmp hx hb dX8_settle_73 ?_
    refine lv_if_ne (tgt := 92) hx hb dX8_settle_74 (by decide) (fun c25 => ?_) (fun c25 => ?_)
    · have hP := (if_neg c25).symm.trans hP
      have hq := hq.2 c25
      refine lv_iconst (v := 0) hx hb dX8_settle_92 (by decide) ?_
      refine lv_istore (lv' := [(7, .int (0 : Int32)), (0, .ref (a 0)), (3, .long y3), (5, .int y5), (6, .int y6)]) hx hb dX8_settle_93 hl (by decide) rfl (fun ls hl => ?_)
      refine lv_iload hx hb dX8_settle_95 (lv_at hl 0 rfl) ?_
      refine lv_if_eq (tgt := 118) hx hb dX8_settle_97 (by decide) (fun _ => ?_) (fun c26 => absurd (show (0 : Int32) = (0 : Int32) by decide) c26)
      refine lv_iconst (v := -1) hx hb dX8_settle_118 (by decide) ?_
      refine lv_istore (lv' := [(8, .int (-1 : Int32)), (7, .int (0 : Int32)), (0, .ref (a 0)), (3, .long y3), (5, .int y5), (6, .int y6)]) hx hb dX8_settle_119 hl (by decide) rfl (fun ls hl => ?_)
      refine lv_iload hx hb dX8_settle_121 (lv_at hl 0 rfl) ?_
      refine lv_if_lt (tgt := 186) hx hb dX8_settle_123 (by decide) (fun _ => ?_) (fun c27 => absurd (show (-1 : Int32) < (0 : Int32) by decide) c27)
      let v28 : Int32 := (y6 + (1 : Int32))
      refine lv_iinc (v := v28) (lv' := [(6, .int v28), (8, .int (-1 : Int32)), (7, .int (0 : Int32)), (0, .ref (a 0)), (3, .long y3), (5, .int y5)]) hx hb dX8_settle_186 hl (k := 5) rfl rfl (by decide) rfl (fun ls hl => ?_)
      refine lv_goto (tgt := 55) hx hb dX8_settle_189 (by decide) ?_
      exact hK55 u (y3) (y5) (v28) H locs ls hq hP hw (lv_sub hl [3, 4, 5, 0] rfl)
    · have hP := (if_pos c25).symm.trans hP
      have hq := hq.1 c25
      refine lv_aload_n hx hb dX8_settle_77 rfl (lv_at hl 0 rfl) ?_
      refine lv_iload hx hb dX8_settle_78 (lv_at hl 2 rfl) ?_
      refine lv_iload hx hb dX8_settle_80 (lv_at hl 3 rfl) ?_
      obtain ⟨h29, hq⟩ := hq
      let r30 : Int32 := mp_M_goesInto u y5 y6
      refine call_vir (rest := []) ⟨hx, hb, hml, hown, htG⟩ nestW_ok hK hN hA (mc_M_goesInto l D a k3 u y5 y6 h29) (cwV 2 htG (tb_V tb_659 tb_661 tb_13 tb_28 tb_662) rfl rfl rfl (by decide +kernel) ⟨Nat.le_of_ble_eq_true rfl, Nat.le_of_ble_eq_true rfl⟩) (ci := 8) rfl (mo_0 a k3 u) rfl hw rfl hl.1 rfl (Nat.le_of_ble_eq_true rfl) dX8_settle_82 ⟨Nat.zero_le _, Nat.zero_le _⟩ (fun H locs (hw : wd D vwCl (mC a k3) A s.heap u H locs) => ?_)
      refine lv_if_eq (tgt := 92) hx hb dX8_settle_85 (by decide) (fun c31 => ?_) (fun c31 => ?_)
      · have hP := (if_pos c31).symm.trans hP
        have hq := hq.1 c31
        refine lv_iconst (v := 0) hx hb dX8_settle_92 (by decide) ?_
        refine lv_istore (lv' := [(7, .int (0 : Int32)), (0, .ref (a 0)), (3, .long y3), (5, .int y5), (6, .int y6)]) hx hb dX8_settle_93 hl (by decide) rfl (fun ls hl => ?_)
        refine lv_iload hx hb dX8_settle_95 (lv_at hl 0 rfl) ?_
        refine lv_if_eq (tgt := 118) hx hb dX8_settle_97 (by decide) (fun _ => ?_) (fun c32 => absurd (show (0 : Int32) = (0 : Int32) by decide) c32)
        refine lv_iconst (v := -1) hx hb dX8_settle_118 (by decide) ?_
        refine lv_istore (lv' := [(8, .int (-1 : Int32)), (7, .int (0 : Int32)), (0, .ref (a 0)), (3, .long y3), (5, .int y5), (6, .int y6)]) hx hb dX8_settle_119 hl (by decide) rfl (fun ls hl => ?_)
        refine lv_iload hx hb dX8_settle_121 (lv_at hl 0 rfl) ?_
        refine lv_if_lt (tgt := 186) hx hb dX8_settle_123 (by decide) (fun _ => ?_) (fun c33 => absurd (show (-1 : Int32) < (0 : Int32) by decide) c33)
        let v34 : Int32 := (y6 + (1 : Int32))
        refine lv_iinc (v := v34) (lv' := [(6, .int v34), (8, .int (-1 : Int32)), (7, .int (0 : Int32)), (0, .ref (a 0)), (3, .long y3), (5, .int y5)]) hx hb dX8_settle_186 hl (k := 5) rfl rfl (by decide) rfl (fun ls hl => ?_)
        refine lv_goto (tgt := 55) hx hb dX8_settle_189 (by decide) ?_
        exact hK55 u (y3) (y5) (v34) H locs ls hq hP hw (lv_sub hl [3, 4, 5, 0] rfl)
      · have hP := (if_neg c31).symm.trans hP
        have hq := hq.2 c31
        refine lv_iconst (v := 1) hx hb dX8_settle_88 (by decide) ?_
        refine lv_goto (tgt := 93) hx hb dX8_settle_89 (by decide) ?_
        refine lv_istore (lv' := [(7, .int (1 : Int32)), (0, .ref (a 0)), (3, .long y3), (5, .int y5), (6, .int y6)]) hx hb dX8_settle_93 hl (by decide) rfl (fun ls hl => ?_)
        refine lv_iload hx hb dX8_settle_95 (lv_at hl 0 rfl) ?_
        refine lv_if_eq (tgt := 118) hx hb dX8_settle_97 (by decide) (fun c35 => absurd c35 (show ¬ (1 : Int32) = (0 : Int32) by decide)) (fun _ => ?_)
        refine lv_aload_n hx hb dX8_settle_100 rfl (lv_at hl 1 rfl) ?_
        refine lv_iload hx hb dX8_settle_101 (lv_at hl 3 rfl) ?_
        refine lv_aload_n hx hb dX8_settle_103 rfl (lv_at hl 1 rfl) ?_
        refine va_get (D := D) (ci := 8) (v := .ref (a 16)) (C := RX8) (T := TX8) (N := 28) hx hb htG in_8 hown hK hw.1 0 (mo_0 a k3 u) rfl 20 (by decide) f_57 (fun _ h9 => h9) rfl dX8_settle_104 ?_
        refine lv_iload hx hb dX8_settle_107 (lv_at hl 3 rfl) ?_
        obtain ⟨h36, hq⟩ := hq
        refine y_iald (t0 := 0) hx hb hK hw 13 (mo_16 a k3 u) rfl h36 dX8_settle_109 ?_
        refine lv_iload hx hb dX8_settle_110 (lv_at hl 4 rfl) ?_
        obtain ⟨h37, hq⟩ := hq
        let r38 : Int32 := mp_M_begun3 u y5 (s4_ra u 13 y5) y6
        refine call_vir (rest := []) ⟨hx, hb, hml, hown, htG⟩ nestW_ok hK hN hA (mc_M_begun3 l D a k3 u y5 (s4_ra u 13 y5) y6 h37) (cwV 3 htG (tb_V tb_675 tb_677 tb_17 tb_28 tb_678) rfl rfl rfl (by decide +kernel) ⟨Nat.le_of_ble_eq_true rfl, Nat.le_of_ble_eq_true rfl⟩) (ci := 8) rfl (mo_0 a k3 u) rfl hw rfl hl.1 rfl (Nat.le_of_ble_eq_true rfl) dX8_settle_112 ⟨Nat.zero_le _, Nat.zero_le _⟩ (fun H locs (hw : wd D vwCl (mC a k3) A s.heap u H locs) => ?_)
        refine lv_goto (tgt := 119) hx hb dX8_settle_115 (by decide) ?_
        refine lv_istore (lv' := [(8, .int r38), (7, .int (1 : Int32)), (0, .ref (a 0)), (3, .long y3), (5, .int y5), (6, .int y6)]) hx hb dX8_settle_119 hl (by decide) rfl (fun ls hl => ?_)
        refine lv_iload hx hb dX8_settle_121 (lv_at hl 0 rfl) ?_
        refine lv_if_lt (tgt := 186) hx hb dX8_settle_123 (by decide) (fun c39 => ?_) (fun c39 => ?_)
        · have hP := (if_pos c39).symm.trans hP
          have hq := hq.1 c39
          let v40 : Int32 := (y6 + (1 : Int32))
          refine lv_iinc (v := v40) (lv' := [(6, .int v40), (8, .int r38), (7, .int (1 : Int32)), (0, .ref (a 0)), (3, .long y3), (5, .int y5)]) hx hb dX8_settle_186 hl (k := 5) rfl rfl (by decide) rfl (fun ls hl => ?_)
          refine lv_goto (tgt := 55) hx hb dX8_settle_189 (by decide) ?_
          exact hK55 u (y3) (y5) (v40) H locs ls hq hP hw (lv_sub hl [3, 4, 5, 0] rfl)
        · have hP := (if_neg c39).symm.trans hP
          have hq := hq.2 c39
          refine lv_aload_n hx hb dX8_settle_126 rfl (lv_at hl 2 rfl) ?_
          refine va_get (D := D) (ci := 8) (v := .ref (a 16)) (C := RX8) (T := TX8) (N := 28) hx hb htG in_8 hown hK hw.1 0 (mo_0 a k3 u) rfl 20 (by decide) f_57 (fun _ h9 => h9) rfl dX8_settle_127 ?_
          refine lv_iload hx hb dX8_settle_130 (lv_at hl 5 rfl) ?_
          obtain ⟨h41, hq⟩ := hq
          refine y_iald (t0 := 0) hx hb hK hw 13 (mo_16 a k3 u) rfl h41 dX8_settle_132 ?_
          refine lv_if_lt (tgt := 158) hx hb dX8_settle_133 (by decide) (fun c42 => ?_) (fun c42 => ?_)
          · have hP := (if_pos c42).symm.trans hP
            have hq := hq.1 c42
            refine lv_aload_n hx hb dX8_settle_158 rfl (lv_at hl 2 rfl) ?_
            refine va_get (D := D) (ci := 8) (v := .ref (a 16)) (C := RX8) (T := TX8) (N := 28) hx hb htG in_8 hown hK hw.1 0 (mo_0 a k3 u) rfl 20 (by decide) f_57 (fun _ h9 => h9) rfl dX8_settle_159 ?_
            refine lv_iload hx hb dX8_settle_162 (lv_at hl 5 rfl) ?_
            refine lv_iload hx hb dX8_settle_164 (lv_at hl 0 rfl) ?_
            refine lv_aload_n hx hb dX8_settle_166 rfl (lv_at hl 2 rfl) ?_
            refine va_get (D := D) (ci := 8) (v := .ref (a 6)) (C := RX8) (T := TX8) (N := 28) hx hb htG in_8 hown hK hw.1 0 (mo_0 a k3 u) rfl 7 (by decide) f_26 (fun _ h9 => h9) rfl dX8_settle_167 ?_
            refine lv_iload hx hb dX8_settle_170 (lv_at hl 5 rfl) ?_
            refine lv_iconst (v := 2) hx hb dX8_settle_172 (by decide) ?_
            refine lv_idiv hx hb dX8_settle_173 (by decide) ?_
            obtain ⟨h43, hq⟩ := hq
            refine y_iald (t0 := 0) hx hb hK hw 5 (mo_6 a k3 u) rfl h43 dX8_settle_174 ?_
            refine lv_iadd hx hb dX8_settle_175 ?_
            obtain ⟨h44, hq⟩ := hq
            let u45 : S4 := s4_wa u 13 y6 (r38 + (s4_ra u 5 (y6 / (2 : Int32))))
            refine y_iast (t0 := 0) hx hb hK hw 13 (mo_16 a k3 u) (mq_16 a k3 u) rfl h44 dX8_settle_176 (fun H locs (hw : wd D vwCl (mC a k3) A s.heap u45 H locs) => ?_)
            refine lv_aload_n hx hb dX8_settle_177 rfl (lv_at hl 2 rfl) ?_
            refine va_get (D := D) (ci := 8) (v := .ref (a 17)) (C := RX8) (T := TX8) (N := 28) hx hb htG in_8 hown hK hw.1 0 (mo_0 a k3 u45) rfl 21 (by decide) f_60 (fun _ h9 => h9) rfl dX8_settle_178 ?_
            refine lv_iload hx hb dX8_settle_181 (lv_at hl 5 rfl) ?_
            refine lv_iload hx hb dX8_settle_183 (lv_at hl 0 rfl) ?_
            obtain ⟨h46, hq⟩ := hq
            let u47 : S4 := s4_wa u45 14 y6 r38
            refine y_iast (t0 := 0) hx hb hK hw 14 (mo_17 a k3 u45) (mq_17 a k3 u45) rfl h46 dX8_settle_185 (fun H locs (hw : wd D vwCl (mC a k3) A s.heap u47 H locs) => ?_)
            let v48 : Int32 := (y6 + (1 : Int32))
            refine lv_iinc (v := v48) (lv' := [(6, .int v48), (8, .int r38), (7, .int (1 : Int32)), (0, .ref (a 0)), (3, .long y3), (5, .int y5)]) hx hb dX8_settle_186 hl (k := 5) rfl rfl (by decide) rfl (fun ls hl => ?_)
            refine lv_goto (tgt := 55) hx hb dX8_settle_189 (by decide) ?_
            exact hK55 u47 (y3) (y5) (v48) H locs ls hq hP hw (lv_sub hl [3, 4, 5, 0] rfl)
          · have hP := (if_neg c42).symm.trans hP
            have hq := hq.2 c42
            refine lv_iload hx hb dX8_settle_136 (lv_at hl 0 rfl) ?_
            refine lv_aload_n hx hb dX8_settle_138 rfl (lv_at hl 2 rfl) ?_
            refine va_get (D := D) (ci := 8) (v := .ref (a 6)) (C := RX8) (T := TX8) (N := 28) hx hb htG in_8 hown hK hw.1 0 (mo_0 a k3 u) rfl 7 (by decide) f_26 (fun _ h9 => h9) rfl dX8_settle_139 ?_
            refine lv_iload hx hb dX8_settle_142 (lv_at hl 5 rfl) ?_
            refine lv_iconst (v := 2) hx hb dX8_settle_144 (by decide) ?_
            refine lv_idiv hx hb dX8_settle_145 (by decide) ?_
            obtain ⟨h49, hq⟩ := hq
            refine y_iald (t0 := 0) hx hb hK hw 5 (mo_6 a k3 u) rfl h49 dX8_settle_146 ?_
            refine lv_iadd hx hb dX8_settle_147 ?_
            refine lv_aload_n hx hb dX8_settle_148 rfl (lv_at hl 2 rfl) ?_
            refine va_get (D := D) (ci := 8) (v := .ref (a 16)) (C := RX8) (T := TX8) (N := 28) hx hb htG in_8 hown hK hw.1 0 (mo_0 a k3 u) rfl 20 (by decide) f_57 (fun _ h9 => h9) rfl dX8_settle_149 ?_
            refine lv_iload hx hb dX8_settle_152 (lv_at hl 5 rfl) ?_
            obtain ⟨h50, hq⟩ := hq
            refine y_iald (t0 := 0) hx hb hK hw 13 (mo_16 a k3 u) rfl h50 dX8_settle_154 ?_
            refine lv_icmp_ge (tgt := 186) hx hb dX8_settle_155 (by decide) (fun c51 => ?_) (fun c51 => ?_)
            · have hP := (if_pos c51).symm.trans hP
              have hq := hq.1 c51
              let v52 : Int32 := (y6 + (1 : Int32))
              refine lv_iinc (v := v52) (lv' := [(6, .int v52), (8, .int r38), (7, .int (1 : Int32)), (0, .ref (a 0)), (3, .long y3), (5, .int y5)]) hx hb dX8_settle_186 hl (k := 5) rfl rfl (by decide) rfl (fun ls hl => ?_)
              refine lv_goto (tgt := 55) hx hb dX8_settle_189 (by decide) ?_
              exact hK55 u (y3) (y5) (v52) H locs ls hq hP hw (lv_sub hl [3, 4, 5, 0] rfl)
            · have hP := (if_neg c51).symm.trans hP
              have hq := hq.2 c51
              refine lv_aload_n hx hb dX8_settle_158 rfl (lv_at hl 2 rfl) ?_
              refine va_get (D := D) (ci := 8) (v := .ref (a 16)) (C := RX8) (T := TX8) (N := 28) hx hb htG in_8 hown hK hw.1 0 (mo_0 a k3 u) rfl 20 (by decide) f_57 (fun _ h9 => h9) rfl dX8_settle_159 ?_
              refine lv_iload hx hb dX8_settle_162 (lv_at hl 5 rfl) ?_
              refine lv_iload hx hb dX8_settle_164 (lv_at hl 0 rfl) ?_
              refine lv_aload_n hx hb dX8_settle_166 rfl (lv_at hl 2 rfl) ?_
              refine va_get (D := D) (ci := 8) (v := .ref (a 6)) (C := RX8) (T := TX8) (N := 28) hx hb htG in_8 hown hK hw.1 0 (mo_0 a k3 u) rfl 7 (by decide) f_26 (fun _ h9 => h9) rfl dX8_settle_167 ?_
              refine lv_iload hx hb dX8_settle_170 (lv_at hl 5 rfl) ?_
              refine lv_iconst (v := 2) hx hb dX8_settle_172 (by decide) ?_
              refine lv_idiv hx hb dX8_settle_173 (by decide) ?_
              obtain ⟨h53, hq⟩ := hq
              refine y_iald (t0 := 0) hx hb hK hw 5 (mo_6 a k3 u) rfl h53 dX8_settle_174 ?_
              refine lv_iadd hx hb dX8_settle_175 ?_
              obtain ⟨h54, hq⟩ := hq
              let u55 : S4 := s4_wa u 13 y6 (r38 + (s4_ra u 5 (y6 / (2 : Int32))))
              refine y_iast (t0 := 0) hx hb hK hw 13 (mo_16 a k3 u) (mq_16 a k3 u) rfl h54 dX8_settle_176 (fun H locs (hw : wd D vwCl (mC a k3) A s.heap u55 H locs) => ?_)
              refine lv_aload_n hx hb dX8_settle_177 rfl (lv_at hl 2 rfl) ?_
              refine va_get (D := D) (ci := 8) (v := .ref (a 17)) (C := RX8) (T := TX8) (N := 28) hx hb htG in_8 hown hK hw.1 0 (mo_0 a k3 u55) rfl 21 (by decide) f_60 (fun _ h9 => h9) rfl dX8_settle_178 ?_
              refine lv_iload hx hb dX8_settle_181 (lv_at hl 5 rfl) ?_
              refine lv_iload hx hb dX8_settle_183 (lv_at hl 0 rfl) ?_
              obtain ⟨h56, hq⟩ := hq
              let u57 : S4 := s4_wa u55 14 y6 r38
              refine y_iast (t0 := 0) hx hb hK hw 14 (mo_17 a k3 u55) (mq_17 a k3 u55) rfl h56 dX8_settle_185 (fun H locs (hw : wd D vwCl (mC a k3) A s.heap u57 H locs) => ?_)
              let v58 : Int32 := (y6 + (1 : Int32))
              refine lv_iinc (v := v58) (lv' := [(6, .int v58), (8, .int r38), (7, .int (1 : Int32)), (0, .ref (a 0)), (3, .long y3), (5, .int y5)]) hx hb dX8_settle_186 hl (k := 5) rfl rfl (by decide) rfl (fun ls hl => ?_)
              refine lv_goto (tgt := 55) hx hb dX8_settle_189 (by decide) ?_
              exact hK55 u57 (y3) (y5) (v58) H locs ls hq hP hw (lv_sub hl [3, 4, 5, 0] rfl)
set_option maxHeartbeats 4000000 in
set_option maxRecDepth 100000 in
theorem mw_M_settle_55 (l : Launch) (D : va_G) (a : Nat → Nat) (k3 : K3) {p : Program} {e : Env} {s : State} {m : MethodId} {below : List Frame} {meth : Method} {c : Code} {A : Nat → Prop} (av : Array Value) (F : Fx p s m meth c av cX8_settle 9 none yX8_settle.cls (kX8_settle :: tbG) D vwCl (ty3 k3) nestW A) (P : S4) (K40 : S4 → Int64 → Int32 → S4) (Q40 : S4 → Int64 → Int32 → Prop) (hK40 : ∀ (u : S4) (y3 : Int64) (y5 : Int32) (H : Heap) (locs : List Loc) (ls : Array Slot), Q40 u y3 y5 → K40 u y3 y5 = P → wd D vwCl (mC a k3) A s.heap u H locs → lv_has ls 9 [(0, .ref (a 0)), (3, .long y3), (5, .int y5)] → W p l e rm_mM_settle s m av below meth c H locs 0 0 (QV below D vwCl (mC a k3) A av s P) (F0 m 40 ls [])) : ∀ (n : Nat), ∀ (u : S4) (y3 : Int64) (y5 : Int32) (y6 : Int32) (H : Heap) (locs : List Loc) (ls : Array Slot), mLq_M_settle_55 Q40 n u y3 y5 y6 → mL_M_settle_55 K40 n u y3 y5 y6 = P → wd D vwCl (mC a k3) A s.heap u H locs → lv_has ls 9 [(0, .ref (a 0)), (3, .long y3), (5, .int y5), (6, .int y6)] → W p l e rm_mM_settle s m av below meth c H locs 0 0 (QV below D vwCl (mC a k3) A av s P) (F0 m 55 ls []) := by
  intro n
  induction n with
  | zero => intro u y3 y5 y6 H locs ls hq hP hw hl; exact hq.elim
  | succ n ih => intro u y3 y5 y6 H locs ls hq hP hw hl; exact ms_M_settle_55 l D a k3 av F P K40 Q40 hK40 (mL_M_settle_55 K40 n) (mLq_M_settle_55 Q40 n) ih u y3 y5 y6 H locs ls hq hP hw hl
def mB_M_settle_40 (K40 : S4 → Int64 → Int32 → S4) (u : S4) (y3 : Int64) (y5 : Int32) : S4 :=
  if y5 < (0 : Int32) then
    u
  else
    let v5 : Int64 := (y3 ||| ((1 : Int64) <<< ((y5).toInt64 &&& 63)))
    mL_M_settle_55 K40 64 u v5 y5 (0 : Int32)
def mL_M_settle_40 : Nat → S4 → Int64 → Int32 → S4
  | 0 => fun u _ _ => u
  | n + 1 => mB_M_settle_40 (mL_M_settle_40 n)
def mBq_M_settle_40 (Q40 : S4 → Int64 → Int32 → Prop) (u : S4) (y3 : Int64) (y5 : Int32) : Prop :=
  (¬ y5 < (0 : Int32) →
    let v5 : Int64 := (y3 ||| ((1 : Int64) <<< ((y5).toInt64 &&& 63)))
    mLq_M_settle_55 Q40 64 u v5 y5 (0 : Int32))
def mLq_M_settle_40 : Nat → S4 → Int64 → Int32 → Prop
  | 0 => fun _ _ _ => False
  | n + 1 => mBq_M_settle_40 (mLq_M_settle_40 n)
set_option maxHeartbeats 4000000 in
set_option maxRecDepth 100000 in
theorem ms_M_settle_40 (l : Launch) (D : va_G) (a : Nat → Nat) (k3 : K3) {p : Program} {e : Env} {s : State} {m : MethodId} {below : List Frame} {meth : Method} {c : Code} {A : Nat → Prop} (av : Array Value) (F : Fx p s m meth c av cX8_settle 9 none yX8_settle.cls (kX8_settle :: tbG) D vwCl (ty3 k3) nestW A) (P : S4) (K40 : S4 → Int64 → Int32 → S4) (Q40 : S4 → Int64 → Int32 → Prop) (hK40 : ∀ (u : S4) (y3 : Int64) (y5 : Int32) (H : Heap) (locs : List Loc) (ls : Array Slot), Q40 u y3 y5 → K40 u y3 y5 = P → wd D vwCl (mC a k3) A s.heap u H locs → lv_has ls 9 [(0, .ref (a 0)), (3, .long y3), (5, .int y5)] → W p l e rm_mM_settle s m av below meth c H locs 0 0 (QV below D vwCl (mC a k3) A av s P) (F0 m 40 ls [])) : ∀ (u : S4) (y3 : Int64) (y5 : Int32) (H : Heap) (locs : List Loc) (ls : Array Slot), mBq_M_settle_40 Q40 u y3 y5 → mB_M_settle_40 K40 u y3 y5 = P → wd D vwCl (mC a k3) A s.heap u H locs → lv_has ls 9 [(0, .ref (a 0)), (3, .long y3), (5, .int y5)] → W p l e rm_mM_settle s m av below meth c H locs 0 0 (QV below D vwCl (mC a k3) A av s P) (F0 m 40 ls []) := by
  obtain ⟨hx, hb, hr, hml, hown, hts, hK, hN, hlocks, hA⟩ := id F
  have hown : s.vm.findClass RX8 = some m.cls := hown
  have htG : ∀ w ∈ tbG, w.before av s = true := fun w h => hts w (List.mem_cons_of_mem _ h)
  intro u y3 y5 H locs ls hq hP hw hl
  refine lv_iload hx hb dX8_settle_40 (lv_at hl 2 rfl) ?_
  refine lv_if_lt (tgt := 282) hx hb dX8_settle_42 (by decide) (fun c4 => ?_) (fun c4 => ?_)
  · have hP := (if_pos c4).symm.trans hP
    exact ret_v hx hb hr hlocks hw dX8_settle_282 hP
  · have hP := (if_neg c4).symm.trans hP
    have hq := hq c4
    refine lv_lload_n hx hb dX8_settle_45 rfl (lv_at hl 1 rfl) ?_
    refine lv_lconst (v := 1) hx hb dX8_settle_46 (by decide) ?_
    refine lv_iload hx hb dX8_settle_47 (lv_at hl 2 rfl) ?_
    refine lv_lshl hx hb dX8_settle_49 rfl ?_
    refine lv_lor hx hb dX8_settle_50 ?_
    let v5 : Int64 := (y3 ||| ((1 : Int64) <<< ((y5).toInt64 &&& 63)))
    refine lv_lstore_n (lv' := [(3, .long v5), (0, .ref (a 0)), (5, .int y5)]) hx hb dX8_settle_51 rfl hl (by decide) rfl (fun ls hl => ?_)
    refine lv_iconst (v := 0) hx hb dX8_settle_52 (by decide) ?_
    refine lv_istore (lv' := [(6, .int (0 : Int32)), (3, .long v5), (0, .ref (a 0)), (5, .int y5)]) hx hb dX8_settle_53 hl (by decide) rfl (fun ls hl => ?_)
    exact mw_M_settle_55 l D a k3 av F P K40 Q40 hK40 64 u v5 y5 (0 : Int32) H locs ls hq hP hw (lv_sub hl [2, 1, 3, 0] rfl)
set_option maxHeartbeats 4000000 in
set_option maxRecDepth 100000 in
theorem mw_M_settle_40 (l : Launch) (D : va_G) (a : Nat → Nat) (k3 : K3) {p : Program} {e : Env} {s : State} {m : MethodId} {below : List Frame} {meth : Method} {c : Code} {A : Nat → Prop} (av : Array Value) (F : Fx p s m meth c av cX8_settle 9 none yX8_settle.cls (kX8_settle :: tbG) D vwCl (ty3 k3) nestW A) (P : S4) : ∀ (n : Nat), ∀ (u : S4) (y3 : Int64) (y5 : Int32) (H : Heap) (locs : List Loc) (ls : Array Slot), mLq_M_settle_40 n u y3 y5 → mL_M_settle_40 n u y3 y5 = P → wd D vwCl (mC a k3) A s.heap u H locs → lv_has ls 9 [(0, .ref (a 0)), (3, .long y3), (5, .int y5)] → W p l e rm_mM_settle s m av below meth c H locs 0 0 (QV below D vwCl (mC a k3) A av s P) (F0 m 40 ls []) := by
  intro n
  induction n with
  | zero => intro u y3 y5 H locs ls hq hP hw hl; exact hq.elim
  | succ n ih => intro u y3 y5 H locs ls hq hP hw hl; exact ms_M_settle_40 l D a k3 av F P (mL_M_settle_40 n) (mLq_M_settle_40 n) ih u y3 y5 H locs ls hq hP hw hl
def mB_M_settle_2 (K2 : S4 → Int32 → Int32 → Int32 → S4) (u : S4) (y1 : Int32) (y2 : Int32) (y3 : Int32) : S4 :=
  if (24 : Int32) ≤ y3 then
    let u3 : S4 := s4_wa u 13 y1 y2
    mL_M_settle_40 64 u3 (0 : Int64) y1
  else
    let u60 : S4 := s4_wa u 13 y3 (-1 : Int32)
    let u62 : S4 := s4_wa u60 14 y3 (-1 : Int32)
    let v63 : Int32 := (y3 + (1 : Int32))
    K2 u62 y1 y2 v63
def mL_M_settle_2 : Nat → S4 → Int32 → Int32 → Int32 → S4
  | 0 => fun u _ _ _ => u
  | n + 1 => mB_M_settle_2 (mL_M_settle_2 n)
def mBq_M_settle_2 (Q2 : S4 → Int32 → Int32 → Int32 → Prop) (u : S4) (y1 : Int32) (y2 : Int32) (y3 : Int32) : Prop :=
  (((24 : Int32) ≤ y3 →
    vp_in y1 24 ∧
    let u3 : S4 := s4_wa u 13 y1 y2
    mLq_M_settle_40 64 u3 (0 : Int64) y1) ∧ (¬ (24 : Int32) ≤ y3 →
    vp_in y3 24 ∧
    let u60 : S4 := s4_wa u 13 y3 (-1 : Int32)
    vp_in y3 24 ∧
    let u62 : S4 := s4_wa u60 14 y3 (-1 : Int32)
    let v63 : Int32 := (y3 + (1 : Int32))
    Q2 u62 y1 y2 v63))
def mLq_M_settle_2 : Nat → S4 → Int32 → Int32 → Int32 → Prop
  | 0 => fun _ _ _ _ => False
  | n + 1 => mBq_M_settle_2 (mLq_M_settle_2 n)
set_option maxHeartbeats 4000000 in
set_option maxRecDepth 100000 in
theorem ms_M_settle_2 (l : Launch) (D : va_G) (a : Nat → Nat) (k3 : K3) {p : Program} {e : Env} {s : State} {m : MethodId} {below : List Frame} {meth : Method} {c : Code} {A : Nat → Prop} (av : Array Value) (F : Fx p s m meth c av cX8_settle 9 none yX8_settle.cls (kX8_settle :: tbG) D vwCl (ty3 k3) nestW A) (P : S4) (K2 : S4 → Int32 → Int32 → Int32 → S4) (Q2 : S4 → Int32 → Int32 → Int32 → Prop) (hK2 : ∀ (u : S4) (y1 : Int32) (y2 : Int32) (y3 : Int32) (H : Heap) (locs : List Loc) (ls : Array Slot), Q2 u y1 y2 y3 → K2 u y1 y2 y3 = P → wd D vwCl (mC a k3) A s.heap u H locs → lv_has ls 9 [(0, .ref (a 0)), (1, .int y1), (2, .int y2), (3, .int y3)] → W p l e rm_mM_settle s m av below meth c H locs 0 0 (QV below D vwCl (mC a k3) A av s P) (F0 m 2 ls [])) : ∀ (u : S4) (y1 : Int32) (y2 : Int32) (y3 : Int32) (H : Heap) (locs : List Loc) (ls : Array Slot), mBq_M_settle_2 Q2 u y1 y2 y3 → mB_M_settle_2 K2 u y1 y2 y3 = P → wd D vwCl (mC a k3) A s.heap u H locs → lv_has ls 9 [(0, .ref (a 0)), (1, .int y1), (2, .int y2), (3, .int y3)] → W p l e rm_mM_settle s m av below meth c H locs 0 0 (QV below D vwCl (mC a k3) A av s P) (F0 m 2 ls []) := by
  obtain ⟨hx, hb, hr, hml, hown, hts, hK, hN, hlocks, hA⟩ := id F
  have hown : s.vm.findClass RX8 = some m.cls := hown
  have htG : ∀ w ∈ tbG, w.before av s = true := fun w h => hts w (List.mem_cons_of_mem _ h)
  have f_57 := htG _ tb_534
  have f_60 := htG _ tb_535
  intro u y1 y2 y3 H locs ls hq hP hw hl
  refine lv_iload_n hx hb dX8_settle_2 rfl (lv_at hl 3 rfl) ?_
  refine lv_bipush (v := 24) hx hb dX8_settle_3 (by decide) ?_
  refine lv_icmp_ge (tgt := 28) hx hb dX8_settle_5 (by decide) (fun c1 => ?_) (fun c1 => ?_)
  · have hP := (if_pos c1).symm.trans hP
    have hq := hq.1 c1
    refine lv_aload_n hx hb dX8_settle_28 rfl (lv_at hl 0 rfl) ?_
    refine va_get (D := D) (ci := 8) (v := .ref (a 16)) (C := RX8) (T := TX8) (N := 28) hx hb htG in_8 hown hK hw.1 0 (mo_0 a k3 u) rfl 20 (by decide) f_57 (fun _ h9 => h9) rfl dX8_settle_29 ?_
    refine lv_iload_n hx hb dX8_settle_32 rfl (lv_at hl 1 rfl) ?_
    refine lv_iload_n hx hb dX8_settle_33 rfl (lv_at hl 2 rfl) ?_
    obtain ⟨h2, hq⟩ := hq
    let u3 : S4 := s4_wa u 13 y1 y2
    refine y_iast (t0 := 0) hx hb hK hw 13 (mo_16 a k3 u) (mq_16 a k3 u) rfl h2 dX8_settle_34 (fun H locs (hw : wd D vwCl (mC a k3) A s.heap u3 H locs) => ?_)
    refine lv_lconst (v := 0) hx hb dX8_settle_35 (by decide) ?_
    refine lv_lstore_n (lv' := [(3, .long (0 : Int64)), (0, .ref (a 0)), (1, .int y1), (2, .int y2)]) hx hb dX8_settle_36 rfl hl (by decide) rfl (fun ls hl => ?_)
    refine lv_iload_n hx hb dX8_settle_37 rfl (lv_at hl 2 rfl) ?_
    refine lv_istore (lv' := [(5, .int y1), (3, .long (0 : Int64)), (0, .ref (a 0)), (1, .int y1), (2, .int y2)]) hx hb dX8_settle_38 hl (by decide) rfl (fun ls hl => ?_)
    exact mw_M_settle_40 l D a k3 av F P 64 u3 (0 : Int64) y1 H locs ls hq hP hw (lv_sub hl [2, 1, 0] rfl)
  · have hP := (if_neg c1).symm.trans hP
    have hq := hq.2 c1
    refine lv_aload_n hx hb dX8_settle_8 rfl (lv_at hl 0 rfl) ?_
    refine va_get (D := D) (ci := 8) (v := .ref (a 16)) (C := RX8) (T := TX8) (N := 28) hx hb htG in_8 hown hK hw.1 0 (mo_0 a k3 u) rfl 20 (by decide) f_57 (fun _ h9 => h9) rfl dX8_settle_9 ?_
    refine lv_iload_n hx hb dX8_settle_12 rfl (lv_at hl 3 rfl) ?_
    refine lv_iconst (v := -1) hx hb dX8_settle_13 (by decide) ?_
    obtain ⟨h59, hq⟩ := hq
    let u60 : S4 := s4_wa u 13 y3 (-1 : Int32)
    refine y_iast (t0 := 0) hx hb hK hw 13 (mo_16 a k3 u) (mq_16 a k3 u) rfl h59 dX8_settle_14 (fun H locs (hw : wd D vwCl (mC a k3) A s.heap u60 H locs) => ?_)
    refine lv_aload_n hx hb dX8_settle_15 rfl (lv_at hl 0 rfl) ?_
    refine va_get (D := D) (ci := 8) (v := .ref (a 17)) (C := RX8) (T := TX8) (N := 28) hx hb htG in_8 hown hK hw.1 0 (mo_0 a k3 u60) rfl 21 (by decide) f_60 (fun _ h9 => h9) rfl dX8_settle_16 ?_
    refine lv_iload_n hx hb dX8_settle_19 rfl (lv_at hl 3 rfl) ?_
    refine lv_iconst (v := -1) hx hb dX8_settle_20 (by decide) ?_
    obtain ⟨h61, hq⟩ := hq
    let u62 : S4 := s4_wa u60 14 y3 (-1 : Int32)
    refine y_iast (t0 := 0) hx hb hK hw 14 (mo_17 a k3 u60) (mq_17 a k3 u60) rfl h61 dX8_settle_21 (fun H locs (hw : wd D vwCl (mC a k3) A s.heap u62 H locs) => ?_)
    let v63 : Int32 := (y3 + (1 : Int32))
    refine lv_iinc (v := v63) (lv' := [(3, .int v63), (0, .ref (a 0)), (1, .int y1), (2, .int y2)]) hx hb dX8_settle_22 hl (k := 3) rfl rfl (by decide) rfl (fun ls hl => ?_)
    refine lv_goto (tgt := 2) hx hb dX8_settle_25 (by decide) ?_
    exact hK2 u62 (y1) (y2) (v63) H locs ls hq hP hw (lv_sub hl [1, 2, 3, 0] rfl)
set_option maxHeartbeats 4000000 in
set_option maxRecDepth 100000 in
theorem mw_M_settle_2 (l : Launch) (D : va_G) (a : Nat → Nat) (k3 : K3) {p : Program} {e : Env} {s : State} {m : MethodId} {below : List Frame} {meth : Method} {c : Code} {A : Nat → Prop} (av : Array Value) (F : Fx p s m meth c av cX8_settle 9 none yX8_settle.cls (kX8_settle :: tbG) D vwCl (ty3 k3) nestW A) (P : S4) : ∀ (n : Nat), ∀ (u : S4) (y1 : Int32) (y2 : Int32) (y3 : Int32) (H : Heap) (locs : List Loc) (ls : Array Slot), mLq_M_settle_2 n u y1 y2 y3 → mL_M_settle_2 n u y1 y2 y3 = P → wd D vwCl (mC a k3) A s.heap u H locs → lv_has ls 9 [(0, .ref (a 0)), (1, .int y1), (2, .int y2), (3, .int y3)] → W p l e rm_mM_settle s m av below meth c H locs 0 0 (QV below D vwCl (mC a k3) A av s P) (F0 m 2 ls []) := by
  intro n
  induction n with
  | zero => intro u y1 y2 y3 H locs ls hq hP hw hl; exact hq.elim
  | succ n ih => intro u y1 y2 y3 H locs ls hq hP hw hl; exact ms_M_settle_2 l D a k3 av F P (mL_M_settle_2 n) (mLq_M_settle_2 n) ih u y1 y2 y3 H locs ls hq hP hw hl
def mp_M_settle (u : S4) (x1 : Int32) (x2 : Int32) : S4 :=
  mL_M_settle_2 64 u x1 x2 (0 : Int32)
def mq_M_settle (u : S4) (x1 : Int32) (x2 : Int32) : Prop :=
  mLq_M_settle_2 64 u x1 x2 (0 : Int32)
set_option maxHeartbeats 4000000 in
set_option maxRecDepth 100000 in
theorem mc_M_settle (l : Launch) (D : va_G) (a : Nat → Nat) (k3 : K3) (u : S4) (x1 : Int32) (x2 : Int32) (hq : mq_M_settle u x1 x2) : MV l D vwCl (ty3 k3) nestW (mC a k3) yX8_settle (kX8_settle :: tbG) rm_mM_settle [.ref (a 0), .int x1, .int x2] u (mp_M_settle u x1 x2) := by
  refine mkV (cc := cX8_settle) (maxL := 9) (ret := none) (by decide) rfl (Nat.le_of_ble_eq_true rfl) ?_
  intro p e s m below meth c A ls F hw hl
  generalize hav : ([.ref (a 0), .int x1, .int x2] : List Value).toArray = av at F ⊢
  have hl : lv_has ls 9 [(0, .ref (a 0)), (1, .int x1), (2, .int x2)] := hl
  obtain ⟨hx, hb, hr, hml, hown, hts, hK, hN, hlocks, hA⟩ := id F
  have hown : s.vm.findClass RX8 = some m.cls := hown
  have htG : ∀ w ∈ tbG, w.before av s = true := fun w h => hts w (List.mem_cons_of_mem _ h)
  have hgo : ∀ P, mp_M_settle u x1 x2 = P → ∀ (H : Heap) (locs : List Loc), wd D vwCl (mC a k3) A s.heap u H locs → W p l e rm_mM_settle s m av below meth c H locs 0 0 (QV below D vwCl (mC a k3) A av s P) (F0 m 0 ls []) := by
    intro P hP H locs hw
    refine lv_iconst (v := 0) hx hb dX8_settle_0 (by decide) ?_
    refine lv_istore_n (lv' := [(3, .int (0 : Int32)), (0, .ref (a 0)), (1, .int x1), (2, .int x2)]) hx hb dX8_settle_1 rfl hl (by decide) rfl (fun ls hl => ?_)
    exact mw_M_settle_2 l D a k3 av F P 64 u x1 x2 (0 : Int32) H locs ls hq hP hw (lv_sub hl [1, 2, 3, 0] rfl)
  exact hgo _ rfl s.heap [] hw
theorem dX8_isStep_0 : decode cX8_isStep 0 = .ok (.aload_n 0, 1) := by decide +kernel
theorem dX8_isStep_1 : decode cX8_isStep 1 = .ok (.getfield 57, 3) := by decide +kernel
theorem dX8_isStep_4 : decode cX8_isStep 4 = .ok (.iload_n 1, 1) := by decide +kernel
theorem dX8_isStep_5 : decode cX8_isStep 5 = .ok (.iaload, 1) := by decide +kernel
theorem dX8_isStep_6 : decode cX8_isStep 6 = .ok (.ifCond .lt 55, 3) := by decide +kernel
theorem dX8_isStep_9 : decode cX8_isStep 9 = .ok (.aload_n 0, 1) := by decide +kernel
theorem dX8_isStep_10 : decode cX8_isStep 10 = .ok (.getfield 57, 3) := by decide +kernel
theorem dX8_isStep_13 : decode cX8_isStep 13 = .ok (.iload_n 2, 1) := by decide +kernel
theorem dX8_isStep_14 : decode cX8_isStep 14 = .ok (.iaload, 1) := by decide +kernel
theorem dX8_isStep_15 : decode cX8_isStep 15 = .ok (.ifCond .lt 46, 3) := by decide +kernel
theorem dX8_isStep_18 : decode cX8_isStep 18 = .ok (.aload_n 0, 1) := by decide +kernel
theorem dX8_isStep_19 : decode cX8_isStep 19 = .ok (.iload_n 1, 1) := by decide +kernel
theorem dX8_isStep_20 : decode cX8_isStep 20 = .ok (.iload_n 2, 1) := by decide +kernel
theorem dX8_isStep_21 : decode cX8_isStep 21 = .ok (.invokevirtual 130, 3) := by decide +kernel
theorem dX8_isStep_24 : decode cX8_isStep 24 = .ok (.ifCond .eq 37, 3) := by decide +kernel
theorem dX8_isStep_27 : decode cX8_isStep 27 = .ok (.aload_n 0, 1) := by decide +kernel
theorem dX8_isStep_28 : decode cX8_isStep 28 = .ok (.getfield 60, 3) := by decide +kernel
theorem dX8_isStep_31 : decode cX8_isStep 31 = .ok (.iload_n 2, 1) := by decide +kernel
theorem dX8_isStep_32 : decode cX8_isStep 32 = .ok (.iaload, 1) := by decide +kernel
theorem dX8_isStep_33 : decode cX8_isStep 33 = .ok (.ifCond .lt 28, 3) := by decide +kernel
theorem dX8_isStep_36 : decode cX8_isStep 36 = .ok (.aload_n 0, 1) := by decide +kernel
theorem dX8_isStep_37 : decode cX8_isStep 37 = .ok (.iload_n 1, 1) := by decide +kernel
theorem dX8_isStep_38 : decode cX8_isStep 38 = .ok (.aload_n 0, 1) := by decide +kernel
theorem dX8_isStep_39 : decode cX8_isStep 39 = .ok (.getfield 57, 3) := by decide +kernel
theorem dX8_isStep_42 : decode cX8_isStep 42 = .ok (.iload_n 1, 1) := by decide +kernel
theorem dX8_isStep_43 : decode cX8_isStep 43 = .ok (.iaload, 1) := by decide +kernel
theorem dX8_isStep_44 : decode cX8_isStep 44 = .ok (.iload_n 2, 1) := by decide +kernel
theorem dX8_isStep_45 : decode cX8_isStep 45 = .ok (.invokevirtual 134, 3) := by decide +kernel
theorem dX8_isStep_48 : decode cX8_isStep 48 = .ok (.aload_n 0, 1) := by decide +kernel
theorem dX8_isStep_49 : decode cX8_isStep 49 = .ok (.getfield 60, 3) := by decide +kernel
theorem dX8_isStep_52 : decode cX8_isStep 52 = .ok (.iload_n 2, 1) := by decide +kernel
theorem dX8_isStep_53 : decode cX8_isStep 53 = .ok (.iaload, 1) := by decide +kernel
theorem dX8_isStep_54 : decode cX8_isStep 54 = .ok (.if_icmp .ne 7, 3) := by decide +kernel
theorem dX8_isStep_57 : decode cX8_isStep 57 = .ok (.iconst 1, 1) := by decide +kernel
theorem dX8_isStep_58 : decode cX8_isStep 58 = .ok (.goto 4, 3) := by decide +kernel
theorem dX8_isStep_61 : decode cX8_isStep 61 = .ok (.iconst 0, 1) := by decide +kernel
theorem dX8_isStep_62 : decode cX8_isStep 62 = .ok (.ireturn, 1) := by decide +kernel
abbrev rm_mM_isStep : Room := { frames := 2, cells := 0, slots := 0, locals := 45 }
def mp_M_isStep (u : S4) (x1 : Int32) (x2 : Int32) : Int32 :=
  if (s4_ra u 13 x1) < (0 : Int32) then
    (0 : Int32)
  else
    if (s4_ra u 13 x2) < (0 : Int32) then
      (0 : Int32)
    else
      let r6 : Int32 := mp_M_goesInto u x1 x2
      if r6 = (0 : Int32) then
        (0 : Int32)
      else
        if (s4_ra u 14 x2) < (0 : Int32) then
          (0 : Int32)
        else
          let r12 : Int32 := mp_M_begun3 u x1 (s4_ra u 13 x1) x2
          if r12 = (s4_ra u 14 x2) then
            (1 : Int32)
          else
            (0 : Int32)
def mq_M_isStep (u : S4) (x1 : Int32) (x2 : Int32) : Prop :=
  vp_in x1 24 ∧
  (¬ (s4_ra u 13 x1) < (0 : Int32) →
    vp_in x2 24 ∧
    (¬ (s4_ra u 13 x2) < (0 : Int32) →
      mq_M_goesInto u x1 x2 ∧
      let r6 : Int32 := mp_M_goesInto u x1 x2
      (¬ r6 = (0 : Int32) →
        vp_in x2 24 ∧
        (¬ (s4_ra u 14 x2) < (0 : Int32) →
          vp_in x1 24 ∧
          mq_M_begun3 u x1 (s4_ra u 13 x1) x2 ∧
          let r12 : Int32 := mp_M_begun3 u x1 (s4_ra u 13 x1) x2
          vp_in x2 24))))
set_option maxHeartbeats 4000000 in
set_option maxRecDepth 100000 in
theorem mc_M_isStep (l : Launch) (D : va_G) (a : Nat → Nat) (k3 : K3) (u : S4) (x1 : Int32) (x2 : Int32) (hq : mq_M_isStep u x1 x2) : MI l D vwCl (ty3 k3) nestW (mC a k3) yX8_isStep (kX8_isStep :: tbG) rm_mM_isStep [.ref (a 0), .int x1, .int x2] u (mp_M_isStep u x1 x2, u) := by
  refine mkI (cc := cX8_isStep) (maxL := 3) (ret := (some .boolean)) (by decide) rfl (Nat.le_of_ble_eq_true rfl) ?_
  intro p e s m below meth c A ls F hw hl
  generalize hav : ([.ref (a 0), .int x1, .int x2] : List Value).toArray = av at F ⊢
  have hl : lv_has ls 3 [(0, .ref (a 0)), (1, .int x1), (2, .int x2)] := hl
  obtain ⟨hx, hb, hr, hml, hown, hts, hK, hN, hlocks, hA⟩ := id F
  have hown : s.vm.findClass RX8 = some m.cls := hown
  have htG : ∀ w ∈ tbG, w.before av s = true := fun w h => hts w (List.mem_cons_of_mem _ h)
  have f_57 := htG _ tb_534
  have f_60 := htG _ tb_535
  have hgo : ∀ P, mp_M_isStep u x1 x2 = P → ∀ (H : Heap) (locs : List Loc), wd D vwCl (mC a k3) A s.heap u H locs → W p l e rm_mM_isStep s m av below meth c H locs 0 0 (QI below D vwCl (mC a k3) A av s (P, u)) (F0 m 0 ls []) := by
    intro P hP H locs hw
    refine lv_aload_n hx hb dX8_isStep_0 rfl (lv_at hl 0 rfl) ?_
    refine va_get (D := D) (ci := 8) (v := .ref (a 16)) (C := RX8) (T := TX8) (N := 28) hx hb htG in_8 hown hK hw.1 0 (mo_0 a k3 u) rfl 20 (by decide) f_57 (fun _ h9 => h9) rfl dX8_isStep_1 ?_
    refine lv_iload_n hx hb dX8_isStep_4 rfl (lv_at hl 1 rfl) ?_
    obtain ⟨h1, hq⟩ := hq
    refine y_iald (t0 := 0) hx hb hK hw 13 (mo_16 a k3 u) rfl h1 dX8_isStep_5 ?_
    refine lv_if_lt (tgt := 61) hx hb dX8_isStep_6 (by decide) (fun c2 => ?_) (fun c2 => ?_)
    · have hP := (if_pos c2).symm.trans hP
      refine lv_iconst (v := 0) hx hb dX8_isStep_61 (by decide) ?_
      exact ret_z hx hb hr hlocks hw rfl dX8_isStep_62 (congrArg (fun z => (z, u)) hP)
    · have hP := (if_neg c2).symm.trans hP
      have hq := hq c2
      refine lv_aload_n hx hb dX8_isStep_9 rfl (lv_at hl 0 rfl) ?_
      refine va_get (D := D) (ci := 8) (v := .ref (a 16)) (C := RX8) (T := TX8) (N := 28) hx hb htG in_8 hown hK hw.1 0 (mo_0 a k3 u) rfl 20 (by decide) f_57 (fun _ h9 => h9) rfl dX8_isStep_10 ?_
      refine lv_iload_n hx hb dX8_isStep_13 rfl (lv_at hl 2 rfl) ?_
      obtain ⟨h3, hq⟩ := hq
      refine y_iald (t0 := 0) hx hb hK hw 13 (mo_16 a k3 u) rfl h3 dX8_isStep_14 ?_
      refine lv_if_lt (tgt := 61) hx hb dX8_isStep_15 (by decide) (fun c4 => ?_) (fun c4 => ?_)
      · have hP := (if_pos c4).symm.trans hP
        refine lv_iconst (v := 0) hx hb dX8_isStep_61 (by decide) ?_
        exact ret_z hx hb hr hlocks hw rfl dX8_isStep_62 (congrArg (fun z => (z, u)) hP)
      · have hP := (if_neg c4).symm.trans hP
        have hq := hq c4
        refine lv_aload_n hx hb dX8_isStep_18 rfl (lv_at hl 0 rfl) ?_
        refine lv_iload_n hx hb dX8_isStep_19 rfl (lv_at hl 1 rfl) ?_
        refine lv_iload_n hx hb dX8_isStep_20 rfl (lv_at hl 2 rfl) ?_
        obtain ⟨h5, hq⟩ := hq
        let r6 : Int32 := mp_M_goesInto u x1 x2
        refine call_vir (rest := []) ⟨hx, hb, hml, hown, htG⟩ nestW_ok hK hN hA (mc_M_goesInto l D a k3 u x1 x2 h5) (cwV 2 htG (tb_V tb_659 tb_661 tb_13 tb_28 tb_662) rfl rfl rfl (by decide +kernel) ⟨Nat.le_of_ble_eq_true rfl, Nat.le_of_ble_eq_true rfl⟩) (ci := 8) rfl (mo_0 a k3 u) rfl hw rfl hl.1 rfl (Nat.le_of_ble_eq_true rfl) dX8_isStep_21 ⟨Nat.zero_le _, Nat.zero_le _⟩ (fun H locs (hw : wd D vwCl (mC a k3) A s.heap u H locs) => ?_)
        refine lv_if_eq (tgt := 61) hx hb dX8_isStep_24 (by decide) (fun c7 => ?_) (fun c7 => ?_)
        · have hP := (if_pos c7).symm.trans hP
          refine lv_iconst (v := 0) hx hb dX8_isStep_61 (by decide) ?_
          exact ret_z hx hb hr hlocks hw rfl dX8_isStep_62 (congrArg (fun z => (z, u)) hP)
        · have hP := (if_neg c7).symm.trans hP
          have hq := hq c7
          refine lv_aload_n hx hb dX8_isStep_27 rfl (lv_at hl 0 rfl) ?_
          refine va_get (D := D) (ci := 8) (v := .ref (a 17)) (C := RX8) (T := TX8) (N := 28) hx hb htG in_8 hown hK hw.1 0 (mo_0 a k3 u) rfl 21 (by decide) f_60 (fun _ h9 => h9) rfl dX8_isStep_28 ?_
          refine lv_iload_n hx hb dX8_isStep_31 rfl (lv_at hl 2 rfl) ?_
          obtain ⟨h8, hq⟩ := hq
          refine y_iald (t0 := 0) hx hb hK hw 14 (mo_17 a k3 u) rfl h8 dX8_isStep_32 ?_
          refine lv_if_lt (tgt := 61) hx hb dX8_isStep_33 (by decide) (fun c9 => ?_) (fun c9 => ?_)
          · have hP := (if_pos c9).symm.trans hP
            refine lv_iconst (v := 0) hx hb dX8_isStep_61 (by decide) ?_
            exact ret_z hx hb hr hlocks hw rfl dX8_isStep_62 (congrArg (fun z => (z, u)) hP)
          · have hP := (if_neg c9).symm.trans hP
            have hq := hq c9
            refine lv_aload_n hx hb dX8_isStep_36 rfl (lv_at hl 0 rfl) ?_
            refine lv_iload_n hx hb dX8_isStep_37 rfl (lv_at hl 1 rfl) ?_
            refine lv_aload_n hx hb dX8_isStep_38 rfl (lv_at hl 0 rfl) ?_
            refine va_get (D := D) (ci := 8) (v := .ref (a 16)) (C := RX8) (T := TX8) (N := 28) hx hb htG in_8 hown hK hw.1 0 (mo_0 a k3 u) rfl 20 (by decide) f_57 (fun _ h9 => h9) rfl dX8_isStep_39 ?_
            refine lv_iload_n hx hb dX8_isStep_42 rfl (lv_at hl 1 rfl) ?_
            obtain ⟨h10, hq⟩ := hq
            refine y_iald (t0 := 0) hx hb hK hw 13 (mo_16 a k3 u) rfl h10 dX8_isStep_43 ?_
            refine lv_iload_n hx hb dX8_isStep_44 rfl (lv_at hl 2 rfl) ?_
            obtain ⟨h11, hq⟩ := hq
            let r12 : Int32 := mp_M_begun3 u x1 (s4_ra u 13 x1) x2
            refine call_vir (rest := []) ⟨hx, hb, hml, hown, htG⟩ nestW_ok hK hN hA (mc_M_begun3 l D a k3 u x1 (s4_ra u 13 x1) x2 h11) (cwV 3 htG (tb_V tb_675 tb_677 tb_17 tb_28 tb_678) rfl rfl rfl (by decide +kernel) ⟨Nat.le_of_ble_eq_true rfl, Nat.le_of_ble_eq_true rfl⟩) (ci := 8) rfl (mo_0 a k3 u) rfl hw rfl hl.1 rfl (Nat.le_of_ble_eq_true rfl) dX8_isStep_45 ⟨Nat.zero_le _, Nat.zero_le _⟩ (fun H locs (hw : wd D vwCl (mC a k3) A s.heap u H locs) => ?_)
            refine lv_aload_n hx hb dX8_isStep_48 rfl (lv_at hl 0 rfl) ?_
            refine va_get (D := D) (ci := 8) (v := .ref (a 17)) (C := RX8) (T := TX8) (N := 28) hx hb htG in_8 hown hK hw.1 0 (mo_0 a k3 u) rfl 21 (by decide) f_60 (fun _ h9 => h9) rfl dX8_isStep_49 ?_
            refine lv_iload_n hx hb dX8_isStep_52 rfl (lv_at hl 2 rfl) ?_
            have h13 := hq
            refine y_iald (t0 := 0) hx hb hK hw 14 (mo_17 a k3 u) rfl h13 dX8_isStep_53 ?_
            refine lv_icmp_ne (tgt := 61) hx hb dX8_isStep_54 (by decide) (fun c14 => ?_) (fun c14 => ?_)
            · have hP := (if_neg c14).symm.trans hP
              refine lv_iconst (v := 0) hx hb dX8_isStep_61 (by decide) ?_
              exact ret_z hx hb hr hlocks hw rfl dX8_isStep_62 (congrArg (fun z => (z, u)) hP)
            · have hP := (if_pos c14).symm.trans hP
              refine lv_iconst (v := 1) hx hb dX8_isStep_57 (by decide) ?_
              refine lv_goto (tgt := 62) hx hb dX8_isStep_58 (by decide) ?_
              exact ret_z hx hb hr hlocks hw rfl dX8_isStep_62 (congrArg (fun z => (z, u)) hP)
  exact hgo _ rfl s.heap [] hw
