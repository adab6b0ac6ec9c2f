theorem dX8_least_0 : decode cX8_least 0 = .ok (.aload_n 0, 1) := by decide +kernel
theorem dX8_least_1 : decode cX8_least 1 = .ok (.iload_n 1, 1) := by decide +kernel
theorem dX8_least_2 : decode cX8_least 2 = .ok (.iload_n 2, 1) := by decide +kernel
theorem dX8_least_3 : decode cX8_least 3 = .ok (.invokevirtual 138, 3) := by decide +kernel
theorem dX8_least_6 : decode cX8_least 6 = .ok (.ifCond .eq 26, 3) := by decide +kernel
theorem dX8_least_9 : decode cX8_least 9 = .ok (.aload_n 0, 1) := by decide +kernel
theorem dX8_least_10 : decode cX8_least 10 = .ok (.iload_n 3, 1) := by decide +kernel
theorem dX8_least_11 : decode cX8_least 11 = .ok (.iload 4, 2) := by decide +kernel
theorem dX8_least_13 : decode cX8_least 13 = .ok (.invokevirtual 138, 3) := by decide +kernel
theorem dX8_least_16 : decode cX8_least 16 = .ok (.ifCond .eq 16, 3) := by decide +kernel
theorem dX8_least_19 : decode cX8_least 19 = .ok (.iload 5, 2) := by decide +kernel
theorem dX8_least_21 : decode cX8_least 21 = .ok (.i2l, 1) := by decide +kernel
theorem dX8_least_22 : decode cX8_least 22 = .ok (.lconst 0, 1) := by decide +kernel
theorem dX8_least_23 : decode cX8_least 23 = .ok (.ldc2_w 141, 3) := by decide +kernel
theorem dX8_least_26 : decode cX8_least 26 = .ok (.invokestatic 96, 3) := by decide +kernel
theorem dX8_least_29 : decode cX8_least 29 = .ok (.ifCond .ne 5, 3) := by decide +kernel
theorem dX8_least_32 : decode cX8_least 32 = .ok (.iconst (-1), 1) := by decide +kernel
theorem dX8_least_33 : decode cX8_least 33 = .ok (.ireturn, 1) := by decide +kernel
theorem dX8_least_34 : decode cX8_least 34 = .ok (.iconst 2, 1) := by decide +kernel
theorem dX8_least_35 : decode cX8_least 35 = .ok (.iload_n 1, 1) := by decide +kernel
theorem dX8_least_36 : decode cX8_least 36 = .ok (.imul, 1) := by decide +kernel
theorem dX8_least_37 : decode cX8_least 37 = .ok (.iload_n 2, 1) := by decide +kernel
theorem dX8_least_38 : decode cX8_least 38 = .ok (.iadd, 1) := by decide +kernel
theorem dX8_least_39 : decode cX8_least 39 = .ok (.istore 6, 2) := by decide +kernel
theorem dX8_least_41 : decode cX8_least 41 = .ok (.iconst 2, 1) := by decide +kernel
theorem dX8_least_42 : decode cX8_least 42 = .ok (.iload_n 3, 1) := by decide +kernel
theorem dX8_least_43 : decode cX8_least 43 = .ok (.imul, 1) := by decide +kernel
theorem dX8_least_44 : decode cX8_least 44 = .ok (.iload 4, 2) := by decide +kernel
theorem dX8_least_46 : decode cX8_least 46 = .ok (.iadd, 1) := by decide +kernel
theorem dX8_least_47 : decode cX8_least 47 = .ok (.istore 7, 2) := by decide +kernel
theorem dX8_least_49 : decode cX8_least 49 = .ok (.aload_n 0, 1) := by decide +kernel
theorem dX8_least_50 : decode cX8_least 50 = .ok (.iconst 0, 1) := by decide +kernel
theorem dX8_least_51 : decode cX8_least 51 = .ok (.putfield 66, 3) := by decide +kernel
theorem dX8_least_54 : decode cX8_least 54 = .ok (.iload 6, 2) := by decide +kernel
theorem dX8_least_56 : decode cX8_least 56 = .ok (.iload 7, 2) := by decide +kernel
theorem dX8_least_58 : decode cX8_least 58 = .ok (.if_icmp .ne 5, 3) := by decide +kernel
theorem dX8_least_61 : decode cX8_least 61 = .ok (.iconst 0, 1) := by decide +kernel
theorem dX8_least_62 : decode cX8_least 62 = .ok (.ireturn, 1) := by decide +kernel
theorem dX8_least_63 : decode cX8_least 63 = .ok (.aload_n 0, 1) := by decide +kernel
theorem dX8_least_64 : decode cX8_least 64 = .ok (.iload 6, 2) := by decide +kernel
theorem dX8_least_66 : decode cX8_least 66 = .ok (.iload 5, 2) := by decide +kernel
theorem dX8_least_68 : decode cX8_least 68 = .ok (.invokevirtual 143, 3) := by decide +kernel
theorem dX8_least_71 : decode cX8_least 71 = .ok (.aload_n 0, 1) := by decide +kernel
theorem dX8_least_72 : decode cX8_least 72 = .ok (.getfield 57, 3) := by decide +kernel
theorem dX8_least_75 : decode cX8_least 75 = .ok (.iload 7, 2) := by decide +kernel
theorem dX8_least_77 : decode cX8_least 77 = .ok (.iaload, 1) := by decide +kernel
theorem dX8_least_78 : decode cX8_least 78 = .ok (.ifCond .ge 10, 3) := by decide +kernel
theorem dX8_least_81 : decode cX8_least 81 = .ok (.aload_n 0, 1) := by decide +kernel
theorem dX8_least_82 : decode cX8_least 82 = .ok (.iconst (-1), 1) := by decide +kernel
theorem dX8_least_83 : decode cX8_least 83 = .ok (.putfield 66, 3) := by decide +kernel
theorem dX8_least_86 : decode cX8_least 86 = .ok (.iconst (-1), 1) := by decide +kernel
theorem dX8_least_87 : decode cX8_least 87 = .ok (.ireturn, 1) := by decide +kernel
theorem dX8_least_88 : decode cX8_least 88 = .ok (.iconst 0, 1) := by decide +kernel
theorem dX8_least_89 : decode cX8_least 89 = .ok (.istore 8, 2) := by decide +kernel
theorem dX8_least_91 : decode cX8_least 91 = .ok (.iload 8, 2) := by decide +kernel
theorem dX8_least_93 : decode cX8_least 93 = .ok (.bipush 24, 2) := by decide +kernel
theorem dX8_least_95 : decode cX8_least 95 = .ok (.if_icmp .ge 28, 3) := by decide +kernel
theorem dX8_least_98 : decode cX8_least 98 = .ok (.aload_n 0, 1) := by decide +kernel
theorem dX8_least_99 : decode cX8_least 99 = .ok (.getfield 63, 3) := by decide +kernel
theorem dX8_least_102 : decode cX8_least 102 = .ok (.iload 8, 2) := by decide +kernel
theorem dX8_least_104 : decode cX8_least 104 = .ok (.iload 8, 2) := by decide +kernel
theorem dX8_least_106 : decode cX8_least 106 = .ok (.iload 7, 2) := by decide +kernel
theorem dX8_least_108 : decode cX8_least 108 = .ok (.if_icmp .ne 7, 3) := by decide +kernel
theorem dX8_least_111 : decode cX8_least 111 = .ok (.iconst 1, 1) := by decide +kernel
theorem dX8_least_112 : decode cX8_least 112 = .ok (.goto 4, 3) := by decide +kernel
theorem dX8_least_115 : decode cX8_least 115 = .ok (.iconst 0, 1) := by decide +kernel
theorem dX8_least_116 : decode cX8_least 116 = .ok (.bastore, 1) := by decide +kernel
theorem dX8_least_117 : decode cX8_least 117 = .ok (.iinc 8 1, 3) := by decide +kernel
theorem dX8_least_120 : decode cX8_least 120 = .ok (.goto (-29), 3) := by decide +kernel
theorem dX8_least_123 : decode cX8_least 123 = .ok (.iconst 0, 1) := by decide +kernel
theorem dX8_least_124 : decode cX8_least 124 = .ok (.istore 8, 2) := by decide +kernel
theorem dX8_least_126 : decode cX8_least 126 = .ok (.iload 8, 2) := by decide +kernel
theorem dX8_least_128 : decode cX8_least 128 = .ok (.bipush 24, 2) := by decide +kernel
theorem dX8_least_130 : decode cX8_least 130 = .ok (.if_icmp .ge 92, 3) := by decide +kernel
theorem dX8_least_133 : decode cX8_least 133 = .ok (.iconst 0, 1) := by decide +kernel
theorem dX8_least_134 : decode cX8_least 134 = .ok (.istore 9, 2) := by decide +kernel
theorem dX8_least_136 : decode cX8_least 136 = .ok (.iload 9, 2) := by decide +kernel
theorem dX8_least_138 : decode cX8_least 138 = .ok (.iconst 2, 1) := by decide +kernel
theorem dX8_least_139 : decode cX8_least 139 = .ok (.aload_n 0, 1) := by decide +kernel
theorem dX8_least_140 : decode cX8_least 140 = .ok (.getfield 85, 3) := by decide +kernel
theorem dX8_least_143 : decode cX8_least 143 = .ok (.imul, 1) := by decide +kernel
theorem dX8_least_144 : decode cX8_least 144 = .ok (.if_icmp .ge 72, 3) := by decide +kernel
theorem dX8_least_147 : decode cX8_least 147 = .ok (.iconst 0, 1) := by decide +kernel
theorem dX8_least_148 : decode cX8_least 148 = .ok (.istore 10, 2) := by decide +kernel
theorem dX8_least_150 : decode cX8_least 150 = .ok (.iload 10, 2) := by decide +kernel
theorem dX8_least_152 : decode cX8_least 152 = .ok (.iconst 2, 1) := by decide +kernel
theorem dX8_least_153 : decode cX8_least 153 = .ok (.aload_n 0, 1) := by decide +kernel
theorem dX8_least_154 : decode cX8_least 154 = .ok (.getfield 85, 3) := by decide +kernel
theorem dX8_least_157 : decode cX8_least 157 = .ok (.imul, 1) := by decide +kernel
theorem dX8_least_158 : decode cX8_least 158 = .ok (.if_icmp .ge 52, 3) := by decide +kernel
theorem dX8_least_161 : decode cX8_least 161 = .ok (.aload_n 0, 1) := by decide +kernel
theorem dX8_least_162 : decode cX8_least 162 = .ok (.getfield 63, 3) := by decide +kernel
theorem dX8_least_165 : decode cX8_least 165 = .ok (.iload 9, 2) := by decide +kernel
theorem dX8_least_167 : decode cX8_least 167 = .ok (.aload_n 0, 1) := by decide +kernel
theorem dX8_least_168 : decode cX8_least 168 = .ok (.getfield 63, 3) := by decide +kernel
theorem dX8_least_171 : decode cX8_least 171 = .ok (.iload 9, 2) := by decide +kernel
theorem dX8_least_173 : decode cX8_least 173 = .ok (.baload, 1) := by decide +kernel
theorem dX8_least_174 : decode cX8_least 174 = .ok (.ifCond .ne 24, 3) := by decide +kernel
theorem dX8_least_177 : decode cX8_least 177 = .ok (.aload_n 0, 1) := by decide +kernel
theorem dX8_least_178 : decode cX8_least 178 = .ok (.getfield 63, 3) := by decide +kernel
theorem dX8_least_181 : decode cX8_least 181 = .ok (.iload 10, 2) := by decide +kernel
theorem dX8_least_183 : decode cX8_least 183 = .ok (.baload, 1) := by decide +kernel
theorem dX8_least_184 : decode cX8_least 184 = .ok (.ifCond .eq 18, 3) := by decide +kernel
theorem dX8_least_187 : decode cX8_least 187 = .ok (.aload_n 0, 1) := by decide +kernel
theorem dX8_least_188 : decode cX8_least 188 = .ok (.iload 9, 2) := by decide +kernel
theorem dX8_least_190 : decode cX8_least 190 = .ok (.iload 10, 2) := by decide +kernel
theorem dX8_least_192 : decode cX8_least 192 = .ok (.invokevirtual 147, 3) := by decide +kernel
theorem dX8_least_195 : decode cX8_least 195 = .ok (.ifCond .eq 7, 3) := by decide +kernel
theorem dX8_least_198 : decode cX8_least 198 = .ok (.iconst 1, 1) := by decide +kernel
theorem dX8_least_199 : decode cX8_least 199 = .ok (.goto 4, 3) := by decide +kernel
theorem dX8_least_202 : decode cX8_least 202 = .ok (.iconst 0, 1) := by decide +kernel
theorem dX8_least_203 : decode cX8_least 203 = .ok (.bastore, 1) := by decide +kernel
theorem dX8_least_204 : decode cX8_least 204 = .ok (.iinc 10 1, 3) := by decide +kernel
theorem dX8_least_207 : decode cX8_least 207 = .ok (.goto (-57), 3) := by decide +kernel
theorem dX8_least_210 : decode cX8_least 210 = .ok (.iinc 9 1, 3) := by decide +kernel
theorem dX8_least_213 : decode cX8_least 213 = .ok (.goto (-77), 3) := by decide +kernel
theorem dX8_least_216 : decode cX8_least 216 = .ok (.iinc 8 1, 3) := by decide +kernel
theorem dX8_least_219 : decode cX8_least 219 = .ok (.goto (-93), 3) := by decide +kernel
theorem dX8_least_222 : decode cX8_least 222 = .ok (.iload 6, 2) := by decide +kernel
theorem dX8_least_224 : decode cX8_least 224 = .ok (.istore 8, 2) := by decide +kernel
theorem dX8_least_226 : decode cX8_least 226 = .ok (.iload 8, 2) := by decide +kernel
theorem dX8_least_228 : decode cX8_least 228 = .ok (.iload 7, 2) := by decide +kernel
theorem dX8_least_230 : decode cX8_least 230 = .ok (.if_icmp .eq 77, 3) := by decide +kernel
theorem dX8_least_233 : decode cX8_least 233 = .ok (.iconst 0, 1) := by decide +kernel
theorem dX8_least_234 : decode cX8_least 234 = .ok (.istore 9, 2) := by decide +kernel
theorem dX8_least_236 : decode cX8_least 236 = .ok (.aload_n 0, 1) := by decide +kernel
theorem dX8_least_237 : decode cX8_least 237 = .ok (.getfield 63, 3) := by decide +kernel
theorem dX8_least_240 : decode cX8_least 240 = .ok (.iload 9, 2) := by decide +kernel
theorem dX8_least_242 : decode cX8_least 242 = .ok (.baload, 1) := by decide +kernel
theorem dX8_least_243 : decode cX8_least 243 = .ok (.ifCond .eq 14, 3) := by decide +kernel
theorem dX8_least_246 : decode cX8_least 246 = .ok (.aload_n 0, 1) := by decide +kernel
theorem dX8_least_247 : decode cX8_least 247 = .ok (.iload 8, 2) := by decide +kernel
theorem dX8_least_249 : decode cX8_least 249 = .ok (.iload 9, 2) := by decide +kernel
theorem dX8_least_251 : decode cX8_least 251 = .ok (.invokevirtual 147, 3) := by decide +kernel
theorem dX8_least_254 : decode cX8_least 254 = .ok (.ifCond .ne 9, 3) := by decide +kernel
theorem dX8_least_257 : decode cX8_least 257 = .ok (.iinc 9 1, 3) := by decide +kernel
theorem dX8_least_260 : decode cX8_least 260 = .ok (.goto (-24), 3) := by decide +kernel
theorem dX8_least_263 : decode cX8_least 263 = .ok (.aload_n 0, 1) := by decide +kernel
theorem dX8_least_264 : decode cX8_least 264 = .ok (.getfield 70, 3) := by decide +kernel
theorem dX8_least_267 : decode cX8_least 267 = .ok (.aload_n 0, 1) := by decide +kernel
theorem dX8_least_268 : decode cX8_least 268 = .ok (.getfield 66, 3) := by decide +kernel
theorem dX8_least_271 : decode cX8_least 271 = .ok (.iload 9, 2) := by decide +kernel
theorem dX8_least_273 : decode cX8_least 273 = .ok (.iastore, 1) := by decide +kernel
theorem dX8_least_274 : decode cX8_least 274 = .ok (.aload_n 0, 1) := by decide +kernel
theorem dX8_least_275 : decode cX8_least 275 = .ok (.getfield 73, 3) := by decide +kernel
theorem dX8_least_278 : decode cX8_least 278 = .ok (.aload_n 0, 1) := by decide +kernel
theorem dX8_least_279 : decode cX8_least 279 = .ok (.getfield 66, 3) := by decide +kernel
theorem dX8_least_282 : decode cX8_least 282 = .ok (.aload_n 0, 1) := by decide +kernel
theorem dX8_least_283 : decode cX8_least 283 = .ok (.getfield 60, 3) := by decide +kernel
theorem dX8_least_286 : decode cX8_least 286 = .ok (.iload 9, 2) := by decide +kernel
theorem dX8_least_288 : decode cX8_least 288 = .ok (.iaload, 1) := by decide +kernel
theorem dX8_least_289 : decode cX8_least 289 = .ok (.iastore, 1) := by decide +kernel
theorem dX8_least_290 : decode cX8_least 290 = .ok (.aload_n 0, 1) := by decide +kernel
theorem dX8_least_291 : decode cX8_least 291 = .ok (.dup, 1) := by decide +kernel
theorem dX8_least_292 : decode cX8_least 292 = .ok (.getfield 66, 3) := by decide +kernel
theorem dX8_least_295 : decode cX8_least 295 = .ok (.iconst 1, 1) := by decide +kernel
theorem dX8_least_296 : decode cX8_least 296 = .ok (.iadd, 1) := by decide +kernel
theorem dX8_least_297 : decode cX8_least 297 = .ok (.putfield 66, 3) := by decide +kernel
theorem dX8_least_300 : decode cX8_least 300 = .ok (.iload 9, 2) := by decide +kernel
theorem dX8_least_302 : decode cX8_least 302 = .ok (.istore 8, 2) := by decide +kernel
theorem dX8_least_304 : decode cX8_least 304 = .ok (.goto (-78), 3) := by decide +kernel
theorem dX8_least_307 : decode cX8_least 307 = .ok (.aload_n 0, 1) := by decide +kernel
theorem dX8_least_308 : decode cX8_least 308 = .ok (.getfield 57, 3) := by decide +kernel
theorem dX8_least_311 : decode cX8_least 311 = .ok (.iload 7, 2) := by decide +kernel
theorem dX8_least_313 : decode cX8_least 313 = .ok (.iaload, 1) := by decide +kernel
theorem dX8_least_314 : decode cX8_least 314 = .ok (.iload 5, 2) := by decide +kernel
theorem dX8_least_316 : decode cX8_least 316 = .ok (.isub, 1) := by decide +kernel
theorem dX8_least_317 : decode cX8_least 317 = .ok (.ireturn, 1) := by decide +kernel
abbrev rm_mM_least : Room := { frames := 3, cells := 0, slots := 0, locals := 73 }
def mB_M_least_236 (K226 : S4 → Int32 → Int32 → Int32 → (Int32 × S4)) (K236 : S4 → Int32 → Int32 → Int32 → Int32 → (Int32 × S4)) (u : S4) (y5 : Int32) (y7 : Int32) (y8 : Int32) (y9 : Int32) : Int32 × S4 :=
  if (s4_ra u 15 y9) = (0 : Int32) then
    let v21 : Int32 := (y9 + (1 : Int32))
    K236 u y5 y7 y8 v21
  else
    let r23 : Int32 := mp_M_isStep u y8 y9
    if r23 = (0 : Int32) then
      let v32 : Int32 := (y9 + (1 : Int32))
      K236 u y5 y7 y8 v32
    else
      let u26 : S4 := s4_wa u 16 (s4_i u 3) y9
      let u29 : S4 := s4_wa u26 17 (s4_i u26 3) (s4_ra u26 14 y9)
      let v30 : Int32 := ((s4_i u29 3) + (1 : Int32))
      let u31 : S4 := s4_si u29 3 v30
      K226 u31 y5 y7 y9
def mL_M_least_236 (K226 : S4 → Int32 → Int32 → Int32 → (Int32 × S4)) : Nat → S4 → Int32 → Int32 → Int32 → Int32 → (Int32 × S4)
  | 0 => fun u _ _ _ _ => (0, u)
  | n + 1 => mB_M_least_236 K226 (mL_M_least_236 K226 n)
def mBq_M_least_236 (Q226 : S4 → Int32 → Int32 → Int32 → Prop) (Q236 : S4 → Int32 → Int32 → Int32 → Int32 → Prop) (u : S4) (y5 : Int32) (y7 : Int32) (y8 : Int32) (y9 : Int32) : Prop :=
  vp_in y9 24 ∧
  (((s4_ra u 15 y9) = (0 : Int32) →
    let v21 : Int32 := (y9 + (1 : Int32))
    Q236 u y5 y7 y8 v21) ∧ (¬ (s4_ra u 15 y9) = (0 : Int32) →
    mq_M_isStep u y8 y9 ∧
    let r23 : Int32 := mp_M_isStep u y8 y9
    ((r23 = (0 : Int32) →
      let v32 : Int32 := (y9 + (1 : Int32))
      Q236 u y5 y7 y8 v32) ∧ (¬ r23 = (0 : Int32) →
      vp_in (s4_i u 3) 24 ∧
      let u26 : S4 := s4_wa u 16 (s4_i u 3) y9
      vp_in y9 24 ∧
      vp_in (s4_i u26 3) 24 ∧
      let u29 : S4 := s4_wa u26 17 (s4_i u26 3) (s4_ra u26 14 y9)
      let v30 : Int32 := ((s4_i u29 3) + (1 : Int32))
      let u31 : S4 := s4_si u29 3 v30
      Q226 u31 y5 y7 y9))))
def mLq_M_least_236 (Q226 : S4 → Int32 → Int32 → Int32 → Prop) : Nat → S4 → Int32 → Int32 → Int32 → Int32 → Prop
  | 0 => fun _ _ _ _ _ => False
  | n + 1 => mBq_M_least_236 Q226 (mLq_M_least_236 Q226 n)
set_option maxHeartbeats 4000000 in
set_option maxRecDepth 100000 in
theorem ms_M_least_236 (l : Launch) (D : va_G) (a : Nat → Nat) (k3 : K3) {p : Program} {e : Env} {s : State} {m : MethodId} {below : List Frame} {meth : Method} {c : Code} {A : Nat → Prop} (av : Array Value) (F : Fx p s m meth c av cX8_least 11 (some .int) yX8_least.cls (kX8_least :: tbG) D vwCl (ty3 k3) nestW A) (P : Int32 × S4) (K226 : S4 → Int32 → Int32 → Int32 → (Int32 × S4)) (Q226 : S4 → Int32 → Int32 → Int32 → Prop) (hK226 : ∀ (u : S4) (y5 : Int32) (y7 : Int32) (y8 : Int32) (H : Heap) (locs : List Loc) (ls : Array Slot), Q226 u y5 y7 y8 → K226 u y5 y7 y8 = P → wd D vwCl (mC a k3) A s.heap u H locs → lv_has ls 11 [(0, .ref (a 0)), (5, .int y5), (7, .int y7), (8, .int y8)] → W p l e rm_mM_least s m av below meth c H locs 0 0 (QI below D vwCl (mC a k3) A av s P) (F0 m 226 ls [])) (K236 : S4 → Int32 → Int32 → Int32 → Int32 → (Int32 × S4)) (Q236 : S4 → Int32 → Int32 → Int32 → Int32 → Prop) (hK236 : ∀ (u : S4) (y5 : Int32) (y7 : Int32) (y8 : Int32) (y9 : Int32) (H : Heap) (locs : List Loc) (ls : Array Slot), Q236 u y5 y7 y8 y9 → K236 u y5 y7 y8 y9 = P → wd D vwCl (mC a k3) A s.heap u H locs → lv_has ls 11 [(0, .ref (a 0)), (5, .int y5), (7, .int y7), (8, .int y8), (9, .int y9)] → W p l e rm_mM_least s m av below meth c H locs 0 0 (QI below D vwCl (mC a k3) A av s P) (F0 m 236 ls [])) : ∀ (u : S4) (y5 : Int32) (y7 : Int32) (y8 : Int32) (y9 : Int32) (H : Heap) (locs : List Loc) (ls : Array Slot), mBq_M_least_236 Q226 Q236 u y5 y7 y8 y9 → mB_M_least_236 K226 K236 u y5 y7 y8 y9 = P → wd D vwCl (mC a k3) A s.heap u H locs → lv_has ls 11 [(0, .ref (a 0)), (5, .int y5), (7, .int y7), (8, .int y8), (9, .int y9)] → W p l e rm_mM_least s m av below meth c H locs 0 0 (QI below D vwCl (mC a k3) A av s P) (F0 m 236 ls []) := by
  obtain ⟨hx, hb, hr, hml, hown, hts, hK, hN, hlocks, hA⟩ := id F
  have hown : s.vm.findClass RX8 = some m.cls := hown
  have htG : ∀ w ∈ tbG, w.before av s = true := fun w h => hts w (List.mem_cons_of_mem _ h)
  have f_63 := htG _ tb_536
  have f_70 := htG _ tb_538
  have f_66 := htG _ tb_537
  have f_73 := htG _ tb_539
  have f_60 := htG _ tb_535
  intro u y5 y7 y8 y9 H locs ls hq hP hw hl
  refine lv_aload_n hx hb dX8_least_236 rfl (lv_at hl 0 rfl) ?_
  refine va_get (D := D) (ci := 8) (v := .ref (a 18)) (C := RX8) (T := TX8) (N := 28) hx hb htG in_8 hown hK hw.1 0 (mo_0 a k3 u) rfl 22 (by decide) f_63 (fun _ h9 => h9) rfl dX8_least_237 ?_
  refine lv_iload hx hb dX8_least_240 (lv_at hl 4 rfl) ?_
  obtain ⟨h19, hq⟩ := hq
  refine y_zald (t0 := 2) hx hb hK hw 15 (mo_18 a k3 u) rfl h19 dX8_least_242 ?_
  refine lv_if_eq (tgt := 257) hx hb dX8_least_243 (by decide) (fun c20 => ?_) (fun c20 => ?_)
  · have hP := (if_pos c20).symm.trans hP
    have hq := hq.1 c20
    let v21 : Int32 := (y9 + (1 : Int32))
    refine lv_iinc (v := v21) (lv' := [(9, .int v21), (0, .ref (a 0)), (5, .int y5), (7, .int y7), (8, .int y8)]) hx hb dX8_least_257 hl (k := 4) rfl rfl (by decide) rfl (fun ls hl => ?_)
    refine lv_goto (tgt := 236) hx hb dX8_least_260 (by decide) ?_
    exact hK236 u (y5) (y7) (y8) (v21) H locs ls hq hP hw (lv_sub hl [1, 2, 3, 4, 0] rfl)
  · have hP := (if_neg c20).symm.trans hP
    have hq := hq.2 c20
    refine lv_aload_n hx hb dX8_least_246 rfl (lv_at hl 0 rfl) ?_
    refine lv_iload hx hb dX8_least_247 (lv_at hl 3 rfl) ?_
    refine lv_iload hx hb dX8_least_249 (lv_at hl 4 rfl) ?_
    obtain ⟨h22, hq⟩ := hq
    let r23 : Int32 := mp_M_isStep u y8 y9
    refine call_vir (rest := []) ⟨hx, hb, hml, hown, htG⟩ nestW_ok hK hN hA (mc_M_isStep l D a k3 u y8 y9 h22) (cwV 2 htG (tb_V tb_679 tb_681 tb_18 tb_28 tb_682) rfl rfl rfl (by decide +kernel) ⟨Nat.le_of_ble_eq_true rfl, Nat.le_of_ble_eq_true rfl⟩) (ci := 8) rfl (mo_0 a k3 u) rfl hw rfl hl.1 rfl (Nat.le_of_ble_eq_true rfl) dX8_least_251 ⟨Nat.zero_le _, Nat.zero_le _⟩ (fun H locs (hw : wd D vwCl (mC a k3) A s.heap u H locs) => ?_)
    refine lv_if_ne (tgt := 263) hx hb dX8_least_254 (by decide) (fun c24 => ?_) (fun c24 => ?_)
    · have hP := (if_neg c24).symm.trans hP
      have hq := hq.2 c24
      refine lv_aload_n hx hb dX8_least_263 rfl (lv_at hl 0 rfl) ?_
      refine va_get (D := D) (ci := 8) (v := .ref (a 19)) (C := RX8) (T := TX8) (N := 28) hx hb htG in_8 hown hK hw.1 0 (mo_0 a k3 u) rfl 24 (by decide) f_70 (fun _ h9 => h9) rfl dX8_least_264 ?_
      refine lv_aload_n hx hb dX8_least_267 rfl (lv_at hl 0 rfl) ?_
      refine va_get (D := D) (ci := 8) (v := .int (s4_i u 3)) (C := RX8) (T := TX8) (N := 28) hx hb htG in_8 hown hK hw.1 0 (mo_0 a k3 u) rfl 23 (by decide) f_66 (fun _ h9 => h9) rfl dX8_least_268 ?_
      refine lv_iload hx hb dX8_least_271 (lv_at hl 4 rfl) ?_
      obtain ⟨h25, hq⟩ := hq
      let u26 : S4 := s4_wa u 16 (s4_i u 3) y9
      refine y_iast (t0 := 0) hx hb hK hw 16 (mo_19 a k3 u) (mq_19 a k3 u) rfl h25 dX8_least_273 (fun H locs (hw : wd D vwCl (mC a k3) A s.heap u26 H locs) => ?_)
      refine lv_aload_n hx hb dX8_least_274 rfl (lv_at hl 0 rfl) ?_
      refine va_get (D := D) (ci := 8) (v := .ref (a 20)) (C := RX8) (T := TX8) (N := 28) hx hb htG in_8 hown hK hw.1 0 (mo_0 a k3 u26) rfl 25 (by decide) f_73 (fun _ h9 => h9) rfl dX8_least_275 ?_
      refine lv_aload_n hx hb dX8_least_278 rfl (lv_at hl 0 rfl) ?_
      refine va_get (D := D) (ci := 8) (v := .int (s4_i u26 3)) (C := RX8) (T := TX8) (N := 28) hx hb htG in_8 hown hK hw.1 0 (mo_0 a k3 u26) rfl 23 (by decide) f_66 (fun _ h9 => h9) rfl dX8_least_279 ?_
      refine lv_aload_n hx hb dX8_least_282 rfl (lv_at hl 0 rfl) ?_
      refine va_get (D := D) (ci := 8) (v := .ref (a 17)) (C := RX8) (T := TX8) (N := 28) hx hb htG in_8 hown hK hw.1 0 (mo_0 a k3 u26) rfl 21 (by decide) f_60 (fun _ h9 => h9) rfl dX8_least_283 ?_
      refine lv_iload hx hb dX8_least_286 (lv_at hl 4 rfl) ?_
      obtain ⟨h27, hq⟩ := hq
      refine y_iald (t0 := 0) hx hb hK hw 14 (mo_17 a k3 u26) rfl h27 dX8_least_288 ?_
      obtain ⟨h28, hq⟩ := hq
      let u29 : S4 := s4_wa u26 17 (s4_i u26 3) (s4_ra u26 14 y9)
      refine y_iast (t0 := 0) hx hb hK hw 17 (mo_20 a k3 u26) (mq_20 a k3 u26) rfl h28 dX8_least_289 (fun H locs (hw : wd D vwCl (mC a k3) A s.heap u29 H locs) => ?_)
      refine lv_aload_n hx hb dX8_least_290 rfl (lv_at hl 0 rfl) ?_
      refine lv_dup hx hb dX8_least_291 rfl ?_
      refine va_get (D := D) (ci := 8) (v := .int (s4_i u29 3)) (C := RX8) (T := TX8) (N := 28) hx hb htG in_8 hown hK hw.1 0 (mo_0 a k3 u29) rfl 23 (by decide) f_66 (fun _ h9 => h9) rfl dX8_least_292 ?_
      refine lv_iconst (v := 1) hx hb dX8_least_295 (by decide) ?_
      refine lv_iadd hx hb dX8_least_296 ?_
      let v30 : Int32 := ((s4_i u29 3) + (1 : Int32))
      let u31 : S4 := s4_si u29 3 v30
      refine y_puti hx hb htG in_8 tyX8 tyX8_ok nX8 hown hK hw 3 (mo_0 a k3 u29) rfl 23 (by decide) f_66 (fun _ h9 => h9) rfl (by decide +kernel) (Nat.le_of_ble_eq_true rfl) (mt_i3 a k3 u29 v30) dX8_least_297 (fun H locs (hw : wd D vwCl (mC a k3) A s.heap u31 H locs) => ?_)
      refine lv_iload hx hb dX8_least_300 (lv_at hl 4 rfl) ?_
      refine lv_istore (lv' := [(8, .int y9), (0, .ref (a 0)), (5, .int y5), (7, .int y7), (9, .int y9)]) hx hb dX8_least_302 hl (by decide) rfl (fun ls hl => ?_)
      refine lv_goto (tgt := 226) hx hb dX8_least_304 (by decide) ?_
      exact hK226 u31 (y5) (y7) (y9) H locs ls hq hP hw (lv_sub hl [1, 2, 3, 0] rfl)
    · have hP := (if_pos c24).symm.trans hP
      have hq := hq.1 c24
      let v32 : Int32 := (y9 + (1 : Int32))
      refine lv_iinc (v := v32) (lv' := [(9, .int v32), (0, .ref (a 0)), (5, .int y5), (7, .int y7), (8, .int y8)]) hx hb dX8_least_257 hl (k := 4) rfl rfl (by decide) rfl (fun ls hl => ?_)
      refine lv_goto (tgt := 236) hx hb dX8_least_260 (by decide) ?_
      exact hK236 u (y5) (y7) (y8) (v32) H locs ls hq hP hw (lv_sub hl [1, 2, 3, 4, 0] rfl)
set_option maxHeartbeats 4000000 in
set_option maxRecDepth 100000 in
theorem mw_M_least_236 (l : Launch) (D : va_G) (a : Nat → Nat) (k3 : K3) {p : Program} {e : Env} {s : State} {m : MethodId} {below : List Frame} {meth : Method} {c : Code} {A : Nat → Prop} (av : Array Value) (F : Fx p s m meth c av cX8_least 11 (some .int) yX8_least.cls (kX8_least :: tbG) D vwCl (ty3 k3) nestW A) (P : Int32 × S4) (K226 : S4 → Int32 → Int32 → Int32 → (Int32 × S4)) (Q226 : S4 → Int32 → Int32 → Int32 → Prop) (hK226 : ∀ (u : S4) (y5 : Int32) (y7 : Int32) (y8 : Int32) (H : Heap) (locs : List Loc) (ls : Array Slot), Q226 u y5 y7 y8 → K226 u y5 y7 y8 = P → wd D vwCl (mC a k3) A s.heap u H locs → lv_has ls 11 [(0, .ref (a 0)), (5, .int y5), (7, .int y7), (8, .int y8)] → W p l e rm_mM_least s m av below meth c H locs 0 0 (QI below D vwCl (mC a k3) A av s P) (F0 m 226 ls [])) : ∀ (n : Nat), ∀ (u : S4) (y5 : Int32) (y7 : Int32) (y8 : Int32) (y9 : Int32) (H : Heap) (locs : List Loc) (ls : Array Slot), mLq_M_least_236 Q226 n u y5 y7 y8 y9 → mL_M_least_236 K226 n u y5 y7 y8 y9 = P → wd D vwCl (mC a k3) A s.heap u H locs → lv_has ls 11 [(0, .ref (a 0)), (5, .int y5), (7, .int y7), (8, .int y8), (9, .int y9)] → W p l e rm_mM_least s m av below meth c H locs 0 0 (QI below D vwCl (mC a k3) A av s P) (F0 m 236 ls []) := by
  intro n
  induction n with
  | zero => intro u y5 y7 y8 y9 H locs ls hq hP hw hl; exact hq.elim
  | succ n ih => intro u y5 y7 y8 y9 H locs ls hq hP hw hl; exact ms_M_least_236 l D a k3 av F P K226 Q226 hK226 (mL_M_least_236 K226 n) (mLq_M_least_236 Q226 n) ih u y5 y7 y8 y9 H locs ls hq hP hw hl
def mB_M_least_226 (K226 : S4 → Int32 → Int32 → Int32 → (Int32 × S4)) (u : S4) (y5 : Int32) (y7 : Int32) (y8 : Int32) : Int32 × S4 :=
  if y8 = y7 then
    (((s4_ra u 13 y7) - y5), u)
  else
    mL_M_least_236 K226 64 u y5 y7 y8 (0 : Int32)
def mL_M_least_226 : Nat → S4 → Int32 → Int32 → Int32 → (Int32 × S4)
  | 0 => fun u _ _ _ => (0, u)
  | n + 1 => mB_M_least_226 (mL_M_least_226 n)
def mBq_M_least_226 (Q226 : S4 → Int32 → Int32 → Int32 → Prop) (u : S4) (y5 : Int32) (y7 : Int32) (y8 : Int32) : Prop :=
  ((y8 = y7 →
    vp_in y7 24) ∧ (¬ y8 = y7 →
    mLq_M_least_236 Q226 64 u y5 y7 y8 (0 : Int32)))
def mLq_M_least_226 : Nat → S4 → Int32 → Int32 → Int32 → Prop
  | 0 => fun _ _ _ _ => False
  | n + 1 => mBq_M_least_226 (mLq_M_least_226 n)
set_option maxHeartbeats 4000000 in
set_option maxRecDepth 100000 in
theorem ms_M_least_226 (l : Launch) (D : va_G) (a : Nat → Nat) (k3 : K3) {p : Program} {e : Env} {s : State} {m : MethodId} {below : List Frame} {meth : Method} {c : Code} {A : Nat → Prop} (av : Array Value) (F : Fx p s m meth c av cX8_least 11 (some .int) yX8_least.cls (kX8_least :: tbG) D vwCl (ty3 k3) nestW A) (P : Int32 × S4) (K226 : S4 → Int32 → Int32 → Int32 → (Int32 × S4)) (Q226 : S4 → Int32 → Int32 → Int32 → Prop) (hK226 : ∀ (u : S4) (y5 : Int32) (y7 : Int32) (y8 : Int32) (H : Heap) (locs : List Loc) (ls : Array Slot), Q226 u y5 y7 y8 → K226 u y5 y7 y8 = P → wd D vwCl (mC a k3) A s.heap u H locs → lv_has ls 11 [(0, .ref (a 0)), (5, .int y5), (7, .int y7), (8, .int y8)] → W p l e rm_mM_least s m av below meth c H locs 0 0 (QI below D vwCl (mC a k3) A av s P) (F0 m 226 ls [])) : ∀ (u : S4) (y5 : Int32) (y7 : Int32) (y8 : Int32) (H : Heap) (locs : List Loc) (ls : Array Slot), mBq_M_least_226 Q226 u y5 y7 y8 → mB_M_least_226 K226 u y5 y7 y8 = P → wd D vwCl (mC a k3) A s.heap u H locs → lv_has ls 11 [(0, .ref (a 0)), (5, .int y5), (7, .int y7), (8, .int y8)] → W p l e rm_mM_least s m av below meth c H locs 0 0 (QI below D vwCl (mC a k3) A av s P) (F0 m 226 ls []) := by
  obtain ⟨hx, hb, hr, hml, hown, hts, hK, hN, hlocks, hA⟩ := id F
  have hown : s.vm.findClass RX8 = some m.cls := hown
  have htG : ∀ w ∈ tbG, w.before av s = true := fun w h => hts w (List.mem_cons_of_mem _ h)
  have f_57 := htG _ tb_534
  intro u y5 y7 y8 H locs ls hq hP hw hl
  refine lv_iload hx hb dX8_least_226 (lv_at hl 3 rfl) ?_
  refine lv_iload hx hb dX8_least_228 (lv_at hl 2 rfl) ?_
  refine lv_icmp_eq (tgt := 307) hx hb dX8_least_230 (by decide) (fun c17 => ?_) (fun c17 => ?_)
  · have hP := (if_pos c17).symm.trans hP
    have hq := hq.1 c17
    refine lv_aload_n hx hb dX8_least_307 rfl (lv_at hl 0 rfl) ?_
    refine va_get (D := D) (ci := 8) (v := .ref (a 16)) (C := RX8) (T := TX8) (N := 28) hx hb htG in_8 hown hK hw.1 0 (mo_0 a k3 u) rfl 20 (by decide) f_57 (fun _ h9 => h9) rfl dX8_least_308 ?_
    refine lv_iload hx hb dX8_least_311 (lv_at hl 2 rfl) ?_
    have h18 := hq
    refine y_iald (t0 := 0) hx hb hK hw 13 (mo_16 a k3 u) rfl h18 dX8_least_313 ?_
    refine lv_iload hx hb dX8_least_314 (lv_at hl 1 rfl) ?_
    refine lv_isub hx hb dX8_least_316 ?_
    exact ret_i hx hb hr hlocks hw dX8_least_317 hP
  · have hP := (if_neg c17).symm.trans hP
    have hq := hq.2 c17
    refine lv_iconst (v := 0) hx hb dX8_least_233 (by decide) ?_
    refine lv_istore (lv' := [(9, .int (0 : Int32)), (0, .ref (a 0)), (5, .int y5), (7, .int y7), (8, .int y8)]) hx hb dX8_least_234 hl (by decide) rfl (fun ls hl => ?_)
    exact mw_M_least_236 l D a k3 av F P K226 Q226 hK226 64 u y5 y7 y8 (0 : Int32) H locs ls hq hP hw (lv_sub hl [1, 2, 3, 4, 0] rfl)
set_option maxHeartbeats 4000000 in
set_option maxRecDepth 100000 in
theorem mw_M_least_226 (l : Launch) (D : va_G) (a : Nat → Nat) (k3 : K3) {p : Program} {e : Env} {s : State} {m : MethodId} {below : List Frame} {meth : Method} {c : Code} {A : Nat → Prop} (av : Array Value) (F : Fx p s m meth c av cX8_least 11 (some .int) yX8_least.cls (kX8_least :: tbG) D vwCl (ty3 k3) nestW A) (P : Int32 × S4) : ∀ (n : Nat), ∀ (u : S4) (y5 : Int32) (y7 : Int32) (y8 : Int32) (H : Heap) (locs : List Loc) (ls : Array Slot), mLq_M_least_226 n u y5 y7 y8 → mL_M_least_226 n u y5 y7 y8 = P → wd D vwCl (mC a k3) A s.heap u H locs → lv_has ls 11 [(0, .ref (a 0)), (5, .int y5), (7, .int y7), (8, .int y8)] → W p l e rm_mM_least s m av below meth c H locs 0 0 (QI below D vwCl (mC a k3) A av s P) (F0 m 226 ls []) := by
  intro n
  induction n with
  | zero => intro u y5 y7 y8 H locs ls hq hP hw hl; exact hq.elim
  | succ n ih => intro u y5 y7 y8 H locs ls hq hP hw hl; exact ms_M_least_226 l D a k3 av F P (mL_M_least_226 n) (mLq_M_least_226 n) ih u y5 y7 y8 H locs ls hq hP hw hl
def mB_M_least_150 (K126 : S4 → Int32 → Int32 → Int32 → Int32 → (Int32 × S4)) (K136 : S4 → Int32 → Int32 → Int32 → Int32 → Int32 → (Int32 × S4)) (K150 : S4 → Int32 → Int32 → Int32 → Int32 → Int32 → Int32 → (Int32 × S4)) (u : S4) (y5 : Int32) (y6 : Int32) (y7 : Int32) (y8 : Int32) (y9 : Int32) (y10 : Int32) : Int32 × S4 :=
  if ((2 : Int32) * (s4_i u 1)) ≤ y10 then
    let v36 : Int32 := (y9 + (1 : Int32))
    K136 u y5 y6 y7 y8 v36
  else
    if (s4_ra u 15 y9) = (0 : Int32) then
      if (s4_ra u 15 y10) = (0 : Int32) then
        let u45 : S4 := s4_wz u 15 y9 (0 : Int32)
        let v46 : Int32 := (y10 + (1 : Int32))
        K150 u45 y5 y6 y7 y8 y9 v46
      else
        let r48 : Int32 := mp_M_isStep u y9 y10
        if r48 = (0 : Int32) then
          let u51 : S4 := s4_wz u 15 y9 (0 : Int32)
          let v52 : Int32 := (y10 + (1 : Int32))
          K150 u51 y5 y6 y7 y8 y9 v52
        else
          let u54 : S4 := s4_wz u 15 y9 (1 : Int32)
          let v55 : Int32 := (y10 + (1 : Int32))
          K150 u54 y5 y6 y7 y8 y9 v55
    else
      let u40 : S4 := s4_wz u 15 y9 (1 : Int32)
      let v41 : Int32 := (y10 + (1 : Int32))
      K150 u40 y5 y6 y7 y8 y9 v41
def mL_M_least_150 (K126 : S4 → Int32 → Int32 → Int32 → Int32 → (Int32 × S4)) (K136 : S4 → Int32 → Int32 → Int32 → Int32 → Int32 → (Int32 × S4)) : Nat → S4 → Int32 → Int32 → Int32 → Int32 → Int32 → Int32 → (Int32 × S4)
  | 0 => fun u _ _ _ _ _ _ => (0, u)
  | n + 1 => mB_M_least_150 K126 K136 (mL_M_least_150 K126 K136 n)
def mBq_M_least_150 (Q126 : S4 → Int32 → Int32 → Int32 → Int32 → Prop) (Q136 : S4 → Int32 → Int32 → Int32 → Int32 → Int32 → Prop) (Q150 : S4 → Int32 → Int32 → Int32 → Int32 → Int32 → Int32 → Prop) (u : S4) (y5 : Int32) (y6 : Int32) (y7 : Int32) (y8 : Int32) (y9 : Int32) (y10 : Int32) : Prop :=
  ((((2 : Int32) * (s4_i u 1)) ≤ y10 →
    let v36 : Int32 := (y9 + (1 : Int32))
    Q136 u y5 y6 y7 y8 v36) ∧ (¬ ((2 : Int32) * (s4_i u 1)) ≤ y10 →
    vp_in y9 24 ∧
    (((s4_ra u 15 y9) = (0 : Int32) →
      vp_in y10 24 ∧
      (((s4_ra u 15 y10) = (0 : Int32) →
        vp_in y9 24 ∧
        let u45 : S4 := s4_wz u 15 y9 (0 : Int32)
        let v46 : Int32 := (y10 + (1 : Int32))
        Q150 u45 y5 y6 y7 y8 y9 v46) ∧ (¬ (s4_ra u 15 y10) = (0 : Int32) →
        mq_M_isStep u y9 y10 ∧
        let r48 : Int32 := mp_M_isStep u y9 y10
        ((r48 = (0 : Int32) →
          vp_in y9 24 ∧
          let u51 : S4 := s4_wz u 15 y9 (0 : Int32)
          let v52 : Int32 := (y10 + (1 : Int32))
          Q150 u51 y5 y6 y7 y8 y9 v52) ∧ (¬ r48 = (0 : Int32) →
          vp_in y9 24 ∧
          let u54 : S4 := s4_wz u 15 y9 (1 : Int32)
          let v55 : Int32 := (y10 + (1 : Int32))
          Q150 u54 y5 y6 y7 y8 y9 v55))))) ∧ (¬ (s4_ra u 15 y9) = (0 : Int32) →
      vp_in y9 24 ∧
      let u40 : S4 := s4_wz u 15 y9 (1 : Int32)
      let v41 : Int32 := (y10 + (1 : Int32))
      Q150 u40 y5 y6 y7 y8 y9 v41))))
def mLq_M_least_150 (Q126 : S4 → Int32 → Int32 → Int32 → Int32 → Prop) (Q136 : S4 → Int32 → Int32 → Int32 → Int32 → Int32 → Prop) : Nat → S4 → Int32 → Int32 → Int32 → Int32 → Int32 → Int32 → Prop
  | 0 => fun _ _ _ _ _ _ _ => False
  | n + 1 => mBq_M_least_150 Q126 Q136 (mLq_M_least_150 Q126 Q136 n)
set_option maxHeartbeats 4000000 in
set_option maxRecDepth 100000 in
theorem ms_M_least_150 (l : Launch) (D : va_G) (a : Nat → Nat) (k3 : K3) {p : Program} {e : Env} {s : State} {m : MethodId} {below : List Frame} {meth : Method} {c : Code} {A : Nat → Prop} (av : Array Value) (F : Fx p s m meth c av cX8_least 11 (some .int) yX8_least.cls (kX8_least :: tbG) D vwCl (ty3 k3) nestW A) (P : Int32 × S4) (K126 : S4 → Int32 → Int32 → Int32 → Int32 → (Int32 × S4)) (Q126 : S4 → Int32 → Int32 → Int32 → Int32 → Prop) (hK126 : ∀ (u : S4) (y5 : Int32) (y6 : Int32) (y7 : Int32) (y8 : Int32) (H : Heap) (locs : List Loc) (ls : Array Slot), Q126 u y5 y6 y7 y8 → K126 u y5 y6 y7 y8 = P → wd D vwCl (mC a k3) A s.heap u H locs → lv_has ls 11 [(0, .ref (a 0)), (5, .int y5), (6, .int y6), (7, .int y7), (8, .int y8)] → W p l e rm_mM_least s m av below meth c H locs 0 0 (QI below D vwCl (mC a k3) A av s P) (F0 m 126 ls [])) (K136 : S4 → Int32 → Int32 → Int32 → Int32 → Int32 → (Int32 × S4)) (Q136 : S4 → Int32 → Int32 → Int32 → Int32 → Int32 → Prop) (hK136 : ∀ (u : S4) (y5 : Int32) (y6 : Int32) (y7 : Int32) (y8 : Int32) (y9 : Int32) (H : Heap) (locs : List Loc) (ls : Array Slot), Q136 u y5 y6 y7 y8 y9 → K136 u y5 y6 y7 y8 y9 = P → wd D vwCl (mC a k3) A s.heap u H locs → lv_has ls 11 [(0, .ref (a 0)), (5, .int y5), (6, .int y6), (7, .int y7), (8, .int y8), (9, .int y9)] → W p l e rm_mM_least s m av below meth c H locs 0 0 (QI below D vwCl (mC a k3) A av s P) (F0 m 136 ls [])) (K150 : S4 → Int32 → Int32 → Int32 → Int32 → Int32 → Int32 → (Int32 × S4)) (Q150 : S4 → Int32 → Int32 → Int32 → Int32 → Int32 → Int32 → Prop) (hK150 : ∀ (u : S4) (y5 : Int32) (y6 : Int32) (y7 : Int32) (y8 : Int32) (y9 : Int32) (y10 : Int32) (H : Heap) (locs : List Loc) (ls : Array Slot), Q150 u y5 y6 y7 y8 y9 y10 → K150 u y5 y6 y7 y8 y9 y10 = P → wd D vwCl (mC a k3) A s.heap u H locs → lv_has ls 11 [(0, .ref (a 0)), (5, .int y5), (6, .int y6), (7, .int y7), (8, .int y8), (9, .int y9), (10, .int y10)] → W p l e rm_mM_least s m av below meth c H locs 0 0 (QI below D vwCl (mC a k3) A av s P) (F0 m 150 ls [])) : ∀ (u : S4) (y5 : Int32) (y6 : Int32) (y7 : Int32) (y8 : Int32) (y9 : Int32) (y10 : Int32) (H : Heap) (locs : List Loc) (ls : Array Slot), mBq_M_least_150 Q126 Q136 Q150 u y5 y6 y7 y8 y9 y10 → mB_M_least_150 K126 K136 K150 u y5 y6 y7 y8 y9 y10 = P → wd D vwCl (mC a k3) A s.heap u H locs → lv_has ls 11 [(0, .ref (a 0)), (5, .int y5), (6, .int y6), (7, .int y7), (8, .int y8), (9, .int y9), (10, .int y10)] → W p l e rm_mM_least s m av below meth c H locs 0 0 (QI below D vwCl (mC a k3) A av s P) (F0 m 150 ls []) := by
  obtain ⟨hx, hb, hr, hml, hown, hts, hK, hN, hlocks, hA⟩ := id F
  have hown : s.vm.findClass RX8 = some m.cls := hown
  have htG : ∀ w ∈ tbG, w.before av s = true := fun w h => hts w (List.mem_cons_of_mem _ h)
  have f_85 := htG _ tb_518
  have f_63 := htG _ tb_536
  intro u y5 y6 y7 y8 y9 y10 H locs ls hq hP hw hl
  refine lv_iload hx hb dX8_least_150 (lv_at hl 6 rfl) ?_
  refine lv_iconst (v := 2) hx hb dX8_least_152 (by decide) ?_
  refine lv_aload_n hx hb dX8_least_153 rfl (lv_at hl 0 rfl) ?_
  refine va_get (D := D) (ci := 8) (v := .int (s4_i u 1)) (C := RX8) (T := TX8) (N := 28) hx hb htG in_8 hown hK hw.1 0 (mo_0 a k3 u) rfl 4 (by decide) f_85 (fun _ h9 => h9) rfl dX8_least_154 ?_
  refine lv_imul hx hb dX8_least_157 ?_
  refine lv_icmp_ge (tgt := 210) hx hb dX8_least_158 (by decide) (fun c35 => ?_) (fun c35 => ?_)
  · have hP := (if_pos c35).symm.trans hP
    have hq := hq.1 c35
    let v36 : Int32 := (y9 + (1 : Int32))
    refine lv_iinc (v := v36) (lv' := [(9, .int v36), (0, .ref (a 0)), (5, .int y5), (6, .int y6), (7, .int y7), (8, .int y8), (10, .int y10)]) hx hb dX8_least_210 hl (k := 5) rfl rfl (by decide) rfl (fun ls hl => ?_)
    refine lv_goto (tgt := 136) hx hb dX8_least_213 (by decide) ?_
    exact hK136 u (y5) (y6) (y7) (y8) (v36) H locs ls hq hP hw (lv_sub hl [1, 2, 3, 4, 5, 0] rfl)
  · have hP := (if_neg c35).symm.trans hP
    have hq := hq.2 c35
    refine lv_aload_n hx hb dX8_least_161 rfl (lv_at hl 0 rfl) ?_
    refine va_get (D := D) (ci := 8) (v := .ref (a 18)) (C := RX8) (T := TX8) (N := 28) hx hb htG in_8 hown hK hw.1 0 (mo_0 a k3 u) rfl 22 (by decide) f_63 (fun _ h9 => h9) rfl dX8_least_162 ?_
    refine lv_iload hx hb dX8_least_165 (lv_at hl 5 rfl) ?_
    refine lv_aload_n hx hb dX8_least_167 rfl (lv_at hl 0 rfl) ?_
    refine va_get (D := D) (ci := 8) (v := .ref (a 18)) (C := RX8) (T := TX8) (N := 28) hx hb htG in_8 hown hK hw.1 0 (mo_0 a k3 u) rfl 22 (by decide) f_63 (fun _ h9 => h9) rfl dX8_least_168 ?_
    refine lv_iload hx hb dX8_least_171 (lv_at hl 5 rfl) ?_
    obtain ⟨h37, hq⟩ := hq
    refine y_zald (t0 := 2) hx hb hK hw 15 (mo_18 a k3 u) rfl h37 dX8_least_173 ?_
    refine lv_if_ne (tgt := 198) hx hb dX8_least_174 (by decide) (fun c38 => ?_) (fun c38 => ?_)
    · have hP := (if_neg c38).symm.trans hP
      have hq := hq.2 c38
      refine lv_iconst (v := 1) hx hb dX8_least_198 (by decide) ?_
      refine lv_goto (tgt := 203) hx hb dX8_least_199 (by decide) ?_
      obtain ⟨h39, hq⟩ := hq
      let u40 : S4 := s4_wz u 15 y9 (1 : Int32)
      refine y_zast (t0 := 2) hx hb hK hw 15 (mo_18 a k3 u) (mq_18 a k3 u) rfl h39 dX8_least_203 (fun H locs (hw : wd D vwCl (mC a k3) A s.heap u40 H locs) => ?_)
      let v41 : Int32 := (y10 + (1 : Int32))
      refine lv_iinc (v := v41) (lv' := [(10, .int v41), (0, .ref (a 0)), (5, .int y5), (6, .int y6), (7, .int y7), (8, .int y8), (9, .int y9)]) hx hb dX8_least_204 hl (k := 6) rfl rfl (by decide) rfl (fun ls hl => ?_)
      refine lv_goto (tgt := 150) hx hb dX8_least_207 (by decide) ?_
      exact hK150 u40 (y5) (y6) (y7) (y8) (y9) (v41) H locs ls hq hP hw (lv_sub hl [1, 2, 3, 4, 5, 6, 0] rfl)
    · have hP := (if_pos c38).symm.trans hP
      have hq := hq.1 c38
      refine lv_aload_n hx hb dX8_least_177 rfl (lv_at hl 0 rfl) ?_
      refine va_get (D := D) (ci := 8) (v := .ref (a 18)) (C := RX8) (T := TX8) (N := 28) hx hb htG in_8 hown hK hw.1 0 (mo_0 a k3 u) rfl 22 (by decide) f_63 (fun _ h9 => h9) rfl dX8_least_178 ?_
      refine lv_iload hx hb dX8_least_181 (lv_at hl 6 rfl) ?_
      obtain ⟨h42, hq⟩ := hq
      refine y_zald (t0 := 2) hx hb hK hw 15 (mo_18 a k3 u) rfl h42 dX8_least_183 ?_
      refine lv_if_eq (tgt := 202) hx hb dX8_least_184 (by decide) (fun c43 => ?_) (fun c43 => ?_)
      · have hP := (if_pos c43).symm.trans hP
        have hq := hq.1 c43
        refine lv_iconst (v := 0) hx hb dX8_least_202 (by decide) ?_
        obtain ⟨h44, hq⟩ := hq
        let u45 : S4 := s4_wz u 15 y9 (0 : Int32)
        refine y_zast (t0 := 2) hx hb hK hw 15 (mo_18 a k3 u) (mq_18 a k3 u) rfl h44 dX8_least_203 (fun H locs (hw : wd D vwCl (mC a k3) A s.heap u45 H locs) => ?_)
        let v46 : Int32 := (y10 + (1 : Int32))
        refine lv_iinc (v := v46) (lv' := [(10, .int v46), (0, .ref (a 0)), (5, .int y5), (6, .int y6), (7, .int y7), (8, .int y8), (9, .int y9)]) hx hb dX8_least_204 hl (k := 6) rfl rfl (by decide) rfl (fun ls hl => ?_)
        refine lv_goto (tgt := 150) hx hb dX8_least_207 (by decide) ?_
        exact hK150 u45 (y5) (y6) (y7) (y8) (y9) (v46) H locs ls hq hP hw (lv_sub hl [1, 2, 3, 4, 5, 6, 0] rfl)
      · have hP := (if_neg c43).symm.trans hP
        have hq := hq.2 c43
        refine lv_aload_n hx hb dX8_least_187 rfl (lv_at hl 0 rfl) ?_
        refine lv_iload hx hb dX8_least_188 (lv_at hl 5 rfl) ?_
        refine lv_iload hx hb dX8_least_190 (lv_at hl 6 rfl) ?_
        obtain ⟨h47, hq⟩ := hq
        let r48 : Int32 := mp_M_isStep u y9 y10
        refine call_vir (rest := [.int y9, .ref (a 18)]) ⟨hx, hb, hml, hown, htG⟩ nestW_ok hK hN hA (mc_M_isStep l D a k3 u y9 y10 h47) (cwV 2 htG (tb_V tb_679 tb_681 tb_18 tb_28 tb_682) rfl rfl rfl (by decide +kernel) ⟨Nat.le_of_ble_eq_true rfl, Nat.le_of_ble_eq_true rfl⟩) (ci := 8) rfl (mo_0 a k3 u) rfl hw rfl hl.1 rfl (Nat.le_of_ble_eq_true rfl) dX8_least_192 ⟨Nat.zero_le _, Nat.zero_le _⟩ (fun H locs (hw : wd D vwCl (mC a k3) A s.heap u H locs) => ?_)
        refine lv_if_eq (tgt := 202) hx hb dX8_least_195 (by decide) (fun c49 => ?_) (fun c49 => ?_)
        · have hP := (if_pos c49).symm.trans hP
          have hq := hq.1 c49
          refine lv_iconst (v := 0) hx hb dX8_least_202 (by decide) ?_
          obtain ⟨h50, hq⟩ := hq
          let u51 : S4 := s4_wz u 15 y9 (0 : Int32)
          refine y_zast (t0 := 2) hx hb hK hw 15 (mo_18 a k3 u) (mq_18 a k3 u) rfl h50 dX8_least_203 (fun H locs (hw : wd D vwCl (mC a k3) A s.heap u51 H locs) => ?_)
          let v52 : Int32 := (y10 + (1 : Int32))
          refine lv_iinc (v := v52) (lv' := [(10, .int v52), (0, .ref (a 0)), (5, .int y5), (6, .int y6), (7, .int y7), (8, .int y8), (9, .int y9)]) hx hb dX8_least_204 hl (k := 6) rfl rfl (by decide) rfl (fun ls hl => ?_)
          refine lv_goto (tgt := 150) hx hb dX8_least_207 (by decide) ?_
          exact hK150 u51 (y5) (y6) (y7) (y8) (y9) (v52) H locs ls hq hP hw (lv_sub hl [1, 2, 3, 4, 5, 6, 0] rfl)
        · have hP := (if_neg c49).symm.trans hP
          have hq := hq.2 c49
          refine lv_iconst (v := 1) hx hb dX8_least_198 (by decide) ?_
          refine lv_goto (tgt := 203) hx hb dX8_least_199 (by decide) ?_
          obtain ⟨h53, hq⟩ := hq
          let u54 : S4 := s4_wz u 15 y9 (1 : Int32)
          refine y_zast (t0 := 2) hx hb hK hw 15 (mo_18 a k3 u) (mq_18 a k3 u) rfl h53 dX8_least_203 (fun H locs (hw : wd D vwCl (mC a k3) A s.heap u54 H locs) => ?_)
          let v55 : Int32 := (y10 + (1 : Int32))
          refine lv_iinc (v := v55) (lv' := [(10, .int v55), (0, .ref (a 0)), (5, .int y5), (6, .int y6), (7, .int y7), (8, .int y8), (9, .int y9)]) hx hb dX8_least_204 hl (k := 6) rfl rfl (by decide) rfl (fun ls hl => ?_)
          refine lv_goto (tgt := 150) hx hb dX8_least_207 (by decide) ?_
          exact hK150 u54 (y5) (y6) (y7) (y8) (y9) (v55) H locs ls hq hP hw (lv_sub hl [1, 2, 3, 4, 5, 6, 0] rfl)
set_option maxHeartbeats 4000000 in
set_option maxRecDepth 100000 in
theorem mw_M_least_150 (l : Launch) (D : va_G) (a : Nat → Nat) (k3 : K3) {p : Program} {e : Env} {s : State} {m : MethodId} {below : List Frame} {meth : Method} {c : Code} {A : Nat → Prop} (av : Array Value) (F : Fx p s m meth c av cX8_least 11 (some .int) yX8_least.cls (kX8_least :: tbG) D vwCl (ty3 k3) nestW A) (P : Int32 × S4) (K126 : S4 → Int32 → Int32 → Int32 → Int32 → (Int32 × S4)) (Q126 : S4 → Int32 → Int32 → Int32 → Int32 → Prop) (hK126 : ∀ (u : S4) (y5 : Int32) (y6 : Int32) (y7 : Int32) (y8 : Int32) (H : Heap) (locs : List Loc) (ls : Array Slot), Q126 u y5 y6 y7 y8 → K126 u y5 y6 y7 y8 = P → wd D vwCl (mC a k3) A s.heap u H locs → lv_has ls 11 [(0, .ref (a 0)), (5, .int y5), (6, .int y6), (7, .int y7), (8, .int y8)] → W p l e rm_mM_least s m av below meth c H locs 0 0 (QI below D vwCl (mC a k3) A av s P) (F0 m 126 ls [])) (K136 : S4 → Int32 → Int32 → Int32 → Int32 → Int32 → (Int32 × S4)) (Q136 : S4 → Int32 → Int32 → Int32 → Int32 → Int32 → Prop) (hK136 : ∀ (u : S4) (y5 : Int32) (y6 : Int32) (y7 : Int32) (y8 : Int32) (y9 : Int32) (H : Heap) (locs : List Loc) (ls : Array Slot), Q136 u y5 y6 y7 y8 y9 → K136 u y5 y6 y7 y8 y9 = P → wd D vwCl (mC a k3) A s.heap u H locs → lv_has ls 11 [(0, .ref (a 0)), (5, .int y5), (6, .int y6), (7, .int y7), (8, .int y8), (9, .int y9)] → W p l e rm_mM_least s m av below meth c H locs 0 0 (QI below D vwCl (mC a k3) A av s P) (F0 m 136 ls [])) : ∀ (n : Nat), ∀ (u : S4) (y5 : Int32) (y6 : Int32) (y7 : Int32) (y8 : Int32) (y9 : Int32) (y10 : Int32) (H : Heap) (locs : List Loc) (ls : Array Slot), mLq_M_least_150 Q126 Q136 n u y5 y6 y7 y8 y9 y10 → mL_M_least_150 K126 K136 n u y5 y6 y7 y8 y9 y10 = P → wd D vwCl (mC a k3) A s.heap u H locs → lv_has ls 11 [(0, .ref (a 0)), (5, .int y5), (6, .int y6), (7, .int y7), (8, .int y8), (9, .int y9), (10, .int y10)] → W p l e rm_mM_least s m av below meth c H locs 0 0 (QI below D vwCl (mC a k3) A av s P) (F0 m 150 ls []) := by
  intro n
  induction n with
  | zero => intro u y5 y6 y7 y8 y9 y10 H locs ls hq hP hw hl; exact hq.elim
  | succ n ih => intro u y5 y6 y7 y8 y9 y10 H locs ls hq hP hw hl; exact ms_M_least_150 l D a k3 av F P K126 Q126 hK126 K136 Q136 hK136 (mL_M_least_150 K126 K136 n) (mLq_M_least_150 Q126 Q136 n) ih u y5 y6 y7 y8 y9 y10 H locs ls hq hP hw hl
def mB_M_least_136 (K126 : S4 → Int32 → Int32 → Int32 → Int32 → (Int32 × S4)) (K136 : S4 → Int32 → Int32 → Int32 → Int32 → Int32 → (Int32 × S4)) (u : S4) (y5 : Int32) (y6 : Int32) (y7 : Int32) (y8 : Int32) (y9 : Int32) : Int32 × S4 :=
  if ((2 : Int32) * (s4_i u 1)) ≤ y9 then
    let v34 : Int32 := (y8 + (1 : Int32))
    K126 u y5 y6 y7 v34
  else
    mL_M_least_150 K126 K136 64 u y5 y6 y7 y8 y9 (0 : Int32)
def mL_M_least_136 (K126 : S4 → Int32 → Int32 → Int32 → Int32 → (Int32 × S4)) : Nat → S4 → Int32 → Int32 → Int32 → Int32 → Int32 → (Int32 × S4)
  | 0 => fun u _ _ _ _ _ => (0, u)
  | n + 1 => mB_M_least_136 K126 (mL_M_least_136 K126 n)
def mBq_M_least_136 (Q126 : S4 → Int32 → Int32 → Int32 → Int32 → Prop) (Q136 : S4 → Int32 → Int32 → Int32 → Int32 → Int32 → Prop) (u : S4) (y5 : Int32) (y6 : Int32) (y7 : Int32) (y8 : Int32) (y9 : Int32) : Prop :=
  ((((2 : Int32) * (s4_i u 1)) ≤ y9 →
    let v34 : Int32 := (y8 + (1 : Int32))
    Q126 u y5 y6 y7 v34) ∧ (¬ ((2 : Int32) * (s4_i u 1)) ≤ y9 →
    mLq_M_least_150 Q126 Q136 64 u y5 y6 y7 y8 y9 (0 : Int32)))
def mLq_M_least_136 (Q126 : S4 → Int32 → Int32 → Int32 → Int32 → Prop) : Nat → S4 → Int32 → Int32 → Int32 → Int32 → Int32 → Prop
  | 0 => fun _ _ _ _ _ _ => False
  | n + 1 => mBq_M_least_136 Q126 (mLq_M_least_136 Q126 n)
set_option maxHeartbeats 4000000 in
set_option maxRecDepth 100000 in
theorem ms_M_least_136 (l : Launch) (D : va_G) (a : Nat → Nat) (k3 : K3) {p : Program} {e : Env} {s : State} {m : MethodId} {below : List Frame} {meth : Method} {c : Code} {A : Nat → Prop} (av : Array Value) (F : Fx p s m meth c av cX8_least 11 (some .int) yX8_least.cls (kX8_least :: tbG) D vwCl (ty3 k3) nestW A) (P : Int32 × S4) (K126 : S4 → Int32 → Int32 → Int32 → Int32 → (Int32 × S4)) (Q126 : S4 → Int32 → Int32 → Int32 → Int32 → Prop) (hK126 : ∀ (u : S4) (y5 : Int32) (y6 : Int32) (y7 : Int32) (y8 : Int32) (H : Heap) (locs : List Loc) (ls : Array Slot), Q126 u y5 y6 y7 y8 → K126 u y5 y6 y7 y8 = P → wd D vwCl (mC a k3) A s.heap u H locs → lv_has ls 11 [(0, .ref (a 0)), (5, .int y5), (6, .int y6), (7, .int y7), (8, .int y8)] → W p l e rm_mM_least s m av below meth c H locs 0 0 (QI below D vwCl (mC a k3) A av s P) (F0 m 126 ls [])) (K136 : S4 → Int32 → Int32 → Int32 → Int32 → Int32 → (Int32 × S4)) (Q136 : S4 → Int32 → Int32 → Int32 → Int32 → Int32 → Prop) (hK136 : ∀ (u : S4) (y5 : Int32) (y6 : Int32) (y7 : Int32) (y8 : Int32) (y9 : Int32) (H : Heap) (locs : List Loc) (ls : Array Slot), Q136 u y5 y6 y7 y8 y9 → K136 u y5 y6 y7 y8 y9 = P → wd D vwCl (mC a k3) A s.heap u H locs → lv_has ls 11 [(0, .ref (a 0)), (5, .int y5), (6, .int y6), (7, .int y7), (8, .int y8), (9, .int y9)] → W p l e rm_mM_least s m av below meth c H locs 0 0 (QI below D vwCl (mC a k3) A av s P) (F0 m 136 ls [])) : ∀ (u : S4) (y5 : Int32) (y6 : Int32) (y7 : Int32) (y8 : Int32) (y9 : Int32) (H : Heap) (locs : List Loc) (ls : Array Slot), mBq_M_least_136 Q126 Q136 u y5 y6 y7 y8 y9 → mB_M_least_136 K126 K136 u y5 y6 y7 y8 y9 = P → wd D vwCl (mC a k3) A s.heap u H locs → lv_has ls 11 [(0, .ref (a 0)), (5, .int y5), (6, .int y6), (7, .int y7), (8, .int y8), (9, .int y9)] → W p l e rm_mM_least s m av below meth c H locs 0 0 (QI below D vwCl (mC a k3) A av s P) (F0 m 136 ls []) := by
  obtain ⟨hx, hb, hr, hml, hown, hts, hK, hN, hlocks, hA⟩ := id F
  have hown : s.vm.findClass RX8 = some m.cls := hown
  have htG : ∀ w ∈ tbG, w.before av s = true := fun w h => hts w (List.mem_cons_of_mem _ h)
  have f_85 := htG _ tb_518
  intro u y5 y6 y7 y8 y9 H locs ls hq hP hw hl
  refine lv_iload hx hb dX8_least_136 (lv_at hl 5 rfl) ?_
  refine lv_iconst (v := 2) hx hb dX8_least_138 (by decide) ?_
  refine lv_aload_n hx hb dX8_least_139 rfl (lv_at hl 0 rfl) ?_
  refine va_get (D := D) (ci := 8) (v := .int (s4_i u 1)) (C := RX8) (T := TX8) (N := 28) hx hb htG in_8 hown hK hw.1 0 (mo_0 a k3 u) rfl 4 (by decide) f_85 (fun _ h9 => h9) rfl dX8_least_140 ?_
  refine lv_imul hx hb dX8_least_143 ?_
  refine lv_icmp_ge (tgt := 216) hx hb dX8_least_144 (by decide) (fun c33 => ?_) (fun c33 => ?_)
  · have hP := (if_pos c33).symm.trans hP
    have hq := hq.1 c33
    let v34 : Int32 := (y8 + (1 : Int32))
    refine lv_iinc (v := v34) (lv' := [(8, .int v34), (0, .ref (a 0)), (5, .int y5), (6, .int y6), (7, .int y7), (9, .int y9)]) hx hb dX8_least_216 hl (k := 4) rfl rfl (by decide) rfl (fun ls hl => ?_)
    refine lv_goto (tgt := 126) hx hb dX8_least_219 (by decide) ?_
    exact hK126 u (y5) (y6) (y7) (v34) H locs ls hq hP hw (lv_sub hl [1, 2, 3, 4, 0] rfl)
  · have hP := (if_neg c33).symm.trans hP
    have hq := hq.2 c33
    refine lv_iconst (v := 0) hx hb dX8_least_147 (by decide) ?_
    refine lv_istore (lv' := [(10, .int (0 : Int32)), (0, .ref (a 0)), (5, .int y5), (6, .int y6), (7, .int y7), (8, .int y8), (9, .int y9)]) hx hb dX8_least_148 hl (by decide) rfl (fun ls hl => ?_)
    exact mw_M_least_150 l D a k3 av F P K126 Q126 hK126 K136 Q136 hK136 64 u y5 y6 y7 y8 y9 (0 : Int32) H locs ls hq hP hw (lv_sub hl [1, 2, 3, 4, 5, 6, 0] rfl)
set_option maxHeartbeats 4000000 in
set_option maxRecDepth 100000 in
theorem mw_M_least_136 (l : Launch) (D : va_G) (a : Nat → Nat) (k3 : K3) {p : Program} {e : Env} {s : State} {m : MethodId} {below : List Frame} {meth : Method} {c : Code} {A : Nat → Prop} (av : Array Value) (F : Fx p s m meth c av cX8_least 11 (some .int) yX8_least.cls (kX8_least :: tbG) D vwCl (ty3 k3) nestW A) (P : Int32 × S4) (K126 : S4 → Int32 → Int32 → Int32 → Int32 → (Int32 × S4)) (Q126 : S4 → Int32 → Int32 → Int32 → Int32 → Prop) (hK126 : ∀ (u : S4) (y5 : Int32) (y6 : Int32) (y7 : Int32) (y8 : Int32) (H : Heap) (locs : List Loc) (ls : Array Slot), Q126 u y5 y6 y7 y8 → K126 u y5 y6 y7 y8 = P → wd D vwCl (mC a k3) A s.heap u H locs → lv_has ls 11 [(0, .ref (a 0)), (5, .int y5), (6, .int y6), (7, .int y7), (8, .int y8)] → W p l e rm_mM_least s m av below meth c H locs 0 0 (QI below D vwCl (mC a k3) A av s P) (F0 m 126 ls [])) : ∀ (n : Nat), ∀ (u : S4) (y5 : Int32) (y6 : Int32) (y7 : Int32) (y8 : Int32) (y9 : Int32) (H : Heap) (locs : List Loc) (ls : Array Slot), mLq_M_least_136 Q126 n u y5 y6 y7 y8 y9 → mL_M_least_136 K126 n u y5 y6 y7 y8 y9 = P → wd D vwCl (mC a k3) A s.heap u H locs → lv_has ls 11 [(0, .ref (a 0)), (5, .int y5), (6, .int y6), (7, .int y7), (8, .int y8), (9, .int y9)] → W p l e rm_mM_least s m av below meth c H locs 0 0 (QI below D vwCl (mC a k3) A av s P) (F0 m 136 ls []) := by
  intro n
  induction n with
  | zero => intro u y5 y6 y7 y8 y9 H locs ls hq hP hw hl; exact hq.elim
  | succ n ih => intro u y5 y6 y7 y8 y9 H locs ls hq hP hw hl; exact ms_M_least_136 l D a k3 av F P K126 Q126 hK126 (mL_M_least_136 K126 n) (mLq_M_least_136 Q126 n) ih u y5 y6 y7 y8 y9 H locs ls hq hP hw hl
def mB_M_least_126 (K126 : S4 → Int32 → Int32 → Int32 → Int32 → (Int32 × S4)) (u : S4) (y5 : Int32) (y6 : Int32) (y7 : Int32) (y8 : Int32) : Int32 × S4 :=
  if (24 : Int32) ≤ y8 then
    mL_M_least_226 64 u y5 y7 y6
  else
    mL_M_least_136 K126 64 u y5 y6 y7 y8 (0 : Int32)
def mL_M_least_126 : Nat → S4 → Int32 → Int32 → Int32 → Int32 → (Int32 × S4)
  | 0 => fun u _ _ _ _ => (0, u)
  | n + 1 => mB_M_least_126 (mL_M_least_126 n)
def mBq_M_least_126 (Q126 : S4 → Int32 → Int32 → Int32 → Int32 → Prop) (u : S4) (y5 : Int32) (y6 : Int32) (y7 : Int32) (y8 : Int32) : Prop :=
  (((24 : Int32) ≤ y8 →
    mLq_M_least_226 64 u y5 y7 y6) ∧ (¬ (24 : Int32) ≤ y8 →
    mLq_M_least_136 Q126 64 u y5 y6 y7 y8 (0 : Int32)))
def mLq_M_least_126 : Nat → S4 → Int32 → Int32 → Int32 → Int32 → Prop
  | 0 => fun _ _ _ _ _ => False
  | n + 1 => mBq_M_least_126 (mLq_M_least_126 n)
set_option maxHeartbeats 4000000 in
set_option maxRecDepth 100000 in
theorem ms_M_least_126 (l : Launch) (D : va_G) (a : Nat → Nat) (k3 : K3) {p : Program} {e : Env} {s : State} {m : MethodId} {below : List Frame} {meth : Method} {c : Code} {A : Nat → Prop} (av : Array Value) (F : Fx p s m meth c av cX8_least 11 (some .int) yX8_least.cls (kX8_least :: tbG) D vwCl (ty3 k3) nestW A) (P : Int32 × S4) (K126 : S4 → Int32 → Int32 → Int32 → Int32 → (Int32 × S4)) (Q126 : S4 → Int32 → Int32 → Int32 → Int32 → Prop) (hK126 : ∀ (u : S4) (y5 : Int32) (y6 : Int32) (y7 : Int32) (y8 : Int32) (H : Heap) (locs : List Loc) (ls : Array Slot), Q126 u y5 y6 y7 y8 → K126 u y5 y6 y7 y8 = P → wd D vwCl (mC a k3) A s.heap u H locs → lv_has ls 11 [(0, .ref (a 0)), (5, .int y5), (6, .int y6), (7, .int y7), (8, .int y8)] → W p l e rm_mM_least s m av below meth c H locs 0 0 (QI below D vwCl (mC a k3) A av s P) (F0 m 126 ls [])) : ∀ (u : S4) (y5 : Int32) (y6 : Int32) (y7 : Int32) (y8 : Int32) (H : Heap) (locs : List Loc) (ls : Array Slot), mBq_M_least_126 Q126 u y5 y6 y7 y8 → mB_M_least_126 K126 u y5 y6 y7 y8 = P → wd D vwCl (mC a k3) A s.heap u H locs → lv_has ls 11 [(0, .ref (a 0)), (5, .int y5), (6, .int y6), (7, .int y7), (8, .int y8)] → W p l e rm_mM_least s m av below meth c H locs 0 0 (QI below D vwCl (mC a k3) A av s P) (F0 m 126 ls []) := by
  obtain ⟨hx, hb, hr, hml, hown, hts, hK, hN, hlocks, hA⟩ := id F
  have hown : s.vm.findClass RX8 = some m.cls := hown
  have htG : ∀ w ∈ tbG, w.before av s = true := fun w h => hts w (List.mem_cons_of_mem _ h)
  intro u y5 y6 y7 y8 H locs ls hq hP hw hl
  refine lv_iload hx hb dX8_least_126 (lv_at hl 4 rfl) ?_
  refine lv_bipush (v := 24) hx hb dX8_least_128 (by decide) ?_
  refine lv_icmp_ge (tgt := 222) hx hb dX8_least_130 (by decide) (fun c16 => ?_) (fun c16 => ?_)
  · have hP := (if_pos c16).symm.trans hP
    have hq := hq.1 c16
    refine lv_iload hx hb dX8_least_222 (lv_at hl 2 rfl) ?_
    refine lv_istore (lv' := [(8, .int y6), (0, .ref (a 0)), (5, .int y5), (6, .int y6), (7, .int y7)]) hx hb dX8_least_224 hl (by decide) rfl (fun ls hl => ?_)
    exact mw_M_least_226 l D a k3 av F P 64 u y5 y7 y6 H locs ls hq hP hw (lv_sub hl [1, 2, 4, 0] rfl)
  · have hP := (if_neg c16).symm.trans hP
    have hq := hq.2 c16
    refine lv_iconst (v := 0) hx hb dX8_least_133 (by decide) ?_
    refine lv_istore (lv' := [(9, .int (0 : Int32)), (0, .ref (a 0)), (5, .int y5), (6, .int y6), (7, .int y7), (8, .int y8)]) hx hb dX8_least_134 hl (by decide) rfl (fun ls hl => ?_)
    exact mw_M_least_136 l D a k3 av F P K126 Q126 hK126 64 u y5 y6 y7 y8 (0 : Int32) H locs ls hq hP hw (lv_sub hl [1, 2, 3, 4, 5, 0] rfl)
set_option maxHeartbeats 4000000 in
set_option maxRecDepth 100000 in
theorem mw_M_least_126 (l : Launch) (D : va_G) (a : Nat → Nat) (k3 : K3) {p : Program} {e : Env} {s : State} {m : MethodId} {below : List Frame} {meth : Method} {c : Code} {A : Nat → Prop} (av : Array Value) (F : Fx p s m meth c av cX8_least 11 (some .int) yX8_least.cls (kX8_least :: tbG) D vwCl (ty3 k3) nestW A) (P : Int32 × S4) : ∀ (n : Nat), ∀ (u : S4) (y5 : Int32) (y6 : Int32) (y7 : Int32) (y8 : Int32) (H : Heap) (locs : List Loc) (ls : Array Slot), mLq_M_least_126 n u y5 y6 y7 y8 → mL_M_least_126 n u y5 y6 y7 y8 = P → wd D vwCl (mC a k3) A s.heap u H locs → lv_has ls 11 [(0, .ref (a 0)), (5, .int y5), (6, .int y6), (7, .int y7), (8, .int y8)] → W p l e rm_mM_least s m av below meth c H locs 0 0 (QI below D vwCl (mC a k3) A av s P) (F0 m 126 ls []) := by
  intro n
  induction n with
  | zero => intro u y5 y6 y7 y8 H locs ls hq hP hw hl; exact hq.elim
  | succ n ih => intro u y5 y6 y7 y8 H locs ls hq hP hw hl; exact ms_M_least_126 l D a k3 av F P (mL_M_least_126 n) (mLq_M_least_126 n) ih u y5 y6 y7 y8 H locs ls hq hP hw hl
def mB_M_least_91 (K91 : S4 → Int32 → Int32 → Int32 → Int32 → (Int32 × S4)) (u : S4) (y5 : Int32) (y6 : Int32) (y7 : Int32) (y8 : Int32) : Int32 × S4 :=
  if (24 : Int32) ≤ y8 then
    mL_M_least_126 64 u y5 y6 y7 (0 : Int32)
  else
    if y8 = y7 then
      let u61 : S4 := s4_wz u 15 y8 (1 : Int32)
      let v62 : Int32 := (y8 + (1 : Int32))
      K91 u61 y5 y6 y7 v62
    else
      let u58 : S4 := s4_wz u 15 y8 (0 : Int32)
      let v59 : Int32 := (y8 + (1 : Int32))
      K91 u58 y5 y6 y7 v59
def mL_M_least_91 : Nat → S4 → Int32 → Int32 → Int32 → Int32 → (Int32 × S4)
  | 0 => fun u _ _ _ _ => (0, u)
  | n + 1 => mB_M_least_91 (mL_M_least_91 n)
def mBq_M_least_91 (Q91 : S4 → Int32 → Int32 → Int32 → Int32 → Prop) (u : S4) (y5 : Int32) (y6 : Int32) (y7 : Int32) (y8 : Int32) : Prop :=
  (((24 : Int32) ≤ y8 →
    mLq_M_least_126 64 u y5 y6 y7 (0 : Int32)) ∧ (¬ (24 : Int32) ≤ y8 →
    ((y8 = y7 →
      vp_in y8 24 ∧
      let u61 : S4 := s4_wz u 15 y8 (1 : Int32)
      let v62 : Int32 := (y8 + (1 : Int32))
      Q91 u61 y5 y6 y7 v62) ∧ (¬ y8 = y7 →
      vp_in y8 24 ∧
      let u58 : S4 := s4_wz u 15 y8 (0 : Int32)
      let v59 : Int32 := (y8 + (1 : Int32))
      Q91 u58 y5 y6 y7 v59))))
def mLq_M_least_91 : Nat → S4 → Int32 → Int32 → Int32 → Int32 → Prop
  | 0 => fun _ _ _ _ _ => False
  | n + 1 => mBq_M_least_91 (mLq_M_least_91 n)
set_option maxHeartbeats 4000000 in
set_option maxRecDepth 100000 in
theorem ms_M_least_91 (l : Launch) (D : va_G) (a : Nat → Nat) (k3 : K3) {p : Program} {e : Env} {s : State} {m : MethodId} {below : List Frame} {meth : Method} {c : Code} {A : Nat → Prop} (av : Array Value) (F : Fx p s m meth c av cX8_least 11 (some .int) yX8_least.cls (kX8_least :: tbG) D vwCl (ty3 k3) nestW A) (P : Int32 × S4) (K91 : S4 → Int32 → Int32 → Int32 → Int32 → (Int32 × S4)) (Q91 : S4 → Int32 → Int32 → Int32 → Int32 → Prop) (hK91 : ∀ (u : S4) (y5 : Int32) (y6 : Int32) (y7 : Int32) (y8 : Int32) (H : Heap) (locs : List Loc) (ls : Array Slot), Q91 u y5 y6 y7 y8 → K91 u y5 y6 y7 y8 = P → wd D vwCl (mC a k3) A s.heap u H locs → lv_has ls 11 [(0, .ref (a 0)), (5, .int y5), (6, .int y6), (7, .int y7), (8, .int y8)] → W p l e rm_mM_least s m av below meth c H locs 0 0 (QI below D vwCl (mC a k3) A av s P) (F0 m 91 ls [])) : ∀ (u : S4) (y5 : Int32) (y6 : Int32) (y7 : Int32) (y8 : Int32) (H : Heap) (locs : List Loc) (ls : Array Slot), mBq_M_least_91 Q91 u y5 y6 y7 y8 → mB_M_least_91 K91 u y5 y6 y7 y8 = P → wd D vwCl (mC a k3) A s.heap u H locs → lv_has ls 11 [(0, .ref (a 0)), (5, .int y5), (6, .int y6), (7, .int y7), (8, .int y8)] → W p l e rm_mM_least s m av below meth c H locs 0 0 (QI below D vwCl (mC a k3) A av s P) (F0 m 91 ls []) := by
  obtain ⟨hx, hb, hr, hml, hown, hts, hK, hN, hlocks, hA⟩ := id F
  have hown : s.vm.findClass RX8 = some m.cls := hown
  have htG : ∀ w ∈ tbG, w.before av s = true := fun w h => hts w (List.mem_cons_of_mem _ h)
  have f_63 := htG _ tb_536
  intro u y5 y6 y7 y8 H locs ls hq hP hw hl
  refine lv_iload hx hb dX8_least_91 (lv_at hl 4 rfl) ?_
  refine lv_bipush (v := 24) hx hb dX8_least_93 (by decide) ?_
  refine lv_icmp_ge (tgt := 123) hx hb dX8_least_95 (by decide) (fun c15 => ?_) (fun c15 => ?_)
  · have hP := (if_pos c15).symm.trans hP
    have hq := hq.1 c15
    refine lv_iconst (v := 0) hx hb dX8_least_123 (by decide) ?_
    refine lv_istore (lv' := [(8, .int (0 : Int32)), (0, .ref (a 0)), (5, .int y5), (6, .int y6), (7, .int y7)]) hx hb dX8_least_124 hl (by decide) rfl (fun ls hl => ?_)
    exact mw_M_least_126 l D a k3 av F P 64 u y5 y6 y7 (0 : Int32) H locs ls hq hP hw (lv_sub hl [1, 2, 3, 4, 0] rfl)
  · have hP := (if_neg c15).symm.trans hP
    have hq := hq.2 c15
    refine lv_aload_n hx hb dX8_least_98 rfl (lv_at hl 0 rfl) ?_
    refine va_get (D := D) (ci := 8) (v := .ref (a 18)) (C := RX8) (T := TX8) (N := 28) hx hb htG in_8 hown hK hw.1 0 (mo_0 a k3 u) rfl 22 (by decide) f_63 (fun _ h9 => h9) rfl dX8_least_99 ?_
    refine lv_iload hx hb dX8_least_102 (lv_at hl 4 rfl) ?_
    refine lv_iload hx hb dX8_least_104 (lv_at hl 4 rfl) ?_
    refine lv_iload hx hb dX8_least_106 (lv_at hl 3 rfl) ?_
    refine lv_icmp_ne (tgt := 115) hx hb dX8_least_108 (by decide) (fun c56 => ?_) (fun c56 => ?_)
    · have hP := (if_neg c56).symm.trans hP
      have hq := hq.2 c56
      refine lv_iconst (v := 0) hx hb dX8_least_115 (by decide) ?_
      obtain ⟨h57, hq⟩ := hq
      let u58 : S4 := s4_wz u 15 y8 (0 : Int32)
      refine y_zast (t0 := 2) hx hb hK hw 15 (mo_18 a k3 u) (mq_18 a k3 u) rfl h57 dX8_least_116 (fun H locs (hw : wd D vwCl (mC a k3) A s.heap u58 H locs) => ?_)
      let v59 : Int32 := (y8 + (1 : Int32))
      refine lv_iinc (v := v59) (lv' := [(8, .int v59), (0, .ref (a 0)), (5, .int y5), (6, .int y6), (7, .int y7)]) hx hb dX8_least_117 hl (k := 4) rfl rfl (by decide) rfl (fun ls hl => ?_)
      refine lv_goto (tgt := 91) hx hb dX8_least_120 (by decide) ?_
      exact hK91 u58 (y5) (y6) (y7) (v59) H locs ls hq hP hw (lv_sub hl [1, 2, 3, 4, 0] rfl)
    · have hP := (if_pos c56).symm.trans hP
      have hq := hq.1 c56
      refine lv_iconst (v := 1) hx hb dX8_least_111 (by decide) ?_
      refine lv_goto (tgt := 116) hx hb dX8_least_112 (by decide) ?_
      obtain ⟨h60, hq⟩ := hq
      let u61 : S4 := s4_wz u 15 y8 (1 : Int32)
      refine y_zast (t0 := 2) hx hb hK hw 15 (mo_18 a k3 u) (mq_18 a k3 u) rfl h60 dX8_least_116 (fun H locs (hw : wd D vwCl (mC a k3) A s.heap u61 H locs) => ?_)
      let v62 : Int32 := (y8 + (1 : Int32))
      refine lv_iinc (v := v62) (lv' := [(8, .int v62), (0, .ref (a 0)), (5, .int y5), (6, .int y6), (7, .int y7)]) hx hb dX8_least_117 hl (k := 4) rfl rfl (by decide) rfl (fun ls hl => ?_)
      refine lv_goto (tgt := 91) hx hb dX8_least_120 (by decide) ?_
      exact hK91 u61 (y5) (y6) (y7) (v62) H locs ls hq hP hw (lv_sub hl [1, 2, 3, 4, 0] rfl)
set_option maxHeartbeats 4000000 in
set_option maxRecDepth 100000 in
theorem mw_M_least_91 (l : Launch) (D : va_G) (a : Nat → Nat) (k3 : K3) {p : Program} {e : Env} {s : State} {m : MethodId} {below : List Frame} {meth : Method} {c : Code} {A : Nat → Prop} (av : Array Value) (F : Fx p s m meth c av cX8_least 11 (some .int) yX8_least.cls (kX8_least :: tbG) D vwCl (ty3 k3) nestW A) (P : Int32 × S4) : ∀ (n : Nat), ∀ (u : S4) (y5 : Int32) (y6 : Int32) (y7 : Int32) (y8 : Int32) (H : Heap) (locs : List Loc) (ls : Array Slot), mLq_M_least_91 n u y5 y6 y7 y8 → mL_M_least_91 n u y5 y6 y7 y8 = P → wd D vwCl (mC a k3) A s.heap u H locs → lv_has ls 11 [(0, .ref (a 0)), (5, .int y5), (6, .int y6), (7, .int y7), (8, .int y8)] → W p l e rm_mM_least s m av below meth c H locs 0 0 (QI below D vwCl (mC a k3) A av s P) (F0 m 91 ls []) := by
  intro n
  induction n with
  | zero => intro u y5 y6 y7 y8 H locs ls hq hP hw hl; exact hq.elim
  | succ n ih => intro u y5 y6 y7 y8 H locs ls hq hP hw hl; exact ms_M_least_91 l D a k3 av F P (mL_M_least_91 n) (mLq_M_least_91 n) ih u y5 y6 y7 y8 H locs ls hq hP hw hl
def mp_M_least (u : S4) (x1 : Int32) (x2 : Int32) (x3 : Int32) (x4 : Int32) (x5 : Int32) : Int32 × S4 :=
  let r1 : Int32 := mp_M_isSide u x1 x2
  if r1 = (0 : Int32) then
    ((-1 : Int32), u)
  else
    let r3 : Int32 := mp_M_isSide u x3 x4
    if r3 = (0 : Int32) then
      ((-1 : Int32), u)
    else
      let r5 : Int32 := mp_M_isIn u (x5.toInt64) (0 : Int64) (31622399 : Int64)
      if r5 = (0 : Int32) then
        ((-1 : Int32), u)
      else
        let v7 : Int32 := (((2 : Int32) * x1) + x2)
        let v8 : Int32 := (((2 : Int32) * x3) + x4)
        let u9 : S4 := s4_si u 3 (0 : Int32)
        if v7 = v8 then
          ((0 : Int32), u9)
        else
          let u12 : S4 := mp_M_settle u9 v7 x5
          if (0 : Int32) ≤ (s4_ra u12 13 v8) then
            mL_M_least_91 64 u12 x5 v7 v8 (0 : Int32)
          else
            let u63 : S4 := s4_si u12 3 (-1 : Int32)
            ((-1 : Int32), u63)
def mq_M_least (u : S4) (x1 : Int32) (x2 : Int32) (x3 : Int32) (x4 : Int32) (x5 : Int32) : Prop :=
  let r1 : Int32 := mp_M_isSide u x1 x2
  (¬ r1 = (0 : Int32) →
    let r3 : Int32 := mp_M_isSide u x3 x4
    (¬ r3 = (0 : Int32) →
      let r5 : Int32 := mp_M_isIn u (x5.toInt64) (0 : Int64) (31622399 : Int64)
      (¬ r5 = (0 : Int32) →
        let v7 : Int32 := (((2 : Int32) * x1) + x2)
        let v8 : Int32 := (((2 : Int32) * x3) + x4)
        let u9 : S4 := s4_si u 3 (0 : Int32)
        (¬ v7 = v8 →
          mq_M_settle u9 v7 x5 ∧
          let u12 : S4 := mp_M_settle u9 v7 x5
          vp_in v8 24 ∧
          ((0 : Int32) ≤ (s4_ra u12 13 v8) →
            mLq_M_least_91 64 u12 x5 v7 v8 (0 : Int32))))))
set_option maxHeartbeats 4000000 in
set_option maxRecDepth 100000 in
theorem mc_M_least (l : Launch) (D : va_G) (a : Nat → Nat) (k3 : K3) (u : S4) (x1 : Int32) (x2 : Int32) (x3 : Int32) (x4 : Int32) (x5 : Int32) (hq : mq_M_least u x1 x2 x3 x4 x5) : MI l D vwCl (ty3 k3) nestW (mC a k3) yX8_least (kX8_least :: tbG) rm_mM_least [.ref (a 0), .int x1, .int x2, .int x3, .int x4, .int x5] u (mp_M_least u x1 x2 x3 x4 x5) := by
  refine mkI (cc := cX8_least) (maxL := 11) (ret := (some .int)) (by decide) rfl (Nat.le_of_ble_eq_true rfl) ?_
  intro p e s m below meth c A ls F hw hl
  generalize hav : ([.ref (a 0), .int x1, .int x2, .int x3, .int x4, .int x5] : List Value).toArray = av at F ⊢
  have hl : lv_has ls 11 [(0, .ref (a 0)), (1, .int x1), (2, .int x2), (3, .int x3), (4, .int x4), (5, .int x5)] := hl
  obtain ⟨hx, hb, hr, hml, hown, hts, hK, hN, hlocks, hA⟩ := id F
  have hown : s.vm.findClass RX8 = some m.cls := hown
  have htG : ∀ w ∈ tbG, w.before av s = true := fun w h => hts w (List.mem_cons_of_mem _ h)
  have k_141 := htG _ tb_654
  have f_66 := htG _ tb_537
  have f_57 := htG _ tb_534
  have hgo : ∀ P, mp_M_least u x1 x2 x3 x4 x5 = P → ∀ (H : Heap) (locs : List Loc), wd D vwCl (mC a k3) A s.heap u H locs → W p l e rm_mM_least s m av below meth c H locs 0 0 (QI below D vwCl (mC a k3) A av s P) (F0 m 0 ls []) := by
    intro P hP H locs hw
    refine lv_aload_n hx hb dX8_least_0 rfl (lv_at hl 0 rfl) ?_
    refine lv_iload_n hx hb dX8_least_1 rfl (lv_at hl 1 rfl) ?_
    refine lv_iload_n hx hb dX8_least_2 rfl (lv_at hl 2 rfl) ?_
    let r1 : Int32 := mp_M_isSide u x1 x2
    refine call_vir (rest := []) ⟨hx, hb, hml, hown, htG⟩ nestW_ok hK hN hA (mc_M_isSide l D a k3 u x1 x2) (cwV 2 htG (tb_V tb_650 tb_652 tb_11 tb_28 tb_653) rfl rfl rfl (by decide +kernel) ⟨Nat.le_of_ble_eq_true rfl, Nat.le_of_ble_eq_true rfl⟩) (ci := 8) rfl (mo_0 a k3 u) rfl hw rfl hl.1 rfl (Nat.le_of_ble_eq_true rfl) dX8_least_3 ⟨Nat.zero_le _, Nat.zero_le _⟩ (fun H locs (hw : wd D vwCl (mC a k3) A s.heap u H locs) => ?_)
    refine lv_if_eq (tgt := 32) hx hb dX8_least_6 (by decide) (fun c2 => ?_) (fun c2 => ?_)
    · have hP := (if_pos c2).symm.trans hP
      refine lv_iconst (v := -1) hx hb dX8_least_32 (by decide) ?_
      exact ret_i hx hb hr hlocks hw dX8_least_33 hP
    · have hP := (if_neg c2).symm.trans hP
      have hq := hq c2
      refine lv_aload_n hx hb dX8_least_9 rfl (lv_at hl 0 rfl) ?_
      refine lv_iload_n hx hb dX8_least_10 rfl (lv_at hl 3 rfl) ?_
      refine lv_iload hx hb dX8_least_11 (lv_at hl 4 rfl) ?_
      let r3 : Int32 := mp_M_isSide u x3 x4
      refine call_vir (rest := []) ⟨hx, hb, hml, hown, htG⟩ nestW_ok hK hN hA (mc_M_isSide l D a k3 u x3 x4) (cwV 2 htG (tb_V tb_650 tb_652 tb_11 tb_28 tb_653) rfl rfl rfl (by decide +kernel) ⟨Nat.le_of_ble_eq_true rfl, Nat.le_of_ble_eq_true rfl⟩) (ci := 8) rfl (mo_0 a k3 u) rfl hw rfl hl.1 rfl (Nat.le_of_ble_eq_true rfl) dX8_least_13 ⟨Nat.zero_le _, Nat.zero_le _⟩ (fun H locs (hw : wd D vwCl (mC a k3) A s.heap u H locs) => ?_)
      refine lv_if_eq (tgt := 32) hx hb dX8_least_16 (by decide) (fun c4 => ?_) (fun c4 => ?_)
      · have hP := (if_pos c4).symm.trans hP
        refine lv_iconst (v := -1) hx hb dX8_least_32 (by decide) ?_
        exact ret_i hx hb hr hlocks hw dX8_least_33 hP
      · have hP := (if_neg c4).symm.trans hP
        have hq := hq c4
        refine lv_iload hx hb dX8_least_19 (lv_at hl 5 rfl) ?_
        refine lv_i2l hx hb dX8_least_21 rfl ?_
        refine lv_lconst (v := 0) hx hb dX8_least_22 (by decide) ?_
        refine lv_ldc2 (v := 31622399) hx hb hown k_141 dX8_least_23 ?_
        let r5 : Int32 := mp_M_isIn u (x5.toInt64) (0 : Int64) (31622399 : Int64)
        refine call_sir (rest := []) ⟨hx, hb, hml, hown, htG⟩ nestW_ok hK hN hA (mc_M_isIn l D a k3 u (x5.toInt64) (0 : Int64) (31622399 : Int64)) (cwS 3 htG (tb_S tb_605 tb_606 tb_28 tb_607) rfl rfl rfl (by decide +kernel) ⟨Nat.le_of_ble_eq_true rfl, Nat.le_of_ble_eq_true rfl⟩) hw rfl hl.1 rfl (Nat.le_of_ble_eq_true rfl) dX8_least_26 ⟨Nat.zero_le _, Nat.zero_le _⟩ (fun H locs (hw : wd D vwCl (mC a k3) A s.heap u H locs) => ?_)
        refine lv_if_ne (tgt := 34) hx hb dX8_least_29 (by decide) (fun c6 => ?_) (fun c6 => ?_)
        · have hP := (if_neg c6).symm.trans hP
          have hq := hq c6
          refine lv_iconst (v := 2) hx hb dX8_least_34 (by decide) ?_
          refine lv_iload_n hx hb dX8_least_35 rfl (lv_at hl 1 rfl) ?_
          refine lv_imul hx hb dX8_least_36 ?_
          refine lv_iload_n hx hb dX8_least_37 rfl (lv_at hl 2 rfl) ?_
          refine lv_iadd hx hb dX8_least_38 ?_
          let v7 : Int32 := (((2 : Int32) * x1) + x2)
          refine lv_istore (lv' := [(6, .int v7), (0, .ref (a 0)), (1, .int x1), (2, .int x2), (3, .int x3), (4, .int x4), (5, .int x5)]) hx hb dX8_least_39 hl (by decide) rfl (fun ls hl => ?_)
          refine lv_iconst (v := 2) hx hb dX8_least_41 (by decide) ?_
          refine lv_iload_n hx hb dX8_least_42 rfl (lv_at hl 4 rfl) ?_
          refine lv_imul hx hb dX8_least_43 ?_
          refine lv_iload hx hb dX8_least_44 (lv_at hl 5 rfl) ?_
          refine lv_iadd hx hb dX8_least_46 ?_
          let v8 : Int32 := (((2 : Int32) * x3) + x4)
          refine lv_istore (lv' := [(7, .int v8), (6, .int v7), (0, .ref (a 0)), (1, .int x1), (2, .int x2), (3, .int x3), (4, .int x4), (5, .int x5)]) hx hb dX8_least_47 hl (by decide) rfl (fun ls hl => ?_)
          refine lv_aload_n hx hb dX8_least_49 rfl (lv_at hl 2 rfl) ?_
          refine lv_iconst (v := 0) hx hb dX8_least_50 (by decide) ?_
          let u9 : S4 := s4_si u 3 (0 : Int32)
          refine y_puti hx hb htG in_8 tyX8 tyX8_ok nX8 hown hK hw 3 (mo_0 a k3 u) rfl 23 (by decide) f_66 (fun _ h9 => h9) rfl (by decide +kernel) (Nat.le_of_ble_eq_true rfl) (mt_i3 a k3 u (0 : Int32)) dX8_least_51 (fun H locs (hw : wd D vwCl (mC a k3) A s.heap u9 H locs) => ?_)
          refine lv_iload hx hb dX8_least_54 (lv_at hl 1 rfl) ?_
          refine lv_iload hx hb dX8_least_56 (lv_at hl 0 rfl) ?_
          refine lv_icmp_ne (tgt := 63) hx hb dX8_least_58 (by decide) (fun c10 => ?_) (fun c10 => ?_)
          · have hP := (if_neg c10).symm.trans hP
            have hq := hq c10
            refine lv_aload_n hx hb dX8_least_63 rfl (lv_at hl 2 rfl) ?_
            refine lv_iload hx hb dX8_least_64 (lv_at hl 1 rfl) ?_
            refine lv_iload hx hb dX8_least_66 (lv_at hl 7 rfl) ?_
            obtain ⟨h11, hq⟩ := hq
            let u12 : S4 := mp_M_settle u9 v7 x5
            refine call_vv (rest := []) ⟨hx, hb, hml, hown, htG⟩ nestW_ok hK hN hA (mc_M_settle l D a k3 u9 v7 x5 h11) (cwV 2 htG (tb_V tb_655 tb_657 tb_12 tb_28 tb_658) rfl rfl rfl (by decide +kernel) ⟨Nat.le_of_ble_eq_true rfl, Nat.le_of_ble_eq_true rfl⟩) (ci := 8) rfl (mo_0 a k3 u9) rfl hw rfl hl.1 rfl (Nat.le_of_ble_eq_true rfl) dX8_least_68 ⟨Nat.zero_le _, Nat.zero_le _⟩ (fun H locs (hw : wd D vwCl (mC a k3) A s.heap u12 H locs) => ?_)
            refine lv_aload_n hx hb dX8_least_71 rfl (lv_at hl 2 rfl) ?_
            refine va_get (D := D) (ci := 8) (v := .ref (a 16)) (C := RX8) (T := TX8) (N := 28) hx hb htG in_8 hown hK hw.1 0 (mo_0 a k3 u12) rfl 20 (by decide) f_57 (fun _ h9 => h9) rfl dX8_least_72 ?_
            refine lv_iload hx hb dX8_least_75 (lv_at hl 0 rfl) ?_
            obtain ⟨h13, hq⟩ := hq
            refine y_iald (t0 := 0) hx hb hK hw 13 (mo_16 a k3 u12) rfl h13 dX8_least_77 ?_
            refine lv_if_ge (tgt := 88) hx hb dX8_least_78 (by decide) (fun c14 => ?_) (fun c14 => ?_)
            · have hP := (if_pos c14).symm.trans hP
              have hq := hq c14
              refine lv_iconst (v := 0) hx hb dX8_least_88 (by decide) ?_
              refine lv_istore (lv' := [(8, .int (0 : Int32)), (7, .int v8), (6, .int v7), (0, .ref (a 0)), (1, .int x1), (2, .int x2), (3, .int x3), (4, .int x4), (5, .int x5)]) hx hb dX8_least_89 hl (by decide) rfl (fun ls hl => ?_)
              exact mw_M_least_91 l D a k3 av F P 64 u12 x5 v7 v8 (0 : Int32) H locs ls hq hP hw (lv_sub hl [3, 8, 2, 1, 0] rfl)
            · have hP := (if_neg c14).symm.trans hP
              refine lv_aload_n hx hb dX8_least_81 rfl (lv_at hl 2 rfl) ?_
              refine lv_iconst (v := -1) hx hb dX8_least_82 (by decide) ?_
              let u63 : S4 := s4_si u12 3 (-1 : Int32)
              refine y_puti hx hb htG in_8 tyX8 tyX8_ok nX8 hown hK hw 3 (mo_0 a k3 u12) rfl 23 (by decide) f_66 (fun _ h9 => h9) rfl (by decide +kernel) (Nat.le_of_ble_eq_true rfl) (mt_i3 a k3 u12 (-1 : Int32)) dX8_least_83 (fun H locs (hw : wd D vwCl (mC a k3) A s.heap u63 H locs) => ?_)
              refine lv_iconst (v := -1) hx hb dX8_least_86 (by decide) ?_
              exact ret_i hx hb hr hlocks hw dX8_least_87 hP
          · have hP := (if_pos c10).symm.trans hP
            refine lv_iconst (v := 0) hx hb dX8_least_61 (by decide) ?_
            exact ret_i hx hb hr hlocks hw dX8_least_62 hP
        · have hP := (if_pos c6).symm.trans hP
          refine lv_iconst (v := -1) hx hb dX8_least_32 (by decide) ?_
          exact ret_i hx hb hr hlocks hw dX8_least_33 hP
  exact hgo _ rfl s.heap [] hw
theorem dX8_way_0 : decode cX8_way 0 = .ok (.iload_n 1, 1) := by decide +kernel
theorem dX8_way_1 : decode cX8_way 1 = .ok (.ifCond .lt 20, 3) := by decide +kernel
theorem dX8_way_4 : decode cX8_way 4 = .ok (.iload_n 1, 1) := by decide +kernel
theorem dX8_way_5 : decode cX8_way 5 = .ok (.aload_n 0, 1) := by decide +kernel
theorem dX8_way_6 : decode cX8_way 6 = .ok (.getfield 66, 3) := by decide +kernel
theorem dX8_way_9 : decode cX8_way 9 = .ok (.if_icmp .ge 12, 3) := by decide +kernel
theorem dX8_way_12 : decode cX8_way 12 = .ok (.aload_n 0, 1) := by decide +kernel
theorem dX8_way_13 : decode cX8_way 13 = .ok (.getfield 70, 3) := by decide +kernel
theorem dX8_way_16 : decode cX8_way 16 = .ok (.iload_n 1, 1) := by decide +kernel
theorem dX8_way_17 : decode cX8_way 17 = .ok (.iaload, 1) := by decide +kernel
theorem dX8_way_18 : decode cX8_way 18 = .ok (.goto 4, 3) := by decide +kernel
theorem dX8_way_21 : decode cX8_way 21 = .ok (.iconst (-1), 1) := by decide +kernel
theorem dX8_way_22 : decode cX8_way 22 = .ok (.ireturn, 1) := by decide +kernel
abbrev rm_mM_way : Room := { frames := 0, cells := 0, slots := 0, locals := 0 }
def mp_M_way (u : S4) (x1 : Int32) : Int32 :=
  if x1 < (0 : Int32) then
    (-1 : Int32)
  else
    if (s4_i u 3) ≤ x1 then
      (-1 : Int32)
    else
      (s4_ra u 16 x1)
def mq_M_way (u : S4) (x1 : Int32) : Prop :=
  (¬ x1 < (0 : Int32) →
    (¬ (s4_i u 3) ≤ x1 →
      vp_in x1 24))
set_option maxHeartbeats 4000000 in
set_option maxRecDepth 100000 in
theorem mc_M_way (l : Launch) (D : va_G) (a : Nat → Nat) (k3 : K3) (u : S4) (x1 : Int32) (hq : mq_M_way u x1) : MI l D vwCl (ty3 k3) nestW (mC a k3) yX8_way (kX8_way :: tbG) rm_mM_way [.ref (a 0), .int x1] u (mp_M_way u x1, u) := by
  refine mkI (cc := cX8_way) (maxL := 2) (ret := (some .int)) (by decide) rfl (Nat.le_of_ble_eq_true rfl) ?_
  intro p e s m below meth c A ls F hw hl
  generalize hav : ([.ref (a 0), .int x1] : List Value).toArray = av at F ⊢
  have hl : lv_has ls 2 [(0, .ref (a 0)), (1, .int x1)] := hl
  obtain ⟨hx, hb, hr, hml, hown, hts, hK, hN, hlocks, hA⟩ := id F
  have hown : s.vm.findClass RX8 = some m.cls := hown
  have htG : ∀ w ∈ tbG, w.before av s = true := fun w h => hts w (List.mem_cons_of_mem _ h)
  have f_66 := htG _ tb_537
  have f_70 := htG _ tb_538
  have hgo : ∀ P, mp_M_way u x1 = P → ∀ (H : Heap) (locs : List Loc), wd D vwCl (mC a k3) A s.heap u H locs → W p l e rm_mM_way s m av below meth c H locs 0 0 (QI below D vwCl (mC a k3) A av s (P, u)) (F0 m 0 ls []) := by
    intro P hP H locs hw
    refine lv_iload_n hx hb dX8_way_0 rfl (lv_at hl 1 rfl) ?_
    refine lv_if_lt (tgt := 21) hx hb dX8_way_1 (by decide) (fun c1 => ?_) (fun c1 => ?_)
    · have hP := (if_pos c1).symm.trans hP
      refine lv_iconst (v := -1) hx hb dX8_way_21 (by decide) ?_
      exact ret_i hx hb hr hlocks hw dX8_way_22 (congrArg (fun z => (z, u)) hP)
    · have hP := (if_neg c1).symm.trans hP
      have hq := hq c1
      refine lv_iload_n hx hb dX8_way_4 rfl (lv_at hl 1 rfl) ?_
      refine lv_aload_n hx hb dX8_way_5 rfl (lv_at hl 0 rfl) ?_
      refine va_get (D := D) (ci := 8) (v := .int (s4_i u 3)) (C := RX8) (T := TX8) (N := 28) hx hb htG in_8 hown hK hw.1 0 (mo_0 a k3 u) rfl 23 (by decide) f_66 (fun _ h9 => h9) rfl dX8_way_6 ?_
      refine lv_icmp_ge (tgt := 21) hx hb dX8_way_9 (by decide) (fun c2 => ?_) (fun c2 => ?_)
      · have hP := (if_pos c2).symm.trans hP
        refine lv_iconst (v := -1) hx hb dX8_way_21 (by decide) ?_
        exact ret_i hx hb hr hlocks hw dX8_way_22 (congrArg (fun z => (z, u)) hP)
      · have hP := (if_neg c2).symm.trans hP
        have hq := hq c2
        refine lv_aload_n hx hb dX8_way_12 rfl (lv_at hl 0 rfl) ?_
        refine va_get (D := D) (ci := 8) (v := .ref (a 19)) (C := RX8) (T := TX8) (N := 28) hx hb htG in_8 hown hK hw.1 0 (mo_0 a k3 u) rfl 24 (by decide) f_70 (fun _ h9 => h9) rfl dX8_way_13 ?_
        refine lv_iload_n hx hb dX8_way_16 rfl (lv_at hl 1 rfl) ?_
        have h3 := hq
        refine y_iald (t0 := 0) hx hb hK hw 16 (mo_19 a k3 u) rfl h3 dX8_way_17 ?_
        refine lv_goto (tgt := 22) hx hb dX8_way_18 (by decide) ?_
        exact ret_i hx hb hr hlocks hw dX8_way_22 (congrArg (fun z => (z, u)) hP)
  exact hgo _ rfl s.heap [] hw
theorem dX8_beguno_0 : decode cX8_beguno 0 = .ok (.iload_n 1, 1) := by decide +kernel
theorem dX8_beguno_1 : decode cX8_beguno 1 = .ok (.ifCond .lt 20, 3) := by decide +kernel
theorem dX8_beguno_4 : decode cX8_beguno 4 = .ok (.iload_n 1, 1) := by decide +kernel
theorem dX8_beguno_5 : decode cX8_beguno 5 = .ok (.aload_n 0, 1) := by decide +kernel
theorem dX8_beguno_6 : decode cX8_beguno 6 = .ok (.getfield 66, 3) := by decide +kernel
theorem dX8_beguno_9 : decode cX8_beguno 9 = .ok (.if_icmp .ge 12, 3) := by decide +kernel
theorem dX8_beguno_12 : decode cX8_beguno 12 = .ok (.aload_n 0, 1) := by decide +kernel
theorem dX8_beguno_13 : decode cX8_beguno 13 = .ok (.getfield 73, 3) := by decide +kernel
theorem dX8_beguno_16 : decode cX8_beguno 16 = .ok (.iload_n 1, 1) := by decide +kernel
theorem dX8_beguno_17 : decode cX8_beguno 17 = .ok (.iaload, 1) := by decide +kernel
theorem dX8_beguno_18 : decode cX8_beguno 18 = .ok (.goto 4, 3) := by decide +kernel
theorem dX8_beguno_21 : decode cX8_beguno 21 = .ok (.iconst (-1), 1) := by decide +kernel
theorem dX8_beguno_22 : decode cX8_beguno 22 = .ok (.ireturn, 1) := by decide +kernel
abbrev rm_mM_begun1 : Room := { frames := 0, cells := 0, slots := 0, locals := 0 }
def mp_M_begun1 (u : S4) (x1 : Int32) : Int32 :=
  if x1 < (0 : Int32) then
    (-1 : Int32)
  else
    if (s4_i u 3) ≤ x1 then
      (-1 : Int32)
    else
      (s4_ra u 17 x1)
def mq_M_begun1 (u : S4) (x1 : Int32) : Prop :=
  (¬ x1 < (0 : Int32) →
    (¬ (s4_i u 3) ≤ x1 →
      vp_in x1 24))
set_option maxHeartbeats 4000000 in
set_option maxRecDepth 100000 in
theorem mc_M_begun1 (l : Launch) (D : va_G) (a : Nat → Nat) (k3 : K3) (u : S4) (x1 : Int32) (hq : mq_M_begun1 u x1) : MI l D vwCl (ty3 k3) nestW (mC a k3) yX8_beguno (kX8_beguno :: tbG) rm_mM_begun1 [.ref (a 0), .int x1] u (mp_M_begun1 u x1, u) := by
  refine mkI (cc := cX8_beguno) (maxL := 2) (ret := (some .int)) (by decide) rfl (Nat.le_of_ble_eq_true rfl) ?_
  intro p e s m below meth c A ls F hw hl
  generalize hav : ([.ref (a 0), .int x1] : List Value).toArray = av at F ⊢
  have hl : lv_has ls 2 [(0, .ref (a 0)), (1, .int x1)] := hl
  obtain ⟨hx, hb, hr, hml, hown, hts, hK, hN, hlocks, hA⟩ := id F
  have hown : s.vm.findClass RX8 = some m.cls := hown
  have htG : ∀ w ∈ tbG, w.before av s = true := fun w h => hts w (List.mem_cons_of_mem _ h)
  have f_66 := htG _ tb_537
  have f_73 := htG _ tb_539
  have hgo : ∀ P, mp_M_begun1 u x1 = P → ∀ (H : Heap) (locs : List Loc), wd D vwCl (mC a k3) A s.heap u H locs → W p l e rm_mM_begun1 s m av below meth c H locs 0 0 (QI below D vwCl (mC a k3) A av s (P, u)) (F0 m 0 ls []) := by
    intro P hP H locs hw
    refine lv_iload_n hx hb dX8_beguno_0 rfl (lv_at hl 1 rfl) ?_
    refine lv_if_lt (tgt := 21) hx hb dX8_beguno_1 (by decide) (fun c1 => ?_) (fun c1 => ?_)
    · have hP := (if_pos c1).symm.trans hP
      refine lv_iconst (v := -1) hx hb dX8_beguno_21 (by decide) ?_
      exact ret_i hx hb hr hlocks hw dX8_beguno_22 (congrArg (fun z => (z, u)) hP)
    · have hP := (if_neg c1).symm.trans hP
      have hq := hq c1
      refine lv_iload_n hx hb dX8_beguno_4 rfl (lv_at hl 1 rfl) ?_
      refine lv_aload_n hx hb dX8_beguno_5 rfl (lv_at hl 0 rfl) ?_
      refine va_get (D := D) (ci := 8) (v := .int (s4_i u 3)) (C := RX8) (T := TX8) (N := 28) hx hb htG in_8 hown hK hw.1 0 (mo_0 a k3 u) rfl 23 (by decide) f_66 (fun _ h9 => h9) rfl dX8_beguno_6 ?_
      refine lv_icmp_ge (tgt := 21) hx hb dX8_beguno_9 (by decide) (fun c2 => ?_) (fun c2 => ?_)
      · have hP := (if_pos c2).symm.trans hP
        refine lv_iconst (v := -1) hx hb dX8_beguno_21 (by decide) ?_
        exact ret_i hx hb hr hlocks hw dX8_beguno_22 (congrArg (fun z => (z, u)) hP)
      · have hP := (if_neg c2).symm.trans hP
        have hq := hq c2
        refine lv_aload_n hx hb dX8_beguno_12 rfl (lv_at hl 0 rfl) ?_
        refine va_get (D := D) (ci := 8) (v := .ref (a 20)) (C := RX8) (T := TX8) (N := 28) hx hb htG in_8 hown hK hw.1 0 (mo_0 a k3 u) rfl 25 (by decide) f_73 (fun _ h9 => h9) rfl dX8_beguno_13 ?_
        refine lv_iload_n hx hb dX8_beguno_16 rfl (lv_at hl 1 rfl) ?_
        have h3 := hq
        refine y_iald (t0 := 0) hx hb hK hw 17 (mo_20 a k3 u) rfl h3 dX8_beguno_17 ?_
        refine lv_goto (tgt := 22) hx hb dX8_beguno_18 (by decide) ?_
        exact ret_i hx hb hr hlocks hw dX8_beguno_22 (congrArg (fun z => (z, u)) hP)
  exact hgo _ rfl s.heap [] hw
