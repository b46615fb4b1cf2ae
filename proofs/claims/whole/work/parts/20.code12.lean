/-! GroveWorksModel.timers(I)V -/
theorem dX9_timers_0 : decode cX9_timers 0 = .ok (.iconst 0, 1) := by decide +kernel
theorem dX9_timers_1 : decode cX9_timers 1 = .ok (.istore_n 2, 1) := by decide +kernel
theorem dX9_timers_2 : decode cX9_timers 2 = .ok (.iload_n 2, 1) := by decide +kernel
theorem dX9_timers_3 : decode cX9_timers 3 = .ok (.iconst 4, 1) := by decide +kernel
theorem dX9_timers_4 : decode cX9_timers 4 = .ok (.if_icmp .ge 82, 3) := by decide +kernel
theorem dX9_timers_7 : decode cX9_timers 7 = .ok (.iconst 4, 1) := by decide +kernel
theorem dX9_timers_8 : decode cX9_timers 8 = .ok (.iload_n 1, 1) := by decide +kernel
theorem dX9_timers_9 : decode cX9_timers 9 = .ok (.imul, 1) := by decide +kernel
theorem dX9_timers_10 : decode cX9_timers 10 = .ok (.iload_n 2, 1) := by decide +kernel
theorem dX9_timers_11 : decode cX9_timers 11 = .ok (.iadd, 1) := by decide +kernel
theorem dX9_timers_12 : decode cX9_timers 12 = .ok (.istore_n 3, 1) := by decide +kernel
theorem dX9_timers_13 : decode cX9_timers 13 = .ok (.aload_n 0, 1) := by decide +kernel
theorem dX9_timers_14 : decode cX9_timers 14 = .ok (.iload_n 1, 1) := by decide +kernel
theorem dX9_timers_15 : decode cX9_timers 15 = .ok (.iload_n 2, 1) := by decide +kernel
theorem dX9_timers_16 : decode cX9_timers 16 = .ok (.invokevirtual 150, 3) := by decide +kernel
theorem dX9_timers_19 : decode cX9_timers 19 = .ok (.ifCond .eq 61, 3) := by decide +kernel
theorem dX9_timers_22 : decode cX9_timers 22 = .ok (.aload_n 0, 1) := by decide +kernel
theorem dX9_timers_23 : decode cX9_timers 23 = .ok (.getfield 66, 3) := by decide +kernel
theorem dX9_timers_26 : decode cX9_timers 26 = .ok (.iload_n 3, 1) := by decide +kernel
theorem dX9_timers_27 : decode cX9_timers 27 = .ok (.iaload, 1) := by decide +kernel
theorem dX9_timers_28 : decode cX9_timers 28 = .ok (.iconst (-1), 1) := by decide +kernel
theorem dX9_timers_29 : decode cX9_timers 29 = .ok (.if_icmp .eq 22, 3) := by decide +kernel
theorem dX9_timers_32 : decode cX9_timers 32 = .ok (.aload_n 0, 1) := by decide +kernel
theorem dX9_timers_33 : decode cX9_timers 33 = .ok (.getfield 122, 3) := by decide +kernel
theorem dX9_timers_36 : decode cX9_timers 36 = .ok (.aload_n 0, 1) := by decide +kernel
theorem dX9_timers_37 : decode cX9_timers 37 = .ok (.getfield 66, 3) := by decide +kernel
theorem dX9_timers_40 : decode cX9_timers 40 = .ok (.iload_n 3, 1) := by decide +kernel
theorem dX9_timers_41 : decode cX9_timers 41 = .ok (.iaload, 1) := by decide +kernel
theorem dX9_timers_42 : decode cX9_timers 42 = .ok (.isub, 1) := by decide +kernel
theorem dX9_timers_43 : decode cX9_timers 43 = .ok (.bipush 20, 2) := by decide +kernel
theorem dX9_timers_45 : decode cX9_timers 45 = .ok (.if_icmp .ge 6, 3) := by decide +kernel
theorem dX9_timers_48 : decode cX9_timers 48 = .ok (.goto 32, 3) := by decide +kernel
theorem dX9_timers_51 : decode cX9_timers 51 = .ok (.aload_n 0, 1) := by decide +kernel
theorem dX9_timers_52 : decode cX9_timers 52 = .ok (.aload_n 0, 1) := by decide +kernel
theorem dX9_timers_53 : decode cX9_timers 53 = .ok (.getfield 7, 3) := by decide +kernel
theorem dX9_timers_56 : decode cX9_timers 56 = .ok (.iload_n 3, 1) := by decide +kernel
theorem dX9_timers_57 : decode cX9_timers 57 = .ok (.iaload, 1) := by decide +kernel
theorem dX9_timers_58 : decode cX9_timers 58 = .ok (.iconst 1, 1) := by decide +kernel
theorem dX9_timers_59 : decode cX9_timers 59 = .ok (.iload_n 1, 1) := by decide +kernel
theorem dX9_timers_60 : decode cX9_timers 60 = .ok (.iconst (-1), 1) := by decide +kernel
theorem dX9_timers_61 : decode cX9_timers 61 = .ok (.iconst (-1), 1) := by decide +kernel
theorem dX9_timers_62 : decode cX9_timers 62 = .ok (.iconst (-1), 1) := by decide +kernel
theorem dX9_timers_63 : decode cX9_timers 63 = .ok (.iconst 0, 1) := by decide +kernel
theorem dX9_timers_64 : decode cX9_timers 64 = .ok (.iconst 0, 1) := by decide +kernel
theorem dX9_timers_65 : decode cX9_timers 65 = .ok (.iconst 0, 1) := by decide +kernel
theorem dX9_timers_66 : decode cX9_timers 66 = .ok (.invokevirtual 238, 3) := by decide +kernel
theorem dX9_timers_69 : decode cX9_timers 69 = .ok (.pop, 1) := by decide +kernel
theorem dX9_timers_70 : decode cX9_timers 70 = .ok (.aload_n 0, 1) := by decide +kernel
theorem dX9_timers_71 : decode cX9_timers 71 = .ok (.getfield 66, 3) := by decide +kernel
theorem dX9_timers_74 : decode cX9_timers 74 = .ok (.iload_n 3, 1) := by decide +kernel
theorem dX9_timers_75 : decode cX9_timers 75 = .ok (.aload_n 0, 1) := by decide +kernel
theorem dX9_timers_76 : decode cX9_timers 76 = .ok (.getfield 122, 3) := by decide +kernel
theorem dX9_timers_79 : decode cX9_timers 79 = .ok (.iastore, 1) := by decide +kernel
theorem dX9_timers_80 : decode cX9_timers 80 = .ok (.iinc 2 1, 3) := by decide +kernel
theorem dX9_timers_83 : decode cX9_timers 83 = .ok (.goto (-81), 3) := by decide +kernel
theorem dX9_timers_86 : decode cX9_timers 86 = .ok (.iconst 0, 1) := by decide +kernel
theorem dX9_timers_87 : decode cX9_timers 87 = .ok (.istore_n 2, 1) := by decide +kernel
theorem dX9_timers_88 : decode cX9_timers 88 = .ok (.iload_n 2, 1) := by decide +kernel
theorem dX9_timers_89 : decode cX9_timers 89 = .ok (.iconst 4, 1) := by decide +kernel
theorem dX9_timers_90 : decode cX9_timers 90 = .ok (.if_icmp .ge 91, 3) := by decide +kernel
theorem dX9_timers_93 : decode cX9_timers 93 = .ok (.iconst 4, 1) := by decide +kernel
theorem dX9_timers_94 : decode cX9_timers 94 = .ok (.iload_n 1, 1) := by decide +kernel
theorem dX9_timers_95 : decode cX9_timers 95 = .ok (.imul, 1) := by decide +kernel
theorem dX9_timers_96 : decode cX9_timers 96 = .ok (.iload_n 2, 1) := by decide +kernel
theorem dX9_timers_97 : decode cX9_timers 97 = .ok (.iadd, 1) := by decide +kernel
theorem dX9_timers_98 : decode cX9_timers 98 = .ok (.istore_n 3, 1) := by decide +kernel
theorem dX9_timers_99 : decode cX9_timers 99 = .ok (.aload_n 0, 1) := by decide +kernel
theorem dX9_timers_100 : decode cX9_timers 100 = .ok (.iload_n 1, 1) := by decide +kernel
theorem dX9_timers_101 : decode cX9_timers 101 = .ok (.iload_n 2, 1) := by decide +kernel
theorem dX9_timers_102 : decode cX9_timers 102 = .ok (.invokevirtual 150, 3) := by decide +kernel
theorem dX9_timers_105 : decode cX9_timers 105 = .ok (.ifCond .eq 70, 3) := by decide +kernel
theorem dX9_timers_108 : decode cX9_timers 108 = .ok (.aload_n 0, 1) := by decide +kernel
theorem dX9_timers_109 : decode cX9_timers 109 = .ok (.iload_n 1, 1) := by decide +kernel
theorem dX9_timers_110 : decode cX9_timers 110 = .ok (.iload_n 2, 1) := by decide +kernel
theorem dX9_timers_111 : decode cX9_timers 111 = .ok (.invokevirtual 284, 3) := by decide +kernel
theorem dX9_timers_114 : decode cX9_timers 114 = .ok (.ifCond .eq 61, 3) := by decide +kernel
theorem dX9_timers_117 : decode cX9_timers 117 = .ok (.aload_n 0, 1) := by decide +kernel
theorem dX9_timers_118 : decode cX9_timers 118 = .ok (.getfield 69, 3) := by decide +kernel
theorem dX9_timers_121 : decode cX9_timers 121 = .ok (.iload_n 3, 1) := by decide +kernel
theorem dX9_timers_122 : decode cX9_timers 122 = .ok (.iaload, 1) := by decide +kernel
theorem dX9_timers_123 : decode cX9_timers 123 = .ok (.iconst (-1), 1) := by decide +kernel
theorem dX9_timers_124 : decode cX9_timers 124 = .ok (.if_icmp .eq 22, 3) := by decide +kernel
theorem dX9_timers_127 : decode cX9_timers 127 = .ok (.aload_n 0, 1) := by decide +kernel
theorem dX9_timers_128 : decode cX9_timers 128 = .ok (.getfield 122, 3) := by decide +kernel
theorem dX9_timers_131 : decode cX9_timers 131 = .ok (.aload_n 0, 1) := by decide +kernel
theorem dX9_timers_132 : decode cX9_timers 132 = .ok (.getfield 69, 3) := by decide +kernel
theorem dX9_timers_135 : decode cX9_timers 135 = .ok (.iload_n 3, 1) := by decide +kernel
theorem dX9_timers_136 : decode cX9_timers 136 = .ok (.iaload, 1) := by decide +kernel
theorem dX9_timers_137 : decode cX9_timers 137 = .ok (.isub, 1) := by decide +kernel
theorem dX9_timers_138 : decode cX9_timers 138 = .ok (.bipush 25, 2) := by decide +kernel
theorem dX9_timers_140 : decode cX9_timers 140 = .ok (.if_icmp .ge 6, 3) := by decide +kernel
theorem dX9_timers_143 : decode cX9_timers 143 = .ok (.goto 32, 3) := by decide +kernel
theorem dX9_timers_146 : decode cX9_timers 146 = .ok (.aload_n 0, 1) := by decide +kernel
theorem dX9_timers_147 : decode cX9_timers 147 = .ok (.aload_n 0, 1) := by decide +kernel
theorem dX9_timers_148 : decode cX9_timers 148 = .ok (.getfield 7, 3) := by decide +kernel
theorem dX9_timers_151 : decode cX9_timers 151 = .ok (.iload_n 3, 1) := by decide +kernel
theorem dX9_timers_152 : decode cX9_timers 152 = .ok (.iaload, 1) := by decide +kernel
theorem dX9_timers_153 : decode cX9_timers 153 = .ok (.iconst 2, 1) := by decide +kernel
theorem dX9_timers_154 : decode cX9_timers 154 = .ok (.iload_n 1, 1) := by decide +kernel
theorem dX9_timers_155 : decode cX9_timers 155 = .ok (.iconst (-1), 1) := by decide +kernel
theorem dX9_timers_156 : decode cX9_timers 156 = .ok (.iconst (-1), 1) := by decide +kernel
theorem dX9_timers_157 : decode cX9_timers 157 = .ok (.iconst (-1), 1) := by decide +kernel
theorem dX9_timers_158 : decode cX9_timers 158 = .ok (.iconst 0, 1) := by decide +kernel
theorem dX9_timers_159 : decode cX9_timers 159 = .ok (.iconst 0, 1) := by decide +kernel
theorem dX9_timers_160 : decode cX9_timers 160 = .ok (.iconst 0, 1) := by decide +kernel
theorem dX9_timers_161 : decode cX9_timers 161 = .ok (.invokevirtual 238, 3) := by decide +kernel
theorem dX9_timers_164 : decode cX9_timers 164 = .ok (.pop, 1) := by decide +kernel
theorem dX9_timers_165 : decode cX9_timers 165 = .ok (.aload_n 0, 1) := by decide +kernel
theorem dX9_timers_166 : decode cX9_timers 166 = .ok (.getfield 69, 3) := by decide +kernel
theorem dX9_timers_169 : decode cX9_timers 169 = .ok (.iload_n 3, 1) := by decide +kernel
theorem dX9_timers_170 : decode cX9_timers 170 = .ok (.aload_n 0, 1) := by decide +kernel
theorem dX9_timers_171 : decode cX9_timers 171 = .ok (.getfield 122, 3) := by decide +kernel
theorem dX9_timers_174 : decode cX9_timers 174 = .ok (.iastore, 1) := by decide +kernel
theorem dX9_timers_175 : decode cX9_timers 175 = .ok (.iinc 2 1, 3) := by decide +kernel
theorem dX9_timers_178 : decode cX9_timers 178 = .ok (.goto (-90), 3) := by decide +kernel
theorem dX9_timers_181 : decode cX9_timers 181 = .ok (.iconst 0, 1) := by decide +kernel
theorem dX9_timers_182 : decode cX9_timers 182 = .ok (.istore_n 2, 1) := by decide +kernel
theorem dX9_timers_183 : decode cX9_timers 183 = .ok (.iload_n 2, 1) := by decide +kernel
theorem dX9_timers_184 : decode cX9_timers 184 = .ok (.bipush 8, 2) := by decide +kernel
theorem dX9_timers_186 : decode cX9_timers 186 = .ok (.if_icmp .ge 30, 3) := by decide +kernel
theorem dX9_timers_189 : decode cX9_timers 189 = .ok (.iconst 0, 1) := by decide +kernel
theorem dX9_timers_190 : decode cX9_timers 190 = .ok (.istore_n 3, 1) := by decide +kernel
theorem dX9_timers_191 : decode cX9_timers 191 = .ok (.iload_n 3, 1) := by decide +kernel
theorem dX9_timers_192 : decode cX9_timers 192 = .ok (.bipush 16, 2) := by decide +kernel
theorem dX9_timers_194 : decode cX9_timers 194 = .ok (.if_icmp .ge 16, 3) := by decide +kernel
theorem dX9_timers_197 : decode cX9_timers 197 = .ok (.aload_n 0, 1) := by decide +kernel
theorem dX9_timers_198 : decode cX9_timers 198 = .ok (.iload_n 1, 1) := by decide +kernel
theorem dX9_timers_199 : decode cX9_timers 199 = .ok (.iload_n 2, 1) := by decide +kernel
theorem dX9_timers_200 : decode cX9_timers 200 = .ok (.iload_n 3, 1) := by decide +kernel
theorem dX9_timers_201 : decode cX9_timers 201 = .ok (.invokevirtual 322, 3) := by decide +kernel
theorem dX9_timers_204 : decode cX9_timers 204 = .ok (.iinc 3 1, 3) := by decide +kernel
theorem dX9_timers_207 : decode cX9_timers 207 = .ok (.goto (-16), 3) := by decide +kernel
theorem dX9_timers_210 : decode cX9_timers 210 = .ok (.iinc 2 1, 3) := by decide +kernel
theorem dX9_timers_213 : decode cX9_timers 213 = .ok (.goto (-30), 3) := by decide +kernel
theorem dX9_timers_216 : decode cX9_timers 216 = .ok (.iconst 0, 1) := by decide +kernel
theorem dX9_timers_217 : decode cX9_timers 217 = .ok (.istore_n 2, 1) := by decide +kernel
theorem dX9_timers_218 : decode cX9_timers 218 = .ok (.iload_n 2, 1) := by decide +kernel
theorem dX9_timers_219 : decode cX9_timers 219 = .ok (.bipush 8, 2) := by decide +kernel
theorem dX9_timers_221 : decode cX9_timers 221 = .ok (.if_icmp .ge 30, 3) := by decide +kernel
theorem dX9_timers_224 : decode cX9_timers 224 = .ok (.iconst 0, 1) := by decide +kernel
theorem dX9_timers_225 : decode cX9_timers 225 = .ok (.istore_n 3, 1) := by decide +kernel
theorem dX9_timers_226 : decode cX9_timers 226 = .ok (.iload_n 3, 1) := by decide +kernel
theorem dX9_timers_227 : decode cX9_timers 227 = .ok (.bipush 17, 2) := by decide +kernel
theorem dX9_timers_229 : decode cX9_timers 229 = .ok (.if_icmp .ge 16, 3) := by decide +kernel
theorem dX9_timers_232 : decode cX9_timers 232 = .ok (.aload_n 0, 1) := by decide +kernel
theorem dX9_timers_233 : decode cX9_timers 233 = .ok (.iload_n 1, 1) := by decide +kernel
theorem dX9_timers_234 : decode cX9_timers 234 = .ok (.iload_n 2, 1) := by decide +kernel
theorem dX9_timers_235 : decode cX9_timers 235 = .ok (.iload_n 3, 1) := by decide +kernel
theorem dX9_timers_236 : decode cX9_timers 236 = .ok (.invokevirtual 325, 3) := by decide +kernel
theorem dX9_timers_239 : decode cX9_timers 239 = .ok (.iinc 3 1, 3) := by decide +kernel
theorem dX9_timers_242 : decode cX9_timers 242 = .ok (.goto (-16), 3) := by decide +kernel
theorem dX9_timers_245 : decode cX9_timers 245 = .ok (.iinc 2 1, 3) := by decide +kernel
theorem dX9_timers_248 : decode cX9_timers 248 = .ok (.goto (-30), 3) := by decide +kernel
theorem dX9_timers_251 : decode cX9_timers 251 = .ok (.iconst 0, 1) := by decide +kernel
theorem dX9_timers_252 : decode cX9_timers 252 = .ok (.istore_n 2, 1) := by decide +kernel
theorem dX9_timers_253 : decode cX9_timers 253 = .ok (.iload_n 2, 1) := by decide +kernel
theorem dX9_timers_254 : decode cX9_timers 254 = .ok (.bipush 8, 2) := by decide +kernel
theorem dX9_timers_256 : decode cX9_timers 256 = .ok (.if_icmp .ge 30, 3) := by decide +kernel
theorem dX9_timers_259 : decode cX9_timers 259 = .ok (.iconst 0, 1) := by decide +kernel
theorem dX9_timers_260 : decode cX9_timers 260 = .ok (.istore_n 3, 1) := by decide +kernel
theorem dX9_timers_261 : decode cX9_timers 261 = .ok (.iload_n 3, 1) := by decide +kernel
theorem dX9_timers_262 : decode cX9_timers 262 = .ok (.bipush 16, 2) := by decide +kernel
theorem dX9_timers_264 : decode cX9_timers 264 = .ok (.if_icmp .ge 16, 3) := by decide +kernel
theorem dX9_timers_267 : decode cX9_timers 267 = .ok (.aload_n 0, 1) := by decide +kernel
theorem dX9_timers_268 : decode cX9_timers 268 = .ok (.iload_n 1, 1) := by decide +kernel
theorem dX9_timers_269 : decode cX9_timers 269 = .ok (.iload_n 2, 1) := by decide +kernel
theorem dX9_timers_270 : decode cX9_timers 270 = .ok (.iload_n 3, 1) := by decide +kernel
theorem dX9_timers_271 : decode cX9_timers 271 = .ok (.invokevirtual 328, 3) := by decide +kernel
theorem dX9_timers_274 : decode cX9_timers 274 = .ok (.iinc 3 1, 3) := by decide +kernel
theorem dX9_timers_277 : decode cX9_timers 277 = .ok (.goto (-16), 3) := by decide +kernel
theorem dX9_timers_280 : decode cX9_timers 280 = .ok (.iinc 2 1, 3) := by decide +kernel
theorem dX9_timers_283 : decode cX9_timers 283 = .ok (.goto (-30), 3) := by decide +kernel
theorem dX9_timers_286 : decode cX9_timers 286 = .ok (.return_, 1) := by decide +kernel
def d_X9_timers_146 (x0 : Nat) (x1 : Int32) (x2 : Int32) (x3 : Int32) (G : Hp) (k88 : Nat → Int32 → Int32 → Hp → Option (Hp)) : Option (Hp) :=
  gd (hc G x0 = 10) <|
  gd (hc G ((hr G x0 8)) = 11 ∧ ix x3 (hl G ((hr G x0 8)))) <|
  b2 (d_X9_put x0 ((hi G ((hr G x0 8)) x3.toNatClampNeg)) 2 x1 (-1) (-1) (-1) 0 0 0 G) fun v4 G5 =>
  gd (hc G5 x0 = 10) <|
  gd (hc G5 ((hr G5 x0 27)) = 11 ∧ ix x3 (hl G5 ((hr G5 x0 27)))) <|
  bd (sI G5 ((hr G5 x0 27)) x3.toNatClampNeg ((hi G5 x0 0))) fun G8 =>
  k88 x0 x1 ((x2 + 1)) G8
def d_X9_timers_226 : Nat → Nat → Int32 → Int32 → Int32 → Hp → (Nat → Int32 → Int32 → Hp → Option (Hp)) → Option (Hp)
  | 0, _, _, _, _, _, _ => none
  | n_ + 1, x0, x1, x2, x3, G, k218 =>
    if 17 ≤ x3 then
      k218 x0 x1 ((x2 + 1)) G
    else
      gd (hc G x0 = 10) <|
      bo (d_X9_climb x0 x1 x2 x3 G) fun G4 =>
      d_X9_timers_226 n_ x0 x1 x2 ((x3 + 1)) G4 k218
def d_X9_timers_261 : Nat → Nat → Int32 → Int32 → Int32 → Hp → (Nat → Int32 → Int32 → Hp → Option (Hp)) → Option (Hp)
  | 0, _, _, _, _, _, _ => none
  | n_ + 1, x0, x1, x2, x3, G, k253 =>
    if 16 ≤ x3 then
      k253 x0 x1 ((x2 + 1)) G
    else
      gd (hc G x0 = 10) <|
      bo (d_X9_remind x0 x1 x2 x3 G) fun G4 =>
      d_X9_timers_261 n_ x0 x1 x2 ((x3 + 1)) G4 k253
def d_X9_timers_253 : Nat → Nat → Int32 → Int32 → Hp → Option (Hp)
  | 0, _, _, _, _ => none
  | n_ + 1, x0, x1, x2, G =>
    if 8 ≤ x2 then
      some G
    else
      d_X9_timers_261 FU x0 x1 x2 0 G (fun y0 y1 y2 Gy => d_X9_timers_253 n_ y0 y1 y2 Gy)
def d_X9_timers_218 : Nat → Nat → Int32 → Int32 → Hp → Option (Hp)
  | 0, _, _, _, _ => none
  | n_ + 1, x0, x1, x2, G =>
    if 8 ≤ x2 then
      d_X9_timers_253 FU x0 x1 0 G
    else
      d_X9_timers_226 FU x0 x1 x2 0 G (fun y0 y1 y2 Gy => d_X9_timers_218 n_ y0 y1 y2 Gy)
def d_X9_timers_191 : Nat → Nat → Int32 → Int32 → Int32 → Hp → (Nat → Int32 → Int32 → Hp → Option (Hp)) → Option (Hp)
  | 0, _, _, _, _, _, _ => none
  | n_ + 1, x0, x1, x2, x3, G, k183 =>
    if 16 ≤ x3 then
      k183 x0 x1 ((x2 + 1)) G
    else
      gd (hc G x0 = 10) <|
      bo (d_X9_bend x0 x1 x2 x3 G) fun G4 =>
      d_X9_timers_191 n_ x0 x1 x2 ((x3 + 1)) G4 k183
def d_X9_timers_183 : Nat → Nat → Int32 → Int32 → Hp → Option (Hp)
  | 0, _, _, _, _ => none
  | n_ + 1, x0, x1, x2, G =>
    if 8 ≤ x2 then
      d_X9_timers_218 FU x0 x1 0 G
    else
      d_X9_timers_191 FU x0 x1 x2 0 G (fun y0 y1 y2 Gy => d_X9_timers_183 n_ y0 y1 y2 Gy)
def d_X9_timers_88 : Nat → Nat → Int32 → Int32 → Hp → Option (Hp)
  | 0, _, _, _, _ => none
  | n_ + 1, x0, x1, x2, G =>
    if 4 ≤ x2 then
      d_X9_timers_183 FU x0 x1 0 G
    else
      gd (hc G x0 = 10) <|
      bo (d_X9_isUp x0 x1 x2 G) fun v4 =>
      if v4 = 0 then
        d_X9_timers_88 n_ x0 x1 ((x2 + 1)) G
      else
        bo (d_X9_isAsking x0 x1 x2 G) fun v7 =>
        if v7 = 0 then
          d_X9_timers_88 n_ x0 x1 ((x2 + 1)) G
        else
          gd (hc G ((hr G x0 27)) = 11 ∧ ix ((((4 * x1)) + x2)) (hl G ((hr G x0 27)))) <|
          if ((hi G ((hr G x0 27)) ((((4 * x1)) + x2)).toNatClampNeg)) = (-1) then
            d_X9_timers_146 x0 x1 x2 ((((4 * x1)) + x2)) G (fun y0 y1 y2 Gy => d_X9_timers_88 n_ y0 y1 y2 Gy)
          else
            gd (hc G ((hr G x0 27)) = 11 ∧ ix ((((4 * x1)) + x2)) (hl G ((hr G x0 27)))) <|
            if 25 ≤ ((((hi G x0 0)) - ((hi G ((hr G x0 27)) ((((4 * x1)) + x2)).toNatClampNeg)))) then
              d_X9_timers_146 x0 x1 x2 ((((4 * x1)) + x2)) G (fun y0 y1 y2 Gy => d_X9_timers_88 n_ y0 y1 y2 Gy)
            else
              d_X9_timers_88 n_ x0 x1 ((x2 + 1)) G
def d_X9_timers_51 (x0 : Nat) (x1 : Int32) (x2 : Int32) (x3 : Int32) (G : Hp) (k2 : Nat → Int32 → Int32 → Hp → Option (Hp)) : Option (Hp) :=
  gd (hc G x0 = 10) <|
  gd (hc G ((hr G x0 8)) = 11 ∧ ix x3 (hl G ((hr G x0 8)))) <|
  b2 (d_X9_put x0 ((hi G ((hr G x0 8)) x3.toNatClampNeg)) 1 x1 (-1) (-1) (-1) 0 0 0 G) fun v4 G5 =>
  gd (hc G5 x0 = 10) <|
  gd (hc G5 ((hr G5 x0 26)) = 11 ∧ ix x3 (hl G5 ((hr G5 x0 26)))) <|
  bd (sI G5 ((hr G5 x0 26)) x3.toNatClampNeg ((hi G5 x0 0))) fun G8 =>
  k2 x0 x1 ((x2 + 1)) G8
def d_X9_timers_2 : Nat → Nat → Int32 → Int32 → Hp → Option (Hp)
  | 0, _, _, _, _ => none
  | n_ + 1, x0, x1, x2, G =>
    if 4 ≤ x2 then
      d_X9_timers_88 FU x0 x1 0 G
    else
      gd (hc G x0 = 10) <|
      bo (d_X9_isUp x0 x1 x2 G) fun v4 =>
      if v4 = 0 then
        d_X9_timers_2 n_ x0 x1 ((x2 + 1)) G
      else
        gd (hc G ((hr G x0 26)) = 11 ∧ ix ((((4 * x1)) + x2)) (hl G ((hr G x0 26)))) <|
        if ((hi G ((hr G x0 26)) ((((4 * x1)) + x2)).toNatClampNeg)) = (-1) then
          d_X9_timers_51 x0 x1 x2 ((((4 * x1)) + x2)) G (fun y0 y1 y2 Gy => d_X9_timers_2 n_ y0 y1 y2 Gy)
        else
          gd (hc G ((hr G x0 26)) = 11 ∧ ix ((((4 * x1)) + x2)) (hl G ((hr G x0 26)))) <|
          if 20 ≤ ((((hi G x0 0)) - ((hi G ((hr G x0 26)) ((((4 * x1)) + x2)).toNatClampNeg)))) then
            d_X9_timers_51 x0 x1 x2 ((((4 * x1)) + x2)) G (fun y0 y1 y2 Gy => d_X9_timers_2 n_ y0 y1 y2 Gy)
          else
            d_X9_timers_2 n_ x0 x1 ((x2 + 1)) G
def d_X9_timers (x0 : Nat) (x1 : Int32) (G : Hp) : Option (Hp) :=
  d_X9_timers_2 FU x0 x1 0 G
section
variable {p : Program} {l : Launch} {e : Env} {s : State} {m : MethodId} {args : Array Value} {below : List Frame} {meth : Method} {c : Code} {b0 : Nat} {D : va_G} {E : Nat → ClassId}
set_option maxHeartbeats 4000000 in
set_option maxRecDepth 100000 in
theorem k_X9_timers_146 (C : Cx p s m args meth c RX9 cX9_timers 4 none b0 D E) {GG : Hp} {k88 : Nat → Int32 → Int32 → Hp → Option (Hp)} (hk88 : ∀ (y0 : Nat) (y1 : Int32) (y2 : Int32) (Gy : Hp) (H1 : Heap) (locs1 : List Loc) (ls1 : Array Slot), lx ls1 4 [(0, .inr y0), (1, .inl y1), (2, .inl y2)] → Rp b0 D E Gy H1 → SS b0 s H1 locs1 → k88 y0 y1 y2 Gy = some GG → W p l e (rmd 13 (0) (0)) s m args below meth c H1 locs1 (0) (0) (MQ below (CQ b0 D E none GG) args s (0) (0) (fun q => b0 ≤ q)) (F0 m 88 ls1 [])) {x0 : Nat} {x1 : Int32} {x2 : Int32} {x3 : Int32} {G : Hp} {ls : Array Slot} {H : Heap} {locs : List Loc} : lx ls 4 [(0, .inr x0), (1, .inl x1), (2, .inl x2), (3, .inl x3)] → Rp b0 D E G H → SS b0 s H locs → d_X9_timers_146 x0 x1 x2 x3 G k88 = some GG → W p l e (rmd 13 (0) (0)) s m args below meth c H locs (0) (0) (MQ below (CQ b0 D E none GG) args s (0) (0) (fun q => b0 ≤ q)) (F0 m 146 ls []) := by
  intro hL hR hS hd
  unfold d_X9_timers_146 at hd
  have hx := C.1
  have hb := C.2.1
  refine x_aload_n C dX9_timers_146 hL 0 rfl ?_
  refine x_aload_n C dX9_timers_147 hL 0 rfl ?_
  obtain ⟨g1, hd⟩ := gd_ex hd
  refine r_getr (ci := 9) (k := 8) C fl_X9_7 rfl dX9_timers_148 hR g1 ?_
  refine x_iload_n C dX9_timers_151 hL 3 rfl ?_
  obtain ⟨g2, hd⟩ := gd_ex hd
  refine r_iald C dX9_timers_152 hR g2 ?_
  refine lv_iconst (v := 2) hx hb dX9_timers_153 (by decide) ?_
  refine x_iload_n C dX9_timers_154 hL 1 rfl ?_
  refine lv_iconst (v := (-1)) hx hb dX9_timers_155 (by decide) ?_
  refine lv_iconst (v := (-1)) hx hb dX9_timers_156 (by decide) ?_
  refine lv_iconst (v := (-1)) hx hb dX9_timers_157 (by decide) ?_
  refine lv_iconst (v := 0) hx hb dX9_timers_158 (by decide) ?_
  refine lv_iconst (v := 0) hx hb dX9_timers_159 (by decide) ?_
  refine lv_iconst (v := 0) hx hb dX9_timers_160 (by decide) ?_
  obtain ⟨v4, G5, h3, hd⟩ := b2_ex hd
  refine r_callV (a := x0) (ci := 9) (As := [.int ((hi G ((hr G x0 8)) x3.toNatClampNeg)), .int 2, .int x1, .int (-1), .int (-1), .int (-1), .int 0, .int 0, .int 0]) C (ct_X9_put h3) mf_X9_put ml_X9_238 mv_X9_put rfl ⟨Nat.le_of_ble_eq_true rfl, Nat.le_of_ble_eq_true rfl⟩ dX9_timers_161 (lx_size hL) rfl hR hS g1 ⟨Nat.le_refl _, Nat.le_refl _⟩ (cat_le [] (Nat.le_of_ble_eq_true rfl)) (fun H locs hR hS => ?_)
  refine W_st (st2 := [.int v4]) rfl ?_
  refine lv_pop hx hb dX9_timers_164 rfl ?_
  refine x_aload_n C dX9_timers_165 hL 0 rfl ?_
  obtain ⟨g6, hd⟩ := gd_ex hd
  refine r_getr (ci := 9) (k := 27) C fl_X9_69 rfl dX9_timers_166 hR g6 ?_
  refine x_iload_n C dX9_timers_169 hL 3 rfl ?_
  refine x_aload_n C dX9_timers_170 hL 0 rfl ?_
  refine r_geti (ci := 9) (k := 0) C fl_X9_122 rfl dX9_timers_171 hR g6 ?_
  obtain ⟨g7, hd⟩ := gd_ex hd
  obtain ⟨G8, eG8, hd⟩ := bd_ex hd
  refine r_iast C dX9_timers_174 hR hS g7 (fun H locs hR hS => ?_)
  replace hR : Rp b0 D E G8 H := by rw [eG8]; exact hR
  refine x_iinc (lv' := [(2, .inl ((x2 + 1))), (0, .inr x0), (1, .inl x1), (3, .inl x3)]) C dX9_timers_175 hL 2 rfl rfl (by decide) rfl (fun ls hL => ?_)
  refine lv_goto (tgt := 88) hx hb dX9_timers_178 (by decide) ?_
  exact hk88 _ _ _ _ _ _ _ (lx_sub hL [1, 2, 0] rfl) hR hS hd
set_option maxHeartbeats 4000000 in
set_option maxRecDepth 100000 in
theorem k_X9_timers_226 (C : Cx p s m args meth c RX9 cX9_timers 4 none b0 D E) {GG : Hp} {k218 : Nat → Int32 → Int32 → Hp → Option (Hp)} (hk218 : ∀ (y0 : Nat) (y1 : Int32) (y2 : Int32) (Gy : Hp) (H1 : Heap) (locs1 : List Loc) (ls1 : Array Slot), lx ls1 4 [(0, .inr y0), (1, .inl y1), (2, .inl y2)] → Rp b0 D E Gy H1 → SS b0 s H1 locs1 → k218 y0 y1 y2 Gy = some GG → W p l e (rmd 13 (0) (0)) s m args below meth c H1 locs1 (0) (0) (MQ below (CQ b0 D E none GG) args s (0) (0) (fun q => b0 ≤ q)) (F0 m 218 ls1 [])) : ∀ (n_ : Nat) {x0 : Nat} {x1 : Int32} {x2 : Int32} {x3 : Int32} {G : Hp} {ls : Array Slot} {H : Heap} {locs : List Loc}, lx ls 4 [(0, .inr x0), (1, .inl x1), (2, .inl x2), (3, .inl x3)] → Rp b0 D E G H → SS b0 s H locs → d_X9_timers_226 n_ x0 x1 x2 x3 G k218 = some GG → W p l e (rmd 13 (0) (0)) s m args below meth c H locs (0) (0) (MQ below (CQ b0 D E none GG) args s (0) (0) (fun q => b0 ≤ q)) (F0 m 226 ls []) := by
  intro n_
  induction n_ with
  | zero =>
    intro x0 x1 x2 x3 G ls H locs hL hR hS hd
    cases (show (none : Option _) = some _ from hd)
  | succ n_ ih =>
    intro x0 x1 x2 x3 G ls H locs hL hR hS hd
    rw [d_X9_timers_226.eq_2] at hd
    have hx := C.1
    have hb := C.2.1
    refine x_iload_n C dX9_timers_226 hL 3 rfl ?_
    refine lv_bipush (v := 17) hx hb dX9_timers_227 (by decide) ?_
    refine lv_icmp_ge (tgt := 245) hx hb dX9_timers_229 (by decide) (fun c1 => ?_) (fun c1 => ?_)
    · rw [if_pos c1] at hd
      refine x_iinc (lv' := [(2, .inl ((x2 + 1))), (0, .inr x0), (1, .inl x1), (3, .inl x3)]) C dX9_timers_245 hL 2 rfl rfl (by decide) rfl (fun ls hL => ?_)
      refine lv_goto (tgt := 218) hx hb dX9_timers_248 (by decide) ?_
      exact hk218 _ _ _ _ _ _ _ (lx_sub hL [1, 2, 0] rfl) hR hS hd
    · rw [if_neg c1] at hd
      refine x_aload_n C dX9_timers_232 hL 0 rfl ?_
      refine x_iload_n C dX9_timers_233 hL 1 rfl ?_
      refine x_iload_n C dX9_timers_234 hL 2 rfl ?_
      refine x_iload_n C dX9_timers_235 hL 3 rfl ?_
      obtain ⟨g2, hd⟩ := gd_ex hd
      obtain ⟨G4, h3, hd⟩ := bo_ex hd
      refine r_callV (a := x0) (ci := 9) (As := [.int x1, .int x2, .int x3]) C (ct_X9_climb h3) mf_X9_climb ml_X9_325 mv_X9_climb rfl ⟨Nat.le_of_ble_eq_true rfl, Nat.le_of_ble_eq_true rfl⟩ dX9_timers_236 (lx_size hL) rfl hR hS g2 ⟨Nat.le_refl _, Nat.le_refl _⟩ (cat_le [] (Nat.le_of_ble_eq_true rfl)) (fun H locs hR hS => ?_)
      refine W_st (st2 := []) rfl ?_
      refine x_iinc (lv' := [(3, .inl ((x3 + 1))), (0, .inr x0), (1, .inl x1), (2, .inl x2)]) C dX9_timers_239 hL 3 rfl rfl (by decide) rfl (fun ls hL => ?_)
      refine lv_goto (tgt := 226) hx hb dX9_timers_242 (by decide) ?_
      exact ih (lx_sub hL [1, 2, 3, 0] rfl) hR hS hd
set_option maxHeartbeats 4000000 in
set_option maxRecDepth 100000 in
theorem k_X9_timers_261 (C : Cx p s m args meth c RX9 cX9_timers 4 none b0 D E) {GG : Hp} {k253 : Nat → Int32 → Int32 → Hp → Option (Hp)} (hk253 : ∀ (y0 : Nat) (y1 : Int32) (y2 : Int32) (Gy : Hp) (H1 : Heap) (locs1 : List Loc) (ls1 : Array Slot), lx ls1 4 [(0, .inr y0), (1, .inl y1), (2, .inl y2)] → Rp b0 D E Gy H1 → SS b0 s H1 locs1 → k253 y0 y1 y2 Gy = some GG → W p l e (rmd 13 (0) (0)) s m args below meth c H1 locs1 (0) (0) (MQ below (CQ b0 D E none GG) args s (0) (0) (fun q => b0 ≤ q)) (F0 m 253 ls1 [])) : ∀ (n_ : Nat) {x0 : Nat} {x1 : Int32} {x2 : Int32} {x3 : Int32} {G : Hp} {ls : Array Slot} {H : Heap} {locs : List Loc}, lx ls 4 [(0, .inr x0), (1, .inl x1), (2, .inl x2), (3, .inl x3)] → Rp b0 D E G H → SS b0 s H locs → d_X9_timers_261 n_ x0 x1 x2 x3 G k253 = some GG → W p l e (rmd 13 (0) (0)) s m args below meth c H locs (0) (0) (MQ below (CQ b0 D E none GG) args s (0) (0) (fun q => b0 ≤ q)) (F0 m 261 ls []) := by
  intro n_
  induction n_ with
  | zero =>
    intro x0 x1 x2 x3 G ls H locs hL hR hS hd
    cases (show (none : Option _) = some _ from hd)
  | succ n_ ih =>
    intro x0 x1 x2 x3 G ls H locs hL hR hS hd
    rw [d_X9_timers_261.eq_2] at hd
    have hx := C.1
    have hb := C.2.1
    refine x_iload_n C dX9_timers_261 hL 3 rfl ?_
    refine lv_bipush (v := 16) hx hb dX9_timers_262 (by decide) ?_
    refine lv_icmp_ge (tgt := 280) hx hb dX9_timers_264 (by decide) (fun c1 => ?_) (fun c1 => ?_)
    · rw [if_pos c1] at hd
      refine x_iinc (lv' := [(2, .inl ((x2 + 1))), (0, .inr x0), (1, .inl x1), (3, .inl x3)]) C dX9_timers_280 hL 2 rfl rfl (by decide) rfl (fun ls hL => ?_)
      refine lv_goto (tgt := 253) hx hb dX9_timers_283 (by decide) ?_
      exact hk253 _ _ _ _ _ _ _ (lx_sub hL [1, 2, 0] rfl) hR hS hd
    · rw [if_neg c1] at hd
      refine x_aload_n C dX9_timers_267 hL 0 rfl ?_
      refine x_iload_n C dX9_timers_268 hL 1 rfl ?_
      refine x_iload_n C dX9_timers_269 hL 2 rfl ?_
      refine x_iload_n C dX9_timers_270 hL 3 rfl ?_
      obtain ⟨g2, hd⟩ := gd_ex hd
      obtain ⟨G4, h3, hd⟩ := bo_ex hd
      refine r_callV (a := x0) (ci := 9) (As := [.int x1, .int x2, .int x3]) C (ct_X9_remind h3) mf_X9_remind ml_X9_328 mv_X9_remind rfl ⟨Nat.le_of_ble_eq_true rfl, Nat.le_of_ble_eq_true rfl⟩ dX9_timers_271 (lx_size hL) rfl hR hS g2 ⟨Nat.le_refl _, Nat.le_refl _⟩ (cat_le [] (Nat.le_of_ble_eq_true rfl)) (fun H locs hR hS => ?_)
      refine W_st (st2 := []) rfl ?_
      refine x_iinc (lv' := [(3, .inl ((x3 + 1))), (0, .inr x0), (1, .inl x1), (2, .inl x2)]) C dX9_timers_274 hL 3 rfl rfl (by decide) rfl (fun ls hL => ?_)
      refine lv_goto (tgt := 261) hx hb dX9_timers_277 (by decide) ?_
      exact ih (lx_sub hL [1, 2, 3, 0] rfl) hR hS hd
set_option maxHeartbeats 4000000 in
set_option maxRecDepth 100000 in
theorem k_X9_timers_253 (C : Cx p s m args meth c RX9 cX9_timers 4 none b0 D E) {GG : Hp} : ∀ (n_ : Nat) {x0 : Nat} {x1 : Int32} {x2 : Int32} {G : Hp} {ls : Array Slot} {H : Heap} {locs : List Loc}, lx ls 4 [(0, .inr x0), (1, .inl x1), (2, .inl x2)] → Rp b0 D E G H → SS b0 s H locs → d_X9_timers_253 n_ x0 x1 x2 G = some GG → W p l e (rmd 13 (0) (0)) s m args below meth c H locs (0) (0) (MQ below (CQ b0 D E none GG) args s (0) (0) (fun q => b0 ≤ q)) (F0 m 253 ls []) := by
  intro n_
  induction n_ with
  | zero =>
    intro x0 x1 x2 G ls H locs hL hR hS hd
    cases (show (none : Option _) = some _ from hd)
  | succ n_ ih =>
    intro x0 x1 x2 G ls H locs hL hR hS hd
    rw [d_X9_timers_253.eq_2] at hd
    have hx := C.1
    have hb := C.2.1
    refine x_iload_n C dX9_timers_253 hL 2 rfl ?_
    refine lv_bipush (v := 8) hx hb dX9_timers_254 (by decide) ?_
    refine lv_icmp_ge (tgt := 286) hx hb dX9_timers_256 (by decide) (fun c1 => ?_) (fun c1 => ?_)
    · rw [if_pos c1] at hd
      cases hd
      exact r_vret C dX9_timers_286 hR hS
    · rw [if_neg c1] at hd
      refine lv_iconst (v := 0) hx hb dX9_timers_259 (by decide) ?_
      refine x_istore_n (lv' := [(3, .inl 0), (0, .inr x0), (1, .inl x1), (2, .inl x2)]) C dX9_timers_260 hL (by decide) rfl (fun ls hL => ?_)
      exact k_X9_timers_261 C (fun y0 y1 y2 Gy H1 locs1 ls1 hL1 hR1 hS1 hd1 => ih hL1 hR1 hS1 hd1) FU (lx_sub hL [1, 2, 3, 0] rfl) hR hS hd
set_option maxHeartbeats 4000000 in
set_option maxRecDepth 100000 in
theorem k_X9_timers_218 (C : Cx p s m args meth c RX9 cX9_timers 4 none b0 D E) {GG : Hp} : ∀ (n_ : Nat) {x0 : Nat} {x1 : Int32} {x2 : Int32} {G : Hp} {ls : Array Slot} {H : Heap} {locs : List Loc}, lx ls 4 [(0, .inr x0), (1, .inl x1), (2, .inl x2)] → Rp b0 D E G H → SS b0 s H locs → d_X9_timers_218 n_ x0 x1 x2 G = some GG → W p l e (rmd 13 (0) (0)) s m args below meth c H locs (0) (0) (MQ below (CQ b0 D E none GG) args s (0) (0) (fun q => b0 ≤ q)) (F0 m 218 ls []) := by
  intro n_
  induction n_ with
  | zero =>
    intro x0 x1 x2 G ls H locs hL hR hS hd
    cases (show (none : Option _) = some _ from hd)
  | succ n_ ih =>
    intro x0 x1 x2 G ls H locs hL hR hS hd
    rw [d_X9_timers_218.eq_2] at hd
    have hx := C.1
    have hb := C.2.1
    refine x_iload_n C dX9_timers_218 hL 2 rfl ?_
    refine lv_bipush (v := 8) hx hb dX9_timers_219 (by decide) ?_
    refine lv_icmp_ge (tgt := 251) hx hb dX9_timers_221 (by decide) (fun c1 => ?_) (fun c1 => ?_)
    · rw [if_pos c1] at hd
      refine lv_iconst (v := 0) hx hb dX9_timers_251 (by decide) ?_
      refine x_istore_n (lv' := [(2, .inl 0), (0, .inr x0), (1, .inl x1)]) C dX9_timers_252 hL (by decide) rfl (fun ls hL => ?_)
      exact k_X9_timers_253 C FU (lx_sub hL [1, 2, 0] rfl) hR hS hd
    · rw [if_neg c1] at hd
      refine lv_iconst (v := 0) hx hb dX9_timers_224 (by decide) ?_
      refine x_istore_n (lv' := [(3, .inl 0), (0, .inr x0), (1, .inl x1), (2, .inl x2)]) C dX9_timers_225 hL (by decide) rfl (fun ls hL => ?_)
      exact k_X9_timers_226 C (fun y0 y1 y2 Gy H1 locs1 ls1 hL1 hR1 hS1 hd1 => ih hL1 hR1 hS1 hd1) FU (lx_sub hL [1, 2, 3, 0] rfl) hR hS hd
set_option maxHeartbeats 4000000 in
set_option maxRecDepth 100000 in
theorem k_X9_timers_191 (C : Cx p s m args meth c RX9 cX9_timers 4 none b0 D E) {GG : Hp} {k183 : Nat → Int32 → Int32 → Hp → Option (Hp)} (hk183 : ∀ (y0 : Nat) (y1 : Int32) (y2 : Int32) (Gy : Hp) (H1 : Heap) (locs1 : List Loc) (ls1 : Array Slot), lx ls1 4 [(0, .inr y0), (1, .inl y1), (2, .inl y2)] → Rp b0 D E Gy H1 → SS b0 s H1 locs1 → k183 y0 y1 y2 Gy = some GG → W p l e (rmd 13 (0) (0)) s m args below meth c H1 locs1 (0) (0) (MQ below (CQ b0 D E none GG) args s (0) (0) (fun q => b0 ≤ q)) (F0 m 183 ls1 [])) : ∀ (n_ : Nat) {x0 : Nat} {x1 : Int32} {x2 : Int32} {x3 : Int32} {G : Hp} {ls : Array Slot} {H : Heap} {locs : List Loc}, lx ls 4 [(0, .inr x0), (1, .inl x1), (2, .inl x2), (3, .inl x3)] → Rp b0 D E G H → SS b0 s H locs → d_X9_timers_191 n_ x0 x1 x2 x3 G k183 = some GG → W p l e (rmd 13 (0) (0)) s m args below meth c H locs (0) (0) (MQ below (CQ b0 D E none GG) args s (0) (0) (fun q => b0 ≤ q)) (F0 m 191 ls []) := by
  intro n_
  induction n_ with
  | zero =>
    intro x0 x1 x2 x3 G ls H locs hL hR hS hd
    cases (show (none : Option _) = some _ from hd)
  | succ n_ ih =>
    intro x0 x1 x2 x3 G ls H locs hL hR hS hd
    rw [d_X9_timers_191.eq_2] at hd
    have hx := C.1
    have hb := C.2.1
    refine x_iload_n C dX9_timers_191 hL 3 rfl ?_
    refine lv_bipush (v := 16) hx hb dX9_timers_192 (by decide) ?_
    refine lv_icmp_ge (tgt := 210) hx hb dX9_timers_194 (by decide) (fun c1 => ?_) (fun c1 => ?_)
    · rw [if_pos c1] at hd
      refine x_iinc (lv' := [(2, .inl ((x2 + 1))), (0, .inr x0), (1, .inl x1), (3, .inl x3)]) C dX9_timers_210 hL 2 rfl rfl (by decide) rfl (fun ls hL => ?_)
      refine lv_goto (tgt := 183) hx hb dX9_timers_213 (by decide) ?_
      exact hk183 _ _ _ _ _ _ _ (lx_sub hL [1, 2, 0] rfl) hR hS hd
    · rw [if_neg c1] at hd
      refine x_aload_n C dX9_timers_197 hL 0 rfl ?_
      refine x_iload_n C dX9_timers_198 hL 1 rfl ?_
      refine x_iload_n C dX9_timers_199 hL 2 rfl ?_
      refine x_iload_n C dX9_timers_200 hL 3 rfl ?_
      obtain ⟨g2, hd⟩ := gd_ex hd
      obtain ⟨G4, h3, hd⟩ := bo_ex hd
      refine r_callV (a := x0) (ci := 9) (As := [.int x1, .int x2, .int x3]) C (ct_X9_bend h3) mf_X9_bend ml_X9_322 mv_X9_bend rfl ⟨Nat.le_of_ble_eq_true rfl, Nat.le_of_ble_eq_true rfl⟩ dX9_timers_201 (lx_size hL) rfl hR hS g2 ⟨Nat.le_refl _, Nat.le_refl _⟩ (cat_le [] (Nat.le_of_ble_eq_true rfl)) (fun H locs hR hS => ?_)
      refine W_st (st2 := []) rfl ?_
      refine x_iinc (lv' := [(3, .inl ((x3 + 1))), (0, .inr x0), (1, .inl x1), (2, .inl x2)]) C dX9_timers_204 hL 3 rfl rfl (by decide) rfl (fun ls hL => ?_)
      refine lv_goto (tgt := 191) hx hb dX9_timers_207 (by decide) ?_
      exact ih (lx_sub hL [1, 2, 3, 0] rfl) hR hS hd
set_option maxHeartbeats 4000000 in
set_option maxRecDepth 100000 in
theorem k_X9_timers_183 (C : Cx p s m args meth c RX9 cX9_timers 4 none b0 D E) {GG : Hp} : ∀ (n_ : Nat) {x0 : Nat} {x1 : Int32} {x2 : Int32} {G : Hp} {ls : Array Slot} {H : Heap} {locs : List Loc}, lx ls 4 [(0, .inr x0), (1, .inl x1), (2, .inl x2)] → Rp b0 D E G H → SS b0 s H locs → d_X9_timers_183 n_ x0 x1 x2 G = some GG → W p l e (rmd 13 (0) (0)) s m args below meth c H locs (0) (0) (MQ below (CQ b0 D E none GG) args s (0) (0) (fun q => b0 ≤ q)) (F0 m 183 ls []) := by
  intro n_
  induction n_ with
  | zero =>
    intro x0 x1 x2 G ls H locs hL hR hS hd
    cases (show (none : Option _) = some _ from hd)
  | succ n_ ih =>
    intro x0 x1 x2 G ls H locs hL hR hS hd
    rw [d_X9_timers_183.eq_2] at hd
    have hx := C.1
    have hb := C.2.1
    refine x_iload_n C dX9_timers_183 hL 2 rfl ?_
    refine lv_bipush (v := 8) hx hb dX9_timers_184 (by decide) ?_
    refine lv_icmp_ge (tgt := 216) hx hb dX9_timers_186 (by decide) (fun c1 => ?_) (fun c1 => ?_)
    · rw [if_pos c1] at hd
      refine lv_iconst (v := 0) hx hb dX9_timers_216 (by decide) ?_
      refine x_istore_n (lv' := [(2, .inl 0), (0, .inr x0), (1, .inl x1)]) C dX9_timers_217 hL (by decide) rfl (fun ls hL => ?_)
      exact k_X9_timers_218 C FU (lx_sub hL [1, 2, 0] rfl) hR hS hd
    · rw [if_neg c1] at hd
      refine lv_iconst (v := 0) hx hb dX9_timers_189 (by decide) ?_
      refine x_istore_n (lv' := [(3, .inl 0), (0, .inr x0), (1, .inl x1), (2, .inl x2)]) C dX9_timers_190 hL (by decide) rfl (fun ls hL => ?_)
      exact k_X9_timers_191 C (fun y0 y1 y2 Gy H1 locs1 ls1 hL1 hR1 hS1 hd1 => ih hL1 hR1 hS1 hd1) FU (lx_sub hL [1, 2, 3, 0] rfl) hR hS hd
set_option maxHeartbeats 4000000 in
set_option maxRecDepth 100000 in
theorem k_X9_timers_88 (C : Cx p s m args meth c RX9 cX9_timers 4 none b0 D E) {GG : Hp} : ∀ (n_ : Nat) {x0 : Nat} {x1 : Int32} {x2 : Int32} {G : Hp} {ls : Array Slot} {H : Heap} {locs : List Loc}, lx ls 4 [(0, .inr x0), (1, .inl x1), (2, .inl x2)] → Rp b0 D E G H → SS b0 s H locs → d_X9_timers_88 n_ x0 x1 x2 G = some GG → W p l e (rmd 13 (0) (0)) s m args below meth c H locs (0) (0) (MQ below (CQ b0 D E none GG) args s (0) (0) (fun q => b0 ≤ q)) (F0 m 88 ls []) := by
  intro n_
  induction n_ with
  | zero =>
    intro x0 x1 x2 G ls H locs hL hR hS hd
    cases (show (none : Option _) = some _ from hd)
  | succ n_ ih =>
    intro x0 x1 x2 G ls H locs hL hR hS hd
    rw [d_X9_timers_88.eq_2] at hd
    have hx := C.1
    have hb := C.2.1
    refine x_iload_n C dX9_timers_88 hL 2 rfl ?_
    refine lv_iconst (v := 4) hx hb dX9_timers_89 (by decide) ?_
    refine lv_icmp_ge (tgt := 181) hx hb dX9_timers_90 (by decide) (fun c1 => ?_) (fun c1 => ?_)
    · rw [if_pos c1] at hd
      refine lv_iconst (v := 0) hx hb dX9_timers_181 (by decide) ?_
      refine x_istore_n (lv' := [(2, .inl 0), (0, .inr x0), (1, .inl x1)]) C dX9_timers_182 hL (by decide) rfl (fun ls hL => ?_)
      exact k_X9_timers_183 C FU (lx_sub hL [1, 2, 0] rfl) hR hS hd
    · rw [if_neg c1] at hd
      refine lv_iconst (v := 4) hx hb dX9_timers_93 (by decide) ?_
      refine x_iload_n C dX9_timers_94 hL 1 rfl ?_
      refine lv_imul hx hb dX9_timers_95 ?_
      refine x_iload_n C dX9_timers_96 hL 2 rfl ?_
      refine lv_iadd hx hb dX9_timers_97 ?_
      refine x_istore_n (lv' := [(3, .inl ((((4 * x1)) + x2))), (0, .inr x0), (1, .inl x1), (2, .inl x2)]) C dX9_timers_98 hL (by decide) rfl (fun ls hL => ?_)
      refine x_aload_n C dX9_timers_99 hL 1 rfl ?_
      refine x_iload_n C dX9_timers_100 hL 2 rfl ?_
      refine x_iload_n C dX9_timers_101 hL 3 rfl ?_
      obtain ⟨g2, hd⟩ := gd_ex hd
      obtain ⟨v4, h3, hd⟩ := bo_ex hd
      refine r_callV (a := x0) (ci := 9) (As := [.int x1, .int x2]) C (ct_X9_isUp h3) mf_X9_isUp ml_X9_150 mv_X9_isUp rfl ⟨Nat.le_of_ble_eq_true rfl, Nat.le_of_ble_eq_true rfl⟩ dX9_timers_102 (lx_size hL) rfl hR hS g2 ⟨Nat.le_refl _, Nat.le_refl _⟩ (cat_le [] (Nat.le_of_ble_eq_true rfl)) (fun H locs hR hS => ?_)
      refine W_st (st2 := [.int v4]) rfl ?_
      refine lv_if_eq (tgt := 175) hx hb dX9_timers_105 (by decide) (fun c5 => ?_) (fun c5 => ?_)
      · rw [if_pos c5] at hd
        refine x_iinc (lv' := [(2, .inl ((x2 + 1))), (3, .inl ((((4 * x1)) + x2))), (0, .inr x0), (1, .inl x1)]) C dX9_timers_175 hL 3 rfl rfl (by decide) rfl (fun ls hL => ?_)
        refine lv_goto (tgt := 88) hx hb dX9_timers_178 (by decide) ?_
        exact ih (lx_sub hL [2, 3, 0] rfl) hR hS hd
      · rw [if_neg c5] at hd
        refine x_aload_n C dX9_timers_108 hL 1 rfl ?_
        refine x_iload_n C dX9_timers_109 hL 2 rfl ?_
        refine x_iload_n C dX9_timers_110 hL 3 rfl ?_
        obtain ⟨v7, h6, hd⟩ := bo_ex hd
        refine r_callV (a := x0) (ci := 9) (As := [.int x1, .int x2]) C (ct_X9_isAsking h6) mf_X9_isAsking ml_X9_284 mv_X9_isAsking rfl ⟨Nat.le_of_ble_eq_true rfl, Nat.le_of_ble_eq_true rfl⟩ dX9_timers_111 (lx_size hL) rfl hR hS g2 ⟨Nat.le_refl _, Nat.le_refl _⟩ (cat_le [] (Nat.le_of_ble_eq_true rfl)) (fun H locs hR hS => ?_)
        refine W_st (st2 := [.int v7]) rfl ?_
        refine lv_if_eq (tgt := 175) hx hb dX9_timers_114 (by decide) (fun c8 => ?_) (fun c8 => ?_)
        · rw [if_pos c8] at hd
          refine x_iinc (lv' := [(2, .inl ((x2 + 1))), (3, .inl ((((4 * x1)) + x2))), (0, .inr x0), (1, .inl x1)]) C dX9_timers_175 hL 3 rfl rfl (by decide) rfl (fun ls hL => ?_)
          refine lv_goto (tgt := 88) hx hb dX9_timers_178 (by decide) ?_
          exact ih (lx_sub hL [2, 3, 0] rfl) hR hS hd
        · rw [if_neg c8] at hd
          refine x_aload_n C dX9_timers_117 hL 1 rfl ?_
          refine r_getr (ci := 9) (k := 27) C fl_X9_69 rfl dX9_timers_118 hR g2 ?_
          refine x_iload_n C dX9_timers_121 hL 0 rfl ?_
          obtain ⟨g9, hd⟩ := gd_ex hd
          refine r_iald C dX9_timers_122 hR g9 ?_
          refine lv_iconst (v := (-1)) hx hb dX9_timers_123 (by decide) ?_
          refine lv_icmp_eq (tgt := 146) hx hb dX9_timers_124 (by decide) (fun c10 => ?_) (fun c10 => ?_)
          · rw [if_pos c10] at hd
            exact k_X9_timers_146 C (fun y0 y1 y2 Gy H1 locs1 ls1 hL1 hR1 hS1 hd1 => ih hL1 hR1 hS1 hd1) (lx_sub hL [1, 2, 3, 0] rfl) hR hS hd
          · rw [if_neg c10] at hd
            refine x_aload_n C dX9_timers_127 hL 1 rfl ?_
            refine r_geti (ci := 9) (k := 0) C fl_X9_122 rfl dX9_timers_128 hR g2 ?_
            refine x_aload_n C dX9_timers_131 hL 1 rfl ?_
            refine r_getr (ci := 9) (k := 27) C fl_X9_69 rfl dX9_timers_132 hR g2 ?_
            refine x_iload_n C dX9_timers_135 hL 0 rfl ?_
            obtain ⟨g11, hd⟩ := gd_ex hd
            refine r_iald C dX9_timers_136 hR g11 ?_
            refine lv_isub hx hb dX9_timers_137 ?_
            refine lv_bipush (v := 25) hx hb dX9_timers_138 (by decide) ?_
            refine lv_icmp_ge (tgt := 146) hx hb dX9_timers_140 (by decide) (fun c12 => ?_) (fun c12 => ?_)
            · rw [if_pos c12] at hd
              exact k_X9_timers_146 C (fun y0 y1 y2 Gy H1 locs1 ls1 hL1 hR1 hS1 hd1 => ih hL1 hR1 hS1 hd1) (lx_sub hL [1, 2, 3, 0] rfl) hR hS hd
            · rw [if_neg c12] at hd
              refine lv_goto (tgt := 175) hx hb dX9_timers_143 (by decide) ?_
              refine x_iinc (lv' := [(2, .inl ((x2 + 1))), (3, .inl ((((4 * x1)) + x2))), (0, .inr x0), (1, .inl x1)]) C dX9_timers_175 hL 3 rfl rfl (by decide) rfl (fun ls hL => ?_)
              refine lv_goto (tgt := 88) hx hb dX9_timers_178 (by decide) ?_
              exact ih (lx_sub hL [2, 3, 0] rfl) hR hS hd
set_option maxHeartbeats 4000000 in
set_option maxRecDepth 100000 in
theorem k_X9_timers_51 (C : Cx p s m args meth c RX9 cX9_timers 4 none b0 D E) {GG : Hp} {k2 : Nat → Int32 → Int32 → Hp → Option (Hp)} (hk2 : ∀ (y0 : Nat) (y1 : Int32) (y2 : Int32) (Gy : Hp) (H1 : Heap) (locs1 : List Loc) (ls1 : Array Slot), lx ls1 4 [(0, .inr y0), (1, .inl y1), (2, .inl y2)] → Rp b0 D E Gy H1 → SS b0 s H1 locs1 → k2 y0 y1 y2 Gy = some GG → W p l e (rmd 13 (0) (0)) s m args below meth c H1 locs1 (0) (0) (MQ below (CQ b0 D E none GG) args s (0) (0) (fun q => b0 ≤ q)) (F0 m 2 ls1 [])) {x0 : Nat} {x1 : Int32} {x2 : Int32} {x3 : Int32} {G : Hp} {ls : Array Slot} {H : Heap} {locs : List Loc} : lx ls 4 [(0, .inr x0), (1, .inl x1), (2, .inl x2), (3, .inl x3)] → Rp b0 D E G H → SS b0 s H locs → d_X9_timers_51 x0 x1 x2 x3 G k2 = some GG → W p l e (rmd 13 (0) (0)) s m args below meth c H locs (0) (0) (MQ below (CQ b0 D E none GG) args s (0) (0) (fun q => b0 ≤ q)) (F0 m 51 ls []) := by
  intro hL hR hS hd
  unfold d_X9_timers_51 at hd
  have hx := C.1
  have hb := C.2.1
  refine x_aload_n C dX9_timers_51 hL 0 rfl ?_
  refine x_aload_n C dX9_timers_52 hL 0 rfl ?_
  obtain ⟨g1, hd⟩ := gd_ex hd
  refine r_getr (ci := 9) (k := 8) C fl_X9_7 rfl dX9_timers_53 hR g1 ?_
  refine x_iload_n C dX9_timers_56 hL 3 rfl ?_
  obtain ⟨g2, hd⟩ := gd_ex hd
  refine r_iald C dX9_timers_57 hR g2 ?_
  refine lv_iconst (v := 1) hx hb dX9_timers_58 (by decide) ?_
  refine x_iload_n C dX9_timers_59 hL 1 rfl ?_
  refine lv_iconst (v := (-1)) hx hb dX9_timers_60 (by decide) ?_
  refine lv_iconst (v := (-1)) hx hb dX9_timers_61 (by decide) ?_
  refine lv_iconst (v := (-1)) hx hb dX9_timers_62 (by decide) ?_
  refine lv_iconst (v := 0) hx hb dX9_timers_63 (by decide) ?_
  refine lv_iconst (v := 0) hx hb dX9_timers_64 (by decide) ?_
  refine lv_iconst (v := 0) hx hb dX9_timers_65 (by decide) ?_
  obtain ⟨v4, G5, h3, hd⟩ := b2_ex hd
  refine r_callV (a := x0) (ci := 9) (As := [.int ((hi G ((hr G x0 8)) x3.toNatClampNeg)), .int 1, .int x1, .int (-1), .int (-1), .int (-1), .int 0, .int 0, .int 0]) C (ct_X9_put h3) mf_X9_put ml_X9_238 mv_X9_put rfl ⟨Nat.le_of_ble_eq_true rfl, Nat.le_of_ble_eq_true rfl⟩ dX9_timers_66 (lx_size hL) rfl hR hS g1 ⟨Nat.le_refl _, Nat.le_refl _⟩ (cat_le [] (Nat.le_of_ble_eq_true rfl)) (fun H locs hR hS => ?_)
  refine W_st (st2 := [.int v4]) rfl ?_
  refine lv_pop hx hb dX9_timers_69 rfl ?_
  refine x_aload_n C dX9_timers_70 hL 0 rfl ?_
  obtain ⟨g6, hd⟩ := gd_ex hd
  refine r_getr (ci := 9) (k := 26) C fl_X9_66 rfl dX9_timers_71 hR g6 ?_
  refine x_iload_n C dX9_timers_74 hL 3 rfl ?_
  refine x_aload_n C dX9_timers_75 hL 0 rfl ?_
  refine r_geti (ci := 9) (k := 0) C fl_X9_122 rfl dX9_timers_76 hR g6 ?_
  obtain ⟨g7, hd⟩ := gd_ex hd
  obtain ⟨G8, eG8, hd⟩ := bd_ex hd
  refine r_iast C dX9_timers_79 hR hS g7 (fun H locs hR hS => ?_)
  replace hR : Rp b0 D E G8 H := by rw [eG8]; exact hR
  refine x_iinc (lv' := [(2, .inl ((x2 + 1))), (0, .inr x0), (1, .inl x1), (3, .inl x3)]) C dX9_timers_80 hL 2 rfl rfl (by decide) rfl (fun ls hL => ?_)
  refine lv_goto (tgt := 2) hx hb dX9_timers_83 (by decide) ?_
  exact hk2 _ _ _ _ _ _ _ (lx_sub hL [1, 2, 0] rfl) hR hS hd
set_option maxHeartbeats 4000000 in
set_option maxRecDepth 100000 in
theorem k_X9_timers_2 (C : Cx p s m args meth c RX9 cX9_timers 4 none b0 D E) {GG : Hp} : ∀ (n_ : Nat) {x0 : Nat} {x1 : Int32} {x2 : Int32} {G : Hp} {ls : Array Slot} {H : Heap} {locs : List Loc}, lx ls 4 [(0, .inr x0), (1, .inl x1), (2, .inl x2)] → Rp b0 D E G H → SS b0 s H locs → d_X9_timers_2 n_ x0 x1 x2 G = some GG → W p l e (rmd 13 (0) (0)) s m args below meth c H locs (0) (0) (MQ below (CQ b0 D E none GG) args s (0) (0) (fun q => b0 ≤ q)) (F0 m 2 ls []) := by
  intro n_
  induction n_ with
  | zero =>
    intro x0 x1 x2 G ls H locs hL hR hS hd
    cases (show (none : Option _) = some _ from hd)
  | succ n_ ih =>
    intro x0 x1 x2 G ls H locs hL hR hS hd
    rw [d_X9_timers_2.eq_2] at hd
    have hx := C.1
    have hb := C.2.1
    refine x_iload_n C dX9_timers_2 hL 2 rfl ?_
    refine lv_iconst (v := 4) hx hb dX9_timers_3 (by decide) ?_
    refine lv_icmp_ge (tgt := 86) hx hb dX9_timers_4 (by decide) (fun c1 => ?_) (fun c1 => ?_)
    · rw [if_pos c1] at hd
      refine lv_iconst (v := 0) hx hb dX9_timers_86 (by decide) ?_
      refine x_istore_n (lv' := [(2, .inl 0), (0, .inr x0), (1, .inl x1)]) C dX9_timers_87 hL (by decide) rfl (fun ls hL => ?_)
      exact k_X9_timers_88 C FU (lx_sub hL [1, 2, 0] rfl) hR hS hd
    · rw [if_neg c1] at hd
      refine lv_iconst (v := 4) hx hb dX9_timers_7 (by decide) ?_
      refine x_iload_n C dX9_timers_8 hL 1 rfl ?_
      refine lv_imul hx hb dX9_timers_9 ?_
      refine x_iload_n C dX9_timers_10 hL 2 rfl ?_
      refine lv_iadd hx hb dX9_timers_11 ?_
      refine x_istore_n (lv' := [(3, .inl ((((4 * x1)) + x2))), (0, .inr x0), (1, .inl x1), (2, .inl x2)]) C dX9_timers_12 hL (by decide) rfl (fun ls hL => ?_)
      refine x_aload_n C dX9_timers_13 hL 1 rfl ?_
      refine x_iload_n C dX9_timers_14 hL 2 rfl ?_
      refine x_iload_n C dX9_timers_15 hL 3 rfl ?_
      obtain ⟨g2, hd⟩ := gd_ex hd
      obtain ⟨v4, h3, hd⟩ := bo_ex hd
      refine r_callV (a := x0) (ci := 9) (As := [.int x1, .int x2]) C (ct_X9_isUp h3) mf_X9_isUp ml_X9_150 mv_X9_isUp rfl ⟨Nat.le_of_ble_eq_true rfl, Nat.le_of_ble_eq_true rfl⟩ dX9_timers_16 (lx_size hL) rfl hR hS g2 ⟨Nat.le_refl _, Nat.le_refl _⟩ (cat_le [] (Nat.le_of_ble_eq_true rfl)) (fun H locs hR hS => ?_)
      refine W_st (st2 := [.int v4]) rfl ?_
      refine lv_if_eq (tgt := 80) hx hb dX9_timers_19 (by decide) (fun c5 => ?_) (fun c5 => ?_)
      · rw [if_pos c5] at hd
        refine x_iinc (lv' := [(2, .inl ((x2 + 1))), (3, .inl ((((4 * x1)) + x2))), (0, .inr x0), (1, .inl x1)]) C dX9_timers_80 hL 3 rfl rfl (by decide) rfl (fun ls hL => ?_)
        refine lv_goto (tgt := 2) hx hb dX9_timers_83 (by decide) ?_
        exact ih (lx_sub hL [2, 3, 0] rfl) hR hS hd
      · rw [if_neg c5] at hd
        refine x_aload_n C dX9_timers_22 hL 1 rfl ?_
        refine r_getr (ci := 9) (k := 26) C fl_X9_66 rfl dX9_timers_23 hR g2 ?_
        refine x_iload_n C dX9_timers_26 hL 0 rfl ?_
        obtain ⟨g6, hd⟩ := gd_ex hd
        refine r_iald C dX9_timers_27 hR g6 ?_
        refine lv_iconst (v := (-1)) hx hb dX9_timers_28 (by decide) ?_
        refine lv_icmp_eq (tgt := 51) hx hb dX9_timers_29 (by decide) (fun c7 => ?_) (fun c7 => ?_)
        · rw [if_pos c7] at hd
          exact k_X9_timers_51 C (fun y0 y1 y2 Gy H1 locs1 ls1 hL1 hR1 hS1 hd1 => ih hL1 hR1 hS1 hd1) (lx_sub hL [1, 2, 3, 0] rfl) hR hS hd
        · rw [if_neg c7] at hd
          refine x_aload_n C dX9_timers_32 hL 1 rfl ?_
          refine r_geti (ci := 9) (k := 0) C fl_X9_122 rfl dX9_timers_33 hR g2 ?_
          refine x_aload_n C dX9_timers_36 hL 1 rfl ?_
          refine r_getr (ci := 9) (k := 26) C fl_X9_66 rfl dX9_timers_37 hR g2 ?_
          refine x_iload_n C dX9_timers_40 hL 0 rfl ?_
          obtain ⟨g8, hd⟩ := gd_ex hd
          refine r_iald C dX9_timers_41 hR g8 ?_
          refine lv_isub hx hb dX9_timers_42 ?_
          refine lv_bipush (v := 20) hx hb dX9_timers_43 (by decide) ?_
          refine lv_icmp_ge (tgt := 51) hx hb dX9_timers_45 (by decide) (fun c9 => ?_) (fun c9 => ?_)
          · rw [if_pos c9] at hd
            exact k_X9_timers_51 C (fun y0 y1 y2 Gy H1 locs1 ls1 hL1 hR1 hS1 hd1 => ih hL1 hR1 hS1 hd1) (lx_sub hL [1, 2, 3, 0] rfl) hR hS hd
          · rw [if_neg c9] at hd
            refine lv_goto (tgt := 80) hx hb dX9_timers_48 (by decide) ?_
            refine x_iinc (lv' := [(2, .inl ((x2 + 1))), (3, .inl ((((4 * x1)) + x2))), (0, .inr x0), (1, .inl x1)]) C dX9_timers_80 hL 3 rfl rfl (by decide) rfl (fun ls hL => ?_)
            refine lv_goto (tgt := 2) hx hb dX9_timers_83 (by decide) ?_
            exact ih (lx_sub hL [2, 3, 0] rfl) hR hS hd
set_option maxHeartbeats 4000000 in
set_option maxRecDepth 100000 in
theorem k_X9_timers (C : Cx p s m args meth c RX9 cX9_timers 4 none b0 D E) {GG : Hp} {x0 : Nat} {x1 : Int32} {G : Hp} {ls : Array Slot} {H : Heap} {locs : List Loc} : lx ls 4 [(0, .inr x0), (1, .inl x1)] → Rp b0 D E G H → SS b0 s H locs → d_X9_timers x0 x1 G = some GG → W p l e (rmd 13 (0) (0)) s m args below meth c H locs (0) (0) (MQ below (CQ b0 D E none GG) args s (0) (0) (fun q => b0 ≤ q)) (F0 m 0 ls []) := by
  intro hL hR hS hd
  unfold d_X9_timers at hd
  have hx := C.1
  have hb := C.2.1
  refine lv_iconst (v := 0) hx hb dX9_timers_0 (by decide) ?_
  refine x_istore_n (lv' := [(2, .inl 0), (0, .inr x0), (1, .inl x1)]) C dX9_timers_1 hL (by decide) rfl (fun ls hL => ?_)
  exact k_X9_timers_2 C FU (lx_sub hL [1, 2, 0] rfl) hR hS hd
end
set_option maxHeartbeats 4000000 in
set_option maxRecDepth 100000 in
theorem ct_X9_timers {l : Launch} {b0 : Nat} {D : va_G} {E : Nat → ClassId} {G : Hp} {a0 : Nat} {a1 : Int32} {GG : Hp} (hd : d_X9_timers a0 a1 G = some GG) : CT l yX9_timers cX9_timers 4 none 13 0 0 b0 D E [rv a0, .int a1] G none GG := by
  refine CT_of (by decide +kernel) ?_
  intro p e s m below meth c C hnm hR
  refine r_entry [.inr a0, .inl a1] (n := 4) (Nat.le_of_ble_eq_true rfl) (lv := [(0, .inr a0), (1, .inl a1)]) rfl (fun ls hL => ?_)
  exact k_X9_timers C (lx_sub hL [0, 1] rfl) hR ⟨fun _ _ => rfl, fun _ h => by cases h⟩ hd

/-! GroveWorksModel.isIn(II)Z pure -/
theorem dX9_isIn_0 : decode cX9_isIn 0 = .ok (.aload_n 0, 1) := by decide +kernel
theorem dX9_isIn_1 : decode cX9_isIn 1 = .ok (.getfield 26, 3) := by decide +kernel
theorem dX9_isIn_4 : decode cX9_isIn 4 = .ok (.iload_n 1, 1) := by decide +kernel
theorem dX9_isIn_5 : decode cX9_isIn 5 = .ok (.iaload, 1) := by decide +kernel
theorem dX9_isIn_6 : decode cX9_isIn 6 = .ok (.iload_n 2, 1) := by decide +kernel
theorem dX9_isIn_7 : decode cX9_isIn 7 = .ok (.ishr, 1) := by decide +kernel
theorem dX9_isIn_8 : decode cX9_isIn 8 = .ok (.iconst 1, 1) := by decide +kernel
theorem dX9_isIn_9 : decode cX9_isIn 9 = .ok (.iand, 1) := by decide +kernel
theorem dX9_isIn_10 : decode cX9_isIn 10 = .ok (.iconst 1, 1) := by decide +kernel
theorem dX9_isIn_11 : decode cX9_isIn 11 = .ok (.if_icmp .ne 7, 3) := by decide +kernel
theorem dX9_isIn_14 : decode cX9_isIn 14 = .ok (.iconst 1, 1) := by decide +kernel
theorem dX9_isIn_15 : decode cX9_isIn 15 = .ok (.goto 4, 3) := by decide +kernel
theorem dX9_isIn_18 : decode cX9_isIn 18 = .ok (.iconst 0, 1) := by decide +kernel
theorem dX9_isIn_19 : decode cX9_isIn 19 = .ok (.ireturn, 1) := by decide +kernel
def d_X9_isIn (x0 : Nat) (x1 : Int32) (x2 : Int32) (G : Hp) : Option (Int32) :=
  gd (hc G x0 = 10) <|
  gd (hc G ((hr G x0 13)) = 11 ∧ ix x1 (hl G ((hr G x0 13)))) <|
  if ((((((hi G ((hr G x0 13)) x1.toNatClampNeg)) >>> (x2 &&& 31))) &&& 1)) = 1 then
    some 1
  else
    some 0
section
variable {p : Program} {l : Launch} {e : Env} {s : State} {m : MethodId} {args : Array Value} {below : List Frame} {meth : Method} {c : Code} {b0 : Nat} {D : va_G} {E : Nat → ClassId}
set_option maxHeartbeats 4000000 in
set_option maxRecDepth 100000 in
theorem k_X9_isIn (C : Cx p s m args meth c RX9 cX9_isIn 3 (some .boolean) b0 D E) {rr : Int32} {G : Hp} {x0 : Nat} {x1 : Int32} {x2 : Int32} {ls : Array Slot} {H : Heap} {locs : List Loc} : lx ls 3 [(0, .inr x0), (1, .inl x1), (2, .inl x2)] → Rp b0 D E G H → SS b0 s H locs → d_X9_isIn x0 x1 x2 G = some rr → W p l e (rmd 0 (0) (0)) s m args below meth c H locs (0) (0) (MQ below (CQ b0 D E (some (.int rr)) G) args s (0) (0) (fun q => b0 ≤ q)) (F0 m 0 ls []) := by
  intro hL hR hS hd
  unfold d_X9_isIn at hd
  have hx := C.1
  have hb := C.2.1
  refine x_aload_n C dX9_isIn_0 hL 0 rfl ?_
  obtain ⟨g1, hd⟩ := gd_ex hd
  refine r_getr (ci := 9) (k := 13) C fl_X9_26 rfl dX9_isIn_1 hR g1 ?_
  refine x_iload_n C dX9_isIn_4 hL 1 rfl ?_
  obtain ⟨g2, hd⟩ := gd_ex hd
  refine r_iald C dX9_isIn_5 hR g2 ?_
  refine x_iload_n C dX9_isIn_6 hL 2 rfl ?_
  refine lv_ishr hx hb dX9_isIn_7 ?_
  refine lv_iconst (v := 1) hx hb dX9_isIn_8 (by decide) ?_
  refine lv_iand hx hb dX9_isIn_9 ?_
  refine lv_iconst (v := 1) hx hb dX9_isIn_10 (by decide) ?_
  refine lv_icmp_ne (tgt := 18) hx hb dX9_isIn_11 (by decide) (fun c3 => ?_) (fun c3 => ?_)
  · rw [if_neg c3] at hd
    refine lv_iconst (v := 0) hx hb dX9_isIn_18 (by decide) ?_
    cases hd
    exact r_zret C (by decide) dX9_isIn_19 hR hS
  · rw [if_pos c3] at hd
    refine lv_iconst (v := 1) hx hb dX9_isIn_14 (by decide) ?_
    refine lv_goto (tgt := 19) hx hb dX9_isIn_15 (by decide) ?_
    cases hd
    exact r_zret C (by decide) dX9_isIn_19 hR hS
end
set_option maxHeartbeats 4000000 in
set_option maxRecDepth 100000 in
theorem ct_X9_isIn {l : Launch} {b0 : Nat} {D : va_G} {E : Nat → ClassId} {G : Hp} {a0 : Nat} {a1 : Int32} {a2 : Int32} {rr : Int32} (hd : d_X9_isIn a0 a1 a2 G = some rr) : CT l yX9_isIn cX9_isIn 3 (some .boolean) 0 0 0 b0 D E [rv a0, .int a1, .int a2] G (some (.int rr)) G := by
  refine CT_of (by decide +kernel) ?_
  intro p e s m below meth c C hnm hR
  refine r_entry [.inr a0, .inl a1, .inl a2] (n := 3) (Nat.le_of_ble_eq_true rfl) (lv := [(0, .inr a0), (1, .inl a1), (2, .inl a2)]) rfl (fun ls hL => ?_)
  exact k_X9_isIn C (lx_sub hL [0, 1, 2] rfl) hR ⟨fun _ _ => rfl, fun _ h => by cases h⟩ hd

/-! GroveWorksModel.join(II)Z -/
theorem dX9_join_0 : decode cX9_join 0 = .ok (.iload_n 1, 1) := by decide +kernel
theorem dX9_join_1 : decode cX9_join 1 = .ok (.invokestatic 129, 3) := by decide +kernel
theorem dX9_join_4 : decode cX9_join 4 = .ok (.ifCond .eq 29, 3) := by decide +kernel
theorem dX9_join_7 : decode cX9_join 7 = .ok (.iload_n 2, 1) := by decide +kernel
theorem dX9_join_8 : decode cX9_join 8 = .ok (.invokestatic 132, 3) := by decide +kernel
theorem dX9_join_11 : decode cX9_join 11 = .ok (.ifCond .eq 22, 3) := by decide +kernel
theorem dX9_join_14 : decode cX9_join 14 = .ok (.aload_n 0, 1) := by decide +kernel
theorem dX9_join_15 : decode cX9_join 15 = .ok (.getfield 20, 3) := by decide +kernel
theorem dX9_join_18 : decode cX9_join 18 = .ok (.iload_n 1, 1) := by decide +kernel
theorem dX9_join_19 : decode cX9_join 19 = .ok (.iaload, 1) := by decide +kernel
theorem dX9_join_20 : decode cX9_join 20 = .ok (.iconst (-1), 1) := by decide +kernel
theorem dX9_join_21 : decode cX9_join 21 = .ok (.if_icmp .eq 12, 3) := by decide +kernel
theorem dX9_join_24 : decode cX9_join 24 = .ok (.aload_n 0, 1) := by decide +kernel
theorem dX9_join_25 : decode cX9_join 25 = .ok (.iload_n 1, 1) := by decide +kernel
theorem dX9_join_26 : decode cX9_join 26 = .ok (.iload_n 2, 1) := by decide +kernel
theorem dX9_join_27 : decode cX9_join 27 = .ok (.invokevirtual 337, 3) := by decide +kernel
theorem dX9_join_30 : decode cX9_join 30 = .ok (.ifCond .eq 5, 3) := by decide +kernel
theorem dX9_join_33 : decode cX9_join 33 = .ok (.iconst 0, 1) := by decide +kernel
theorem dX9_join_34 : decode cX9_join 34 = .ok (.ireturn, 1) := by decide +kernel
theorem dX9_join_35 : decode cX9_join 35 = .ok (.aload_n 0, 1) := by decide +kernel
theorem dX9_join_36 : decode cX9_join 36 = .ok (.getfield 26, 3) := by decide +kernel
theorem dX9_join_39 : decode cX9_join 39 = .ok (.iload_n 1, 1) := by decide +kernel
theorem dX9_join_40 : decode cX9_join 40 = .ok (.dup2, 1) := by decide +kernel
theorem dX9_join_41 : decode cX9_join 41 = .ok (.iaload, 1) := by decide +kernel
theorem dX9_join_42 : decode cX9_join 42 = .ok (.iconst 1, 1) := by decide +kernel
theorem dX9_join_43 : decode cX9_join 43 = .ok (.iload_n 2, 1) := by decide +kernel
theorem dX9_join_44 : decode cX9_join 44 = .ok (.ishl, 1) := by decide +kernel
theorem dX9_join_45 : decode cX9_join 45 = .ok (.ior, 1) := by decide +kernel
theorem dX9_join_46 : decode cX9_join 46 = .ok (.iastore, 1) := by decide +kernel
theorem dX9_join_47 : decode cX9_join 47 = .ok (.aload_n 0, 1) := by decide +kernel
theorem dX9_join_48 : decode cX9_join 48 = .ok (.aload_n 0, 1) := by decide +kernel
theorem dX9_join_49 : decode cX9_join 49 = .ok (.getfield 20, 3) := by decide +kernel
theorem dX9_join_52 : decode cX9_join 52 = .ok (.iload_n 1, 1) := by decide +kernel
theorem dX9_join_53 : decode cX9_join 53 = .ok (.iaload, 1) := by decide +kernel
theorem dX9_join_54 : decode cX9_join 54 = .ok (.iconst 3, 1) := by decide +kernel
theorem dX9_join_55 : decode cX9_join 55 = .ok (.bipush 100, 2) := by decide +kernel
theorem dX9_join_57 : decode cX9_join 57 = .ok (.iload_n 1, 1) := by decide +kernel
theorem dX9_join_58 : decode cX9_join 58 = .ok (.iadd, 1) := by decide +kernel
theorem dX9_join_59 : decode cX9_join 59 = .ok (.iconst (-1), 1) := by decide +kernel
theorem dX9_join_60 : decode cX9_join 60 = .ok (.iload_n 2, 1) := by decide +kernel
theorem dX9_join_61 : decode cX9_join 61 = .ok (.iconst (-1), 1) := by decide +kernel
theorem dX9_join_62 : decode cX9_join 62 = .ok (.iconst 0, 1) := by decide +kernel
theorem dX9_join_63 : decode cX9_join 63 = .ok (.iconst 0, 1) := by decide +kernel
theorem dX9_join_64 : decode cX9_join 64 = .ok (.iconst 0, 1) := by decide +kernel
theorem dX9_join_65 : decode cX9_join 65 = .ok (.invokevirtual 238, 3) := by decide +kernel
theorem dX9_join_68 : decode cX9_join 68 = .ok (.pop, 1) := by decide +kernel
theorem dX9_join_69 : decode cX9_join 69 = .ok (.iconst 1, 1) := by decide +kernel
theorem dX9_join_70 : decode cX9_join 70 = .ok (.ireturn, 1) := by decide +kernel
def d_X9_join (x0 : Nat) (x1 : Int32) (x2 : Int32) (G : Hp) : Option (Int32 × Hp) :=
  bo (d_X9_isHost x1 G) fun v2 =>
  if v2 = 0 then
    some (0, G)
  else
    bo (d_X9_isGroup x2 G) fun v5 =>
    if v5 = 0 then
      some (0, G)
    else
      gd (hc G x0 = 10) <|
      gd (hc G ((hr G x0 11)) = 11 ∧ ix x1 (hl G ((hr G x0 11)))) <|
      if ((hi G ((hr G x0 11)) x1.toNatClampNeg)) = (-1) then
        some (0, G)
      else
        bo (d_X9_isIn x0 x1 x2 G) fun v11 =>
        if v11 = 0 then
          gd (hc G ((hr G x0 13)) = 11 ∧ ix x1 (hl G ((hr G x0 13)))) <|
          gd (hc G ((hr G x0 13)) = 11 ∧ ix x1 (hl G ((hr G x0 13)))) <|
          bd (sI G ((hr G x0 13)) x1.toNatClampNeg ((((hi G ((hr G x0 13)) x1.toNatClampNeg)) ||| ((1 <<< (x2 &&& 31)))))) fun G15 =>
          gd (hc G15 x0 = 10) <|
          gd (hc G15 ((hr G15 x0 11)) = 11 ∧ ix x1 (hl G15 ((hr G15 x0 11)))) <|
          b2 (d_X9_put x0 ((hi G15 ((hr G15 x0 11)) x1.toNatClampNeg)) 3 ((100 + x1)) (-1) x2 (-1) 0 0 0 G15) fun v19 G20 =>
          some (1, G20)
        else
          some (0, G)
section
variable {p : Program} {l : Launch} {e : Env} {s : State} {m : MethodId} {args : Array Value} {below : List Frame} {meth : Method} {c : Code} {b0 : Nat} {D : va_G} {E : Nat → ClassId}
set_option maxHeartbeats 4000000 in
set_option maxRecDepth 100000 in
theorem k_X9_join (C : Cx p s m args meth c RX9 cX9_join 3 (some .boolean) b0 D E) {rr : Int32} {GG : Hp} {x0 : Nat} {x1 : Int32} {x2 : Int32} {G : Hp} {ls : Array Slot} {H : Heap} {locs : List Loc} : lx ls 3 [(0, .inr x0), (1, .inl x1), (2, .inl x2)] → Rp b0 D E G H → SS b0 s H locs → d_X9_join x0 x1 x2 G = some (rr, GG) → W p l e (rmd 1 (0) (0)) s m args below meth c H locs (0) (0) (MQ below (CQ b0 D E (some (.int rr)) GG) args s (0) (0) (fun q => b0 ≤ q)) (F0 m 0 ls []) := by
  intro hL hR hS hd
  unfold d_X9_join at hd
  have hx := C.1
  have hb := C.2.1
  refine x_iload_n C dX9_join_0 hL 1 rfl ?_
  obtain ⟨v2, h1, hd⟩ := bo_ex hd
  refine r_callS (As := [.int x1]) C (ct_X9_isHost h1) mf_X9_isHost ml_X9_129 ms_X9_isHost rfl ⟨Nat.le_of_ble_eq_true rfl, Nat.le_of_ble_eq_true rfl⟩ dX9_join_1 (lx_size hL) rfl hR hS ⟨Nat.le_refl _, Nat.le_refl _⟩ (cat_le [] (Nat.le_of_ble_eq_true rfl)) (fun H locs hR hS => ?_)
  refine W_st (st2 := [.int v2]) rfl ?_
  refine lv_if_eq (tgt := 33) hx hb dX9_join_4 (by decide) (fun c3 => ?_) (fun c3 => ?_)
  · rw [if_pos c3] at hd
    refine lv_iconst (v := 0) hx hb dX9_join_33 (by decide) ?_
    cases hd
    exact r_zret C (by decide) dX9_join_34 hR hS
  · rw [if_neg c3] at hd
    refine x_iload_n C dX9_join_7 hL 2 rfl ?_
    obtain ⟨v5, h4, hd⟩ := bo_ex hd
    refine r_callS (As := [.int x2]) C (ct_X9_isGroup h4) mf_X9_isGroup ml_X9_132 ms_X9_isGroup rfl ⟨Nat.le_of_ble_eq_true rfl, Nat.le_of_ble_eq_true rfl⟩ dX9_join_8 (lx_size hL) rfl hR hS ⟨Nat.le_refl _, Nat.le_refl _⟩ (cat_le [] (Nat.le_of_ble_eq_true rfl)) (fun H locs hR hS => ?_)
    refine W_st (st2 := [.int v5]) rfl ?_
    refine lv_if_eq (tgt := 33) hx hb dX9_join_11 (by decide) (fun c6 => ?_) (fun c6 => ?_)
    · rw [if_pos c6] at hd
      refine lv_iconst (v := 0) hx hb dX9_join_33 (by decide) ?_
      cases hd
      exact r_zret C (by decide) dX9_join_34 hR hS
    · rw [if_neg c6] at hd
      refine x_aload_n C dX9_join_14 hL 0 rfl ?_
      obtain ⟨g7, hd⟩ := gd_ex hd
      refine r_getr (ci := 9) (k := 11) C fl_X9_20 rfl dX9_join_15 hR g7 ?_
      refine x_iload_n C dX9_join_18 hL 1 rfl ?_
      obtain ⟨g8, hd⟩ := gd_ex hd
      refine r_iald C dX9_join_19 hR g8 ?_
      refine lv_iconst (v := (-1)) hx hb dX9_join_20 (by decide) ?_
      refine lv_icmp_eq (tgt := 33) hx hb dX9_join_21 (by decide) (fun c9 => ?_) (fun c9 => ?_)
      · rw [if_pos c9] at hd
        refine lv_iconst (v := 0) hx hb dX9_join_33 (by decide) ?_
        cases hd
        exact r_zret C (by decide) dX9_join_34 hR hS
      · rw [if_neg c9] at hd
        refine x_aload_n C dX9_join_24 hL 0 rfl ?_
        refine x_iload_n C dX9_join_25 hL 1 rfl ?_
        refine x_iload_n C dX9_join_26 hL 2 rfl ?_
        obtain ⟨v11, h10, hd⟩ := bo_ex hd
        refine r_callV (a := x0) (ci := 9) (As := [.int x1, .int x2]) C (ct_X9_isIn h10) mf_X9_isIn ml_X9_337 mv_X9_isIn rfl ⟨Nat.le_of_ble_eq_true rfl, Nat.le_of_ble_eq_true rfl⟩ dX9_join_27 (lx_size hL) rfl hR hS g7 ⟨Nat.le_refl _, Nat.le_refl _⟩ (cat_le [] (Nat.le_of_ble_eq_true rfl)) (fun H locs hR hS => ?_)
        refine W_st (st2 := [.int v11]) rfl ?_
        refine lv_if_eq (tgt := 35) hx hb dX9_join_30 (by decide) (fun c12 => ?_) (fun c12 => ?_)
        · rw [if_pos c12] at hd
          refine x_aload_n C dX9_join_35 hL 0 rfl ?_
          refine r_getr (ci := 9) (k := 13) C fl_X9_26 rfl dX9_join_36 hR g7 ?_
          refine x_iload_n C dX9_join_39 hL 1 rfl ?_
          refine lv_dup2_11 hx hb dX9_join_40 rfl (rv_cat _) ?_
          obtain ⟨g13, hd⟩ := gd_ex hd
          refine r_iald C dX9_join_41 hR g13 ?_
          refine lv_iconst (v := 1) hx hb dX9_join_42 (by decide) ?_
          refine x_iload_n C dX9_join_43 hL 2 rfl ?_
          refine lv_ishl hx hb dX9_join_44 ?_
          refine lv_ior hx hb dX9_join_45 ?_
          obtain ⟨g14, hd⟩ := gd_ex hd
          obtain ⟨G15, eG15, hd⟩ := bd_ex hd
          refine r_iast C dX9_join_46 hR hS g14 (fun H locs hR hS => ?_)
          replace hR : Rp b0 D E G15 H := by rw [eG15]; exact hR
          refine x_aload_n C dX9_join_47 hL 0 rfl ?_
          refine x_aload_n C dX9_join_48 hL 0 rfl ?_
          obtain ⟨g16, hd⟩ := gd_ex hd
          refine r_getr (ci := 9) (k := 11) C fl_X9_20 rfl dX9_join_49 hR g16 ?_
          refine x_iload_n C dX9_join_52 hL 1 rfl ?_
          obtain ⟨g17, hd⟩ := gd_ex hd
          refine r_iald C dX9_join_53 hR g17 ?_
          refine lv_iconst (v := 3) hx hb dX9_join_54 (by decide) ?_
          refine lv_bipush (v := 100) hx hb dX9_join_55 (by decide) ?_
          refine x_iload_n C dX9_join_57 hL 1 rfl ?_
          refine lv_iadd hx hb dX9_join_58 ?_
          refine lv_iconst (v := (-1)) hx hb dX9_join_59 (by decide) ?_
          refine x_iload_n C dX9_join_60 hL 2 rfl ?_
          refine lv_iconst (v := (-1)) hx hb dX9_join_61 (by decide) ?_
          refine lv_iconst (v := 0) hx hb dX9_join_62 (by decide) ?_
          refine lv_iconst (v := 0) hx hb dX9_join_63 (by decide) ?_
          refine lv_iconst (v := 0) hx hb dX9_join_64 (by decide) ?_
          obtain ⟨v19, G20, h18, hd⟩ := b2_ex hd
          refine r_callV (a := x0) (ci := 9) (As := [.int ((hi G15 ((hr G15 x0 11)) x1.toNatClampNeg)), .int 3, .int ((100 + x1)), .int (-1), .int x2, .int (-1), .int 0, .int 0, .int 0]) C (ct_X9_put h18) mf_X9_put ml_X9_238 mv_X9_put rfl ⟨Nat.le_of_ble_eq_true rfl, Nat.le_of_ble_eq_true rfl⟩ dX9_join_65 (lx_size hL) rfl hR hS g16 ⟨Nat.le_refl _, Nat.le_refl _⟩ (cat_le [] (Nat.le_of_ble_eq_true rfl)) (fun H locs hR hS => ?_)
          refine W_st (st2 := [.int v19]) rfl ?_
          refine lv_pop hx hb dX9_join_68 rfl ?_
          refine lv_iconst (v := 1) hx hb dX9_join_69 (by decide) ?_
          cases hd
          exact r_zret C (by decide) dX9_join_70 hR hS
        · rw [if_neg c12] at hd
          refine lv_iconst (v := 0) hx hb dX9_join_33 (by decide) ?_
          cases hd
          exact r_zret C (by decide) dX9_join_34 hR hS
end
set_option maxHeartbeats 4000000 in
set_option maxRecDepth 100000 in
theorem ct_X9_join {l : Launch} {b0 : Nat} {D : va_G} {E : Nat → ClassId} {G : Hp} {a0 : Nat} {a1 : Int32} {a2 : Int32} {rr : Int32} {GG : Hp} (hd : d_X9_join a0 a1 a2 G = some (rr, GG)) : CT l yX9_join cX9_join 3 (some .boolean) 1 0 0 b0 D E [rv a0, .int a1, .int a2] G (some (.int rr)) GG := by
  refine CT_of (by decide +kernel) ?_
  intro p e s m below meth c C hnm hR
  refine r_entry [.inr a0, .inl a1, .inl a2] (n := 3) (Nat.le_of_ble_eq_true rfl) (lv := [(0, .inr a0), (1, .inl a1), (2, .inl a2)]) rfl (fun ls hL => ?_)
  exact k_X9_join C (lx_sub hL [0, 1, 2] rfl) hR ⟨fun _ _ => rfl, fun _ h => by cases h⟩ hd

/-! GroveWorksModel.leave(II)Z -/
theorem dX9_leave_0 : decode cX9_leave 0 = .ok (.iload_n 1, 1) := by decide +kernel
theorem dX9_leave_1 : decode cX9_leave 1 = .ok (.invokestatic 129, 3) := by decide +kernel
theorem dX9_leave_4 : decode cX9_leave 4 = .ok (.ifCond .eq 19, 3) := by decide +kernel
theorem dX9_leave_7 : decode cX9_leave 7 = .ok (.iload_n 2, 1) := by decide +kernel
theorem dX9_leave_8 : decode cX9_leave 8 = .ok (.invokestatic 132, 3) := by decide +kernel
theorem dX9_leave_11 : decode cX9_leave 11 = .ok (.ifCond .eq 12, 3) := by decide +kernel
theorem dX9_leave_14 : decode cX9_leave 14 = .ok (.aload_n 0, 1) := by decide +kernel
theorem dX9_leave_15 : decode cX9_leave 15 = .ok (.iload_n 1, 1) := by decide +kernel
theorem dX9_leave_16 : decode cX9_leave 16 = .ok (.iload_n 2, 1) := by decide +kernel
theorem dX9_leave_17 : decode cX9_leave 17 = .ok (.invokevirtual 337, 3) := by decide +kernel
theorem dX9_leave_20 : decode cX9_leave 20 = .ok (.ifCond .ne 5, 3) := by decide +kernel
theorem dX9_leave_23 : decode cX9_leave 23 = .ok (.iconst 0, 1) := by decide +kernel
theorem dX9_leave_24 : decode cX9_leave 24 = .ok (.ireturn, 1) := by decide +kernel
theorem dX9_leave_25 : decode cX9_leave 25 = .ok (.aload_n 0, 1) := by decide +kernel
theorem dX9_leave_26 : decode cX9_leave 26 = .ok (.getfield 26, 3) := by decide +kernel
theorem dX9_leave_29 : decode cX9_leave 29 = .ok (.iload_n 1, 1) := by decide +kernel
theorem dX9_leave_30 : decode cX9_leave 30 = .ok (.dup2, 1) := by decide +kernel
theorem dX9_leave_31 : decode cX9_leave 31 = .ok (.iaload, 1) := by decide +kernel
theorem dX9_leave_32 : decode cX9_leave 32 = .ok (.iconst 1, 1) := by decide +kernel
theorem dX9_leave_33 : decode cX9_leave 33 = .ok (.iload_n 2, 1) := by decide +kernel
theorem dX9_leave_34 : decode cX9_leave 34 = .ok (.ishl, 1) := by decide +kernel
theorem dX9_leave_35 : decode cX9_leave 35 = .ok (.iconst (-1), 1) := by decide +kernel
theorem dX9_leave_36 : decode cX9_leave 36 = .ok (.ixor, 1) := by decide +kernel
theorem dX9_leave_37 : decode cX9_leave 37 = .ok (.iand, 1) := by decide +kernel
theorem dX9_leave_38 : decode cX9_leave 38 = .ok (.iastore, 1) := by decide +kernel
theorem dX9_leave_39 : decode cX9_leave 39 = .ok (.aload_n 0, 1) := by decide +kernel
theorem dX9_leave_40 : decode cX9_leave 40 = .ok (.aload_n 0, 1) := by decide +kernel
theorem dX9_leave_41 : decode cX9_leave 41 = .ok (.getfield 20, 3) := by decide +kernel
theorem dX9_leave_44 : decode cX9_leave 44 = .ok (.iload_n 1, 1) := by decide +kernel
theorem dX9_leave_45 : decode cX9_leave 45 = .ok (.iaload, 1) := by decide +kernel
theorem dX9_leave_46 : decode cX9_leave 46 = .ok (.iconst 4, 1) := by decide +kernel
theorem dX9_leave_47 : decode cX9_leave 47 = .ok (.bipush 100, 2) := by decide +kernel
theorem dX9_leave_49 : decode cX9_leave 49 = .ok (.iload_n 1, 1) := by decide +kernel
theorem dX9_leave_50 : decode cX9_leave 50 = .ok (.iadd, 1) := by decide +kernel
theorem dX9_leave_51 : decode cX9_leave 51 = .ok (.iconst (-1), 1) := by decide +kernel
theorem dX9_leave_52 : decode cX9_leave 52 = .ok (.iload_n 2, 1) := by decide +kernel
theorem dX9_leave_53 : decode cX9_leave 53 = .ok (.iconst (-1), 1) := by decide +kernel
theorem dX9_leave_54 : decode cX9_leave 54 = .ok (.iconst 0, 1) := by decide +kernel
theorem dX9_leave_55 : decode cX9_leave 55 = .ok (.iconst 0, 1) := by decide +kernel
theorem dX9_leave_56 : decode cX9_leave 56 = .ok (.iconst 0, 1) := by decide +kernel
theorem dX9_leave_57 : decode cX9_leave 57 = .ok (.invokevirtual 238, 3) := by decide +kernel
theorem dX9_leave_60 : decode cX9_leave 60 = .ok (.pop, 1) := by decide +kernel
theorem dX9_leave_61 : decode cX9_leave 61 = .ok (.iconst 1, 1) := by decide +kernel
theorem dX9_leave_62 : decode cX9_leave 62 = .ok (.ireturn, 1) := by decide +kernel
def d_X9_leave (x0 : Nat) (x1 : Int32) (x2 : Int32) (G : Hp) : Option (Int32 × Hp) :=
  bo (d_X9_isHost x1 G) fun v2 =>
  if v2 = 0 then
    some (0, G)
  else
    bo (d_X9_isGroup x2 G) fun v5 =>
    if v5 = 0 then
      some (0, G)
    else
      gd (hc G x0 = 10) <|
      bo (d_X9_isIn x0 x1 x2 G) fun v9 =>
      if v9 = 0 then
        some (0, G)
      else
        gd (hc G ((hr G x0 13)) = 11 ∧ ix x1 (hl G ((hr G x0 13)))) <|
        gd (hc G ((hr G x0 13)) = 11 ∧ ix x1 (hl G ((hr G x0 13)))) <|
        bd (sI G ((hr G x0 13)) x1.toNatClampNeg ((((hi G ((hr G x0 13)) x1.toNatClampNeg)) &&& ((((1 <<< (x2 &&& 31))) ^^^ (-1)))))) fun G13 =>
        gd (hc G13 x0 = 10) <|
        gd (hc G13 ((hr G13 x0 11)) = 11 ∧ ix x1 (hl G13 ((hr G13 x0 11)))) <|
        b2 (d_X9_put x0 ((hi G13 ((hr G13 x0 11)) x1.toNatClampNeg)) 4 ((100 + x1)) (-1) x2 (-1) 0 0 0 G13) fun v17 G18 =>
        some (1, G18)
section
variable {p : Program} {l : Launch} {e : Env} {s : State} {m : MethodId} {args : Array Value} {below : List Frame} {meth : Method} {c : Code} {b0 : Nat} {D : va_G} {E : Nat → ClassId}
set_option maxHeartbeats 4000000 in
set_option maxRecDepth 100000 in
theorem k_X9_leave (C : Cx p s m args meth c RX9 cX9_leave 3 (some .boolean) b0 D E) {rr : Int32} {GG : Hp} {x0 : Nat} {x1 : Int32} {x2 : Int32} {G : Hp} {ls : Array Slot} {H : Heap} {locs : List Loc} : lx ls 3 [(0, .inr x0), (1, .inl x1), (2, .inl x2)] → Rp b0 D E G H → SS b0 s H locs → d_X9_leave x0 x1 x2 G = some (rr, GG) → W p l e (rmd 1 (0) (0)) s m args below meth c H locs (0) (0) (MQ below (CQ b0 D E (some (.int rr)) GG) args s (0) (0) (fun q => b0 ≤ q)) (F0 m 0 ls []) := by
  intro hL hR hS hd
  unfold d_X9_leave at hd
  have hx := C.1
  have hb := C.2.1
  refine x_iload_n C dX9_leave_0 hL 1 rfl ?_
  obtain ⟨v2, h1, hd⟩ := bo_ex hd
  refine r_callS (As := [.int x1]) C (ct_X9_isHost h1) mf_X9_isHost ml_X9_129 ms_X9_isHost rfl ⟨Nat.le_of_ble_eq_true rfl, Nat.le_of_ble_eq_true rfl⟩ dX9_leave_1 (lx_size hL) rfl hR hS ⟨Nat.le_refl _, Nat.le_refl _⟩ (cat_le [] (Nat.le_of_ble_eq_true rfl)) (fun H locs hR hS => ?_)
  refine W_st (st2 := [.int v2]) rfl ?_
  refine lv_if_eq (tgt := 23) hx hb dX9_leave_4 (by decide) (fun c3 => ?_) (fun c3 => ?_)
  · rw [if_pos c3] at hd
    refine lv_iconst (v := 0) hx hb dX9_leave_23 (by decide) ?_
    cases hd
    exact r_zret C (by decide) dX9_leave_24 hR hS
  · rw [if_neg c3] at hd
    refine x_iload_n C dX9_leave_7 hL 2 rfl ?_
    obtain ⟨v5, h4, hd⟩ := bo_ex hd
    refine r_callS (As := [.int x2]) C (ct_X9_isGroup h4) mf_X9_isGroup ml_X9_132 ms_X9_isGroup rfl ⟨Nat.le_of_ble_eq_true rfl, Nat.le_of_ble_eq_true rfl⟩ dX9_leave_8 (lx_size hL) rfl hR hS ⟨Nat.le_refl _, Nat.le_refl _⟩ (cat_le [] (Nat.le_of_ble_eq_true rfl)) (fun H locs hR hS => ?_)
    refine W_st (st2 := [.int v5]) rfl ?_
    refine lv_if_eq (tgt := 23) hx hb dX9_leave_11 (by decide) (fun c6 => ?_) (fun c6 => ?_)
    · rw [if_pos c6] at hd
      refine lv_iconst (v := 0) hx hb dX9_leave_23 (by decide) ?_
      cases hd
      exact r_zret C (by decide) dX9_leave_24 hR hS
    · rw [if_neg c6] at hd
      refine x_aload_n C dX9_leave_14 hL 0 rfl ?_
      refine x_iload_n C dX9_leave_15 hL 1 rfl ?_
      refine x_iload_n C dX9_leave_16 hL 2 rfl ?_
      obtain ⟨g7, hd⟩ := gd_ex hd
      obtain ⟨v9, h8, hd⟩ := bo_ex hd
      refine r_callV (a := x0) (ci := 9) (As := [.int x1, .int x2]) C (ct_X9_isIn h8) mf_X9_isIn ml_X9_337 mv_X9_isIn rfl ⟨Nat.le_of_ble_eq_true rfl, Nat.le_of_ble_eq_true rfl⟩ dX9_leave_17 (lx_size hL) rfl hR hS g7 ⟨Nat.le_refl _, Nat.le_refl _⟩ (cat_le [] (Nat.le_of_ble_eq_true rfl)) (fun H locs hR hS => ?_)
      refine W_st (st2 := [.int v9]) rfl ?_
      refine lv_if_ne (tgt := 25) hx hb dX9_leave_20 (by decide) (fun c10 => ?_) (fun c10 => ?_)
      · rw [if_neg c10] at hd
        refine x_aload_n C dX9_leave_25 hL 0 rfl ?_
        refine r_getr (ci := 9) (k := 13) C fl_X9_26 rfl dX9_leave_26 hR g7 ?_
        refine x_iload_n C dX9_leave_29 hL 1 rfl ?_
        refine lv_dup2_11 hx hb dX9_leave_30 rfl (rv_cat _) ?_
        obtain ⟨g11, hd⟩ := gd_ex hd
        refine r_iald C dX9_leave_31 hR g11 ?_
        refine lv_iconst (v := 1) hx hb dX9_leave_32 (by decide) ?_
        refine x_iload_n C dX9_leave_33 hL 2 rfl ?_
        refine lv_ishl hx hb dX9_leave_34 ?_
        refine lv_iconst (v := (-1)) hx hb dX9_leave_35 (by decide) ?_
        refine lv_ixor hx hb dX9_leave_36 ?_
        refine lv_iand hx hb dX9_leave_37 ?_
        obtain ⟨g12, hd⟩ := gd_ex hd
        obtain ⟨G13, eG13, hd⟩ := bd_ex hd
        refine r_iast C dX9_leave_38 hR hS g12 (fun H locs hR hS => ?_)
        replace hR : Rp b0 D E G13 H := by rw [eG13]; exact hR
        refine x_aload_n C dX9_leave_39 hL 0 rfl ?_
        refine x_aload_n C dX9_leave_40 hL 0 rfl ?_
        obtain ⟨g14, hd⟩ := gd_ex hd
        refine r_getr (ci := 9) (k := 11) C fl_X9_20 rfl dX9_leave_41 hR g14 ?_
        refine x_iload_n C dX9_leave_44 hL 1 rfl ?_
        obtain ⟨g15, hd⟩ := gd_ex hd
        refine r_iald C dX9_leave_45 hR g15 ?_
        refine lv_iconst (v := 4) hx hb dX9_leave_46 (by decide) ?_
        refine lv_bipush (v := 100) hx hb dX9_leave_47 (by decide) ?_
        refine x_iload_n C dX9_leave_49 hL 1 rfl ?_
        refine lv_iadd hx hb dX9_leave_50 ?_
        refine lv_iconst (v := (-1)) hx hb dX9_leave_51 (by decide) ?_
        refine x_iload_n C dX9_leave_52 hL 2 rfl ?_
        refine lv_iconst (v := (-1)) hx hb dX9_leave_53 (by decide) ?_
        refine lv_iconst (v := 0) hx hb dX9_leave_54 (by decide) ?_
        refine lv_iconst (v := 0) hx hb dX9_leave_55 (by decide) ?_
        refine lv_iconst (v := 0) hx hb dX9_leave_56 (by decide) ?_
        obtain ⟨v17, G18, h16, hd⟩ := b2_ex hd
        refine r_callV (a := x0) (ci := 9) (As := [.int ((hi G13 ((hr G13 x0 11)) x1.toNatClampNeg)), .int 4, .int ((100 + x1)), .int (-1), .int x2, .int (-1), .int 0, .int 0, .int 0]) C (ct_X9_put h16) mf_X9_put ml_X9_238 mv_X9_put rfl ⟨Nat.le_of_ble_eq_true rfl, Nat.le_of_ble_eq_true rfl⟩ dX9_leave_57 (lx_size hL) rfl hR hS g14 ⟨Nat.le_refl _, Nat.le_refl _⟩ (cat_le [] (Nat.le_of_ble_eq_true rfl)) (fun H locs hR hS => ?_)
        refine W_st (st2 := [.int v17]) rfl ?_
        refine lv_pop hx hb dX9_leave_60 rfl ?_
        refine lv_iconst (v := 1) hx hb dX9_leave_61 (by decide) ?_
        cases hd
        exact r_zret C (by decide) dX9_leave_62 hR hS
      · rw [if_pos c10] at hd
        refine lv_iconst (v := 0) hx hb dX9_leave_23 (by decide) ?_
        cases hd
        exact r_zret C (by decide) dX9_leave_24 hR hS
end
set_option maxHeartbeats 4000000 in
set_option maxRecDepth 100000 in
theorem ct_X9_leave {l : Launch} {b0 : Nat} {D : va_G} {E : Nat → ClassId} {G : Hp} {a0 : Nat} {a1 : Int32} {a2 : Int32} {rr : Int32} {GG : Hp} (hd : d_X9_leave a0 a1 a2 G = some (rr, GG)) : CT l yX9_leave cX9_leave 3 (some .boolean) 1 0 0 b0 D E [rv a0, .int a1, .int a2] G (some (.int rr)) GG := by
  refine CT_of (by decide +kernel) ?_
  intro p e s m below meth c C hnm hR
  refine r_entry [.inr a0, .inl a1, .inl a2] (n := 3) (Nat.le_of_ble_eq_true rfl) (lv := [(0, .inr a0), (1, .inl a1), (2, .inl a2)]) rfl (fun ls hL => ?_)
  exact k_X9_leave C (lx_sub hL [0, 1, 2] rfl) hR ⟨fun _ _ => rfl, fun _ h => by cases h⟩ hd

/-! GroveWorksModel.send(II)I -/
theorem dX9_send_0 : decode cX9_send 0 = .ok (.iload_n 1, 1) := by decide +kernel
theorem dX9_send_1 : decode cX9_send 1 = .ok (.invokestatic 129, 3) := by decide +kernel
theorem dX9_send_4 : decode cX9_send 4 = .ok (.ifCond .eq 44, 3) := by decide +kernel
theorem dX9_send_7 : decode cX9_send 7 = .ok (.iload_n 2, 1) := by decide +kernel
theorem dX9_send_8 : decode cX9_send 8 = .ok (.invokestatic 132, 3) := by decide +kernel
theorem dX9_send_11 : decode cX9_send 11 = .ok (.ifCond .eq 37, 3) := by decide +kernel
theorem dX9_send_14 : decode cX9_send 14 = .ok (.aload_n 0, 1) := by decide +kernel
theorem dX9_send_15 : decode cX9_send 15 = .ok (.getfield 20, 3) := by decide +kernel
theorem dX9_send_18 : decode cX9_send 18 = .ok (.iload_n 1, 1) := by decide +kernel
theorem dX9_send_19 : decode cX9_send 19 = .ok (.iaload, 1) := by decide +kernel
theorem dX9_send_20 : decode cX9_send 20 = .ok (.iconst (-1), 1) := by decide +kernel
theorem dX9_send_21 : decode cX9_send 21 = .ok (.if_icmp .eq 27, 3) := by decide +kernel
theorem dX9_send_24 : decode cX9_send 24 = .ok (.aload_n 0, 1) := by decide +kernel
theorem dX9_send_25 : decode cX9_send 25 = .ok (.getfield 16, 3) := by decide +kernel
theorem dX9_send_28 : decode cX9_send 28 = .ok (.aload_n 0, 1) := by decide +kernel
theorem dX9_send_29 : decode cX9_send 29 = .ok (.getfield 20, 3) := by decide +kernel
theorem dX9_send_32 : decode cX9_send 32 = .ok (.iload_n 1, 1) := by decide +kernel
theorem dX9_send_33 : decode cX9_send 33 = .ok (.iaload, 1) := by decide +kernel
theorem dX9_send_34 : decode cX9_send 34 = .ok (.baload, 1) := by decide +kernel
theorem dX9_send_35 : decode cX9_send 35 = .ok (.ifCond .ne 13, 3) := by decide +kernel
theorem dX9_send_38 : decode cX9_send 38 = .ok (.aload_n 0, 1) := by decide +kernel
theorem dX9_send_39 : decode cX9_send 39 = .ok (.getfield 340, 3) := by decide +kernel
theorem dX9_send_42 : decode cX9_send 42 = .ok (.sipush 400, 3) := by decide +kernel
theorem dX9_send_45 : decode cX9_send 45 = .ok (.if_icmp .ne 5, 3) := by decide +kernel
theorem dX9_send_48 : decode cX9_send 48 = .ok (.iconst (-1), 1) := by decide +kernel
theorem dX9_send_49 : decode cX9_send 49 = .ok (.ireturn, 1) := by decide +kernel
theorem dX9_send_50 : decode cX9_send 50 = .ok (.aload_n 0, 1) := by decide +kernel
theorem dX9_send_51 : decode cX9_send 51 = .ok (.aload_n 0, 1) := by decide +kernel
theorem dX9_send_52 : decode cX9_send 52 = .ok (.getfield 20, 3) := by decide +kernel
theorem dX9_send_55 : decode cX9_send 55 = .ok (.iload_n 1, 1) := by decide +kernel
theorem dX9_send_56 : decode cX9_send 56 = .ok (.iaload, 1) := by decide +kernel
theorem dX9_send_57 : decode cX9_send 57 = .ok (.bipush 7, 2) := by decide +kernel
theorem dX9_send_59 : decode cX9_send 59 = .ok (.bipush 100, 2) := by decide +kernel
theorem dX9_send_61 : decode cX9_send 61 = .ok (.iload_n 1, 1) := by decide +kernel
theorem dX9_send_62 : decode cX9_send 62 = .ok (.iadd, 1) := by decide +kernel
theorem dX9_send_63 : decode cX9_send 63 = .ok (.iconst (-1), 1) := by decide +kernel
theorem dX9_send_64 : decode cX9_send 64 = .ok (.iload_n 2, 1) := by decide +kernel
theorem dX9_send_65 : decode cX9_send 65 = .ok (.iload_n 1, 1) := by decide +kernel
theorem dX9_send_66 : decode cX9_send 66 = .ok (.aload_n 0, 1) := by decide +kernel
theorem dX9_send_67 : decode cX9_send 67 = .ok (.getfield 340, 3) := by decide +kernel
theorem dX9_send_70 : decode cX9_send 70 = .ok (.iconst 0, 1) := by decide +kernel
theorem dX9_send_71 : decode cX9_send 71 = .ok (.bipush 16, 2) := by decide +kernel
theorem dX9_send_73 : decode cX9_send 73 = .ok (.invokevirtual 238, 3) := by decide +kernel
theorem dX9_send_76 : decode cX9_send 76 = .ok (.pop, 1) := by decide +kernel
theorem dX9_send_77 : decode cX9_send 77 = .ok (.aload_n 0, 1) := by decide +kernel
theorem dX9_send_78 : decode cX9_send 78 = .ok (.dup, 1) := by decide +kernel
theorem dX9_send_79 : decode cX9_send 79 = .ok (.getfield 340, 3) := by decide +kernel
theorem dX9_send_82 : decode cX9_send 82 = .ok (.iconst 1, 1) := by decide +kernel
theorem dX9_send_83 : decode cX9_send 83 = .ok (.iadd, 1) := by decide +kernel
theorem dX9_send_84 : decode cX9_send 84 = .ok (.putfield 340, 3) := by decide +kernel
theorem dX9_send_87 : decode cX9_send 87 = .ok (.aload_n 0, 1) := by decide +kernel
theorem dX9_send_88 : decode cX9_send 88 = .ok (.getfield 340, 3) := by decide +kernel
theorem dX9_send_91 : decode cX9_send 91 = .ok (.iconst 1, 1) := by decide +kernel
theorem dX9_send_92 : decode cX9_send 92 = .ok (.isub, 1) := by decide +kernel
theorem dX9_send_93 : decode cX9_send 93 = .ok (.ireturn, 1) := by decide +kernel
def d_X9_send (x0 : Nat) (x1 : Int32) (x2 : Int32) (G : Hp) : Option (Int32 × Hp) :=
  bo (d_X9_isHost x1 G) fun v2 =>
  if v2 = 0 then
    some ((-1), G)
  else
    bo (d_X9_isGroup x2 G) fun v5 =>
    if v5 = 0 then
      some ((-1), G)
    else
      gd (hc G x0 = 10) <|
      gd (hc G ((hr G x0 11)) = 11 ∧ ix x1 (hl G ((hr G x0 11)))) <|
      if ((hi G ((hr G x0 11)) x1.toNatClampNeg)) = (-1) then
        some ((-1), G)
      else
        gd (hc G ((hr G x0 11)) = 11 ∧ ix x1 (hl G ((hr G x0 11)))) <|
        gd (hc G ((hr G x0 10)) = 12 ∧ ix ((hi G ((hr G x0 11)) x1.toNatClampNeg)) (hl G ((hr G x0 10)))) <|
        if ((hi G ((hr G x0 10)) ((hi G ((hr G x0 11)) x1.toNatClampNeg)).toNatClampNeg)) = 0 then
          if ((hi G x0 2)) = 400 then
            some ((-1), G)
          else
            gd (hc G ((hr G x0 11)) = 11 ∧ ix x1 (hl G ((hr G x0 11)))) <|
            b2 (d_X9_put x0 ((hi G ((hr G x0 11)) x1.toNatClampNeg)) 7 ((100 + x1)) (-1) x2 x1 ((hi G x0 2)) 0 16 G) fun v16 G17 =>
            gd (hc G17 x0 = 10) <|
            bd (sI G17 x0 2 ((((hi G17 x0 2)) + 1))) fun G19 =>
            gd (hc G19 x0 = 10) <|
            some ((((hi G19 x0 2)) - 1), G19)
        else
          some ((-1), G)
section
variable {p : Program} {l : Launch} {e : Env} {s : State} {m : MethodId} {args : Array Value} {below : List Frame} {meth : Method} {c : Code} {b0 : Nat} {D : va_G} {E : Nat → ClassId}
set_option maxHeartbeats 4000000 in
set_option maxRecDepth 100000 in
theorem k_X9_send (C : Cx p s m args meth c RX9 cX9_send 3 (some .int) b0 D E) {rr : Int32} {GG : Hp} {x0 : Nat} {x1 : Int32} {x2 : Int32} {G : Hp} {ls : Array Slot} {H : Heap} {locs : List Loc} : lx ls 3 [(0, .inr x0), (1, .inl x1), (2, .inl x2)] → Rp b0 D E G H → SS b0 s H locs → d_X9_send x0 x1 x2 G = some (rr, GG) → W p l e (rmd 1 (0) (0)) s m args below meth c H locs (0) (0) (MQ below (CQ b0 D E (some (.int rr)) GG) args s (0) (0) (fun q => b0 ≤ q)) (F0 m 0 ls []) := by
  intro hL hR hS hd
  unfold d_X9_send at hd
  have hx := C.1
  have hb := C.2.1
  refine x_iload_n C dX9_send_0 hL 1 rfl ?_
  obtain ⟨v2, h1, hd⟩ := bo_ex hd
  refine r_callS (As := [.int x1]) C (ct_X9_isHost h1) mf_X9_isHost ml_X9_129 ms_X9_isHost rfl ⟨Nat.le_of_ble_eq_true rfl, Nat.le_of_ble_eq_true rfl⟩ dX9_send_1 (lx_size hL) rfl hR hS ⟨Nat.le_refl _, Nat.le_refl _⟩ (cat_le [] (Nat.le_of_ble_eq_true rfl)) (fun H locs hR hS => ?_)
  refine W_st (st2 := [.int v2]) rfl ?_
  refine lv_if_eq (tgt := 48) hx hb dX9_send_4 (by decide) (fun c3 => ?_) (fun c3 => ?_)
  · rw [if_pos c3] at hd
    refine lv_iconst (v := (-1)) hx hb dX9_send_48 (by decide) ?_
    cases hd
    exact r_iret C dX9_send_49 hR hS
  · rw [if_neg c3] at hd
    refine x_iload_n C dX9_send_7 hL 2 rfl ?_
    obtain ⟨v5, h4, hd⟩ := bo_ex hd
    refine r_callS (As := [.int x2]) C (ct_X9_isGroup h4) mf_X9_isGroup ml_X9_132 ms_X9_isGroup rfl ⟨Nat.le_of_ble_eq_true rfl, Nat.le_of_ble_eq_true rfl⟩ dX9_send_8 (lx_size hL) rfl hR hS ⟨Nat.le_refl _, Nat.le_refl _⟩ (cat_le [] (Nat.le_of_ble_eq_true rfl)) (fun H locs hR hS => ?_)
    refine W_st (st2 := [.int v5]) rfl ?_
    refine lv_if_eq (tgt := 48) hx hb dX9_send_11 (by decide) (fun c6 => ?_) (fun c6 => ?_)
    · rw [if_pos c6] at hd
      refine lv_iconst (v := (-1)) hx hb dX9_send_48 (by decide) ?_
      cases hd
      exact r_iret C dX9_send_49 hR hS
    · rw [if_neg c6] at hd
      refine x_aload_n C dX9_send_14 hL 0 rfl ?_
      obtain ⟨g7, hd⟩ := gd_ex hd
      refine r_getr (ci := 9) (k := 11) C fl_X9_20 rfl dX9_send_15 hR g7 ?_
      refine x_iload_n C dX9_send_18 hL 1 rfl ?_
      obtain ⟨g8, hd⟩ := gd_ex hd
      refine r_iald C dX9_send_19 hR g8 ?_
      refine lv_iconst (v := (-1)) hx hb dX9_send_20 (by decide) ?_
      refine lv_icmp_eq (tgt := 48) hx hb dX9_send_21 (by decide) (fun c9 => ?_) (fun c9 => ?_)
      · rw [if_pos c9] at hd
        refine lv_iconst (v := (-1)) hx hb dX9_send_48 (by decide) ?_
        cases hd
        exact r_iret C dX9_send_49 hR hS
      · rw [if_neg c9] at hd
        refine x_aload_n C dX9_send_24 hL 0 rfl ?_
        refine r_getr (ci := 9) (k := 10) C fl_X9_16 rfl dX9_send_25 hR g7 ?_
        refine x_aload_n C dX9_send_28 hL 0 rfl ?_
        refine r_getr (ci := 9) (k := 11) C fl_X9_20 rfl dX9_send_29 hR g7 ?_
        refine x_iload_n C dX9_send_32 hL 1 rfl ?_
        obtain ⟨g10, hd⟩ := gd_ex hd
        refine r_iald C dX9_send_33 hR g10 ?_
        obtain ⟨g11, hd⟩ := gd_ex hd
        refine r_zald C dX9_send_34 hR g11 ?_
        refine lv_if_ne (tgt := 48) hx hb dX9_send_35 (by decide) (fun c12 => ?_) (fun c12 => ?_)
        · rw [if_neg c12] at hd
          refine lv_iconst (v := (-1)) hx hb dX9_send_48 (by decide) ?_
          cases hd
          exact r_iret C dX9_send_49 hR hS
        · rw [if_pos c12] at hd
          refine x_aload_n C dX9_send_38 hL 0 rfl ?_
          refine r_geti (ci := 9) (k := 2) C fl_X9_340 rfl dX9_send_39 hR g7 ?_
          refine lv_sipush (v := 400) hx hb dX9_send_42 (by decide) ?_
          refine lv_icmp_ne (tgt := 50) hx hb dX9_send_45 (by decide) (fun c13 => ?_) (fun c13 => ?_)
          · rw [if_neg c13] at hd
            refine x_aload_n C dX9_send_50 hL 0 rfl ?_
            refine x_aload_n C dX9_send_51 hL 0 rfl ?_
            refine r_getr (ci := 9) (k := 11) C fl_X9_20 rfl dX9_send_52 hR g7 ?_
            refine x_iload_n C dX9_send_55 hL 1 rfl ?_
            obtain ⟨g14, hd⟩ := gd_ex hd
            refine r_iald C dX9_send_56 hR g14 ?_
            refine lv_bipush (v := 7) hx hb dX9_send_57 (by decide) ?_
            refine lv_bipush (v := 100) hx hb dX9_send_59 (by decide) ?_
            refine x_iload_n C dX9_send_61 hL 1 rfl ?_
            refine lv_iadd hx hb dX9_send_62 ?_
            refine lv_iconst (v := (-1)) hx hb dX9_send_63 (by decide) ?_
            refine x_iload_n C dX9_send_64 hL 2 rfl ?_
            refine x_iload_n C dX9_send_65 hL 1 rfl ?_
            refine x_aload_n C dX9_send_66 hL 0 rfl ?_
            refine r_geti (ci := 9) (k := 2) C fl_X9_340 rfl dX9_send_67 hR g7 ?_
            refine lv_iconst (v := 0) hx hb dX9_send_70 (by decide) ?_
            refine lv_bipush (v := 16) hx hb dX9_send_71 (by decide) ?_
            obtain ⟨v16, G17, h15, hd⟩ := b2_ex hd
            refine r_callV (a := x0) (ci := 9) (As := [.int ((hi G ((hr G x0 11)) x1.toNatClampNeg)), .int 7, .int ((100 + x1)), .int (-1), .int x2, .int x1, .int ((hi G x0 2)), .int 0, .int 16]) C (ct_X9_put h15) mf_X9_put ml_X9_238 mv_X9_put rfl ⟨Nat.le_of_ble_eq_true rfl, Nat.le_of_ble_eq_true rfl⟩ dX9_send_73 (lx_size hL) rfl hR hS g7 ⟨Nat.le_refl _, Nat.le_refl _⟩ (cat_le [] (Nat.le_of_ble_eq_true rfl)) (fun H locs hR hS => ?_)
            refine W_st (st2 := [.int v16]) rfl ?_
            refine lv_pop hx hb dX9_send_76 rfl ?_
            refine x_aload_n C dX9_send_77 hL 0 rfl ?_
            refine lv_dup hx hb dX9_send_78 (rv_cat _) ?_
            obtain ⟨g18, hd⟩ := gd_ex hd
            refine r_geti (ci := 9) (k := 2) C fl_X9_340 rfl dX9_send_79 hR g18 ?_
            refine lv_iconst (v := 1) hx hb dX9_send_82 (by decide) ?_
            refine lv_iadd hx hb dX9_send_83 ?_
            obtain ⟨G19, eG19, hd⟩ := bd_ex hd
            refine r_puti (ci := 9) (k := 2) C fl_X9_340 rfl (Or.inl rfl) dX9_send_84 hR hS g18 (fun H locs hR hS => ?_)
            replace hR : Rp b0 D E G19 H := by rw [eG19]; exact hR
            refine x_aload_n C dX9_send_87 hL 0 rfl ?_
            obtain ⟨g20, hd⟩ := gd_ex hd
            refine r_geti (ci := 9) (k := 2) C fl_X9_340 rfl dX9_send_88 hR g20 ?_
            refine lv_iconst (v := 1) hx hb dX9_send_91 (by decide) ?_
            refine lv_isub hx hb dX9_send_92 ?_
            cases hd
            exact r_iret C dX9_send_93 hR hS
          · rw [if_pos c13] at hd
            refine lv_iconst (v := (-1)) hx hb dX9_send_48 (by decide) ?_
            cases hd
            exact r_iret C dX9_send_49 hR hS
end
set_option maxHeartbeats 4000000 in
set_option maxRecDepth 100000 in
theorem ct_X9_send {l : Launch} {b0 : Nat} {D : va_G} {E : Nat → ClassId} {G : Hp} {a0 : Nat} {a1 : Int32} {a2 : Int32} {rr : Int32} {GG : Hp} (hd : d_X9_send a0 a1 a2 G = some (rr, GG)) : CT l yX9_send cX9_send 3 (some .int) 1 0 0 b0 D E [rv a0, .int a1, .int a2] G (some (.int rr)) GG := by
  refine CT_of (by decide +kernel) ?_
  intro p e s m below meth c C hnm hR
  refine r_entry [.inr a0, .inl a1, .inl a2] (n := 3) (Nat.le_of_ble_eq_true rfl) (lv := [(0, .inr a0), (1, .inl a1), (2, .inl a2)]) rfl (fun ls hL => ?_)
  exact k_X9_send C (lx_sub hL [0, 1, 2] rfl) hR ⟨fun _ _ => rfl, fun _ h => by cases h⟩ hd

/-! GroveWorksModel.comesToHost(II)V -/
theorem dX9_comesToHost_0 : decode cX9_comesToHost 0 = .ok (.aload_n 0, 1) := by decide +kernel
theorem dX9_comesToHost_1 : decode cX9_comesToHost 1 = .ok (.getfield 47, 3) := by decide +kernel
theorem dX9_comesToHost_4 : decode cX9_comesToHost 4 = .ok (.iload_n 2, 1) := by decide +kernel
theorem dX9_comesToHost_5 : decode cX9_comesToHost 5 = .ok (.iconst 3, 1) := by decide +kernel
theorem dX9_comesToHost_6 : decode cX9_comesToHost 6 = .ok (.iadd, 1) := by decide +kernel
theorem dX9_comesToHost_7 : decode cX9_comesToHost 7 = .ok (.iaload, 1) := by decide +kernel
theorem dX9_comesToHost_8 : decode cX9_comesToHost 8 = .ok (.istore_n 3, 1) := by decide +kernel
theorem dX9_comesToHost_9 : decode cX9_comesToHost 9 = .ok (.aload_n 0, 1) := by decide +kernel
theorem dX9_comesToHost_10 : decode cX9_comesToHost 10 = .ok (.getfield 47, 3) := by decide +kernel
theorem dX9_comesToHost_13 : decode cX9_comesToHost 13 = .ok (.iload_n 2, 1) := by decide +kernel
theorem dX9_comesToHost_14 : decode cX9_comesToHost 14 = .ok (.iaload, 1) := by decide +kernel
theorem dX9_comesToHost_15 : decode cX9_comesToHost 15 = .ok (.iconst 2, 1) := by decide +kernel
theorem dX9_comesToHost_16 : decode cX9_comesToHost 16 = .ok (.if_icmp .ne 26, 3) := by decide +kernel
theorem dX9_comesToHost_19 : decode cX9_comesToHost 19 = .ok (.aload_n 0, 1) := by decide +kernel
theorem dX9_comesToHost_20 : decode cX9_comesToHost 20 = .ok (.getfield 29, 3) := by decide +kernel
theorem dX9_comesToHost_23 : decode cX9_comesToHost 23 = .ok (.iload_n 1, 1) := by decide +kernel
theorem dX9_comesToHost_24 : decode cX9_comesToHost 24 = .ok (.dup2, 1) := by decide +kernel
theorem dX9_comesToHost_25 : decode cX9_comesToHost 25 = .ok (.iaload, 1) := by decide +kernel
theorem dX9_comesToHost_26 : decode cX9_comesToHost 26 = .ok (.iload_n 3, 1) := by decide +kernel
theorem dX9_comesToHost_27 : decode cX9_comesToHost 27 = .ok (.iconst (-1), 1) := by decide +kernel
theorem dX9_comesToHost_28 : decode cX9_comesToHost 28 = .ok (.if_icmp .ne 9, 3) := by decide +kernel
theorem dX9_comesToHost_31 : decode cX9_comesToHost 31 = .ok (.sipush 255, 3) := by decide +kernel
theorem dX9_comesToHost_34 : decode cX9_comesToHost 34 = .ok (.goto 6, 3) := by decide +kernel
theorem dX9_comesToHost_37 : decode cX9_comesToHost 37 = .ok (.iconst 1, 1) := by decide +kernel
theorem dX9_comesToHost_38 : decode cX9_comesToHost 38 = .ok (.iload_n 3, 1) := by decide +kernel
theorem dX9_comesToHost_39 : decode cX9_comesToHost 39 = .ok (.ishl, 1) := by decide +kernel
theorem dX9_comesToHost_40 : decode cX9_comesToHost 40 = .ok (.ior, 1) := by decide +kernel
theorem dX9_comesToHost_41 : decode cX9_comesToHost 41 = .ok (.iastore, 1) := by decide +kernel
theorem dX9_comesToHost_42 : decode cX9_comesToHost 42 = .ok (.aload_n 0, 1) := by decide +kernel
theorem dX9_comesToHost_43 : decode cX9_comesToHost 43 = .ok (.getfield 47, 3) := by decide +kernel
theorem dX9_comesToHost_46 : decode cX9_comesToHost 46 = .ok (.iload_n 2, 1) := by decide +kernel
theorem dX9_comesToHost_47 : decode cX9_comesToHost 47 = .ok (.iaload, 1) := by decide +kernel
theorem dX9_comesToHost_48 : decode cX9_comesToHost 48 = .ok (.bipush 7, 2) := by decide +kernel
theorem dX9_comesToHost_50 : decode cX9_comesToHost 50 = .ok (.if_icmp .ne 35, 3) := by decide +kernel
theorem dX9_comesToHost_53 : decode cX9_comesToHost 53 = .ok (.aload_n 0, 1) := by decide +kernel
theorem dX9_comesToHost_54 : decode cX9_comesToHost 54 = .ok (.iload_n 1, 1) := by decide +kernel
theorem dX9_comesToHost_55 : decode cX9_comesToHost 55 = .ok (.iload_n 3, 1) := by decide +kernel
theorem dX9_comesToHost_56 : decode cX9_comesToHost 56 = .ok (.invokevirtual 337, 3) := by decide +kernel
theorem dX9_comesToHost_59 : decode cX9_comesToHost 59 = .ok (.ifCond .eq 26, 3) := by decide +kernel
theorem dX9_comesToHost_62 : decode cX9_comesToHost 62 = .ok (.aload_n 0, 1) := by decide +kernel
theorem dX9_comesToHost_63 : decode cX9_comesToHost 63 = .ok (.getfield 32, 3) := by decide +kernel
theorem dX9_comesToHost_66 : decode cX9_comesToHost 66 = .ok (.sipush 400, 3) := by decide +kernel
theorem dX9_comesToHost_69 : decode cX9_comesToHost 69 = .ok (.iload_n 1, 1) := by decide +kernel
theorem dX9_comesToHost_70 : decode cX9_comesToHost 70 = .ok (.imul, 1) := by decide +kernel
theorem dX9_comesToHost_71 : decode cX9_comesToHost 71 = .ok (.aload_n 0, 1) := by decide +kernel
theorem dX9_comesToHost_72 : decode cX9_comesToHost 72 = .ok (.getfield 47, 3) := by decide +kernel
theorem dX9_comesToHost_75 : decode cX9_comesToHost 75 = .ok (.iload_n 2, 1) := by decide +kernel
theorem dX9_comesToHost_76 : decode cX9_comesToHost 76 = .ok (.iconst 5, 1) := by decide +kernel
theorem dX9_comesToHost_77 : decode cX9_comesToHost 77 = .ok (.iadd, 1) := by decide +kernel
theorem dX9_comesToHost_78 : decode cX9_comesToHost 78 = .ok (.iaload, 1) := by decide +kernel
theorem dX9_comesToHost_79 : decode cX9_comesToHost 79 = .ok (.iadd, 1) := by decide +kernel
theorem dX9_comesToHost_80 : decode cX9_comesToHost 80 = .ok (.dup2, 1) := by decide +kernel
theorem dX9_comesToHost_81 : decode cX9_comesToHost 81 = .ok (.iaload, 1) := by decide +kernel
theorem dX9_comesToHost_82 : decode cX9_comesToHost 82 = .ok (.iconst 1, 1) := by decide +kernel
theorem dX9_comesToHost_83 : decode cX9_comesToHost 83 = .ok (.iadd, 1) := by decide +kernel
theorem dX9_comesToHost_84 : decode cX9_comesToHost 84 = .ok (.iastore, 1) := by decide +kernel
theorem dX9_comesToHost_85 : decode cX9_comesToHost 85 = .ok (.return_, 1) := by decide +kernel
def d_X9_comesToHost_42 (x0 : Nat) (x1 : Int32) (x2 : Int32) (x3 : Int32) (G : Hp) : Option (Hp) :=
  gd (hc G x0 = 10) <|
  gd (hc G ((hr G x0 20)) = 11 ∧ ix x2 (hl G ((hr G x0 20)))) <|
  if ((hi G ((hr G x0 20)) x2.toNatClampNeg)) = 7 then
    bo (d_X9_isIn x0 x1 x3 G) fun v5 =>
    if v5 = 0 then
      some G
    else
      gd (hc G ((hr G x0 20)) = 11 ∧ ix ((x2 + 5)) (hl G ((hr G x0 20)))) <|
      gd (hc G ((hr G x0 15)) = 11 ∧ ix ((((400 * x1)) + ((hi G ((hr G x0 20)) ((x2 + 5)).toNatClampNeg)))) (hl G ((hr G x0 15)))) <|
      gd (hc G ((hr G x0 15)) = 11 ∧ ix ((((400 * x1)) + ((hi G ((hr G x0 20)) ((x2 + 5)).toNatClampNeg)))) (hl G ((hr G x0 15)))) <|
      bd (sI G ((hr G x0 15)) ((((400 * x1)) + ((hi G ((hr G x0 20)) ((x2 + 5)).toNatClampNeg)))).toNatClampNeg ((((hi G ((hr G x0 15)) ((((400 * x1)) + ((hi G ((hr G x0 20)) ((x2 + 5)).toNatClampNeg)))).toNatClampNeg)) + 1))) fun G10 =>
      some G10
  else
    some G
def d_X9_comesToHost_40 (x0 : Nat) (x1 : Int32) (x2 : Int32) (x3 : Int32) (s0 : Int32) (s1 : Int32) (s2 : Int32) (s3 : Nat) (G : Hp) : Option (Hp) :=
  gd (hc G s3 = 11 ∧ ix s2 (hl G s3)) <|
  bd (sI G s3 s2.toNatClampNeg ((s1 ||| s0))) fun G2 =>
  d_X9_comesToHost_42 x0 x1 x2 x3 G2
def d_X9_comesToHost (x0 : Nat) (x1 : Int32) (x2 : Int32) (G : Hp) : Option (Hp) :=
  gd (hc G x0 = 10) <|
  gd (hc G ((hr G x0 20)) = 11 ∧ ix ((x2 + 3)) (hl G ((hr G x0 20)))) <|
  bd ((hi G ((hr G x0 20)) ((x2 + 3)).toNatClampNeg)) fun v3 =>
  gd (hc G ((hr G x0 20)) = 11 ∧ ix x2 (hl G ((hr G x0 20)))) <|
  if ((hi G ((hr G x0 20)) x2.toNatClampNeg)) = 2 then
    gd (hc G ((hr G x0 14)) = 11 ∧ ix x1 (hl G ((hr G x0 14)))) <|
    if v3 = (-1) then
      d_X9_comesToHost_40 x0 x1 x2 v3 255 ((hi G ((hr G x0 14)) x1.toNatClampNeg)) x1 ((hr G x0 14)) G
    else
      d_X9_comesToHost_40 x0 x1 x2 v3 ((1 <<< (v3 &&& 31))) ((hi G ((hr G x0 14)) x1.toNatClampNeg)) x1 ((hr G x0 14)) G
  else
    d_X9_comesToHost_42 x0 x1 x2 v3 G
section
variable {p : Program} {l : Launch} {e : Env} {s : State} {m : MethodId} {args : Array Value} {below : List Frame} {meth : Method} {c : Code} {b0 : Nat} {D : va_G} {E : Nat → ClassId}
set_option maxHeartbeats 4000000 in
set_option maxRecDepth 100000 in
theorem k_X9_comesToHost_42 (C : Cx p s m args meth c RX9 cX9_comesToHost 4 none b0 D E) {GG : Hp} {x0 : Nat} {x1 : Int32} {x2 : Int32} {x3 : Int32} {G : Hp} {ls : Array Slot} {H : Heap} {locs : List Loc} : lx ls 4 [(0, .inr x0), (1, .inl x1), (2, .inl x2), (3, .inl x3)] → Rp b0 D E G H → SS b0 s H locs → d_X9_comesToHost_42 x0 x1 x2 x3 G = some GG → W p l e (rmd 1 (0) (0)) s m args below meth c H locs (0) (0) (MQ below (CQ b0 D E none GG) args s (0) (0) (fun q => b0 ≤ q)) (F0 m 42 ls []) := by
  intro hL hR hS hd
  unfold d_X9_comesToHost_42 at hd
  have hx := C.1
  have hb := C.2.1
  refine x_aload_n C dX9_comesToHost_42 hL 0 rfl ?_
  obtain ⟨g1, hd⟩ := gd_ex hd
  refine r_getr (ci := 9) (k := 20) C fl_X9_47 rfl dX9_comesToHost_43 hR g1 ?_
  refine x_iload_n C dX9_comesToHost_46 hL 2 rfl ?_
  obtain ⟨g2, hd⟩ := gd_ex hd
  refine r_iald C dX9_comesToHost_47 hR g2 ?_
  refine lv_bipush (v := 7) hx hb dX9_comesToHost_48 (by decide) ?_
  refine lv_icmp_ne (tgt := 85) hx hb dX9_comesToHost_50 (by decide) (fun c3 => ?_) (fun c3 => ?_)
  · rw [if_neg c3] at hd
    cases hd
    exact r_vret C dX9_comesToHost_85 hR hS
  · rw [if_pos c3] at hd
    refine x_aload_n C dX9_comesToHost_53 hL 0 rfl ?_
    refine x_iload_n C dX9_comesToHost_54 hL 1 rfl ?_
    refine x_iload_n C dX9_comesToHost_55 hL 3 rfl ?_
    obtain ⟨v5, h4, hd⟩ := bo_ex hd
    refine r_callV (a := x0) (ci := 9) (As := [.int x1, .int x3]) C (ct_X9_isIn h4) mf_X9_isIn ml_X9_337 mv_X9_isIn rfl ⟨Nat.le_of_ble_eq_true rfl, Nat.le_of_ble_eq_true rfl⟩ dX9_comesToHost_56 (lx_size hL) rfl hR hS g1 ⟨Nat.le_refl _, Nat.le_refl _⟩ (cat_le [] (Nat.le_of_ble_eq_true rfl)) (fun H locs hR hS => ?_)
    refine W_st (st2 := [.int v5]) rfl ?_
    refine lv_if_eq (tgt := 85) hx hb dX9_comesToHost_59 (by decide) (fun c6 => ?_) (fun c6 => ?_)
    · rw [if_pos c6] at hd
      cases hd
      exact r_vret C dX9_comesToHost_85 hR hS
    · rw [if_neg c6] at hd
      refine x_aload_n C dX9_comesToHost_62 hL 0 rfl ?_
      refine r_getr (ci := 9) (k := 15) C fl_X9_32 rfl dX9_comesToHost_63 hR g1 ?_
      refine lv_sipush (v := 400) hx hb dX9_comesToHost_66 (by decide) ?_
      refine x_iload_n C dX9_comesToHost_69 hL 1 rfl ?_
      refine lv_imul hx hb dX9_comesToHost_70 ?_
      refine x_aload_n C dX9_comesToHost_71 hL 0 rfl ?_
      refine r_getr (ci := 9) (k := 20) C fl_X9_47 rfl dX9_comesToHost_72 hR g1 ?_
      refine x_iload_n C dX9_comesToHost_75 hL 2 rfl ?_
      refine lv_iconst (v := 5) hx hb dX9_comesToHost_76 (by decide) ?_
      refine lv_iadd hx hb dX9_comesToHost_77 ?_
      obtain ⟨g7, hd⟩ := gd_ex hd
      refine r_iald C dX9_comesToHost_78 hR g7 ?_
      refine lv_iadd hx hb dX9_comesToHost_79 ?_
      refine lv_dup2_11 hx hb dX9_comesToHost_80 rfl (rv_cat _) ?_
      obtain ⟨g8, hd⟩ := gd_ex hd
      refine r_iald C dX9_comesToHost_81 hR g8 ?_
      refine lv_iconst (v := 1) hx hb dX9_comesToHost_82 (by decide) ?_
      refine lv_iadd hx hb dX9_comesToHost_83 ?_
      obtain ⟨g9, hd⟩ := gd_ex hd
      obtain ⟨G10, eG10, hd⟩ := bd_ex hd
      refine r_iast C dX9_comesToHost_84 hR hS g9 (fun H locs hR hS => ?_)
      replace hR : Rp b0 D E G10 H := by rw [eG10]; exact hR
      cases hd
      exact r_vret C dX9_comesToHost_85 hR hS
set_option maxHeartbeats 4000000 in
set_option maxRecDepth 100000 in
theorem k_X9_comesToHost_40 (C : Cx p s m args meth c RX9 cX9_comesToHost 4 none b0 D E) {GG : Hp} {x0 : Nat} {x1 : Int32} {x2 : Int32} {x3 : Int32} {s0 : Int32} {s1 : Int32} {s2 : Int32} {s3 : Nat} {G : Hp} {ls : Array Slot} {H : Heap} {locs : List Loc} : lx ls 4 [(0, .inr x0), (1, .inl x1), (2, .inl x2), (3, .inl x3)] → Rp b0 D E G H → SS b0 s H locs → d_X9_comesToHost_40 x0 x1 x2 x3 s0 s1 s2 s3 G = some GG → W p l e (rmd 1 (0) (0)) s m args below meth c H locs (0) (0) (MQ below (CQ b0 D E none GG) args s (0) (0) (fun q => b0 ≤ q)) (F0 m 40 ls [.int s0, .int s1, .int s2, rv s3]) := by
  intro hL hR hS hd
  unfold d_X9_comesToHost_40 at hd
  have hx := C.1
  have hb := C.2.1
  refine lv_ior hx hb dX9_comesToHost_40 ?_
  obtain ⟨g1, hd⟩ := gd_ex hd
  obtain ⟨G2, eG2, hd⟩ := bd_ex hd
  refine r_iast C dX9_comesToHost_41 hR hS g1 (fun H locs hR hS => ?_)
  replace hR : Rp b0 D E G2 H := by rw [eG2]; exact hR
  exact k_X9_comesToHost_42 C hL hR hS hd
set_option maxHeartbeats 4000000 in
set_option maxRecDepth 100000 in
theorem k_X9_comesToHost (C : Cx p s m args meth c RX9 cX9_comesToHost 4 none b0 D E) {GG : Hp} {x0 : Nat} {x1 : Int32} {x2 : Int32} {G : Hp} {ls : Array Slot} {H : Heap} {locs : List Loc} : lx ls 4 [(0, .inr x0), (1, .inl x1), (2, .inl x2)] → Rp b0 D E G H → SS b0 s H locs → d_X9_comesToHost x0 x1 x2 G = some GG → W p l e (rmd 1 (0) (0)) s m args below meth c H locs (0) (0) (MQ below (CQ b0 D E none GG) args s (0) (0) (fun q => b0 ≤ q)) (F0 m 0 ls []) := by
  intro hL hR hS hd
  unfold d_X9_comesToHost at hd
  have hx := C.1
  have hb := C.2.1
  refine x_aload_n C dX9_comesToHost_0 hL 0 rfl ?_
  obtain ⟨g1, hd⟩ := gd_ex hd
  refine r_getr (ci := 9) (k := 20) C fl_X9_47 rfl dX9_comesToHost_1 hR g1 ?_
  refine x_iload_n C dX9_comesToHost_4 hL 2 rfl ?_
  refine lv_iconst (v := 3) hx hb dX9_comesToHost_5 (by decide) ?_
  refine lv_iadd hx hb dX9_comesToHost_6 ?_
  obtain ⟨g2, hd⟩ := gd_ex hd
  refine r_iald C dX9_comesToHost_7 hR g2 ?_
  obtain ⟨v3, ev3, hd⟩ := bd_ex hd
  rw [← ev3]
  refine x_istore_n (lv' := [(3, .inl v3), (0, .inr x0), (1, .inl x1), (2, .inl x2)]) C dX9_comesToHost_8 hL (by decide) rfl (fun ls hL => ?_)
  refine x_aload_n C dX9_comesToHost_9 hL 1 rfl ?_
  refine r_getr (ci := 9) (k := 20) C fl_X9_47 rfl dX9_comesToHost_10 hR g1 ?_
  refine x_iload_n C dX9_comesToHost_13 hL 3 rfl ?_
  obtain ⟨g4, hd⟩ := gd_ex hd
  refine r_iald C dX9_comesToHost_14 hR g4 ?_
  refine lv_iconst (v := 2) hx hb dX9_comesToHost_15 (by decide) ?_
  refine lv_icmp_ne (tgt := 42) hx hb dX9_comesToHost_16 (by decide) (fun c5 => ?_) (fun c5 => ?_)
  · rw [if_neg c5] at hd
    exact k_X9_comesToHost_42 C (lx_sub hL [1, 2, 3, 0] rfl) hR hS hd
  · rw [if_pos c5] at hd
    refine x_aload_n C dX9_comesToHost_19 hL 1 rfl ?_
    refine r_getr (ci := 9) (k := 14) C fl_X9_29 rfl dX9_comesToHost_20 hR g1 ?_
    refine x_iload_n C dX9_comesToHost_23 hL 2 rfl ?_
    refine lv_dup2_11 hx hb dX9_comesToHost_24 rfl (rv_cat _) ?_
    obtain ⟨g6, hd⟩ := gd_ex hd
    refine r_iald C dX9_comesToHost_25 hR g6 ?_
    refine x_iload_n C dX9_comesToHost_26 hL 0 rfl ?_
    refine lv_iconst (v := (-1)) hx hb dX9_comesToHost_27 (by decide) ?_
    refine lv_icmp_ne (tgt := 37) hx hb dX9_comesToHost_28 (by decide) (fun c7 => ?_) (fun c7 => ?_)
    · rw [if_neg c7] at hd
      refine lv_iconst (v := 1) hx hb dX9_comesToHost_37 (by decide) ?_
      refine x_iload_n C dX9_comesToHost_38 hL 0 rfl ?_
      refine lv_ishl hx hb dX9_comesToHost_39 ?_
      exact k_X9_comesToHost_40 C (lx_sub hL [1, 2, 3, 0] rfl) hR hS hd
    · rw [if_pos c7] at hd
      refine lv_sipush (v := 255) hx hb dX9_comesToHost_31 (by decide) ?_
      refine lv_goto (tgt := 40) hx hb dX9_comesToHost_34 (by decide) ?_
      exact k_X9_comesToHost_40 C (lx_sub hL [1, 2, 3, 0] rfl) hR hS hd
end
set_option maxHeartbeats 4000000 in
set_option maxRecDepth 100000 in
theorem ct_X9_comesToHost {l : Launch} {b0 : Nat} {D : va_G} {E : Nat → ClassId} {G : Hp} {a0 : Nat} {a1 : Int32} {a2 : Int32} {GG : Hp} (hd : d_X9_comesToHost a0 a1 a2 G = some GG) : CT l yX9_comesToHost cX9_comesToHost 4 none 1 0 0 b0 D E [rv a0, .int a1, .int a2] G none GG := by
  refine CT_of (by decide +kernel) ?_
  intro p e s m below meth c C hnm hR
  refine r_entry [.inr a0, .inl a1, .inl a2] (n := 4) (Nat.le_of_ble_eq_true rfl) (lv := [(0, .inr a0), (1, .inl a1), (2, .inl a2)]) rfl (fun ls hL => ?_)
  exact k_X9_comesToHost C (lx_sub hL [0, 1, 2] rfl) hR ⟨fun _ _ => rfl, fun _ h => by cases h⟩ hd

/-! GroveWorksModel.answers(I)V -/
theorem dX9_answers_0 : decode cX9_answers 0 = .ok (.iconst 0, 1) := by decide +kernel
theorem dX9_answers_1 : decode cX9_answers 1 = .ok (.istore_n 2, 1) := by decide +kernel
theorem dX9_answers_2 : decode cX9_answers 2 = .ok (.iload_n 2, 1) := by decide +kernel
theorem dX9_answers_3 : decode cX9_answers 3 = .ok (.bipush 8, 2) := by decide +kernel
theorem dX9_answers_5 : decode cX9_answers 5 = .ok (.if_icmp .ge 54, 3) := by decide +kernel
theorem dX9_answers_8 : decode cX9_answers 8 = .ok (.aload_n 0, 1) := by decide +kernel
theorem dX9_answers_9 : decode cX9_answers 9 = .ok (.iload_n 1, 1) := by decide +kernel
theorem dX9_answers_10 : decode cX9_answers 10 = .ok (.iload_n 2, 1) := by decide +kernel
theorem dX9_answers_11 : decode cX9_answers 11 = .ok (.invokevirtual 337, 3) := by decide +kernel
theorem dX9_answers_14 : decode cX9_answers 14 = .ok (.ifCond .eq 39, 3) := by decide +kernel
theorem dX9_answers_17 : decode cX9_answers 17 = .ok (.aload_n 0, 1) := by decide +kernel
theorem dX9_answers_18 : decode cX9_answers 18 = .ok (.getfield 29, 3) := by decide +kernel
theorem dX9_answers_21 : decode cX9_answers 21 = .ok (.iload_n 1, 1) := by decide +kernel
theorem dX9_answers_22 : decode cX9_answers 22 = .ok (.iaload, 1) := by decide +kernel
theorem dX9_answers_23 : decode cX9_answers 23 = .ok (.iload_n 2, 1) := by decide +kernel
theorem dX9_answers_24 : decode cX9_answers 24 = .ok (.ishr, 1) := by decide +kernel
theorem dX9_answers_25 : decode cX9_answers 25 = .ok (.iconst 1, 1) := by decide +kernel
theorem dX9_answers_26 : decode cX9_answers 26 = .ok (.iand, 1) := by decide +kernel
theorem dX9_answers_27 : decode cX9_answers 27 = .ok (.iconst 1, 1) := by decide +kernel
theorem dX9_answers_28 : decode cX9_answers 28 = .ok (.if_icmp .ne 25, 3) := by decide +kernel
theorem dX9_answers_31 : decode cX9_answers 31 = .ok (.aload_n 0, 1) := by decide +kernel
theorem dX9_answers_32 : decode cX9_answers 32 = .ok (.aload_n 0, 1) := by decide +kernel
theorem dX9_answers_33 : decode cX9_answers 33 = .ok (.getfield 20, 3) := by decide +kernel
theorem dX9_answers_36 : decode cX9_answers 36 = .ok (.iload_n 1, 1) := by decide +kernel
theorem dX9_answers_37 : decode cX9_answers 37 = .ok (.iaload, 1) := by decide +kernel
theorem dX9_answers_38 : decode cX9_answers 38 = .ok (.iconst 3, 1) := by decide +kernel
theorem dX9_answers_39 : decode cX9_answers 39 = .ok (.bipush 100, 2) := by decide +kernel
theorem dX9_answers_41 : decode cX9_answers 41 = .ok (.iload_n 1, 1) := by decide +kernel
theorem dX9_answers_42 : decode cX9_answers 42 = .ok (.iadd, 1) := by decide +kernel
theorem dX9_answers_43 : decode cX9_answers 43 = .ok (.iconst (-1), 1) := by decide +kernel
theorem dX9_answers_44 : decode cX9_answers 44 = .ok (.iload_n 2, 1) := by decide +kernel
theorem dX9_answers_45 : decode cX9_answers 45 = .ok (.iconst (-1), 1) := by decide +kernel
theorem dX9_answers_46 : decode cX9_answers 46 = .ok (.iconst 0, 1) := by decide +kernel
theorem dX9_answers_47 : decode cX9_answers 47 = .ok (.iconst 0, 1) := by decide +kernel
theorem dX9_answers_48 : decode cX9_answers 48 = .ok (.iconst 0, 1) := by decide +kernel
theorem dX9_answers_49 : decode cX9_answers 49 = .ok (.invokevirtual 238, 3) := by decide +kernel
theorem dX9_answers_52 : decode cX9_answers 52 = .ok (.pop, 1) := by decide +kernel
theorem dX9_answers_53 : decode cX9_answers 53 = .ok (.iinc 2 1, 3) := by decide +kernel
theorem dX9_answers_56 : decode cX9_answers 56 = .ok (.goto (-54), 3) := by decide +kernel
theorem dX9_answers_59 : decode cX9_answers 59 = .ok (.aload_n 0, 1) := by decide +kernel
theorem dX9_answers_60 : decode cX9_answers 60 = .ok (.getfield 29, 3) := by decide +kernel
theorem dX9_answers_63 : decode cX9_answers 63 = .ok (.iload_n 1, 1) := by decide +kernel
theorem dX9_answers_64 : decode cX9_answers 64 = .ok (.iconst 0, 1) := by decide +kernel
theorem dX9_answers_65 : decode cX9_answers 65 = .ok (.iastore, 1) := by decide +kernel
theorem dX9_answers_66 : decode cX9_answers 66 = .ok (.return_, 1) := by decide +kernel
def d_X9_answers_2 : Nat → Nat → Int32 → Int32 → Hp → Option (Hp)
  | 0, _, _, _, _ => none
  | n_ + 1, x0, x1, x2, G =>
    if 8 ≤ x2 then
      gd (hc G x0 = 10) <|
      gd (hc G ((hr G x0 14)) = 11 ∧ ix x1 (hl G ((hr G x0 14)))) <|
      bd (sI G ((hr G x0 14)) x1.toNatClampNeg 0) fun G4 =>
      some G4
    else
      gd (hc G x0 = 10) <|
      bo (d_X9_isIn x0 x1 x2 G) fun v7 =>
      if v7 = 0 then
        d_X9_answers_2 n_ x0 x1 ((x2 + 1)) G
      else
        gd (hc G ((hr G x0 14)) = 11 ∧ ix x1 (hl G ((hr G x0 14)))) <|
        if ((((((hi G ((hr G x0 14)) x1.toNatClampNeg)) >>> (x2 &&& 31))) &&& 1)) = 1 then
          gd (hc G ((hr G x0 11)) = 11 ∧ ix x1 (hl G ((hr G x0 11)))) <|
          b2 (d_X9_put x0 ((hi G ((hr G x0 11)) x1.toNatClampNeg)) 3 ((100 + x1)) (-1) x2 (-1) 0 0 0 G) fun v13 G14 =>
          d_X9_answers_2 n_ x0 x1 ((x2 + 1)) G14
        else
          d_X9_answers_2 n_ x0 x1 ((x2 + 1)) G
def d_X9_answers (x0 : Nat) (x1 : Int32) (G : Hp) : Option (Hp) :=
  d_X9_answers_2 FU x0 x1 0 G
section
variable {p : Program} {l : Launch} {e : Env} {s : State} {m : MethodId} {args : Array Value} {below : List Frame} {meth : Method} {c : Code} {b0 : Nat} {D : va_G} {E : Nat → ClassId}
set_option maxHeartbeats 4000000 in
set_option maxRecDepth 100000 in
theorem k_X9_answers_2 (C : Cx p s m args meth c RX9 cX9_answers 3 none b0 D E) {GG : Hp} : ∀ (n_ : Nat) {x0 : Nat} {x1 : Int32} {x2 : Int32} {G : Hp} {ls : Array Slot} {H : Heap} {locs : List Loc}, lx ls 3 [(0, .inr x0), (1, .inl x1), (2, .inl x2)] → Rp b0 D E G H → SS b0 s H locs → d_X9_answers_2 n_ x0 x1 x2 G = some GG → W p l e (rmd 1 (0) (0)) s m args below meth c H locs (0) (0) (MQ below (CQ b0 D E none GG) args s (0) (0) (fun q => b0 ≤ q)) (F0 m 2 ls []) := by
  intro n_
  induction n_ with
  | zero =>
    intro x0 x1 x2 G ls H locs hL hR hS hd
    cases (show (none : Option _) = some _ from hd)
  | succ n_ ih =>
    intro x0 x1 x2 G ls H locs hL hR hS hd
    rw [d_X9_answers_2.eq_2] at hd
    have hx := C.1
    have hb := C.2.1
    refine x_iload_n C dX9_answers_2 hL 2 rfl ?_
    refine lv_bipush (v := 8) hx hb dX9_answers_3 (by decide) ?_
    refine lv_icmp_ge (tgt := 59) hx hb dX9_answers_5 (by decide) (fun c1 => ?_) (fun c1 => ?_)
    · rw [if_pos c1] at hd
      refine x_aload_n C dX9_answers_59 hL 0 rfl ?_
      obtain ⟨g2, hd⟩ := gd_ex hd
      refine r_getr (ci := 9) (k := 14) C fl_X9_29 rfl dX9_answers_60 hR g2 ?_
      refine x_iload_n C dX9_answers_63 hL 1 rfl ?_
      refine lv_iconst (v := 0) hx hb dX9_answers_64 (by decide) ?_
      obtain ⟨g3, hd⟩ := gd_ex hd
      obtain ⟨G4, eG4, hd⟩ := bd_ex hd
      refine r_iast C dX9_answers_65 hR hS g3 (fun H locs hR hS => ?_)
      replace hR : Rp b0 D E G4 H := by rw [eG4]; exact hR
      cases hd
      exact r_vret C dX9_answers_66 hR hS
    · rw [if_neg c1] at hd
      refine x_aload_n C dX9_answers_8 hL 0 rfl ?_
      refine x_iload_n C dX9_answers_9 hL 1 rfl ?_
      refine x_iload_n C dX9_answers_10 hL 2 rfl ?_
      obtain ⟨g5, hd⟩ := gd_ex hd
      obtain ⟨v7, h6, hd⟩ := bo_ex hd
      refine r_callV (a := x0) (ci := 9) (As := [.int x1, .int x2]) C (ct_X9_isIn h6) mf_X9_isIn ml_X9_337 mv_X9_isIn rfl ⟨Nat.le_of_ble_eq_true rfl, Nat.le_of_ble_eq_true rfl⟩ dX9_answers_11 (lx_size hL) rfl hR hS g5 ⟨Nat.le_refl _, Nat.le_refl _⟩ (cat_le [] (Nat.le_of_ble_eq_true rfl)) (fun H locs hR hS => ?_)
      refine W_st (st2 := [.int v7]) rfl ?_
      refine lv_if_eq (tgt := 53) hx hb dX9_answers_14 (by decide) (fun c8 => ?_) (fun c8 => ?_)
      · rw [if_pos c8] at hd
        refine x_iinc (lv' := [(2, .inl ((x2 + 1))), (0, .inr x0), (1, .inl x1)]) C dX9_answers_53 hL 2 rfl rfl (by decide) rfl (fun ls hL => ?_)
        refine lv_goto (tgt := 2) hx hb dX9_answers_56 (by decide) ?_
        exact ih (lx_sub hL [1, 2, 0] rfl) hR hS hd
      · rw [if_neg c8] at hd
        refine x_aload_n C dX9_answers_17 hL 0 rfl ?_
        refine r_getr (ci := 9) (k := 14) C fl_X9_29 rfl dX9_answers_18 hR g5 ?_
        refine x_iload_n C dX9_answers_21 hL 1 rfl ?_
        obtain ⟨g9, hd⟩ := gd_ex hd
        refine r_iald C dX9_answers_22 hR g9 ?_
        refine x_iload_n C dX9_answers_23 hL 2 rfl ?_
        refine lv_ishr hx hb dX9_answers_24 ?_
        refine lv_iconst (v := 1) hx hb dX9_answers_25 (by decide) ?_
        refine lv_iand hx hb dX9_answers_26 ?_
        refine lv_iconst (v := 1) hx hb dX9_answers_27 (by decide) ?_
        refine lv_icmp_ne (tgt := 53) hx hb dX9_answers_28 (by decide) (fun c10 => ?_) (fun c10 => ?_)
        · rw [if_neg c10] at hd
          refine x_iinc (lv' := [(2, .inl ((x2 + 1))), (0, .inr x0), (1, .inl x1)]) C dX9_answers_53 hL 2 rfl rfl (by decide) rfl (fun ls hL => ?_)
          refine lv_goto (tgt := 2) hx hb dX9_answers_56 (by decide) ?_
          exact ih (lx_sub hL [1, 2, 0] rfl) hR hS hd
        · rw [if_pos c10] at hd
          refine x_aload_n C dX9_answers_31 hL 0 rfl ?_
          refine x_aload_n C dX9_answers_32 hL 0 rfl ?_
          refine r_getr (ci := 9) (k := 11) C fl_X9_20 rfl dX9_answers_33 hR g5 ?_
          refine x_iload_n C dX9_answers_36 hL 1 rfl ?_
          obtain ⟨g11, hd⟩ := gd_ex hd
          refine r_iald C dX9_answers_37 hR g11 ?_
          refine lv_iconst (v := 3) hx hb dX9_answers_38 (by decide) ?_
          refine lv_bipush (v := 100) hx hb dX9_answers_39 (by decide) ?_
          refine x_iload_n C dX9_answers_41 hL 1 rfl ?_
          refine lv_iadd hx hb dX9_answers_42 ?_
          refine lv_iconst (v := (-1)) hx hb dX9_answers_43 (by decide) ?_
          refine x_iload_n C dX9_answers_44 hL 2 rfl ?_
          refine lv_iconst (v := (-1)) hx hb dX9_answers_45 (by decide) ?_
          refine lv_iconst (v := 0) hx hb dX9_answers_46 (by decide) ?_
          refine lv_iconst (v := 0) hx hb dX9_answers_47 (by decide) ?_
          refine lv_iconst (v := 0) hx hb dX9_answers_48 (by decide) ?_
          obtain ⟨v13, G14, h12, hd⟩ := b2_ex hd
          refine r_callV (a := x0) (ci := 9) (As := [.int ((hi G ((hr G x0 11)) x1.toNatClampNeg)), .int 3, .int ((100 + x1)), .int (-1), .int x2, .int (-1), .int 0, .int 0, .int 0]) C (ct_X9_put h12) mf_X9_put ml_X9_238 mv_X9_put rfl ⟨Nat.le_of_ble_eq_true rfl, Nat.le_of_ble_eq_true rfl⟩ dX9_answers_49 (lx_size hL) rfl hR hS g5 ⟨Nat.le_refl _, Nat.le_refl _⟩ (cat_le [] (Nat.le_of_ble_eq_true rfl)) (fun H locs hR hS => ?_)
          refine W_st (st2 := [.int v13]) rfl ?_
          refine lv_pop hx hb dX9_answers_52 rfl ?_
          refine x_iinc (lv' := [(2, .inl ((x2 + 1))), (0, .inr x0), (1, .inl x1)]) C dX9_answers_53 hL 2 rfl rfl (by decide) rfl (fun ls hL => ?_)
          refine lv_goto (tgt := 2) hx hb dX9_answers_56 (by decide) ?_
          exact ih (lx_sub hL [1, 2, 0] rfl) hR hS hd
set_option maxHeartbeats 4000000 in
set_option maxRecDepth 100000 in
theorem k_X9_answers (C : Cx p s m args meth c RX9 cX9_answers 3 none b0 D E) {GG : Hp} {x0 : Nat} {x1 : Int32} {G : Hp} {ls : Array Slot} {H : Heap} {locs : List Loc} : lx ls 3 [(0, .inr x0), (1, .inl x1)] → Rp b0 D E G H → SS b0 s H locs → d_X9_answers x0 x1 G = some GG → W p l e (rmd 1 (0) (0)) s m args below meth c H locs (0) (0) (MQ below (CQ b0 D E none GG) args s (0) (0) (fun q => b0 ≤ q)) (F0 m 0 ls []) := by
  intro hL hR hS hd
  unfold d_X9_answers at hd
  have hx := C.1
  have hb := C.2.1
  refine lv_iconst (v := 0) hx hb dX9_answers_0 (by decide) ?_
  refine x_istore_n (lv' := [(2, .inl 0), (0, .inr x0), (1, .inl x1)]) C dX9_answers_1 hL (by decide) rfl (fun ls hL => ?_)
  exact k_X9_answers_2 C FU (lx_sub hL [1, 2, 0] rfl) hR hS hd
end
set_option maxHeartbeats 4000000 in
set_option maxRecDepth 100000 in
theorem ct_X9_answers {l : Launch} {b0 : Nat} {D : va_G} {E : Nat → ClassId} {G : Hp} {a0 : Nat} {a1 : Int32} {GG : Hp} (hd : d_X9_answers a0 a1 G = some GG) : CT l yX9_answers cX9_answers 3 none 1 0 0 b0 D E [rv a0, .int a1] G none GG := by
  refine CT_of (by decide +kernel) ?_
  intro p e s m below meth c C hnm hR
  refine r_entry [.inr a0, .inl a1] (n := 3) (Nat.le_of_ble_eq_true rfl) (lv := [(0, .inr a0), (1, .inl a1)]) rfl (fun ls hL => ?_)
  exact k_X9_answers C (lx_sub hL [0, 1] rfl) hR ⟨fun _ _ => rfl, fun _ h => by cases h⟩ hd

/-! GroveWorksModel.got(II)I pure -/
theorem dX9_got_0 : decode cX9_got 0 = .ok (.iload_n 1, 1) := by decide +kernel
theorem dX9_got_1 : decode cX9_got 1 = .ok (.invokestatic 129, 3) := by decide +kernel
theorem dX9_got_4 : decode cX9_got 4 = .ok (.ifCond .eq 30, 3) := by decide +kernel
theorem dX9_got_7 : decode cX9_got 7 = .ok (.iload_n 2, 1) := by decide +kernel
theorem dX9_got_8 : decode cX9_got 8 = .ok (.ifCond .lt 26, 3) := by decide +kernel
theorem dX9_got_11 : decode cX9_got 11 = .ok (.iload_n 2, 1) := by decide +kernel
theorem dX9_got_12 : decode cX9_got 12 = .ok (.aload_n 0, 1) := by decide +kernel
theorem dX9_got_13 : decode cX9_got 13 = .ok (.getfield 340, 3) := by decide +kernel
theorem dX9_got_16 : decode cX9_got 16 = .ok (.if_icmp .ge 18, 3) := by decide +kernel
theorem dX9_got_19 : decode cX9_got 19 = .ok (.aload_n 0, 1) := by decide +kernel
theorem dX9_got_20 : decode cX9_got 20 = .ok (.getfield 32, 3) := by decide +kernel
theorem dX9_got_23 : decode cX9_got 23 = .ok (.sipush 400, 3) := by decide +kernel
theorem dX9_got_26 : decode cX9_got 26 = .ok (.iload_n 1, 1) := by decide +kernel
theorem dX9_got_27 : decode cX9_got 27 = .ok (.imul, 1) := by decide +kernel
theorem dX9_got_28 : decode cX9_got 28 = .ok (.iload_n 2, 1) := by decide +kernel
theorem dX9_got_29 : decode cX9_got 29 = .ok (.iadd, 1) := by decide +kernel
theorem dX9_got_30 : decode cX9_got 30 = .ok (.iaload, 1) := by decide +kernel
theorem dX9_got_31 : decode cX9_got 31 = .ok (.goto 4, 3) := by decide +kernel
theorem dX9_got_34 : decode cX9_got 34 = .ok (.iconst (-1), 1) := by decide +kernel
theorem dX9_got_35 : decode cX9_got 35 = .ok (.ireturn, 1) := by decide +kernel
def d_X9_got (x0 : Nat) (x1 : Int32) (x2 : Int32) (G : Hp) : Option (Int32) :=
  bo (d_X9_isHost x1 G) fun v2 =>
  if v2 = 0 then
    some (-1)
  else
    if x2 < 0 then
      some (-1)
    else
      gd (hc G x0 = 10) <|
      if ((hi G x0 2)) ≤ x2 then
        some (-1)
      else
        gd (hc G ((hr G x0 15)) = 11 ∧ ix ((((400 * x1)) + x2)) (hl G ((hr G x0 15)))) <|
        some ((hi G ((hr G x0 15)) ((((400 * x1)) + x2)).toNatClampNeg))
section
variable {p : Program} {l : Launch} {e : Env} {s : State} {m : MethodId} {args : Array Value} {below : List Frame} {meth : Method} {c : Code} {b0 : Nat} {D : va_G} {E : Nat → ClassId}
set_option maxHeartbeats 4000000 in
set_option maxRecDepth 100000 in
theorem k_X9_got (C : Cx p s m args meth c RX9 cX9_got 3 (some .int) b0 D E) {rr : Int32} {G : Hp} {x0 : Nat} {x1 : Int32} {x2 : Int32} {ls : Array Slot} {H : Heap} {locs : List Loc} : lx ls 3 [(0, .inr x0), (1, .inl x1), (2, .inl x2)] → Rp b0 D E G H → SS b0 s H locs → d_X9_got x0 x1 x2 G = some rr → W p l e (rmd 1 (0) (0)) s m args below meth c H locs (0) (0) (MQ below (CQ b0 D E (some (.int rr)) G) args s (0) (0) (fun q => b0 ≤ q)) (F0 m 0 ls []) := by
  intro hL hR hS hd
  unfold d_X9_got at hd
  have hx := C.1
  have hb := C.2.1
  refine x_iload_n C dX9_got_0 hL 1 rfl ?_
  obtain ⟨v2, h1, hd⟩ := bo_ex hd
  refine r_callS (As := [.int x1]) C (ct_X9_isHost h1) mf_X9_isHost ml_X9_129 ms_X9_isHost rfl ⟨Nat.le_of_ble_eq_true rfl, Nat.le_of_ble_eq_true rfl⟩ dX9_got_1 (lx_size hL) rfl hR hS ⟨Nat.le_refl _, Nat.le_refl _⟩ (cat_le [] (Nat.le_of_ble_eq_true rfl)) (fun H locs hR hS => ?_)
  refine W_st (st2 := [.int v2]) rfl ?_
  refine lv_if_eq (tgt := 34) hx hb dX9_got_4 (by decide) (fun c3 => ?_) (fun c3 => ?_)
  · rw [if_pos c3] at hd
    refine lv_iconst (v := (-1)) hx hb dX9_got_34 (by decide) ?_
    cases hd
    exact r_iret C dX9_got_35 hR hS
  · rw [if_neg c3] at hd
    refine x_iload_n C dX9_got_7 hL 2 rfl ?_
    refine lv_if_lt (tgt := 34) hx hb dX9_got_8 (by decide) (fun c4 => ?_) (fun c4 => ?_)
    · rw [if_pos c4] at hd
      refine lv_iconst (v := (-1)) hx hb dX9_got_34 (by decide) ?_
      cases hd
      exact r_iret C dX9_got_35 hR hS
    · rw [if_neg c4] at hd
      refine x_iload_n C dX9_got_11 hL 2 rfl ?_
      refine x_aload_n C dX9_got_12 hL 0 rfl ?_
      obtain ⟨g5, hd⟩ := gd_ex hd
      refine r_geti (ci := 9) (k := 2) C fl_X9_340 rfl dX9_got_13 hR g5 ?_
      refine lv_icmp_ge (tgt := 34) hx hb dX9_got_16 (by decide) (fun c6 => ?_) (fun c6 => ?_)
      · rw [if_pos c6] at hd
        refine lv_iconst (v := (-1)) hx hb dX9_got_34 (by decide) ?_
        cases hd
        exact r_iret C dX9_got_35 hR hS
      · rw [if_neg c6] at hd
        refine x_aload_n C dX9_got_19 hL 0 rfl ?_
        refine r_getr (ci := 9) (k := 15) C fl_X9_32 rfl dX9_got_20 hR g5 ?_
        refine lv_sipush (v := 400) hx hb dX9_got_23 (by decide) ?_
        refine x_iload_n C dX9_got_26 hL 1 rfl ?_
        refine lv_imul hx hb dX9_got_27 ?_
        refine x_iload_n C dX9_got_28 hL 2 rfl ?_
        refine lv_iadd hx hb dX9_got_29 ?_
        obtain ⟨g7, hd⟩ := gd_ex hd
        refine r_iald C dX9_got_30 hR g7 ?_
        refine lv_goto (tgt := 35) hx hb dX9_got_31 (by decide) ?_
        cases hd
        exact r_iret C dX9_got_35 hR hS
end
set_option maxHeartbeats 4000000 in
set_option maxRecDepth 100000 in
theorem ct_X9_got {l : Launch} {b0 : Nat} {D : va_G} {E : Nat → ClassId} {G : Hp} {a0 : Nat} {a1 : Int32} {a2 : Int32} {rr : Int32} (hd : d_X9_got a0 a1 a2 G = some rr) : CT l yX9_got cX9_got 3 (some .int) 1 0 0 b0 D E [rv a0, .int a1, .int a2] G (some (.int rr)) G := by
  refine CT_of (by decide +kernel) ?_
  intro p e s m below meth c C hnm hR
  refine r_entry [.inr a0, .inl a1, .inl a2] (n := 3) (Nat.le_of_ble_eq_true rfl) (lv := [(0, .inr a0), (1, .inl a1), (2, .inl a2)]) rfl (fun ls hL => ?_)
  exact k_X9_got C (lx_sub hL [0, 1, 2] rfl) hR ⟨fun _ _ => rfl, fun _ h => by cases h⟩ hd

/-! GroveWorksModel.deliver(II)V -/
theorem dX9_deliver_0 : decode cX9_deliver 0 = .ok (.iconst 0, 1) := by decide +kernel
theorem dX9_deliver_1 : decode cX9_deliver 1 = .ok (.istore_n 3, 1) := by decide +kernel
theorem dX9_deliver_2 : decode cX9_deliver 2 = .ok (.iload_n 3, 1) := by decide +kernel
theorem dX9_deliver_3 : decode cX9_deliver 3 = .ok (.aload_n 0, 1) := by decide +kernel
theorem dX9_deliver_4 : decode cX9_deliver 4 = .ok (.getfield 108, 3) := by decide +kernel
theorem dX9_deliver_7 : decode cX9_deliver 7 = .ok (.if_icmp .ge 43, 3) := by decide +kernel
theorem dX9_deliver_10 : decode cX9_deliver 10 = .ok (.aload_n 0, 1) := by decide +kernel
theorem dX9_deliver_11 : decode cX9_deliver 11 = .ok (.iload_n 3, 1) := by decide +kernel
theorem dX9_deliver_12 : decode cX9_deliver 12 = .ok (.iload_n 1, 1) := by decide +kernel
theorem dX9_deliver_13 : decode cX9_deliver 13 = .ok (.invokevirtual 125, 3) := by decide +kernel
theorem dX9_deliver_16 : decode cX9_deliver 16 = .ok (.istore 4, 2) := by decide +kernel
theorem dX9_deliver_18 : decode cX9_deliver 18 = .ok (.iload 4, 2) := by decide +kernel
theorem dX9_deliver_20 : decode cX9_deliver 20 = .ok (.iconst (-1), 1) := by decide +kernel
theorem dX9_deliver_21 : decode cX9_deliver 21 = .ok (.if_icmp .eq 23, 3) := by decide +kernel
theorem dX9_deliver_24 : decode cX9_deliver 24 = .ok (.aload_n 0, 1) := by decide +kernel
theorem dX9_deliver_25 : decode cX9_deliver 25 = .ok (.getfield 47, 3) := by decide +kernel
theorem dX9_deliver_28 : decode cX9_deliver 28 = .ok (.iload_n 2, 1) := by decide +kernel
theorem dX9_deliver_29 : decode cX9_deliver 29 = .ok (.iconst 1, 1) := by decide +kernel
theorem dX9_deliver_30 : decode cX9_deliver 30 = .ok (.iadd, 1) := by decide +kernel
theorem dX9_deliver_31 : decode cX9_deliver 31 = .ok (.iaload, 1) := by decide +kernel
theorem dX9_deliver_32 : decode cX9_deliver 32 = .ok (.iload_n 3, 1) := by decide +kernel
theorem dX9_deliver_33 : decode cX9_deliver 33 = .ok (.if_icmp .eq 11, 3) := by decide +kernel
theorem dX9_deliver_36 : decode cX9_deliver 36 = .ok (.aload_n 0, 1) := by decide +kernel
theorem dX9_deliver_37 : decode cX9_deliver 37 = .ok (.iload_n 3, 1) := by decide +kernel
theorem dX9_deliver_38 : decode cX9_deliver 38 = .ok (.iload 4, 2) := by decide +kernel
theorem dX9_deliver_40 : decode cX9_deliver 40 = .ok (.iload_n 2, 1) := by decide +kernel
theorem dX9_deliver_41 : decode cX9_deliver 41 = .ok (.invokevirtual 353, 3) := by decide +kernel
theorem dX9_deliver_44 : decode cX9_deliver 44 = .ok (.iinc 3 1, 3) := by decide +kernel
theorem dX9_deliver_47 : decode cX9_deliver 47 = .ok (.goto (-45), 3) := by decide +kernel
theorem dX9_deliver_50 : decode cX9_deliver 50 = .ok (.iconst 0, 1) := by decide +kernel
theorem dX9_deliver_51 : decode cX9_deliver 51 = .ok (.istore_n 3, 1) := by decide +kernel
theorem dX9_deliver_52 : decode cX9_deliver 52 = .ok (.iload_n 3, 1) := by decide +kernel
theorem dX9_deliver_53 : decode cX9_deliver 53 = .ok (.bipush 16, 2) := by decide +kernel
theorem dX9_deliver_55 : decode cX9_deliver 55 = .ok (.if_icmp .ge 40, 3) := by decide +kernel
theorem dX9_deliver_58 : decode cX9_deliver 58 = .ok (.aload_n 0, 1) := by decide +kernel
theorem dX9_deliver_59 : decode cX9_deliver 59 = .ok (.getfield 20, 3) := by decide +kernel
theorem dX9_deliver_62 : decode cX9_deliver 62 = .ok (.iload_n 3, 1) := by decide +kernel
theorem dX9_deliver_63 : decode cX9_deliver 63 = .ok (.iaload, 1) := by decide +kernel
theorem dX9_deliver_64 : decode cX9_deliver 64 = .ok (.iload_n 1, 1) := by decide +kernel
theorem dX9_deliver_65 : decode cX9_deliver 65 = .ok (.if_icmp .ne 24, 3) := by decide +kernel
theorem dX9_deliver_68 : decode cX9_deliver 68 = .ok (.aload_n 0, 1) := by decide +kernel
theorem dX9_deliver_69 : decode cX9_deliver 69 = .ok (.getfield 47, 3) := by decide +kernel
theorem dX9_deliver_72 : decode cX9_deliver 72 = .ok (.iload_n 2, 1) := by decide +kernel
theorem dX9_deliver_73 : decode cX9_deliver 73 = .ok (.iconst 1, 1) := by decide +kernel
theorem dX9_deliver_74 : decode cX9_deliver 74 = .ok (.iadd, 1) := by decide +kernel
theorem dX9_deliver_75 : decode cX9_deliver 75 = .ok (.iaload, 1) := by decide +kernel
theorem dX9_deliver_76 : decode cX9_deliver 76 = .ok (.bipush 100, 2) := by decide +kernel
theorem dX9_deliver_78 : decode cX9_deliver 78 = .ok (.iload_n 3, 1) := by decide +kernel
theorem dX9_deliver_79 : decode cX9_deliver 79 = .ok (.iadd, 1) := by decide +kernel
theorem dX9_deliver_80 : decode cX9_deliver 80 = .ok (.if_icmp .eq 9, 3) := by decide +kernel
theorem dX9_deliver_83 : decode cX9_deliver 83 = .ok (.aload_n 0, 1) := by decide +kernel
theorem dX9_deliver_84 : decode cX9_deliver 84 = .ok (.iload_n 3, 1) := by decide +kernel
theorem dX9_deliver_85 : decode cX9_deliver 85 = .ok (.iload_n 2, 1) := by decide +kernel
theorem dX9_deliver_86 : decode cX9_deliver 86 = .ok (.invokevirtual 356, 3) := by decide +kernel
theorem dX9_deliver_89 : decode cX9_deliver 89 = .ok (.iinc 3 1, 3) := by decide +kernel
theorem dX9_deliver_92 : decode cX9_deliver 92 = .ok (.goto (-40), 3) := by decide +kernel
theorem dX9_deliver_95 : decode cX9_deliver 95 = .ok (.return_, 1) := by decide +kernel
def d_X9_deliver_52 : Nat → Nat → Int32 → Int32 → Int32 → Hp → Option (Hp)
  | 0, _, _, _, _, _ => none
  | n_ + 1, x0, x1, x2, x3, G =>
    if 16 ≤ x3 then
      some G
    else
      gd (hc G x0 = 10) <|
      gd (hc G ((hr G x0 11)) = 11 ∧ ix x3 (hl G ((hr G x0 11)))) <|
      if ((hi G ((hr G x0 11)) x3.toNatClampNeg)) = x1 then
        gd (hc G ((hr G x0 20)) = 11 ∧ ix ((x2 + 1)) (hl G ((hr G x0 20)))) <|
        if ((hi G ((hr G x0 20)) ((x2 + 1)).toNatClampNeg)) = ((100 + x3)) then
          d_X9_deliver_52 n_ x0 x1 x2 ((x3 + 1)) G
        else
          bo (d_X9_comesToHost x0 x3 x2 G) fun G8 =>
          d_X9_deliver_52 n_ x0 x1 x2 ((x3 + 1)) G8
      else
        d_X9_deliver_52 n_ x0 x1 x2 ((x3 + 1)) G
def d_X9_deliver_2 : Nat → Nat → Int32 → Int32 → Int32 → Hp → Option (Hp)
  | 0, _, _, _, _, _ => none
  | n_ + 1, x0, x1, x2, x3, G =>
    gd (hc G x0 = 10) <|
    if ((hi G x0 1)) ≤ x3 then
      d_X9_deliver_52 FU x0 x1 x2 0 G
    else
      bo (d_X9_portOn x0 x3 x1 G) fun v4 =>
      if v4 = (-1) then
        d_X9_deliver_2 n_ x0 x1 x2 ((x3 + 1)) G
      else
        gd (hc G ((hr G x0 20)) = 11 ∧ ix ((x2 + 1)) (hl G ((hr G x0 20)))) <|
        if ((hi G ((hr G x0 20)) ((x2 + 1)).toNatClampNeg)) = x3 then
          d_X9_deliver_2 n_ x0 x1 x2 ((x3 + 1)) G
        else
          bo (d_X9_comes x0 x3 v4 x2 G) fun G9 =>
          d_X9_deliver_2 n_ x0 x1 x2 ((x3 + 1)) G9
def d_X9_deliver (x0 : Nat) (x1 : Int32) (x2 : Int32) (G : Hp) : Option (Hp) :=
  d_X9_deliver_2 FU x0 x1 x2 0 G
section
variable {p : Program} {l : Launch} {e : Env} {s : State} {m : MethodId} {args : Array Value} {below : List Frame} {meth : Method} {c : Code} {b0 : Nat} {D : va_G} {E : Nat → ClassId}
set_option maxHeartbeats 4000000 in
set_option maxRecDepth 100000 in
theorem k_X9_deliver_52 (C : Cx p s m args meth c RX9 cX9_deliver 5 none b0 D E) {GG : Hp} : ∀ (n_ : Nat) {x0 : Nat} {x1 : Int32} {x2 : Int32} {x3 : Int32} {G : Hp} {ls : Array Slot} {H : Heap} {locs : List Loc}, lx ls 5 [(0, .inr x0), (1, .inl x1), (2, .inl x2), (3, .inl x3)] → Rp b0 D E G H → SS b0 s H locs → d_X9_deliver_52 n_ x0 x1 x2 x3 G = some GG → W p l e (rmd 13 (0) (0)) s m args below meth c H locs (0) (0) (MQ below (CQ b0 D E none GG) args s (0) (0) (fun q => b0 ≤ q)) (F0 m 52 ls []) := by
  intro n_
  induction n_ with
  | zero =>
    intro x0 x1 x2 x3 G ls H locs hL hR hS hd
    cases (show (none : Option _) = some _ from hd)
  | succ n_ ih =>
    intro x0 x1 x2 x3 G ls H locs hL hR hS hd
    rw [d_X9_deliver_52.eq_2] at hd
    have hx := C.1
    have hb := C.2.1
    refine x_iload_n C dX9_deliver_52 hL 3 rfl ?_
    refine lv_bipush (v := 16) hx hb dX9_deliver_53 (by decide) ?_
    refine lv_icmp_ge (tgt := 95) hx hb dX9_deliver_55 (by decide) (fun c1 => ?_) (fun c1 => ?_)
    · rw [if_pos c1] at hd
      cases hd
      exact r_vret C dX9_deliver_95 hR hS
    · rw [if_neg c1] at hd
      refine x_aload_n C dX9_deliver_58 hL 0 rfl ?_
      obtain ⟨g2, hd⟩ := gd_ex hd
      refine r_getr (ci := 9) (k := 11) C fl_X9_20 rfl dX9_deliver_59 hR g2 ?_
      refine x_iload_n C dX9_deliver_62 hL 3 rfl ?_
      obtain ⟨g3, hd⟩ := gd_ex hd
      refine r_iald C dX9_deliver_63 hR g3 ?_
      refine x_iload_n C dX9_deliver_64 hL 1 rfl ?_
      refine lv_icmp_ne (tgt := 89) hx hb dX9_deliver_65 (by decide) (fun c4 => ?_) (fun c4 => ?_)
      · rw [if_neg c4] at hd
        refine x_iinc (lv' := [(3, .inl ((x3 + 1))), (0, .inr x0), (1, .inl x1), (2, .inl x2)]) C dX9_deliver_89 hL 3 rfl rfl (by decide) rfl (fun ls hL => ?_)
        refine lv_goto (tgt := 52) hx hb dX9_deliver_92 (by decide) ?_
        exact ih (lx_sub hL [1, 2, 3, 0] rfl) hR hS hd
      · rw [if_pos c4] at hd
        refine x_aload_n C dX9_deliver_68 hL 0 rfl ?_
        refine r_getr (ci := 9) (k := 20) C fl_X9_47 rfl dX9_deliver_69 hR g2 ?_
        refine x_iload_n C dX9_deliver_72 hL 2 rfl ?_
        refine lv_iconst (v := 1) hx hb dX9_deliver_73 (by decide) ?_
        refine lv_iadd hx hb dX9_deliver_74 ?_
        obtain ⟨g5, hd⟩ := gd_ex hd
        refine r_iald C dX9_deliver_75 hR g5 ?_
        refine lv_bipush (v := 100) hx hb dX9_deliver_76 (by decide) ?_
        refine x_iload_n C dX9_deliver_78 hL 3 rfl ?_
        refine lv_iadd hx hb dX9_deliver_79 ?_
        refine lv_icmp_eq (tgt := 89) hx hb dX9_deliver_80 (by decide) (fun c6 => ?_) (fun c6 => ?_)
        · rw [if_pos c6] at hd
          refine x_iinc (lv' := [(3, .inl ((x3 + 1))), (0, .inr x0), (1, .inl x1), (2, .inl x2)]) C dX9_deliver_89 hL 3 rfl rfl (by decide) rfl (fun ls hL => ?_)
          refine lv_goto (tgt := 52) hx hb dX9_deliver_92 (by decide) ?_
          exact ih (lx_sub hL [1, 2, 3, 0] rfl) hR hS hd
        · rw [if_neg c6] at hd
          refine x_aload_n C dX9_deliver_83 hL 0 rfl ?_
          refine x_iload_n C dX9_deliver_84 hL 3 rfl ?_
          refine x_iload_n C dX9_deliver_85 hL 2 rfl ?_
          obtain ⟨G8, h7, hd⟩ := bo_ex hd
          refine r_callV (a := x0) (ci := 9) (As := [.int x3, .int x2]) C (ct_X9_comesToHost h7) mf_X9_comesToHost ml_X9_356 mv_X9_comesToHost rfl ⟨Nat.le_of_ble_eq_true rfl, Nat.le_of_ble_eq_true rfl⟩ dX9_deliver_86 (lx_size hL) rfl hR hS g2 ⟨Nat.le_refl _, Nat.le_refl _⟩ (cat_le [] (Nat.le_of_ble_eq_true rfl)) (fun H locs hR hS => ?_)
          refine W_st (st2 := []) rfl ?_
          refine x_iinc (lv' := [(3, .inl ((x3 + 1))), (0, .inr x0), (1, .inl x1), (2, .inl x2)]) C dX9_deliver_89 hL 3 rfl rfl (by decide) rfl (fun ls hL => ?_)
          refine lv_goto (tgt := 52) hx hb dX9_deliver_92 (by decide) ?_
          exact ih (lx_sub hL [1, 2, 3, 0] rfl) hR hS hd
set_option maxHeartbeats 4000000 in
set_option maxRecDepth 100000 in
theorem k_X9_deliver_2 (C : Cx p s m args meth c RX9 cX9_deliver 5 none b0 D E) {GG : Hp} : ∀ (n_ : Nat) {x0 : Nat} {x1 : Int32} {x2 : Int32} {x3 : Int32} {G : Hp} {ls : Array Slot} {H : Heap} {locs : List Loc}, lx ls 5 [(0, .inr x0), (1, .inl x1), (2, .inl x2), (3, .inl x3)] → Rp b0 D E G H → SS b0 s H locs → d_X9_deliver_2 n_ x0 x1 x2 x3 G = some GG → W p l e (rmd 13 (0) (0)) s m args below meth c H locs (0) (0) (MQ below (CQ b0 D E none GG) args s (0) (0) (fun q => b0 ≤ q)) (F0 m 2 ls []) := by
  intro n_
  induction n_ with
  | zero =>
    intro x0 x1 x2 x3 G ls H locs hL hR hS hd
    cases (show (none : Option _) = some _ from hd)
  | succ n_ ih =>
    intro x0 x1 x2 x3 G ls H locs hL hR hS hd
    rw [d_X9_deliver_2.eq_2] at hd
    have hx := C.1
    have hb := C.2.1
    refine x_iload_n C dX9_deliver_2 hL 3 rfl ?_
    refine x_aload_n C dX9_deliver_3 hL 0 rfl ?_
    obtain ⟨g1, hd⟩ := gd_ex hd
    refine r_geti (ci := 9) (k := 1) C fl_X9_108 rfl dX9_deliver_4 hR g1 ?_
    refine lv_icmp_ge (tgt := 50) hx hb dX9_deliver_7 (by decide) (fun c2 => ?_) (fun c2 => ?_)
    · rw [if_pos c2] at hd
      refine lv_iconst (v := 0) hx hb dX9_deliver_50 (by decide) ?_
      refine x_istore_n (lv' := [(3, .inl 0), (0, .inr x0), (1, .inl x1), (2, .inl x2)]) C dX9_deliver_51 hL (by decide) rfl (fun ls hL => ?_)
      exact k_X9_deliver_52 C FU (lx_sub hL [1, 2, 3, 0] rfl) hR hS hd
    · rw [if_neg c2] at hd
      refine x_aload_n C dX9_deliver_10 hL 0 rfl ?_
      refine x_iload_n C dX9_deliver_11 hL 3 rfl ?_
      refine x_iload_n C dX9_deliver_12 hL 1 rfl ?_
      obtain ⟨v4, h3, hd⟩ := bo_ex hd
      refine r_callV (a := x0) (ci := 9) (As := [.int x3, .int x1]) C (ct_X9_portOn h3) mf_X9_portOn ml_X9_125 mv_X9_portOn rfl ⟨Nat.le_of_ble_eq_true rfl, Nat.le_of_ble_eq_true rfl⟩ dX9_deliver_13 (lx_size hL) rfl hR hS g1 ⟨Nat.le_refl _, Nat.le_refl _⟩ (cat_le [] (Nat.le_of_ble_eq_true rfl)) (fun H locs hR hS => ?_)
      refine W_st (st2 := [.int v4]) rfl ?_
      refine x_istore (lv' := [(4, .inl v4), (0, .inr x0), (1, .inl x1), (2, .inl x2), (3, .inl x3)]) C dX9_deliver_16 hL (by decide) rfl (fun ls hL => ?_)
      refine x_iload C dX9_deliver_18 hL 0 rfl ?_
      refine lv_iconst (v := (-1)) hx hb dX9_deliver_20 (by decide) ?_
      refine lv_icmp_eq (tgt := 44) hx hb dX9_deliver_21 (by decide) (fun c5 => ?_) (fun c5 => ?_)
      · rw [if_pos c5] at hd
        refine x_iinc (lv' := [(3, .inl ((x3 + 1))), (4, .inl v4), (0, .inr x0), (1, .inl x1), (2, .inl x2)]) C dX9_deliver_44 hL 4 rfl rfl (by decide) rfl (fun ls hL => ?_)
        refine lv_goto (tgt := 2) hx hb dX9_deliver_47 (by decide) ?_
        exact ih (lx_sub hL [2, 3, 4, 0] rfl) hR hS hd
      · rw [if_neg c5] at hd
        refine x_aload_n C dX9_deliver_24 hL 1 rfl ?_
        refine r_getr (ci := 9) (k := 20) C fl_X9_47 rfl dX9_deliver_25 hR g1 ?_
        refine x_iload_n C dX9_deliver_28 hL 3 rfl ?_
        refine lv_iconst (v := 1) hx hb dX9_deliver_29 (by decide) ?_
        refine lv_iadd hx hb dX9_deliver_30 ?_
        obtain ⟨g6, hd⟩ := gd_ex hd
        refine r_iald C dX9_deliver_31 hR g6 ?_
        refine x_iload_n C dX9_deliver_32 hL 4 rfl ?_
        refine lv_icmp_eq (tgt := 44) hx hb dX9_deliver_33 (by decide) (fun c7 => ?_) (fun c7 => ?_)
        · rw [if_pos c7] at hd
          refine x_iinc (lv' := [(3, .inl ((x3 + 1))), (4, .inl v4), (0, .inr x0), (1, .inl x1), (2, .inl x2)]) C dX9_deliver_44 hL 4 rfl rfl (by decide) rfl (fun ls hL => ?_)
          refine lv_goto (tgt := 2) hx hb dX9_deliver_47 (by decide) ?_
          exact ih (lx_sub hL [2, 3, 4, 0] rfl) hR hS hd
        · rw [if_neg c7] at hd
          refine x_aload_n C dX9_deliver_36 hL 1 rfl ?_
          refine x_iload_n C dX9_deliver_37 hL 4 rfl ?_
          refine x_iload C dX9_deliver_38 hL 0 rfl ?_
          refine x_iload_n C dX9_deliver_40 hL 3 rfl ?_
          obtain ⟨G9, h8, hd⟩ := bo_ex hd
          refine r_callV (a := x0) (ci := 9) (As := [.int x3, .int v4, .int x2]) C (ct_X9_comes h8) mf_X9_comes ml_X9_353 mv_X9_comes rfl ⟨Nat.le_of_ble_eq_true rfl, Nat.le_of_ble_eq_true rfl⟩ dX9_deliver_41 (lx_size hL) rfl hR hS g1 ⟨Nat.le_refl _, Nat.le_refl _⟩ (cat_le [] (Nat.le_of_ble_eq_true rfl)) (fun H locs hR hS => ?_)
          refine W_st (st2 := []) rfl ?_
          refine x_iinc (lv' := [(3, .inl ((x3 + 1))), (4, .inl v4), (0, .inr x0), (1, .inl x1), (2, .inl x2)]) C dX9_deliver_44 hL 4 rfl rfl (by decide) rfl (fun ls hL => ?_)
          refine lv_goto (tgt := 2) hx hb dX9_deliver_47 (by decide) ?_
          exact ih (lx_sub hL [2, 3, 4, 0] rfl) hR hS hd
set_option maxHeartbeats 4000000 in
set_option maxRecDepth 100000 in
theorem k_X9_deliver (C : Cx p s m args meth c RX9 cX9_deliver 5 none b0 D E) {GG : Hp} {x0 : Nat} {x1 : Int32} {x2 : Int32} {G : Hp} {ls : Array Slot} {H : Heap} {locs : List Loc} : lx ls 5 [(0, .inr x0), (1, .inl x1), (2, .inl x2)] → Rp b0 D E G H → SS b0 s H locs → d_X9_deliver x0 x1 x2 G = some GG → W p l e (rmd 13 (0) (0)) s m args below meth c H locs (0) (0) (MQ below (CQ b0 D E none GG) args s (0) (0) (fun q => b0 ≤ q)) (F0 m 0 ls []) := by
  intro hL hR hS hd
  unfold d_X9_deliver at hd
  have hx := C.1
  have hb := C.2.1
  refine lv_iconst (v := 0) hx hb dX9_deliver_0 (by decide) ?_
  refine x_istore_n (lv' := [(3, .inl 0), (0, .inr x0), (1, .inl x1), (2, .inl x2)]) C dX9_deliver_1 hL (by decide) rfl (fun ls hL => ?_)
  exact k_X9_deliver_2 C FU (lx_sub hL [1, 2, 3, 0] rfl) hR hS hd
end
set_option maxHeartbeats 4000000 in
set_option maxRecDepth 100000 in
theorem ct_X9_deliver {l : Launch} {b0 : Nat} {D : va_G} {E : Nat → ClassId} {G : Hp} {a0 : Nat} {a1 : Int32} {a2 : Int32} {GG : Hp} (hd : d_X9_deliver a0 a1 a2 G = some GG) : CT l yX9_deliver cX9_deliver 5 none 13 0 0 b0 D E [rv a0, .int a1, .int a2] G none GG := by
  refine CT_of (by decide +kernel) ?_
  intro p e s m below meth c C hnm hR
  refine r_entry [.inr a0, .inl a1, .inl a2] (n := 5) (Nat.le_of_ble_eq_true rfl) (lv := [(0, .inr a0), (1, .inl a1), (2, .inl a2)]) rfl (fun ls hL => ?_)
  exact k_X9_deliver C (lx_sub hL [0, 1, 2] rfl) hR ⟨fun _ _ => rfl, fun _ h => by cases h⟩ hd

/-! GroveWorksModel.one()V -/
theorem dX9_one_0 : decode cX9_one 0 = .ok (.aload_n 0, 1) := by decide +kernel
theorem dX9_one_1 : decode cX9_one 1 = .ok (.dup, 1) := by decide +kernel
theorem dX9_one_2 : decode cX9_one 2 = .ok (.getfield 122, 3) := by decide +kernel
theorem dX9_one_5 : decode cX9_one 5 = .ok (.iconst 1, 1) := by decide +kernel
theorem dX9_one_6 : decode cX9_one 6 = .ok (.iadd, 1) := by decide +kernel
theorem dX9_one_7 : decode cX9_one 7 = .ok (.putfield 122, 3) := by decide +kernel
theorem dX9_one_10 : decode cX9_one 10 = .ok (.iconst 0, 1) := by decide +kernel
theorem dX9_one_11 : decode cX9_one 11 = .ok (.istore_n 1, 1) := by decide +kernel
theorem dX9_one_12 : decode cX9_one 12 = .ok (.iload_n 1, 1) := by decide +kernel
theorem dX9_one_13 : decode cX9_one 13 = .ok (.sipush 5120, 3) := by decide +kernel
theorem dX9_one_16 : decode cX9_one 16 = .ok (.if_icmp .ge 21, 3) := by decide +kernel
theorem dX9_one_19 : decode cX9_one 19 = .ok (.aload_n 0, 1) := by decide +kernel
theorem dX9_one_20 : decode cX9_one 20 = .ok (.getfield 47, 3) := by decide +kernel
theorem dX9_one_23 : decode cX9_one 23 = .ok (.iload_n 1, 1) := by decide +kernel
theorem dX9_one_24 : decode cX9_one 24 = .ok (.aload_n 0, 1) := by decide +kernel
theorem dX9_one_25 : decode cX9_one 25 = .ok (.getfield 41, 3) := by decide +kernel
theorem dX9_one_28 : decode cX9_one 28 = .ok (.iload_n 1, 1) := by decide +kernel
theorem dX9_one_29 : decode cX9_one 29 = .ok (.iaload, 1) := by decide +kernel
theorem dX9_one_30 : decode cX9_one 30 = .ok (.iastore, 1) := by decide +kernel
theorem dX9_one_31 : decode cX9_one 31 = .ok (.iinc 1 1, 3) := by decide +kernel
theorem dX9_one_34 : decode cX9_one 34 = .ok (.goto (-22), 3) := by decide +kernel
theorem dX9_one_37 : decode cX9_one 37 = .ok (.iconst 0, 1) := by decide +kernel
theorem dX9_one_38 : decode cX9_one 38 = .ok (.istore_n 1, 1) := by decide +kernel
theorem dX9_one_39 : decode cX9_one 39 = .ok (.iload_n 1, 1) := by decide +kernel
theorem dX9_one_40 : decode cX9_one 40 = .ok (.bipush 16, 2) := by decide +kernel
theorem dX9_one_42 : decode cX9_one 42 = .ok (.if_icmp .ge 35, 3) := by decide +kernel
theorem dX9_one_45 : decode cX9_one 45 = .ok (.aload_n 0, 1) := by decide +kernel
theorem dX9_one_46 : decode cX9_one 46 = .ok (.getfield 44, 3) := by decide +kernel
theorem dX9_one_49 : decode cX9_one 49 = .ok (.iload_n 1, 1) := by decide +kernel
theorem dX9_one_50 : decode cX9_one 50 = .ok (.aload_n 0, 1) := by decide +kernel
theorem dX9_one_51 : decode cX9_one 51 = .ok (.getfield 35, 3) := by decide +kernel
theorem dX9_one_54 : decode cX9_one 54 = .ok (.iload_n 1, 1) := by decide +kernel
theorem dX9_one_55 : decode cX9_one 55 = .ok (.iaload, 1) := by decide +kernel
theorem dX9_one_56 : decode cX9_one 56 = .ok (.iastore, 1) := by decide +kernel
theorem dX9_one_57 : decode cX9_one 57 = .ok (.aload_n 0, 1) := by decide +kernel
theorem dX9_one_58 : decode cX9_one 58 = .ok (.getfield 35, 3) := by decide +kernel
theorem dX9_one_61 : decode cX9_one 61 = .ok (.iload_n 1, 1) := by decide +kernel
theorem dX9_one_62 : decode cX9_one 62 = .ok (.iconst 0, 1) := by decide +kernel
theorem dX9_one_63 : decode cX9_one 63 = .ok (.iastore, 1) := by decide +kernel
theorem dX9_one_64 : decode cX9_one 64 = .ok (.aload_n 0, 1) := by decide +kernel
theorem dX9_one_65 : decode cX9_one 65 = .ok (.getfield 38, 3) := by decide +kernel
theorem dX9_one_68 : decode cX9_one 68 = .ok (.iload_n 1, 1) := by decide +kernel
theorem dX9_one_69 : decode cX9_one 69 = .ok (.iconst 0, 1) := by decide +kernel
theorem dX9_one_70 : decode cX9_one 70 = .ok (.iastore, 1) := by decide +kernel
theorem dX9_one_71 : decode cX9_one 71 = .ok (.iinc 1 1, 3) := by decide +kernel
theorem dX9_one_74 : decode cX9_one 74 = .ok (.goto (-35), 3) := by decide +kernel
theorem dX9_one_77 : decode cX9_one 77 = .ok (.iconst 0, 1) := by decide +kernel
theorem dX9_one_78 : decode cX9_one 78 = .ok (.istore_n 1, 1) := by decide +kernel
theorem dX9_one_79 : decode cX9_one 79 = .ok (.iload_n 1, 1) := by decide +kernel
theorem dX9_one_80 : decode cX9_one 80 = .ok (.bipush 16, 2) := by decide +kernel
theorem dX9_one_82 : decode cX9_one 82 = .ok (.if_icmp .ge 41, 3) := by decide +kernel
theorem dX9_one_85 : decode cX9_one 85 = .ok (.iconst 0, 1) := by decide +kernel
theorem dX9_one_86 : decode cX9_one 86 = .ok (.istore_n 2, 1) := by decide +kernel
theorem dX9_one_87 : decode cX9_one 87 = .ok (.iload_n 2, 1) := by decide +kernel
theorem dX9_one_88 : decode cX9_one 88 = .ok (.aload_n 0, 1) := by decide +kernel
theorem dX9_one_89 : decode cX9_one 89 = .ok (.getfield 44, 3) := by decide +kernel
theorem dX9_one_92 : decode cX9_one 92 = .ok (.iload_n 1, 1) := by decide +kernel
theorem dX9_one_93 : decode cX9_one 93 = .ok (.iaload, 1) := by decide +kernel
theorem dX9_one_94 : decode cX9_one 94 = .ok (.if_icmp .ge 23, 3) := by decide +kernel
theorem dX9_one_97 : decode cX9_one 97 = .ok (.aload_n 0, 1) := by decide +kernel
theorem dX9_one_98 : decode cX9_one 98 = .ok (.iload_n 1, 1) := by decide +kernel
theorem dX9_one_99 : decode cX9_one 99 = .ok (.bipush 8, 2) := by decide +kernel
theorem dX9_one_101 : decode cX9_one 101 = .ok (.bipush 40, 2) := by decide +kernel
theorem dX9_one_103 : decode cX9_one 103 = .ok (.iload_n 1, 1) := by decide +kernel
theorem dX9_one_104 : decode cX9_one 104 = .ok (.imul, 1) := by decide +kernel
theorem dX9_one_105 : decode cX9_one 105 = .ok (.iload_n 2, 1) := by decide +kernel
theorem dX9_one_106 : decode cX9_one 106 = .ok (.iadd, 1) := by decide +kernel
theorem dX9_one_107 : decode cX9_one 107 = .ok (.imul, 1) := by decide +kernel
theorem dX9_one_108 : decode cX9_one 108 = .ok (.invokevirtual 343, 3) := by decide +kernel
theorem dX9_one_111 : decode cX9_one 111 = .ok (.iinc 2 1, 3) := by decide +kernel
theorem dX9_one_114 : decode cX9_one 114 = .ok (.goto (-27), 3) := by decide +kernel
theorem dX9_one_117 : decode cX9_one 117 = .ok (.iinc 1 1, 3) := by decide +kernel
theorem dX9_one_120 : decode cX9_one 120 = .ok (.goto (-41), 3) := by decide +kernel
theorem dX9_one_123 : decode cX9_one 123 = .ok (.iconst 0, 1) := by decide +kernel
theorem dX9_one_124 : decode cX9_one 124 = .ok (.istore_n 1, 1) := by decide +kernel
theorem dX9_one_125 : decode cX9_one 125 = .ok (.iload_n 1, 1) := by decide +kernel
theorem dX9_one_126 : decode cX9_one 126 = .ok (.aload_n 0, 1) := by decide +kernel
theorem dX9_one_127 : decode cX9_one 127 = .ok (.getfield 108, 3) := by decide +kernel
theorem dX9_one_130 : decode cX9_one 130 = .ok (.if_icmp .ge 14, 3) := by decide +kernel
theorem dX9_one_133 : decode cX9_one 133 = .ok (.aload_n 0, 1) := by decide +kernel
theorem dX9_one_134 : decode cX9_one 134 = .ok (.iload_n 1, 1) := by decide +kernel
theorem dX9_one_135 : decode cX9_one 135 = .ok (.invokevirtual 346, 3) := by decide +kernel
theorem dX9_one_138 : decode cX9_one 138 = .ok (.iinc 1 1, 3) := by decide +kernel
theorem dX9_one_141 : decode cX9_one 141 = .ok (.goto (-16), 3) := by decide +kernel
theorem dX9_one_144 : decode cX9_one 144 = .ok (.iconst 0, 1) := by decide +kernel
theorem dX9_one_145 : decode cX9_one 145 = .ok (.istore_n 1, 1) := by decide +kernel
theorem dX9_one_146 : decode cX9_one 146 = .ok (.iload_n 1, 1) := by decide +kernel
theorem dX9_one_147 : decode cX9_one 147 = .ok (.bipush 16, 2) := by decide +kernel
theorem dX9_one_149 : decode cX9_one 149 = .ok (.if_icmp .ge 14, 3) := by decide +kernel
theorem dX9_one_152 : decode cX9_one 152 = .ok (.aload_n 0, 1) := by decide +kernel
theorem dX9_one_153 : decode cX9_one 153 = .ok (.iload_n 1, 1) := by decide +kernel
theorem dX9_one_154 : decode cX9_one 154 = .ok (.invokevirtual 350, 3) := by decide +kernel
theorem dX9_one_157 : decode cX9_one 157 = .ok (.iinc 1 1, 3) := by decide +kernel
theorem dX9_one_160 : decode cX9_one 160 = .ok (.goto (-14), 3) := by decide +kernel
theorem dX9_one_163 : decode cX9_one 163 = .ok (.return_, 1) := by decide +kernel
def d_X9_one_146 : Nat → Nat → Int32 → Hp → Option (Hp)
  | 0, _, _, _ => none
  | n_ + 1, x0, x1, G =>
    if 16 ≤ x1 then
      some G
    else
      gd (hc G x0 = 10) <|
      bo (d_X9_answers x0 x1 G) fun G4 =>
      d_X9_one_146 n_ x0 ((x1 + 1)) G4
def d_X9_one_125 : Nat → Nat → Int32 → Hp → Option (Hp)
  | 0, _, _, _ => none
  | n_ + 1, x0, x1, G =>
    gd (hc G x0 = 10) <|
    if ((hi G x0 1)) ≤ x1 then
      d_X9_one_146 FU x0 0 G
    else
      bo (d_X9_timers x0 x1 G) fun G4 =>
      d_X9_one_125 n_ x0 ((x1 + 1)) G4
def d_X9_one_87 : Nat → Nat → Int32 → Int32 → Hp → (Nat → Int32 → Hp → Option (Hp)) → Option (Hp)
  | 0, _, _, _, _, _ => none
  | n_ + 1, x0, x1, x2, G, k79 =>
    gd (hc G x0 = 10) <|
    gd (hc G ((hr G x0 19)) = 11 ∧ ix x1 (hl G ((hr G x0 19)))) <|
    if ((hi G ((hr G x0 19)) x1.toNatClampNeg)) ≤ x2 then
      k79 x0 ((x1 + 1)) G
    else
      bo (d_X9_deliver x0 x1 ((8 * ((((40 * x1)) + x2)))) G) fun G5 =>
      d_X9_one_87 n_ x0 x1 ((x2 + 1)) G5 k79
def d_X9_one_79 : Nat → Nat → Int32 → Hp → Option (Hp)
  | 0, _, _, _ => none
  | n_ + 1, x0, x1, G =>
    if 16 ≤ x1 then
      d_X9_one_125 FU x0 0 G
    else
      d_X9_one_87 FU x0 x1 0 G (fun y0 y1 Gy => d_X9_one_79 n_ y0 y1 Gy)
def d_X9_one_39 : Nat → Nat → Int32 → Hp → Option (Hp)
  | 0, _, _, _ => none
  | n_ + 1, x0, x1, G =>
    if 16 ≤ x1 then
      d_X9_one_79 FU x0 0 G
    else
      gd (hc G x0 = 10) <|
      gd (hc G ((hr G x0 16)) = 11 ∧ ix x1 (hl G ((hr G x0 16)))) <|
      gd (hc G ((hr G x0 19)) = 11 ∧ ix x1 (hl G ((hr G x0 19)))) <|
      bd (sI G ((hr G x0 19)) x1.toNatClampNeg ((hi G ((hr G x0 16)) x1.toNatClampNeg))) fun G5 =>
      gd (hc G5 x0 = 10) <|
      gd (hc G5 ((hr G5 x0 16)) = 11 ∧ ix x1 (hl G5 ((hr G5 x0 16)))) <|
      bd (sI G5 ((hr G5 x0 16)) x1.toNatClampNeg 0) fun G8 =>
      gd (hc G8 x0 = 10) <|
      gd (hc G8 ((hr G8 x0 17)) = 11 ∧ ix x1 (hl G8 ((hr G8 x0 17)))) <|
      bd (sI G8 ((hr G8 x0 17)) x1.toNatClampNeg 0) fun G11 =>
      d_X9_one_39 n_ x0 ((x1 + 1)) G11
def d_X9_one_12 : Nat → Nat → Int32 → Hp → Option (Hp)
  | 0, _, _, _ => none
  | n_ + 1, x0, x1, G =>
    if 5120 ≤ x1 then
      d_X9_one_39 FU x0 0 G
    else
      gd (hc G x0 = 10) <|
      gd (hc G ((hr G x0 18)) = 11 ∧ ix x1 (hl G ((hr G x0 18)))) <|
      gd (hc G ((hr G x0 20)) = 11 ∧ ix x1 (hl G ((hr G x0 20)))) <|
      bd (sI G ((hr G x0 20)) x1.toNatClampNeg ((hi G ((hr G x0 18)) x1.toNatClampNeg))) fun G5 =>
      d_X9_one_12 n_ x0 ((x1 + 1)) G5
def d_X9_one (x0 : Nat) (G : Hp) : Option (Hp) :=
  gd (hc G x0 = 10) <|
  bd (sI G x0 0 ((((hi G x0 0)) + 1))) fun G2 =>
  d_X9_one_12 FU x0 0 G2
section
variable {p : Program} {l : Launch} {e : Env} {s : State} {m : MethodId} {args : Array Value} {below : List Frame} {meth : Method} {c : Code} {b0 : Nat} {D : va_G} {E : Nat → ClassId}
set_option maxHeartbeats 4000000 in
set_option maxRecDepth 100000 in
theorem k_X9_one_146 (C : Cx p s m args meth c RX9 cX9_one 3 none b0 D E) {GG : Hp} : ∀ (n_ : Nat) {x0 : Nat} {x1 : Int32} {G : Hp} {ls : Array Slot} {H : Heap} {locs : List Loc}, lx ls 3 [(0, .inr x0), (1, .inl x1)] → Rp b0 D E G H → SS b0 s H locs → d_X9_one_146 n_ x0 x1 G = some GG → W p l e (rmd 14 (0) (0)) s m args below meth c H locs (0) (0) (MQ below (CQ b0 D E none GG) args s (0) (0) (fun q => b0 ≤ q)) (F0 m 146 ls []) := by
  intro n_
  induction n_ with
  | zero =>
    intro x0 x1 G ls H locs hL hR hS hd
    cases (show (none : Option _) = some _ from hd)
  | succ n_ ih =>
    intro x0 x1 G ls H locs hL hR hS hd
    rw [d_X9_one_146.eq_2] at hd
    have hx := C.1
    have hb := C.2.1
    refine x_iload_n C dX9_one_146 hL 1 rfl ?_
    refine lv_bipush (v := 16) hx hb dX9_one_147 (by decide) ?_
    refine lv_icmp_ge (tgt := 163) hx hb dX9_one_149 (by decide) (fun c1 => ?_) (fun c1 => ?_)
    · rw [if_pos c1] at hd
      cases hd
      exact r_vret C dX9_one_163 hR hS
    · rw [if_neg c1] at hd
      refine x_aload_n C dX9_one_152 hL 0 rfl ?_
      refine x_iload_n C dX9_one_153 hL 1 rfl ?_
      obtain ⟨g2, hd⟩ := gd_ex hd
      obtain ⟨G4, h3, hd⟩ := bo_ex hd
      refine r_callV (a := x0) (ci := 9) (As := [.int x1]) C (ct_X9_answers h3) mf_X9_answers ml_X9_350 mv_X9_answers rfl ⟨Nat.le_of_ble_eq_true rfl, Nat.le_of_ble_eq_true rfl⟩ dX9_one_154 (lx_size hL) rfl hR hS g2 ⟨Nat.le_refl _, Nat.le_refl _⟩ (cat_le [] (Nat.le_of_ble_eq_true rfl)) (fun H locs hR hS => ?_)
      refine W_st (st2 := []) rfl ?_
      refine x_iinc (lv' := [(1, .inl ((x1 + 1))), (0, .inr x0)]) C dX9_one_157 hL 1 rfl rfl (by decide) rfl (fun ls hL => ?_)
      refine lv_goto (tgt := 146) hx hb dX9_one_160 (by decide) ?_
      exact ih (lx_sub hL [1, 0] rfl) hR hS hd
set_option maxHeartbeats 4000000 in
set_option maxRecDepth 100000 in
theorem k_X9_one_125 (C : Cx p s m args meth c RX9 cX9_one 3 none b0 D E) {GG : Hp} : ∀ (n_ : Nat) {x0 : Nat} {x1 : Int32} {G : Hp} {ls : Array Slot} {H : Heap} {locs : List Loc}, lx ls 3 [(0, .inr x0), (1, .inl x1)] → Rp b0 D E G H → SS b0 s H locs → d_X9_one_125 n_ x0 x1 G = some GG → W p l e (rmd 14 (0) (0)) s m args below meth c H locs (0) (0) (MQ below (CQ b0 D E none GG) args s (0) (0) (fun q => b0 ≤ q)) (F0 m 125 ls []) := by
  intro n_
  induction n_ with
  | zero =>
    intro x0 x1 G ls H locs hL hR hS hd
    cases (show (none : Option _) = some _ from hd)
  | succ n_ ih =>
    intro x0 x1 G ls H locs hL hR hS hd
    rw [d_X9_one_125.eq_2] at hd
    have hx := C.1
    have hb := C.2.1
    refine x_iload_n C dX9_one_125 hL 1 rfl ?_
    refine x_aload_n C dX9_one_126 hL 0 rfl ?_
    obtain ⟨g1, hd⟩ := gd_ex hd
    refine r_geti (ci := 9) (k := 1) C fl_X9_108 rfl dX9_one_127 hR g1 ?_
    refine lv_icmp_ge (tgt := 144) hx hb dX9_one_130 (by decide) (fun c2 => ?_) (fun c2 => ?_)
    · rw [if_pos c2] at hd
      refine lv_iconst (v := 0) hx hb dX9_one_144 (by decide) ?_
      refine x_istore_n (lv' := [(1, .inl 0), (0, .inr x0)]) C dX9_one_145 hL (by decide) rfl (fun ls hL => ?_)
      exact k_X9_one_146 C FU (lx_sub hL [1, 0] rfl) hR hS hd
    · rw [if_neg c2] at hd
      refine x_aload_n C dX9_one_133 hL 0 rfl ?_
      refine x_iload_n C dX9_one_134 hL 1 rfl ?_
      obtain ⟨G4, h3, hd⟩ := bo_ex hd
      refine r_callV (a := x0) (ci := 9) (As := [.int x1]) C (ct_X9_timers h3) mf_X9_timers ml_X9_346 mv_X9_timers rfl ⟨Nat.le_of_ble_eq_true rfl, Nat.le_of_ble_eq_true rfl⟩ dX9_one_135 (lx_size hL) rfl hR hS g1 ⟨Nat.le_refl _, Nat.le_refl _⟩ (cat_le [] (Nat.le_of_ble_eq_true rfl)) (fun H locs hR hS => ?_)
      refine W_st (st2 := []) rfl ?_
      refine x_iinc (lv' := [(1, .inl ((x1 + 1))), (0, .inr x0)]) C dX9_one_138 hL 1 rfl rfl (by decide) rfl (fun ls hL => ?_)
      refine lv_goto (tgt := 125) hx hb dX9_one_141 (by decide) ?_
      exact ih (lx_sub hL [1, 0] rfl) hR hS hd
set_option maxHeartbeats 4000000 in
set_option maxRecDepth 100000 in
theorem k_X9_one_87 (C : Cx p s m args meth c RX9 cX9_one 3 none b0 D E) {GG : Hp} {k79 : Nat → Int32 → Hp → Option (Hp)} (hk79 : ∀ (y0 : Nat) (y1 : Int32) (Gy : Hp) (H1 : Heap) (locs1 : List Loc) (ls1 : Array Slot), lx ls1 3 [(0, .inr y0), (1, .inl y1)] → Rp b0 D E Gy H1 → SS b0 s H1 locs1 → k79 y0 y1 Gy = some GG → W p l e (rmd 14 (0) (0)) s m args below meth c H1 locs1 (0) (0) (MQ below (CQ b0 D E none GG) args s (0) (0) (fun q => b0 ≤ q)) (F0 m 79 ls1 [])) : ∀ (n_ : Nat) {x0 : Nat} {x1 : Int32} {x2 : Int32} {G : Hp} {ls : Array Slot} {H : Heap} {locs : List Loc}, lx ls 3 [(0, .inr x0), (1, .inl x1), (2, .inl x2)] → Rp b0 D E G H → SS b0 s H locs → d_X9_one_87 n_ x0 x1 x2 G k79 = some GG → W p l e (rmd 14 (0) (0)) s m args below meth c H locs (0) (0) (MQ below (CQ b0 D E none GG) args s (0) (0) (fun q => b0 ≤ q)) (F0 m 87 ls []) := by
  intro n_
  induction n_ with
  | zero =>
    intro x0 x1 x2 G ls H locs hL hR hS hd
    cases (show (none : Option _) = some _ from hd)
  | succ n_ ih =>
    intro x0 x1 x2 G ls H locs hL hR hS hd
    rw [d_X9_one_87.eq_2] at hd
    have hx := C.1
    have hb := C.2.1
    refine x_iload_n C dX9_one_87 hL 2 rfl ?_
    refine x_aload_n C dX9_one_88 hL 0 rfl ?_
    obtain ⟨g1, hd⟩ := gd_ex hd
    refine r_getr (ci := 9) (k := 19) C fl_X9_44 rfl dX9_one_89 hR g1 ?_
    refine x_iload_n C dX9_one_92 hL 1 rfl ?_
    obtain ⟨g2, hd⟩ := gd_ex hd
    refine r_iald C dX9_one_93 hR g2 ?_
    refine lv_icmp_ge (tgt := 117) hx hb dX9_one_94 (by decide) (fun c3 => ?_) (fun c3 => ?_)
    · rw [if_pos c3] at hd
      refine x_iinc (lv' := [(1, .inl ((x1 + 1))), (0, .inr x0), (2, .inl x2)]) C dX9_one_117 hL 1 rfl rfl (by decide) rfl (fun ls hL => ?_)
      refine lv_goto (tgt := 79) hx hb dX9_one_120 (by decide) ?_
      exact hk79 _ _ _ _ _ _ (lx_sub hL [1, 0] rfl) hR hS hd
    · rw [if_neg c3] at hd
      refine x_aload_n C dX9_one_97 hL 0 rfl ?_
      refine x_iload_n C dX9_one_98 hL 1 rfl ?_
      refine lv_bipush (v := 8) hx hb dX9_one_99 (by decide) ?_
      refine lv_bipush (v := 40) hx hb dX9_one_101 (by decide) ?_
      refine x_iload_n C dX9_one_103 hL 1 rfl ?_
      refine lv_imul hx hb dX9_one_104 ?_
      refine x_iload_n C dX9_one_105 hL 2 rfl ?_
      refine lv_iadd hx hb dX9_one_106 ?_
      refine lv_imul hx hb dX9_one_107 ?_
      obtain ⟨G5, h4, hd⟩ := bo_ex hd
      refine r_callV (a := x0) (ci := 9) (As := [.int x1, .int ((8 * ((((40 * x1)) + x2))))]) C (ct_X9_deliver h4) mf_X9_deliver ml_X9_343 mv_X9_deliver rfl ⟨Nat.le_of_ble_eq_true rfl, Nat.le_of_ble_eq_true rfl⟩ dX9_one_108 (lx_size hL) rfl hR hS g1 ⟨Nat.le_refl _, Nat.le_refl _⟩ (cat_le [] (Nat.le_of_ble_eq_true rfl)) (fun H locs hR hS => ?_)
      refine W_st (st2 := []) rfl ?_
      refine x_iinc (lv' := [(2, .inl ((x2 + 1))), (0, .inr x0), (1, .inl x1)]) C dX9_one_111 hL 2 rfl rfl (by decide) rfl (fun ls hL => ?_)
      refine lv_goto (tgt := 87) hx hb dX9_one_114 (by decide) ?_
      exact ih (lx_sub hL [1, 2, 0] rfl) hR hS hd
set_option maxHeartbeats 4000000 in
set_option maxRecDepth 100000 in
theorem k_X9_one_79 (C : Cx p s m args meth c RX9 cX9_one 3 none b0 D E) {GG : Hp} : ∀ (n_ : Nat) {x0 : Nat} {x1 : Int32} {G : Hp} {ls : Array Slot} {H : Heap} {locs : List Loc}, lx ls 3 [(0, .inr x0), (1, .inl x1)] → Rp b0 D E G H → SS b0 s H locs → d_X9_one_79 n_ x0 x1 G = some GG → W p l e (rmd 14 (0) (0)) s m args below meth c H locs (0) (0) (MQ below (CQ b0 D E none GG) args s (0) (0) (fun q => b0 ≤ q)) (F0 m 79 ls []) := by
  intro n_
  induction n_ with
  | zero =>
    intro x0 x1 G ls H locs hL hR hS hd
    cases (show (none : Option _) = some _ from hd)
  | succ n_ ih =>
    intro x0 x1 G ls H locs hL hR hS hd
    rw [d_X9_one_79.eq_2] at hd
    have hx := C.1
    have hb := C.2.1
    refine x_iload_n C dX9_one_79 hL 1 rfl ?_
    refine lv_bipush (v := 16) hx hb dX9_one_80 (by decide) ?_
    refine lv_icmp_ge (tgt := 123) hx hb dX9_one_82 (by decide) (fun c1 => ?_) (fun c1 => ?_)
    · rw [if_pos c1] at hd
      refine lv_iconst (v := 0) hx hb dX9_one_123 (by decide) ?_
      refine x_istore_n (lv' := [(1, .inl 0), (0, .inr x0)]) C dX9_one_124 hL (by decide) rfl (fun ls hL => ?_)
      exact k_X9_one_125 C FU (lx_sub hL [1, 0] rfl) hR hS hd
    · rw [if_neg c1] at hd
      refine lv_iconst (v := 0) hx hb dX9_one_85 (by decide) ?_
      refine x_istore_n (lv' := [(2, .inl 0), (0, .inr x0), (1, .inl x1)]) C dX9_one_86 hL (by decide) rfl (fun ls hL => ?_)
      exact k_X9_one_87 C (fun y0 y1 Gy H1 locs1 ls1 hL1 hR1 hS1 hd1 => ih hL1 hR1 hS1 hd1) FU (lx_sub hL [1, 2, 0] rfl) hR hS hd
set_option maxHeartbeats 4000000 in
set_option maxRecDepth 100000 in
theorem k_X9_one_39 (C : Cx p s m args meth c RX9 cX9_one 3 none b0 D E) {GG : Hp} : ∀ (n_ : Nat) {x0 : Nat} {x1 : Int32} {G : Hp} {ls : Array Slot} {H : Heap} {locs : List Loc}, lx ls 3 [(0, .inr x0), (1, .inl x1)] → Rp b0 D E G H → SS b0 s H locs → d_X9_one_39 n_ x0 x1 G = some GG → W p l e (rmd 14 (0) (0)) s m args below meth c H locs (0) (0) (MQ below (CQ b0 D E none GG) args s (0) (0) (fun q => b0 ≤ q)) (F0 m 39 ls []) := by
  intro n_
  induction n_ with
  | zero =>
    intro x0 x1 G ls H locs hL hR hS hd
    cases (show (none : Option _) = some _ from hd)
  | succ n_ ih =>
    intro x0 x1 G ls H locs hL hR hS hd
    rw [d_X9_one_39.eq_2] at hd
    have hx := C.1
    have hb := C.2.1
    refine x_iload_n C dX9_one_39 hL 1 rfl ?_
    refine lv_bipush (v := 16) hx hb dX9_one_40 (by decide) ?_
    refine lv_icmp_ge (tgt := 77) hx hb dX9_one_42 (by decide) (fun c1 => ?_) (fun c1 => ?_)
    · rw [if_pos c1] at hd
      refine lv_iconst (v := 0) hx hb dX9_one_77 (by decide) ?_
      refine x_istore_n (lv' := [(1, .inl 0), (0, .inr x0)]) C dX9_one_78 hL (by decide) rfl (fun ls hL => ?_)
      exact k_X9_one_79 C FU (lx_sub hL [1, 0] rfl) hR hS hd
    · rw [if_neg c1] at hd
      refine x_aload_n C dX9_one_45 hL 0 rfl ?_
      obtain ⟨g2, hd⟩ := gd_ex hd
      refine r_getr (ci := 9) (k := 19) C fl_X9_44 rfl dX9_one_46 hR g2 ?_
      refine x_iload_n C dX9_one_49 hL 1 rfl ?_
      refine x_aload_n C dX9_one_50 hL 0 rfl ?_
      refine r_getr (ci := 9) (k := 16) C fl_X9_35 rfl dX9_one_51 hR g2 ?_
      refine x_iload_n C dX9_one_54 hL 1 rfl ?_
      obtain ⟨g3, hd⟩ := gd_ex hd
      refine r_iald C dX9_one_55 hR g3 ?_
      obtain ⟨g4, hd⟩ := gd_ex hd
      obtain ⟨G5, eG5, hd⟩ := bd_ex hd
      refine r_iast C dX9_one_56 hR hS g4 (fun H locs hR hS => ?_)
      replace hR : Rp b0 D E G5 H := by rw [eG5]; exact hR
      refine x_aload_n C dX9_one_57 hL 0 rfl ?_
      obtain ⟨g6, hd⟩ := gd_ex hd
      refine r_getr (ci := 9) (k := 16) C fl_X9_35 rfl dX9_one_58 hR g6 ?_
      refine x_iload_n C dX9_one_61 hL 1 rfl ?_
      refine lv_iconst (v := 0) hx hb dX9_one_62 (by decide) ?_
      obtain ⟨g7, hd⟩ := gd_ex hd
      obtain ⟨G8, eG8, hd⟩ := bd_ex hd
      refine r_iast C dX9_one_63 hR hS g7 (fun H locs hR hS => ?_)
      replace hR : Rp b0 D E G8 H := by rw [eG8]; exact hR
      refine x_aload_n C dX9_one_64 hL 0 rfl ?_
      obtain ⟨g9, hd⟩ := gd_ex hd
      refine r_getr (ci := 9) (k := 17) C fl_X9_38 rfl dX9_one_65 hR g9 ?_
      refine x_iload_n C dX9_one_68 hL 1 rfl ?_
      refine lv_iconst (v := 0) hx hb dX9_one_69 (by decide) ?_
      obtain ⟨g10, hd⟩ := gd_ex hd
      obtain ⟨G11, eG11, hd⟩ := bd_ex hd
      refine r_iast C dX9_one_70 hR hS g10 (fun H locs hR hS => ?_)
      replace hR : Rp b0 D E G11 H := by rw [eG11]; exact hR
      refine x_iinc (lv' := [(1, .inl ((x1 + 1))), (0, .inr x0)]) C dX9_one_71 hL 1 rfl rfl (by decide) rfl (fun ls hL => ?_)
      refine lv_goto (tgt := 39) hx hb dX9_one_74 (by decide) ?_
      exact ih (lx_sub hL [1, 0] rfl) hR hS hd
set_option maxHeartbeats 4000000 in
set_option maxRecDepth 100000 in
theorem k_X9_one_12 (C : Cx p s m args meth c RX9 cX9_one 3 none b0 D E) {GG : Hp} : ∀ (n_ : Nat) {x0 : Nat} {x1 : Int32} {G : Hp} {ls : Array Slot} {H : Heap} {locs : List Loc}, lx ls 3 [(0, .inr x0), (1, .inl x1)] → Rp b0 D E G H → SS b0 s H locs → d_X9_one_12 n_ x0 x1 G = some GG → W p l e (rmd 14 (0) (0)) s m args below meth c H locs (0) (0) (MQ below (CQ b0 D E none GG) args s (0) (0) (fun q => b0 ≤ q)) (F0 m 12 ls []) := by
  intro n_
  induction n_ with
  | zero =>
    intro x0 x1 G ls H locs hL hR hS hd
    cases (show (none : Option _) = some _ from hd)
  | succ n_ ih =>
    intro x0 x1 G ls H locs hL hR hS hd
    rw [d_X9_one_12.eq_2] at hd
    have hx := C.1
    have hb := C.2.1
    refine x_iload_n C dX9_one_12 hL 1 rfl ?_
    refine lv_sipush (v := 5120) hx hb dX9_one_13 (by decide) ?_
    refine lv_icmp_ge (tgt := 37) hx hb dX9_one_16 (by decide) (fun c1 => ?_) (fun c1 => ?_)
    · rw [if_pos c1] at hd
      refine lv_iconst (v := 0) hx hb dX9_one_37 (by decide) ?_
      refine x_istore_n (lv' := [(1, .inl 0), (0, .inr x0)]) C dX9_one_38 hL (by decide) rfl (fun ls hL => ?_)
      exact k_X9_one_39 C FU (lx_sub hL [1, 0] rfl) hR hS hd
    · rw [if_neg c1] at hd
      refine x_aload_n C dX9_one_19 hL 0 rfl ?_
      obtain ⟨g2, hd⟩ := gd_ex hd
      refine r_getr (ci := 9) (k := 20) C fl_X9_47 rfl dX9_one_20 hR g2 ?_
      refine x_iload_n C dX9_one_23 hL 1 rfl ?_
      refine x_aload_n C dX9_one_24 hL 0 rfl ?_
      refine r_getr (ci := 9) (k := 18) C fl_X9_41 rfl dX9_one_25 hR g2 ?_
      refine x_iload_n C dX9_one_28 hL 1 rfl ?_
      obtain ⟨g3, hd⟩ := gd_ex hd
      refine r_iald C dX9_one_29 hR g3 ?_
      obtain ⟨g4, hd⟩ := gd_ex hd
      obtain ⟨G5, eG5, hd⟩ := bd_ex hd
      refine r_iast C dX9_one_30 hR hS g4 (fun H locs hR hS => ?_)
      replace hR : Rp b0 D E G5 H := by rw [eG5]; exact hR
      refine x_iinc (lv' := [(1, .inl ((x1 + 1))), (0, .inr x0)]) C dX9_one_31 hL 1 rfl rfl (by decide) rfl (fun ls hL => ?_)
      refine lv_goto (tgt := 12) hx hb dX9_one_34 (by decide) ?_
      exact ih (lx_sub hL [1, 0] rfl) hR hS hd
set_option maxHeartbeats 4000000 in
set_option maxRecDepth 100000 in
theorem k_X9_one (C : Cx p s m args meth c RX9 cX9_one 3 none b0 D E) {GG : Hp} {x0 : Nat} {G : Hp} {ls : Array Slot} {H : Heap} {locs : List Loc} : lx ls 3 [(0, .inr x0)] → Rp b0 D E G H → SS b0 s H locs → d_X9_one x0 G = some GG → W p l e (rmd 14 (0) (0)) s m args below meth c H locs (0) (0) (MQ below (CQ b0 D E none GG) args s (0) (0) (fun q => b0 ≤ q)) (F0 m 0 ls []) := by
  intro hL hR hS hd
  unfold d_X9_one at hd
  have hx := C.1
  have hb := C.2.1
  refine x_aload_n C dX9_one_0 hL 0 rfl ?_
  refine lv_dup hx hb dX9_one_1 (rv_cat _) ?_
  obtain ⟨g1, hd⟩ := gd_ex hd
  refine r_geti (ci := 9) (k := 0) C fl_X9_122 rfl dX9_one_2 hR g1 ?_
  refine lv_iconst (v := 1) hx hb dX9_one_5 (by decide) ?_
  refine lv_iadd hx hb dX9_one_6 ?_
  obtain ⟨G2, eG2, hd⟩ := bd_ex hd
  refine r_puti (ci := 9) (k := 0) C fl_X9_122 rfl (Or.inl rfl) dX9_one_7 hR hS g1 (fun H locs hR hS => ?_)
  replace hR : Rp b0 D E G2 H := by rw [eG2]; exact hR
  refine lv_iconst (v := 0) hx hb dX9_one_10 (by decide) ?_
  refine x_istore_n (lv' := [(1, .inl 0), (0, .inr x0)]) C dX9_one_11 hL (by decide) rfl (fun ls hL => ?_)
  exact k_X9_one_12 C FU (lx_sub hL [1, 0] rfl) hR hS hd
end
set_option maxHeartbeats 4000000 in
set_option maxRecDepth 100000 in
theorem ct_X9_one {l : Launch} {b0 : Nat} {D : va_G} {E : Nat → ClassId} {G : Hp} {a0 : Nat} {GG : Hp} (hd : d_X9_one a0 G = some GG) : CT l yX9_one cX9_one 3 none 14 0 0 b0 D E [rv a0] G none GG := by
  refine CT_of (by decide +kernel) ?_
  intro p e s m below meth c C hnm hR
  refine r_entry [.inr a0] (n := 3) (Nat.le_of_ble_eq_true rfl) (lv := [(0, .inr a0)]) rfl (fun ls hL => ?_)
  exact k_X9_one C (lx_sub hL [0] rfl) hR ⟨fun _ _ => rfl, fun _ h => by cases h⟩ hd

/-! GroveWorksModel.tick(I)I -/
theorem dX9_tick_0 : decode cX9_tick 0 = .ok (.iload_n 1, 1) := by decide +kernel
theorem dX9_tick_1 : decode cX9_tick 1 = .ok (.iconst 1, 1) := by decide +kernel
theorem dX9_tick_2 : decode cX9_tick 2 = .ok (.if_icmp .lt 21, 3) := by decide +kernel
theorem dX9_tick_5 : decode cX9_tick 5 = .ok (.iload_n 1, 1) := by decide +kernel
theorem dX9_tick_6 : decode cX9_tick 6 = .ok (.bipush 50, 2) := by decide +kernel
theorem dX9_tick_8 : decode cX9_tick 8 = .ok (.if_icmp .gt 15, 3) := by decide +kernel
theorem dX9_tick_11 : decode cX9_tick 11 = .ok (.aload_n 0, 1) := by decide +kernel
theorem dX9_tick_12 : decode cX9_tick 12 = .ok (.getfield 122, 3) := by decide +kernel
theorem dX9_tick_15 : decode cX9_tick 15 = .ok (.iload_n 1, 1) := by decide +kernel
theorem dX9_tick_16 : decode cX9_tick 16 = .ok (.iadd, 1) := by decide +kernel
theorem dX9_tick_17 : decode cX9_tick 17 = .ok (.sipush 6000, 3) := by decide +kernel
theorem dX9_tick_20 : decode cX9_tick 20 = .ok (.if_icmp .le 5, 3) := by decide +kernel
theorem dX9_tick_23 : decode cX9_tick 23 = .ok (.iconst (-1), 1) := by decide +kernel
theorem dX9_tick_24 : decode cX9_tick 24 = .ok (.ireturn, 1) := by decide +kernel
theorem dX9_tick_25 : decode cX9_tick 25 = .ok (.iconst 0, 1) := by decide +kernel
theorem dX9_tick_26 : decode cX9_tick 26 = .ok (.istore_n 2, 1) := by decide +kernel
theorem dX9_tick_27 : decode cX9_tick 27 = .ok (.iload_n 2, 1) := by decide +kernel
theorem dX9_tick_28 : decode cX9_tick 28 = .ok (.iload_n 1, 1) := by decide +kernel
theorem dX9_tick_29 : decode cX9_tick 29 = .ok (.if_icmp .ge 13, 3) := by decide +kernel
theorem dX9_tick_32 : decode cX9_tick 32 = .ok (.aload_n 0, 1) := by decide +kernel
theorem dX9_tick_33 : decode cX9_tick 33 = .ok (.invokevirtual 359, 3) := by decide +kernel
theorem dX9_tick_36 : decode cX9_tick 36 = .ok (.iinc 2 1, 3) := by decide +kernel
theorem dX9_tick_39 : decode cX9_tick 39 = .ok (.goto (-12), 3) := by decide +kernel
theorem dX9_tick_42 : decode cX9_tick 42 = .ok (.aload_n 0, 1) := by decide +kernel
theorem dX9_tick_43 : decode cX9_tick 43 = .ok (.getfield 122, 3) := by decide +kernel
theorem dX9_tick_46 : decode cX9_tick 46 = .ok (.ireturn, 1) := by decide +kernel
def d_X9_tick_27 : Nat → Nat → Int32 → Int32 → Hp → Option (Int32 × Hp)
  | 0, _, _, _, _ => none
  | n_ + 1, x0, x1, x2, G =>
    if x1 ≤ x2 then
      gd (hc G x0 = 10) <|
      some ((hi G x0 0), G)
    else
      gd (hc G x0 = 10) <|
      bo (d_X9_one x0 G) fun G5 =>
      d_X9_tick_27 n_ x0 x1 ((x2 + 1)) G5
def d_X9_tick (x0 : Nat) (x1 : Int32) (G : Hp) : Option (Int32 × Hp) :=
  if x1 < 1 then
    some ((-1), G)
  else
    if 50 < x1 then
      some ((-1), G)
    else
      gd (hc G x0 = 10) <|
      if ((((hi G x0 0)) + x1)) ≤ 6000 then
        d_X9_tick_27 FU x0 x1 0 G
      else
        some ((-1), G)
section
variable {p : Program} {l : Launch} {e : Env} {s : State} {m : MethodId} {args : Array Value} {below : List Frame} {meth : Method} {c : Code} {b0 : Nat} {D : va_G} {E : Nat → ClassId}
set_option maxHeartbeats 4000000 in
set_option maxRecDepth 100000 in
theorem k_X9_tick_27 (C : Cx p s m args meth c RX9 cX9_tick 3 (some .int) b0 D E) {rr : Int32} {GG : Hp} : ∀ (n_ : Nat) {x0 : Nat} {x1 : Int32} {x2 : Int32} {G : Hp} {ls : Array Slot} {H : Heap} {locs : List Loc}, lx ls 3 [(0, .inr x0), (1, .inl x1), (2, .inl x2)] → Rp b0 D E G H → SS b0 s H locs → d_X9_tick_27 n_ x0 x1 x2 G = some (rr, GG) → W p l e (rmd 15 (0) (0)) s m args below meth c H locs (0) (0) (MQ below (CQ b0 D E (some (.int rr)) GG) args s (0) (0) (fun q => b0 ≤ q)) (F0 m 27 ls []) := by
  intro n_
  induction n_ with
  | zero =>
    intro x0 x1 x2 G ls H locs hL hR hS hd
    cases (show (none : Option _) = some _ from hd)
  | succ n_ ih =>
    intro x0 x1 x2 G ls H locs hL hR hS hd
    rw [d_X9_tick_27.eq_2] at hd
    have hx := C.1
    have hb := C.2.1
    refine x_iload_n C dX9_tick_27 hL 2 rfl ?_
    refine x_iload_n C dX9_tick_28 hL 1 rfl ?_
    refine lv_icmp_ge (tgt := 42) hx hb dX9_tick_29 (by decide) (fun c1 => ?_) (fun c1 => ?_)
    · rw [if_pos c1] at hd
      refine x_aload_n C dX9_tick_42 hL 0 rfl ?_
      obtain ⟨g2, hd⟩ := gd_ex hd
      refine r_geti (ci := 9) (k := 0) C fl_X9_122 rfl dX9_tick_43 hR g2 ?_
      cases hd
      exact r_iret C dX9_tick_46 hR hS
    · rw [if_neg c1] at hd
      refine x_aload_n C dX9_tick_32 hL 0 rfl ?_
      obtain ⟨g3, hd⟩ := gd_ex hd
      obtain ⟨G5, h4, hd⟩ := bo_ex hd
      refine r_callV (a := x0) (ci := 9) (As := []) C (ct_X9_one h4) mf_X9_one ml_X9_359 mv_X9_one rfl ⟨Nat.le_of_ble_eq_true rfl, Nat.le_of_ble_eq_true rfl⟩ dX9_tick_33 (lx_size hL) rfl hR hS g3 ⟨Nat.le_refl _, Nat.le_refl _⟩ (cat_le [] (Nat.le_of_ble_eq_true rfl)) (fun H locs hR hS => ?_)
      refine W_st (st2 := []) rfl ?_
      refine x_iinc (lv' := [(2, .inl ((x2 + 1))), (0, .inr x0), (1, .inl x1)]) C dX9_tick_36 hL 2 rfl rfl (by decide) rfl (fun ls hL => ?_)
      refine lv_goto (tgt := 27) hx hb dX9_tick_39 (by decide) ?_
      exact ih (lx_sub hL [1, 2, 0] rfl) hR hS hd
set_option maxHeartbeats 4000000 in
set_option maxRecDepth 100000 in
theorem k_X9_tick (C : Cx p s m args meth c RX9 cX9_tick 3 (some .int) b0 D E) {rr : Int32} {GG : Hp} {x0 : Nat} {x1 : Int32} {G : Hp} {ls : Array Slot} {H : Heap} {locs : List Loc} : lx ls 3 [(0, .inr x0), (1, .inl x1)] → Rp b0 D E G H → SS b0 s H locs → d_X9_tick x0 x1 G = some (rr, GG) → W p l e (rmd 15 (0) (0)) s m args below meth c H locs (0) (0) (MQ below (CQ b0 D E (some (.int rr)) GG) args s (0) (0) (fun q => b0 ≤ q)) (F0 m 0 ls []) := by
  intro hL hR hS hd
  unfold d_X9_tick at hd
  have hx := C.1
  have hb := C.2.1
  refine x_iload_n C dX9_tick_0 hL 1 rfl ?_
  refine lv_iconst (v := 1) hx hb dX9_tick_1 (by decide) ?_
  refine lv_icmp_lt (tgt := 23) hx hb dX9_tick_2 (by decide) (fun c1 => ?_) (fun c1 => ?_)
  · rw [if_pos c1] at hd
    refine lv_iconst (v := (-1)) hx hb dX9_tick_23 (by decide) ?_
    cases hd
    exact r_iret C dX9_tick_24 hR hS
  · rw [if_neg c1] at hd
    refine x_iload_n C dX9_tick_5 hL 1 rfl ?_
    refine lv_bipush (v := 50) hx hb dX9_tick_6 (by decide) ?_
    refine lv_icmp_gt (tgt := 23) hx hb dX9_tick_8 (by decide) (fun c2 => ?_) (fun c2 => ?_)
    · rw [if_pos c2] at hd
      refine lv_iconst (v := (-1)) hx hb dX9_tick_23 (by decide) ?_
      cases hd
      exact r_iret C dX9_tick_24 hR hS
    · rw [if_neg c2] at hd
      refine x_aload_n C dX9_tick_11 hL 0 rfl ?_
      obtain ⟨g3, hd⟩ := gd_ex hd
      refine r_geti (ci := 9) (k := 0) C fl_X9_122 rfl dX9_tick_12 hR g3 ?_
      refine x_iload_n C dX9_tick_15 hL 1 rfl ?_
      refine lv_iadd hx hb dX9_tick_16 ?_
      refine lv_sipush (v := 6000) hx hb dX9_tick_17 (by decide) ?_
      refine lv_icmp_le (tgt := 25) hx hb dX9_tick_20 (by decide) (fun c4 => ?_) (fun c4 => ?_)
      · rw [if_pos c4] at hd
        refine lv_iconst (v := 0) hx hb dX9_tick_25 (by decide) ?_
        refine x_istore_n (lv' := [(2, .inl 0), (0, .inr x0), (1, .inl x1)]) C dX9_tick_26 hL (by decide) rfl (fun ls hL => ?_)
        exact k_X9_tick_27 C FU (lx_sub hL [1, 2, 0] rfl) hR hS hd
      · rw [if_neg c4] at hd
        refine lv_iconst (v := (-1)) hx hb dX9_tick_23 (by decide) ?_
        cases hd
        exact r_iret C dX9_tick_24 hR hS
end
set_option maxHeartbeats 4000000 in
set_option maxRecDepth 100000 in
theorem ct_X9_tick {l : Launch} {b0 : Nat} {D : va_G} {E : Nat → ClassId} {G : Hp} {a0 : Nat} {a1 : Int32} {rr : Int32} {GG : Hp} (hd : d_X9_tick a0 a1 G = some (rr, GG)) : CT l yX9_tick cX9_tick 3 (some .int) 15 0 0 b0 D E [rv a0, .int a1] G (some (.int rr)) GG := by
  refine CT_of (by decide +kernel) ?_
  intro p e s m below meth c C hnm hR
  refine r_entry [.inr a0, .inl a1] (n := 3) (Nat.le_of_ble_eq_true rfl) (lv := [(0, .inr a0), (1, .inl a1)]) rfl (fun ls hL => ?_)
  exact k_X9_tick C (lx_sub hL [0, 1] rfl) hR ⟨fun _ _ => rfl, fun _ h => by cases h⟩ hd

/-! GroveWorksModel.port(III)I pure -/
theorem dX9_port_0 : decode cX9_port 0 = .ok (.aload_n 0, 1) := by decide +kernel
theorem dX9_port_1 : decode cX9_port 1 = .ok (.iload_n 1, 1) := by decide +kernel
theorem dX9_port_2 : decode cX9_port 2 = .ok (.invokevirtual 112, 3) := by decide +kernel
theorem dX9_port_5 : decode cX9_port 5 = .ok (.ifCond .eq 24, 3) := by decide +kernel
theorem dX9_port_8 : decode cX9_port 8 = .ok (.iload_n 2, 1) := by decide +kernel
theorem dX9_port_9 : decode cX9_port 9 = .ok (.invokestatic 116, 3) := by decide +kernel
theorem dX9_port_12 : decode cX9_port 12 = .ok (.ifCond .eq 17, 3) := by decide +kernel
theorem dX9_port_15 : decode cX9_port 15 = .ok (.aload_n 0, 1) := by decide +kernel
theorem dX9_port_16 : decode cX9_port 16 = .ok (.getfield 7, 3) := by decide +kernel
theorem dX9_port_19 : decode cX9_port 19 = .ok (.iconst 4, 1) := by decide +kernel
theorem dX9_port_20 : decode cX9_port 20 = .ok (.iload_n 1, 1) := by decide +kernel
theorem dX9_port_21 : decode cX9_port 21 = .ok (.imul, 1) := by decide +kernel
theorem dX9_port_22 : decode cX9_port 22 = .ok (.iload_n 2, 1) := by decide +kernel
theorem dX9_port_23 : decode cX9_port 23 = .ok (.iadd, 1) := by decide +kernel
theorem dX9_port_24 : decode cX9_port 24 = .ok (.iaload, 1) := by decide +kernel
theorem dX9_port_25 : decode cX9_port 25 = .ok (.iconst (-1), 1) := by decide +kernel
theorem dX9_port_26 : decode cX9_port 26 = .ok (.if_icmp .ne 5, 3) := by decide +kernel
theorem dX9_port_29 : decode cX9_port 29 = .ok (.iconst (-1), 1) := by decide +kernel
theorem dX9_port_30 : decode cX9_port 30 = .ok (.ireturn, 1) := by decide +kernel
theorem dX9_port_31 : decode cX9_port 31 = .ok (.iload_n 3, 1) := by decide +kernel
theorem dX9_port_32 : decode cX9_port 32 = .ok (.tableswitch 95 0 4 #[36, 47, 58, 65, 80], 36) := by decide +kernel
theorem dX9_port_68 : decode cX9_port 68 = .ok (.aload_n 0, 1) := by decide +kernel
theorem dX9_port_69 : decode cX9_port 69 = .ok (.getfield 7, 3) := by decide +kernel
theorem dX9_port_72 : decode cX9_port 72 = .ok (.iconst 4, 1) := by decide +kernel
theorem dX9_port_73 : decode cX9_port 73 = .ok (.iload_n 1, 1) := by decide +kernel
theorem dX9_port_74 : decode cX9_port 74 = .ok (.imul, 1) := by decide +kernel
theorem dX9_port_75 : decode cX9_port 75 = .ok (.iload_n 2, 1) := by decide +kernel
theorem dX9_port_76 : decode cX9_port 76 = .ok (.iadd, 1) := by decide +kernel
theorem dX9_port_77 : decode cX9_port 77 = .ok (.iaload, 1) := by decide +kernel
theorem dX9_port_78 : decode cX9_port 78 = .ok (.ireturn, 1) := by decide +kernel
theorem dX9_port_79 : decode cX9_port 79 = .ok (.aload_n 0, 1) := by decide +kernel
theorem dX9_port_80 : decode cX9_port 80 = .ok (.getfield 13, 3) := by decide +kernel
theorem dX9_port_83 : decode cX9_port 83 = .ok (.iconst 4, 1) := by decide +kernel
theorem dX9_port_84 : decode cX9_port 84 = .ok (.iload_n 1, 1) := by decide +kernel
theorem dX9_port_85 : decode cX9_port 85 = .ok (.imul, 1) := by decide +kernel
theorem dX9_port_86 : decode cX9_port 86 = .ok (.iload_n 2, 1) := by decide +kernel
theorem dX9_port_87 : decode cX9_port 87 = .ok (.iadd, 1) := by decide +kernel
theorem dX9_port_88 : decode cX9_port 88 = .ok (.iaload, 1) := by decide +kernel
theorem dX9_port_89 : decode cX9_port 89 = .ok (.ireturn, 1) := by decide +kernel
theorem dX9_port_90 : decode cX9_port 90 = .ok (.aload_n 0, 1) := by decide +kernel
theorem dX9_port_91 : decode cX9_port 91 = .ok (.iload_n 1, 1) := by decide +kernel
theorem dX9_port_92 : decode cX9_port 92 = .ok (.iload_n 2, 1) := by decide +kernel
theorem dX9_port_93 : decode cX9_port 93 = .ok (.invokevirtual 173, 3) := by decide +kernel
theorem dX9_port_96 : decode cX9_port 96 = .ok (.ireturn, 1) := by decide +kernel
theorem dX9_port_97 : decode cX9_port 97 = .ok (.aload_n 0, 1) := by decide +kernel
theorem dX9_port_98 : decode cX9_port 98 = .ok (.iload_n 1, 1) := by decide +kernel
theorem dX9_port_99 : decode cX9_port 99 = .ok (.iload_n 2, 1) := by decide +kernel
theorem dX9_port_100 : decode cX9_port 100 = .ok (.invokevirtual 185, 3) := by decide +kernel
theorem dX9_port_103 : decode cX9_port 103 = .ok (.ifCond .eq 7, 3) := by decide +kernel
theorem dX9_port_106 : decode cX9_port 106 = .ok (.iconst 1, 1) := by decide +kernel
theorem dX9_port_107 : decode cX9_port 107 = .ok (.goto 4, 3) := by decide +kernel
theorem dX9_port_110 : decode cX9_port 110 = .ok (.iconst 0, 1) := by decide +kernel
theorem dX9_port_111 : decode cX9_port 111 = .ok (.ireturn, 1) := by decide +kernel
theorem dX9_port_112 : decode cX9_port 112 = .ok (.aload_n 0, 1) := by decide +kernel
theorem dX9_port_113 : decode cX9_port 113 = .ok (.iload_n 1, 1) := by decide +kernel
theorem dX9_port_114 : decode cX9_port 114 = .ok (.iload_n 2, 1) := by decide +kernel
theorem dX9_port_115 : decode cX9_port 115 = .ok (.invokevirtual 284, 3) := by decide +kernel
theorem dX9_port_118 : decode cX9_port 118 = .ok (.ifCond .eq 7, 3) := by decide +kernel
theorem dX9_port_121 : decode cX9_port 121 = .ok (.iconst 1, 1) := by decide +kernel
theorem dX9_port_122 : decode cX9_port 122 = .ok (.goto 4, 3) := by decide +kernel
theorem dX9_port_125 : decode cX9_port 125 = .ok (.iconst 0, 1) := by decide +kernel
theorem dX9_port_126 : decode cX9_port 126 = .ok (.ireturn, 1) := by decide +kernel
theorem dX9_port_127 : decode cX9_port 127 = .ok (.iconst (-1), 1) := by decide +kernel
theorem dX9_port_128 : decode cX9_port 128 = .ok (.ireturn, 1) := by decide +kernel
def d_X9_port (x0 : Nat) (x1 : Int32) (x2 : Int32) (x3 : Int32) (G : Hp) : Option (Int32) :=
  gd (hc G x0 = 10) <|
  bo (d_X9_isRouter x0 x1 G) fun v3 =>
  if v3 = 0 then
    some (-1)
  else
    bo (d_X9_isPort x2 G) fun v6 =>
    if v6 = 0 then
      some (-1)
    else
      gd (hc G ((hr G x0 8)) = 11 ∧ ix ((((4 * x1)) + x2)) (hl G ((hr G x0 8)))) <|
      if ((hi G ((hr G x0 8)) ((((4 * x1)) + x2)).toNatClampNeg)) = (-1) then
        some (-1)
      else
        if x3 = 0 then
          gd (hc G ((hr G x0 8)) = 11 ∧ ix ((((4 * x1)) + x2)) (hl G ((hr G x0 8)))) <|
          some ((hi G ((hr G x0 8)) ((((4 * x1)) + x2)).toNatClampNeg))
        else
        if x3 = 1 then
          gd (hc G ((hr G x0 9)) = 11 ∧ ix ((((4 * x1)) + x2)) (hl G ((hr G x0 9)))) <|
          some ((hi G ((hr G x0 9)) ((((4 * x1)) + x2)).toNatClampNeg))
        else
        if x3 = 2 then
          bo (d_X9_neighbours x0 x1 x2 G) fun v14 =>
          some v14
        else
        if x3 = 3 then
          bo (d_X9_isFirst x0 x1 x2 G) fun v16 =>
          if v16 = 0 then
            some 0
          else
            some 1
        else
        if x3 = 4 then
          bo (d_X9_isAsking x0 x1 x2 G) fun v19 =>
          if v19 = 0 then
            some 0
          else
            some 1
        else
        some (-1)
section
variable {p : Program} {l : Launch} {e : Env} {s : State} {m : MethodId} {args : Array Value} {below : List Frame} {meth : Method} {c : Code} {b0 : Nat} {D : va_G} {E : Nat → ClassId}
set_option maxHeartbeats 4000000 in
set_option maxRecDepth 100000 in
theorem k_X9_port (C : Cx p s m args meth c RX9 cX9_port 4 (some .int) b0 D E) {rr : Int32} {G : Hp} {x0 : Nat} {x1 : Int32} {x2 : Int32} {x3 : Int32} {ls : Array Slot} {H : Heap} {locs : List Loc} : lx ls 4 [(0, .inr x0), (1, .inl x1), (2, .inl x2), (3, .inl x3)] → Rp b0 D E G H → SS b0 s H locs → d_X9_port x0 x1 x2 x3 G = some rr → W p l e (rmd 3 (0) (0)) s m args below meth c H locs (0) (0) (MQ below (CQ b0 D E (some (.int rr)) G) args s (0) (0) (fun q => b0 ≤ q)) (F0 m 0 ls []) := by
  intro hL hR hS hd
  unfold d_X9_port at hd
  have hx := C.1
  have hb := C.2.1
  refine x_aload_n C dX9_port_0 hL 0 rfl ?_
  refine x_iload_n C dX9_port_1 hL 1 rfl ?_
  obtain ⟨g1, hd⟩ := gd_ex hd
  obtain ⟨v3, h2, hd⟩ := bo_ex hd
  refine r_callV (a := x0) (ci := 9) (As := [.int x1]) C (ct_X9_isRouter h2) mf_X9_isRouter ml_X9_112 mv_X9_isRouter rfl ⟨Nat.le_of_ble_eq_true rfl, Nat.le_of_ble_eq_true rfl⟩ dX9_port_2 (lx_size hL) rfl hR hS g1 ⟨Nat.le_refl _, Nat.le_refl _⟩ (cat_le [] (Nat.le_of_ble_eq_true rfl)) (fun H locs hR hS => ?_)
  refine W_st (st2 := [.int v3]) rfl ?_
  refine lv_if_eq (tgt := 29) hx hb dX9_port_5 (by decide) (fun c4 => ?_) (fun c4 => ?_)
  · rw [if_pos c4] at hd
    refine lv_iconst (v := (-1)) hx hb dX9_port_29 (by decide) ?_
    cases hd
    exact r_iret C dX9_port_30 hR hS
  · rw [if_neg c4] at hd
    refine x_iload_n C dX9_port_8 hL 2 rfl ?_
    obtain ⟨v6, h5, hd⟩ := bo_ex hd
    refine r_callS (As := [.int x2]) C (ct_X9_isPort h5) mf_X9_isPort ml_X9_116 ms_X9_isPort rfl ⟨Nat.le_of_ble_eq_true rfl, Nat.le_of_ble_eq_true rfl⟩ dX9_port_9 (lx_size hL) rfl hR hS ⟨Nat.le_refl _, Nat.le_refl _⟩ (cat_le [] (Nat.le_of_ble_eq_true rfl)) (fun H locs hR hS => ?_)
    refine W_st (st2 := [.int v6]) rfl ?_
    refine lv_if_eq (tgt := 29) hx hb dX9_port_12 (by decide) (fun c7 => ?_) (fun c7 => ?_)
    · rw [if_pos c7] at hd
      refine lv_iconst (v := (-1)) hx hb dX9_port_29 (by decide) ?_
      cases hd
      exact r_iret C dX9_port_30 hR hS
    · rw [if_neg c7] at hd
      refine x_aload_n C dX9_port_15 hL 0 rfl ?_
      refine r_getr (ci := 9) (k := 8) C fl_X9_7 rfl dX9_port_16 hR g1 ?_
      refine lv_iconst (v := 4) hx hb dX9_port_19 (by decide) ?_
      refine x_iload_n C dX9_port_20 hL 1 rfl ?_
      refine lv_imul hx hb dX9_port_21 ?_
      refine x_iload_n C dX9_port_22 hL 2 rfl ?_
      refine lv_iadd hx hb dX9_port_23 ?_
      obtain ⟨g8, hd⟩ := gd_ex hd
      refine r_iald C dX9_port_24 hR g8 ?_
      refine lv_iconst (v := (-1)) hx hb dX9_port_25 (by decide) ?_
      refine lv_icmp_ne (tgt := 31) hx hb dX9_port_26 (by decide) (fun c9 => ?_) (fun c9 => ?_)
      · rw [if_neg c9] at hd
        refine x_iload_n C dX9_port_31 hL 3 rfl ?_
        by_cases c10_0 : x3 = 0
        · rw [if_pos c10_0] at hd
          rw [c10_0]
          refine lv_tableIn (tgt := 68) hx hb dX9_port_32 (by decide) (by decide) rfl (by decide) ?_
          refine x_aload_n C dX9_port_68 hL 0 rfl ?_
          refine r_getr (ci := 9) (k := 8) C fl_X9_7 rfl dX9_port_69 hR g1 ?_
          refine lv_iconst (v := 4) hx hb dX9_port_72 (by decide) ?_
          refine x_iload_n C dX9_port_73 hL 1 rfl ?_
          refine lv_imul hx hb dX9_port_74 ?_
          refine x_iload_n C dX9_port_75 hL 2 rfl ?_
          refine lv_iadd hx hb dX9_port_76 ?_
          obtain ⟨g11, hd⟩ := gd_ex hd
          refine r_iald C dX9_port_77 hR g11 ?_
          cases hd
          exact r_iret C dX9_port_78 hR hS
        rw [if_neg c10_0] at hd
        by_cases c10_1 : x3 = 1
        · rw [if_pos c10_1] at hd
          rw [c10_1]
          refine lv_tableIn (tgt := 79) hx hb dX9_port_32 (by decide) (by decide) rfl (by decide) ?_
          refine x_aload_n C dX9_port_79 hL 0 rfl ?_
          refine r_getr (ci := 9) (k := 9) C fl_X9_13 rfl dX9_port_80 hR g1 ?_
          refine lv_iconst (v := 4) hx hb dX9_port_83 (by decide) ?_
          refine x_iload_n C dX9_port_84 hL 1 rfl ?_
          refine lv_imul hx hb dX9_port_85 ?_
          refine x_iload_n C dX9_port_86 hL 2 rfl ?_
          refine lv_iadd hx hb dX9_port_87 ?_
          obtain ⟨g12, hd⟩ := gd_ex hd
          refine r_iald C dX9_port_88 hR g12 ?_
          cases hd
          exact r_iret C dX9_port_89 hR hS
        rw [if_neg c10_1] at hd
        by_cases c10_2 : x3 = 2
        · rw [if_pos c10_2] at hd
          rw [c10_2]
          refine lv_tableIn (tgt := 90) hx hb dX9_port_32 (by decide) (by decide) rfl (by decide) ?_
          refine x_aload_n C dX9_port_90 hL 0 rfl ?_
          refine x_iload_n C dX9_port_91 hL 1 rfl ?_
          refine x_iload_n C dX9_port_92 hL 2 rfl ?_
          obtain ⟨v14, h13, hd⟩ := bo_ex hd
          refine r_callV (a := x0) (ci := 9) (As := [.int x1, .int x2]) C (ct_X9_neighbours h13) mf_X9_neighbours ml_X9_173 mv_X9_neighbours rfl ⟨Nat.le_of_ble_eq_true rfl, Nat.le_of_ble_eq_true rfl⟩ dX9_port_93 (lx_size hL) rfl hR hS g1 ⟨Nat.le_refl _, Nat.le_refl _⟩ (cat_le [] (Nat.le_of_ble_eq_true rfl)) (fun H locs hR hS => ?_)
          refine W_st (st2 := [.int v14]) rfl ?_
          cases hd
          exact r_iret C dX9_port_96 hR hS
        rw [if_neg c10_2] at hd
        by_cases c10_3 : x3 = 3
        · rw [if_pos c10_3] at hd
          rw [c10_3]
          refine lv_tableIn (tgt := 97) hx hb dX9_port_32 (by decide) (by decide) rfl (by decide) ?_
          refine x_aload_n C dX9_port_97 hL 0 rfl ?_
          refine x_iload_n C dX9_port_98 hL 1 rfl ?_
          refine x_iload_n C dX9_port_99 hL 2 rfl ?_
          obtain ⟨v16, h15, hd⟩ := bo_ex hd
          refine r_callV (a := x0) (ci := 9) (As := [.int x1, .int x2]) C (ct_X9_isFirst h15) mf_X9_isFirst ml_X9_185 mv_X9_isFirst rfl ⟨Nat.le_of_ble_eq_true rfl, Nat.le_of_ble_eq_true rfl⟩ dX9_port_100 (lx_size hL) rfl hR hS g1 ⟨Nat.le_refl _, Nat.le_refl _⟩ (cat_le [] (Nat.le_of_ble_eq_true rfl)) (fun H locs hR hS => ?_)
          refine W_st (st2 := [.int v16]) rfl ?_
          refine lv_if_eq (tgt := 110) hx hb dX9_port_103 (by decide) (fun c17 => ?_) (fun c17 => ?_)
          · rw [if_pos c17] at hd
            refine lv_iconst (v := 0) hx hb dX9_port_110 (by decide) ?_
            cases hd
            exact r_iret C dX9_port_111 hR hS
          · rw [if_neg c17] at hd
            refine lv_iconst (v := 1) hx hb dX9_port_106 (by decide) ?_
            refine lv_goto (tgt := 111) hx hb dX9_port_107 (by decide) ?_
            cases hd
            exact r_iret C dX9_port_111 hR hS
        rw [if_neg c10_3] at hd
        by_cases c10_4 : x3 = 4
        · rw [if_pos c10_4] at hd
          rw [c10_4]
          refine lv_tableIn (tgt := 112) hx hb dX9_port_32 (by decide) (by decide) rfl (by decide) ?_
          refine x_aload_n C dX9_port_112 hL 0 rfl ?_
          refine x_iload_n C dX9_port_113 hL 1 rfl ?_
          refine x_iload_n C dX9_port_114 hL 2 rfl ?_
          obtain ⟨v19, h18, hd⟩ := bo_ex hd
          refine r_callV (a := x0) (ci := 9) (As := [.int x1, .int x2]) C (ct_X9_isAsking h18) mf_X9_isAsking ml_X9_284 mv_X9_isAsking rfl ⟨Nat.le_of_ble_eq_true rfl, Nat.le_of_ble_eq_true rfl⟩ dX9_port_115 (lx_size hL) rfl hR hS g1 ⟨Nat.le_refl _, Nat.le_refl _⟩ (cat_le [] (Nat.le_of_ble_eq_true rfl)) (fun H locs hR hS => ?_)
          refine W_st (st2 := [.int v19]) rfl ?_
          refine lv_if_eq (tgt := 125) hx hb dX9_port_118 (by decide) (fun c20 => ?_) (fun c20 => ?_)
          · rw [if_pos c20] at hd
            refine lv_iconst (v := 0) hx hb dX9_port_125 (by decide) ?_
            cases hd
            exact r_iret C dX9_port_126 hR hS
          · rw [if_neg c20] at hd
            refine lv_iconst (v := 1) hx hb dX9_port_121 (by decide) ?_
            refine lv_goto (tgt := 126) hx hb dX9_port_122 (by decide) ?_
            cases hd
            exact r_iret C dX9_port_126 hR hS
        rw [if_neg c10_4] at hd
        have z_0 := i32_ne c10_0
        have z_1 := i32_ne c10_1
        have z_2 := i32_ne c10_2
        have z_3 := i32_ne c10_3
        have z_4 := i32_ne c10_4
        refine lv_tableOut (tgt := 127) hx hb dX9_port_32 (by simp only [show ((0 : Int32)).toInt = 0 from rfl, show ((1 : Int32)).toInt = 1 from rfl, show ((2 : Int32)).toInt = 2 from rfl, show ((3 : Int32)).toInt = 3 from rfl, show ((4 : Int32)).toInt = 4 from rfl] at z_0 z_1 z_2 z_3 z_4; omega) (by decide) ?_
        refine lv_iconst (v := (-1)) hx hb dX9_port_127 (by decide) ?_
        cases hd
        exact r_iret C dX9_port_128 hR hS
      · rw [if_pos c9] at hd
        refine lv_iconst (v := (-1)) hx hb dX9_port_29 (by decide) ?_
        cases hd
        exact r_iret C dX9_port_30 hR hS
end
set_option maxHeartbeats 4000000 in
set_option maxRecDepth 100000 in
theorem ct_X9_port {l : Launch} {b0 : Nat} {D : va_G} {E : Nat → ClassId} {G : Hp} {a0 : Nat} {a1 : Int32} {a2 : Int32} {a3 : Int32} {rr : Int32} (hd : d_X9_port a0 a1 a2 a3 G = some rr) : CT l yX9_port cX9_port 4 (some .int) 3 0 0 b0 D E [rv a0, .int a1, .int a2, .int a3] G (some (.int rr)) G := by
  refine CT_of (by decide +kernel) ?_
  intro p e s m below meth c C hnm hR
  refine r_entry [.inr a0, .inl a1, .inl a2, .inl a3] (n := 4) (Nat.le_of_ble_eq_true rfl) (lv := [(0, .inr a0), (1, .inl a1), (2, .inl a2), (3, .inl a3)]) rfl (fun ls hL => ?_)
  exact k_X9_port C (lx_sub hL [0, 1, 2, 3] rfl) hR ⟨fun _ _ => rfl, fun _ h => by cases h⟩ hd
