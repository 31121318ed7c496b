theorem dX12_readBlock_0 : decode cX12_readBlock 0 = .ok (.lload_n 2, 1) := by decide +kernel
theorem dX12_readBlock_1 : decode cX12_readBlock 1 = .ok (.ldc2_w 261, 3) := by decide +kernel
theorem dX12_readBlock_4 : decode cX12_readBlock 4 = .ok (.land, 1) := by decide +kernel
theorem dX12_readBlock_5 : decode cX12_readBlock 5 = .ok (.lstore 8, 2) := by decide +kernel
theorem dX12_readBlock_7 : decode cX12_readBlock 7 = .ok (.lload_n 2, 1) := by decide +kernel
theorem dX12_readBlock_8 : decode cX12_readBlock 8 = .ok (.lload 8, 2) := by decide +kernel
theorem dX12_readBlock_10 : decode cX12_readBlock 10 = .ok (.lcmp, 1) := by decide +kernel
theorem dX12_readBlock_11 : decode cX12_readBlock 11 = .ok (.ifCond .eq 7, 3) := by decide +kernel
theorem dX12_readBlock_14 : decode cX12_readBlock 14 = .ok (.iconst 1, 1) := by decide +kernel
theorem dX12_readBlock_15 : decode cX12_readBlock 15 = .ok (.goto 4, 3) := by decide +kernel
theorem dX12_readBlock_18 : decode cX12_readBlock 18 = .ok (.iconst 0, 1) := by decide +kernel
theorem dX12_readBlock_19 : decode cX12_readBlock 19 = .ok (.istore 10, 2) := by decide +kernel
theorem dX12_readBlock_21 : decode cX12_readBlock 21 = .ok (.iload 4, 2) := by decide +kernel
theorem dX12_readBlock_23 : decode cX12_readBlock 23 = .ok (.bipush 16, 2) := by decide +kernel
theorem dX12_readBlock_25 : decode cX12_readBlock 25 = .ok (.iand, 1) := by decide +kernel
theorem dX12_readBlock_26 : decode cX12_readBlock 26 = .ok (.ifCond .eq 7, 3) := by decide +kernel
theorem dX12_readBlock_29 : decode cX12_readBlock 29 = .ok (.iconst 4, 1) := by decide +kernel
theorem dX12_readBlock_30 : decode cX12_readBlock 30 = .ok (.goto 4, 3) := by decide +kernel
theorem dX12_readBlock_33 : decode cX12_readBlock 33 = .ok (.iconst 0, 1) := by decide +kernel
theorem dX12_readBlock_34 : decode cX12_readBlock 34 = .ok (.istore 11, 2) := by decide +kernel
theorem dX12_readBlock_36 : decode cX12_readBlock 36 = .ok (.lload 8, 2) := by decide +kernel
theorem dX12_readBlock_38 : decode cX12_readBlock 38 = .ok (.lload 5, 2) := by decide +kernel
theorem dX12_readBlock_40 : decode cX12_readBlock 40 = .ok (.lcmp, 1) := by decide +kernel
theorem dX12_readBlock_41 : decode cX12_readBlock 41 = .ok (.ifCond .le 11, 3) := by decide +kernel
theorem dX12_readBlock_44 : decode cX12_readBlock 44 = .ok (.aload_n 0, 1) := by decide +kernel
theorem dX12_readBlock_45 : decode cX12_readBlock 45 = .ok (.bipush 7, 2) := by decide +kernel
theorem dX12_readBlock_47 : decode cX12_readBlock 47 = .ok (.iload_n 1, 1) := by decide +kernel
theorem dX12_readBlock_48 : decode cX12_readBlock 48 = .ok (.invokevirtual 235, 3) := by decide +kernel
theorem dX12_readBlock_51 : decode cX12_readBlock 51 = .ok (.ireturn, 1) := by decide +kernel
theorem dX12_readBlock_52 : decode cX12_readBlock 52 = .ok (.lload 8, 2) := by decide +kernel
theorem dX12_readBlock_54 : decode cX12_readBlock 54 = .ok (.iload 11, 2) := by decide +kernel
theorem dX12_readBlock_56 : decode cX12_readBlock 56 = .ok (.i2l, 1) := by decide +kernel
theorem dX12_readBlock_57 : decode cX12_readBlock 57 = .ok (.ladd, 1) := by decide +kernel
theorem dX12_readBlock_58 : decode cX12_readBlock 58 = .ok (.aload_n 0, 1) := by decide +kernel
theorem dX12_readBlock_59 : decode cX12_readBlock 59 = .ok (.getfield 177, 3) := by decide +kernel
theorem dX12_readBlock_62 : decode cX12_readBlock 62 = .ok (.aload_n 0, 1) := by decide +kernel
theorem dX12_readBlock_63 : decode cX12_readBlock 63 = .ok (.getfield 232, 3) := by decide +kernel
theorem dX12_readBlock_66 : decode cX12_readBlock 66 = .ok (.isub, 1) := by decide +kernel
theorem dX12_readBlock_67 : decode cX12_readBlock 67 = .ok (.i2l, 1) := by decide +kernel
theorem dX12_readBlock_68 : decode cX12_readBlock 68 = .ok (.lcmp, 1) := by decide +kernel
theorem dX12_readBlock_69 : decode cX12_readBlock 69 = .ok (.ifCond .le 13, 3) := by decide +kernel
theorem dX12_readBlock_72 : decode cX12_readBlock 72 = .ok (.aload_n 0, 1) := by decide +kernel
theorem dX12_readBlock_73 : decode cX12_readBlock 73 = .ok (.iconst 1, 1) := by decide +kernel
theorem dX12_readBlock_74 : decode cX12_readBlock 74 = .ok (.aload_n 0, 1) := by decide +kernel
theorem dX12_readBlock_75 : decode cX12_readBlock 75 = .ok (.getfield 177, 3) := by decide +kernel
theorem dX12_readBlock_78 : decode cX12_readBlock 78 = .ok (.invokevirtual 235, 3) := by decide +kernel
theorem dX12_readBlock_81 : decode cX12_readBlock 81 = .ok (.ireturn, 1) := by decide +kernel
theorem dX12_readBlock_82 : decode cX12_readBlock 82 = .ok (.aload_n 0, 1) := by decide +kernel
theorem dX12_readBlock_83 : decode cX12_readBlock 83 = .ok (.getfield 232, 3) := by decide +kernel
theorem dX12_readBlock_86 : decode cX12_readBlock 86 = .ok (.istore 12, 2) := by decide +kernel
theorem dX12_readBlock_88 : decode cX12_readBlock 88 = .ok (.aload_n 0, 1) := by decide +kernel
theorem dX12_readBlock_89 : decode cX12_readBlock 89 = .ok (.getfield 232, 3) := by decide +kernel
theorem dX12_readBlock_92 : decode cX12_readBlock 92 = .ok (.lload 8, 2) := by decide +kernel
theorem dX12_readBlock_94 : decode cX12_readBlock 94 = .ok (.l2i, 1) := by decide +kernel
theorem dX12_readBlock_95 : decode cX12_readBlock 95 = .ok (.iadd, 1) := by decide +kernel
theorem dX12_readBlock_96 : decode cX12_readBlock 96 = .ok (.istore 13, 2) := by decide +kernel
theorem dX12_readBlock_98 : decode cX12_readBlock 98 = .ok (.iload 11, 2) := by decide +kernel
theorem dX12_readBlock_100 : decode cX12_readBlock 100 = .ok (.ifCond .le 35, 3) := by decide +kernel
theorem dX12_readBlock_103 : decode cX12_readBlock 103 = .ok (.aload_n 0, 1) := by decide +kernel
theorem dX12_readBlock_104 : decode cX12_readBlock 104 = .ok (.iload 13, 2) := by decide +kernel
theorem dX12_readBlock_106 : decode cX12_readBlock 106 = .ok (.iconst 4, 1) := by decide +kernel
theorem dX12_readBlock_107 : decode cX12_readBlock 107 = .ok (.invokevirtual 239, 3) := by decide +kernel
theorem dX12_readBlock_110 : decode cX12_readBlock 110 = .ok (.l2i, 1) := by decide +kernel
theorem dX12_readBlock_111 : decode cX12_readBlock 111 = .ok (.aload_n 0, 1) := by decide +kernel
theorem dX12_readBlock_112 : decode cX12_readBlock 112 = .ok (.getfield 170, 3) := by decide +kernel
theorem dX12_readBlock_115 : decode cX12_readBlock 115 = .ok (.iload 12, 2) := by decide +kernel
theorem dX12_readBlock_117 : decode cX12_readBlock 117 = .ok (.lload 8, 2) := by decide +kernel
theorem dX12_readBlock_119 : decode cX12_readBlock 119 = .ok (.l2i, 1) := by decide +kernel
theorem dX12_readBlock_120 : decode cX12_readBlock 120 = .ok (.invokestatic 180, 3) := by decide +kernel
theorem dX12_readBlock_123 : decode cX12_readBlock 123 = .ok (.if_icmp .eq 12, 3) := by decide +kernel
theorem dX12_readBlock_126 : decode cX12_readBlock 126 = .ok (.aload_n 0, 1) := by decide +kernel
theorem dX12_readBlock_127 : decode cX12_readBlock 127 = .ok (.bipush 8, 2) := by decide +kernel
theorem dX12_readBlock_129 : decode cX12_readBlock 129 = .ok (.iload 13, 2) := by decide +kernel
theorem dX12_readBlock_131 : decode cX12_readBlock 131 = .ok (.invokevirtual 235, 3) := by decide +kernel
theorem dX12_readBlock_134 : decode cX12_readBlock 134 = .ok (.ireturn, 1) := by decide +kernel
theorem dX12_readBlock_135 : decode cX12_readBlock 135 = .ok (.aload_n 0, 1) := by decide +kernel
theorem dX12_readBlock_136 : decode cX12_readBlock 136 = .ok (.getfield 108, 3) := by decide +kernel
theorem dX12_readBlock_139 : decode cX12_readBlock 139 = .ok (.istore 14, 2) := by decide +kernel
theorem dX12_readBlock_141 : decode cX12_readBlock 141 = .ok (.iload 10, 2) := by decide +kernel
theorem dX12_readBlock_143 : decode cX12_readBlock 143 = .ok (.ifCond .eq 61, 3) := by decide +kernel
theorem dX12_readBlock_146 : decode cX12_readBlock 146 = .ok (.aload_n 0, 1) := by decide +kernel
theorem dX12_readBlock_147 : decode cX12_readBlock 147 = .ok (.getfield 108, 3) := by decide +kernel
theorem dX12_readBlock_150 : decode cX12_readBlock 150 = .ok (.i2l, 1) := by decide +kernel
theorem dX12_readBlock_151 : decode cX12_readBlock 151 = .ok (.lload 8, 2) := by decide +kernel
theorem dX12_readBlock_153 : decode cX12_readBlock 153 = .ok (.ladd, 1) := by decide +kernel
theorem dX12_readBlock_154 : decode cX12_readBlock 154 = .ok (.ldc2_w 245, 3) := by decide +kernel
theorem dX12_readBlock_157 : decode cX12_readBlock 157 = .ok (.lcmp, 1) := by decide +kernel
theorem dX12_readBlock_158 : decode cX12_readBlock 158 = .ok (.ifCond .le 11, 3) := by decide +kernel
theorem dX12_readBlock_161 : decode cX12_readBlock 161 = .ok (.aload_n 0, 1) := by decide +kernel
theorem dX12_readBlock_162 : decode cX12_readBlock 162 = .ok (.bipush 12, 2) := by decide +kernel
theorem dX12_readBlock_164 : decode cX12_readBlock 164 = .ok (.iload_n 1, 1) := by decide +kernel
theorem dX12_readBlock_165 : decode cX12_readBlock 165 = .ok (.invokevirtual 235, 3) := by decide +kernel
theorem dX12_readBlock_168 : decode cX12_readBlock 168 = .ok (.ireturn, 1) := by decide +kernel
theorem dX12_readBlock_169 : decode cX12_readBlock 169 = .ok (.aload_n 0, 1) := by decide +kernel
theorem dX12_readBlock_170 : decode cX12_readBlock 170 = .ok (.getfield 232, 3) := by decide +kernel
theorem dX12_readBlock_173 : decode cX12_readBlock 173 = .ok (.iload 13, 2) := by decide +kernel
theorem dX12_readBlock_175 : decode cX12_readBlock 175 = .ok (.if_icmp .ge 55, 3) := by decide +kernel
theorem dX12_readBlock_178 : decode cX12_readBlock 178 = .ok (.aload_n 0, 1) := by decide +kernel
theorem dX12_readBlock_179 : decode cX12_readBlock 179 = .ok (.aload_n 0, 1) := by decide +kernel
theorem dX12_readBlock_180 : decode cX12_readBlock 180 = .ok (.getfield 170, 3) := by decide +kernel
theorem dX12_readBlock_183 : decode cX12_readBlock 183 = .ok (.aload_n 0, 1) := by decide +kernel
theorem dX12_readBlock_184 : decode cX12_readBlock 184 = .ok (.getfield 232, 3) := by decide +kernel
theorem dX12_readBlock_187 : decode cX12_readBlock 187 = .ok (.iaload, 1) := by decide +kernel
theorem dX12_readBlock_188 : decode cX12_readBlock 188 = .ok (.invokevirtual 111, 3) := by decide +kernel
theorem dX12_readBlock_191 : decode cX12_readBlock 191 = .ok (.aload_n 0, 1) := by decide +kernel
theorem dX12_readBlock_192 : decode cX12_readBlock 192 = .ok (.dup, 1) := by decide +kernel
theorem dX12_readBlock_193 : decode cX12_readBlock 193 = .ok (.getfield 232, 3) := by decide +kernel
theorem dX12_readBlock_196 : decode cX12_readBlock 196 = .ok (.iconst 1, 1) := by decide +kernel
theorem dX12_readBlock_197 : decode cX12_readBlock 197 = .ok (.iadd, 1) := by decide +kernel
theorem dX12_readBlock_198 : decode cX12_readBlock 198 = .ok (.putfield 232, 3) := by decide +kernel
theorem dX12_readBlock_201 : decode cX12_readBlock 201 = .ok (.goto (-32), 3) := by decide +kernel
theorem dX12_readBlock_204 : decode cX12_readBlock 204 = .ok (.aload_n 0, 1) := by decide +kernel
theorem dX12_readBlock_205 : decode cX12_readBlock 205 = .ok (.iload 13, 2) := by decide +kernel
theorem dX12_readBlock_207 : decode cX12_readBlock 207 = .ok (.iload 4, 2) := by decide +kernel
theorem dX12_readBlock_209 : decode cX12_readBlock 209 = .ok (.bipush 32, 2) := by decide +kernel
theorem dX12_readBlock_211 : decode cX12_readBlock 211 = .ok (.iand, 1) := by decide +kernel
theorem dX12_readBlock_212 : decode cX12_readBlock 212 = .ok (.ifCond .eq 8, 3) := by decide +kernel
theorem dX12_readBlock_215 : decode cX12_readBlock 215 = .ok (.iload 14, 2) := by decide +kernel
theorem dX12_readBlock_217 : decode cX12_readBlock 217 = .ok (.goto 5, 3) := by decide +kernel
theorem dX12_readBlock_220 : decode cX12_readBlock 220 = .ok (.iload 7, 2) := by decide +kernel
theorem dX12_readBlock_222 : decode cX12_readBlock 222 = .ok (.invokevirtual 263, 3) := by decide +kernel
theorem dX12_readBlock_225 : decode cX12_readBlock 225 = .ok (.ifCond .ne 5, 3) := by decide +kernel
theorem dX12_readBlock_228 : decode cX12_readBlock 228 = .ok (.iconst 0, 1) := by decide +kernel
theorem dX12_readBlock_229 : decode cX12_readBlock 229 = .ok (.ireturn, 1) := by decide +kernel
theorem dX12_readBlock_230 : decode cX12_readBlock 230 = .ok (.aload_n 0, 1) := by decide +kernel
theorem dX12_readBlock_231 : decode cX12_readBlock 231 = .ok (.iload 12, 2) := by decide +kernel
theorem dX12_readBlock_233 : decode cX12_readBlock 233 = .ok (.lload 8, 2) := by decide +kernel
theorem dX12_readBlock_235 : decode cX12_readBlock 235 = .ok (.l2i, 1) := by decide +kernel
theorem dX12_readBlock_236 : decode cX12_readBlock 236 = .ok (.aload_n 0, 1) := by decide +kernel
theorem dX12_readBlock_237 : decode cX12_readBlock 237 = .ok (.getfield 108, 3) := by decide +kernel
theorem dX12_readBlock_240 : decode cX12_readBlock 240 = .ok (.iload 14, 2) := by decide +kernel
theorem dX12_readBlock_242 : decode cX12_readBlock 242 = .ok (.isub, 1) := by decide +kernel
theorem dX12_readBlock_243 : decode cX12_readBlock 243 = .ok (.iload 10, 2) := by decide +kernel
theorem dX12_readBlock_245 : decode cX12_readBlock 245 = .ok (.invokevirtual 193, 3) := by decide +kernel
theorem dX12_readBlock_248 : decode cX12_readBlock 248 = .ok (.aload_n 0, 1) := by decide +kernel
theorem dX12_readBlock_249 : decode cX12_readBlock 249 = .ok (.iload 13, 2) := by decide +kernel
theorem dX12_readBlock_251 : decode cX12_readBlock 251 = .ok (.iload 11, 2) := by decide +kernel
theorem dX12_readBlock_253 : decode cX12_readBlock 253 = .ok (.iadd, 1) := by decide +kernel
theorem dX12_readBlock_254 : decode cX12_readBlock 254 = .ok (.putfield 232, 3) := by decide +kernel
theorem dX12_readBlock_257 : decode cX12_readBlock 257 = .ok (.iconst 1, 1) := by decide +kernel
theorem dX12_readBlock_258 : decode cX12_readBlock 258 = .ok (.ireturn, 1) := by decide +kernel
def m_Mo_readBlock_J230 (h0_freshSize : Int32) (h0_newMany : Int32) (h0_at : Int32) (h0_newBlocks_n : Nat) (h0_newBlocks_f : Nat → Int32) (v8_1 : Int64) (s2 : Int32) (s3 : Int32) (v13_4 : Int32) (f5 : Nat → Int32) (g6 : Int32) (g7 : Int32) (g8 : Int32) (g9 : Int32) (g10 : Int32) (g11 : Int32) (g12 : Int32) : Option (Int32 × Int32 × Int32 × Int32 × Int32 × Int32 × Int32 × Int32 × Int32 × (Nat → Int32) × (Nat → Int32)) :=
  (m_Mo_note h0_at (v8_1.toInt32) (g12 - h0_freshSize) s2 g6 g7 g8 h0_newMany h0_newBlocks_n h0_newBlocks_f).bind fun (u13, u14) =>
  bnd (v13_4 + s3) fun p_15 =>
  some ((1 : Int32), g12, g6, g7, g8, u13, g9, g10, p_15, f5, u14)
def m_Mo_readBlock_J222 (h0_dictSize : Int32) (h0_freshSize : Int32) (h0_newMany : Int32) (h0_rule : Int32) (h0_place : Int32) (h0_at : Int32) (h0_in_n : Nat) (h0_in_f : Nat → Int32) (h0_fresh_n : Nat) (h0_fresh_f : Nat → Int32) (h0_newBlocks_n : Nat) (h0_newBlocks_f : Nat → Int32) (h0_dict_n : Nat) (h0_dict_f : Nat → Int32) (v8_1 : Int64) (s2 : Int32) (s3 : Int32) (v13_4 : Int32) (s16 : Int32) : Option (Int32 × Int32 × Int32 × Int32 × Int32 × Int32 × Int32 × Int32 × Int32 × (Nat → Int32) × (Nat → Int32)) :=
  (m_Mo_readSequences v13_4 s16 h0_dictSize h0_freshSize h0_rule h0_place h0_at h0_in_n h0_in_f h0_fresh_n h0_fresh_f h0_dict_n h0_dict_f).bind fun (r17, u18, u19, u20, u21, u22, u23, u24, u25) =>
  if r17 = 0 then
    some ((0 : Int32), u18, u19, u20, u21, h0_newMany, u22, u23, u24, u25, h0_newBlocks_f)
  else
    m_Mo_readBlock_J230 h0_freshSize h0_newMany h0_at h0_newBlocks_n h0_newBlocks_f v8_1 s2 s3 v13_4 u25 u19 u20 u21 u22 u23 u24 u18
def m_Mo_readBlock_B169 (h0_copiesOf : Int32) (h0_literalsOf : Int32) (h0_partsOf : Int32) (h0_rule : Int32) (h0_place : Int32) (h0_in_n : Nat) (h0_in_f : Nat → Int32) (h0_fresh_n : Nat) (v13_4 : Int32) (f26 : Nat → Int32) (g27 : Int32) (g28 : Int32) : Option (((Nat → Int32) × Int32 × Int32) ⊕ (((Nat → Int32) × Int32 × Int32 × Int32 × Int32 × Int32 × Int32 × Int32))) :=
  if v13_4 ≤ g27 then
    some (.inr (f26, h0_copiesOf, h0_literalsOf, h0_partsOf, h0_rule, h0_place, g27, g28))
  else
    chk g27 h0_in_n <|
    (m_Mo_put (h0_in_f g27.toNatClampNeg) g28 h0_fresh_n f26).bind fun (u29, u30) =>
    bnd (g27 + (1 : Int32)) fun p_31 =>
    some (.inl (u30, p_31, u29))
def m_Mo_readBlock_J135 (a1 : Int32) (a3 : Int32) (a5 : Int32) (h0_dictSize : Int32) (h0_freshSize : Int32) (h0_copiesOf : Int32) (h0_literalsOf : Int32) (h0_partsOf : Int32) (h0_newMany : Int32) (h0_rule : Int32) (h0_place : Int32) (h0_at : Int32) (h0_in_n : Nat) (h0_in_f : Nat → Int32) (h0_fresh_n : Nat) (h0_fresh_f : Nat → Int32) (h0_newBlocks_n : Nat) (h0_newBlocks_f : Nat → Int32) (h0_dict_n : Nat) (h0_dict_f : Nat → Int32) (v8_1 : Int64) (s2 : Int32) (s3 : Int32) (v13_4 : Int32) : Option (Int32 × Int32 × Int32 × Int32 × Int32 × Int32 × Int32 × Int32 × Int32 × (Nat → Int32) × (Nat → Int32)) :=
  if s2 = 0 then
    if (a3 &&& (32 : Int32)) = 0 then
      m_Mo_readBlock_J222 h0_dictSize h0_freshSize h0_newMany h0_rule h0_place h0_at h0_in_n h0_in_f h0_fresh_n h0_fresh_f h0_newBlocks_n h0_newBlocks_f h0_dict_n h0_dict_f v8_1 s2 s3 v13_4 a5
    else
      m_Mo_readBlock_J222 h0_dictSize h0_freshSize h0_newMany h0_rule h0_place h0_at h0_in_n h0_in_f h0_fresh_n h0_fresh_f h0_newBlocks_n h0_newBlocks_f h0_dict_n h0_dict_f v8_1 s2 s3 v13_4 h0_freshSize
  else
    if (lg_cmp ((h0_freshSize.toInt64) + v8_1) (12000 : Int64)) ≤ 0 then
      (iter (fun st => m_Mo_readBlock_B169 h0_copiesOf h0_literalsOf h0_partsOf h0_rule h0_place h0_in_n h0_in_f h0_fresh_n v13_4 st.1 st.2.1 st.2.2) FU (h0_fresh_f, h0_at, h0_freshSize)).bind fun o => m_Mo_readBlock_J230 h0_freshSize h0_newMany h0_at h0_newBlocks_n h0_newBlocks_f v8_1 s2 s3 v13_4 o.1 o.2.1 o.2.2.1 o.2.2.2.1 o.2.2.2.2.1 o.2.2.2.2.2.1 o.2.2.2.2.2.2.1 o.2.2.2.2.2.2.2
    else
      (m_Mo_no (12 : Int32) a1).bind fun (r32, u33, u34) =>
      bch r32 <|
      some (r32, h0_freshSize, h0_copiesOf, h0_literalsOf, h0_partsOf, h0_newMany, u33, u34, h0_at, h0_fresh_f, h0_newBlocks_f)
def m_Mo_readBlock_J34 (a1 : Int32) (a3 : Int32) (a4 : Int64) (a5 : Int32) (h0_inSize : Int32) (h0_dictSize : Int32) (h0_freshSize : Int32) (h0_copiesOf : Int32) (h0_literalsOf : Int32) (h0_partsOf : Int32) (h0_newMany : Int32) (h0_rule : Int32) (h0_place : Int32) (h0_at : Int32) (h0_in_n : Nat) (h0_in_f : Nat → Int32) (h0_fresh_n : Nat) (h0_fresh_f : Nat → Int32) (h0_newBlocks_n : Nat) (h0_newBlocks_f : Nat → Int32) (h0_dict_n : Nat) (h0_dict_f : Nat → Int32) (v8_1 : Int64) (s2 : Int32) (s3 : Int32) : Option (Int32 × Int32 × Int32 × Int32 × Int32 × Int32 × Int32 × Int32 × Int32 × (Nat → Int32) × (Nat → Int32)) :=
  if (lg_cmp v8_1 a4) ≤ 0 then
    if (lg_cmp (v8_1 + (s3.toInt64)) ((h0_inSize - h0_at).toInt64)) ≤ 0 then
      bnd (h0_at + (v8_1.toInt32)) fun v13_4 =>
      if s3 ≤ 0 then
        m_Mo_readBlock_J135 a1 a3 a5 h0_dictSize h0_freshSize h0_copiesOf h0_literalsOf h0_partsOf h0_newMany h0_rule h0_place h0_at h0_in_n h0_in_f h0_fresh_n h0_fresh_f h0_newBlocks_n h0_newBlocks_f h0_dict_n h0_dict_f v8_1 s2 s3 v13_4
      else
        (m_Mo_number v13_4 (4 : Int32) h0_in_n h0_in_f).bind fun r35 =>
        (m_Mo_sumOf h0_at (v8_1.toInt32) h0_in_n h0_in_f).bind fun r36 =>
        if (r35.toInt32) = r36 then
          m_Mo_readBlock_J135 a1 a3 a5 h0_dictSize h0_freshSize h0_copiesOf h0_literalsOf h0_partsOf h0_newMany h0_rule h0_place h0_at h0_in_n h0_in_f h0_fresh_n h0_fresh_f h0_newBlocks_n h0_newBlocks_f h0_dict_n h0_dict_f v8_1 s2 s3 v13_4
        else
          (m_Mo_no (8 : Int32) v13_4).bind fun (r37, u38, u39) =>
          bch r37 <|
          some (r37, h0_freshSize, h0_copiesOf, h0_literalsOf, h0_partsOf, h0_newMany, u38, u39, h0_at, h0_fresh_f, h0_newBlocks_f)
    else
      (m_Mo_no (1 : Int32) h0_inSize).bind fun (r40, u41, u42) =>
      bch r40 <|
      some (r40, h0_freshSize, h0_copiesOf, h0_literalsOf, h0_partsOf, h0_newMany, u41, u42, h0_at, h0_fresh_f, h0_newBlocks_f)
  else
    (m_Mo_no (7 : Int32) a1).bind fun (r43, u44, u45) =>
    bch r43 <|
    some (r43, h0_freshSize, h0_copiesOf, h0_literalsOf, h0_partsOf, h0_newMany, u44, u45, h0_at, h0_fresh_f, h0_newBlocks_f)
def m_Mo_readBlock_J19 (a1 : Int32) (a3 : Int32) (a4 : Int64) (a5 : Int32) (h0_inSize : Int32) (h0_dictSize : Int32) (h0_freshSize : Int32) (h0_copiesOf : Int32) (h0_literalsOf : Int32) (h0_partsOf : Int32) (h0_newMany : Int32) (h0_rule : Int32) (h0_place : Int32) (h0_at : Int32) (h0_in_n : Nat) (h0_in_f : Nat → Int32) (h0_fresh_n : Nat) (h0_fresh_f : Nat → Int32) (h0_newBlocks_n : Nat) (h0_newBlocks_f : Nat → Int32) (h0_dict_n : Nat) (h0_dict_f : Nat → Int32) (v8_1 : Int64) (s2 : Int32) : Option (Int32 × Int32 × Int32 × Int32 × Int32 × Int32 × Int32 × Int32 × Int32 × (Nat → Int32) × (Nat → Int32)) :=
  if (a3 &&& (16 : Int32)) = 0 then
    m_Mo_readBlock_J34 a1 a3 a4 a5 h0_inSize h0_dictSize h0_freshSize h0_copiesOf h0_literalsOf h0_partsOf h0_newMany h0_rule h0_place h0_at h0_in_n h0_in_f h0_fresh_n h0_fresh_f h0_newBlocks_n h0_newBlocks_f h0_dict_n h0_dict_f v8_1 s2 (0 : Int32)
  else
    m_Mo_readBlock_J34 a1 a3 a4 a5 h0_inSize h0_dictSize h0_freshSize h0_copiesOf h0_literalsOf h0_partsOf h0_newMany h0_rule h0_place h0_at h0_in_n h0_in_f h0_fresh_n h0_fresh_f h0_newBlocks_n h0_newBlocks_f h0_dict_n h0_dict_f v8_1 s2 (4 : Int32)
def m_Mo_readBlock (a1 : Int32) (a2 : Int64) (a3 : Int32) (a4 : Int64) (a5 : Int32) (h0_inSize : Int32) (h0_dictSize : Int32) (h0_freshSize : Int32) (h0_copiesOf : Int32) (h0_literalsOf : Int32) (h0_partsOf : Int32) (h0_newMany : Int32) (h0_rule : Int32) (h0_place : Int32) (h0_at : Int32) (h0_in_n : Nat) (h0_in_f : Nat → Int32) (h0_fresh_n : Nat) (h0_fresh_f : Nat → Int32) (h0_newBlocks_n : Nat) (h0_newBlocks_f : Nat → Int32) (h0_dict_n : Nat) (h0_dict_f : Nat → Int32) : Option (Int32 × Int32 × Int32 × Int32 × Int32 × Int32 × Int32 × Int32 × Int32 × (Nat → Int32) × (Nat → Int32)) :=
  bnd (a2 &&& (2147483647 : Int64)) fun v8_1 =>
  if (lg_cmp a2 v8_1) = 0 then
    m_Mo_readBlock_J19 a1 a3 a4 a5 h0_inSize h0_dictSize h0_freshSize h0_copiesOf h0_literalsOf h0_partsOf h0_newMany h0_rule h0_place h0_at h0_in_n h0_in_f h0_fresh_n h0_fresh_f h0_newBlocks_n h0_newBlocks_f h0_dict_n h0_dict_f v8_1 (0 : Int32)
  else
    m_Mo_readBlock_J19 a1 a3 a4 a5 h0_inSize h0_dictSize h0_freshSize h0_copiesOf h0_literalsOf h0_partsOf h0_newMany h0_rule h0_place h0_at h0_in_n h0_in_f h0_fresh_n h0_fresh_f h0_newBlocks_n h0_newBlocks_f h0_dict_n h0_dict_f v8_1 (1 : Int32)
def rm_Mo_readBlock : Room := { frames := 2, cells := 0, slots := 0, locals := 55 }
set_option maxHeartbeats 4000000 in
set_option maxRecDepth 100000 in
theorem c_Mo_readBlock {l : Launch} {dC : Nat → ClassId} {dI : Nat → Nat → Nat} {cB cI : ClassId} {sz : Nat} {h0 : Nat} {a1 : Int32} {a2 : Int64} {a3 : Int32} {a4 : Int64} {a5 : Int32} {h0_in : Nat} {h0_fresh : Nat} {h0_newBlocks : Nat} {h0_dict : Nat} {h0_inSize : Int32} {w_h0_out : Value} {w_h0_outSize : Value} {h0_dictSize : Int32} {w_h0_told : Value} {h0_freshSize : Int32} {w_h0_text : Value} {w_h0_lean : Value} {w_h0_size : Value} {w_h0_most : Value} {w_h0_offset : Value} {w_h0_copyAt : Value} {w_h0_copies : Value} {w_h0_copyLength : Value} {w_h0_copyOffset : Value} {w_h0_fromHere : Value} {w_h0_withCopy : Value} {w_h0_bestCopy : Value} {w_h0_bestLiterals : Value} {h0_copiesOf : Int32} {h0_literalsOf : Int32} {h0_partsOf : Int32} {w_h0_blocks : Value} {w_h0_blockMany : Value} {h0_newMany : Int32} {h0_rule : Int32} {h0_place : Int32} {h0_at : Int32} {h0_in_n : Nat} {h0_in_f : Nat → Int32} {h0_fresh_n : Nat} {h0_fresh_f : Nat → Int32} {h0_newBlocks_n : Nat} {h0_newBlocks_f : Nat → Int32} {h0_dict_n : Nat} {h0_dict_f : Nat → Int32} {o_r : Int32} {o_h0_freshSize : Int32} {o_h0_copiesOf : Int32} {o_h0_literalsOf : Int32} {o_h0_partsOf : Int32} {o_h0_newMany : Int32} {o_h0_rule : Int32} {o_h0_place : Int32} {o_h0_at : Int32} {o_h0_fresh_f : Nat → Int32} {o_h0_newBlocks_f : Nat → Int32} (hf : m_Mo_readBlock a1 a2 a3 a4 a5 h0_inSize h0_dictSize h0_freshSize h0_copiesOf h0_literalsOf h0_partsOf h0_newMany h0_rule h0_place h0_at h0_in_n h0_in_f h0_fresh_n h0_fresh_f h0_newBlocks_n h0_newBlocks_f h0_dict_n h0_dict_f = some (o_r, o_h0_freshSize, o_h0_copiesOf, o_h0_literalsOf, o_h0_partsOf, o_h0_newMany, o_h0_rule, o_h0_place, o_h0_at, o_h0_fresh_f, o_h0_newBlocks_f)) : Met l yX12_readBlock (Cond.code yX12_readBlock cX12_readBlock 15 (some .boolean) :: lw_G) rm_Mo_readBlock (PreC (dC, dI) [(cB, .byte), (cI, .int)] [.ref h0, .int a1, .long a2, .int a3, .long a4, .int a5] sz [(h0, .inr (10, [.ref h0_in, .int h0_inSize, w_h0_out, w_h0_outSize, .ref h0_dict, .int h0_dictSize, w_h0_told, .ref h0_fresh, .int h0_freshSize, w_h0_text, w_h0_lean, w_h0_size, w_h0_most, w_h0_offset, w_h0_copyAt, w_h0_copies, w_h0_copyLength, w_h0_copyOffset, w_h0_fromHere, w_h0_withCopy, w_h0_bestCopy, w_h0_bestLiterals, .int h0_copiesOf, .int h0_literalsOf, .int h0_partsOf, w_h0_blocks, w_h0_blockMany, .ref h0_newBlocks, .int h0_newMany, .int h0_rule, .int h0_place, .int h0_at])), (h0_in, .inl (cI, h0_in_n, .inl h0_in_f)), (h0_fresh, .inl (cI, h0_fresh_n, .inl h0_fresh_f)), (h0_newBlocks, .inl (cI, h0_newBlocks_n, .inl h0_newBlocks_f)), (h0_dict, .inl (cI, h0_dict_n, .inl h0_dict_f))]) (QcI o_r (dC, dI) [(h0, .inr (10, [.ref h0_in, .int h0_inSize, w_h0_out, w_h0_outSize, .ref h0_dict, .int h0_dictSize, w_h0_told, .ref h0_fresh, .int o_h0_freshSize, w_h0_text, w_h0_lean, w_h0_size, w_h0_most, w_h0_offset, w_h0_copyAt, w_h0_copies, w_h0_copyLength, w_h0_copyOffset, w_h0_fromHere, w_h0_withCopy, w_h0_bestCopy, w_h0_bestLiterals, .int o_h0_copiesOf, .int o_h0_literalsOf, .int o_h0_partsOf, w_h0_blocks, w_h0_blockMany, .ref h0_newBlocks, .int o_h0_newMany, .int o_h0_rule, .int o_h0_place, .int o_h0_at])), (h0_in, .inl (cI, h0_in_n, .inl h0_in_f)), (h0_fresh, .inl (cI, h0_fresh_n, .inl o_h0_fresh_f)), (h0_newBlocks, .inl (cI, h0_newBlocks_n, .inl o_h0_newBlocks_f)), (h0_dict, .inl (cI, h0_dict_n, .inl h0_dict_f))] (va_A [(h0, .inr (10, [.ref h0_in, .int h0_inSize, w_h0_out, w_h0_outSize, .ref h0_dict, .int h0_dictSize, w_h0_told, .ref h0_fresh, .int h0_freshSize, w_h0_text, w_h0_lean, w_h0_size, w_h0_most, w_h0_offset, w_h0_copyAt, w_h0_copies, w_h0_copyLength, w_h0_copyOffset, w_h0_fromHere, w_h0_withCopy, w_h0_bestCopy, w_h0_bestLiterals, .int h0_copiesOf, .int h0_literalsOf, .int h0_partsOf, w_h0_blocks, w_h0_blockMany, .ref h0_newBlocks, .int h0_newMany, .int h0_rule, .int h0_place, .int h0_at])), (h0_in, .inl (cI, h0_in_n, .inl h0_in_f)), (h0_fresh, .inl (cI, h0_fresh_n, .inl h0_fresh_f)), (h0_newBlocks, .inl (cI, h0_newBlocks_n, .inl h0_newBlocks_f)), (h0_dict, .inl (cI, h0_dict_n, .inl h0_dict_f))] sz)) 0 0 (va_A [(h0, .inr (10, [.ref h0_in, .int h0_inSize, w_h0_out, w_h0_outSize, .ref h0_dict, .int h0_dictSize, w_h0_told, .ref h0_fresh, .int h0_freshSize, w_h0_text, w_h0_lean, w_h0_size, w_h0_most, w_h0_offset, w_h0_copyAt, w_h0_copies, w_h0_copyLength, w_h0_copyOffset, w_h0_fromHere, w_h0_withCopy, w_h0_bestCopy, w_h0_bestLiterals, .int h0_copiesOf, .int h0_literalsOf, .int h0_partsOf, w_h0_blocks, w_h0_blockMany, .ref h0_newBlocks, .int h0_newMany, .int h0_rule, .int h0_place, .int h0_at])), (h0_in, .inl (cI, h0_in_n, .inl h0_in_f)), (h0_fresh, .inl (cI, h0_fresh_n, .inl h0_fresh_f)), (h0_newBlocks, .inl (cI, h0_newBlocks_n, .inl h0_newBlocks_f)), (h0_dict, .inl (cI, h0_dict_n, .inl h0_dict_f))] sz) := by
  refine met_of (Qf := fun A => QcI o_r (dC, dI) [(h0, .inr (10, [.ref h0_in, .int h0_inSize, w_h0_out, w_h0_outSize, .ref h0_dict, .int h0_dictSize, w_h0_told, .ref h0_fresh, .int o_h0_freshSize, w_h0_text, w_h0_lean, w_h0_size, w_h0_most, w_h0_offset, w_h0_copyAt, w_h0_copies, w_h0_copyLength, w_h0_copyOffset, w_h0_fromHere, w_h0_withCopy, w_h0_bestCopy, w_h0_bestLiterals, .int o_h0_copiesOf, .int o_h0_literalsOf, .int o_h0_partsOf, w_h0_blocks, w_h0_blockMany, .ref h0_newBlocks, .int o_h0_newMany, .int o_h0_rule, .int o_h0_place, .int o_h0_at])), (h0_in, .inl (cI, h0_in_n, .inl h0_in_f)), (h0_fresh, .inl (cI, h0_fresh_n, .inl o_h0_fresh_f)), (h0_newBlocks, .inl (cI, h0_newBlocks_n, .inl o_h0_newBlocks_f)), (h0_dict, .inl (cI, h0_dict_n, .inl h0_dict_f))] A) (by decide) (Nat.le_of_ble_eq_true rfl) ?_
  intro p e s m below meth c A ls Q hx hb hr hml hown hts hlocks hnm hP hK hD hN hT hA hl hQ
  have hown : s.vm.findClass RX12 = some m.cls := hown
  have hS : va_S A s.heap s.heap [] := va_S.rf
  have hl : lv_has ls 15 [(0, .ref h0), (1, .int a1), (2, .long a2), (4, .int a3), (5, .long a4), (7, .int a5)] := hl
  unfold m_Mo_readBlock at hf
  refine lv_lload_n hx hb dX12_readBlock_0 rfl (lv_at hl 2 rfl) ?_
  refine lv_ldc2 hx hb hown (hts _ kw_1369) dX12_readBlock_1 ?_
  refine lv_land hx hb dX12_readBlock_4 ?_
  refine lv_topl (fun v8_1 e_v8_1 => ?_)
  replace hf := bnd_at e_v8_1 hf
  refine lv_lstore (lv' := [(8, .long v8_1), (0, .ref h0), (1, .int a1), (2, .long a2), (4, .int a3), (5, .long a4), (7, .int a5)]) hx hb dX12_readBlock_5 hl (by decide) rfl (fun ls hl => ?_)
  refine lv_lload_n hx hb dX12_readBlock_7 rfl (lv_at hl 3 rfl) ?_
  refine lv_lload hx hb dX12_readBlock_8 (lv_at hl 0 rfl) ?_
  refine W.lcmp hx hb dX12_readBlock_10 ?_
  have hJ_19 : ∀ (s2 : Int32) (H : Heap) (locs : List Loc) (ls : Array Slot), m_Mo_readBlock_J19 a1 a3 a4 a5 h0_inSize h0_dictSize h0_freshSize h0_copiesOf h0_literalsOf h0_partsOf h0_newMany h0_rule h0_place h0_at h0_in_n h0_in_f h0_fresh_n h0_fresh_f h0_newBlocks_n h0_newBlocks_f h0_dict_n h0_dict_f v8_1 s2 = some (o_r, o_h0_freshSize, o_h0_copiesOf, o_h0_literalsOf, o_h0_partsOf, o_h0_newMany, o_h0_rule, o_h0_place, o_h0_at, o_h0_fresh_f, o_h0_newBlocks_f) → va_P (dC, dI) vwCl [(h0, .inr (10, [.ref h0_in, .int h0_inSize, w_h0_out, w_h0_outSize, .ref h0_dict, .int h0_dictSize, w_h0_told, .ref h0_fresh, .int h0_freshSize, w_h0_text, w_h0_lean, w_h0_size, w_h0_most, w_h0_offset, w_h0_copyAt, w_h0_copies, w_h0_copyLength, w_h0_copyOffset, w_h0_fromHere, w_h0_withCopy, w_h0_bestCopy, w_h0_bestLiterals, .int h0_copiesOf, .int h0_literalsOf, .int h0_partsOf, w_h0_blocks, w_h0_blockMany, .ref h0_newBlocks, .int h0_newMany, .int h0_rule, .int h0_place, .int h0_at])), (h0_in, .inl (cI, h0_in_n, .inl h0_in_f)), (h0_fresh, .inl (cI, h0_fresh_n, .inl h0_fresh_f)), (h0_newBlocks, .inl (cI, h0_newBlocks_n, .inl h0_newBlocks_f)), (h0_dict, .inl (cI, h0_dict_n, .inl h0_dict_f))] H → va_D A [(h0, .inr (10, [.ref h0_in, .int h0_inSize, w_h0_out, w_h0_outSize, .ref h0_dict, .int h0_dictSize, w_h0_told, .ref h0_fresh, .int h0_freshSize, w_h0_text, w_h0_lean, w_h0_size, w_h0_most, w_h0_offset, w_h0_copyAt, w_h0_copies, w_h0_copyLength, w_h0_copyOffset, w_h0_fromHere, w_h0_withCopy, w_h0_bestCopy, w_h0_bestLiterals, .int h0_copiesOf, .int h0_literalsOf, .int h0_partsOf, w_h0_blocks, w_h0_blockMany, .ref h0_newBlocks, .int h0_newMany, .int h0_rule, .int h0_place, .int h0_at])), (h0_in, .inl (cI, h0_in_n, .inl h0_in_f)), (h0_fresh, .inl (cI, h0_fresh_n, .inl h0_fresh_f)), (h0_newBlocks, .inl (cI, h0_newBlocks_n, .inl h0_newBlocks_f)), (h0_dict, .inl (cI, h0_dict_n, .inl h0_dict_f))] → va_S A s.heap H locs → lv_has ls 15 [(0, .ref h0), (1, .int a1), (4, .int a3), (5, .long a4), (7, .int a5), (8, .long v8_1)] → W p l e (rm_Mo_readBlock) s m ([.ref h0, .int a1, .long a2, .int a3, .long a4, .int a5] : List Value).toArray below meth c H locs 0 0 Q (F0 m 19 ls [.int s2]) := by
    intro s2 H locs ls hf hP hD hS hl
    unfold m_Mo_readBlock_J19 at hf
    refine lv_istore (lv' := [(10, .int s2), (0, .ref h0), (1, .int a1), (4, .int a3), (5, .long a4), (7, .int a5), (8, .long v8_1)]) hx hb dX12_readBlock_19 hl (by decide) rfl (fun ls hl => ?_)
    refine lv_iload hx hb dX12_readBlock_21 (lv_at hl 3 rfl) ?_
    refine lv_bipush (v := 16) hx hb dX12_readBlock_23 (by decide) ?_
    refine lv_iand hx hb dX12_readBlock_25 ?_
    have hJ_34 : ∀ (s3 : Int32) (H : Heap) (locs : List Loc) (ls : Array Slot), m_Mo_readBlock_J34 a1 a3 a4 a5 h0_inSize h0_dictSize h0_freshSize h0_copiesOf h0_literalsOf h0_partsOf h0_newMany h0_rule h0_place h0_at h0_in_n h0_in_f h0_fresh_n h0_fresh_f h0_newBlocks_n h0_newBlocks_f h0_dict_n h0_dict_f v8_1 s2 s3 = some (o_r, o_h0_freshSize, o_h0_copiesOf, o_h0_literalsOf, o_h0_partsOf, o_h0_newMany, o_h0_rule, o_h0_place, o_h0_at, o_h0_fresh_f, o_h0_newBlocks_f) → va_P (dC, dI) vwCl [(h0, .inr (10, [.ref h0_in, .int h0_inSize, w_h0_out, w_h0_outSize, .ref h0_dict, .int h0_dictSize, w_h0_told, .ref h0_fresh, .int h0_freshSize, w_h0_text, w_h0_lean, w_h0_size, w_h0_most, w_h0_offset, w_h0_copyAt, w_h0_copies, w_h0_copyLength, w_h0_copyOffset, w_h0_fromHere, w_h0_withCopy, w_h0_bestCopy, w_h0_bestLiterals, .int h0_copiesOf, .int h0_literalsOf, .int h0_partsOf, w_h0_blocks, w_h0_blockMany, .ref h0_newBlocks, .int h0_newMany, .int h0_rule, .int h0_place, .int h0_at])), (h0_in, .inl (cI, h0_in_n, .inl h0_in_f)), (h0_fresh, .inl (cI, h0_fresh_n, .inl h0_fresh_f)), (h0_newBlocks, .inl (cI, h0_newBlocks_n, .inl h0_newBlocks_f)), (h0_dict, .inl (cI, h0_dict_n, .inl h0_dict_f))] H → va_D A [(h0, .inr (10, [.ref h0_in, .int h0_inSize, w_h0_out, w_h0_outSize, .ref h0_dict, .int h0_dictSize, w_h0_told, .ref h0_fresh, .int h0_freshSize, w_h0_text, w_h0_lean, w_h0_size, w_h0_most, w_h0_offset, w_h0_copyAt, w_h0_copies, w_h0_copyLength, w_h0_copyOffset, w_h0_fromHere, w_h0_withCopy, w_h0_bestCopy, w_h0_bestLiterals, .int h0_copiesOf, .int h0_literalsOf, .int h0_partsOf, w_h0_blocks, w_h0_blockMany, .ref h0_newBlocks, .int h0_newMany, .int h0_rule, .int h0_place, .int h0_at])), (h0_in, .inl (cI, h0_in_n, .inl h0_in_f)), (h0_fresh, .inl (cI, h0_fresh_n, .inl h0_fresh_f)), (h0_newBlocks, .inl (cI, h0_newBlocks_n, .inl h0_newBlocks_f)), (h0_dict, .inl (cI, h0_dict_n, .inl h0_dict_f))] → va_S A s.heap H locs → lv_has ls 15 [(0, .ref h0), (1, .int a1), (4, .int a3), (5, .long a4), (7, .int a5), (8, .long v8_1), (10, .int s2)] → W p l e (rm_Mo_readBlock) s m ([.ref h0, .int a1, .long a2, .int a3, .long a4, .int a5] : List Value).toArray below meth c H locs 0 0 Q (F0 m 34 ls [.int s3]) := by
      intro s3 H locs ls hf hP hD hS hl
      unfold m_Mo_readBlock_J34 at hf
      refine lv_istore (lv' := [(11, .int s3), (0, .ref h0), (1, .int a1), (4, .int a3), (5, .long a4), (7, .int a5), (8, .long v8_1), (10, .int s2)]) hx hb dX12_readBlock_34 hl (by decide) rfl (fun ls hl => ?_)
      refine lv_lload hx hb dX12_readBlock_36 (lv_at hl 6 rfl) ?_
      refine lv_lload hx hb dX12_readBlock_38 (lv_at hl 4 rfl) ?_
      refine W.lcmp hx hb dX12_readBlock_40 ?_
      refine lv_if_le (tgt := 52) hx hb dX12_readBlock_41 (by decide) (fun c_41 => ?_) (fun c_41 => ?_)
      · replace hf := if_t c_41 hf
        refine lv_lload hx hb dX12_readBlock_52 (lv_at hl 6 rfl) ?_
        refine lv_iload hx hb dX12_readBlock_54 (lv_at hl 0 rfl) ?_
        refine lv_i2l (v := (s3.toInt64)) hx hb dX12_readBlock_56 rfl ?_
        refine lv_ladd hx hb dX12_readBlock_57 ?_
        refine lv_aload_n hx hb dX12_readBlock_58 rfl (lv_at hl 1 rfl) ?_
        refine va_get (D := (dC, dI)) (ci := 10) (v := .int h0_inSize) (C := RX12) (T := TX12) (N := 32) hx hb hts inG_X12 hown hK hP 0 rfl rfl 1 (by decide) (hts _ kw_1053) (fun _ h9 => h9) rfl dX12_readBlock_59 ?_
        refine lv_aload_n hx hb dX12_readBlock_62 rfl (lv_at hl 1 rfl) ?_
        refine va_get (D := (dC, dI)) (ci := 10) (v := .int h0_at) (C := RX12) (T := TX12) (N := 32) hx hb hts inG_X12 hown hK hP 0 rfl rfl 31 (by decide) (hts _ kw_1083) (fun _ h9 => h9) rfl dX12_readBlock_63 ?_
        refine lv_isub hx hb dX12_readBlock_66 ?_
        refine lv_i2l (v := ((h0_inSize - h0_at).toInt64)) hx hb dX12_readBlock_67 rfl ?_
        refine W.lcmp hx hb dX12_readBlock_68 ?_
        refine lv_if_le (tgt := 82) hx hb dX12_readBlock_69 (by decide) (fun c_69 => ?_) (fun c_69 => ?_)
        · replace hf := if_t c_69 hf
          refine lv_aload_n hx hb dX12_readBlock_82 rfl (lv_at hl 1 rfl) ?_
          refine va_get (D := (dC, dI)) (ci := 10) (v := .int h0_at) (C := RX12) (T := TX12) (N := 32) hx hb hts inG_X12 hown hK hP 0 rfl rfl 31 (by decide) (hts _ kw_1083) (fun _ h9 => h9) rfl dX12_readBlock_83 ?_
          refine lv_istore (lv' := [(12, .int h0_at), (11, .int s3), (0, .ref h0), (1, .int a1), (4, .int a3), (5, .long a4), (7, .int a5), (8, .long v8_1), (10, .int s2)]) hx hb dX12_readBlock_86 hl (by decide) rfl (fun ls hl => ?_)
          refine lv_aload_n hx hb dX12_readBlock_88 rfl (lv_at hl 2 rfl) ?_
          refine va_get (D := (dC, dI)) (ci := 10) (v := .int h0_at) (C := RX12) (T := TX12) (N := 32) hx hb hts inG_X12 hown hK hP 0 rfl rfl 31 (by decide) (hts _ kw_1083) (fun _ h9 => h9) rfl dX12_readBlock_89 ?_
          refine lv_lload hx hb dX12_readBlock_92 (lv_at hl 7 rfl) ?_
          refine lv_l2i (v := (v8_1.toInt32)) hx hb dX12_readBlock_94 rfl ?_
          refine lv_iadd hx hb dX12_readBlock_95 ?_
          refine lv_topi (fun v13_4 e_v13_4 => ?_)
          replace hf := bnd_at e_v13_4 hf
          refine lv_istore (lv' := [(13, .int v13_4), (12, .int h0_at), (11, .int s3), (0, .ref h0), (1, .int a1), (4, .int a3), (5, .long a4), (7, .int a5), (8, .long v8_1), (10, .int s2)]) hx hb dX12_readBlock_96 hl (by decide) rfl (fun ls hl => ?_)
          refine lv_iload hx hb dX12_readBlock_98 (lv_at hl 2 rfl) ?_
          have hJ_135 : ∀ (H : Heap) (locs : List Loc) (ls : Array Slot), m_Mo_readBlock_J135 a1 a3 a5 h0_dictSize h0_freshSize h0_copiesOf h0_literalsOf h0_partsOf h0_newMany h0_rule h0_place h0_at h0_in_n h0_in_f h0_fresh_n h0_fresh_f h0_newBlocks_n h0_newBlocks_f h0_dict_n h0_dict_f v8_1 s2 s3 v13_4 = some (o_r, o_h0_freshSize, o_h0_copiesOf, o_h0_literalsOf, o_h0_partsOf, o_h0_newMany, o_h0_rule, o_h0_place, o_h0_at, o_h0_fresh_f, o_h0_newBlocks_f) → va_P (dC, dI) vwCl [(h0, .inr (10, [.ref h0_in, .int h0_inSize, w_h0_out, w_h0_outSize, .ref h0_dict, .int h0_dictSize, w_h0_told, .ref h0_fresh, .int h0_freshSize, w_h0_text, w_h0_lean, w_h0_size, w_h0_most, w_h0_offset, w_h0_copyAt, w_h0_copies, w_h0_copyLength, w_h0_copyOffset, w_h0_fromHere, w_h0_withCopy, w_h0_bestCopy, w_h0_bestLiterals, .int h0_copiesOf, .int h0_literalsOf, .int h0_partsOf, w_h0_blocks, w_h0_blockMany, .ref h0_newBlocks, .int h0_newMany, .int h0_rule, .int h0_place, .int h0_at])), (h0_in, .inl (cI, h0_in_n, .inl h0_in_f)), (h0_fresh, .inl (cI, h0_fresh_n, .inl h0_fresh_f)), (h0_newBlocks, .inl (cI, h0_newBlocks_n, .inl h0_newBlocks_f)), (h0_dict, .inl (cI, h0_dict_n, .inl h0_dict_f))] H → va_D A [(h0, .inr (10, [.ref h0_in, .int h0_inSize, w_h0_out, w_h0_outSize, .ref h0_dict, .int h0_dictSize, w_h0_told, .ref h0_fresh, .int h0_freshSize, w_h0_text, w_h0_lean, w_h0_size, w_h0_most, w_h0_offset, w_h0_copyAt, w_h0_copies, w_h0_copyLength, w_h0_copyOffset, w_h0_fromHere, w_h0_withCopy, w_h0_bestCopy, w_h0_bestLiterals, .int h0_copiesOf, .int h0_literalsOf, .int h0_partsOf, w_h0_blocks, w_h0_blockMany, .ref h0_newBlocks, .int h0_newMany, .int h0_rule, .int h0_place, .int h0_at])), (h0_in, .inl (cI, h0_in_n, .inl h0_in_f)), (h0_fresh, .inl (cI, h0_fresh_n, .inl h0_fresh_f)), (h0_newBlocks, .inl (cI, h0_newBlocks_n, .inl h0_newBlocks_f)), (h0_dict, .inl (cI, h0_dict_n, .inl h0_dict_f))] → va_S A s.heap H locs → lv_has ls 15 [(0, .ref h0), (1, .int a1), (4, .int a3), (7, .int a5), (8, .long v8_1), (10, .int s2), (11, .int s3), (12, .int h0_at), (13, .int v13_4)] → W p l e (rm_Mo_readBlock) s m ([.ref h0, .int a1, .long a2, .int a3, .long a4, .int a5] : List Value).toArray below meth c H locs 0 0 Q (F0 m 135 ls []) := by
            intro  H locs ls hf hP hD hS hl
            unfold m_Mo_readBlock_J135 at hf
            refine lv_aload_n hx hb dX12_readBlock_135 rfl (lv_at hl 0 rfl) ?_
            refine va_get (D := (dC, dI)) (ci := 10) (v := .int h0_freshSize) (C := RX12) (T := TX12) (N := 32) hx hb hts inG_X12 hown hK hP 0 rfl rfl 8 (by decide) (hts _ kw_1060) (fun _ h9 => h9) rfl dX12_readBlock_136 ?_
            refine lv_istore (lv' := [(14, .int h0_freshSize), (0, .ref h0), (1, .int a1), (4, .int a3), (7, .int a5), (8, .long v8_1), (10, .int s2), (11, .int s3), (12, .int h0_at), (13, .int v13_4)]) hx hb dX12_readBlock_139 hl (by decide) rfl (fun ls hl => ?_)
            refine lv_iload hx hb dX12_readBlock_141 (lv_at hl 6 rfl) ?_
            have hJ_230 : ∀ (f5 : Nat → Int32) (g6 : Int32) (g7 : Int32) (g8 : Int32) (g9 : Int32) (g10 : Int32) (g11 : Int32) (g12 : Int32) (H : Heap) (locs : List Loc) (ls : Array Slot), m_Mo_readBlock_J230 h0_freshSize h0_newMany h0_at h0_newBlocks_n h0_newBlocks_f v8_1 s2 s3 v13_4 f5 g6 g7 g8 g9 g10 g11 g12 = some (o_r, o_h0_freshSize, o_h0_copiesOf, o_h0_literalsOf, o_h0_partsOf, o_h0_newMany, o_h0_rule, o_h0_place, o_h0_at, o_h0_fresh_f, o_h0_newBlocks_f) → va_P (dC, dI) vwCl [(h0, .inr (10, [.ref h0_in, .int h0_inSize, w_h0_out, w_h0_outSize, .ref h0_dict, .int h0_dictSize, w_h0_told, .ref h0_fresh, .int g12, w_h0_text, w_h0_lean, w_h0_size, w_h0_most, w_h0_offset, w_h0_copyAt, w_h0_copies, w_h0_copyLength, w_h0_copyOffset, w_h0_fromHere, w_h0_withCopy, w_h0_bestCopy, w_h0_bestLiterals, .int g6, .int g7, .int g8, w_h0_blocks, w_h0_blockMany, .ref h0_newBlocks, .int h0_newMany, .int g9, .int g10, .int g11])), (h0_in, .inl (cI, h0_in_n, .inl h0_in_f)), (h0_fresh, .inl (cI, h0_fresh_n, .inl f5)), (h0_newBlocks, .inl (cI, h0_newBlocks_n, .inl h0_newBlocks_f)), (h0_dict, .inl (cI, h0_dict_n, .inl h0_dict_f))] H → va_D A [(h0, .inr (10, [.ref h0_in, .int h0_inSize, w_h0_out, w_h0_outSize, .ref h0_dict, .int h0_dictSize, w_h0_told, .ref h0_fresh, .int g12, w_h0_text, w_h0_lean, w_h0_size, w_h0_most, w_h0_offset, w_h0_copyAt, w_h0_copies, w_h0_copyLength, w_h0_copyOffset, w_h0_fromHere, w_h0_withCopy, w_h0_bestCopy, w_h0_bestLiterals, .int g6, .int g7, .int g8, w_h0_blocks, w_h0_blockMany, .ref h0_newBlocks, .int h0_newMany, .int g9, .int g10, .int g11])), (h0_in, .inl (cI, h0_in_n, .inl h0_in_f)), (h0_fresh, .inl (cI, h0_fresh_n, .inl f5)), (h0_newBlocks, .inl (cI, h0_newBlocks_n, .inl h0_newBlocks_f)), (h0_dict, .inl (cI, h0_dict_n, .inl h0_dict_f))] → va_S A s.heap H locs → lv_has ls 15 [(0, .ref h0), (8, .long v8_1), (10, .int s2), (11, .int s3), (12, .int h0_at), (13, .int v13_4), (14, .int h0_freshSize)] → W p l e (rm_Mo_readBlock) s m ([.ref h0, .int a1, .long a2, .int a3, .long a4, .int a5] : List Value).toArray below meth c H locs 0 0 Q (F0 m 230 ls []) := by
              intro f5 g6 g7 g8 g9 g10 g11 g12 H locs ls hf hP hD hS hl
              unfold m_Mo_readBlock_J230 at hf
              refine lv_aload_n hx hb dX12_readBlock_230 rfl (lv_at hl 0 rfl) ?_
              refine lv_iload hx hb dX12_readBlock_231 (lv_at hl 4 rfl) ?_
              refine lv_lload hx hb dX12_readBlock_233 (lv_at hl 1 rfl) ?_
              refine lv_l2i (v := (v8_1.toInt32)) hx hb dX12_readBlock_235 rfl ?_
              refine lv_aload_n hx hb dX12_readBlock_236 rfl (lv_at hl 0 rfl) ?_
              refine va_get (D := (dC, dI)) (ci := 10) (v := .int g12) (C := RX12) (T := TX12) (N := 32) hx hb hts inG_X12 hown hK hP 0 rfl rfl 8 (by decide) (hts _ kw_1060) (fun _ h9 => h9) rfl dX12_readBlock_237 ?_
              refine lv_iload hx hb dX12_readBlock_240 (lv_at hl 6 rfl) ?_
              refine lv_isub hx hb dX12_readBlock_242 ?_
              refine lv_iload hx hb dX12_readBlock_243 (lv_at hl 2 rfl) ?_
              obtain ⟨x, hc, hf⟩ := bind_some hf
              obtain ⟨u13, u14⟩ := x
              dsimp only at hf
              refine nx_v (rn_V (As := [.int h0_at, .int (v8_1.toInt32), .int (g12 - h0_freshSize), .int s2]) (rest := []) (n := 4) (ci := 10) (q0 := 0) ⟨hx, hb, hml, hown, hts⟩ (c_Mo_note (l := l) (dC := dC) (dI := dI) (cB := cB) (cI := cI) (h0 := h0) (a1 := h0_at) (a2 := (v8_1.toInt32)) (a3 := (g12 - h0_freshSize)) (a4 := s2) (h0_newBlocks := h0_newBlocks) (w_h0_in := (.ref h0_in)) (w_h0_inSize := (.int h0_inSize)) (w_h0_out := (w_h0_out)) (w_h0_outSize := (w_h0_outSize)) (w_h0_dict := (.ref h0_dict)) (w_h0_dictSize := (.int h0_dictSize)) (w_h0_told := (w_h0_told)) (w_h0_fresh := (.ref h0_fresh)) (w_h0_freshSize := (.int g12)) (w_h0_text := (w_h0_text)) (w_h0_lean := (w_h0_lean)) (w_h0_size := (w_h0_size)) (w_h0_most := (w_h0_most)) (w_h0_offset := (w_h0_offset)) (w_h0_copyAt := (w_h0_copyAt)) (w_h0_copies := (w_h0_copies)) (w_h0_copyLength := (w_h0_copyLength)) (w_h0_copyOffset := (w_h0_copyOffset)) (w_h0_fromHere := (w_h0_fromHere)) (w_h0_withCopy := (w_h0_withCopy)) (w_h0_bestCopy := (w_h0_bestCopy)) (w_h0_bestLiterals := (w_h0_bestLiterals)) (h0_copiesOf := g6) (h0_literalsOf := g7) (h0_partsOf := g8) (w_h0_blocks := (w_h0_blocks)) (w_h0_blockMany := (w_h0_blockMany)) (h0_newMany := h0_newMany) (w_h0_rule := (.int g9)) (w_h0_place := (.int g10)) (w_h0_at := (.int g11)) (h0_newBlocks_n := h0_newBlocks_n) (h0_newBlocks_f := h0_newBlocks_f) (o_h0_newMany := u13) (o_h0_newBlocks_f := u14) hc) (wV kw_1291 kw_1293 kw_64 kw_94 kw_1294) (by decide +kernel) ⟨Nat.le_of_ble_eq_true rfl, Nat.le_of_ble_eq_true rfl⟩ hK hP hD hN hT hS (va_free (wc := [(h0, .inr (10, [.ref h0_in, .int h0_inSize, w_h0_out, w_h0_outSize, .ref h0_dict, .int h0_dictSize, w_h0_told, .ref h0_fresh, .int g12, w_h0_text, w_h0_lean, w_h0_size, w_h0_most, w_h0_offset, w_h0_copyAt, w_h0_copies, w_h0_copyLength, w_h0_copyOffset, w_h0_fromHere, w_h0_withCopy, w_h0_bestCopy, w_h0_bestLiterals, .int g6, .int g7, .int g8, w_h0_blocks, w_h0_blockMany, .ref h0_newBlocks, .int h0_newMany, .int g9, .int g10, .int g11])), (h0_newBlocks, .inl (cI, h0_newBlocks_n, .inl h0_newBlocks_f))]) hD hS hA [0, 3] rfl) [0, 3] rfl (by decide) rfl rfl rfl hl.1 rfl (lv_room (Nat.le_of_ble_eq_true rfl)) dX12_readBlock_245 ⟨Nat.le_of_ble_eq_true rfl, Nat.le_of_ble_eq_true rfl⟩) hP hD hS hA (wr := [(h0_in, .inl (cI, h0_in_n, .inl h0_in_f)), (h0_fresh, .inl (cI, h0_fresh_n, .inl f5)), (h0_dict, .inl (cI, h0_dict_n, .inl h0_dict_f))]) (w1 := [(h0, .inr (10, [.ref h0_in, .int h0_inSize, w_h0_out, w_h0_outSize, .ref h0_dict, .int h0_dictSize, w_h0_told, .ref h0_fresh, .int g12, w_h0_text, w_h0_lean, w_h0_size, w_h0_most, w_h0_offset, w_h0_copyAt, w_h0_copies, w_h0_copyLength, w_h0_copyOffset, w_h0_fromHere, w_h0_withCopy, w_h0_bestCopy, w_h0_bestLiterals, .int g6, .int g7, .int g8, w_h0_blocks, w_h0_blockMany, .ref h0_newBlocks, .int u13, .int g9, .int g10, .int g11])), (h0_newBlocks, .inl (cI, h0_newBlocks_n, .inl u14))]) (ws' := [(h0, .inr (10, [.ref h0_in, .int h0_inSize, w_h0_out, w_h0_outSize, .ref h0_dict, .int h0_dictSize, w_h0_told, .ref h0_fresh, .int g12, w_h0_text, w_h0_lean, w_h0_size, w_h0_most, w_h0_offset, w_h0_copyAt, w_h0_copies, w_h0_copyLength, w_h0_copyOffset, w_h0_fromHere, w_h0_withCopy, w_h0_bestCopy, w_h0_bestLiterals, .int g6, .int g7, .int g8, w_h0_blocks, w_h0_blockMany, .ref h0_newBlocks, .int u13, .int g9, .int g10, .int g11])), (h0_in, .inl (cI, h0_in_n, .inl h0_in_f)), (h0_fresh, .inl (cI, h0_fresh_n, .inl f5)), (h0_newBlocks, .inl (cI, h0_newBlocks_n, .inl u14)), (h0_dict, .inl (cI, h0_dict_n, .inl h0_dict_f))]) [0, 3] [1, 2, 4] [3, 0, 1, 4, 2] rfl rfl (by decide) (by decide) rfl (by decide) (fun H locs hP hD hS => ?_)
              refine lv_aload_n hx hb dX12_readBlock_248 rfl (lv_at hl 0 rfl) ?_
              refine lv_iload hx hb dX12_readBlock_249 (lv_at hl 5 rfl) ?_
              refine lv_iload hx hb dX12_readBlock_251 (lv_at hl 3 rfl) ?_
              refine lv_iadd hx hb dX12_readBlock_253 ?_
              refine lv_topi (fun p_15 e_p_15 => ?_)
              replace hf := bnd_at e_p_15 hf
              refine va_put (D := (dC, dI)) (ci := 10) (v := .int p_15) (ty := .int) (C := RX12) (T := TX12) (N := 32) hx hb hts inG_X12 tyX12 tyX12_ok nmX12 hown hK hP hD hS 0 rfl rfl 31 (by decide) (hts _ kw_1083) (fun _ h9 => h9) rfl (by decide +kernel) rfl rfl (Nat.le_of_ble_eq_true rfl) dX12_readBlock_254 (fun H locs hP hD hS => ?_)
              have hP : va_P (dC, dI) vwCl [(h0, .inr (10, [.ref h0_in, .int h0_inSize, w_h0_out, w_h0_outSize, .ref h0_dict, .int h0_dictSize, w_h0_told, .ref h0_fresh, .int g12, w_h0_text, w_h0_lean, w_h0_size, w_h0_most, w_h0_offset, w_h0_copyAt, w_h0_copies, w_h0_copyLength, w_h0_copyOffset, w_h0_fromHere, w_h0_withCopy, w_h0_bestCopy, w_h0_bestLiterals, .int g6, .int g7, .int g8, w_h0_blocks, w_h0_blockMany, .ref h0_newBlocks, .int u13, .int g9, .int g10, .int p_15])), (h0_in, .inl (cI, h0_in_n, .inl h0_in_f)), (h0_fresh, .inl (cI, h0_fresh_n, .inl f5)), (h0_newBlocks, .inl (cI, h0_newBlocks_n, .inl u14)), (h0_dict, .inl (cI, h0_dict_n, .inl h0_dict_f))] H := hP
              have hD : va_D A [(h0, .inr (10, [.ref h0_in, .int h0_inSize, w_h0_out, w_h0_outSize, .ref h0_dict, .int h0_dictSize, w_h0_told, .ref h0_fresh, .int g12, w_h0_text, w_h0_lean, w_h0_size, w_h0_most, w_h0_offset, w_h0_copyAt, w_h0_copies, w_h0_copyLength, w_h0_copyOffset, w_h0_fromHere, w_h0_withCopy, w_h0_bestCopy, w_h0_bestLiterals, .int g6, .int g7, .int g8, w_h0_blocks, w_h0_blockMany, .ref h0_newBlocks, .int u13, .int g9, .int g10, .int p_15])), (h0_in, .inl (cI, h0_in_n, .inl h0_in_f)), (h0_fresh, .inl (cI, h0_fresh_n, .inl f5)), (h0_newBlocks, .inl (cI, h0_newBlocks_n, .inl u14)), (h0_dict, .inl (cI, h0_dict_n, .inl h0_dict_f))] := hD
              refine lv_iconst (v := 1) hx hb dX12_readBlock_257 (by decide) ?_
              have hzb : narrow .boolean (.int (1 : Int32)) = .int (1 : Int32) := rfl
              obtain ⟨rfl, hq_1⟩ := Prod.mk.inj (Option.some.inj hf)
              obtain ⟨rfl, hq_2⟩ := Prod.mk.inj hq_1
              obtain ⟨rfl, hq_3⟩ := Prod.mk.inj hq_2
              obtain ⟨rfl, hq_4⟩ := Prod.mk.inj hq_3
              obtain ⟨rfl, hq_5⟩ := Prod.mk.inj hq_4
              obtain ⟨rfl, hq_6⟩ := Prod.mk.inj hq_5
              obtain ⟨rfl, hq_7⟩ := Prod.mk.inj hq_6
              obtain ⟨rfl, hq_8⟩ := Prod.mk.inj hq_7
              obtain ⟨rfl, hq_9⟩ := Prod.mk.inj hq_8
              obtain ⟨rfl, hq_10⟩ := Prod.mk.inj hq_9
              obtain rfl := hq_10
              exact rt_z hQ hx hb hr hzb hlocks hP hD hS dX12_readBlock_258
            refine lv_if_eq (tgt := 204) hx hb dX12_readBlock_143 (by decide) (fun c_143 => ?_) (fun c_143 => ?_)
            · replace hf := if_t c_143 hf
              refine lv_aload_n hx hb dX12_readBlock_204 rfl (lv_at hl 1 rfl) ?_
              refine lv_iload hx hb dX12_readBlock_205 (lv_at hl 9 rfl) ?_
              refine lv_iload hx hb dX12_readBlock_207 (lv_at hl 3 rfl) ?_
              refine lv_bipush (v := 32) hx hb dX12_readBlock_209 (by decide) ?_
              refine lv_iand hx hb dX12_readBlock_211 ?_
              have hJ_222 : ∀ (s16 : Int32) (H : Heap) (locs : List Loc) (ls : Array Slot), m_Mo_readBlock_J222 h0_dictSize h0_freshSize h0_newMany h0_rule h0_place h0_at h0_in_n h0_in_f h0_fresh_n h0_fresh_f h0_newBlocks_n h0_newBlocks_f h0_dict_n h0_dict_f v8_1 s2 s3 v13_4 s16 = some (o_r, o_h0_freshSize, o_h0_copiesOf, o_h0_literalsOf, o_h0_partsOf, o_h0_newMany, o_h0_rule, o_h0_place, o_h0_at, o_h0_fresh_f, o_h0_newBlocks_f) → va_P (dC, dI) vwCl [(h0, .inr (10, [.ref h0_in, .int h0_inSize, w_h0_out, w_h0_outSize, .ref h0_dict, .int h0_dictSize, w_h0_told, .ref h0_fresh, .int h0_freshSize, w_h0_text, w_h0_lean, w_h0_size, w_h0_most, w_h0_offset, w_h0_copyAt, w_h0_copies, w_h0_copyLength, w_h0_copyOffset, w_h0_fromHere, w_h0_withCopy, w_h0_bestCopy, w_h0_bestLiterals, .int h0_copiesOf, .int h0_literalsOf, .int h0_partsOf, w_h0_blocks, w_h0_blockMany, .ref h0_newBlocks, .int h0_newMany, .int h0_rule, .int h0_place, .int h0_at])), (h0_in, .inl (cI, h0_in_n, .inl h0_in_f)), (h0_fresh, .inl (cI, h0_fresh_n, .inl h0_fresh_f)), (h0_newBlocks, .inl (cI, h0_newBlocks_n, .inl h0_newBlocks_f)), (h0_dict, .inl (cI, h0_dict_n, .inl h0_dict_f))] H → va_D A [(h0, .inr (10, [.ref h0_in, .int h0_inSize, w_h0_out, w_h0_outSize, .ref h0_dict, .int h0_dictSize, w_h0_told, .ref h0_fresh, .int h0_freshSize, w_h0_text, w_h0_lean, w_h0_size, w_h0_most, w_h0_offset, w_h0_copyAt, w_h0_copies, w_h0_copyLength, w_h0_copyOffset, w_h0_fromHere, w_h0_withCopy, w_h0_bestCopy, w_h0_bestLiterals, .int h0_copiesOf, .int h0_literalsOf, .int h0_partsOf, w_h0_blocks, w_h0_blockMany, .ref h0_newBlocks, .int h0_newMany, .int h0_rule, .int h0_place, .int h0_at])), (h0_in, .inl (cI, h0_in_n, .inl h0_in_f)), (h0_fresh, .inl (cI, h0_fresh_n, .inl h0_fresh_f)), (h0_newBlocks, .inl (cI, h0_newBlocks_n, .inl h0_newBlocks_f)), (h0_dict, .inl (cI, h0_dict_n, .inl h0_dict_f))] → va_S A s.heap H locs → lv_has ls 15 [(0, .ref h0), (8, .long v8_1), (10, .int s2), (11, .int s3), (12, .int h0_at), (13, .int v13_4), (14, .int h0_freshSize)] → W p l e (rm_Mo_readBlock) s m ([.ref h0, .int a1, .long a2, .int a3, .long a4, .int a5] : List Value).toArray below meth c H locs 0 0 Q (F0 m 222 ls [.int s16, .int v13_4, .ref h0]) := by
                intro s16 H locs ls hf hP hD hS hl
                unfold m_Mo_readBlock_J222 at hf
                obtain ⟨x, hc, hf⟩ := bind_some hf
                obtain ⟨r17, u18, u19, u20, u21, u22, u23, u24, u25⟩ := x
                dsimp only at hf
                refine nx_i (rn_V (As := [.int v13_4, .int s16]) (rest := []) (n := 2) (ci := 10) (q0 := 0) ⟨hx, hb, hml, hown, hts⟩ (c_Mo_readSequences (l := l) (dC := dC) (dI := dI) (cB := cB) (cI := cI) (h0 := h0) (a1 := v13_4) (a2 := s16) (h0_in := h0_in) (h0_fresh := h0_fresh) (h0_dict := h0_dict) (w_h0_inSize := (.int h0_inSize)) (w_h0_out := (w_h0_out)) (w_h0_outSize := (w_h0_outSize)) (h0_dictSize := h0_dictSize) (w_h0_told := (w_h0_told)) (h0_freshSize := h0_freshSize) (w_h0_text := (w_h0_text)) (w_h0_lean := (w_h0_lean)) (w_h0_size := (w_h0_size)) (w_h0_most := (w_h0_most)) (w_h0_offset := (w_h0_offset)) (w_h0_copyAt := (w_h0_copyAt)) (w_h0_copies := (w_h0_copies)) (w_h0_copyLength := (w_h0_copyLength)) (w_h0_copyOffset := (w_h0_copyOffset)) (w_h0_fromHere := (w_h0_fromHere)) (w_h0_withCopy := (w_h0_withCopy)) (w_h0_bestCopy := (w_h0_bestCopy)) (w_h0_bestLiterals := (w_h0_bestLiterals)) (h0_copiesOf := h0_copiesOf) (h0_literalsOf := h0_literalsOf) (h0_partsOf := h0_partsOf) (w_h0_blocks := (w_h0_blocks)) (w_h0_blockMany := (w_h0_blockMany)) (w_h0_newBlocks := (.ref h0_newBlocks)) (w_h0_newMany := (.int h0_newMany)) (h0_rule := h0_rule) (h0_place := h0_place) (h0_at := h0_at) (h0_in_n := h0_in_n) (h0_in_f := h0_in_f) (h0_fresh_n := h0_fresh_n) (h0_fresh_f := h0_fresh_f) (h0_dict_n := h0_dict_n) (h0_dict_f := h0_dict_f) (o_h0_freshSize := u18) (o_h0_copiesOf := u19) (o_h0_literalsOf := u20) (o_h0_partsOf := u21) (o_h0_rule := u22) (o_h0_place := u23) (o_h0_at := u24) (o_h0_fresh_f := u25) (o_r := r17) hc) (wV kw_1371 kw_1373 kw_76 kw_94 kw_1374) (by decide +kernel) ⟨Nat.le_of_ble_eq_true rfl, Nat.le_of_ble_eq_true rfl⟩ hK hP hD hN hT hS (va_free (wc := [(h0, .inr (10, [.ref h0_in, .int h0_inSize, w_h0_out, w_h0_outSize, .ref h0_dict, .int h0_dictSize, w_h0_told, .ref h0_fresh, .int h0_freshSize, w_h0_text, w_h0_lean, w_h0_size, w_h0_most, w_h0_offset, w_h0_copyAt, w_h0_copies, w_h0_copyLength, w_h0_copyOffset, w_h0_fromHere, w_h0_withCopy, w_h0_bestCopy, w_h0_bestLiterals, .int h0_copiesOf, .int h0_literalsOf, .int h0_partsOf, w_h0_blocks, w_h0_blockMany, .ref h0_newBlocks, .int h0_newMany, .int h0_rule, .int h0_place, .int h0_at])), (h0_in, .inl (cI, h0_in_n, .inl h0_in_f)), (h0_fresh, .inl (cI, h0_fresh_n, .inl h0_fresh_f)), (h0_dict, .inl (cI, h0_dict_n, .inl h0_dict_f))]) hD hS hA [0, 1, 2, 4] rfl) [0, 1, 2, 4] rfl (by decide) rfl rfl rfl hl.1 rfl (lv_room (Nat.le_of_ble_eq_true rfl)) dX12_readBlock_222 ⟨Nat.le_of_ble_eq_true rfl, Nat.le_of_ble_eq_true rfl⟩) hP hD hS hA (wr := [(h0_newBlocks, .inl (cI, h0_newBlocks_n, .inl h0_newBlocks_f))]) (w1 := [(h0, .inr (10, [.ref h0_in, .int h0_inSize, w_h0_out, w_h0_outSize, .ref h0_dict, .int h0_dictSize, w_h0_told, .ref h0_fresh, .int u18, w_h0_text, w_h0_lean, w_h0_size, w_h0_most, w_h0_offset, w_h0_copyAt, w_h0_copies, w_h0_copyLength, w_h0_copyOffset, w_h0_fromHere, w_h0_withCopy, w_h0_bestCopy, w_h0_bestLiterals, .int u19, .int u20, .int u21, w_h0_blocks, w_h0_blockMany, .ref h0_newBlocks, .int h0_newMany, .int u22, .int u23, .int u24])), (h0_in, .inl (cI, h0_in_n, .inl h0_in_f)), (h0_fresh, .inl (cI, h0_fresh_n, .inl u25)), (h0_dict, .inl (cI, h0_dict_n, .inl h0_dict_f))]) (ws' := [(h0, .inr (10, [.ref h0_in, .int h0_inSize, w_h0_out, w_h0_outSize, .ref h0_dict, .int h0_dictSize, w_h0_told, .ref h0_fresh, .int u18, w_h0_text, w_h0_lean, w_h0_size, w_h0_most, w_h0_offset, w_h0_copyAt, w_h0_copies, w_h0_copyLength, w_h0_copyOffset, w_h0_fromHere, w_h0_withCopy, w_h0_bestCopy, w_h0_bestLiterals, .int u19, .int u20, .int u21, w_h0_blocks, w_h0_blockMany, .ref h0_newBlocks, .int h0_newMany, .int u22, .int u23, .int u24])), (h0_in, .inl (cI, h0_in_n, .inl h0_in_f)), (h0_fresh, .inl (cI, h0_fresh_n, .inl u25)), (h0_newBlocks, .inl (cI, h0_newBlocks_n, .inl h0_newBlocks_f)), (h0_dict, .inl (cI, h0_dict_n, .inl h0_dict_f))]) [0, 1, 2, 4] [3] [1, 2, 3, 0, 4] rfl rfl (by decide) (by decide) rfl (by decide) (fun H locs hP hD hS => ?_)
                refine lv_if_ne (tgt := 230) hx hb dX12_readBlock_225 (by decide) (fun c_225 => ?_) (fun c_225 => ?_)
                · replace hf := if_f c_225 hf
                  exact hJ_230 u25 u19 u20 u21 u22 u23 u24 u18 _ _ _ hf hP hD hS (lv_sub hl [0, 1, 2, 3, 4, 5, 6] rfl)
                · replace hf := if_t c_225 hf
                  refine lv_iconst (v := 0) hx hb dX12_readBlock_228 (by decide) ?_
                  have hzb : narrow .boolean (.int (0 : Int32)) = .int (0 : Int32) := rfl
                  obtain ⟨rfl, hq_1⟩ := Prod.mk.inj (Option.some.inj hf)
                  obtain ⟨rfl, hq_2⟩ := Prod.mk.inj hq_1
                  obtain ⟨rfl, hq_3⟩ := Prod.mk.inj hq_2
                  obtain ⟨rfl, hq_4⟩ := Prod.mk.inj hq_3
                  obtain ⟨rfl, hq_5⟩ := Prod.mk.inj hq_4
                  obtain ⟨rfl, hq_6⟩ := Prod.mk.inj hq_5
                  obtain ⟨rfl, hq_7⟩ := Prod.mk.inj hq_6
                  obtain ⟨rfl, hq_8⟩ := Prod.mk.inj hq_7
                  obtain ⟨rfl, hq_9⟩ := Prod.mk.inj hq_8
                  obtain ⟨rfl, hq_10⟩ := Prod.mk.inj hq_9
                  obtain rfl := hq_10
                  exact rt_z hQ hx hb hr hzb hlocks hP hD hS dX12_readBlock_229
              refine lv_if_eq (tgt := 220) hx hb dX12_readBlock_212 (by decide) (fun c_212 => ?_) (fun c_212 => ?_)
              · replace hf := if_t c_212 hf
                refine lv_iload hx hb dX12_readBlock_220 (lv_at hl 4 rfl) ?_
                exact hJ_222 a5 _ _ _ hf hP hD hS (lv_sub hl [1, 5, 6, 7, 8, 9, 0] rfl)
              · replace hf := if_f c_212 hf
                refine lv_iload hx hb dX12_readBlock_215 (lv_at hl 0 rfl) ?_
                refine lv_goto (tgt := 222) hx hb dX12_readBlock_217 (by decide) ?_
                exact hJ_222 h0_freshSize _ _ _ hf hP hD hS (lv_sub hl [1, 5, 6, 7, 8, 9, 0] rfl)
            · replace hf := if_f c_143 hf
              refine lv_aload_n hx hb dX12_readBlock_146 rfl (lv_at hl 1 rfl) ?_
              refine va_get (D := (dC, dI)) (ci := 10) (v := .int h0_freshSize) (C := RX12) (T := TX12) (N := 32) hx hb hts inG_X12 hown hK hP 0 rfl rfl 8 (by decide) (hts _ kw_1060) (fun _ h9 => h9) rfl dX12_readBlock_147 ?_
              refine lv_i2l (v := (h0_freshSize.toInt64)) hx hb dX12_readBlock_150 rfl ?_
              refine lv_lload hx hb dX12_readBlock_151 (lv_at hl 5 rfl) ?_
              refine lv_ladd hx hb dX12_readBlock_153 ?_
              refine lv_ldc2 hx hb hown (hts _ kw_1370) dX12_readBlock_154 ?_
              refine W.lcmp hx hb dX12_readBlock_157 ?_
              refine lv_if_le (tgt := 169) hx hb dX12_readBlock_158 (by decide) (fun c_158 => ?_) (fun c_158 => ?_)
              · replace hf := if_t c_158 hf
                obtain ⟨o_169, hi_169, hk_169⟩ := bind_some hf
                have hL_169 : ∀ (n : Nat) (f26 : Nat → Int32) (g27 : Int32) (g28 : Int32) (H : Heap) (locs : List Loc) (ls : Array Slot), iter (fun st => m_Mo_readBlock_B169 h0_copiesOf h0_literalsOf h0_partsOf h0_rule h0_place h0_in_n h0_in_f h0_fresh_n v13_4 st.1 st.2.1 st.2.2) n (f26, g27, g28) = some o_169 → va_P (dC, dI) vwCl [(h0, .inr (10, [.ref h0_in, .int h0_inSize, w_h0_out, w_h0_outSize, .ref h0_dict, .int h0_dictSize, w_h0_told, .ref h0_fresh, .int g28, w_h0_text, w_h0_lean, w_h0_size, w_h0_most, w_h0_offset, w_h0_copyAt, w_h0_copies, w_h0_copyLength, w_h0_copyOffset, w_h0_fromHere, w_h0_withCopy, w_h0_bestCopy, w_h0_bestLiterals, .int h0_copiesOf, .int h0_literalsOf, .int h0_partsOf, w_h0_blocks, w_h0_blockMany, .ref h0_newBlocks, .int h0_newMany, .int h0_rule, .int h0_place, .int g27])), (h0_in, .inl (cI, h0_in_n, .inl h0_in_f)), (h0_fresh, .inl (cI, h0_fresh_n, .inl f26)), (h0_newBlocks, .inl (cI, h0_newBlocks_n, .inl h0_newBlocks_f)), (h0_dict, .inl (cI, h0_dict_n, .inl h0_dict_f))] H → va_D A [(h0, .inr (10, [.ref h0_in, .int h0_inSize, w_h0_out, w_h0_outSize, .ref h0_dict, .int h0_dictSize, w_h0_told, .ref h0_fresh, .int g28, w_h0_text, w_h0_lean, w_h0_size, w_h0_most, w_h0_offset, w_h0_copyAt, w_h0_copies, w_h0_copyLength, w_h0_copyOffset, w_h0_fromHere, w_h0_withCopy, w_h0_bestCopy, w_h0_bestLiterals, .int h0_copiesOf, .int h0_literalsOf, .int h0_partsOf, w_h0_blocks, w_h0_blockMany, .ref h0_newBlocks, .int h0_newMany, .int h0_rule, .int h0_place, .int g27])), (h0_in, .inl (cI, h0_in_n, .inl h0_in_f)), (h0_fresh, .inl (cI, h0_fresh_n, .inl f26)), (h0_newBlocks, .inl (cI, h0_newBlocks_n, .inl h0_newBlocks_f)), (h0_dict, .inl (cI, h0_dict_n, .inl h0_dict_f))] → va_S A s.heap H locs → lv_has ls 15 [(0, .ref h0), (8, .long v8_1), (10, .int s2), (11, .int s3), (12, .int h0_at), (13, .int v13_4), (14, .int h0_freshSize)] → W p l e (rm_Mo_readBlock) s m ([.ref h0, .int a1, .long a2, .int a3, .long a4, .int a5] : List Value).toArray below meth c H locs 0 0 Q (F0 m 169 ls []) := by
                  intro n
                  induction n with
                  | zero => intro f26 g27 g28 H locs ls hf; exact absurd hf (fun z => by cases z)
                  | succ n ih_169 =>
                    intro f26 g27 g28 H locs ls hf hP hD hS hl
                    obtain ⟨r_169, hf, hr_169⟩ := iter_succ hf
                    have hf : m_Mo_readBlock_B169 h0_copiesOf h0_literalsOf h0_partsOf h0_rule h0_place h0_in_n h0_in_f h0_fresh_n v13_4 f26 g27 g28 = some r_169 := hf
                    unfold m_Mo_readBlock_B169 at hf
                    refine lv_aload_n hx hb dX12_readBlock_169 rfl (lv_at hl 0 rfl) ?_
                    refine va_get (D := (dC, dI)) (ci := 10) (v := .int g27) (C := RX12) (T := TX12) (N := 32) hx hb hts inG_X12 hown hK hP 0 rfl rfl 31 (by decide) (hts _ kw_1083) (fun _ h9 => h9) rfl dX12_readBlock_170 ?_
                    refine lv_iload hx hb dX12_readBlock_173 (lv_at hl 5 rfl) ?_
                    refine lv_icmp_ge (tgt := 230) hx hb dX12_readBlock_175 (by decide) (fun c_175 => ?_) (fun c_175 => ?_)
                    · replace hf := if_t c_175 hf
                      have hf : m_Mo_readBlock_J230 h0_freshSize h0_newMany h0_at h0_newBlocks_n h0_newBlocks_f v8_1 s2 s3 v13_4 f26 h0_copiesOf h0_literalsOf h0_partsOf h0_rule h0_place g27 g28 = some (o_r, o_h0_freshSize, o_h0_copiesOf, o_h0_literalsOf, o_h0_partsOf, o_h0_newMany, o_h0_rule, o_h0_place, o_h0_at, o_h0_fresh_f, o_h0_newBlocks_f) := by have hq := hk_169; rw [iter_exit hf hr_169] at hq; exact hq
                      exact hJ_230 f26 h0_copiesOf h0_literalsOf h0_partsOf h0_rule h0_place g27 g28 _ _ _ hf hP hD hS (lv_sub hl [0, 1, 2, 3, 4, 5, 6] rfl)
                    · replace hf := if_f c_175 hf
                      refine lv_aload_n hx hb dX12_readBlock_178 rfl (lv_at hl 0 rfl) ?_
                      refine lv_aload_n hx hb dX12_readBlock_179 rfl (lv_at hl 0 rfl) ?_
                      refine va_get (D := (dC, dI)) (ci := 10) (v := .ref h0_in) (C := RX12) (T := TX12) (N := 32) hx hb hts inG_X12 hown hK hP 0 rfl rfl 0 (by decide) (hts _ kw_1052) (fun _ h9 => h9) rfl dX12_readBlock_180 ?_
                      refine lv_aload_n hx hb dX12_readBlock_183 rfl (lv_at hl 0 rfl) ?_
                      refine va_get (D := (dC, dI)) (ci := 10) (v := .int g27) (C := RX12) (T := TX12) (N := 32) hx hb hts inG_X12 hown hK hP 0 rfl rfl 31 (by decide) (hts _ kw_1083) (fun _ h9 => h9) rfl dX12_readBlock_184 ?_
                      obtain ⟨hin, hf⟩ := chk_some hf
                      refine va_iald hx hb hK hP 1 1 rfl rfl hin dX12_readBlock_187 ?_
                      obtain ⟨x, hc, hf⟩ := bind_some hf
                      obtain ⟨u29, u30⟩ := x
                      dsimp only at hf
                      refine nx_v (rn_V (As := [.int (h0_in_f g27.toNatClampNeg)]) (rest := []) (n := 1) (ci := 10) (q0 := 0) ⟨hx, hb, hml, hown, hts⟩ (c_Mo_put (l := l) (dC := dC) (dI := dI) (cB := cB) (cI := cI) (h0 := h0) (a1 := (h0_in_f g27.toNatClampNeg)) (h0_fresh := h0_fresh) (w_h0_in := (.ref h0_in)) (w_h0_inSize := (.int h0_inSize)) (w_h0_out := (w_h0_out)) (w_h0_outSize := (w_h0_outSize)) (w_h0_dict := (.ref h0_dict)) (w_h0_dictSize := (.int h0_dictSize)) (w_h0_told := (w_h0_told)) (h0_freshSize := g28) (w_h0_text := (w_h0_text)) (w_h0_lean := (w_h0_lean)) (w_h0_size := (w_h0_size)) (w_h0_most := (w_h0_most)) (w_h0_offset := (w_h0_offset)) (w_h0_copyAt := (w_h0_copyAt)) (w_h0_copies := (w_h0_copies)) (w_h0_copyLength := (w_h0_copyLength)) (w_h0_copyOffset := (w_h0_copyOffset)) (w_h0_fromHere := (w_h0_fromHere)) (w_h0_withCopy := (w_h0_withCopy)) (w_h0_bestCopy := (w_h0_bestCopy)) (w_h0_bestLiterals := (w_h0_bestLiterals)) (w_h0_copiesOf := (.int h0_copiesOf)) (w_h0_literalsOf := (.int h0_literalsOf)) (w_h0_partsOf := (.int h0_partsOf)) (w_h0_blocks := (w_h0_blocks)) (w_h0_blockMany := (w_h0_blockMany)) (w_h0_newBlocks := (.ref h0_newBlocks)) (w_h0_newMany := (.int h0_newMany)) (w_h0_rule := (.int h0_rule)) (w_h0_place := (.int h0_place)) (w_h0_at := (.int g27)) (h0_fresh_n := h0_fresh_n) (h0_fresh_f := f26) (o_h0_freshSize := u29) (o_h0_fresh_f := u30) hc) (wV kw_1205 kw_1207 kw_51 kw_94 kw_1208) (by decide +kernel) ⟨Nat.le_of_ble_eq_true rfl, Nat.le_of_ble_eq_true rfl⟩ hK hP hD hN hT hS (va_free (wc := [(h0, .inr (10, [.ref h0_in, .int h0_inSize, w_h0_out, w_h0_outSize, .ref h0_dict, .int h0_dictSize, w_h0_told, .ref h0_fresh, .int g28, w_h0_text, w_h0_lean, w_h0_size, w_h0_most, w_h0_offset, w_h0_copyAt, w_h0_copies, w_h0_copyLength, w_h0_copyOffset, w_h0_fromHere, w_h0_withCopy, w_h0_bestCopy, w_h0_bestLiterals, .int h0_copiesOf, .int h0_literalsOf, .int h0_partsOf, w_h0_blocks, w_h0_blockMany, .ref h0_newBlocks, .int h0_newMany, .int h0_rule, .int h0_place, .int g27])), (h0_fresh, .inl (cI, h0_fresh_n, .inl f26))]) hD hS hA [0, 2] rfl) [0, 2] rfl (by decide) rfl rfl rfl hl.1 rfl (lv_room (Nat.le_of_ble_eq_true rfl)) dX12_readBlock_188 ⟨Nat.le_of_ble_eq_true rfl, Nat.le_of_ble_eq_true rfl⟩) hP hD hS hA (wr := [(h0_in, .inl (cI, h0_in_n, .inl h0_in_f)), (h0_newBlocks, .inl (cI, h0_newBlocks_n, .inl h0_newBlocks_f)), (h0_dict, .inl (cI, h0_dict_n, .inl h0_dict_f))]) (w1 := [(h0, .inr (10, [.ref h0_in, .int h0_inSize, w_h0_out, w_h0_outSize, .ref h0_dict, .int h0_dictSize, w_h0_told, .ref h0_fresh, .int u29, w_h0_text, w_h0_lean, w_h0_size, w_h0_most, w_h0_offset, w_h0_copyAt, w_h0_copies, w_h0_copyLength, w_h0_copyOffset, w_h0_fromHere, w_h0_withCopy, w_h0_bestCopy, w_h0_bestLiterals, .int h0_copiesOf, .int h0_literalsOf, .int h0_partsOf, w_h0_blocks, w_h0_blockMany, .ref h0_newBlocks, .int h0_newMany, .int h0_rule, .int h0_place, .int g27])), (h0_fresh, .inl (cI, h0_fresh_n, .inl u30))]) (ws' := [(h0, .inr (10, [.ref h0_in, .int h0_inSize, w_h0_out, w_h0_outSize, .ref h0_dict, .int h0_dictSize, w_h0_told, .ref h0_fresh, .int u29, w_h0_text, w_h0_lean, w_h0_size, w_h0_most, w_h0_offset, w_h0_copyAt, w_h0_copies, w_h0_copyLength, w_h0_copyOffset, w_h0_fromHere, w_h0_withCopy, w_h0_bestCopy, w_h0_bestLiterals, .int h0_copiesOf, .int h0_literalsOf, .int h0_partsOf, w_h0_blocks, w_h0_blockMany, .ref h0_newBlocks, .int h0_newMany, .int h0_rule, .int h0_place, .int g27])), (h0_in, .inl (cI, h0_in_n, .inl h0_in_f)), (h0_fresh, .inl (cI, h0_fresh_n, .inl u30)), (h0_newBlocks, .inl (cI, h0_newBlocks_n, .inl h0_newBlocks_f)), (h0_dict, .inl (cI, h0_dict_n, .inl h0_dict_f))]) [0, 2] [1, 3, 4] [3, 0, 4, 1, 2] rfl rfl (by decide) (by decide) rfl (by decide) (fun H locs hP hD hS => ?_)
                      refine lv_aload_n hx hb dX12_readBlock_191 rfl (lv_at hl 0 rfl) ?_
                      refine lv_dup hx hb dX12_readBlock_192 rfl ?_
                      refine va_get (D := (dC, dI)) (ci := 10) (v := .int g27) (C := RX12) (T := TX12) (N := 32) hx hb hts inG_X12 hown hK hP 0 rfl rfl 31 (by decide) (hts _ kw_1083) (fun _ h9 => h9) rfl dX12_readBlock_193 ?_
                      refine lv_iconst (v := 1) hx hb dX12_readBlock_196 (by decide) ?_
                      refine lv_iadd hx hb dX12_readBlock_197 ?_
                      refine lv_topi (fun p_31 e_p_31 => ?_)
                      replace hf := bnd_at e_p_31 hf
                      refine va_put (D := (dC, dI)) (ci := 10) (v := .int p_31) (ty := .int) (C := RX12) (T := TX12) (N := 32) hx hb hts inG_X12 tyX12 tyX12_ok nmX12 hown hK hP hD hS 0 rfl rfl 31 (by decide) (hts _ kw_1083) (fun _ h9 => h9) rfl (by decide +kernel) rfl rfl (Nat.le_of_ble_eq_true rfl) dX12_readBlock_198 (fun H locs hP hD hS => ?_)
                      have hP : va_P (dC, dI) vwCl [(h0, .inr (10, [.ref h0_in, .int h0_inSize, w_h0_out, w_h0_outSize, .ref h0_dict, .int h0_dictSize, w_h0_told, .ref h0_fresh, .int u29, w_h0_text, w_h0_lean, w_h0_size, w_h0_most, w_h0_offset, w_h0_copyAt, w_h0_copies, w_h0_copyLength, w_h0_copyOffset, w_h0_fromHere, w_h0_withCopy, w_h0_bestCopy, w_h0_bestLiterals, .int h0_copiesOf, .int h0_literalsOf, .int h0_partsOf, w_h0_blocks, w_h0_blockMany, .ref h0_newBlocks, .int h0_newMany, .int h0_rule, .int h0_place, .int p_31])), (h0_in, .inl (cI, h0_in_n, .inl h0_in_f)), (h0_fresh, .inl (cI, h0_fresh_n, .inl u30)), (h0_newBlocks, .inl (cI, h0_newBlocks_n, .inl h0_newBlocks_f)), (h0_dict, .inl (cI, h0_dict_n, .inl h0_dict_f))] H := hP
                      have hD : va_D A [(h0, .inr (10, [.ref h0_in, .int h0_inSize, w_h0_out, w_h0_outSize, .ref h0_dict, .int h0_dictSize, w_h0_told, .ref h0_fresh, .int u29, w_h0_text, w_h0_lean, w_h0_size, w_h0_most, w_h0_offset, w_h0_copyAt, w_h0_copies, w_h0_copyLength, w_h0_copyOffset, w_h0_fromHere, w_h0_withCopy, w_h0_bestCopy, w_h0_bestLiterals, .int h0_copiesOf, .int h0_literalsOf, .int h0_partsOf, w_h0_blocks, w_h0_blockMany, .ref h0_newBlocks, .int h0_newMany, .int h0_rule, .int h0_place, .int p_31])), (h0_in, .inl (cI, h0_in_n, .inl h0_in_f)), (h0_fresh, .inl (cI, h0_fresh_n, .inl u30)), (h0_newBlocks, .inl (cI, h0_newBlocks_n, .inl h0_newBlocks_f)), (h0_dict, .inl (cI, h0_dict_n, .inl h0_dict_f))] := hD
                      refine lv_goto (tgt := 169) hx hb dX12_readBlock_201 (by decide) ?_
                      exact ih_169 u30 p_31 u29 _ _ _ (iter_back hf hr_169) hP hD hS (lv_sub hl [0, 1, 2, 3, 4, 5, 6] rfl)
                exact hL_169 FU h0_fresh_f h0_at h0_freshSize _ _ _ hi_169 hP hD hS (lv_sub hl [1, 5, 6, 7, 8, 9, 0] rfl)
              · replace hf := if_f c_158 hf
                refine lv_aload_n hx hb dX12_readBlock_161 rfl (lv_at hl 1 rfl) ?_
                refine lv_bipush (v := 12) hx hb dX12_readBlock_162 (by decide) ?_
                refine lv_iload_n hx hb dX12_readBlock_164 rfl (lv_at hl 2 rfl) ?_
                obtain ⟨x, hc, hf⟩ := bind_some hf
                obtain ⟨r32, u33, u34⟩ := x
                dsimp only at hf
                refine nx_i (rn_V (As := [.int (12 : Int32), .int a1]) (rest := []) (n := 2) (ci := 10) (q0 := 0) ⟨hx, hb, hml, hown, hts⟩ (c_Mo_no (l := l) (dC := dC) (dI := dI) (cB := cB) (cI := cI) (h0 := h0) (a1 := (12 : Int32)) (a2 := a1) (w_h0_in := (.ref h0_in)) (w_h0_inSize := (.int h0_inSize)) (w_h0_out := (w_h0_out)) (w_h0_outSize := (w_h0_outSize)) (w_h0_dict := (.ref h0_dict)) (w_h0_dictSize := (.int h0_dictSize)) (w_h0_told := (w_h0_told)) (w_h0_fresh := (.ref h0_fresh)) (w_h0_freshSize := (.int h0_freshSize)) (w_h0_text := (w_h0_text)) (w_h0_lean := (w_h0_lean)) (w_h0_size := (w_h0_size)) (w_h0_most := (w_h0_most)) (w_h0_offset := (w_h0_offset)) (w_h0_copyAt := (w_h0_copyAt)) (w_h0_copies := (w_h0_copies)) (w_h0_copyLength := (w_h0_copyLength)) (w_h0_copyOffset := (w_h0_copyOffset)) (w_h0_fromHere := (w_h0_fromHere)) (w_h0_withCopy := (w_h0_withCopy)) (w_h0_bestCopy := (w_h0_bestCopy)) (w_h0_bestLiterals := (w_h0_bestLiterals)) (w_h0_copiesOf := (.int h0_copiesOf)) (w_h0_literalsOf := (.int h0_literalsOf)) (w_h0_partsOf := (.int h0_partsOf)) (w_h0_blocks := (w_h0_blocks)) (w_h0_blockMany := (w_h0_blockMany)) (w_h0_newBlocks := (.ref h0_newBlocks)) (w_h0_newMany := (.int h0_newMany)) (h0_rule := h0_rule) (h0_place := h0_place) (w_h0_at := (.int h0_at)) (o_h0_rule := u33) (o_h0_place := u34) (o_r := r32) hc) (wV kw_1353 kw_1355 kw_72 kw_94 kw_1356) (by decide +kernel) ⟨Nat.le_of_ble_eq_true rfl, Nat.le_of_ble_eq_true rfl⟩ hK hP hD hN hT hS (va_free (wc := [(h0, .inr (10, [.ref h0_in, .int h0_inSize, w_h0_out, w_h0_outSize, .ref h0_dict, .int h0_dictSize, w_h0_told, .ref h0_fresh, .int h0_freshSize, w_h0_text, w_h0_lean, w_h0_size, w_h0_most, w_h0_offset, w_h0_copyAt, w_h0_copies, w_h0_copyLength, w_h0_copyOffset, w_h0_fromHere, w_h0_withCopy, w_h0_bestCopy, w_h0_bestLiterals, .int h0_copiesOf, .int h0_literalsOf, .int h0_partsOf, w_h0_blocks, w_h0_blockMany, .ref h0_newBlocks, .int h0_newMany, .int h0_rule, .int h0_place, .int h0_at]))]) hD hS hA [0] rfl) [0] rfl (by decide) rfl rfl rfl hl.1 rfl (lv_room (Nat.le_of_ble_eq_true rfl)) dX12_readBlock_165 ⟨Nat.le_of_ble_eq_true rfl, Nat.le_of_ble_eq_true rfl⟩) hP hD hS hA (wr := [(h0_in, .inl (cI, h0_in_n, .inl h0_in_f)), (h0_fresh, .inl (cI, h0_fresh_n, .inl h0_fresh_f)), (h0_newBlocks, .inl (cI, h0_newBlocks_n, .inl h0_newBlocks_f)), (h0_dict, .inl (cI, h0_dict_n, .inl h0_dict_f))]) (w1 := [(h0, .inr (10, [.ref h0_in, .int h0_inSize, w_h0_out, w_h0_outSize, .ref h0_dict, .int h0_dictSize, w_h0_told, .ref h0_fresh, .int h0_freshSize, w_h0_text, w_h0_lean, w_h0_size, w_h0_most, w_h0_offset, w_h0_copyAt, w_h0_copies, w_h0_copyLength, w_h0_copyOffset, w_h0_fromHere, w_h0_withCopy, w_h0_bestCopy, w_h0_bestLiterals, .int h0_copiesOf, .int h0_literalsOf, .int h0_partsOf, w_h0_blocks, w_h0_blockMany, .ref h0_newBlocks, .int h0_newMany, .int u33, .int u34, .int h0_at]))]) (ws' := [(h0, .inr (10, [.ref h0_in, .int h0_inSize, w_h0_out, w_h0_outSize, .ref h0_dict, .int h0_dictSize, w_h0_told, .ref h0_fresh, .int h0_freshSize, w_h0_text, w_h0_lean, w_h0_size, w_h0_most, w_h0_offset, w_h0_copyAt, w_h0_copies, w_h0_copyLength, w_h0_copyOffset, w_h0_fromHere, w_h0_withCopy, w_h0_bestCopy, w_h0_bestLiterals, .int h0_copiesOf, .int h0_literalsOf, .int h0_partsOf, w_h0_blocks, w_h0_blockMany, .ref h0_newBlocks, .int h0_newMany, .int u33, .int u34, .int h0_at])), (h0_in, .inl (cI, h0_in_n, .inl h0_in_f)), (h0_fresh, .inl (cI, h0_fresh_n, .inl h0_fresh_f)), (h0_newBlocks, .inl (cI, h0_newBlocks_n, .inl h0_newBlocks_f)), (h0_dict, .inl (cI, h0_dict_n, .inl h0_dict_f))]) [0] [1, 2, 3, 4] [4, 0, 1, 2, 3] rfl rfl (by decide) (by decide) rfl (by decide) (fun H locs hP hD hS => ?_)
                obtain ⟨hzb, hf⟩ := bch_some hf
                obtain ⟨rfl, hq_1⟩ := Prod.mk.inj (Option.some.inj hf)
                obtain ⟨rfl, hq_2⟩ := Prod.mk.inj hq_1
                obtain ⟨rfl, hq_3⟩ := Prod.mk.inj hq_2
                obtain ⟨rfl, hq_4⟩ := Prod.mk.inj hq_3
                obtain ⟨rfl, hq_5⟩ := Prod.mk.inj hq_4
                obtain ⟨rfl, hq_6⟩ := Prod.mk.inj hq_5
                obtain ⟨rfl, hq_7⟩ := Prod.mk.inj hq_6
                obtain ⟨rfl, hq_8⟩ := Prod.mk.inj hq_7
                obtain ⟨rfl, hq_9⟩ := Prod.mk.inj hq_8
                obtain ⟨rfl, hq_10⟩ := Prod.mk.inj hq_9
                obtain rfl := hq_10
                exact rt_z hQ hx hb hr hzb hlocks hP hD hS dX12_readBlock_168
          refine lv_if_le (tgt := 135) hx hb dX12_readBlock_100 (by decide) (fun c_100 => ?_) (fun c_100 => ?_)
          · replace hf := if_t c_100 hf
            exact hJ_135  _ _ _ hf hP hD hS (lv_sub hl [3, 4, 5, 7, 8, 9, 2, 1, 0] rfl)
          · replace hf := if_f c_100 hf
            refine lv_aload_n hx hb dX12_readBlock_103 rfl (lv_at hl 3 rfl) ?_
            refine lv_iload hx hb dX12_readBlock_104 (lv_at hl 0 rfl) ?_
            refine lv_iconst (v := 4) hx hb dX12_readBlock_106 (by decide) ?_
            obtain ⟨r35, hc, hf⟩ := bind_some hf
            refine nx_l (rn_V (As := [.int v13_4, .int (4 : Int32)]) (rest := []) (n := 2) (ci := 10) (q0 := 0) ⟨hx, hb, hml, hown, hts⟩ (c_Mo_number (l := l) (dC := dC) (dI := dI) (cB := cB) (cI := cI) (h0 := h0) (a1 := v13_4) (a2 := (4 : Int32)) (h0_in := h0_in) (w_h0_inSize := (.int h0_inSize)) (w_h0_out := (w_h0_out)) (w_h0_outSize := (w_h0_outSize)) (w_h0_dict := (.ref h0_dict)) (w_h0_dictSize := (.int h0_dictSize)) (w_h0_told := (w_h0_told)) (w_h0_fresh := (.ref h0_fresh)) (w_h0_freshSize := (.int h0_freshSize)) (w_h0_text := (w_h0_text)) (w_h0_lean := (w_h0_lean)) (w_h0_size := (w_h0_size)) (w_h0_most := (w_h0_most)) (w_h0_offset := (w_h0_offset)) (w_h0_copyAt := (w_h0_copyAt)) (w_h0_copies := (w_h0_copies)) (w_h0_copyLength := (w_h0_copyLength)) (w_h0_copyOffset := (w_h0_copyOffset)) (w_h0_fromHere := (w_h0_fromHere)) (w_h0_withCopy := (w_h0_withCopy)) (w_h0_bestCopy := (w_h0_bestCopy)) (w_h0_bestLiterals := (w_h0_bestLiterals)) (w_h0_copiesOf := (.int h0_copiesOf)) (w_h0_literalsOf := (.int h0_literalsOf)) (w_h0_partsOf := (.int h0_partsOf)) (w_h0_blocks := (w_h0_blocks)) (w_h0_blockMany := (w_h0_blockMany)) (w_h0_newBlocks := (.ref h0_newBlocks)) (w_h0_newMany := (.int h0_newMany)) (w_h0_rule := (.int h0_rule)) (w_h0_place := (.int h0_place)) (w_h0_at := (.int h0_at)) (h0_in_n := h0_in_n) (h0_in_f := h0_in_f)  (o_r := r35) hc) (wV kw_1357 kw_1359 kw_73 kw_94 kw_1360) (by decide +kernel) ⟨Nat.le_of_ble_eq_true rfl, Nat.le_of_ble_eq_true rfl⟩ hK hP hD hN hT hS (va_free (wc := [(h0, .inr (10, [.ref h0_in, .int h0_inSize, w_h0_out, w_h0_outSize, .ref h0_dict, .int h0_dictSize, w_h0_told, .ref h0_fresh, .int h0_freshSize, w_h0_text, w_h0_lean, w_h0_size, w_h0_most, w_h0_offset, w_h0_copyAt, w_h0_copies, w_h0_copyLength, w_h0_copyOffset, w_h0_fromHere, w_h0_withCopy, w_h0_bestCopy, w_h0_bestLiterals, .int h0_copiesOf, .int h0_literalsOf, .int h0_partsOf, w_h0_blocks, w_h0_blockMany, .ref h0_newBlocks, .int h0_newMany, .int h0_rule, .int h0_place, .int h0_at])), (h0_in, .inl (cI, h0_in_n, .inl h0_in_f))]) hD hS hA [0, 1] rfl) [0, 1] rfl (by decide) rfl rfl rfl hl.1 rfl (lv_room (Nat.le_of_ble_eq_true rfl)) dX12_readBlock_107 ⟨Nat.le_of_ble_eq_true rfl, Nat.le_of_ble_eq_true rfl⟩) hP hD hS hA (wr := [(h0_fresh, .inl (cI, h0_fresh_n, .inl h0_fresh_f)), (h0_newBlocks, .inl (cI, h0_newBlocks_n, .inl h0_newBlocks_f)), (h0_dict, .inl (cI, h0_dict_n, .inl h0_dict_f))]) (w1 := [(h0, .inr (10, [.ref h0_in, .int h0_inSize, w_h0_out, w_h0_outSize, .ref h0_dict, .int h0_dictSize, w_h0_told, .ref h0_fresh, .int h0_freshSize, w_h0_text, w_h0_lean, w_h0_size, w_h0_most, w_h0_offset, w_h0_copyAt, w_h0_copies, w_h0_copyLength, w_h0_copyOffset, w_h0_fromHere, w_h0_withCopy, w_h0_bestCopy, w_h0_bestLiterals, .int h0_copiesOf, .int h0_literalsOf, .int h0_partsOf, w_h0_blocks, w_h0_blockMany, .ref h0_newBlocks, .int h0_newMany, .int h0_rule, .int h0_place, .int h0_at])), (h0_in, .inl (cI, h0_in_n, .inl h0_in_f))]) (ws' := [(h0, .inr (10, [.ref h0_in, .int h0_inSize, w_h0_out, w_h0_outSize, .ref h0_dict, .int h0_dictSize, w_h0_told, .ref h0_fresh, .int h0_freshSize, w_h0_text, w_h0_lean, w_h0_size, w_h0_most, w_h0_offset, w_h0_copyAt, w_h0_copies, w_h0_copyLength, w_h0_copyOffset, w_h0_fromHere, w_h0_withCopy, w_h0_bestCopy, w_h0_bestLiterals, .int h0_copiesOf, .int h0_literalsOf, .int h0_partsOf, w_h0_blocks, w_h0_blockMany, .ref h0_newBlocks, .int h0_newMany, .int h0_rule, .int h0_place, .int h0_at])), (h0_in, .inl (cI, h0_in_n, .inl h0_in_f)), (h0_fresh, .inl (cI, h0_fresh_n, .inl h0_fresh_f)), (h0_newBlocks, .inl (cI, h0_newBlocks_n, .inl h0_newBlocks_f)), (h0_dict, .inl (cI, h0_dict_n, .inl h0_dict_f))]) [0, 1] [2, 3, 4] [3, 4, 0, 1, 2] rfl rfl (by decide) (by decide) rfl (by decide) (fun H locs hP hD hS => ?_)
            refine lv_l2i (v := (r35.toInt32)) hx hb dX12_readBlock_110 rfl ?_
            refine lv_aload_n hx hb dX12_readBlock_111 rfl (lv_at hl 3 rfl) ?_
            refine va_get (D := (dC, dI)) (ci := 10) (v := .ref h0_in) (C := RX12) (T := TX12) (N := 32) hx hb hts inG_X12 hown hK hP 0 rfl rfl 0 (by decide) (hts _ kw_1052) (fun _ h9 => h9) rfl dX12_readBlock_112 ?_
            refine lv_iload hx hb dX12_readBlock_115 (lv_at hl 1 rfl) ?_
            refine lv_lload hx hb dX12_readBlock_117 (lv_at hl 8 rfl) ?_
            refine lv_l2i (v := (v8_1.toInt32)) hx hb dX12_readBlock_119 rfl ?_
            obtain ⟨r36, hc, hf⟩ := bind_some hf
            refine nx_i (rn_S (As := [.ref h0_in, .int h0_at, .int (v8_1.toInt32)]) (rest := [.int (r35.toInt32)]) (n := 3) ⟨hx, hb, hml, hown, hts⟩ (c_Mo_sumOf (l := l) (dC := dC) (dI := dI) (cB := cB) (cI := cI) (h0 := h0_in) (a1 := h0_at) (a2 := (v8_1.toInt32)) (h0_n := h0_in_n) (h0_f := h0_in_f)  (o_r := r36) hc) (wS kw_1209 kw_1210 kw_94 kw_1211) (by decide +kernel) ⟨Nat.le_of_ble_eq_true rfl, Nat.le_of_ble_eq_true rfl⟩ hK hP hD hN hT hS (va_free (wc := [(h0_in, .inl (cI, h0_in_n, .inl h0_in_f))]) hD hS hA [1] rfl) [1] rfl (by decide) rfl hl.1 rfl (lv_room (Nat.le_of_ble_eq_true rfl)) dX12_readBlock_120 ⟨Nat.le_of_ble_eq_true rfl, Nat.le_of_ble_eq_true rfl⟩) hP hD hS hA (wr := [(h0, .inr (10, [.ref h0_in, .int h0_inSize, w_h0_out, w_h0_outSize, .ref h0_dict, .int h0_dictSize, w_h0_told, .ref h0_fresh, .int h0_freshSize, w_h0_text, w_h0_lean, w_h0_size, w_h0_most, w_h0_offset, w_h0_copyAt, w_h0_copies, w_h0_copyLength, w_h0_copyOffset, w_h0_fromHere, w_h0_withCopy, w_h0_bestCopy, w_h0_bestLiterals, .int h0_copiesOf, .int h0_literalsOf, .int h0_partsOf, w_h0_blocks, w_h0_blockMany, .ref h0_newBlocks, .int h0_newMany, .int h0_rule, .int h0_place, .int h0_at])), (h0_fresh, .inl (cI, h0_fresh_n, .inl h0_fresh_f)), (h0_newBlocks, .inl (cI, h0_newBlocks_n, .inl h0_newBlocks_f)), (h0_dict, .inl (cI, h0_dict_n, .inl h0_dict_f))]) (w1 := [(h0_in, .inl (cI, h0_in_n, .inl h0_in_f))]) (ws' := [(h0, .inr (10, [.ref h0_in, .int h0_inSize, w_h0_out, w_h0_outSize, .ref h0_dict, .int h0_dictSize, w_h0_told, .ref h0_fresh, .int h0_freshSize, w_h0_text, w_h0_lean, w_h0_size, w_h0_most, w_h0_offset, w_h0_copyAt, w_h0_copies, w_h0_copyLength, w_h0_copyOffset, w_h0_fromHere, w_h0_withCopy, w_h0_bestCopy, w_h0_bestLiterals, .int h0_copiesOf, .int h0_literalsOf, .int h0_partsOf, w_h0_blocks, w_h0_blockMany, .ref h0_newBlocks, .int h0_newMany, .int h0_rule, .int h0_place, .int h0_at])), (h0_in, .inl (cI, h0_in_n, .inl h0_in_f)), (h0_fresh, .inl (cI, h0_fresh_n, .inl h0_fresh_f)), (h0_newBlocks, .inl (cI, h0_newBlocks_n, .inl h0_newBlocks_f)), (h0_dict, .inl (cI, h0_dict_n, .inl h0_dict_f))]) [1] [0, 2, 3, 4] [0, 4, 1, 2, 3] rfl rfl (by decide) (by decide) rfl (by decide) (fun H locs hP hD hS => ?_)
            refine lv_icmp_eq (tgt := 135) hx hb dX12_readBlock_123 (by decide) (fun c_123 => ?_) (fun c_123 => ?_)
            · replace hf := if_t c_123 hf
              exact hJ_135  _ _ _ hf hP hD hS (lv_sub hl [3, 4, 5, 7, 8, 9, 2, 1, 0] rfl)
            · replace hf := if_f c_123 hf
              refine lv_aload_n hx hb dX12_readBlock_126 rfl (lv_at hl 3 rfl) ?_
              refine lv_bipush (v := 8) hx hb dX12_readBlock_127 (by decide) ?_
              refine lv_iload hx hb dX12_readBlock_129 (lv_at hl 0 rfl) ?_
              obtain ⟨x, hc, hf⟩ := bind_some hf
              obtain ⟨r37, u38, u39⟩ := x
              dsimp only at hf
              refine nx_i (rn_V (As := [.int (8 : Int32), .int v13_4]) (rest := []) (n := 2) (ci := 10) (q0 := 0) ⟨hx, hb, hml, hown, hts⟩ (c_Mo_no (l := l) (dC := dC) (dI := dI) (cB := cB) (cI := cI) (h0 := h0) (a1 := (8 : Int32)) (a2 := v13_4) (w_h0_in := (.ref h0_in)) (w_h0_inSize := (.int h0_inSize)) (w_h0_out := (w_h0_out)) (w_h0_outSize := (w_h0_outSize)) (w_h0_dict := (.ref h0_dict)) (w_h0_dictSize := (.int h0_dictSize)) (w_h0_told := (w_h0_told)) (w_h0_fresh := (.ref h0_fresh)) (w_h0_freshSize := (.int h0_freshSize)) (w_h0_text := (w_h0_text)) (w_h0_lean := (w_h0_lean)) (w_h0_size := (w_h0_size)) (w_h0_most := (w_h0_most)) (w_h0_offset := (w_h0_offset)) (w_h0_copyAt := (w_h0_copyAt)) (w_h0_copies := (w_h0_copies)) (w_h0_copyLength := (w_h0_copyLength)) (w_h0_copyOffset := (w_h0_copyOffset)) (w_h0_fromHere := (w_h0_fromHere)) (w_h0_withCopy := (w_h0_withCopy)) (w_h0_bestCopy := (w_h0_bestCopy)) (w_h0_bestLiterals := (w_h0_bestLiterals)) (w_h0_copiesOf := (.int h0_copiesOf)) (w_h0_literalsOf := (.int h0_literalsOf)) (w_h0_partsOf := (.int h0_partsOf)) (w_h0_blocks := (w_h0_blocks)) (w_h0_blockMany := (w_h0_blockMany)) (w_h0_newBlocks := (.ref h0_newBlocks)) (w_h0_newMany := (.int h0_newMany)) (h0_rule := h0_rule) (h0_place := h0_place) (w_h0_at := (.int h0_at)) (o_h0_rule := u38) (o_h0_place := u39) (o_r := r37) hc) (wV kw_1353 kw_1355 kw_72 kw_94 kw_1356) (by decide +kernel) ⟨Nat.le_of_ble_eq_true rfl, Nat.le_of_ble_eq_true rfl⟩ hK hP hD hN hT hS (va_free (wc := [(h0, .inr (10, [.ref h0_in, .int h0_inSize, w_h0_out, w_h0_outSize, .ref h0_dict, .int h0_dictSize, w_h0_told, .ref h0_fresh, .int h0_freshSize, w_h0_text, w_h0_lean, w_h0_size, w_h0_most, w_h0_offset, w_h0_copyAt, w_h0_copies, w_h0_copyLength, w_h0_copyOffset, w_h0_fromHere, w_h0_withCopy, w_h0_bestCopy, w_h0_bestLiterals, .int h0_copiesOf, .int h0_literalsOf, .int h0_partsOf, w_h0_blocks, w_h0_blockMany, .ref h0_newBlocks, .int h0_newMany, .int h0_rule, .int h0_place, .int h0_at]))]) hD hS hA [0] rfl) [0] rfl (by decide) rfl rfl rfl hl.1 rfl (lv_room (Nat.le_of_ble_eq_true rfl)) dX12_readBlock_131 ⟨Nat.le_of_ble_eq_true rfl, Nat.le_of_ble_eq_true rfl⟩) hP hD hS hA (wr := [(h0_in, .inl (cI, h0_in_n, .inl h0_in_f)), (h0_fresh, .inl (cI, h0_fresh_n, .inl h0_fresh_f)), (h0_newBlocks, .inl (cI, h0_newBlocks_n, .inl h0_newBlocks_f)), (h0_dict, .inl (cI, h0_dict_n, .inl h0_dict_f))]) (w1 := [(h0, .inr (10, [.ref h0_in, .int h0_inSize, w_h0_out, w_h0_outSize, .ref h0_dict, .int h0_dictSize, w_h0_told, .ref h0_fresh, .int h0_freshSize, w_h0_text, w_h0_lean, w_h0_size, w_h0_most, w_h0_offset, w_h0_copyAt, w_h0_copies, w_h0_copyLength, w_h0_copyOffset, w_h0_fromHere, w_h0_withCopy, w_h0_bestCopy, w_h0_bestLiterals, .int h0_copiesOf, .int h0_literalsOf, .int h0_partsOf, w_h0_blocks, w_h0_blockMany, .ref h0_newBlocks, .int h0_newMany, .int u38, .int u39, .int h0_at]))]) (ws' := [(h0, .inr (10, [.ref h0_in, .int h0_inSize, w_h0_out, w_h0_outSize, .ref h0_dict, .int h0_dictSize, w_h0_told, .ref h0_fresh, .int h0_freshSize, w_h0_text, w_h0_lean, w_h0_size, w_h0_most, w_h0_offset, w_h0_copyAt, w_h0_copies, w_h0_copyLength, w_h0_copyOffset, w_h0_fromHere, w_h0_withCopy, w_h0_bestCopy, w_h0_bestLiterals, .int h0_copiesOf, .int h0_literalsOf, .int h0_partsOf, w_h0_blocks, w_h0_blockMany, .ref h0_newBlocks, .int h0_newMany, .int u38, .int u39, .int h0_at])), (h0_in, .inl (cI, h0_in_n, .inl h0_in_f)), (h0_fresh, .inl (cI, h0_fresh_n, .inl h0_fresh_f)), (h0_newBlocks, .inl (cI, h0_newBlocks_n, .inl h0_newBlocks_f)), (h0_dict, .inl (cI, h0_dict_n, .inl h0_dict_f))]) [0] [1, 2, 3, 4] [4, 0, 1, 2, 3] rfl rfl (by decide) (by decide) rfl (by decide) (fun H locs hP hD hS => ?_)
              obtain ⟨hzb, hf⟩ := bch_some hf
              obtain ⟨rfl, hq_1⟩ := Prod.mk.inj (Option.some.inj hf)
              obtain ⟨rfl, hq_2⟩ := Prod.mk.inj hq_1
              obtain ⟨rfl, hq_3⟩ := Prod.mk.inj hq_2
              obtain ⟨rfl, hq_4⟩ := Prod.mk.inj hq_3
              obtain ⟨rfl, hq_5⟩ := Prod.mk.inj hq_4
              obtain ⟨rfl, hq_6⟩ := Prod.mk.inj hq_5
              obtain ⟨rfl, hq_7⟩ := Prod.mk.inj hq_6
              obtain ⟨rfl, hq_8⟩ := Prod.mk.inj hq_7
              obtain ⟨rfl, hq_9⟩ := Prod.mk.inj hq_8
              obtain ⟨rfl, hq_10⟩ := Prod.mk.inj hq_9
              obtain rfl := hq_10
              exact rt_z hQ hx hb hr hzb hlocks hP hD hS dX12_readBlock_134
        · replace hf := if_f c_69 hf
          refine lv_aload_n hx hb dX12_readBlock_72 rfl (lv_at hl 1 rfl) ?_
          refine lv_iconst (v := 1) hx hb dX12_readBlock_73 (by decide) ?_
          refine lv_aload_n hx hb dX12_readBlock_74 rfl (lv_at hl 1 rfl) ?_
          refine va_get (D := (dC, dI)) (ci := 10) (v := .int h0_inSize) (C := RX12) (T := TX12) (N := 32) hx hb hts inG_X12 hown hK hP 0 rfl rfl 1 (by decide) (hts _ kw_1053) (fun _ h9 => h9) rfl dX12_readBlock_75 ?_
          obtain ⟨x, hc, hf⟩ := bind_some hf
          obtain ⟨r40, u41, u42⟩ := x
          dsimp only at hf
          refine nx_i (rn_V (As := [.int (1 : Int32), .int h0_inSize]) (rest := []) (n := 2) (ci := 10) (q0 := 0) ⟨hx, hb, hml, hown, hts⟩ (c_Mo_no (l := l) (dC := dC) (dI := dI) (cB := cB) (cI := cI) (h0 := h0) (a1 := (1 : Int32)) (a2 := h0_inSize) (w_h0_in := (.ref h0_in)) (w_h0_inSize := (.int h0_inSize)) (w_h0_out := (w_h0_out)) (w_h0_outSize := (w_h0_outSize)) (w_h0_dict := (.ref h0_dict)) (w_h0_dictSize := (.int h0_dictSize)) (w_h0_told := (w_h0_told)) (w_h0_fresh := (.ref h0_fresh)) (w_h0_freshSize := (.int h0_freshSize)) (w_h0_text := (w_h0_text)) (w_h0_lean := (w_h0_lean)) (w_h0_size := (w_h0_size)) (w_h0_most := (w_h0_most)) (w_h0_offset := (w_h0_offset)) (w_h0_copyAt := (w_h0_copyAt)) (w_h0_copies := (w_h0_copies)) (w_h0_copyLength := (w_h0_copyLength)) (w_h0_copyOffset := (w_h0_copyOffset)) (w_h0_fromHere := (w_h0_fromHere)) (w_h0_withCopy := (w_h0_withCopy)) (w_h0_bestCopy := (w_h0_bestCopy)) (w_h0_bestLiterals := (w_h0_bestLiterals)) (w_h0_copiesOf := (.int h0_copiesOf)) (w_h0_literalsOf := (.int h0_literalsOf)) (w_h0_partsOf := (.int h0_partsOf)) (w_h0_blocks := (w_h0_blocks)) (w_h0_blockMany := (w_h0_blockMany)) (w_h0_newBlocks := (.ref h0_newBlocks)) (w_h0_newMany := (.int h0_newMany)) (h0_rule := h0_rule) (h0_place := h0_place) (w_h0_at := (.int h0_at)) (o_h0_rule := u41) (o_h0_place := u42) (o_r := r40) hc) (wV kw_1353 kw_1355 kw_72 kw_94 kw_1356) (by decide +kernel) ⟨Nat.le_of_ble_eq_true rfl, Nat.le_of_ble_eq_true rfl⟩ hK hP hD hN hT hS (va_free (wc := [(h0, .inr (10, [.ref h0_in, .int h0_inSize, w_h0_out, w_h0_outSize, .ref h0_dict, .int h0_dictSize, w_h0_told, .ref h0_fresh, .int h0_freshSize, w_h0_text, w_h0_lean, w_h0_size, w_h0_most, w_h0_offset, w_h0_copyAt, w_h0_copies, w_h0_copyLength, w_h0_copyOffset, w_h0_fromHere, w_h0_withCopy, w_h0_bestCopy, w_h0_bestLiterals, .int h0_copiesOf, .int h0_literalsOf, .int h0_partsOf, w_h0_blocks, w_h0_blockMany, .ref h0_newBlocks, .int h0_newMany, .int h0_rule, .int h0_place, .int h0_at]))]) hD hS hA [0] rfl) [0] rfl (by decide) rfl rfl rfl hl.1 rfl (lv_room (Nat.le_of_ble_eq_true rfl)) dX12_readBlock_78 ⟨Nat.le_of_ble_eq_true rfl, Nat.le_of_ble_eq_true rfl⟩) hP hD hS hA (wr := [(h0_in, .inl (cI, h0_in_n, .inl h0_in_f)), (h0_fresh, .inl (cI, h0_fresh_n, .inl h0_fresh_f)), (h0_newBlocks, .inl (cI, h0_newBlocks_n, .inl h0_newBlocks_f)), (h0_dict, .inl (cI, h0_dict_n, .inl h0_dict_f))]) (w1 := [(h0, .inr (10, [.ref h0_in, .int h0_inSize, w_h0_out, w_h0_outSize, .ref h0_dict, .int h0_dictSize, w_h0_told, .ref h0_fresh, .int h0_freshSize, w_h0_text, w_h0_lean, w_h0_size, w_h0_most, w_h0_offset, w_h0_copyAt, w_h0_copies, w_h0_copyLength, w_h0_copyOffset, w_h0_fromHere, w_h0_withCopy, w_h0_bestCopy, w_h0_bestLiterals, .int h0_copiesOf, .int h0_literalsOf, .int h0_partsOf, w_h0_blocks, w_h0_blockMany, .ref h0_newBlocks, .int h0_newMany, .int u41, .int u42, .int h0_at]))]) (ws' := [(h0, .inr (10, [.ref h0_in, .int h0_inSize, w_h0_out, w_h0_outSize, .ref h0_dict, .int h0_dictSize, w_h0_told, .ref h0_fresh, .int h0_freshSize, w_h0_text, w_h0_lean, w_h0_size, w_h0_most, w_h0_offset, w_h0_copyAt, w_h0_copies, w_h0_copyLength, w_h0_copyOffset, w_h0_fromHere, w_h0_withCopy, w_h0_bestCopy, w_h0_bestLiterals, .int h0_copiesOf, .int h0_literalsOf, .int h0_partsOf, w_h0_blocks, w_h0_blockMany, .ref h0_newBlocks, .int h0_newMany, .int u41, .int u42, .int h0_at])), (h0_in, .inl (cI, h0_in_n, .inl h0_in_f)), (h0_fresh, .inl (cI, h0_fresh_n, .inl h0_fresh_f)), (h0_newBlocks, .inl (cI, h0_newBlocks_n, .inl h0_newBlocks_f)), (h0_dict, .inl (cI, h0_dict_n, .inl h0_dict_f))]) [0] [1, 2, 3, 4] [4, 0, 1, 2, 3] rfl rfl (by decide) (by decide) rfl (by decide) (fun H locs hP hD hS => ?_)
          obtain ⟨hzb, hf⟩ := bch_some hf
          obtain ⟨rfl, hq_1⟩ := Prod.mk.inj (Option.some.inj hf)
          obtain ⟨rfl, hq_2⟩ := Prod.mk.inj hq_1
          obtain ⟨rfl, hq_3⟩ := Prod.mk.inj hq_2
          obtain ⟨rfl, hq_4⟩ := Prod.mk.inj hq_3
          obtain ⟨rfl, hq_5⟩ := Prod.mk.inj hq_4
          obtain ⟨rfl, hq_6⟩ := Prod.mk.inj hq_5
          obtain ⟨rfl, hq_7⟩ := Prod.mk.inj hq_6
          obtain ⟨rfl, hq_8⟩ := Prod.mk.inj hq_7
          obtain ⟨rfl, hq_9⟩ := Prod.mk.inj hq_8
          obtain ⟨rfl, hq_10⟩ := Prod.mk.inj hq_9
          obtain rfl := hq_10
          exact rt_z hQ hx hb hr hzb hlocks hP hD hS dX12_readBlock_81
      · replace hf := if_f c_41 hf
        refine lv_aload_n hx hb dX12_readBlock_44 rfl (lv_at hl 1 rfl) ?_
        refine lv_bipush (v := 7) hx hb dX12_readBlock_45 (by decide) ?_
        refine lv_iload_n hx hb dX12_readBlock_47 rfl (lv_at hl 2 rfl) ?_
        obtain ⟨x, hc, hf⟩ := bind_some hf
        obtain ⟨r43, u44, u45⟩ := x
        dsimp only at hf
        refine nx_i (rn_V (As := [.int (7 : Int32), .int a1]) (rest := []) (n := 2) (ci := 10) (q0 := 0) ⟨hx, hb, hml, hown, hts⟩ (c_Mo_no (l := l) (dC := dC) (dI := dI) (cB := cB) (cI := cI) (h0 := h0) (a1 := (7 : Int32)) (a2 := a1) (w_h0_in := (.ref h0_in)) (w_h0_inSize := (.int h0_inSize)) (w_h0_out := (w_h0_out)) (w_h0_outSize := (w_h0_outSize)) (w_h0_dict := (.ref h0_dict)) (w_h0_dictSize := (.int h0_dictSize)) (w_h0_told := (w_h0_told)) (w_h0_fresh := (.ref h0_fresh)) (w_h0_freshSize := (.int h0_freshSize)) (w_h0_text := (w_h0_text)) (w_h0_lean := (w_h0_lean)) (w_h0_size := (w_h0_size)) (w_h0_most := (w_h0_most)) (w_h0_offset := (w_h0_offset)) (w_h0_copyAt := (w_h0_copyAt)) (w_h0_copies := (w_h0_copies)) (w_h0_copyLength := (w_h0_copyLength)) (w_h0_copyOffset := (w_h0_copyOffset)) (w_h0_fromHere := (w_h0_fromHere)) (w_h0_withCopy := (w_h0_withCopy)) (w_h0_bestCopy := (w_h0_bestCopy)) (w_h0_bestLiterals := (w_h0_bestLiterals)) (w_h0_copiesOf := (.int h0_copiesOf)) (w_h0_literalsOf := (.int h0_literalsOf)) (w_h0_partsOf := (.int h0_partsOf)) (w_h0_blocks := (w_h0_blocks)) (w_h0_blockMany := (w_h0_blockMany)) (w_h0_newBlocks := (.ref h0_newBlocks)) (w_h0_newMany := (.int h0_newMany)) (h0_rule := h0_rule) (h0_place := h0_place) (w_h0_at := (.int h0_at)) (o_h0_rule := u44) (o_h0_place := u45) (o_r := r43) hc) (wV kw_1353 kw_1355 kw_72 kw_94 kw_1356) (by decide +kernel) ⟨Nat.le_of_ble_eq_true rfl, Nat.le_of_ble_eq_true rfl⟩ hK hP hD hN hT hS (va_free (wc := [(h0, .inr (10, [.ref h0_in, .int h0_inSize, w_h0_out, w_h0_outSize, .ref h0_dict, .int h0_dictSize, w_h0_told, .ref h0_fresh, .int h0_freshSize, w_h0_text, w_h0_lean, w_h0_size, w_h0_most, w_h0_offset, w_h0_copyAt, w_h0_copies, w_h0_copyLength, w_h0_copyOffset, w_h0_fromHere, w_h0_withCopy, w_h0_bestCopy, w_h0_bestLiterals, .int h0_copiesOf, .int h0_literalsOf, .int h0_partsOf, w_h0_blocks, w_h0_blockMany, .ref h0_newBlocks, .int h0_newMany, .int h0_rule, .int h0_place, .int h0_at]))]) hD hS hA [0] rfl) [0] rfl (by decide) rfl rfl rfl hl.1 rfl (lv_room (Nat.le_of_ble_eq_true rfl)) dX12_readBlock_48 ⟨Nat.le_of_ble_eq_true rfl, Nat.le_of_ble_eq_true rfl⟩) hP hD hS hA (wr := [(h0_in, .inl (cI, h0_in_n, .inl h0_in_f)), (h0_fresh, .inl (cI, h0_fresh_n, .inl h0_fresh_f)), (h0_newBlocks, .inl (cI, h0_newBlocks_n, .inl h0_newBlocks_f)), (h0_dict, .inl (cI, h0_dict_n, .inl h0_dict_f))]) (w1 := [(h0, .inr (10, [.ref h0_in, .int h0_inSize, w_h0_out, w_h0_outSize, .ref h0_dict, .int h0_dictSize, w_h0_told, .ref h0_fresh, .int h0_freshSize, w_h0_text, w_h0_lean, w_h0_size, w_h0_most, w_h0_offset, w_h0_copyAt, w_h0_copies, w_h0_copyLength, w_h0_copyOffset, w_h0_fromHere, w_h0_withCopy, w_h0_bestCopy, w_h0_bestLiterals, .int h0_copiesOf, .int h0_literalsOf, .int h0_partsOf, w_h0_blocks, w_h0_blockMany, .ref h0_newBlocks, .int h0_newMany, .int u44, .int u45, .int h0_at]))]) (ws' := [(h0, .inr (10, [.ref h0_in, .int h0_inSize, w_h0_out, w_h0_outSize, .ref h0_dict, .int h0_dictSize, w_h0_told, .ref h0_fresh, .int h0_freshSize, w_h0_text, w_h0_lean, w_h0_size, w_h0_most, w_h0_offset, w_h0_copyAt, w_h0_copies, w_h0_copyLength, w_h0_copyOffset, w_h0_fromHere, w_h0_withCopy, w_h0_bestCopy, w_h0_bestLiterals, .int h0_copiesOf, .int h0_literalsOf, .int h0_partsOf, w_h0_blocks, w_h0_blockMany, .ref h0_newBlocks, .int h0_newMany, .int u44, .int u45, .int h0_at])), (h0_in, .inl (cI, h0_in_n, .inl h0_in_f)), (h0_fresh, .inl (cI, h0_fresh_n, .inl h0_fresh_f)), (h0_newBlocks, .inl (cI, h0_newBlocks_n, .inl h0_newBlocks_f)), (h0_dict, .inl (cI, h0_dict_n, .inl h0_dict_f))]) [0] [1, 2, 3, 4] [4, 0, 1, 2, 3] rfl rfl (by decide) (by decide) rfl (by decide) (fun H locs hP hD hS => ?_)
        obtain ⟨hzb, hf⟩ := bch_some hf
        obtain ⟨rfl, hq_1⟩ := Prod.mk.inj (Option.some.inj hf)
        obtain ⟨rfl, hq_2⟩ := Prod.mk.inj hq_1
        obtain ⟨rfl, hq_3⟩ := Prod.mk.inj hq_2
        obtain ⟨rfl, hq_4⟩ := Prod.mk.inj hq_3
        obtain ⟨rfl, hq_5⟩ := Prod.mk.inj hq_4
        obtain ⟨rfl, hq_6⟩ := Prod.mk.inj hq_5
        obtain ⟨rfl, hq_7⟩ := Prod.mk.inj hq_6
        obtain ⟨rfl, hq_8⟩ := Prod.mk.inj hq_7
        obtain ⟨rfl, hq_9⟩ := Prod.mk.inj hq_8
        obtain ⟨rfl, hq_10⟩ := Prod.mk.inj hq_9
        obtain rfl := hq_10
        exact rt_z hQ hx hb hr hzb hlocks hP hD hS dX12_readBlock_51
    refine lv_if_eq (tgt := 33) hx hb dX12_readBlock_26 (by decide) (fun c_26 => ?_) (fun c_26 => ?_)
    · replace hf := if_t c_26 hf
      refine lv_iconst (v := 0) hx hb dX12_readBlock_33 (by decide) ?_
      exact hJ_34 (0 : Int32) _ _ _ hf hP hD hS (lv_sub hl [1, 2, 3, 4, 5, 6, 0] rfl)
    · replace hf := if_f c_26 hf
      refine lv_iconst (v := 4) hx hb dX12_readBlock_29 (by decide) ?_
      refine lv_goto (tgt := 34) hx hb dX12_readBlock_30 (by decide) ?_
      exact hJ_34 (4 : Int32) _ _ _ hf hP hD hS (lv_sub hl [1, 2, 3, 4, 5, 6, 0] rfl)
  refine lv_if_eq (tgt := 18) hx hb dX12_readBlock_11 (by decide) (fun c_11 => ?_) (fun c_11 => ?_)
  · replace hf := if_t c_11 hf
    refine lv_iconst (v := 0) hx hb dX12_readBlock_18 (by decide) ?_
    exact hJ_19 (0 : Int32) _ _ _ hf hP hD hS (lv_sub hl [1, 2, 4, 5, 6, 0] rfl)
  · replace hf := if_f c_11 hf
    refine lv_iconst (v := 1) hx hb dX12_readBlock_14 (by decide) ?_
    refine lv_goto (tgt := 19) hx hb dX12_readBlock_15 (by decide) ?_
    exact hJ_19 (1 : Int32) _ _ _ hf hP hD hS (lv_sub hl [1, 2, 4, 5, 6, 0] rfl)

theorem dX12_readFrame_0 : decode cX12_readFrame 0 = .ok (.aload_n 0, 1) := by decide +kernel
theorem dX12_readFrame_1 : decode cX12_readFrame 1 = .ok (.getfield 232, 3) := by decide +kernel
theorem dX12_readFrame_4 : decode cX12_readFrame 4 = .ok (.istore_n 1, 1) := by decide +kernel
theorem dX12_readFrame_5 : decode cX12_readFrame 5 = .ok (.aload_n 0, 1) := by decide +kernel
theorem dX12_readFrame_6 : decode cX12_readFrame 6 = .ok (.getfield 232, 3) := by decide +kernel
theorem dX12_readFrame_9 : decode cX12_readFrame 9 = .ok (.aload_n 0, 1) := by decide +kernel
theorem dX12_readFrame_10 : decode cX12_readFrame 10 = .ok (.getfield 177, 3) := by decide +kernel
theorem dX12_readFrame_13 : decode cX12_readFrame 13 = .ok (.if_icmp .ne 13, 3) := by decide +kernel
theorem dX12_readFrame_16 : decode cX12_readFrame 16 = .ok (.aload_n 0, 1) := by decide +kernel
theorem dX12_readFrame_17 : decode cX12_readFrame 17 = .ok (.iconst 1, 1) := by decide +kernel
theorem dX12_readFrame_18 : decode cX12_readFrame 18 = .ok (.aload_n 0, 1) := by decide +kernel
theorem dX12_readFrame_19 : decode cX12_readFrame 19 = .ok (.getfield 177, 3) := by decide +kernel
theorem dX12_readFrame_22 : decode cX12_readFrame 22 = .ok (.invokevirtual 235, 3) := by decide +kernel
theorem dX12_readFrame_25 : decode cX12_readFrame 25 = .ok (.ireturn, 1) := by decide +kernel
theorem dX12_readFrame_26 : decode cX12_readFrame 26 = .ok (.aload_n 0, 1) := by decide +kernel
theorem dX12_readFrame_27 : decode cX12_readFrame 27 = .ok (.getfield 170, 3) := by decide +kernel
theorem dX12_readFrame_30 : decode cX12_readFrame 30 = .ok (.aload_n 0, 1) := by decide +kernel
theorem dX12_readFrame_31 : decode cX12_readFrame 31 = .ok (.getfield 232, 3) := by decide +kernel
theorem dX12_readFrame_34 : decode cX12_readFrame 34 = .ok (.iaload, 1) := by decide +kernel
theorem dX12_readFrame_35 : decode cX12_readFrame 35 = .ok (.istore_n 2, 1) := by decide +kernel
theorem dX12_readFrame_36 : decode cX12_readFrame 36 = .ok (.iload_n 2, 1) := by decide +kernel
theorem dX12_readFrame_37 : decode cX12_readFrame 37 = .ok (.sipush 194, 3) := by decide +kernel
theorem dX12_readFrame_40 : decode cX12_readFrame 40 = .ok (.iand, 1) := by decide +kernel
theorem dX12_readFrame_41 : decode cX12_readFrame 41 = .ok (.bipush 64, 2) := by decide +kernel
theorem dX12_readFrame_43 : decode cX12_readFrame 43 = .ok (.if_icmp .eq 13, 3) := by decide +kernel
theorem dX12_readFrame_46 : decode cX12_readFrame 46 = .ok (.aload_n 0, 1) := by decide +kernel
theorem dX12_readFrame_47 : decode cX12_readFrame 47 = .ok (.iconst 5, 1) := by decide +kernel
theorem dX12_readFrame_48 : decode cX12_readFrame 48 = .ok (.aload_n 0, 1) := by decide +kernel
theorem dX12_readFrame_49 : decode cX12_readFrame 49 = .ok (.getfield 232, 3) := by decide +kernel
theorem dX12_readFrame_52 : decode cX12_readFrame 52 = .ok (.invokevirtual 235, 3) := by decide +kernel
theorem dX12_readFrame_55 : decode cX12_readFrame 55 = .ok (.ireturn, 1) := by decide +kernel
theorem dX12_readFrame_56 : decode cX12_readFrame 56 = .ok (.aload_n 0, 1) := by decide +kernel
theorem dX12_readFrame_57 : decode cX12_readFrame 57 = .ok (.dup, 1) := by decide +kernel
theorem dX12_readFrame_58 : decode cX12_readFrame 58 = .ok (.getfield 232, 3) := by decide +kernel
theorem dX12_readFrame_61 : decode cX12_readFrame 61 = .ok (.iconst 1, 1) := by decide +kernel
theorem dX12_readFrame_62 : decode cX12_readFrame 62 = .ok (.iadd, 1) := by decide +kernel
theorem dX12_readFrame_63 : decode cX12_readFrame 63 = .ok (.putfield 232, 3) := by decide +kernel
theorem dX12_readFrame_66 : decode cX12_readFrame 66 = .ok (.aload_n 0, 1) := by decide +kernel
theorem dX12_readFrame_67 : decode cX12_readFrame 67 = .ok (.getfield 232, 3) := by decide +kernel
theorem dX12_readFrame_70 : decode cX12_readFrame 70 = .ok (.aload_n 0, 1) := by decide +kernel
theorem dX12_readFrame_71 : decode cX12_readFrame 71 = .ok (.getfield 177, 3) := by decide +kernel
theorem dX12_readFrame_74 : decode cX12_readFrame 74 = .ok (.if_icmp .ne 13, 3) := by decide +kernel
theorem dX12_readFrame_77 : decode cX12_readFrame 77 = .ok (.aload_n 0, 1) := by decide +kernel
theorem dX12_readFrame_78 : decode cX12_readFrame 78 = .ok (.iconst 1, 1) := by decide +kernel
theorem dX12_readFrame_79 : decode cX12_readFrame 79 = .ok (.aload_n 0, 1) := by decide +kernel
theorem dX12_readFrame_80 : decode cX12_readFrame 80 = .ok (.getfield 177, 3) := by decide +kernel
theorem dX12_readFrame_83 : decode cX12_readFrame 83 = .ok (.invokevirtual 235, 3) := by decide +kernel
theorem dX12_readFrame_86 : decode cX12_readFrame 86 = .ok (.ireturn, 1) := by decide +kernel
theorem dX12_readFrame_87 : decode cX12_readFrame 87 = .ok (.aload_n 0, 1) := by decide +kernel
theorem dX12_readFrame_88 : decode cX12_readFrame 88 = .ok (.getfield 170, 3) := by decide +kernel
theorem dX12_readFrame_91 : decode cX12_readFrame 91 = .ok (.aload_n 0, 1) := by decide +kernel
theorem dX12_readFrame_92 : decode cX12_readFrame 92 = .ok (.getfield 232, 3) := by decide +kernel
theorem dX12_readFrame_95 : decode cX12_readFrame 95 = .ok (.iaload, 1) := by decide +kernel
theorem dX12_readFrame_96 : decode cX12_readFrame 96 = .ok (.iconst 4, 1) := by decide +kernel
theorem dX12_readFrame_97 : decode cX12_readFrame 97 = .ok (.ishr, 1) := by decide +kernel
theorem dX12_readFrame_98 : decode cX12_readFrame 98 = .ok (.istore_n 3, 1) := by decide +kernel
theorem dX12_readFrame_99 : decode cX12_readFrame 99 = .ok (.aload_n 0, 1) := by decide +kernel
theorem dX12_readFrame_100 : decode cX12_readFrame 100 = .ok (.getfield 170, 3) := by decide +kernel
theorem dX12_readFrame_103 : decode cX12_readFrame 103 = .ok (.aload_n 0, 1) := by decide +kernel
theorem dX12_readFrame_104 : decode cX12_readFrame 104 = .ok (.getfield 232, 3) := by decide +kernel
theorem dX12_readFrame_107 : decode cX12_readFrame 107 = .ok (.iaload, 1) := by decide +kernel
theorem dX12_readFrame_108 : decode cX12_readFrame 108 = .ok (.bipush 15, 2) := by decide +kernel
theorem dX12_readFrame_110 : decode cX12_readFrame 110 = .ok (.iand, 1) := by decide +kernel
theorem dX12_readFrame_111 : decode cX12_readFrame 111 = .ok (.ifCond .ne 14, 3) := by decide +kernel
theorem dX12_readFrame_114 : decode cX12_readFrame 114 = .ok (.iload_n 3, 1) := by decide +kernel
theorem dX12_readFrame_115 : decode cX12_readFrame 115 = .ok (.iconst 4, 1) := by decide +kernel
theorem dX12_readFrame_116 : decode cX12_readFrame 116 = .ok (.if_icmp .lt 9, 3) := by decide +kernel
theorem dX12_readFrame_119 : decode cX12_readFrame 119 = .ok (.iload_n 3, 1) := by decide +kernel
theorem dX12_readFrame_120 : decode cX12_readFrame 120 = .ok (.bipush 7, 2) := by decide +kernel
theorem dX12_readFrame_122 : decode cX12_readFrame 122 = .ok (.if_icmp .le 13, 3) := by decide +kernel
theorem dX12_readFrame_125 : decode cX12_readFrame 125 = .ok (.aload_n 0, 1) := by decide +kernel
theorem dX12_readFrame_126 : decode cX12_readFrame 126 = .ok (.iconst 5, 1) := by decide +kernel
theorem dX12_readFrame_127 : decode cX12_readFrame 127 = .ok (.aload_n 0, 1) := by decide +kernel
theorem dX12_readFrame_128 : decode cX12_readFrame 128 = .ok (.getfield 232, 3) := by decide +kernel
theorem dX12_readFrame_131 : decode cX12_readFrame 131 = .ok (.invokevirtual 235, 3) := by decide +kernel
theorem dX12_readFrame_134 : decode cX12_readFrame 134 = .ok (.ireturn, 1) := by decide +kernel
theorem dX12_readFrame_135 : decode cX12_readFrame 135 = .ok (.aload_n 0, 1) := by decide +kernel
theorem dX12_readFrame_136 : decode cX12_readFrame 136 = .ok (.dup, 1) := by decide +kernel
theorem dX12_readFrame_137 : decode cX12_readFrame 137 = .ok (.getfield 232, 3) := by decide +kernel
theorem dX12_readFrame_140 : decode cX12_readFrame 140 = .ok (.iconst 1, 1) := by decide +kernel
theorem dX12_readFrame_141 : decode cX12_readFrame 141 = .ok (.iadd, 1) := by decide +kernel
theorem dX12_readFrame_142 : decode cX12_readFrame 142 = .ok (.putfield 232, 3) := by decide +kernel
theorem dX12_readFrame_145 : decode cX12_readFrame 145 = .ok (.iload_n 2, 1) := by decide +kernel
theorem dX12_readFrame_146 : decode cX12_readFrame 146 = .ok (.bipush 8, 2) := by decide +kernel
theorem dX12_readFrame_148 : decode cX12_readFrame 148 = .ok (.iand, 1) := by decide +kernel
theorem dX12_readFrame_149 : decode cX12_readFrame 149 = .ok (.ifCond .eq 8, 3) := by decide +kernel
theorem dX12_readFrame_152 : decode cX12_readFrame 152 = .ok (.bipush 8, 2) := by decide +kernel
theorem dX12_readFrame_154 : decode cX12_readFrame 154 = .ok (.goto 4, 3) := by decide +kernel
theorem dX12_readFrame_157 : decode cX12_readFrame 157 = .ok (.iconst 0, 1) := by decide +kernel
theorem dX12_readFrame_158 : decode cX12_readFrame 158 = .ok (.iload_n 2, 1) := by decide +kernel
theorem dX12_readFrame_159 : decode cX12_readFrame 159 = .ok (.iconst 1, 1) := by decide +kernel
theorem dX12_readFrame_160 : decode cX12_readFrame 160 = .ok (.iand, 1) := by decide +kernel
theorem dX12_readFrame_161 : decode cX12_readFrame 161 = .ok (.ifCond .eq 7, 3) := by decide +kernel
theorem dX12_readFrame_164 : decode cX12_readFrame 164 = .ok (.iconst 4, 1) := by decide +kernel
theorem dX12_readFrame_165 : decode cX12_readFrame 165 = .ok (.goto 4, 3) := by decide +kernel
theorem dX12_readFrame_168 : decode cX12_readFrame 168 = .ok (.iconst 0, 1) := by decide +kernel
theorem dX12_readFrame_169 : decode cX12_readFrame 169 = .ok (.iadd, 1) := by decide +kernel
theorem dX12_readFrame_170 : decode cX12_readFrame 170 = .ok (.iconst 1, 1) := by decide +kernel
theorem dX12_readFrame_171 : decode cX12_readFrame 171 = .ok (.iadd, 1) := by decide +kernel
theorem dX12_readFrame_172 : decode cX12_readFrame 172 = .ok (.istore 4, 2) := by decide +kernel
theorem dX12_readFrame_174 : decode cX12_readFrame 174 = .ok (.aload_n 0, 1) := by decide +kernel
theorem dX12_readFrame_175 : decode cX12_readFrame 175 = .ok (.getfield 177, 3) := by decide +kernel
theorem dX12_readFrame_178 : decode cX12_readFrame 178 = .ok (.aload_n 0, 1) := by decide +kernel
theorem dX12_readFrame_179 : decode cX12_readFrame 179 = .ok (.getfield 232, 3) := by decide +kernel
theorem dX12_readFrame_182 : decode cX12_readFrame 182 = .ok (.isub, 1) := by decide +kernel
theorem dX12_readFrame_183 : decode cX12_readFrame 183 = .ok (.iload 4, 2) := by decide +kernel
theorem dX12_readFrame_185 : decode cX12_readFrame 185 = .ok (.if_icmp .ge 13, 3) := by decide +kernel
theorem dX12_readFrame_188 : decode cX12_readFrame 188 = .ok (.aload_n 0, 1) := by decide +kernel
theorem dX12_readFrame_189 : decode cX12_readFrame 189 = .ok (.iconst 1, 1) := by decide +kernel
theorem dX12_readFrame_190 : decode cX12_readFrame 190 = .ok (.aload_n 0, 1) := by decide +kernel
theorem dX12_readFrame_191 : decode cX12_readFrame 191 = .ok (.getfield 177, 3) := by decide +kernel
theorem dX12_readFrame_194 : decode cX12_readFrame 194 = .ok (.invokevirtual 235, 3) := by decide +kernel
theorem dX12_readFrame_197 : decode cX12_readFrame 197 = .ok (.ireturn, 1) := by decide +kernel
theorem dX12_readFrame_198 : decode cX12_readFrame 198 = .ok (.iload_n 2, 1) := by decide +kernel
theorem dX12_readFrame_199 : decode cX12_readFrame 199 = .ok (.bipush 8, 2) := by decide +kernel
theorem dX12_readFrame_201 : decode cX12_readFrame 201 = .ok (.iand, 1) := by decide +kernel
theorem dX12_readFrame_202 : decode cX12_readFrame 202 = .ok (.ifCond .eq 16, 3) := by decide +kernel
theorem dX12_readFrame_205 : decode cX12_readFrame 205 = .ok (.aload_n 0, 1) := by decide +kernel
theorem dX12_readFrame_206 : decode cX12_readFrame 206 = .ok (.aload_n 0, 1) := by decide +kernel
theorem dX12_readFrame_207 : decode cX12_readFrame 207 = .ok (.getfield 232, 3) := by decide +kernel
theorem dX12_readFrame_210 : decode cX12_readFrame 210 = .ok (.bipush 8, 2) := by decide +kernel
theorem dX12_readFrame_212 : decode cX12_readFrame 212 = .ok (.invokevirtual 239, 3) := by decide +kernel
theorem dX12_readFrame_215 : decode cX12_readFrame 215 = .ok (.goto 4, 3) := by decide +kernel
theorem dX12_readFrame_218 : decode cX12_readFrame 218 = .ok (.lconst 0, 1) := by decide +kernel
theorem dX12_readFrame_219 : decode cX12_readFrame 219 = .ok (.lstore 5, 2) := by decide +kernel
theorem dX12_readFrame_221 : decode cX12_readFrame 221 = .ok (.aload_n 0, 1) := by decide +kernel
theorem dX12_readFrame_222 : decode cX12_readFrame 222 = .ok (.dup, 1) := by decide +kernel
theorem dX12_readFrame_223 : decode cX12_readFrame 223 = .ok (.getfield 232, 3) := by decide +kernel
theorem dX12_readFrame_226 : decode cX12_readFrame 226 = .ok (.iload 4, 2) := by decide +kernel
theorem dX12_readFrame_228 : decode cX12_readFrame 228 = .ok (.iconst 1, 1) := by decide +kernel
theorem dX12_readFrame_229 : decode cX12_readFrame 229 = .ok (.isub, 1) := by decide +kernel
theorem dX12_readFrame_230 : decode cX12_readFrame 230 = .ok (.iadd, 1) := by decide +kernel
theorem dX12_readFrame_231 : decode cX12_readFrame 231 = .ok (.putfield 232, 3) := by decide +kernel
theorem dX12_readFrame_234 : decode cX12_readFrame 234 = .ok (.aload_n 0, 1) := by decide +kernel
theorem dX12_readFrame_235 : decode cX12_readFrame 235 = .ok (.getfield 170, 3) := by decide +kernel
theorem dX12_readFrame_238 : decode cX12_readFrame 238 = .ok (.iload_n 1, 1) := by decide +kernel
theorem dX12_readFrame_239 : decode cX12_readFrame 239 = .ok (.aload_n 0, 1) := by decide +kernel
theorem dX12_readFrame_240 : decode cX12_readFrame 240 = .ok (.getfield 232, 3) := by decide +kernel
theorem dX12_readFrame_243 : decode cX12_readFrame 243 = .ok (.iload_n 1, 1) := by decide +kernel
theorem dX12_readFrame_244 : decode cX12_readFrame 244 = .ok (.isub, 1) := by decide +kernel
theorem dX12_readFrame_245 : decode cX12_readFrame 245 = .ok (.invokestatic 180, 3) := by decide +kernel
theorem dX12_readFrame_248 : decode cX12_readFrame 248 = .ok (.bipush 8, 2) := by decide +kernel
theorem dX12_readFrame_250 : decode cX12_readFrame 250 = .ok (.ishr, 1) := by decide +kernel
theorem dX12_readFrame_251 : decode cX12_readFrame 251 = .ok (.sipush 255, 3) := by decide +kernel
theorem dX12_readFrame_254 : decode cX12_readFrame 254 = .ok (.iand, 1) := by decide +kernel
theorem dX12_readFrame_255 : decode cX12_readFrame 255 = .ok (.aload_n 0, 1) := by decide +kernel
theorem dX12_readFrame_256 : decode cX12_readFrame 256 = .ok (.getfield 170, 3) := by decide +kernel
theorem dX12_readFrame_259 : decode cX12_readFrame 259 = .ok (.aload_n 0, 1) := by decide +kernel
theorem dX12_readFrame_260 : decode cX12_readFrame 260 = .ok (.getfield 232, 3) := by decide +kernel
theorem dX12_readFrame_263 : decode cX12_readFrame 263 = .ok (.iaload, 1) := by decide +kernel
theorem dX12_readFrame_264 : decode cX12_readFrame 264 = .ok (.if_icmp .eq 14, 3) := by decide +kernel
theorem dX12_readFrame_267 : decode cX12_readFrame 267 = .ok (.aload_n 0, 1) := by decide +kernel
theorem dX12_readFrame_268 : decode cX12_readFrame 268 = .ok (.bipush 6, 2) := by decide +kernel
theorem dX12_readFrame_270 : decode cX12_readFrame 270 = .ok (.aload_n 0, 1) := by decide +kernel
theorem dX12_readFrame_271 : decode cX12_readFrame 271 = .ok (.getfield 232, 3) := by decide +kernel
theorem dX12_readFrame_274 : decode cX12_readFrame 274 = .ok (.invokevirtual 235, 3) := by decide +kernel
theorem dX12_readFrame_277 : decode cX12_readFrame 277 = .ok (.ireturn, 1) := by decide +kernel
theorem dX12_readFrame_278 : decode cX12_readFrame 278 = .ok (.iload_n 2, 1) := by decide +kernel
theorem dX12_readFrame_279 : decode cX12_readFrame 279 = .ok (.iconst 1, 1) := by decide +kernel
theorem dX12_readFrame_280 : decode cX12_readFrame 280 = .ok (.iand, 1) := by decide +kernel
theorem dX12_readFrame_281 : decode cX12_readFrame 281 = .ok (.ifCond .eq 37, 3) := by decide +kernel
theorem dX12_readFrame_284 : decode cX12_readFrame 284 = .ok (.aload_n 0, 1) := by decide +kernel
theorem dX12_readFrame_285 : decode cX12_readFrame 285 = .ok (.aload_n 0, 1) := by decide +kernel
theorem dX12_readFrame_286 : decode cX12_readFrame 286 = .ok (.getfield 232, 3) := by decide +kernel
theorem dX12_readFrame_289 : decode cX12_readFrame 289 = .ok (.iconst 4, 1) := by decide +kernel
theorem dX12_readFrame_290 : decode cX12_readFrame 290 = .ok (.isub, 1) := by decide +kernel
theorem dX12_readFrame_291 : decode cX12_readFrame 291 = .ok (.iconst 4, 1) := by decide +kernel
theorem dX12_readFrame_292 : decode cX12_readFrame 292 = .ok (.invokevirtual 239, 3) := by decide +kernel
theorem dX12_readFrame_295 : decode cX12_readFrame 295 = .ok (.l2i, 1) := by decide +kernel
theorem dX12_readFrame_296 : decode cX12_readFrame 296 = .ok (.aload_n 0, 1) := by decide +kernel
theorem dX12_readFrame_297 : decode cX12_readFrame 297 = .ok (.getfield 174, 3) := by decide +kernel
theorem dX12_readFrame_300 : decode cX12_readFrame 300 = .ok (.iconst 5, 1) := by decide +kernel
theorem dX12_readFrame_301 : decode cX12_readFrame 301 = .ok (.iaload, 1) := by decide +kernel
theorem dX12_readFrame_302 : decode cX12_readFrame 302 = .ok (.if_icmp .eq 16, 3) := by decide +kernel
theorem dX12_readFrame_305 : decode cX12_readFrame 305 = .ok (.aload_n 0, 1) := by decide +kernel
theorem dX12_readFrame_306 : decode cX12_readFrame 306 = .ok (.bipush 11, 2) := by decide +kernel
theorem dX12_readFrame_308 : decode cX12_readFrame 308 = .ok (.aload_n 0, 1) := by decide +kernel
theorem dX12_readFrame_309 : decode cX12_readFrame 309 = .ok (.getfield 232, 3) := by decide +kernel
theorem dX12_readFrame_312 : decode cX12_readFrame 312 = .ok (.iconst 4, 1) := by decide +kernel
theorem dX12_readFrame_313 : decode cX12_readFrame 313 = .ok (.isub, 1) := by decide +kernel
theorem dX12_readFrame_314 : decode cX12_readFrame 314 = .ok (.invokevirtual 235, 3) := by decide +kernel
theorem dX12_readFrame_317 : decode cX12_readFrame 317 = .ok (.ireturn, 1) := by decide +kernel
theorem dX12_readFrame_318 : decode cX12_readFrame 318 = .ok (.aload_n 0, 1) := by decide +kernel
theorem dX12_readFrame_319 : decode cX12_readFrame 319 = .ok (.dup, 1) := by decide +kernel
theorem dX12_readFrame_320 : decode cX12_readFrame 320 = .ok (.getfield 232, 3) := by decide +kernel
theorem dX12_readFrame_323 : decode cX12_readFrame 323 = .ok (.iconst 1, 1) := by decide +kernel
theorem dX12_readFrame_324 : decode cX12_readFrame 324 = .ok (.iadd, 1) := by decide +kernel
theorem dX12_readFrame_325 : decode cX12_readFrame 325 = .ok (.putfield 232, 3) := by decide +kernel
theorem dX12_readFrame_328 : decode cX12_readFrame 328 = .ok (.aload_n 0, 1) := by decide +kernel
theorem dX12_readFrame_329 : decode cX12_readFrame 329 = .ok (.getfield 108, 3) := by decide +kernel
theorem dX12_readFrame_332 : decode cX12_readFrame 332 = .ok (.istore 7, 2) := by decide +kernel
theorem dX12_readFrame_334 : decode cX12_readFrame 334 = .ok (.aload_n 0, 1) := by decide +kernel
theorem dX12_readFrame_335 : decode cX12_readFrame 335 = .ok (.getfield 232, 3) := by decide +kernel
theorem dX12_readFrame_338 : decode cX12_readFrame 338 = .ok (.istore 8, 2) := by decide +kernel
theorem dX12_readFrame_340 : decode cX12_readFrame 340 = .ok (.aload_n 0, 1) := by decide +kernel
theorem dX12_readFrame_341 : decode cX12_readFrame 341 = .ok (.getfield 177, 3) := by decide +kernel
theorem dX12_readFrame_344 : decode cX12_readFrame 344 = .ok (.aload_n 0, 1) := by decide +kernel
theorem dX12_readFrame_345 : decode cX12_readFrame 345 = .ok (.getfield 232, 3) := by decide +kernel
theorem dX12_readFrame_348 : decode cX12_readFrame 348 = .ok (.isub, 1) := by decide +kernel
theorem dX12_readFrame_349 : decode cX12_readFrame 349 = .ok (.iconst 4, 1) := by decide +kernel
theorem dX12_readFrame_350 : decode cX12_readFrame 350 = .ok (.if_icmp .ge 13, 3) := by decide +kernel
theorem dX12_readFrame_353 : decode cX12_readFrame 353 = .ok (.aload_n 0, 1) := by decide +kernel
theorem dX12_readFrame_354 : decode cX12_readFrame 354 = .ok (.iconst 1, 1) := by decide +kernel
theorem dX12_readFrame_355 : decode cX12_readFrame 355 = .ok (.aload_n 0, 1) := by decide +kernel
theorem dX12_readFrame_356 : decode cX12_readFrame 356 = .ok (.getfield 177, 3) := by decide +kernel
theorem dX12_readFrame_359 : decode cX12_readFrame 359 = .ok (.invokevirtual 235, 3) := by decide +kernel
theorem dX12_readFrame_362 : decode cX12_readFrame 362 = .ok (.ireturn, 1) := by decide +kernel
theorem dX12_readFrame_363 : decode cX12_readFrame 363 = .ok (.aload_n 0, 1) := by decide +kernel
theorem dX12_readFrame_364 : decode cX12_readFrame 364 = .ok (.aload_n 0, 1) := by decide +kernel
theorem dX12_readFrame_365 : decode cX12_readFrame 365 = .ok (.getfield 232, 3) := by decide +kernel
theorem dX12_readFrame_368 : decode cX12_readFrame 368 = .ok (.iconst 4, 1) := by decide +kernel
theorem dX12_readFrame_369 : decode cX12_readFrame 369 = .ok (.invokevirtual 239, 3) := by decide +kernel
theorem dX12_readFrame_372 : decode cX12_readFrame 372 = .ok (.lstore 9, 2) := by decide +kernel
theorem dX12_readFrame_374 : decode cX12_readFrame 374 = .ok (.aload_n 0, 1) := by decide +kernel
theorem dX12_readFrame_375 : decode cX12_readFrame 375 = .ok (.dup, 1) := by decide +kernel
theorem dX12_readFrame_376 : decode cX12_readFrame 376 = .ok (.getfield 232, 3) := by decide +kernel
theorem dX12_readFrame_379 : decode cX12_readFrame 379 = .ok (.iconst 4, 1) := by decide +kernel
theorem dX12_readFrame_380 : decode cX12_readFrame 380 = .ok (.iadd, 1) := by decide +kernel
theorem dX12_readFrame_381 : decode cX12_readFrame 381 = .ok (.putfield 232, 3) := by decide +kernel
theorem dX12_readFrame_384 : decode cX12_readFrame 384 = .ok (.lload 9, 2) := by decide +kernel
theorem dX12_readFrame_386 : decode cX12_readFrame 386 = .ok (.lconst 0, 1) := by decide +kernel
theorem dX12_readFrame_387 : decode cX12_readFrame 387 = .ok (.lcmp, 1) := by decide +kernel
theorem dX12_readFrame_388 : decode cX12_readFrame 388 = .ok (.ifCond .ne 33, 3) := by decide +kernel
theorem dX12_readFrame_391 : decode cX12_readFrame 391 = .ok (.iload_n 2, 1) := by decide +kernel
theorem dX12_readFrame_392 : decode cX12_readFrame 392 = .ok (.bipush 8, 2) := by decide +kernel
theorem dX12_readFrame_394 : decode cX12_readFrame 394 = .ok (.iand, 1) := by decide +kernel
theorem dX12_readFrame_395 : decode cX12_readFrame 395 = .ok (.ifCond .eq 53, 3) := by decide +kernel
theorem dX12_readFrame_398 : decode cX12_readFrame 398 = .ok (.lload 5, 2) := by decide +kernel
theorem dX12_readFrame_400 : decode cX12_readFrame 400 = .ok (.aload_n 0, 1) := by decide +kernel
theorem dX12_readFrame_401 : decode cX12_readFrame 401 = .ok (.getfield 108, 3) := by decide +kernel
theorem dX12_readFrame_404 : decode cX12_readFrame 404 = .ok (.iload 7, 2) := by decide +kernel
theorem dX12_readFrame_406 : decode cX12_readFrame 406 = .ok (.isub, 1) := by decide +kernel
theorem dX12_readFrame_407 : decode cX12_readFrame 407 = .ok (.i2l, 1) := by decide +kernel
theorem dX12_readFrame_408 : decode cX12_readFrame 408 = .ok (.lcmp, 1) := by decide +kernel
theorem dX12_readFrame_409 : decode cX12_readFrame 409 = .ok (.ifCond .eq 39, 3) := by decide +kernel
theorem dX12_readFrame_412 : decode cX12_readFrame 412 = .ok (.aload_n 0, 1) := by decide +kernel
theorem dX12_readFrame_413 : decode cX12_readFrame 413 = .ok (.bipush 9, 2) := by decide +kernel
theorem dX12_readFrame_415 : decode cX12_readFrame 415 = .ok (.iload 8, 2) := by decide +kernel
theorem dX12_readFrame_417 : decode cX12_readFrame 417 = .ok (.invokevirtual 235, 3) := by decide +kernel
theorem dX12_readFrame_420 : decode cX12_readFrame 420 = .ok (.ireturn, 1) := by decide +kernel
theorem dX12_readFrame_421 : decode cX12_readFrame 421 = .ok (.aload_n 0, 1) := by decide +kernel
theorem dX12_readFrame_422 : decode cX12_readFrame 422 = .ok (.iload 8, 2) := by decide +kernel
theorem dX12_readFrame_424 : decode cX12_readFrame 424 = .ok (.lload 9, 2) := by decide +kernel
theorem dX12_readFrame_426 : decode cX12_readFrame 426 = .ok (.iload_n 2, 1) := by decide +kernel
theorem dX12_readFrame_427 : decode cX12_readFrame 427 = .ok (.lconst 1, 1) := by decide +kernel
theorem dX12_readFrame_428 : decode cX12_readFrame 428 = .ok (.bipush 8, 2) := by decide +kernel
theorem dX12_readFrame_430 : decode cX12_readFrame 430 = .ok (.iconst 2, 1) := by decide +kernel
theorem dX12_readFrame_431 : decode cX12_readFrame 431 = .ok (.iload_n 3, 1) := by decide +kernel
theorem dX12_readFrame_432 : decode cX12_readFrame 432 = .ok (.imul, 1) := by decide +kernel
theorem dX12_readFrame_433 : decode cX12_readFrame 433 = .ok (.iadd, 1) := by decide +kernel
theorem dX12_readFrame_434 : decode cX12_readFrame 434 = .ok (.lshl, 1) := by decide +kernel
theorem dX12_readFrame_435 : decode cX12_readFrame 435 = .ok (.iload 7, 2) := by decide +kernel
theorem dX12_readFrame_437 : decode cX12_readFrame 437 = .ok (.invokevirtual 257, 3) := by decide +kernel
theorem dX12_readFrame_440 : decode cX12_readFrame 440 = .ok (.ifCond .ne 5, 3) := by decide +kernel
theorem dX12_readFrame_443 : decode cX12_readFrame 443 = .ok (.iconst 0, 1) := by decide +kernel
theorem dX12_readFrame_444 : decode cX12_readFrame 444 = .ok (.ireturn, 1) := by decide +kernel
theorem dX12_readFrame_445 : decode cX12_readFrame 445 = .ok (.goto (-111), 3) := by decide +kernel
theorem dX12_readFrame_448 : decode cX12_readFrame 448 = .ok (.iload_n 2, 1) := by decide +kernel
theorem dX12_readFrame_449 : decode cX12_readFrame 449 = .ok (.iconst 4, 1) := by decide +kernel
theorem dX12_readFrame_450 : decode cX12_readFrame 450 = .ok (.iand, 1) := by decide +kernel
theorem dX12_readFrame_451 : decode cX12_readFrame 451 = .ok (.ifCond .eq 76, 3) := by decide +kernel
theorem dX12_readFrame_454 : decode cX12_readFrame 454 = .ok (.aload_n 0, 1) := by decide +kernel
theorem dX12_readFrame_455 : decode cX12_readFrame 455 = .ok (.getfield 177, 3) := by decide +kernel
theorem dX12_readFrame_458 : decode cX12_readFrame 458 = .ok (.aload_n 0, 1) := by decide +kernel
theorem dX12_readFrame_459 : decode cX12_readFrame 459 = .ok (.getfield 232, 3) := by decide +kernel
theorem dX12_readFrame_462 : decode cX12_readFrame 462 = .ok (.isub, 1) := by decide +kernel
theorem dX12_readFrame_463 : decode cX12_readFrame 463 = .ok (.iconst 4, 1) := by decide +kernel
theorem dX12_readFrame_464 : decode cX12_readFrame 464 = .ok (.if_icmp .ge 13, 3) := by decide +kernel
theorem dX12_readFrame_467 : decode cX12_readFrame 467 = .ok (.aload_n 0, 1) := by decide +kernel
theorem dX12_readFrame_468 : decode cX12_readFrame 468 = .ok (.iconst 1, 1) := by decide +kernel
theorem dX12_readFrame_469 : decode cX12_readFrame 469 = .ok (.aload_n 0, 1) := by decide +kernel
theorem dX12_readFrame_470 : decode cX12_readFrame 470 = .ok (.getfield 177, 3) := by decide +kernel
theorem dX12_readFrame_473 : decode cX12_readFrame 473 = .ok (.invokevirtual 235, 3) := by decide +kernel
theorem dX12_readFrame_476 : decode cX12_readFrame 476 = .ok (.ireturn, 1) := by decide +kernel
theorem dX12_readFrame_477 : decode cX12_readFrame 477 = .ok (.aload_n 0, 1) := by decide +kernel
theorem dX12_readFrame_478 : decode cX12_readFrame 478 = .ok (.aload_n 0, 1) := by decide +kernel
theorem dX12_readFrame_479 : decode cX12_readFrame 479 = .ok (.getfield 232, 3) := by decide +kernel
theorem dX12_readFrame_482 : decode cX12_readFrame 482 = .ok (.iconst 4, 1) := by decide +kernel
theorem dX12_readFrame_483 : decode cX12_readFrame 483 = .ok (.invokevirtual 239, 3) := by decide +kernel
theorem dX12_readFrame_486 : decode cX12_readFrame 486 = .ok (.l2i, 1) := by decide +kernel
theorem dX12_readFrame_487 : decode cX12_readFrame 487 = .ok (.aload_n 0, 1) := by decide +kernel
theorem dX12_readFrame_488 : decode cX12_readFrame 488 = .ok (.getfield 105, 3) := by decide +kernel
theorem dX12_readFrame_491 : decode cX12_readFrame 491 = .ok (.iload 7, 2) := by decide +kernel
theorem dX12_readFrame_493 : decode cX12_readFrame 493 = .ok (.aload_n 0, 1) := by decide +kernel
theorem dX12_readFrame_494 : decode cX12_readFrame 494 = .ok (.getfield 108, 3) := by decide +kernel
theorem dX12_readFrame_497 : decode cX12_readFrame 497 = .ok (.iload 7, 2) := by decide +kernel
theorem dX12_readFrame_499 : decode cX12_readFrame 499 = .ok (.isub, 1) := by decide +kernel
theorem dX12_readFrame_500 : decode cX12_readFrame 500 = .ok (.invokestatic 180, 3) := by decide +kernel
theorem dX12_readFrame_503 : decode cX12_readFrame 503 = .ok (.if_icmp .eq 14, 3) := by decide +kernel
theorem dX12_readFrame_506 : decode cX12_readFrame 506 = .ok (.aload_n 0, 1) := by decide +kernel
theorem dX12_readFrame_507 : decode cX12_readFrame 507 = .ok (.bipush 10, 2) := by decide +kernel
theorem dX12_readFrame_509 : decode cX12_readFrame 509 = .ok (.aload_n 0, 1) := by decide +kernel
theorem dX12_readFrame_510 : decode cX12_readFrame 510 = .ok (.getfield 232, 3) := by decide +kernel
theorem dX12_readFrame_513 : decode cX12_readFrame 513 = .ok (.invokevirtual 235, 3) := by decide +kernel
theorem dX12_readFrame_516 : decode cX12_readFrame 516 = .ok (.ireturn, 1) := by decide +kernel
theorem dX12_readFrame_517 : decode cX12_readFrame 517 = .ok (.aload_n 0, 1) := by decide +kernel
theorem dX12_readFrame_518 : decode cX12_readFrame 518 = .ok (.dup, 1) := by decide +kernel
theorem dX12_readFrame_519 : decode cX12_readFrame 519 = .ok (.getfield 232, 3) := by decide +kernel
theorem dX12_readFrame_522 : decode cX12_readFrame 522 = .ok (.iconst 4, 1) := by decide +kernel
theorem dX12_readFrame_523 : decode cX12_readFrame 523 = .ok (.iadd, 1) := by decide +kernel
theorem dX12_readFrame_524 : decode cX12_readFrame 524 = .ok (.putfield 232, 3) := by decide +kernel
theorem dX12_readFrame_527 : decode cX12_readFrame 527 = .ok (.iconst 1, 1) := by decide +kernel
theorem dX12_readFrame_528 : decode cX12_readFrame 528 = .ok (.ireturn, 1) := by decide +kernel
def m_Mo_readFrame_J125 (h0_freshSize : Int32) (h0_copiesOf : Int32) (h0_literalsOf : Int32) (h0_partsOf : Int32) (h0_newMany : Int32) (h0_fresh_f : Nat → Int32) (h0_newBlocks_f : Nat → Int32) (p_2 : Int32) : Option (Int32 × Int32 × Int32 × Int32 × Int32 × Int32 × Int32 × Int32 × Int32 × (Nat → Int32) × (Nat → Int32)) :=
  (m_Mo_no (5 : Int32) p_2).bind fun (r4, u5, u6) =>
  bch r4 <|
  some (r4, h0_freshSize, h0_copiesOf, h0_literalsOf, h0_partsOf, h0_newMany, u5, u6, p_2, h0_fresh_f, h0_newBlocks_f)
def m_Mo_readFrame_J448 (h0_inSize : Int32) (h0_freshSize : Int32) (h0_in_n : Nat) (h0_in_f : Nat → Int32) (h0_fresh_n : Nat) (v2_1 : Int32) (f15 : Nat → Int32) (f16 : Nat → Int32) (g17 : Int32) (g18 : Int32) (g19 : Int32) (g20 : Int32) (g21 : Int32) (g22 : Int32) (g23 : Int32) (g24 : Int32) : Option (Int32 × Int32 × Int32 × Int32 × Int32 × Int32 × Int32 × Int32 × Int32 × (Nat → Int32) × (Nat → Int32)) :=
  if (v2_1 &&& (4 : Int32)) = 0 then
    some ((1 : Int32), g24, g17, g18, g19, g20, g21, g22, g23, f15, f16)
  else
    if (4 : Int32) ≤ (h0_inSize - g23) then
      (m_Mo_number g23 (4 : Int32) h0_in_n h0_in_f).bind fun r26 =>
      (m_Mo_sumOf h0_freshSize (g24 - h0_freshSize) h0_fresh_n f15).bind fun r27 =>
      if (r26.toInt32) = r27 then
        bnd (g23 + (4 : Int32)) fun p_28 =>
        some ((1 : Int32), g24, g17, g18, g19, g20, g21, g22, p_28, f15, f16)
      else
        (m_Mo_no (10 : Int32) g23).bind fun (r29, u30, u31) =>
        bch r29 <|
        some (r29, g24, g17, g18, g19, g20, u30, u31, g23, f15, f16)
    else
      (m_Mo_no (1 : Int32) h0_inSize).bind fun (r32, u33, u34) =>
      bch r32 <|
      some (r32, g24, g17, g18, g19, g20, u33, u34, g23, f15, f16)
def m_Mo_readFrame_E391 (h0_inSize : Int32) (h0_freshSize : Int32) (h0_in_n : Nat) (h0_in_f : Nat → Int32) (h0_fresh_n : Nat) (v2_1 : Int32) (s11 : Int64) (f15 : Nat → Int32) (f16 : Nat → Int32) (g17 : Int32) (g18 : Int32) (g19 : Int32) (g20 : Int32) (g21 : Int32) (g22 : Int32) (g23 : Int32) (g24 : Int32) (j8_25 : Int32) : Option (Int32 × Int32 × Int32 × Int32 × Int32 × Int32 × Int32 × Int32 × Int32 × (Nat → Int32) × (Nat → Int32)) :=
  if (v2_1 &&& (8 : Int32)) = 0 then
    m_Mo_readFrame_J448 h0_inSize h0_freshSize h0_in_n h0_in_f h0_fresh_n v2_1 f15 f16 g17 g18 g19 g20 g21 g22 g23 g24
  else
    if (lg_cmp s11 ((g24 - h0_freshSize).toInt64)) = 0 then
      m_Mo_readFrame_J448 h0_inSize h0_freshSize h0_in_n h0_in_f h0_fresh_n v2_1 f15 f16 g17 g18 g19 g20 g21 g22 g23 g24
    else
      (m_Mo_no (9 : Int32) j8_25).bind fun (r35, u36, u37) =>
      bch r35 <|
      some (r35, g24, g17, g18, g19, g20, u36, u37, g23, f15, f16)
def m_Mo_readFrame_B334 (h0_inSize : Int32) (h0_dictSize : Int32) (h0_freshSize : Int32) (h0_in_n : Nat) (h0_in_f : Nat → Int32) (h0_fresh_n : Nat) (h0_newBlocks_n : Nat) (h0_dict_n : Nat) (h0_dict_f : Nat → Int32) (v2_1 : Int32) (v3_3 : Int32) (f38 : Nat → Int32) (f39 : Nat → Int32) (g40 : Int32) (g41 : Int32) (g42 : Int32) (g43 : Int32) (g44 : Int32) (g45 : Int32) (g46 : Int32) (g47 : Int32) : Option (((Nat → Int32) × (Nat → Int32) × Int32 × Int32 × Int32 × Int32 × Int32 × Int32 × Int32 × Int32) ⊕ (((Nat → Int32) × (Nat → Int32) × Int32 × Int32 × Int32 × Int32 × Int32 × Int32 × Int32 × Int32 × Int32) ⊕ (((Int32 × Int32 × Int32 × Int32 × Int32 × Int32 × Int32 × Int32 × Int32 × (Nat → Int32) × (Nat → Int32)))))) :=
  if (4 : Int32) ≤ (h0_inSize - g46) then
    (m_Mo_number g46 (4 : Int32) h0_in_n h0_in_f).bind fun r48 =>
    bnd (g46 + (4 : Int32)) fun p_49 =>
    if (lg_cmp r48 (0 : Int64)) = 0 then
      some (.inr (.inl (f38, f39, g40, g41, g42, g43, g44, g45, p_49, g47, g46)))
    else
      (m_Mo_readBlock g46 r48 v2_1 (lshl (1 : Int64) ((8 : Int32) + ((2 : Int32) * v3_3))) h0_freshSize h0_inSize h0_dictSize g47 g40 g41 g42 g43 g44 g45 p_49 h0_in_n h0_in_f h0_fresh_n f38 h0_newBlocks_n f39 h0_dict_n h0_dict_f).bind fun (r50, u51, u52, u53, u54, u55, u56, u57, u58, u59, u60) =>
      if r50 = 0 then
        some (.inr (.inr ((0 : Int32), u51, u52, u53, u54, u55, u56, u57, u58, u59, u60)))
      else
        some (.inl (u59, u60, u52, u53, u54, u55, u56, u57, u58, u51))
  else
    (m_Mo_no (1 : Int32) h0_inSize).bind fun (r61, u62, u63) =>
    bch r61 <|
    some (.inr (.inr (r61, g47, g40, g41, g42, g43, u62, u63, g46, f38, f39)))
def m_Mo_readFrame_J318 (h0_inSize : Int32) (h0_dictSize : Int32) (h0_freshSize : Int32) (h0_copiesOf : Int32) (h0_literalsOf : Int32) (h0_partsOf : Int32) (h0_newMany : Int32) (h0_rule : Int32) (h0_place : Int32) (h0_in_n : Nat) (h0_in_f : Nat → Int32) (h0_fresh_n : Nat) (h0_fresh_f : Nat → Int32) (h0_newBlocks_n : Nat) (h0_newBlocks_f : Nat → Int32) (h0_dict_n : Nat) (h0_dict_f : Nat → Int32) (v2_1 : Int32) (v3_3 : Int32) (s11 : Int64) (p_12 : Int32) : Option (Int32 × Int32 × Int32 × Int32 × Int32 × Int32 × Int32 × Int32 × Int32 × (Nat → Int32) × (Nat → Int32)) :=
  bnd (p_12 + (1 : Int32)) fun p_14 =>
  (iter (fun st => m_Mo_readFrame_B334 h0_inSize h0_dictSize h0_freshSize h0_in_n h0_in_f h0_fresh_n h0_newBlocks_n h0_dict_n h0_dict_f v2_1 v3_3 st.1 st.2.1 st.2.2.1 st.2.2.2.1 st.2.2.2.2.1 st.2.2.2.2.2.1 st.2.2.2.2.2.2.1 st.2.2.2.2.2.2.2.1 st.2.2.2.2.2.2.2.2.1 st.2.2.2.2.2.2.2.2.2) FU (h0_fresh_f, h0_newBlocks_f, h0_copiesOf, h0_literalsOf, h0_partsOf, h0_newMany, h0_rule, h0_place, p_14, h0_freshSize)).bind fun o => match o with | (.inl y) => m_Mo_readFrame_E391 h0_inSize h0_freshSize h0_in_n h0_in_f h0_fresh_n v2_1 s11 y.1 y.2.1 y.2.2.1 y.2.2.2.1 y.2.2.2.2.1 y.2.2.2.2.2.1 y.2.2.2.2.2.2.1 y.2.2.2.2.2.2.2.1 y.2.2.2.2.2.2.2.2.1 y.2.2.2.2.2.2.2.2.2.1 y.2.2.2.2.2.2.2.2.2.2 | (.inr y) => some y
def m_Mo_readFrame_J219 (h0_inSize : Int32) (h0_dictSize : Int32) (h0_freshSize : Int32) (h0_copiesOf : Int32) (h0_literalsOf : Int32) (h0_partsOf : Int32) (h0_newMany : Int32) (h0_rule : Int32) (h0_place : Int32) (h0_at : Int32) (h0_in_n : Nat) (h0_in_f : Nat → Int32) (h0_told_n : Nat) (h0_told_f : Nat → Int32) (h0_fresh_n : Nat) (h0_fresh_f : Nat → Int32) (h0_newBlocks_n : Nat) (h0_newBlocks_f : Nat → Int32) (h0_dict_n : Nat) (h0_dict_f : Nat → Int32) (v2_1 : Int32) (v3_3 : Int32) (p_7 : Int32) (v4_10 : Int32) (s11 : Int64) : Option (Int32 × Int32 × Int32 × Int32 × Int32 × Int32 × Int32 × Int32 × Int32 × (Nat → Int32) × (Nat → Int32)) :=
  bnd (p_7 + (v4_10 - (1 : Int32))) fun p_12 =>
  (m_Mo_sumOf h0_at (p_12 - h0_at) h0_in_n h0_in_f).bind fun r13 =>
  chk p_12 h0_in_n <|
  if ((ishr r13 (8 : Int32)) &&& (255 : Int32)) = (h0_in_f p_12.toNatClampNeg) then
    if (v2_1 &&& (1 : Int32)) = 0 then
      m_Mo_readFrame_J318 h0_inSize h0_dictSize h0_freshSize h0_copiesOf h0_literalsOf h0_partsOf h0_newMany h0_rule h0_place h0_in_n h0_in_f h0_fresh_n h0_fresh_f h0_newBlocks_n h0_newBlocks_f h0_dict_n h0_dict_f v2_1 v3_3 s11 p_12
    else
      (m_Mo_number (p_12 - (4 : Int32)) (4 : Int32) h0_in_n h0_in_f).bind fun r64 =>
      chk (5 : Int32) h0_told_n <|
      if (r64.toInt32) = (h0_told_f (5 : Int32).toNatClampNeg) then
        m_Mo_readFrame_J318 h0_inSize h0_dictSize h0_freshSize h0_copiesOf h0_literalsOf h0_partsOf h0_newMany h0_rule h0_place h0_in_n h0_in_f h0_fresh_n h0_fresh_f h0_newBlocks_n h0_newBlocks_f h0_dict_n h0_dict_f v2_1 v3_3 s11 p_12
      else
        (m_Mo_no (11 : Int32) (p_12 - (4 : Int32))).bind fun (r65, u66, u67) =>
        bch r65 <|
        some (r65, h0_freshSize, h0_copiesOf, h0_literalsOf, h0_partsOf, h0_newMany, u66, u67, p_12, h0_fresh_f, h0_newBlocks_f)
  else
    (m_Mo_no (6 : Int32) p_12).bind fun (r68, u69, u70) =>
    bch r68 <|
    some (r68, h0_freshSize, h0_copiesOf, h0_literalsOf, h0_partsOf, h0_newMany, u69, u70, p_12, h0_fresh_f, h0_newBlocks_f)
def m_Mo_readFrame_J169 (h0_inSize : Int32) (h0_dictSize : Int32) (h0_freshSize : Int32) (h0_copiesOf : Int32) (h0_literalsOf : Int32) (h0_partsOf : Int32) (h0_newMany : Int32) (h0_rule : Int32) (h0_place : Int32) (h0_at : Int32) (h0_in_n : Nat) (h0_in_f : Nat → Int32) (h0_told_n : Nat) (h0_told_f : Nat → Int32) (h0_fresh_n : Nat) (h0_fresh_f : Nat → Int32) (h0_newBlocks_n : Nat) (h0_newBlocks_f : Nat → Int32) (h0_dict_n : Nat) (h0_dict_f : Nat → Int32) (v2_1 : Int32) (v3_3 : Int32) (p_7 : Int32) (s8 : Int32) (s9 : Int32) : Option (Int32 × Int32 × Int32 × Int32 × Int32 × Int32 × Int32 × Int32 × Int32 × (Nat → Int32) × (Nat → Int32)) :=
  bnd ((s8 + s9) + (1 : Int32)) fun v4_10 =>
  if v4_10 ≤ (h0_inSize - p_7) then
    if (v2_1 &&& (8 : Int32)) = 0 then
      m_Mo_readFrame_J219 h0_inSize h0_dictSize h0_freshSize h0_copiesOf h0_literalsOf h0_partsOf h0_newMany h0_rule h0_place h0_at h0_in_n h0_in_f h0_told_n h0_told_f h0_fresh_n h0_fresh_f h0_newBlocks_n h0_newBlocks_f h0_dict_n h0_dict_f v2_1 v3_3 p_7 v4_10 (0 : Int64)
    else
      (m_Mo_number p_7 (8 : Int32) h0_in_n h0_in_f).bind fun r71 =>
      m_Mo_readFrame_J219 h0_inSize h0_dictSize h0_freshSize h0_copiesOf h0_literalsOf h0_partsOf h0_newMany h0_rule h0_place h0_at h0_in_n h0_in_f h0_told_n h0_told_f h0_fresh_n h0_fresh_f h0_newBlocks_n h0_newBlocks_f h0_dict_n h0_dict_f v2_1 v3_3 p_7 v4_10 r71
  else
    (m_Mo_no (1 : Int32) h0_inSize).bind fun (r72, u73, u74) =>
    bch r72 <|
    some (r72, h0_freshSize, h0_copiesOf, h0_literalsOf, h0_partsOf, h0_newMany, u73, u74, p_7, h0_fresh_f, h0_newBlocks_f)
def m_Mo_readFrame_J158 (h0_inSize : Int32) (h0_dictSize : Int32) (h0_freshSize : Int32) (h0_copiesOf : Int32) (h0_literalsOf : Int32) (h0_partsOf : Int32) (h0_newMany : Int32) (h0_rule : Int32) (h0_place : Int32) (h0_at : Int32) (h0_in_n : Nat) (h0_in_f : Nat → Int32) (h0_told_n : Nat) (h0_told_f : Nat → Int32) (h0_fresh_n : Nat) (h0_fresh_f : Nat → Int32) (h0_newBlocks_n : Nat) (h0_newBlocks_f : Nat → Int32) (h0_dict_n : Nat) (h0_dict_f : Nat → Int32) (v2_1 : Int32) (v3_3 : Int32) (p_7 : Int32) (s8 : Int32) : Option (Int32 × Int32 × Int32 × Int32 × Int32 × Int32 × Int32 × Int32 × Int32 × (Nat → Int32) × (Nat → Int32)) :=
  if (v2_1 &&& (1 : Int32)) = 0 then
    m_Mo_readFrame_J169 h0_inSize h0_dictSize h0_freshSize h0_copiesOf h0_literalsOf h0_partsOf h0_newMany h0_rule h0_place h0_at h0_in_n h0_in_f h0_told_n h0_told_f h0_fresh_n h0_fresh_f h0_newBlocks_n h0_newBlocks_f h0_dict_n h0_dict_f v2_1 v3_3 p_7 s8 (0 : Int32)
  else
    m_Mo_readFrame_J169 h0_inSize h0_dictSize h0_freshSize h0_copiesOf h0_literalsOf h0_partsOf h0_newMany h0_rule h0_place h0_at h0_in_n h0_in_f h0_told_n h0_told_f h0_fresh_n h0_fresh_f h0_newBlocks_n h0_newBlocks_f h0_dict_n h0_dict_f v2_1 v3_3 p_7 s8 (4 : Int32)
def m_Mo_readFrame (h0_inSize : Int32) (h0_dictSize : Int32) (h0_freshSize : Int32) (h0_copiesOf : Int32) (h0_literalsOf : Int32) (h0_partsOf : Int32) (h0_newMany : Int32) (h0_rule : Int32) (h0_place : Int32) (h0_at : Int32) (h0_in_n : Nat) (h0_in_f : Nat → Int32) (h0_told_n : Nat) (h0_told_f : Nat → Int32) (h0_fresh_n : Nat) (h0_fresh_f : Nat → Int32) (h0_newBlocks_n : Nat) (h0_newBlocks_f : Nat → Int32) (h0_dict_n : Nat) (h0_dict_f : Nat → Int32) : Option (Int32 × Int32 × Int32 × Int32 × Int32 × Int32 × Int32 × Int32 × Int32 × (Nat → Int32) × (Nat → Int32)) :=
  if h0_at = h0_inSize then
    (m_Mo_no (1 : Int32) h0_inSize).bind fun (r81, u82, u83) =>
    bch r81 <|
    some (r81, h0_freshSize, h0_copiesOf, h0_literalsOf, h0_partsOf, h0_newMany, u82, u83, h0_at, h0_fresh_f, h0_newBlocks_f)
  else
    chk h0_at h0_in_n <|
    bnd (h0_in_f h0_at.toNatClampNeg) fun v2_1 =>
    if (v2_1 &&& (194 : Int32)) = (64 : Int32) then
      bnd (h0_at + (1 : Int32)) fun p_2 =>
      if p_2 = h0_inSize then
        (m_Mo_no (1 : Int32) h0_inSize).bind fun (r75, u76, u77) =>
        bch r75 <|
        some (r75, h0_freshSize, h0_copiesOf, h0_literalsOf, h0_partsOf, h0_newMany, u76, u77, p_2, h0_fresh_f, h0_newBlocks_f)
      else
        chk p_2 h0_in_n <|
        bnd (ishr (h0_in_f p_2.toNatClampNeg) (4 : Int32)) fun v3_3 =>
        chk p_2 h0_in_n <|
        if ((h0_in_f p_2.toNatClampNeg) &&& (15 : Int32)) = 0 then
          if v3_3 < (4 : Int32) then
            m_Mo_readFrame_J125 h0_freshSize h0_copiesOf h0_literalsOf h0_partsOf h0_newMany h0_fresh_f h0_newBlocks_f p_2
          else
            if v3_3 ≤ (7 : Int32) then
              bnd (p_2 + (1 : Int32)) fun p_7 =>
              if (v2_1 &&& (8 : Int32)) = 0 then
                m_Mo_readFrame_J158 h0_inSize h0_dictSize h0_freshSize h0_copiesOf h0_literalsOf h0_partsOf h0_newMany h0_rule h0_place h0_at h0_in_n h0_in_f h0_told_n h0_told_f h0_fresh_n h0_fresh_f h0_newBlocks_n h0_newBlocks_f h0_dict_n h0_dict_f v2_1 v3_3 p_7 (0 : Int32)
              else
                m_Mo_readFrame_J158 h0_inSize h0_dictSize h0_freshSize h0_copiesOf h0_literalsOf h0_partsOf h0_newMany h0_rule h0_place h0_at h0_in_n h0_in_f h0_told_n h0_told_f h0_fresh_n h0_fresh_f h0_newBlocks_n h0_newBlocks_f h0_dict_n h0_dict_f v2_1 v3_3 p_7 (8 : Int32)
            else
              m_Mo_readFrame_J125 h0_freshSize h0_copiesOf h0_literalsOf h0_partsOf h0_newMany h0_fresh_f h0_newBlocks_f p_2
        else
          m_Mo_readFrame_J125 h0_freshSize h0_copiesOf h0_literalsOf h0_partsOf h0_newMany h0_fresh_f h0_newBlocks_f p_2
    else
      (m_Mo_no (5 : Int32) h0_at).bind fun (r78, u79, u80) =>
      bch r78 <|
      some (r78, h0_freshSize, h0_copiesOf, h0_literalsOf, h0_partsOf, h0_newMany, u79, u80, h0_at, h0_fresh_f, h0_newBlocks_f)
def rm_Mo_readFrame : Room := { frames := 3, cells := 0, slots := 0, locals := 89 }
set_option maxHeartbeats 4000000 in
set_option maxRecDepth 100000 in
theorem c_Mo_readFrame {l : Launch} {dC : Nat → ClassId} {dI : Nat → Nat → Nat} {cB cI : ClassId} {sz : Nat} {h0 : Nat} {h0_in : Nat} {h0_told : Nat} {h0_fresh : Nat} {h0_newBlocks : Nat} {h0_dict : Nat} {h0_inSize : Int32} {w_h0_out : Value} {w_h0_outSize : Value} {h0_dictSize : Int32} {h0_freshSize : Int32} {w_h0_text : Value} {w_h0_lean : Value} {w_h0_size : Value} {w_h0_most : Value} {w_h0_offset : Value} {w_h0_copyAt : Value} {w_h0_copies : Value} {w_h0_copyLength : Value} {w_h0_copyOffset : Value} {w_h0_fromHere : Value} {w_h0_withCopy : Value} {w_h0_bestCopy : Value} {w_h0_bestLiterals : Value} {h0_copiesOf : Int32} {h0_literalsOf : Int32} {h0_partsOf : Int32} {w_h0_blocks : Value} {w_h0_blockMany : Value} {h0_newMany : Int32} {h0_rule : Int32} {h0_place : Int32} {h0_at : Int32} {h0_in_n : Nat} {h0_in_f : Nat → Int32} {h0_told_n : Nat} {h0_told_f : Nat → Int32} {h0_fresh_n : Nat} {h0_fresh_f : Nat → Int32} {h0_newBlocks_n : Nat} {h0_newBlocks_f : Nat → Int32} {h0_dict_n : Nat} {h0_dict_f : Nat → Int32} {o_r : Int32} {o_h0_freshSize : Int32} {o_h0_copiesOf : Int32} {o_h0_literalsOf : Int32} {o_h0_partsOf : Int32} {o_h0_newMany : Int32} {o_h0_rule : Int32} {o_h0_place : Int32} {o_h0_at : Int32} {o_h0_fresh_f : Nat → Int32} {o_h0_newBlocks_f : Nat → Int32} (hf : m_Mo_readFrame h0_inSize h0_dictSize h0_freshSize h0_copiesOf h0_literalsOf h0_partsOf h0_newMany h0_rule h0_place h0_at h0_in_n h0_in_f h0_told_n h0_told_f h0_fresh_n h0_fresh_f h0_newBlocks_n h0_newBlocks_f h0_dict_n h0_dict_f = some (o_r, o_h0_freshSize, o_h0_copiesOf, o_h0_literalsOf, o_h0_partsOf, o_h0_newMany, o_h0_rule, o_h0_place, o_h0_at, o_h0_fresh_f, o_h0_newBlocks_f)) : Met l yX12_readFrame (Cond.code yX12_readFrame cX12_readFrame 11 (some .boolean) :: lw_G) rm_Mo_readFrame (PreC (dC, dI) [(cB, .byte), (cI, .int)] [.ref h0] sz [(h0, .inr (10, [.ref h0_in, .int h0_inSize, w_h0_out, w_h0_outSize, .ref h0_dict, .int h0_dictSize, .ref h0_told, .ref h0_fresh, .int h0_freshSize, w_h0_text, w_h0_lean, w_h0_size, w_h0_most, w_h0_offset, w_h0_copyAt, w_h0_copies, w_h0_copyLength, w_h0_copyOffset, w_h0_fromHere, w_h0_withCopy, w_h0_bestCopy, w_h0_bestLiterals, .int h0_copiesOf, .int h0_literalsOf, .int h0_partsOf, w_h0_blocks, w_h0_blockMany, .ref h0_newBlocks, .int h0_newMany, .int h0_rule, .int h0_place, .int h0_at])), (h0_in, .inl (cI, h0_in_n, .inl h0_in_f)), (h0_told, .inl (cI, h0_told_n, .inl h0_told_f)), (h0_fresh, .inl (cI, h0_fresh_n, .inl h0_fresh_f)), (h0_newBlocks, .inl (cI, h0_newBlocks_n, .inl h0_newBlocks_f)), (h0_dict, .inl (cI, h0_dict_n, .inl h0_dict_f))]) (QcI o_r (dC, dI) [(h0, .inr (10, [.ref h0_in, .int h0_inSize, w_h0_out, w_h0_outSize, .ref h0_dict, .int h0_dictSize, .ref h0_told, .ref h0_fresh, .int o_h0_freshSize, w_h0_text, w_h0_lean, w_h0_size, w_h0_most, w_h0_offset, w_h0_copyAt, w_h0_copies, w_h0_copyLength, w_h0_copyOffset, w_h0_fromHere, w_h0_withCopy, w_h0_bestCopy, w_h0_bestLiterals, .int o_h0_copiesOf, .int o_h0_literalsOf, .int o_h0_partsOf, w_h0_blocks, w_h0_blockMany, .ref h0_newBlocks, .int o_h0_newMany, .int o_h0_rule, .int o_h0_place, .int o_h0_at])), (h0_in, .inl (cI, h0_in_n, .inl h0_in_f)), (h0_told, .inl (cI, h0_told_n, .inl h0_told_f)), (h0_fresh, .inl (cI, h0_fresh_n, .inl o_h0_fresh_f)), (h0_newBlocks, .inl (cI, h0_newBlocks_n, .inl o_h0_newBlocks_f)), (h0_dict, .inl (cI, h0_dict_n, .inl h0_dict_f))] (va_A [(h0, .inr (10, [.ref h0_in, .int h0_inSize, w_h0_out, w_h0_outSize, .ref h0_dict, .int h0_dictSize, .ref h0_told, .ref h0_fresh, .int h0_freshSize, w_h0_text, w_h0_lean, w_h0_size, w_h0_most, w_h0_offset, w_h0_copyAt, w_h0_copies, w_h0_copyLength, w_h0_copyOffset, w_h0_fromHere, w_h0_withCopy, w_h0_bestCopy, w_h0_bestLiterals, .int h0_copiesOf, .int h0_literalsOf, .int h0_partsOf, w_h0_blocks, w_h0_blockMany, .ref h0_newBlocks, .int h0_newMany, .int h0_rule, .int h0_place, .int h0_at])), (h0_in, .inl (cI, h0_in_n, .inl h0_in_f)), (h0_told, .inl (cI, h0_told_n, .inl h0_told_f)), (h0_fresh, .inl (cI, h0_fresh_n, .inl h0_fresh_f)), (h0_newBlocks, .inl (cI, h0_newBlocks_n, .inl h0_newBlocks_f)), (h0_dict, .inl (cI, h0_dict_n, .inl h0_dict_f))] sz)) 0 0 (va_A [(h0, .inr (10, [.ref h0_in, .int h0_inSize, w_h0_out, w_h0_outSize, .ref h0_dict, .int h0_dictSize, .ref h0_told, .ref h0_fresh, .int h0_freshSize, w_h0_text, w_h0_lean, w_h0_size, w_h0_most, w_h0_offset, w_h0_copyAt, w_h0_copies, w_h0_copyLength, w_h0_copyOffset, w_h0_fromHere, w_h0_withCopy, w_h0_bestCopy, w_h0_bestLiterals, .int h0_copiesOf, .int h0_literalsOf, .int h0_partsOf, w_h0_blocks, w_h0_blockMany, .ref h0_newBlocks, .int h0_newMany, .int h0_rule, .int h0_place, .int h0_at])), (h0_in, .inl (cI, h0_in_n, .inl h0_in_f)), (h0_told, .inl (cI, h0_told_n, .inl h0_told_f)), (h0_fresh, .inl (cI, h0_fresh_n, .inl h0_fresh_f)), (h0_newBlocks, .inl (cI, h0_newBlocks_n, .inl h0_newBlocks_f)), (h0_dict, .inl (cI, h0_dict_n, .inl h0_dict_f))] sz) := by
  refine met_of (Qf := fun A => QcI o_r (dC, dI) [(h0, .inr (10, [.ref h0_in, .int h0_inSize, w_h0_out, w_h0_outSize, .ref h0_dict, .int h0_dictSize, .ref h0_told, .ref h0_fresh, .int o_h0_freshSize, w_h0_text, w_h0_lean, w_h0_size, w_h0_most, w_h0_offset, w_h0_copyAt, w_h0_copies, w_h0_copyLength, w_h0_copyOffset, w_h0_fromHere, w_h0_withCopy, w_h0_bestCopy, w_h0_bestLiterals, .int o_h0_copiesOf, .int o_h0_literalsOf, .int o_h0_partsOf, w_h0_blocks, w_h0_blockMany, .ref h0_newBlocks, .int o_h0_newMany, .int o_h0_rule, .int o_h0_place, .int o_h0_at])), (h0_in, .inl (cI, h0_in_n, .inl h0_in_f)), (h0_told, .inl (cI, h0_told_n, .inl h0_told_f)), (h0_fresh, .inl (cI, h0_fresh_n, .inl o_h0_fresh_f)), (h0_newBlocks, .inl (cI, h0_newBlocks_n, .inl o_h0_newBlocks_f)), (h0_dict, .inl (cI, h0_dict_n, .inl h0_dict_f))] A) (by decide) (Nat.le_of_ble_eq_true rfl) ?_
  intro p e s m below meth c A ls Q hx hb hr hml hown hts hlocks hnm hP hK hD hN hT hA hl hQ
  have hown : s.vm.findClass RX12 = some m.cls := hown
  have hS : va_S A s.heap s.heap [] := va_S.rf
  have hl : lv_has ls 11 [(0, .ref h0)] := hl
  unfold m_Mo_readFrame at hf
  refine lv_aload_n hx hb dX12_readFrame_0 rfl (lv_at hl 0 rfl) ?_
  refine va_get (D := (dC, dI)) (ci := 10) (v := .int h0_at) (C := RX12) (T := TX12) (N := 32) hx hb hts inG_X12 hown hK hP 0 rfl rfl 31 (by decide) (hts _ kw_1083) (fun _ h9 => h9) rfl dX12_readFrame_1 ?_
  refine lv_istore_n (lv' := [(1, .int h0_at), (0, .ref h0)]) hx hb dX12_readFrame_4 rfl hl (by decide) rfl (fun ls hl => ?_)
  refine lv_aload_n hx hb dX12_readFrame_5 rfl (lv_at hl 1 rfl) ?_
  refine va_get (D := (dC, dI)) (ci := 10) (v := .int h0_at) (C := RX12) (T := TX12) (N := 32) hx hb hts inG_X12 hown hK hP 0 rfl rfl 31 (by decide) (hts _ kw_1083) (fun _ h9 => h9) rfl dX12_readFrame_6 ?_
  refine lv_aload_n hx hb dX12_readFrame_9 rfl (lv_at hl 1 rfl) ?_
  refine va_get (D := (dC, dI)) (ci := 10) (v := .int h0_inSize) (C := RX12) (T := TX12) (N := 32) hx hb hts inG_X12 hown hK hP 0 rfl rfl 1 (by decide) (hts _ kw_1053) (fun _ h9 => h9) rfl dX12_readFrame_10 ?_
  refine lv_icmp_ne (tgt := 26) hx hb dX12_readFrame_13 (by decide) (fun c_13 => ?_) (fun c_13 => ?_)
  · replace hf := if_f c_13 hf
    refine lv_aload_n hx hb dX12_readFrame_26 rfl (lv_at hl 1 rfl) ?_
    refine va_get (D := (dC, dI)) (ci := 10) (v := .ref h0_in) (C := RX12) (T := TX12) (N := 32) hx hb hts inG_X12 hown hK hP 0 rfl rfl 0 (by decide) (hts _ kw_1052) (fun _ h9 => h9) rfl dX12_readFrame_27 ?_
    refine lv_aload_n hx hb dX12_readFrame_30 rfl (lv_at hl 1 rfl) ?_
    refine va_get (D := (dC, dI)) (ci := 10) (v := .int h0_at) (C := RX12) (T := TX12) (N := 32) hx hb hts inG_X12 hown hK hP 0 rfl rfl 31 (by decide) (hts _ kw_1083) (fun _ h9 => h9) rfl dX12_readFrame_31 ?_
    obtain ⟨hin, hf⟩ := chk_some hf
    refine va_iald hx hb hK hP 1 1 rfl rfl hin dX12_readFrame_34 ?_
    refine lv_topi (fun v2_1 e_v2_1 => ?_)
    replace hf := bnd_at e_v2_1 hf
    refine lv_istore_n (lv' := [(2, .int v2_1), (1, .int h0_at), (0, .ref h0)]) hx hb dX12_readFrame_35 rfl hl (by decide) rfl (fun ls hl => ?_)
    refine lv_iload_n hx hb dX12_readFrame_36 rfl (lv_at hl 0 rfl) ?_
    refine lv_sipush (v := 194) hx hb dX12_readFrame_37 (by decide) ?_
    refine lv_iand hx hb dX12_readFrame_40 ?_
    refine lv_bipush (v := 64) hx hb dX12_readFrame_41 (by decide) ?_
    refine lv_icmp_eq (tgt := 56) hx hb dX12_readFrame_43 (by decide) (fun c_43 => ?_) (fun c_43 => ?_)
    · replace hf := if_t c_43 hf
      refine lv_aload_n hx hb dX12_readFrame_56 rfl (lv_at hl 2 rfl) ?_
      refine lv_dup hx hb dX12_readFrame_57 rfl ?_
      refine va_get (D := (dC, dI)) (ci := 10) (v := .int h0_at) (C := RX12) (T := TX12) (N := 32) hx hb hts inG_X12 hown hK hP 0 rfl rfl 31 (by decide) (hts _ kw_1083) (fun _ h9 => h9) rfl dX12_readFrame_58 ?_
      refine lv_iconst (v := 1) hx hb dX12_readFrame_61 (by decide) ?_
      refine lv_iadd hx hb dX12_readFrame_62 ?_
      refine lv_topi (fun p_2 e_p_2 => ?_)
      replace hf := bnd_at e_p_2 hf
      refine va_put (D := (dC, dI)) (ci := 10) (v := .int p_2) (ty := .int) (C := RX12) (T := TX12) (N := 32) hx hb hts inG_X12 tyX12 tyX12_ok nmX12 hown hK hP hD hS 0 rfl rfl 31 (by decide) (hts _ kw_1083) (fun _ h9 => h9) rfl (by decide +kernel) rfl rfl (Nat.le_of_ble_eq_true rfl) dX12_readFrame_63 (fun H locs hP hD hS => ?_)
      have hP : va_P (dC, dI) vwCl [(h0, .inr (10, [.ref h0_in, .int h0_inSize, w_h0_out, w_h0_outSize, .ref h0_dict, .int h0_dictSize, .ref h0_told, .ref h0_fresh, .int h0_freshSize, w_h0_text, w_h0_lean, w_h0_size, w_h0_most, w_h0_offset, w_h0_copyAt, w_h0_copies, w_h0_copyLength, w_h0_copyOffset, w_h0_fromHere, w_h0_withCopy, w_h0_bestCopy, w_h0_bestLiterals, .int h0_copiesOf, .int h0_literalsOf, .int h0_partsOf, w_h0_blocks, w_h0_blockMany, .ref h0_newBlocks, .int h0_newMany, .int h0_rule, .int h0_place, .int p_2])), (h0_in, .inl (cI, h0_in_n, .inl h0_in_f)), (h0_told, .inl (cI, h0_told_n, .inl h0_told_f)), (h0_fresh, .inl (cI, h0_fresh_n, .inl h0_fresh_f)), (h0_newBlocks, .inl (cI, h0_newBlocks_n, .inl h0_newBlocks_f)), (h0_dict, .inl (cI, h0_dict_n, .inl h0_dict_f))] H := hP
      have hD : va_D A [(h0, .inr (10, [.ref h0_in, .int h0_inSize, w_h0_out, w_h0_outSize, .ref h0_dict, .int h0_dictSize, .ref h0_told, .ref h0_fresh, .int h0_freshSize, w_h0_text, w_h0_lean, w_h0_size, w_h0_most, w_h0_offset, w_h0_copyAt, w_h0_copies, w_h0_copyLength, w_h0_copyOffset, w_h0_fromHere, w_h0_withCopy, w_h0_bestCopy, w_h0_bestLiterals, .int h0_copiesOf, .int h0_literalsOf, .int h0_partsOf, w_h0_blocks, w_h0_blockMany, .ref h0_newBlocks, .int h0_newMany, .int h0_rule, .int h0_place, .int p_2])), (h0_in, .inl (cI, h0_in_n, .inl h0_in_f)), (h0_told, .inl (cI, h0_told_n, .inl h0_told_f)), (h0_fresh, .inl (cI, h0_fresh_n, .inl h0_fresh_f)), (h0_newBlocks, .inl (cI, h0_newBlocks_n, .inl h0_newBlocks_f)), (h0_dict, .inl (cI, h0_dict_n, .inl h0_dict_f))] := hD
      refine lv_aload_n hx hb dX12_readFrame_66 rfl (lv_at hl 2 rfl) ?_
      refine va_get (D := (dC, dI)) (ci := 10) (v := .int p_2) (C := RX12) (T := TX12) (N := 32) hx hb hts inG_X12 hown hK hP 0 rfl rfl 31 (by decide) (hts _ kw_1083) (fun _ h9 => h9) rfl dX12_readFrame_67 ?_
      refine lv_aload_n hx hb dX12_readFrame_70 rfl (lv_at hl 2 rfl) ?_
      refine va_get (D := (dC, dI)) (ci := 10) (v := .int h0_inSize) (C := RX12) (T := TX12) (N := 32) hx hb hts inG_X12 hown hK hP 0 rfl rfl 1 (by decide) (hts _ kw_1053) (fun _ h9 => h9) rfl dX12_readFrame_71 ?_
      refine lv_icmp_ne (tgt := 87) hx hb dX12_readFrame_74 (by decide) (fun c_74 => ?_) (fun c_74 => ?_)
      · replace hf := if_f c_74 hf
        refine lv_aload_n hx hb dX12_readFrame_87 rfl (lv_at hl 2 rfl) ?_
        refine va_get (D := (dC, dI)) (ci := 10) (v := .ref h0_in) (C := RX12) (T := TX12) (N := 32) hx hb hts inG_X12 hown hK hP 0 rfl rfl 0 (by decide) (hts _ kw_1052) (fun _ h9 => h9) rfl dX12_readFrame_88 ?_
        refine lv_aload_n hx hb dX12_readFrame_91 rfl (lv_at hl 2 rfl) ?_
        refine va_get (D := (dC, dI)) (ci := 10) (v := .int p_2) (C := RX12) (T := TX12) (N := 32) hx hb hts inG_X12 hown hK hP 0 rfl rfl 31 (by decide) (hts _ kw_1083) (fun _ h9 => h9) rfl dX12_readFrame_92 ?_
        obtain ⟨hin, hf⟩ := chk_some hf
        refine va_iald hx hb hK hP 1 1 rfl rfl hin dX12_readFrame_95 ?_
        refine lv_iconst (v := 4) hx hb dX12_readFrame_96 (by decide) ?_
        refine lv_ishr hx hb dX12_readFrame_97 ?_
        refine lv_topi (fun v3_3 e_v3_3 => ?_)
        replace hf := bnd_at e_v3_3 hf
        refine lv_istore_n (lv' := [(3, .int v3_3), (2, .int v2_1), (1, .int h0_at), (0, .ref h0)]) hx hb dX12_readFrame_98 rfl hl (by decide) rfl (fun ls hl => ?_)
        refine lv_aload_n hx hb dX12_readFrame_99 rfl (lv_at hl 3 rfl) ?_
        refine va_get (D := (dC, dI)) (ci := 10) (v := .ref h0_in) (C := RX12) (T := TX12) (N := 32) hx hb hts inG_X12 hown hK hP 0 rfl rfl 0 (by decide) (hts _ kw_1052) (fun _ h9 => h9) rfl dX12_readFrame_100 ?_
        refine lv_aload_n hx hb dX12_readFrame_103 rfl (lv_at hl 3 rfl) ?_
        refine va_get (D := (dC, dI)) (ci := 10) (v := .int p_2) (C := RX12) (T := TX12) (N := 32) hx hb hts inG_X12 hown hK hP 0 rfl rfl 31 (by decide) (hts _ kw_1083) (fun _ h9 => h9) rfl dX12_readFrame_104 ?_
        obtain ⟨hin, hf⟩ := chk_some hf
        refine va_iald hx hb hK hP 1 1 rfl rfl hin dX12_readFrame_107 ?_
        refine lv_bipush (v := 15) hx hb dX12_readFrame_108 (by decide) ?_
        refine lv_iand hx hb dX12_readFrame_110 ?_
        have hJ_125 : ∀ (H : Heap) (locs : List Loc) (ls : Array Slot), m_Mo_readFrame_J125 h0_freshSize h0_copiesOf h0_literalsOf h0_partsOf h0_newMany h0_fresh_f h0_newBlocks_f p_2 = some (o_r, o_h0_freshSize, o_h0_copiesOf, o_h0_literalsOf, o_h0_partsOf, o_h0_newMany, o_h0_rule, o_h0_place, o_h0_at, o_h0_fresh_f, o_h0_newBlocks_f) → va_P (dC, dI) vwCl [(h0, .inr (10, [.ref h0_in, .int h0_inSize, w_h0_out, w_h0_outSize, .ref h0_dict, .int h0_dictSize, .ref h0_told, .ref h0_fresh, .int h0_freshSize, w_h0_text, w_h0_lean, w_h0_size, w_h0_most, w_h0_offset, w_h0_copyAt, w_h0_copies, w_h0_copyLength, w_h0_copyOffset, w_h0_fromHere, w_h0_withCopy, w_h0_bestCopy, w_h0_bestLiterals, .int h0_copiesOf, .int h0_literalsOf, .int h0_partsOf, w_h0_blocks, w_h0_blockMany, .ref h0_newBlocks, .int h0_newMany, .int h0_rule, .int h0_place, .int p_2])), (h0_in, .inl (cI, h0_in_n, .inl h0_in_f)), (h0_told, .inl (cI, h0_told_n, .inl h0_told_f)), (h0_fresh, .inl (cI, h0_fresh_n, .inl h0_fresh_f)), (h0_newBlocks, .inl (cI, h0_newBlocks_n, .inl h0_newBlocks_f)), (h0_dict, .inl (cI, h0_dict_n, .inl h0_dict_f))] H → va_D A [(h0, .inr (10, [.ref h0_in, .int h0_inSize, w_h0_out, w_h0_outSize, .ref h0_dict, .int h0_dictSize, .ref h0_told, .ref h0_fresh, .int h0_freshSize, w_h0_text, w_h0_lean, w_h0_size, w_h0_most, w_h0_offset, w_h0_copyAt, w_h0_copies, w_h0_copyLength, w_h0_copyOffset, w_h0_fromHere, w_h0_withCopy, w_h0_bestCopy, w_h0_bestLiterals, .int h0_copiesOf, .int h0_literalsOf, .int h0_partsOf, w_h0_blocks, w_h0_blockMany, .ref h0_newBlocks, .int h0_newMany, .int h0_rule, .int h0_place, .int p_2])), (h0_in, .inl (cI, h0_in_n, .inl h0_in_f)), (h0_told, .inl (cI, h0_told_n, .inl h0_told_f)), (h0_fresh, .inl (cI, h0_fresh_n, .inl h0_fresh_f)), (h0_newBlocks, .inl (cI, h0_newBlocks_n, .inl h0_newBlocks_f)), (h0_dict, .inl (cI, h0_dict_n, .inl h0_dict_f))] → va_S A s.heap H locs → lv_has ls 11 [(0, .ref h0)] → W p l e (rm_Mo_readFrame) s m ([.ref h0] : List Value).toArray below meth c H locs 0 0 Q (F0 m 125 ls []) := by
          intro  H locs ls hf hP hD hS hl
          unfold m_Mo_readFrame_J125 at hf
          refine lv_aload_n hx hb dX12_readFrame_125 rfl (lv_at hl 0 rfl) ?_
          refine lv_iconst (v := 5) hx hb dX12_readFrame_126 (by decide) ?_
          refine lv_aload_n hx hb dX12_readFrame_127 rfl (lv_at hl 0 rfl) ?_
          refine va_get (D := (dC, dI)) (ci := 10) (v := .int p_2) (C := RX12) (T := TX12) (N := 32) hx hb hts inG_X12 hown hK hP 0 rfl rfl 31 (by decide) (hts _ kw_1083) (fun _ h9 => h9) rfl dX12_readFrame_128 ?_
          obtain ⟨x, hc, hf⟩ := bind_some hf
          obtain ⟨r4, u5, u6⟩ := x
          dsimp only at hf
          refine nx_i (rn_V (As := [.int (5 : Int32), .int p_2]) (rest := []) (n := 2) (ci := 10) (q0 := 0) ⟨hx, hb, hml, hown, hts⟩ (c_Mo_no (l := l) (dC := dC) (dI := dI) (cB := cB) (cI := cI) (h0 := h0) (a1 := (5 : Int32)) (a2 := p_2) (w_h0_in := (.ref h0_in)) (w_h0_inSize := (.int h0_inSize)) (w_h0_out := (w_h0_out)) (w_h0_outSize := (w_h0_outSize)) (w_h0_dict := (.ref h0_dict)) (w_h0_dictSize := (.int h0_dictSize)) (w_h0_told := (.ref h0_told)) (w_h0_fresh := (.ref h0_fresh)) (w_h0_freshSize := (.int h0_freshSize)) (w_h0_text := (w_h0_text)) (w_h0_lean := (w_h0_lean)) (w_h0_size := (w_h0_size)) (w_h0_most := (w_h0_most)) (w_h0_offset := (w_h0_offset)) (w_h0_copyAt := (w_h0_copyAt)) (w_h0_copies := (w_h0_copies)) (w_h0_copyLength := (w_h0_copyLength)) (w_h0_copyOffset := (w_h0_copyOffset)) (w_h0_fromHere := (w_h0_fromHere)) (w_h0_withCopy := (w_h0_withCopy)) (w_h0_bestCopy := (w_h0_bestCopy)) (w_h0_bestLiterals := (w_h0_bestLiterals)) (w_h0_copiesOf := (.int h0_copiesOf)) (w_h0_literalsOf := (.int h0_literalsOf)) (w_h0_partsOf := (.int h0_partsOf)) (w_h0_blocks := (w_h0_blocks)) (w_h0_blockMany := (w_h0_blockMany)) (w_h0_newBlocks := (.ref h0_newBlocks)) (w_h0_newMany := (.int h0_newMany)) (h0_rule := h0_rule) (h0_place := h0_place) (w_h0_at := (.int p_2)) (o_h0_rule := u5) (o_h0_place := u6) (o_r := r4) hc) (wV kw_1353 kw_1355 kw_72 kw_94 kw_1356) (by decide +kernel) ⟨Nat.le_of_ble_eq_true rfl, Nat.le_of_ble_eq_true rfl⟩ hK hP hD hN hT hS (va_free (wc := [(h0, .inr (10, [.ref h0_in, .int h0_inSize, w_h0_out, w_h0_outSize, .ref h0_dict, .int h0_dictSize, .ref h0_told, .ref h0_fresh, .int h0_freshSize, w_h0_text, w_h0_lean, w_h0_size, w_h0_most, w_h0_offset, w_h0_copyAt, w_h0_copies, w_h0_copyLength, w_h0_copyOffset, w_h0_fromHere, w_h0_withCopy, w_h0_bestCopy, w_h0_bestLiterals, .int h0_copiesOf, .int h0_literalsOf, .int h0_partsOf, w_h0_blocks, w_h0_blockMany, .ref h0_newBlocks, .int h0_newMany, .int h0_rule, .int h0_place, .int p_2]))]) hD hS hA [0] rfl) [0] rfl (by decide) rfl rfl rfl hl.1 rfl (lv_room (Nat.le_of_ble_eq_true rfl)) dX12_readFrame_131 ⟨Nat.le_of_ble_eq_true rfl, Nat.le_of_ble_eq_true rfl⟩) hP hD hS hA (wr := [(h0_in, .inl (cI, h0_in_n, .inl h0_in_f)), (h0_told, .inl (cI, h0_told_n, .inl h0_told_f)), (h0_fresh, .inl (cI, h0_fresh_n, .inl h0_fresh_f)), (h0_newBlocks, .inl (cI, h0_newBlocks_n, .inl h0_newBlocks_f)), (h0_dict, .inl (cI, h0_dict_n, .inl h0_dict_f))]) (w1 := [(h0, .inr (10, [.ref h0_in, .int h0_inSize, w_h0_out, w_h0_outSize, .ref h0_dict, .int h0_dictSize, .ref h0_told, .ref h0_fresh, .int h0_freshSize, w_h0_text, w_h0_lean, w_h0_size, w_h0_most, w_h0_offset, w_h0_copyAt, w_h0_copies, w_h0_copyLength, w_h0_copyOffset, w_h0_fromHere, w_h0_withCopy, w_h0_bestCopy, w_h0_bestLiterals, .int h0_copiesOf, .int h0_literalsOf, .int h0_partsOf, w_h0_blocks, w_h0_blockMany, .ref h0_newBlocks, .int h0_newMany, .int u5, .int u6, .int p_2]))]) (ws' := [(h0, .inr (10, [.ref h0_in, .int h0_inSize, w_h0_out, w_h0_outSize, .ref h0_dict, .int h0_dictSize, .ref h0_told, .ref h0_fresh, .int h0_freshSize, w_h0_text, w_h0_lean, w_h0_size, w_h0_most, w_h0_offset, w_h0_copyAt, w_h0_copies, w_h0_copyLength, w_h0_copyOffset, w_h0_fromHere, w_h0_withCopy, w_h0_bestCopy, w_h0_bestLiterals, .int h0_copiesOf, .int h0_literalsOf, .int h0_partsOf, w_h0_blocks, w_h0_blockMany, .ref h0_newBlocks, .int h0_newMany, .int u5, .int u6, .int p_2])), (h0_in, .inl (cI, h0_in_n, .inl h0_in_f)), (h0_told, .inl (cI, h0_told_n, .inl h0_told_f)), (h0_fresh, .inl (cI, h0_fresh_n, .inl h0_fresh_f)), (h0_newBlocks, .inl (cI, h0_newBlocks_n, .inl h0_newBlocks_f)), (h0_dict, .inl (cI, h0_dict_n, .inl h0_dict_f))]) [0] [1, 2, 3, 4, 5] [5, 0, 1, 2, 3, 4] rfl rfl (by decide) (by decide) rfl (by decide) (fun H locs hP hD hS => ?_)
          obtain ⟨hzb, hf⟩ := bch_some hf
          obtain ⟨rfl, hq_1⟩ := Prod.mk.inj (Option.some.inj hf)
          obtain ⟨rfl, hq_2⟩ := Prod.mk.inj hq_1
          obtain ⟨rfl, hq_3⟩ := Prod.mk.inj hq_2
          obtain ⟨rfl, hq_4⟩ := Prod.mk.inj hq_3
          obtain ⟨rfl, hq_5⟩ := Prod.mk.inj hq_4
          obtain ⟨rfl, hq_6⟩ := Prod.mk.inj hq_5
          obtain ⟨rfl, hq_7⟩ := Prod.mk.inj hq_6
          obtain ⟨rfl, hq_8⟩ := Prod.mk.inj hq_7
          obtain ⟨rfl, hq_9⟩ := Prod.mk.inj hq_8
          obtain ⟨rfl, hq_10⟩ := Prod.mk.inj hq_9
          obtain rfl := hq_10
          exact rt_z hQ hx hb hr hzb hlocks hP hD hS dX12_readFrame_134
        refine lv_if_ne (tgt := 125) hx hb dX12_readFrame_111 (by decide) (fun c_111 => ?_) (fun c_111 => ?_)
        · replace hf := if_f c_111 hf
          exact hJ_125  _ _ _ hf hP hD hS (lv_sub hl [3] rfl)
        · replace hf := if_t c_111 hf
          refine lv_iload_n hx hb dX12_readFrame_114 rfl (lv_at hl 0 rfl) ?_
          refine lv_iconst (v := 4) hx hb dX12_readFrame_115 (by decide) ?_
          refine lv_icmp_lt (tgt := 125) hx hb dX12_readFrame_116 (by decide) (fun c_116 => ?_) (fun c_116 => ?_)
          · replace hf := if_t c_116 hf
            exact hJ_125  _ _ _ hf hP hD hS (lv_sub hl [3] rfl)
          · replace hf := if_f c_116 hf
            refine lv_iload_n hx hb dX12_readFrame_119 rfl (lv_at hl 0 rfl) ?_
            refine lv_bipush (v := 7) hx hb dX12_readFrame_120 (by decide) ?_
            refine lv_icmp_le (tgt := 135) hx hb dX12_readFrame_122 (by decide) (fun c_122 => ?_) (fun c_122 => ?_)
            · replace hf := if_t c_122 hf
              refine lv_aload_n hx hb dX12_readFrame_135 rfl (lv_at hl 3 rfl) ?_
              refine lv_dup hx hb dX12_readFrame_136 rfl ?_
              refine va_get (D := (dC, dI)) (ci := 10) (v := .int p_2) (C := RX12) (T := TX12) (N := 32) hx hb hts inG_X12 hown hK hP 0 rfl rfl 31 (by decide) (hts _ kw_1083) (fun _ h9 => h9) rfl dX12_readFrame_137 ?_
              refine lv_iconst (v := 1) hx hb dX12_readFrame_140 (by decide) ?_
              refine lv_iadd hx hb dX12_readFrame_141 ?_
              refine lv_topi (fun p_7 e_p_7 => ?_)
              replace hf := bnd_at e_p_7 hf
              refine va_put (D := (dC, dI)) (ci := 10) (v := .int p_7) (ty := .int) (C := RX12) (T := TX12) (N := 32) hx hb hts inG_X12 tyX12 tyX12_ok nmX12 hown hK hP hD hS 0 rfl rfl 31 (by decide) (hts _ kw_1083) (fun _ h9 => h9) rfl (by decide +kernel) rfl rfl (Nat.le_of_ble_eq_true rfl) dX12_readFrame_142 (fun H locs hP hD hS => ?_)
              have hP : va_P (dC, dI) vwCl [(h0, .inr (10, [.ref h0_in, .int h0_inSize, w_h0_out, w_h0_outSize, .ref h0_dict, .int h0_dictSize, .ref h0_told, .ref h0_fresh, .int h0_freshSize, w_h0_text, w_h0_lean, w_h0_size, w_h0_most, w_h0_offset, w_h0_copyAt, w_h0_copies, w_h0_copyLength, w_h0_copyOffset, w_h0_fromHere, w_h0_withCopy, w_h0_bestCopy, w_h0_bestLiterals, .int h0_copiesOf, .int h0_literalsOf, .int h0_partsOf, w_h0_blocks, w_h0_blockMany, .ref h0_newBlocks, .int h0_newMany, .int h0_rule, .int h0_place, .int p_7])), (h0_in, .inl (cI, h0_in_n, .inl h0_in_f)), (h0_told, .inl (cI, h0_told_n, .inl h0_told_f)), (h0_fresh, .inl (cI, h0_fresh_n, .inl h0_fresh_f)), (h0_newBlocks, .inl (cI, h0_newBlocks_n, .inl h0_newBlocks_f)), (h0_dict, .inl (cI, h0_dict_n, .inl h0_dict_f))] H := hP
              have hD : va_D A [(h0, .inr (10, [.ref h0_in, .int h0_inSize, w_h0_out, w_h0_outSize, .ref h0_dict, .int h0_dictSize, .ref h0_told, .ref h0_fresh, .int h0_freshSize, w_h0_text, w_h0_lean, w_h0_size, w_h0_most, w_h0_offset, w_h0_copyAt, w_h0_copies, w_h0_copyLength, w_h0_copyOffset, w_h0_fromHere, w_h0_withCopy, w_h0_bestCopy, w_h0_bestLiterals, .int h0_copiesOf, .int h0_literalsOf, .int h0_partsOf, w_h0_blocks, w_h0_blockMany, .ref h0_newBlocks, .int h0_newMany, .int h0_rule, .int h0_place, .int p_7])), (h0_in, .inl (cI, h0_in_n, .inl h0_in_f)), (h0_told, .inl (cI, h0_told_n, .inl h0_told_f)), (h0_fresh, .inl (cI, h0_fresh_n, .inl h0_fresh_f)), (h0_newBlocks, .inl (cI, h0_newBlocks_n, .inl h0_newBlocks_f)), (h0_dict, .inl (cI, h0_dict_n, .inl h0_dict_f))] := hD
              refine lv_iload_n hx hb dX12_readFrame_145 rfl (lv_at hl 1 rfl) ?_
              refine lv_bipush (v := 8) hx hb dX12_readFrame_146 (by decide) ?_
              refine lv_iand hx hb dX12_readFrame_148 ?_
              have hJ_158 : ∀ (s8 : Int32) (H : Heap) (locs : List Loc) (ls : Array Slot), m_Mo_readFrame_J158 h0_inSize h0_dictSize h0_freshSize h0_copiesOf h0_literalsOf h0_partsOf h0_newMany h0_rule h0_place h0_at h0_in_n h0_in_f h0_told_n h0_told_f h0_fresh_n h0_fresh_f h0_newBlocks_n h0_newBlocks_f h0_dict_n h0_dict_f v2_1 v3_3 p_7 s8 = some (o_r, o_h0_freshSize, o_h0_copiesOf, o_h0_literalsOf, o_h0_partsOf, o_h0_newMany, o_h0_rule, o_h0_place, o_h0_at, o_h0_fresh_f, o_h0_newBlocks_f) → va_P (dC, dI) vwCl [(h0, .inr (10, [.ref h0_in, .int h0_inSize, w_h0_out, w_h0_outSize, .ref h0_dict, .int h0_dictSize, .ref h0_told, .ref h0_fresh, .int h0_freshSize, w_h0_text, w_h0_lean, w_h0_size, w_h0_most, w_h0_offset, w_h0_copyAt, w_h0_copies, w_h0_copyLength, w_h0_copyOffset, w_h0_fromHere, w_h0_withCopy, w_h0_bestCopy, w_h0_bestLiterals, .int h0_copiesOf, .int h0_literalsOf, .int h0_partsOf, w_h0_blocks, w_h0_blockMany, .ref h0_newBlocks, .int h0_newMany, .int h0_rule, .int h0_place, .int p_7])), (h0_in, .inl (cI, h0_in_n, .inl h0_in_f)), (h0_told, .inl (cI, h0_told_n, .inl h0_told_f)), (h0_fresh, .inl (cI, h0_fresh_n, .inl h0_fresh_f)), (h0_newBlocks, .inl (cI, h0_newBlocks_n, .inl h0_newBlocks_f)), (h0_dict, .inl (cI, h0_dict_n, .inl h0_dict_f))] H → va_D A [(h0, .inr (10, [.ref h0_in, .int h0_inSize, w_h0_out, w_h0_outSize, .ref h0_dict, .int h0_dictSize, .ref h0_told, .ref h0_fresh, .int h0_freshSize, w_h0_text, w_h0_lean, w_h0_size, w_h0_most, w_h0_offset, w_h0_copyAt, w_h0_copies, w_h0_copyLength, w_h0_copyOffset, w_h0_fromHere, w_h0_withCopy, w_h0_bestCopy, w_h0_bestLiterals, .int h0_copiesOf, .int h0_literalsOf, .int h0_partsOf, w_h0_blocks, w_h0_blockMany, .ref h0_newBlocks, .int h0_newMany, .int h0_rule, .int h0_place, .int p_7])), (h0_in, .inl (cI, h0_in_n, .inl h0_in_f)), (h0_told, .inl (cI, h0_told_n, .inl h0_told_f)), (h0_fresh, .inl (cI, h0_fresh_n, .inl h0_fresh_f)), (h0_newBlocks, .inl (cI, h0_newBlocks_n, .inl h0_newBlocks_f)), (h0_dict, .inl (cI, h0_dict_n, .inl h0_dict_f))] → va_S A s.heap H locs → lv_has ls 11 [(0, .ref h0), (1, .int h0_at), (2, .int v2_1), (3, .int v3_3)] → W p l e (rm_Mo_readFrame) s m ([.ref h0] : List Value).toArray below meth c H locs 0 0 Q (F0 m 158 ls [.int s8]) := by
                intro s8 H locs ls hf hP hD hS hl
                unfold m_Mo_readFrame_J158 at hf
                refine lv_iload_n hx hb dX12_readFrame_158 rfl (lv_at hl 2 rfl) ?_
                refine lv_iconst (v := 1) hx hb dX12_readFrame_159 (by decide) ?_
                refine lv_iand hx hb dX12_readFrame_160 ?_
                have hJ_169 : ∀ (s9 : Int32) (H : Heap) (locs : List Loc) (ls : Array Slot), m_Mo_readFrame_J169 h0_inSize h0_dictSize h0_freshSize h0_copiesOf h0_literalsOf h0_partsOf h0_newMany h0_rule h0_place h0_at h0_in_n h0_in_f h0_told_n h0_told_f h0_fresh_n h0_fresh_f h0_newBlocks_n h0_newBlocks_f h0_dict_n h0_dict_f v2_1 v3_3 p_7 s8 s9 = some (o_r, o_h0_freshSize, o_h0_copiesOf, o_h0_literalsOf, o_h0_partsOf, o_h0_newMany, o_h0_rule, o_h0_place, o_h0_at, o_h0_fresh_f, o_h0_newBlocks_f) → va_P (dC, dI) vwCl [(h0, .inr (10, [.ref h0_in, .int h0_inSize, w_h0_out, w_h0_outSize, .ref h0_dict, .int h0_dictSize, .ref h0_told, .ref h0_fresh, .int h0_freshSize, w_h0_text, w_h0_lean, w_h0_size, w_h0_most, w_h0_offset, w_h0_copyAt, w_h0_copies, w_h0_copyLength, w_h0_copyOffset, w_h0_fromHere, w_h0_withCopy, w_h0_bestCopy, w_h0_bestLiterals, .int h0_copiesOf, .int h0_literalsOf, .int h0_partsOf, w_h0_blocks, w_h0_blockMany, .ref h0_newBlocks, .int h0_newMany, .int h0_rule, .int h0_place, .int p_7])), (h0_in, .inl (cI, h0_in_n, .inl h0_in_f)), (h0_told, .inl (cI, h0_told_n, .inl h0_told_f)), (h0_fresh, .inl (cI, h0_fresh_n, .inl h0_fresh_f)), (h0_newBlocks, .inl (cI, h0_newBlocks_n, .inl h0_newBlocks_f)), (h0_dict, .inl (cI, h0_dict_n, .inl h0_dict_f))] H → va_D A [(h0, .inr (10, [.ref h0_in, .int h0_inSize, w_h0_out, w_h0_outSize, .ref h0_dict, .int h0_dictSize, .ref h0_told, .ref h0_fresh, .int h0_freshSize, w_h0_text, w_h0_lean, w_h0_size, w_h0_most, w_h0_offset, w_h0_copyAt, w_h0_copies, w_h0_copyLength, w_h0_copyOffset, w_h0_fromHere, w_h0_withCopy, w_h0_bestCopy, w_h0_bestLiterals, .int h0_copiesOf, .int h0_literalsOf, .int h0_partsOf, w_h0_blocks, w_h0_blockMany, .ref h0_newBlocks, .int h0_newMany, .int h0_rule, .int h0_place, .int p_7])), (h0_in, .inl (cI, h0_in_n, .inl h0_in_f)), (h0_told, .inl (cI, h0_told_n, .inl h0_told_f)), (h0_fresh, .inl (cI, h0_fresh_n, .inl h0_fresh_f)), (h0_newBlocks, .inl (cI, h0_newBlocks_n, .inl h0_newBlocks_f)), (h0_dict, .inl (cI, h0_dict_n, .inl h0_dict_f))] → va_S A s.heap H locs → lv_has ls 11 [(0, .ref h0), (1, .int h0_at), (2, .int v2_1), (3, .int v3_3)] → W p l e (rm_Mo_readFrame) s m ([.ref h0] : List Value).toArray below meth c H locs 0 0 Q (F0 m 169 ls [.int s9, .int s8]) := by
                  intro s9 H locs ls hf hP hD hS hl
                  unfold m_Mo_readFrame_J169 at hf
                  refine lv_iadd hx hb dX12_readFrame_169 ?_
                  refine lv_iconst (v := 1) hx hb dX12_readFrame_170 (by decide) ?_
                  refine lv_iadd hx hb dX12_readFrame_171 ?_
                  refine lv_topi (fun v4_10 e_v4_10 => ?_)
                  replace hf := bnd_at e_v4_10 hf
                  refine lv_istore (lv' := [(4, .int v4_10), (0, .ref h0), (1, .int h0_at), (2, .int v2_1), (3, .int v3_3)]) hx hb dX12_readFrame_172 hl (by decide) rfl (fun ls hl => ?_)
                  refine lv_aload_n hx hb dX12_readFrame_174 rfl (lv_at hl 1 rfl) ?_
                  refine va_get (D := (dC, dI)) (ci := 10) (v := .int h0_inSize) (C := RX12) (T := TX12) (N := 32) hx hb hts inG_X12 hown hK hP 0 rfl rfl 1 (by decide) (hts _ kw_1053) (fun _ h9 => h9) rfl dX12_readFrame_175 ?_
                  refine lv_aload_n hx hb dX12_readFrame_178 rfl (lv_at hl 1 rfl) ?_
                  refine va_get (D := (dC, dI)) (ci := 10) (v := .int p_7) (C := RX12) (T := TX12) (N := 32) hx hb hts inG_X12 hown hK hP 0 rfl rfl 31 (by decide) (hts _ kw_1083) (fun _ h9 => h9) rfl dX12_readFrame_179 ?_
                  refine lv_isub hx hb dX12_readFrame_182 ?_
                  refine lv_iload hx hb dX12_readFrame_183 (lv_at hl 0 rfl) ?_
                  refine lv_icmp_ge (tgt := 198) hx hb dX12_readFrame_185 (by decide) (fun c_185 => ?_) (fun c_185 => ?_)
                  · replace hf := if_t c_185 hf
                    refine lv_iload_n hx hb dX12_readFrame_198 rfl (lv_at hl 3 rfl) ?_
                    refine lv_bipush (v := 8) hx hb dX12_readFrame_199 (by decide) ?_
                    refine lv_iand hx hb dX12_readFrame_201 ?_
                    have hJ_219 : ∀ (s11 : Int64) (H : Heap) (locs : List Loc) (ls : Array Slot), m_Mo_readFrame_J219 h0_inSize h0_dictSize h0_freshSize h0_copiesOf h0_literalsOf h0_partsOf h0_newMany h0_rule h0_place h0_at h0_in_n h0_in_f h0_told_n h0_told_f h0_fresh_n h0_fresh_f h0_newBlocks_n h0_newBlocks_f h0_dict_n h0_dict_f v2_1 v3_3 p_7 v4_10 s11 = some (o_r, o_h0_freshSize, o_h0_copiesOf, o_h0_literalsOf, o_h0_partsOf, o_h0_newMany, o_h0_rule, o_h0_place, o_h0_at, o_h0_fresh_f, o_h0_newBlocks_f) → va_P (dC, dI) vwCl [(h0, .inr (10, [.ref h0_in, .int h0_inSize, w_h0_out, w_h0_outSize, .ref h0_dict, .int h0_dictSize, .ref h0_told, .ref h0_fresh, .int h0_freshSize, w_h0_text, w_h0_lean, w_h0_size, w_h0_most, w_h0_offset, w_h0_copyAt, w_h0_copies, w_h0_copyLength, w_h0_copyOffset, w_h0_fromHere, w_h0_withCopy, w_h0_bestCopy, w_h0_bestLiterals, .int h0_copiesOf, .int h0_literalsOf, .int h0_partsOf, w_h0_blocks, w_h0_blockMany, .ref h0_newBlocks, .int h0_newMany, .int h0_rule, .int h0_place, .int p_7])), (h0_in, .inl (cI, h0_in_n, .inl h0_in_f)), (h0_told, .inl (cI, h0_told_n, .inl h0_told_f)), (h0_fresh, .inl (cI, h0_fresh_n, .inl h0_fresh_f)), (h0_newBlocks, .inl (cI, h0_newBlocks_n, .inl h0_newBlocks_f)), (h0_dict, .inl (cI, h0_dict_n, .inl h0_dict_f))] H → va_D A [(h0, .inr (10, [.ref h0_in, .int h0_inSize, w_h0_out, w_h0_outSize, .ref h0_dict, .int h0_dictSize, .ref h0_told, .ref h0_fresh, .int h0_freshSize, w_h0_text, w_h0_lean, w_h0_size, w_h0_most, w_h0_offset, w_h0_copyAt, w_h0_copies, w_h0_copyLength, w_h0_copyOffset, w_h0_fromHere, w_h0_withCopy, w_h0_bestCopy, w_h0_bestLiterals, .int h0_copiesOf, .int h0_literalsOf, .int h0_partsOf, w_h0_blocks, w_h0_blockMany, .ref h0_newBlocks, .int h0_newMany, .int h0_rule, .int h0_place, .int p_7])), (h0_in, .inl (cI, h0_in_n, .inl h0_in_f)), (h0_told, .inl (cI, h0_told_n, .inl h0_told_f)), (h0_fresh, .inl (cI, h0_fresh_n, .inl h0_fresh_f)), (h0_newBlocks, .inl (cI, h0_newBlocks_n, .inl h0_newBlocks_f)), (h0_dict, .inl (cI, h0_dict_n, .inl h0_dict_f))] → va_S A s.heap H locs → lv_has ls 11 [(0, .ref h0), (1, .int h0_at), (2, .int v2_1), (3, .int v3_3), (4, .int v4_10)] → W p l e (rm_Mo_readFrame) s m ([.ref h0] : List Value).toArray below meth c H locs 0 0 Q (F0 m 219 ls [.long s11]) := by
                      intro s11 H locs ls hf hP hD hS hl
                      unfold m_Mo_readFrame_J219 at hf
                      refine lv_lstore (lv' := [(5, .long s11), (0, .ref h0), (1, .int h0_at), (2, .int v2_1), (3, .int v3_3), (4, .int v4_10)]) hx hb dX12_readFrame_219 hl (by decide) rfl (fun ls hl => ?_)
                      refine lv_aload_n hx hb dX12_readFrame_221 rfl (lv_at hl 1 rfl) ?_
                      refine lv_dup hx hb dX12_readFrame_222 rfl ?_
                      refine va_get (D := (dC, dI)) (ci := 10) (v := .int p_7) (C := RX12) (T := TX12) (N := 32) hx hb hts inG_X12 hown hK hP 0 rfl rfl 31 (by decide) (hts _ kw_1083) (fun _ h9 => h9) rfl dX12_readFrame_223 ?_
                      refine lv_iload hx hb dX12_readFrame_226 (lv_at hl 5 rfl) ?_
                      refine lv_iconst (v := 1) hx hb dX12_readFrame_228 (by decide) ?_
                      refine lv_isub hx hb dX12_readFrame_229 ?_
                      refine lv_iadd hx hb dX12_readFrame_230 ?_
                      refine lv_topi (fun p_12 e_p_12 => ?_)
                      replace hf := bnd_at e_p_12 hf
                      refine va_put (D := (dC, dI)) (ci := 10) (v := .int p_12) (ty := .int) (C := RX12) (T := TX12) (N := 32) hx hb hts inG_X12 tyX12 tyX12_ok nmX12 hown hK hP hD hS 0 rfl rfl 31 (by decide) (hts _ kw_1083) (fun _ h9 => h9) rfl (by decide +kernel) rfl rfl (Nat.le_of_ble_eq_true rfl) dX12_readFrame_231 (fun H locs hP hD hS => ?_)
                      have hP : va_P (dC, dI) vwCl [(h0, .inr (10, [.ref h0_in, .int h0_inSize, w_h0_out, w_h0_outSize, .ref h0_dict, .int h0_dictSize, .ref h0_told, .ref h0_fresh, .int h0_freshSize, w_h0_text, w_h0_lean, w_h0_size, w_h0_most, w_h0_offset, w_h0_copyAt, w_h0_copies, w_h0_copyLength, w_h0_copyOffset, w_h0_fromHere, w_h0_withCopy, w_h0_bestCopy, w_h0_bestLiterals, .int h0_copiesOf, .int h0_literalsOf, .int h0_partsOf, w_h0_blocks, w_h0_blockMany, .ref h0_newBlocks, .int h0_newMany, .int h0_rule, .int h0_place, .int p_12])), (h0_in, .inl (cI, h0_in_n, .inl h0_in_f)), (h0_told, .inl (cI, h0_told_n, .inl h0_told_f)), (h0_fresh, .inl (cI, h0_fresh_n, .inl h0_fresh_f)), (h0_newBlocks, .inl (cI, h0_newBlocks_n, .inl h0_newBlocks_f)), (h0_dict, .inl (cI, h0_dict_n, .inl h0_dict_f))] H := hP
                      have hD : va_D A [(h0, .inr (10, [.ref h0_in, .int h0_inSize, w_h0_out, w_h0_outSize, .ref h0_dict, .int h0_dictSize, .ref h0_told, .ref h0_fresh, .int h0_freshSize, w_h0_text, w_h0_lean, w_h0_size, w_h0_most, w_h0_offset, w_h0_copyAt, w_h0_copies, w_h0_copyLength, w_h0_copyOffset, w_h0_fromHere, w_h0_withCopy, w_h0_bestCopy, w_h0_bestLiterals, .int h0_copiesOf, .int h0_literalsOf, .int h0_partsOf, w_h0_blocks, w_h0_blockMany, .ref h0_newBlocks, .int h0_newMany, .int h0_rule, .int h0_place, .int p_12])), (h0_in, .inl (cI, h0_in_n, .inl h0_in_f)), (h0_told, .inl (cI, h0_told_n, .inl h0_told_f)), (h0_fresh, .inl (cI, h0_fresh_n, .inl h0_fresh_f)), (h0_newBlocks, .inl (cI, h0_newBlocks_n, .inl h0_newBlocks_f)), (h0_dict, .inl (cI, h0_dict_n, .inl h0_dict_f))] := hD
                      refine lv_aload_n hx hb dX12_readFrame_234 rfl (lv_at hl 1 rfl) ?_
                      refine va_get (D := (dC, dI)) (ci := 10) (v := .ref h0_in) (C := RX12) (T := TX12) (N := 32) hx hb hts inG_X12 hown hK hP 0 rfl rfl 0 (by decide) (hts _ kw_1052) (fun _ h9 => h9) rfl dX12_readFrame_235 ?_
                      refine lv_iload_n hx hb dX12_readFrame_238 rfl (lv_at hl 2 rfl) ?_
                      refine lv_aload_n hx hb dX12_readFrame_239 rfl (lv_at hl 1 rfl) ?_
                      refine va_get (D := (dC, dI)) (ci := 10) (v := .int p_12) (C := RX12) (T := TX12) (N := 32) hx hb hts inG_X12 hown hK hP 0 rfl rfl 31 (by decide) (hts _ kw_1083) (fun _ h9 => h9) rfl dX12_readFrame_240 ?_
                      refine lv_iload_n hx hb dX12_readFrame_243 rfl (lv_at hl 2 rfl) ?_
                      refine lv_isub hx hb dX12_readFrame_244 ?_
                      obtain ⟨r13, hc, hf⟩ := bind_some hf
                      refine nx_i (rn_S (As := [.ref h0_in, .int h0_at, .int (p_12 - h0_at)]) (rest := []) (n := 3) ⟨hx, hb, hml, hown, hts⟩ (c_Mo_sumOf (l := l) (dC := dC) (dI := dI) (cB := cB) (cI := cI) (h0 := h0_in) (a1 := h0_at) (a2 := (p_12 - h0_at)) (h0_n := h0_in_n) (h0_f := h0_in_f)  (o_r := r13) hc) (wS kw_1209 kw_1210 kw_94 kw_1211) (by decide +kernel) ⟨Nat.le_of_ble_eq_true rfl, Nat.le_of_ble_eq_true rfl⟩ hK hP hD hN hT hS (va_free (wc := [(h0_in, .inl (cI, h0_in_n, .inl h0_in_f))]) hD hS hA [1] rfl) [1] rfl (by decide) rfl hl.1 rfl (lv_room (Nat.le_of_ble_eq_true rfl)) dX12_readFrame_245 ⟨Nat.le_of_ble_eq_true rfl, Nat.le_of_ble_eq_true rfl⟩) hP hD hS hA (wr := [(h0, .inr (10, [.ref h0_in, .int h0_inSize, w_h0_out, w_h0_outSize, .ref h0_dict, .int h0_dictSize, .ref h0_told, .ref h0_fresh, .int h0_freshSize, w_h0_text, w_h0_lean, w_h0_size, w_h0_most, w_h0_offset, w_h0_copyAt, w_h0_copies, w_h0_copyLength, w_h0_copyOffset, w_h0_fromHere, w_h0_withCopy, w_h0_bestCopy, w_h0_bestLiterals, .int h0_copiesOf, .int h0_literalsOf, .int h0_partsOf, w_h0_blocks, w_h0_blockMany, .ref h0_newBlocks, .int h0_newMany, .int h0_rule, .int h0_place, .int p_12])), (h0_told, .inl (cI, h0_told_n, .inl h0_told_f)), (h0_fresh, .inl (cI, h0_fresh_n, .inl h0_fresh_f)), (h0_newBlocks, .inl (cI, h0_newBlocks_n, .inl h0_newBlocks_f)), (h0_dict, .inl (cI, h0_dict_n, .inl h0_dict_f))]) (w1 := [(h0_in, .inl (cI, h0_in_n, .inl h0_in_f))]) (ws' := [(h0, .inr (10, [.ref h0_in, .int h0_inSize, w_h0_out, w_h0_outSize, .ref h0_dict, .int h0_dictSize, .ref h0_told, .ref h0_fresh, .int h0_freshSize, w_h0_text, w_h0_lean, w_h0_size, w_h0_most, w_h0_offset, w_h0_copyAt, w_h0_copies, w_h0_copyLength, w_h0_copyOffset, w_h0_fromHere, w_h0_withCopy, w_h0_bestCopy, w_h0_bestLiterals, .int h0_copiesOf, .int h0_literalsOf, .int h0_partsOf, w_h0_blocks, w_h0_blockMany, .ref h0_newBlocks, .int h0_newMany, .int h0_rule, .int h0_place, .int p_12])), (h0_in, .inl (cI, h0_in_n, .inl h0_in_f)), (h0_told, .inl (cI, h0_told_n, .inl h0_told_f)), (h0_fresh, .inl (cI, h0_fresh_n, .inl h0_fresh_f)), (h0_newBlocks, .inl (cI, h0_newBlocks_n, .inl h0_newBlocks_f)), (h0_dict, .inl (cI, h0_dict_n, .inl h0_dict_f))]) [1] [0, 2, 3, 4, 5] [0, 5, 1, 2, 3, 4] rfl rfl (by decide) (by decide) rfl (by decide) (fun H locs hP hD hS => ?_)
                      refine lv_bipush (v := 8) hx hb dX12_readFrame_248 (by decide) ?_
                      refine lv_ishr hx hb dX12_readFrame_250 ?_
                      refine lv_sipush (v := 255) hx hb dX12_readFrame_251 (by decide) ?_
                      refine lv_iand hx hb dX12_readFrame_254 ?_
                      refine lv_aload_n hx hb dX12_readFrame_255 rfl (lv_at hl 1 rfl) ?_
                      refine va_get (D := (dC, dI)) (ci := 10) (v := .ref h0_in) (C := RX12) (T := TX12) (N := 32) hx hb hts inG_X12 hown hK hP 0 rfl rfl 0 (by decide) (hts _ kw_1052) (fun _ h9 => h9) rfl dX12_readFrame_256 ?_
                      refine lv_aload_n hx hb dX12_readFrame_259 rfl (lv_at hl 1 rfl) ?_
                      refine va_get (D := (dC, dI)) (ci := 10) (v := .int p_12) (C := RX12) (T := TX12) (N := 32) hx hb hts inG_X12 hown hK hP 0 rfl rfl 31 (by decide) (hts _ kw_1083) (fun _ h9 => h9) rfl dX12_readFrame_260 ?_
                      obtain ⟨hin, hf⟩ := chk_some hf
                      refine va_iald hx hb hK hP 1 1 rfl rfl hin dX12_readFrame_263 ?_
                      refine lv_icmp_eq (tgt := 278) hx hb dX12_readFrame_264 (by decide) (fun c_264 => ?_) (fun c_264 => ?_)
                      · replace hf := if_t c_264 hf
                        refine lv_iload_n hx hb dX12_readFrame_278 rfl (lv_at hl 3 rfl) ?_
                        refine lv_iconst (v := 1) hx hb dX12_readFrame_279 (by decide) ?_
                        refine lv_iand hx hb dX12_readFrame_280 ?_
                        have hJ_318 : ∀ (H : Heap) (locs : List Loc) (ls : Array Slot), m_Mo_readFrame_J318 h0_inSize h0_dictSize h0_freshSize h0_copiesOf h0_literalsOf h0_partsOf h0_newMany h0_rule h0_place h0_in_n h0_in_f h0_fresh_n h0_fresh_f h0_newBlocks_n h0_newBlocks_f h0_dict_n h0_dict_f v2_1 v3_3 s11 p_12 = some (o_r, o_h0_freshSize, o_h0_copiesOf, o_h0_literalsOf, o_h0_partsOf, o_h0_newMany, o_h0_rule, o_h0_place, o_h0_at, o_h0_fresh_f, o_h0_newBlocks_f) → va_P (dC, dI) vwCl [(h0, .inr (10, [.ref h0_in, .int h0_inSize, w_h0_out, w_h0_outSize, .ref h0_dict, .int h0_dictSize, .ref h0_told, .ref h0_fresh, .int h0_freshSize, w_h0_text, w_h0_lean, w_h0_size, w_h0_most, w_h0_offset, w_h0_copyAt, w_h0_copies, w_h0_copyLength, w_h0_copyOffset, w_h0_fromHere, w_h0_withCopy, w_h0_bestCopy, w_h0_bestLiterals, .int h0_copiesOf, .int h0_literalsOf, .int h0_partsOf, w_h0_blocks, w_h0_blockMany, .ref h0_newBlocks, .int h0_newMany, .int h0_rule, .int h0_place, .int p_12])), (h0_in, .inl (cI, h0_in_n, .inl h0_in_f)), (h0_told, .inl (cI, h0_told_n, .inl h0_told_f)), (h0_fresh, .inl (cI, h0_fresh_n, .inl h0_fresh_f)), (h0_newBlocks, .inl (cI, h0_newBlocks_n, .inl h0_newBlocks_f)), (h0_dict, .inl (cI, h0_dict_n, .inl h0_dict_f))] H → va_D A [(h0, .inr (10, [.ref h0_in, .int h0_inSize, w_h0_out, w_h0_outSize, .ref h0_dict, .int h0_dictSize, .ref h0_told, .ref h0_fresh, .int h0_freshSize, w_h0_text, w_h0_lean, w_h0_size, w_h0_most, w_h0_offset, w_h0_copyAt, w_h0_copies, w_h0_copyLength, w_h0_copyOffset, w_h0_fromHere, w_h0_withCopy, w_h0_bestCopy, w_h0_bestLiterals, .int h0_copiesOf, .int h0_literalsOf, .int h0_partsOf, w_h0_blocks, w_h0_blockMany, .ref h0_newBlocks, .int h0_newMany, .int h0_rule, .int h0_place, .int p_12])), (h0_in, .inl (cI, h0_in_n, .inl h0_in_f)), (h0_told, .inl (cI, h0_told_n, .inl h0_told_f)), (h0_fresh, .inl (cI, h0_fresh_n, .inl h0_fresh_f)), (h0_newBlocks, .inl (cI, h0_newBlocks_n, .inl h0_newBlocks_f)), (h0_dict, .inl (cI, h0_dict_n, .inl h0_dict_f))] → va_S A s.heap H locs → lv_has ls 11 [(0, .ref h0), (2, .int v2_1), (3, .int v3_3), (5, .long s11)] → W p l e (rm_Mo_readFrame) s m ([.ref h0] : List Value).toArray below meth c H locs 0 0 Q (F0 m 318 ls []) := by
                          intro  H locs ls hf hP hD hS hl
                          unfold m_Mo_readFrame_J318 at hf
                          refine lv_aload_n hx hb dX12_readFrame_318 rfl (lv_at hl 0 rfl) ?_
                          refine lv_dup hx hb dX12_readFrame_319 rfl ?_
                          refine va_get (D := (dC, dI)) (ci := 10) (v := .int p_12) (C := RX12) (T := TX12) (N := 32) hx hb hts inG_X12 hown hK hP 0 rfl rfl 31 (by decide) (hts _ kw_1083) (fun _ h9 => h9) rfl dX12_readFrame_320 ?_
                          refine lv_iconst (v := 1) hx hb dX12_readFrame_323 (by decide) ?_
                          refine lv_iadd hx hb dX12_readFrame_324 ?_
                          refine lv_topi (fun p_14 e_p_14 => ?_)
                          replace hf := bnd_at e_p_14 hf
                          refine va_put (D := (dC, dI)) (ci := 10) (v := .int p_14) (ty := .int) (C := RX12) (T := TX12) (N := 32) hx hb hts inG_X12 tyX12 tyX12_ok nmX12 hown hK hP hD hS 0 rfl rfl 31 (by decide) (hts _ kw_1083) (fun _ h9 => h9) rfl (by decide +kernel) rfl rfl (Nat.le_of_ble_eq_true rfl) dX12_readFrame_325 (fun H locs hP hD hS => ?_)
                          have hP : va_P (dC, dI) vwCl [(h0, .inr (10, [.ref h0_in, .int h0_inSize, w_h0_out, w_h0_outSize, .ref h0_dict, .int h0_dictSize, .ref h0_told, .ref h0_fresh, .int h0_freshSize, w_h0_text, w_h0_lean, w_h0_size, w_h0_most, w_h0_offset, w_h0_copyAt, w_h0_copies, w_h0_copyLength, w_h0_copyOffset, w_h0_fromHere, w_h0_withCopy, w_h0_bestCopy, w_h0_bestLiterals, .int h0_copiesOf, .int h0_literalsOf, .int h0_partsOf, w_h0_blocks, w_h0_blockMany, .ref h0_newBlocks, .int h0_newMany, .int h0_rule, .int h0_place, .int p_14])), (h0_in, .inl (cI, h0_in_n, .inl h0_in_f)), (h0_told, .inl (cI, h0_told_n, .inl h0_told_f)), (h0_fresh, .inl (cI, h0_fresh_n, .inl h0_fresh_f)), (h0_newBlocks, .inl (cI, h0_newBlocks_n, .inl h0_newBlocks_f)), (h0_dict, .inl (cI, h0_dict_n, .inl h0_dict_f))] H := hP
                          have hD : va_D A [(h0, .inr (10, [.ref h0_in, .int h0_inSize, w_h0_out, w_h0_outSize, .ref h0_dict, .int h0_dictSize, .ref h0_told, .ref h0_fresh, .int h0_freshSize, w_h0_text, w_h0_lean, w_h0_size, w_h0_most, w_h0_offset, w_h0_copyAt, w_h0_copies, w_h0_copyLength, w_h0_copyOffset, w_h0_fromHere, w_h0_withCopy, w_h0_bestCopy, w_h0_bestLiterals, .int h0_copiesOf, .int h0_literalsOf, .int h0_partsOf, w_h0_blocks, w_h0_blockMany, .ref h0_newBlocks, .int h0_newMany, .int h0_rule, .int h0_place, .int p_14])), (h0_in, .inl (cI, h0_in_n, .inl h0_in_f)), (h0_told, .inl (cI, h0_told_n, .inl h0_told_f)), (h0_fresh, .inl (cI, h0_fresh_n, .inl h0_fresh_f)), (h0_newBlocks, .inl (cI, h0_newBlocks_n, .inl h0_newBlocks_f)), (h0_dict, .inl (cI, h0_dict_n, .inl h0_dict_f))] := hD
                          refine lv_aload_n hx hb dX12_readFrame_328 rfl (lv_at hl 0 rfl) ?_
                          refine va_get (D := (dC, dI)) (ci := 10) (v := .int h0_freshSize) (C := RX12) (T := TX12) (N := 32) hx hb hts inG_X12 hown hK hP 0 rfl rfl 8 (by decide) (hts _ kw_1060) (fun _ h9 => h9) rfl dX12_readFrame_329 ?_
                          refine lv_istore (lv' := [(7, .int h0_freshSize), (0, .ref h0), (2, .int v2_1), (3, .int v3_3), (5, .long s11)]) hx hb dX12_readFrame_332 hl (by decide) rfl (fun ls hl => ?_)
                          have hJ_391 : ∀ (f15 : Nat → Int32) (f16 : Nat → Int32) (g17 : Int32) (g18 : Int32) (g19 : Int32) (g20 : Int32) (g21 : Int32) (g22 : Int32) (g23 : Int32) (g24 : Int32) (j8_25 : Int32) (H : Heap) (locs : List Loc) (ls : Array Slot), m_Mo_readFrame_E391 h0_inSize h0_freshSize h0_in_n h0_in_f h0_fresh_n v2_1 s11 f15 f16 g17 g18 g19 g20 g21 g22 g23 g24 j8_25 = some (o_r, o_h0_freshSize, o_h0_copiesOf, o_h0_literalsOf, o_h0_partsOf, o_h0_newMany, o_h0_rule, o_h0_place, o_h0_at, o_h0_fresh_f, o_h0_newBlocks_f) → va_P (dC, dI) vwCl [(h0, .inr (10, [.ref h0_in, .int h0_inSize, w_h0_out, w_h0_outSize, .ref h0_dict, .int h0_dictSize, .ref h0_told, .ref h0_fresh, .int g24, w_h0_text, w_h0_lean, w_h0_size, w_h0_most, w_h0_offset, w_h0_copyAt, w_h0_copies, w_h0_copyLength, w_h0_copyOffset, w_h0_fromHere, w_h0_withCopy, w_h0_bestCopy, w_h0_bestLiterals, .int g17, .int g18, .int g19, w_h0_blocks, w_h0_blockMany, .ref h0_newBlocks, .int g20, .int g21, .int g22, .int g23])), (h0_in, .inl (cI, h0_in_n, .inl h0_in_f)), (h0_told, .inl (cI, h0_told_n, .inl h0_told_f)), (h0_fresh, .inl (cI, h0_fresh_n, .inl f15)), (h0_newBlocks, .inl (cI, h0_newBlocks_n, .inl f16)), (h0_dict, .inl (cI, h0_dict_n, .inl h0_dict_f))] H → va_D A [(h0, .inr (10, [.ref h0_in, .int h0_inSize, w_h0_out, w_h0_outSize, .ref h0_dict, .int h0_dictSize, .ref h0_told, .ref h0_fresh, .int g24, w_h0_text, w_h0_lean, w_h0_size, w_h0_most, w_h0_offset, w_h0_copyAt, w_h0_copies, w_h0_copyLength, w_h0_copyOffset, w_h0_fromHere, w_h0_withCopy, w_h0_bestCopy, w_h0_bestLiterals, .int g17, .int g18, .int g19, w_h0_blocks, w_h0_blockMany, .ref h0_newBlocks, .int g20, .int g21, .int g22, .int g23])), (h0_in, .inl (cI, h0_in_n, .inl h0_in_f)), (h0_told, .inl (cI, h0_told_n, .inl h0_told_f)), (h0_fresh, .inl (cI, h0_fresh_n, .inl f15)), (h0_newBlocks, .inl (cI, h0_newBlocks_n, .inl f16)), (h0_dict, .inl (cI, h0_dict_n, .inl h0_dict_f))] → va_S A s.heap H locs → lv_has ls 11 [(0, .ref h0), (2, .int v2_1), (5, .long s11), (7, .int h0_freshSize), (8, .int j8_25)] → W p l e (rm_Mo_readFrame) s m ([.ref h0] : List Value).toArray below meth c H locs 0 0 Q (F0 m 391 ls []) := by
                            intro f15 f16 g17 g18 g19 g20 g21 g22 g23 g24 j8_25 H locs ls hf hP hD hS hl
                            unfold m_Mo_readFrame_E391 at hf
                            refine lv_iload_n hx hb dX12_readFrame_391 rfl (lv_at hl 1 rfl) ?_
                            refine lv_bipush (v := 8) hx hb dX12_readFrame_392 (by decide) ?_
                            refine lv_iand hx hb dX12_readFrame_394 ?_
                            have hJ_448 : ∀ (H : Heap) (locs : List Loc) (ls : Array Slot), m_Mo_readFrame_J448 h0_inSize h0_freshSize h0_in_n h0_in_f h0_fresh_n v2_1 f15 f16 g17 g18 g19 g20 g21 g22 g23 g24 = some (o_r, o_h0_freshSize, o_h0_copiesOf, o_h0_literalsOf, o_h0_partsOf, o_h0_newMany, o_h0_rule, o_h0_place, o_h0_at, o_h0_fresh_f, o_h0_newBlocks_f) → va_P (dC, dI) vwCl [(h0, .inr (10, [.ref h0_in, .int h0_inSize, w_h0_out, w_h0_outSize, .ref h0_dict, .int h0_dictSize, .ref h0_told, .ref h0_fresh, .int g24, w_h0_text, w_h0_lean, w_h0_size, w_h0_most, w_h0_offset, w_h0_copyAt, w_h0_copies, w_h0_copyLength, w_h0_copyOffset, w_h0_fromHere, w_h0_withCopy, w_h0_bestCopy, w_h0_bestLiterals, .int g17, .int g18, .int g19, w_h0_blocks, w_h0_blockMany, .ref h0_newBlocks, .int g20, .int g21, .int g22, .int g23])), (h0_in, .inl (cI, h0_in_n, .inl h0_in_f)), (h0_told, .inl (cI, h0_told_n, .inl h0_told_f)), (h0_fresh, .inl (cI, h0_fresh_n, .inl f15)), (h0_newBlocks, .inl (cI, h0_newBlocks_n, .inl f16)), (h0_dict, .inl (cI, h0_dict_n, .inl h0_dict_f))] H → va_D A [(h0, .inr (10, [.ref h0_in, .int h0_inSize, w_h0_out, w_h0_outSize, .ref h0_dict, .int h0_dictSize, .ref h0_told, .ref h0_fresh, .int g24, w_h0_text, w_h0_lean, w_h0_size, w_h0_most, w_h0_offset, w_h0_copyAt, w_h0_copies, w_h0_copyLength, w_h0_copyOffset, w_h0_fromHere, w_h0_withCopy, w_h0_bestCopy, w_h0_bestLiterals, .int g17, .int g18, .int g19, w_h0_blocks, w_h0_blockMany, .ref h0_newBlocks, .int g20, .int g21, .int g22, .int g23])), (h0_in, .inl (cI, h0_in_n, .inl h0_in_f)), (h0_told, .inl (cI, h0_told_n, .inl h0_told_f)), (h0_fresh, .inl (cI, h0_fresh_n, .inl f15)), (h0_newBlocks, .inl (cI, h0_newBlocks_n, .inl f16)), (h0_dict, .inl (cI, h0_dict_n, .inl h0_dict_f))] → va_S A s.heap H locs → lv_has ls 11 [(0, .ref h0), (2, .int v2_1), (7, .int h0_freshSize)] → W p l e (rm_Mo_readFrame) s m ([.ref h0] : List Value).toArray below meth c H locs 0 0 Q (F0 m 448 ls []) := by
                              intro  H locs ls hf hP hD hS hl
                              unfold m_Mo_readFrame_J448 at hf
                              refine lv_iload_n hx hb dX12_readFrame_448 rfl (lv_at hl 1 rfl) ?_
                              refine lv_iconst (v := 4) hx hb dX12_readFrame_449 (by decide) ?_
                              refine lv_iand hx hb dX12_readFrame_450 ?_
                              refine lv_if_eq (tgt := 527) hx hb dX12_readFrame_451 (by decide) (fun c_451 => ?_) (fun c_451 => ?_)
                              · replace hf := if_t c_451 hf
                                refine lv_iconst (v := 1) hx hb dX12_readFrame_527 (by decide) ?_
                                have hzb : narrow .boolean (.int (1 : Int32)) = .int (1 : Int32) := rfl
                                obtain ⟨rfl, hq_1⟩ := Prod.mk.inj (Option.some.inj hf)
                                obtain ⟨rfl, hq_2⟩ := Prod.mk.inj hq_1
                                obtain ⟨rfl, hq_3⟩ := Prod.mk.inj hq_2
                                obtain ⟨rfl, hq_4⟩ := Prod.mk.inj hq_3
                                obtain ⟨rfl, hq_5⟩ := Prod.mk.inj hq_4
                                obtain ⟨rfl, hq_6⟩ := Prod.mk.inj hq_5
                                obtain ⟨rfl, hq_7⟩ := Prod.mk.inj hq_6
                                obtain ⟨rfl, hq_8⟩ := Prod.mk.inj hq_7
                                obtain ⟨rfl, hq_9⟩ := Prod.mk.inj hq_8
                                obtain ⟨rfl, hq_10⟩ := Prod.mk.inj hq_9
                                obtain rfl := hq_10
                                exact rt_z hQ hx hb hr hzb hlocks hP hD hS dX12_readFrame_528
                              · replace hf := if_f c_451 hf
                                refine lv_aload_n hx hb dX12_readFrame_454 rfl (lv_at hl 0 rfl) ?_
                                refine va_get (D := (dC, dI)) (ci := 10) (v := .int h0_inSize) (C := RX12) (T := TX12) (N := 32) hx hb hts inG_X12 hown hK hP 0 rfl rfl 1 (by decide) (hts _ kw_1053) (fun _ h9 => h9) rfl dX12_readFrame_455 ?_
                                refine lv_aload_n hx hb dX12_readFrame_458 rfl (lv_at hl 0 rfl) ?_
                                refine va_get (D := (dC, dI)) (ci := 10) (v := .int g23) (C := RX12) (T := TX12) (N := 32) hx hb hts inG_X12 hown hK hP 0 rfl rfl 31 (by decide) (hts _ kw_1083) (fun _ h9 => h9) rfl dX12_readFrame_459 ?_
                                refine lv_isub hx hb dX12_readFrame_462 ?_
                                refine lv_iconst (v := 4) hx hb dX12_readFrame_463 (by decide) ?_
                                refine lv_icmp_ge (tgt := 477) hx hb dX12_readFrame_464 (by decide) (fun c_464 => ?_) (fun c_464 => ?_)
                                · replace hf := if_t c_464 hf
                                  refine lv_aload_n hx hb dX12_readFrame_477 rfl (lv_at hl 0 rfl) ?_
                                  refine lv_aload_n hx hb dX12_readFrame_478 rfl (lv_at hl 0 rfl) ?_
                                  refine va_get (D := (dC, dI)) (ci := 10) (v := .int g23) (C := RX12) (T := TX12) (N := 32) hx hb hts inG_X12 hown hK hP 0 rfl rfl 31 (by decide) (hts _ kw_1083) (fun _ h9 => h9) rfl dX12_readFrame_479 ?_
                                  refine lv_iconst (v := 4) hx hb dX12_readFrame_482 (by decide) ?_
                                  obtain ⟨r26, hc, hf⟩ := bind_some hf
                                  refine nx_l (rn_V (As := [.int g23, .int (4 : Int32)]) (rest := []) (n := 2) (ci := 10) (q0 := 0) ⟨hx, hb, hml, hown, hts⟩ (c_Mo_number (l := l) (dC := dC) (dI := dI) (cB := cB) (cI := cI) (h0 := h0) (a1 := g23) (a2 := (4 : Int32)) (h0_in := h0_in) (w_h0_inSize := (.int h0_inSize)) (w_h0_out := (w_h0_out)) (w_h0_outSize := (w_h0_outSize)) (w_h0_dict := (.ref h0_dict)) (w_h0_dictSize := (.int h0_dictSize)) (w_h0_told := (.ref h0_told)) (w_h0_fresh := (.ref h0_fresh)) (w_h0_freshSize := (.int g24)) (w_h0_text := (w_h0_text)) (w_h0_lean := (w_h0_lean)) (w_h0_size := (w_h0_size)) (w_h0_most := (w_h0_most)) (w_h0_offset := (w_h0_offset)) (w_h0_copyAt := (w_h0_copyAt)) (w_h0_copies := (w_h0_copies)) (w_h0_copyLength := (w_h0_copyLength)) (w_h0_copyOffset := (w_h0_copyOffset)) (w_h0_fromHere := (w_h0_fromHere)) (w_h0_withCopy := (w_h0_withCopy)) (w_h0_bestCopy := (w_h0_bestCopy)) (w_h0_bestLiterals := (w_h0_bestLiterals)) (w_h0_copiesOf := (.int g17)) (w_h0_literalsOf := (.int g18)) (w_h0_partsOf := (.int g19)) (w_h0_blocks := (w_h0_blocks)) (w_h0_blockMany := (w_h0_blockMany)) (w_h0_newBlocks := (.ref h0_newBlocks)) (w_h0_newMany := (.int g20)) (w_h0_rule := (.int g21)) (w_h0_place := (.int g22)) (w_h0_at := (.int g23)) (h0_in_n := h0_in_n) (h0_in_f := h0_in_f)  (o_r := r26) hc) (wV kw_1357 kw_1359 kw_73 kw_94 kw_1360) (by decide +kernel) ⟨Nat.le_of_ble_eq_true rfl, Nat.le_of_ble_eq_true rfl⟩ hK hP hD hN hT hS (va_free (wc := [(h0, .inr (10, [.ref h0_in, .int h0_inSize, w_h0_out, w_h0_outSize, .ref h0_dict, .int h0_dictSize, .ref h0_told, .ref h0_fresh, .int g24, w_h0_text, w_h0_lean, w_h0_size, w_h0_most, w_h0_offset, w_h0_copyAt, w_h0_copies, w_h0_copyLength, w_h0_copyOffset, w_h0_fromHere, w_h0_withCopy, w_h0_bestCopy, w_h0_bestLiterals, .int g17, .int g18, .int g19, w_h0_blocks, w_h0_blockMany, .ref h0_newBlocks, .int g20, .int g21, .int g22, .int g23])), (h0_in, .inl (cI, h0_in_n, .inl h0_in_f))]) hD hS hA [0, 1] rfl) [0, 1] rfl (by decide) rfl rfl rfl hl.1 rfl (lv_room (Nat.le_of_ble_eq_true rfl)) dX12_readFrame_483 ⟨Nat.le_of_ble_eq_true rfl, Nat.le_of_ble_eq_true rfl⟩) hP hD hS hA (wr := [(h0_told, .inl (cI, h0_told_n, .inl h0_told_f)), (h0_fresh, .inl (cI, h0_fresh_n, .inl f15)), (h0_newBlocks, .inl (cI, h0_newBlocks_n, .inl f16)), (h0_dict, .inl (cI, h0_dict_n, .inl h0_dict_f))]) (w1 := [(h0, .inr (10, [.ref h0_in, .int h0_inSize, w_h0_out, w_h0_outSize, .ref h0_dict, .int h0_dictSize, .ref h0_told, .ref h0_fresh, .int g24, w_h0_text, w_h0_lean, w_h0_size, w_h0_most, w_h0_offset, w_h0_copyAt, w_h0_copies, w_h0_copyLength, w_h0_copyOffset, w_h0_fromHere, w_h0_withCopy, w_h0_bestCopy, w_h0_bestLiterals, .int g17, .int g18, .int g19, w_h0_blocks, w_h0_blockMany, .ref h0_newBlocks, .int g20, .int g21, .int g22, .int g23])), (h0_in, .inl (cI, h0_in_n, .inl h0_in_f))]) (ws' := [(h0, .inr (10, [.ref h0_in, .int h0_inSize, w_h0_out, w_h0_outSize, .ref h0_dict, .int h0_dictSize, .ref h0_told, .ref h0_fresh, .int g24, w_h0_text, w_h0_lean, w_h0_size, w_h0_most, w_h0_offset, w_h0_copyAt, w_h0_copies, w_h0_copyLength, w_h0_copyOffset, w_h0_fromHere, w_h0_withCopy, w_h0_bestCopy, w_h0_bestLiterals, .int g17, .int g18, .int g19, w_h0_blocks, w_h0_blockMany, .ref h0_newBlocks, .int g20, .int g21, .int g22, .int g23])), (h0_in, .inl (cI, h0_in_n, .inl h0_in_f)), (h0_told, .inl (cI, h0_told_n, .inl h0_told_f)), (h0_fresh, .inl (cI, h0_fresh_n, .inl f15)), (h0_newBlocks, .inl (cI, h0_newBlocks_n, .inl f16)), (h0_dict, .inl (cI, h0_dict_n, .inl h0_dict_f))]) [0, 1] [2, 3, 4, 5] [4, 5, 0, 1, 2, 3] rfl rfl (by decide) (by decide) rfl (by decide) (fun H locs hP hD hS => ?_)
                                  refine lv_l2i (v := (r26.toInt32)) hx hb dX12_readFrame_486 rfl ?_
                                  refine lv_aload_n hx hb dX12_readFrame_487 rfl (lv_at hl 0 rfl) ?_
                                  refine va_get (D := (dC, dI)) (ci := 10) (v := .ref h0_fresh) (C := RX12) (T := TX12) (N := 32) hx hb hts inG_X12 hown hK hP 0 rfl rfl 7 (by decide) (hts _ kw_1059) (fun _ h9 => h9) rfl dX12_readFrame_488 ?_
                                  refine lv_iload hx hb dX12_readFrame_491 (lv_at hl 2 rfl) ?_
                                  refine lv_aload_n hx hb dX12_readFrame_493 rfl (lv_at hl 0 rfl) ?_
                                  refine va_get (D := (dC, dI)) (ci := 10) (v := .int g24) (C := RX12) (T := TX12) (N := 32) hx hb hts inG_X12 hown hK hP 0 rfl rfl 8 (by decide) (hts _ kw_1060) (fun _ h9 => h9) rfl dX12_readFrame_494 ?_
                                  refine lv_iload hx hb dX12_readFrame_497 (lv_at hl 2 rfl) ?_
                                  refine lv_isub hx hb dX12_readFrame_499 ?_
                                  obtain ⟨r27, hc, hf⟩ := bind_some hf
                                  refine nx_i (rn_S (As := [.ref h0_fresh, .int h0_freshSize, .int (g24 - h0_freshSize)]) (rest := [.int (r26.toInt32)]) (n := 3) ⟨hx, hb, hml, hown, hts⟩ (c_Mo_sumOf (l := l) (dC := dC) (dI := dI) (cB := cB) (cI := cI) (h0 := h0_fresh) (a1 := h0_freshSize) (a2 := (g24 - h0_freshSize)) (h0_n := h0_fresh_n) (h0_f := f15)  (o_r := r27) hc) (wS kw_1209 kw_1210 kw_94 kw_1211) (by decide +kernel) ⟨Nat.le_of_ble_eq_true rfl, Nat.le_of_ble_eq_true rfl⟩ hK hP hD hN hT hS (va_free (wc := [(h0_fresh, .inl (cI, h0_fresh_n, .inl f15))]) hD hS hA [3] rfl) [3] rfl (by decide) rfl hl.1 rfl (lv_room (Nat.le_of_ble_eq_true rfl)) dX12_readFrame_500 ⟨Nat.le_of_ble_eq_true rfl, Nat.le_of_ble_eq_true rfl⟩) hP hD hS hA (wr := [(h0, .inr (10, [.ref h0_in, .int h0_inSize, w_h0_out, w_h0_outSize, .ref h0_dict, .int h0_dictSize, .ref h0_told, .ref h0_fresh, .int g24, w_h0_text, w_h0_lean, w_h0_size, w_h0_most, w_h0_offset, w_h0_copyAt, w_h0_copies, w_h0_copyLength, w_h0_copyOffset, w_h0_fromHere, w_h0_withCopy, w_h0_bestCopy, w_h0_bestLiterals, .int g17, .int g18, .int g19, w_h0_blocks, w_h0_blockMany, .ref h0_newBlocks, .int g20, .int g21, .int g22, .int g23])), (h0_in, .inl (cI, h0_in_n, .inl h0_in_f)), (h0_told, .inl (cI, h0_told_n, .inl h0_told_f)), (h0_newBlocks, .inl (cI, h0_newBlocks_n, .inl f16)), (h0_dict, .inl (cI, h0_dict_n, .inl h0_dict_f))]) (w1 := [(h0_fresh, .inl (cI, h0_fresh_n, .inl f15))]) (ws' := [(h0, .inr (10, [.ref h0_in, .int h0_inSize, w_h0_out, w_h0_outSize, .ref h0_dict, .int h0_dictSize, .ref h0_told, .ref h0_fresh, .int g24, w_h0_text, w_h0_lean, w_h0_size, w_h0_most, w_h0_offset, w_h0_copyAt, w_h0_copies, w_h0_copyLength, w_h0_copyOffset, w_h0_fromHere, w_h0_withCopy, w_h0_bestCopy, w_h0_bestLiterals, .int g17, .int g18, .int g19, w_h0_blocks, w_h0_blockMany, .ref h0_newBlocks, .int g20, .int g21, .int g22, .int g23])), (h0_in, .inl (cI, h0_in_n, .inl h0_in_f)), (h0_told, .inl (cI, h0_told_n, .inl h0_told_f)), (h0_fresh, .inl (cI, h0_fresh_n, .inl f15)), (h0_newBlocks, .inl (cI, h0_newBlocks_n, .inl f16)), (h0_dict, .inl (cI, h0_dict_n, .inl h0_dict_f))]) [3] [0, 1, 2, 4, 5] [0, 1, 2, 5, 3, 4] rfl rfl (by decide) (by decide) rfl (by decide) (fun H locs hP hD hS => ?_)
                                  refine lv_icmp_eq (tgt := 517) hx hb dX12_readFrame_503 (by decide) (fun c_503 => ?_) (fun c_503 => ?_)
                                  · replace hf := if_t c_503 hf
                                    refine lv_aload_n hx hb dX12_readFrame_517 rfl (lv_at hl 0 rfl) ?_
                                    refine lv_dup hx hb dX12_readFrame_518 rfl ?_
                                    refine va_get (D := (dC, dI)) (ci := 10) (v := .int g23) (C := RX12) (T := TX12) (N := 32) hx hb hts inG_X12 hown hK hP 0 rfl rfl 31 (by decide) (hts _ kw_1083) (fun _ h9 => h9) rfl dX12_readFrame_519 ?_
                                    refine lv_iconst (v := 4) hx hb dX12_readFrame_522 (by decide) ?_
                                    refine lv_iadd hx hb dX12_readFrame_523 ?_
                                    refine lv_topi (fun p_28 e_p_28 => ?_)
                                    replace hf := bnd_at e_p_28 hf
                                    refine va_put (D := (dC, dI)) (ci := 10) (v := .int p_28) (ty := .int) (C := RX12) (T := TX12) (N := 32) hx hb hts inG_X12 tyX12 tyX12_ok nmX12 hown hK hP hD hS 0 rfl rfl 31 (by decide) (hts _ kw_1083) (fun _ h9 => h9) rfl (by decide +kernel) rfl rfl (Nat.le_of_ble_eq_true rfl) dX12_readFrame_524 (fun H locs hP hD hS => ?_)
                                    have hP : va_P (dC, dI) vwCl [(h0, .inr (10, [.ref h0_in, .int h0_inSize, w_h0_out, w_h0_outSize, .ref h0_dict, .int h0_dictSize, .ref h0_told, .ref h0_fresh, .int g24, w_h0_text, w_h0_lean, w_h0_size, w_h0_most, w_h0_offset, w_h0_copyAt, w_h0_copies, w_h0_copyLength, w_h0_copyOffset, w_h0_fromHere, w_h0_withCopy, w_h0_bestCopy, w_h0_bestLiterals, .int g17, .int g18, .int g19, w_h0_blocks, w_h0_blockMany, .ref h0_newBlocks, .int g20, .int g21, .int g22, .int p_28])), (h0_in, .inl (cI, h0_in_n, .inl h0_in_f)), (h0_told, .inl (cI, h0_told_n, .inl h0_told_f)), (h0_fresh, .inl (cI, h0_fresh_n, .inl f15)), (h0_newBlocks, .inl (cI, h0_newBlocks_n, .inl f16)), (h0_dict, .inl (cI, h0_dict_n, .inl h0_dict_f))] H := hP
                                    have hD : va_D A [(h0, .inr (10, [.ref h0_in, .int h0_inSize, w_h0_out, w_h0_outSize, .ref h0_dict, .int h0_dictSize, .ref h0_told, .ref h0_fresh, .int g24, w_h0_text, w_h0_lean, w_h0_size, w_h0_most, w_h0_offset, w_h0_copyAt, w_h0_copies, w_h0_copyLength, w_h0_copyOffset, w_h0_fromHere, w_h0_withCopy, w_h0_bestCopy, w_h0_bestLiterals, .int g17, .int g18, .int g19, w_h0_blocks, w_h0_blockMany, .ref h0_newBlocks, .int g20, .int g21, .int g22, .int p_28])), (h0_in, .inl (cI, h0_in_n, .inl h0_in_f)), (h0_told, .inl (cI, h0_told_n, .inl h0_told_f)), (h0_fresh, .inl (cI, h0_fresh_n, .inl f15)), (h0_newBlocks, .inl (cI, h0_newBlocks_n, .inl f16)), (h0_dict, .inl (cI, h0_dict_n, .inl h0_dict_f))] := hD
                                    refine lv_iconst (v := 1) hx hb dX12_readFrame_527 (by decide) ?_
                                    have hzb : narrow .boolean (.int (1 : Int32)) = .int (1 : Int32) := rfl
                                    obtain ⟨rfl, hq_1⟩ := Prod.mk.inj (Option.some.inj hf)
                                    obtain ⟨rfl, hq_2⟩ := Prod.mk.inj hq_1
                                    obtain ⟨rfl, hq_3⟩ := Prod.mk.inj hq_2
                                    obtain ⟨rfl, hq_4⟩ := Prod.mk.inj hq_3
                                    obtain ⟨rfl, hq_5⟩ := Prod.mk.inj hq_4
                                    obtain ⟨rfl, hq_6⟩ := Prod.mk.inj hq_5
                                    obtain ⟨rfl, hq_7⟩ := Prod.mk.inj hq_6
                                    obtain ⟨rfl, hq_8⟩ := Prod.mk.inj hq_7
                                    obtain ⟨rfl, hq_9⟩ := Prod.mk.inj hq_8
                                    obtain ⟨rfl, hq_10⟩ := Prod.mk.inj hq_9
                                    obtain rfl := hq_10
                                    exact rt_z hQ hx hb hr hzb hlocks hP hD hS dX12_readFrame_528
                                  · replace hf := if_f c_503 hf
                                    refine lv_aload_n hx hb dX12_readFrame_506 rfl (lv_at hl 0 rfl) ?_
                                    refine lv_bipush (v := 10) hx hb dX12_readFrame_507 (by decide) ?_
                                    refine lv_aload_n hx hb dX12_readFrame_509 rfl (lv_at hl 0 rfl) ?_
                                    refine va_get (D := (dC, dI)) (ci := 10) (v := .int g23) (C := RX12) (T := TX12) (N := 32) hx hb hts inG_X12 hown hK hP 0 rfl rfl 31 (by decide) (hts _ kw_1083) (fun _ h9 => h9) rfl dX12_readFrame_510 ?_
                                    obtain ⟨x, hc, hf⟩ := bind_some hf
                                    obtain ⟨r29, u30, u31⟩ := x
                                    dsimp only at hf
                                    refine nx_i (rn_V (As := [.int (10 : Int32), .int g23]) (rest := []) (n := 2) (ci := 10) (q0 := 0) ⟨hx, hb, hml, hown, hts⟩ (c_Mo_no (l := l) (dC := dC) (dI := dI) (cB := cB) (cI := cI) (h0 := h0) (a1 := (10 : Int32)) (a2 := g23) (w_h0_in := (.ref h0_in)) (w_h0_inSize := (.int h0_inSize)) (w_h0_out := (w_h0_out)) (w_h0_outSize := (w_h0_outSize)) (w_h0_dict := (.ref h0_dict)) (w_h0_dictSize := (.int h0_dictSize)) (w_h0_told := (.ref h0_told)) (w_h0_fresh := (.ref h0_fresh)) (w_h0_freshSize := (.int g24)) (w_h0_text := (w_h0_text)) (w_h0_lean := (w_h0_lean)) (w_h0_size := (w_h0_size)) (w_h0_most := (w_h0_most)) (w_h0_offset := (w_h0_offset)) (w_h0_copyAt := (w_h0_copyAt)) (w_h0_copies := (w_h0_copies)) (w_h0_copyLength := (w_h0_copyLength)) (w_h0_copyOffset := (w_h0_copyOffset)) (w_h0_fromHere := (w_h0_fromHere)) (w_h0_withCopy := (w_h0_withCopy)) (w_h0_bestCopy := (w_h0_bestCopy)) (w_h0_bestLiterals := (w_h0_bestLiterals)) (w_h0_copiesOf := (.int g17)) (w_h0_literalsOf := (.int g18)) (w_h0_partsOf := (.int g19)) (w_h0_blocks := (w_h0_blocks)) (w_h0_blockMany := (w_h0_blockMany)) (w_h0_newBlocks := (.ref h0_newBlocks)) (w_h0_newMany := (.int g20)) (h0_rule := g21) (h0_place := g22) (w_h0_at := (.int g23)) (o_h0_rule := u30) (o_h0_place := u31) (o_r := r29) hc) (wV kw_1353 kw_1355 kw_72 kw_94 kw_1356) (by decide +kernel) ⟨Nat.le_of_ble_eq_true rfl, Nat.le_of_ble_eq_true rfl⟩ hK hP hD hN hT hS (va_free (wc := [(h0, .inr (10, [.ref h0_in, .int h0_inSize, w_h0_out, w_h0_outSize, .ref h0_dict, .int h0_dictSize, .ref h0_told, .ref h0_fresh, .int g24, w_h0_text, w_h0_lean, w_h0_size, w_h0_most, w_h0_offset, w_h0_copyAt, w_h0_copies, w_h0_copyLength, w_h0_copyOffset, w_h0_fromHere, w_h0_withCopy, w_h0_bestCopy, w_h0_bestLiterals, .int g17, .int g18, .int g19, w_h0_blocks, w_h0_blockMany, .ref h0_newBlocks, .int g20, .int g21, .int g22, .int g23]))]) hD hS hA [0] rfl) [0] rfl (by decide) rfl rfl rfl hl.1 rfl (lv_room (Nat.le_of_ble_eq_true rfl)) dX12_readFrame_513 ⟨Nat.le_of_ble_eq_true rfl, Nat.le_of_ble_eq_true rfl⟩) hP hD hS hA (wr := [(h0_in, .inl (cI, h0_in_n, .inl h0_in_f)), (h0_told, .inl (cI, h0_told_n, .inl h0_told_f)), (h0_fresh, .inl (cI, h0_fresh_n, .inl f15)), (h0_newBlocks, .inl (cI, h0_newBlocks_n, .inl f16)), (h0_dict, .inl (cI, h0_dict_n, .inl h0_dict_f))]) (w1 := [(h0, .inr (10, [.ref h0_in, .int h0_inSize, w_h0_out, w_h0_outSize, .ref h0_dict, .int h0_dictSize, .ref h0_told, .ref h0_fresh, .int g24, w_h0_text, w_h0_lean, w_h0_size, w_h0_most, w_h0_offset, w_h0_copyAt, w_h0_copies, w_h0_copyLength, w_h0_copyOffset, w_h0_fromHere, w_h0_withCopy, w_h0_bestCopy, w_h0_bestLiterals, .int g17, .int g18, .int g19, w_h0_blocks, w_h0_blockMany, .ref h0_newBlocks, .int g20, .int u30, .int u31, .int g23]))]) (ws' := [(h0, .inr (10, [.ref h0_in, .int h0_inSize, w_h0_out, w_h0_outSize, .ref h0_dict, .int h0_dictSize, .ref h0_told, .ref h0_fresh, .int g24, w_h0_text, w_h0_lean, w_h0_size, w_h0_most, w_h0_offset, w_h0_copyAt, w_h0_copies, w_h0_copyLength, w_h0_copyOffset, w_h0_fromHere, w_h0_withCopy, w_h0_bestCopy, w_h0_bestLiterals, .int g17, .int g18, .int g19, w_h0_blocks, w_h0_blockMany, .ref h0_newBlocks, .int g20, .int u30, .int u31, .int g23])), (h0_in, .inl (cI, h0_in_n, .inl h0_in_f)), (h0_told, .inl (cI, h0_told_n, .inl h0_told_f)), (h0_fresh, .inl (cI, h0_fresh_n, .inl f15)), (h0_newBlocks, .inl (cI, h0_newBlocks_n, .inl f16)), (h0_dict, .inl (cI, h0_dict_n, .inl h0_dict_f))]) [0] [1, 2, 3, 4, 5] [5, 0, 1, 2, 3, 4] rfl rfl (by decide) (by decide) rfl (by decide) (fun H locs hP hD hS => ?_)
                                    obtain ⟨hzb, hf⟩ := bch_some hf
                                    obtain ⟨rfl, hq_1⟩ := Prod.mk.inj (Option.some.inj hf)
                                    obtain ⟨rfl, hq_2⟩ := Prod.mk.inj hq_1
                                    obtain ⟨rfl, hq_3⟩ := Prod.mk.inj hq_2
                                    obtain ⟨rfl, hq_4⟩ := Prod.mk.inj hq_3
                                    obtain ⟨rfl, hq_5⟩ := Prod.mk.inj hq_4
                                    obtain ⟨rfl, hq_6⟩ := Prod.mk.inj hq_5
                                    obtain ⟨rfl, hq_7⟩ := Prod.mk.inj hq_6
                                    obtain ⟨rfl, hq_8⟩ := Prod.mk.inj hq_7
                                    obtain ⟨rfl, hq_9⟩ := Prod.mk.inj hq_8
                                    obtain ⟨rfl, hq_10⟩ := Prod.mk.inj hq_9
                                    obtain rfl := hq_10
                                    exact rt_z hQ hx hb hr hzb hlocks hP hD hS dX12_readFrame_516
                                · replace hf := if_f c_464 hf
                                  refine lv_aload_n hx hb dX12_readFrame_467 rfl (lv_at hl 0 rfl) ?_
                                  refine lv_iconst (v := 1) hx hb dX12_readFrame_468 (by decide) ?_
                                  refine lv_aload_n hx hb dX12_readFrame_469 rfl (lv_at hl 0 rfl) ?_
                                  refine va_get (D := (dC, dI)) (ci := 10) (v := .int h0_inSize) (C := RX12) (T := TX12) (N := 32) hx hb hts inG_X12 hown hK hP 0 rfl rfl 1 (by decide) (hts _ kw_1053) (fun _ h9 => h9) rfl dX12_readFrame_470 ?_
                                  obtain ⟨x, hc, hf⟩ := bind_some hf
                                  obtain ⟨r32, u33, u34⟩ := x
                                  dsimp only at hf
                                  refine nx_i (rn_V (As := [.int (1 : Int32), .int h0_inSize]) (rest := []) (n := 2) (ci := 10) (q0 := 0) ⟨hx, hb, hml, hown, hts⟩ (c_Mo_no (l := l) (dC := dC) (dI := dI) (cB := cB) (cI := cI) (h0 := h0) (a1 := (1 : Int32)) (a2 := h0_inSize) (w_h0_in := (.ref h0_in)) (w_h0_inSize := (.int h0_inSize)) (w_h0_out := (w_h0_out)) (w_h0_outSize := (w_h0_outSize)) (w_h0_dict := (.ref h0_dict)) (w_h0_dictSize := (.int h0_dictSize)) (w_h0_told := (.ref h0_told)) (w_h0_fresh := (.ref h0_fresh)) (w_h0_freshSize := (.int g24)) (w_h0_text := (w_h0_text)) (w_h0_lean := (w_h0_lean)) (w_h0_size := (w_h0_size)) (w_h0_most := (w_h0_most)) (w_h0_offset := (w_h0_offset)) (w_h0_copyAt := (w_h0_copyAt)) (w_h0_copies := (w_h0_copies)) (w_h0_copyLength := (w_h0_copyLength)) (w_h0_copyOffset := (w_h0_copyOffset)) (w_h0_fromHere := (w_h0_fromHere)) (w_h0_withCopy := (w_h0_withCopy)) (w_h0_bestCopy := (w_h0_bestCopy)) (w_h0_bestLiterals := (w_h0_bestLiterals)) (w_h0_copiesOf := (.int g17)) (w_h0_literalsOf := (.int g18)) (w_h0_partsOf := (.int g19)) (w_h0_blocks := (w_h0_blocks)) (w_h0_blockMany := (w_h0_blockMany)) (w_h0_newBlocks := (.ref h0_newBlocks)) (w_h0_newMany := (.int g20)) (h0_rule := g21) (h0_place := g22) (w_h0_at := (.int g23)) (o_h0_rule := u33) (o_h0_place := u34) (o_r := r32) hc) (wV kw_1353 kw_1355 kw_72 kw_94 kw_1356) (by decide +kernel) ⟨Nat.le_of_ble_eq_true rfl, Nat.le_of_ble_eq_true rfl⟩ hK hP hD hN hT hS (va_free (wc := [(h0, .inr (10, [.ref h0_in, .int h0_inSize, w_h0_out, w_h0_outSize, .ref h0_dict, .int h0_dictSize, .ref h0_told, .ref h0_fresh, .int g24, w_h0_text, w_h0_lean, w_h0_size, w_h0_most, w_h0_offset, w_h0_copyAt, w_h0_copies, w_h0_copyLength, w_h0_copyOffset, w_h0_fromHere, w_h0_withCopy, w_h0_bestCopy, w_h0_bestLiterals, .int g17, .int g18, .int g19, w_h0_blocks, w_h0_blockMany, .ref h0_newBlocks, .int g20, .int g21, .int g22, .int g23]))]) hD hS hA [0] rfl) [0] rfl (by decide) rfl rfl rfl hl.1 rfl (lv_room (Nat.le_of_ble_eq_true rfl)) dX12_readFrame_473 ⟨Nat.le_of_ble_eq_true rfl, Nat.le_of_ble_eq_true rfl⟩) hP hD hS hA (wr := [(h0_in, .inl (cI, h0_in_n, .inl h0_in_f)), (h0_told, .inl (cI, h0_told_n, .inl h0_told_f)), (h0_fresh, .inl (cI, h0_fresh_n, .inl f15)), (h0_newBlocks, .inl (cI, h0_newBlocks_n, .inl f16)), (h0_dict, .inl (cI, h0_dict_n, .inl h0_dict_f))]) (w1 := [(h0, .inr (10, [.ref h0_in, .int h0_inSize, w_h0_out, w_h0_outSize, .ref h0_dict, .int h0_dictSize, .ref h0_told, .ref h0_fresh, .int g24, w_h0_text, w_h0_lean, w_h0_size, w_h0_most, w_h0_offset, w_h0_copyAt, w_h0_copies, w_h0_copyLength, w_h0_copyOffset, w_h0_fromHere, w_h0_withCopy, w_h0_bestCopy, w_h0_bestLiterals, .int g17, .int g18, .int g19, w_h0_blocks, w_h0_blockMany, .ref h0_newBlocks, .int g20, .int u33, .int u34, .int g23]))]) (ws' := [(h0, .inr (10, [.ref h0_in, .int h0_inSize, w_h0_out, w_h0_outSize, .ref h0_dict, .int h0_dictSize, .ref h0_told, .ref h0_fresh, .int g24, w_h0_text, w_h0_lean, w_h0_size, w_h0_most, w_h0_offset, w_h0_copyAt, w_h0_copies, w_h0_copyLength, w_h0_copyOffset, w_h0_fromHere, w_h0_withCopy, w_h0_bestCopy, w_h0_bestLiterals, .int g17, .int g18, .int g19, w_h0_blocks, w_h0_blockMany, .ref h0_newBlocks, .int g20, .int u33, .int u34, .int g23])), (h0_in, .inl (cI, h0_in_n, .inl h0_in_f)), (h0_told, .inl (cI, h0_told_n, .inl h0_told_f)), (h0_fresh, .inl (cI, h0_fresh_n, .inl f15)), (h0_newBlocks, .inl (cI, h0_newBlocks_n, .inl f16)), (h0_dict, .inl (cI, h0_dict_n, .inl h0_dict_f))]) [0] [1, 2, 3, 4, 5] [5, 0, 1, 2, 3, 4] rfl rfl (by decide) (by decide) rfl (by decide) (fun H locs hP hD hS => ?_)
                                  obtain ⟨hzb, hf⟩ := bch_some hf
                                  obtain ⟨rfl, hq_1⟩ := Prod.mk.inj (Option.some.inj hf)
                                  obtain ⟨rfl, hq_2⟩ := Prod.mk.inj hq_1
                                  obtain ⟨rfl, hq_3⟩ := Prod.mk.inj hq_2
                                  obtain ⟨rfl, hq_4⟩ := Prod.mk.inj hq_3
                                  obtain ⟨rfl, hq_5⟩ := Prod.mk.inj hq_4
                                  obtain ⟨rfl, hq_6⟩ := Prod.mk.inj hq_5
                                  obtain ⟨rfl, hq_7⟩ := Prod.mk.inj hq_6
                                  obtain ⟨rfl, hq_8⟩ := Prod.mk.inj hq_7
                                  obtain ⟨rfl, hq_9⟩ := Prod.mk.inj hq_8
                                  obtain ⟨rfl, hq_10⟩ := Prod.mk.inj hq_9
                                  obtain rfl := hq_10
                                  exact rt_z hQ hx hb hr hzb hlocks hP hD hS dX12_readFrame_476
                            refine lv_if_eq (tgt := 448) hx hb dX12_readFrame_395 (by decide) (fun c_395 => ?_) (fun c_395 => ?_)
                            · replace hf := if_t c_395 hf
                              exact hJ_448  _ _ _ hf hP hD hS (lv_sub hl [0, 1, 3] rfl)
                            · replace hf := if_f c_395 hf
                              refine lv_lload hx hb dX12_readFrame_398 (lv_at hl 2 rfl) ?_
                              refine lv_aload_n hx hb dX12_readFrame_400 rfl (lv_at hl 0 rfl) ?_
                              refine va_get (D := (dC, dI)) (ci := 10) (v := .int g24) (C := RX12) (T := TX12) (N := 32) hx hb hts inG_X12 hown hK hP 0 rfl rfl 8 (by decide) (hts _ kw_1060) (fun _ h9 => h9) rfl dX12_readFrame_401 ?_
                              refine lv_iload hx hb dX12_readFrame_404 (lv_at hl 3 rfl) ?_
                              refine lv_isub hx hb dX12_readFrame_406 ?_
                              refine lv_i2l (v := ((g24 - h0_freshSize).toInt64)) hx hb dX12_readFrame_407 rfl ?_
                              refine W.lcmp hx hb dX12_readFrame_408 ?_
                              refine lv_if_eq (tgt := 448) hx hb dX12_readFrame_409 (by decide) (fun c_409 => ?_) (fun c_409 => ?_)
                              · replace hf := if_t c_409 hf
                                exact hJ_448  _ _ _ hf hP hD hS (lv_sub hl [0, 1, 3] rfl)
                              · replace hf := if_f c_409 hf
                                refine lv_aload_n hx hb dX12_readFrame_412 rfl (lv_at hl 0 rfl) ?_
                                refine lv_bipush (v := 9) hx hb dX12_readFrame_413 (by decide) ?_
                                refine lv_iload hx hb dX12_readFrame_415 (lv_at hl 4 rfl) ?_
                                obtain ⟨x, hc, hf⟩ := bind_some hf
                                obtain ⟨r35, u36, u37⟩ := x
                                dsimp only at hf
                                refine nx_i (rn_V (As := [.int (9 : Int32), .int j8_25]) (rest := []) (n := 2) (ci := 10) (q0 := 0) ⟨hx, hb, hml, hown, hts⟩ (c_Mo_no (l := l) (dC := dC) (dI := dI) (cB := cB) (cI := cI) (h0 := h0) (a1 := (9 : Int32)) (a2 := j8_25) (w_h0_in := (.ref h0_in)) (w_h0_inSize := (.int h0_inSize)) (w_h0_out := (w_h0_out)) (w_h0_outSize := (w_h0_outSize)) (w_h0_dict := (.ref h0_dict)) (w_h0_dictSize := (.int h0_dictSize)) (w_h0_told := (.ref h0_told)) (w_h0_fresh := (.ref h0_fresh)) (w_h0_freshSize := (.int g24)) (w_h0_text := (w_h0_text)) (w_h0_lean := (w_h0_lean)) (w_h0_size := (w_h0_size)) (w_h0_most := (w_h0_most)) (w_h0_offset := (w_h0_offset)) (w_h0_copyAt := (w_h0_copyAt)) (w_h0_copies := (w_h0_copies)) (w_h0_copyLength := (w_h0_copyLength)) (w_h0_copyOffset := (w_h0_copyOffset)) (w_h0_fromHere := (w_h0_fromHere)) (w_h0_withCopy := (w_h0_withCopy)) (w_h0_bestCopy := (w_h0_bestCopy)) (w_h0_bestLiterals := (w_h0_bestLiterals)) (w_h0_copiesOf := (.int g17)) (w_h0_literalsOf := (.int g18)) (w_h0_partsOf := (.int g19)) (w_h0_blocks := (w_h0_blocks)) (w_h0_blockMany := (w_h0_blockMany)) (w_h0_newBlocks := (.ref h0_newBlocks)) (w_h0_newMany := (.int g20)) (h0_rule := g21) (h0_place := g22) (w_h0_at := (.int g23)) (o_h0_rule := u36) (o_h0_place := u37) (o_r := r35) hc) (wV kw_1353 kw_1355 kw_72 kw_94 kw_1356) (by decide +kernel) ⟨Nat.le_of_ble_eq_true rfl, Nat.le_of_ble_eq_true rfl⟩ hK hP hD hN hT hS (va_free (wc := [(h0, .inr (10, [.ref h0_in, .int h0_inSize, w_h0_out, w_h0_outSize, .ref h0_dict, .int h0_dictSize, .ref h0_told, .ref h0_fresh, .int g24, w_h0_text, w_h0_lean, w_h0_size, w_h0_most, w_h0_offset, w_h0_copyAt, w_h0_copies, w_h0_copyLength, w_h0_copyOffset, w_h0_fromHere, w_h0_withCopy, w_h0_bestCopy, w_h0_bestLiterals, .int g17, .int g18, .int g19, w_h0_blocks, w_h0_blockMany, .ref h0_newBlocks, .int g20, .int g21, .int g22, .int g23]))]) hD hS hA [0] rfl) [0] rfl (by decide) rfl rfl rfl hl.1 rfl (lv_room (Nat.le_of_ble_eq_true rfl)) dX12_readFrame_417 ⟨Nat.le_of_ble_eq_true rfl, Nat.le_of_ble_eq_true rfl⟩) hP hD hS hA (wr := [(h0_in, .inl (cI, h0_in_n, .inl h0_in_f)), (h0_told, .inl (cI, h0_told_n, .inl h0_told_f)), (h0_fresh, .inl (cI, h0_fresh_n, .inl f15)), (h0_newBlocks, .inl (cI, h0_newBlocks_n, .inl f16)), (h0_dict, .inl (cI, h0_dict_n, .inl h0_dict_f))]) (w1 := [(h0, .inr (10, [.ref h0_in, .int h0_inSize, w_h0_out, w_h0_outSize, .ref h0_dict, .int h0_dictSize, .ref h0_told, .ref h0_fresh, .int g24, w_h0_text, w_h0_lean, w_h0_size, w_h0_most, w_h0_offset, w_h0_copyAt, w_h0_copies, w_h0_copyLength, w_h0_copyOffset, w_h0_fromHere, w_h0_withCopy, w_h0_bestCopy, w_h0_bestLiterals, .int g17, .int g18, .int g19, w_h0_blocks, w_h0_blockMany, .ref h0_newBlocks, .int g20, .int u36, .int u37, .int g23]))]) (ws' := [(h0, .inr (10, [.ref h0_in, .int h0_inSize, w_h0_out, w_h0_outSize, .ref h0_dict, .int h0_dictSize, .ref h0_told, .ref h0_fresh, .int g24, w_h0_text, w_h0_lean, w_h0_size, w_h0_most, w_h0_offset, w_h0_copyAt, w_h0_copies, w_h0_copyLength, w_h0_copyOffset, w_h0_fromHere, w_h0_withCopy, w_h0_bestCopy, w_h0_bestLiterals, .int g17, .int g18, .int g19, w_h0_blocks, w_h0_blockMany, .ref h0_newBlocks, .int g20, .int u36, .int u37, .int g23])), (h0_in, .inl (cI, h0_in_n, .inl h0_in_f)), (h0_told, .inl (cI, h0_told_n, .inl h0_told_f)), (h0_fresh, .inl (cI, h0_fresh_n, .inl f15)), (h0_newBlocks, .inl (cI, h0_newBlocks_n, .inl f16)), (h0_dict, .inl (cI, h0_dict_n, .inl h0_dict_f))]) [0] [1, 2, 3, 4, 5] [5, 0, 1, 2, 3, 4] rfl rfl (by decide) (by decide) rfl (by decide) (fun H locs hP hD hS => ?_)
                                obtain ⟨hzb, hf⟩ := bch_some hf
                                obtain ⟨rfl, hq_1⟩ := Prod.mk.inj (Option.some.inj hf)
                                obtain ⟨rfl, hq_2⟩ := Prod.mk.inj hq_1
                                obtain ⟨rfl, hq_3⟩ := Prod.mk.inj hq_2
                                obtain ⟨rfl, hq_4⟩ := Prod.mk.inj hq_3
                                obtain ⟨rfl, hq_5⟩ := Prod.mk.inj hq_4
                                obtain ⟨rfl, hq_6⟩ := Prod.mk.inj hq_5
                                obtain ⟨rfl, hq_7⟩ := Prod.mk.inj hq_6
                                obtain ⟨rfl, hq_8⟩ := Prod.mk.inj hq_7
                                obtain ⟨rfl, hq_9⟩ := Prod.mk.inj hq_8
                                obtain ⟨rfl, hq_10⟩ := Prod.mk.inj hq_9
                                obtain rfl := hq_10
                                exact rt_z hQ hx hb hr hzb hlocks hP hD hS dX12_readFrame_420
                          obtain ⟨o_334, hi_334, hk_334⟩ := bind_some hf
                          have hL_334 : ∀ (n : Nat) (f38 : Nat → Int32) (f39 : Nat → Int32) (g40 : Int32) (g41 : Int32) (g42 : Int32) (g43 : Int32) (g44 : Int32) (g45 : Int32) (g46 : Int32) (g47 : Int32) (H : Heap) (locs : List Loc) (ls : Array Slot), iter (fun st => m_Mo_readFrame_B334 h0_inSize h0_dictSize h0_freshSize h0_in_n h0_in_f h0_fresh_n h0_newBlocks_n h0_dict_n h0_dict_f v2_1 v3_3 st.1 st.2.1 st.2.2.1 st.2.2.2.1 st.2.2.2.2.1 st.2.2.2.2.2.1 st.2.2.2.2.2.2.1 st.2.2.2.2.2.2.2.1 st.2.2.2.2.2.2.2.2.1 st.2.2.2.2.2.2.2.2.2) n (f38, f39, g40, g41, g42, g43, g44, g45, g46, g47) = some o_334 → va_P (dC, dI) vwCl [(h0, .inr (10, [.ref h0_in, .int h0_inSize, w_h0_out, w_h0_outSize, .ref h0_dict, .int h0_dictSize, .ref h0_told, .ref h0_fresh, .int g47, w_h0_text, w_h0_lean, w_h0_size, w_h0_most, w_h0_offset, w_h0_copyAt, w_h0_copies, w_h0_copyLength, w_h0_copyOffset, w_h0_fromHere, w_h0_withCopy, w_h0_bestCopy, w_h0_bestLiterals, .int g40, .int g41, .int g42, w_h0_blocks, w_h0_blockMany, .ref h0_newBlocks, .int g43, .int g44, .int g45, .int g46])), (h0_in, .inl (cI, h0_in_n, .inl h0_in_f)), (h0_told, .inl (cI, h0_told_n, .inl h0_told_f)), (h0_fresh, .inl (cI, h0_fresh_n, .inl f38)), (h0_newBlocks, .inl (cI, h0_newBlocks_n, .inl f39)), (h0_dict, .inl (cI, h0_dict_n, .inl h0_dict_f))] H → va_D A [(h0, .inr (10, [.ref h0_in, .int h0_inSize, w_h0_out, w_h0_outSize, .ref h0_dict, .int h0_dictSize, .ref h0_told, .ref h0_fresh, .int g47, w_h0_text, w_h0_lean, w_h0_size, w_h0_most, w_h0_offset, w_h0_copyAt, w_h0_copies, w_h0_copyLength, w_h0_copyOffset, w_h0_fromHere, w_h0_withCopy, w_h0_bestCopy, w_h0_bestLiterals, .int g40, .int g41, .int g42, w_h0_blocks, w_h0_blockMany, .ref h0_newBlocks, .int g43, .int g44, .int g45, .int g46])), (h0_in, .inl (cI, h0_in_n, .inl h0_in_f)), (h0_told, .inl (cI, h0_told_n, .inl h0_told_f)), (h0_fresh, .inl (cI, h0_fresh_n, .inl f38)), (h0_newBlocks, .inl (cI, h0_newBlocks_n, .inl f39)), (h0_dict, .inl (cI, h0_dict_n, .inl h0_dict_f))] → va_S A s.heap H locs → lv_has ls 11 [(0, .ref h0), (2, .int v2_1), (3, .int v3_3), (5, .long s11), (7, .int h0_freshSize)] → W p l e (rm_Mo_readFrame) s m ([.ref h0] : List Value).toArray below meth c H locs 0 0 Q (F0 m 334 ls []) := by
                            intro n
                            induction n with
                            | zero => intro f38 f39 g40 g41 g42 g43 g44 g45 g46 g47 H locs ls hf; exact absurd hf (fun z => by cases z)
                            | succ n ih_334 =>
                              intro f38 f39 g40 g41 g42 g43 g44 g45 g46 g47 H locs ls hf hP hD hS hl
                              obtain ⟨r_334, hf, hr_334⟩ := iter_succ hf
                              have hf : m_Mo_readFrame_B334 h0_inSize h0_dictSize h0_freshSize h0_in_n h0_in_f h0_fresh_n h0_newBlocks_n h0_dict_n h0_dict_f v2_1 v3_3 f38 f39 g40 g41 g42 g43 g44 g45 g46 g47 = some r_334 := hf
                              unfold m_Mo_readFrame_B334 at hf
                              refine lv_aload_n hx hb dX12_readFrame_334 rfl (lv_at hl 0 rfl) ?_
                              refine va_get (D := (dC, dI)) (ci := 10) (v := .int g46) (C := RX12) (T := TX12) (N := 32) hx hb hts inG_X12 hown hK hP 0 rfl rfl 31 (by decide) (hts _ kw_1083) (fun _ h9 => h9) rfl dX12_readFrame_335 ?_
                              refine lv_istore (lv' := [(8, .int g46), (0, .ref h0), (2, .int v2_1), (3, .int v3_3), (5, .long s11), (7, .int h0_freshSize)]) hx hb dX12_readFrame_338 hl (by decide) rfl (fun ls hl => ?_)
                              refine lv_aload_n hx hb dX12_readFrame_340 rfl (lv_at hl 1 rfl) ?_
                              refine va_get (D := (dC, dI)) (ci := 10) (v := .int h0_inSize) (C := RX12) (T := TX12) (N := 32) hx hb hts inG_X12 hown hK hP 0 rfl rfl 1 (by decide) (hts _ kw_1053) (fun _ h9 => h9) rfl dX12_readFrame_341 ?_
                              refine lv_aload_n hx hb dX12_readFrame_344 rfl (lv_at hl 1 rfl) ?_
                              refine va_get (D := (dC, dI)) (ci := 10) (v := .int g46) (C := RX12) (T := TX12) (N := 32) hx hb hts inG_X12 hown hK hP 0 rfl rfl 31 (by decide) (hts _ kw_1083) (fun _ h9 => h9) rfl dX12_readFrame_345 ?_
                              refine lv_isub hx hb dX12_readFrame_348 ?_
                              refine lv_iconst (v := 4) hx hb dX12_readFrame_349 (by decide) ?_
                              refine lv_icmp_ge (tgt := 363) hx hb dX12_readFrame_350 (by decide) (fun c_350 => ?_) (fun c_350 => ?_)
                              · replace hf := if_t c_350 hf
                                refine lv_aload_n hx hb dX12_readFrame_363 rfl (lv_at hl 1 rfl) ?_
                                refine lv_aload_n hx hb dX12_readFrame_364 rfl (lv_at hl 1 rfl) ?_
                                refine va_get (D := (dC, dI)) (ci := 10) (v := .int g46) (C := RX12) (T := TX12) (N := 32) hx hb hts inG_X12 hown hK hP 0 rfl rfl 31 (by decide) (hts _ kw_1083) (fun _ h9 => h9) rfl dX12_readFrame_365 ?_
                                refine lv_iconst (v := 4) hx hb dX12_readFrame_368 (by decide) ?_
                                obtain ⟨r48, hc, hf⟩ := bind_some hf
                                refine nx_l (rn_V (As := [.int g46, .int (4 : Int32)]) (rest := []) (n := 2) (ci := 10) (q0 := 0) ⟨hx, hb, hml, hown, hts⟩ (c_Mo_number (l := l) (dC := dC) (dI := dI) (cB := cB) (cI := cI) (h0 := h0) (a1 := g46) (a2 := (4 : Int32)) (h0_in := h0_in) (w_h0_inSize := (.int h0_inSize)) (w_h0_out := (w_h0_out)) (w_h0_outSize := (w_h0_outSize)) (w_h0_dict := (.ref h0_dict)) (w_h0_dictSize := (.int h0_dictSize)) (w_h0_told := (.ref h0_told)) (w_h0_fresh := (.ref h0_fresh)) (w_h0_freshSize := (.int g47)) (w_h0_text := (w_h0_text)) (w_h0_lean := (w_h0_lean)) (w_h0_size := (w_h0_size)) (w_h0_most := (w_h0_most)) (w_h0_offset := (w_h0_offset)) (w_h0_copyAt := (w_h0_copyAt)) (w_h0_copies := (w_h0_copies)) (w_h0_copyLength := (w_h0_copyLength)) (w_h0_copyOffset := (w_h0_copyOffset)) (w_h0_fromHere := (w_h0_fromHere)) (w_h0_withCopy := (w_h0_withCopy)) (w_h0_bestCopy := (w_h0_bestCopy)) (w_h0_bestLiterals := (w_h0_bestLiterals)) (w_h0_copiesOf := (.int g40)) (w_h0_literalsOf := (.int g41)) (w_h0_partsOf := (.int g42)) (w_h0_blocks := (w_h0_blocks)) (w_h0_blockMany := (w_h0_blockMany)) (w_h0_newBlocks := (.ref h0_newBlocks)) (w_h0_newMany := (.int g43)) (w_h0_rule := (.int g44)) (w_h0_place := (.int g45)) (w_h0_at := (.int g46)) (h0_in_n := h0_in_n) (h0_in_f := h0_in_f)  (o_r := r48) hc) (wV kw_1357 kw_1359 kw_73 kw_94 kw_1360) (by decide +kernel) ⟨Nat.le_of_ble_eq_true rfl, Nat.le_of_ble_eq_true rfl⟩ hK hP hD hN hT hS (va_free (wc := [(h0, .inr (10, [.ref h0_in, .int h0_inSize, w_h0_out, w_h0_outSize, .ref h0_dict, .int h0_dictSize, .ref h0_told, .ref h0_fresh, .int g47, w_h0_text, w_h0_lean, w_h0_size, w_h0_most, w_h0_offset, w_h0_copyAt, w_h0_copies, w_h0_copyLength, w_h0_copyOffset, w_h0_fromHere, w_h0_withCopy, w_h0_bestCopy, w_h0_bestLiterals, .int g40, .int g41, .int g42, w_h0_blocks, w_h0_blockMany, .ref h0_newBlocks, .int g43, .int g44, .int g45, .int g46])), (h0_in, .inl (cI, h0_in_n, .inl h0_in_f))]) hD hS hA [0, 1] rfl) [0, 1] rfl (by decide) rfl rfl rfl hl.1 rfl (lv_room (Nat.le_of_ble_eq_true rfl)) dX12_readFrame_369 ⟨Nat.le_of_ble_eq_true rfl, Nat.le_of_ble_eq_true rfl⟩) hP hD hS hA (wr := [(h0_told, .inl (cI, h0_told_n, .inl h0_told_f)), (h0_fresh, .inl (cI, h0_fresh_n, .inl f38)), (h0_newBlocks, .inl (cI, h0_newBlocks_n, .inl f39)), (h0_dict, .inl (cI, h0_dict_n, .inl h0_dict_f))]) (w1 := [(h0, .inr (10, [.ref h0_in, .int h0_inSize, w_h0_out, w_h0_outSize, .ref h0_dict, .int h0_dictSize, .ref h0_told, .ref h0_fresh, .int g47, w_h0_text, w_h0_lean, w_h0_size, w_h0_most, w_h0_offset, w_h0_copyAt, w_h0_copies, w_h0_copyLength, w_h0_copyOffset, w_h0_fromHere, w_h0_withCopy, w_h0_bestCopy, w_h0_bestLiterals, .int g40, .int g41, .int g42, w_h0_blocks, w_h0_blockMany, .ref h0_newBlocks, .int g43, .int g44, .int g45, .int g46])), (h0_in, .inl (cI, h0_in_n, .inl h0_in_f))]) (ws' := [(h0, .inr (10, [.ref h0_in, .int h0_inSize, w_h0_out, w_h0_outSize, .ref h0_dict, .int h0_dictSize, .ref h0_told, .ref h0_fresh, .int g47, w_h0_text, w_h0_lean, w_h0_size, w_h0_most, w_h0_offset, w_h0_copyAt, w_h0_copies, w_h0_copyLength, w_h0_copyOffset, w_h0_fromHere, w_h0_withCopy, w_h0_bestCopy, w_h0_bestLiterals, .int g40, .int g41, .int g42, w_h0_blocks, w_h0_blockMany, .ref h0_newBlocks, .int g43, .int g44, .int g45, .int g46])), (h0_in, .inl (cI, h0_in_n, .inl h0_in_f)), (h0_told, .inl (cI, h0_told_n, .inl h0_told_f)), (h0_fresh, .inl (cI, h0_fresh_n, .inl f38)), (h0_newBlocks, .inl (cI, h0_newBlocks_n, .inl f39)), (h0_dict, .inl (cI, h0_dict_n, .inl h0_dict_f))]) [0, 1] [2, 3, 4, 5] [4, 5, 0, 1, 2, 3] rfl rfl (by decide) (by decide) rfl (by decide) (fun H locs hP hD hS => ?_)
                                refine lv_lstore (lv' := [(9, .long r48), (8, .int g46), (0, .ref h0), (2, .int v2_1), (3, .int v3_3), (5, .long s11), (7, .int h0_freshSize)]) hx hb dX12_readFrame_372 hl (by decide) rfl (fun ls hl => ?_)
                                refine lv_aload_n hx hb dX12_readFrame_374 rfl (lv_at hl 2 rfl) ?_
                                refine lv_dup hx hb dX12_readFrame_375 rfl ?_
                                refine va_get (D := (dC, dI)) (ci := 10) (v := .int g46) (C := RX12) (T := TX12) (N := 32) hx hb hts inG_X12 hown hK hP 0 rfl rfl 31 (by decide) (hts _ kw_1083) (fun _ h9 => h9) rfl dX12_readFrame_376 ?_
                                refine lv_iconst (v := 4) hx hb dX12_readFrame_379 (by decide) ?_
                                refine lv_iadd hx hb dX12_readFrame_380 ?_
                                refine lv_topi (fun p_49 e_p_49 => ?_)
                                replace hf := bnd_at e_p_49 hf
                                refine va_put (D := (dC, dI)) (ci := 10) (v := .int p_49) (ty := .int) (C := RX12) (T := TX12) (N := 32) hx hb hts inG_X12 tyX12 tyX12_ok nmX12 hown hK hP hD hS 0 rfl rfl 31 (by decide) (hts _ kw_1083) (fun _ h9 => h9) rfl (by decide +kernel) rfl rfl (Nat.le_of_ble_eq_true rfl) dX12_readFrame_381 (fun H locs hP hD hS => ?_)
                                have hP : va_P (dC, dI) vwCl [(h0, .inr (10, [.ref h0_in, .int h0_inSize, w_h0_out, w_h0_outSize, .ref h0_dict, .int h0_dictSize, .ref h0_told, .ref h0_fresh, .int g47, w_h0_text, w_h0_lean, w_h0_size, w_h0_most, w_h0_offset, w_h0_copyAt, w_h0_copies, w_h0_copyLength, w_h0_copyOffset, w_h0_fromHere, w_h0_withCopy, w_h0_bestCopy, w_h0_bestLiterals, .int g40, .int g41, .int g42, w_h0_blocks, w_h0_blockMany, .ref h0_newBlocks, .int g43, .int g44, .int g45, .int p_49])), (h0_in, .inl (cI, h0_in_n, .inl h0_in_f)), (h0_told, .inl (cI, h0_told_n, .inl h0_told_f)), (h0_fresh, .inl (cI, h0_fresh_n, .inl f38)), (h0_newBlocks, .inl (cI, h0_newBlocks_n, .inl f39)), (h0_dict, .inl (cI, h0_dict_n, .inl h0_dict_f))] H := hP
                                have hD : va_D A [(h0, .inr (10, [.ref h0_in, .int h0_inSize, w_h0_out, w_h0_outSize, .ref h0_dict, .int h0_dictSize, .ref h0_told, .ref h0_fresh, .int g47, w_h0_text, w_h0_lean, w_h0_size, w_h0_most, w_h0_offset, w_h0_copyAt, w_h0_copies, w_h0_copyLength, w_h0_copyOffset, w_h0_fromHere, w_h0_withCopy, w_h0_bestCopy, w_h0_bestLiterals, .int g40, .int g41, .int g42, w_h0_blocks, w_h0_blockMany, .ref h0_newBlocks, .int g43, .int g44, .int g45, .int p_49])), (h0_in, .inl (cI, h0_in_n, .inl h0_in_f)), (h0_told, .inl (cI, h0_told_n, .inl h0_told_f)), (h0_fresh, .inl (cI, h0_fresh_n, .inl f38)), (h0_newBlocks, .inl (cI, h0_newBlocks_n, .inl f39)), (h0_dict, .inl (cI, h0_dict_n, .inl h0_dict_f))] := hD
                                refine lv_lload hx hb dX12_readFrame_384 (lv_at hl 0 rfl) ?_
                                refine lv_lconst (v := 0) hx hb dX12_readFrame_386 (by decide) ?_
                                refine W.lcmp hx hb dX12_readFrame_387 ?_
                                refine lv_if_ne (tgt := 421) hx hb dX12_readFrame_388 (by decide) (fun c_388 => ?_) (fun c_388 => ?_)
                                · replace hf := if_f c_388 hf
                                  refine lv_aload_n hx hb dX12_readFrame_421 rfl (lv_at hl 2 rfl) ?_
                                  refine lv_iload hx hb dX12_readFrame_422 (lv_at hl 1 rfl) ?_
                                  refine lv_lload hx hb dX12_readFrame_424 (lv_at hl 0 rfl) ?_
                                  refine lv_iload_n hx hb dX12_readFrame_426 rfl (lv_at hl 3 rfl) ?_
                                  refine lv_lconst (v := 1) hx hb dX12_readFrame_427 (by decide) ?_
                                  refine lv_bipush (v := 8) hx hb dX12_readFrame_428 (by decide) ?_
                                  refine lv_iconst (v := 2) hx hb dX12_readFrame_430 (by decide) ?_
                                  refine lv_iload_n hx hb dX12_readFrame_431 rfl (lv_at hl 4 rfl) ?_
                                  refine lv_imul hx hb dX12_readFrame_432 ?_
                                  refine lv_iadd hx hb dX12_readFrame_433 ?_
                                  refine lv_lshl (v := (lshl (1 : Int64) ((8 : Int32) + ((2 : Int32) * v3_3)))) hx hb dX12_readFrame_434 rfl ?_
                                  refine lv_iload hx hb dX12_readFrame_435 (lv_at hl 6 rfl) ?_
                                  obtain ⟨x, hc, hf⟩ := bind_some hf
                                  obtain ⟨r50, u51, u52, u53, u54, u55, u56, u57, u58, u59, u60⟩ := x
                                  dsimp only at hf
                                  refine nx_i (rn_V (As := [.int g46, .long r48, .int v2_1, .long (lshl (1 : Int64) ((8 : Int32) + ((2 : Int32) * v3_3))), .int h0_freshSize]) (rest := []) (n := 5) (ci := 10) (q0 := 0) ⟨hx, hb, hml, hown, hts⟩ (c_Mo_readBlock (l := l) (dC := dC) (dI := dI) (cB := cB) (cI := cI) (h0 := h0) (a1 := g46) (a2 := r48) (a3 := v2_1) (a4 := (lshl (1 : Int64) ((8 : Int32) + ((2 : Int32) * v3_3)))) (a5 := h0_freshSize) (h0_in := h0_in) (h0_fresh := h0_fresh) (h0_newBlocks := h0_newBlocks) (h0_dict := h0_dict) (h0_inSize := h0_inSize) (w_h0_out := (w_h0_out)) (w_h0_outSize := (w_h0_outSize)) (h0_dictSize := h0_dictSize) (w_h0_told := (.ref h0_told)) (h0_freshSize := g47) (w_h0_text := (w_h0_text)) (w_h0_lean := (w_h0_lean)) (w_h0_size := (w_h0_size)) (w_h0_most := (w_h0_most)) (w_h0_offset := (w_h0_offset)) (w_h0_copyAt := (w_h0_copyAt)) (w_h0_copies := (w_h0_copies)) (w_h0_copyLength := (w_h0_copyLength)) (w_h0_copyOffset := (w_h0_copyOffset)) (w_h0_fromHere := (w_h0_fromHere)) (w_h0_withCopy := (w_h0_withCopy)) (w_h0_bestCopy := (w_h0_bestCopy)) (w_h0_bestLiterals := (w_h0_bestLiterals)) (h0_copiesOf := g40) (h0_literalsOf := g41) (h0_partsOf := g42) (w_h0_blocks := (w_h0_blocks)) (w_h0_blockMany := (w_h0_blockMany)) (h0_newMany := g43) (h0_rule := g44) (h0_place := g45) (h0_at := p_49) (h0_in_n := h0_in_n) (h0_in_f := h0_in_f) (h0_fresh_n := h0_fresh_n) (h0_fresh_f := f38) (h0_newBlocks_n := h0_newBlocks_n) (h0_newBlocks_f := f39) (h0_dict_n := h0_dict_n) (h0_dict_f := h0_dict_f) (o_h0_freshSize := u51) (o_h0_copiesOf := u52) (o_h0_literalsOf := u53) (o_h0_partsOf := u54) (o_h0_newMany := u55) (o_h0_rule := u56) (o_h0_place := u57) (o_h0_at := u58) (o_h0_fresh_f := u59) (o_h0_newBlocks_f := u60) (o_r := r50) hc) (wV kw_1365 kw_1367 kw_75 kw_94 kw_1368) (by decide +kernel) ⟨Nat.le_of_ble_eq_true rfl, Nat.le_of_ble_eq_true rfl⟩ hK hP hD hN hT hS (va_free (wc := [(h0, .inr (10, [.ref h0_in, .int h0_inSize, w_h0_out, w_h0_outSize, .ref h0_dict, .int h0_dictSize, .ref h0_told, .ref h0_fresh, .int g47, w_h0_text, w_h0_lean, w_h0_size, w_h0_most, w_h0_offset, w_h0_copyAt, w_h0_copies, w_h0_copyLength, w_h0_copyOffset, w_h0_fromHere, w_h0_withCopy, w_h0_bestCopy, w_h0_bestLiterals, .int g40, .int g41, .int g42, w_h0_blocks, w_h0_blockMany, .ref h0_newBlocks, .int g43, .int g44, .int g45, .int p_49])), (h0_in, .inl (cI, h0_in_n, .inl h0_in_f)), (h0_fresh, .inl (cI, h0_fresh_n, .inl f38)), (h0_newBlocks, .inl (cI, h0_newBlocks_n, .inl f39)), (h0_dict, .inl (cI, h0_dict_n, .inl h0_dict_f))]) hD hS hA [0, 1, 3, 4, 5] rfl) [0, 1, 3, 4, 5] rfl (by decide) rfl rfl rfl hl.1 rfl (lv_room (Nat.le_of_ble_eq_true rfl)) dX12_readFrame_437 ⟨Nat.le_of_ble_eq_true rfl, Nat.le_of_ble_eq_true rfl⟩) hP hD hS hA (wr := [(h0_told, .inl (cI, h0_told_n, .inl h0_told_f))]) (w1 := [(h0, .inr (10, [.ref h0_in, .int h0_inSize, w_h0_out, w_h0_outSize, .ref h0_dict, .int h0_dictSize, .ref h0_told, .ref h0_fresh, .int u51, w_h0_text, w_h0_lean, w_h0_size, w_h0_most, w_h0_offset, w_h0_copyAt, w_h0_copies, w_h0_copyLength, w_h0_copyOffset, w_h0_fromHere, w_h0_withCopy, w_h0_bestCopy, w_h0_bestLiterals, .int u52, .int u53, .int u54, w_h0_blocks, w_h0_blockMany, .ref h0_newBlocks, .int u55, .int u56, .int u57, .int u58])), (h0_in, .inl (cI, h0_in_n, .inl h0_in_f)), (h0_fresh, .inl (cI, h0_fresh_n, .inl u59)), (h0_newBlocks, .inl (cI, h0_newBlocks_n, .inl u60)), (h0_dict, .inl (cI, h0_dict_n, .inl h0_dict_f))]) (ws' := [(h0, .inr (10, [.ref h0_in, .int h0_inSize, w_h0_out, w_h0_outSize, .ref h0_dict, .int h0_dictSize, .ref h0_told, .ref h0_fresh, .int u51, w_h0_text, w_h0_lean, w_h0_size, w_h0_most, w_h0_offset, w_h0_copyAt, w_h0_copies, w_h0_copyLength, w_h0_copyOffset, w_h0_fromHere, w_h0_withCopy, w_h0_bestCopy, w_h0_bestLiterals, .int u52, .int u53, .int u54, w_h0_blocks, w_h0_blockMany, .ref h0_newBlocks, .int u55, .int u56, .int u57, .int u58])), (h0_in, .inl (cI, h0_in_n, .inl h0_in_f)), (h0_told, .inl (cI, h0_told_n, .inl h0_told_f)), (h0_fresh, .inl (cI, h0_fresh_n, .inl u59)), (h0_newBlocks, .inl (cI, h0_newBlocks_n, .inl u60)), (h0_dict, .inl (cI, h0_dict_n, .inl h0_dict_f))]) [0, 1, 3, 4, 5] [2] [1, 2, 0, 3, 4, 5] rfl rfl (by decide) (by decide) rfl (by decide) (fun H locs hP hD hS => ?_)
                                  refine lv_if_ne (tgt := 445) hx hb dX12_readFrame_440 (by decide) (fun c_440 => ?_) (fun c_440 => ?_)
                                  · replace hf := if_f c_440 hf
                                    refine lv_goto (tgt := 334) hx hb dX12_readFrame_445 (by decide) ?_
                                    exact ih_334 u59 u60 u52 u53 u54 u55 u56 u57 u58 u51 _ _ _ (iter_back hf hr_334) hP hD hS (lv_sub hl [2, 3, 4, 5, 6] rfl)
                                  · replace hf := if_t c_440 hf
                                    refine lv_iconst (v := 0) hx hb dX12_readFrame_443 (by decide) ?_
                                    have hzb : narrow .boolean (.int (0 : Int32)) = .int (0 : Int32) := rfl
                                    replace hf : some ((0 : Int32), u51, u52, u53, u54, u55, u56, u57, u58, u59, u60) = some (o_r, o_h0_freshSize, o_h0_copiesOf, o_h0_literalsOf, o_h0_partsOf, o_h0_newMany, o_h0_rule, o_h0_place, o_h0_at, o_h0_fresh_f, o_h0_newBlocks_f) := by have hq := hk_334; rw [iter_exit hf hr_334] at hq; exact hq
                                    obtain ⟨rfl, hq_1⟩ := Prod.mk.inj (Option.some.inj hf)
                                    obtain ⟨rfl, hq_2⟩ := Prod.mk.inj hq_1
                                    obtain ⟨rfl, hq_3⟩ := Prod.mk.inj hq_2
                                    obtain ⟨rfl, hq_4⟩ := Prod.mk.inj hq_3
                                    obtain ⟨rfl, hq_5⟩ := Prod.mk.inj hq_4
                                    obtain ⟨rfl, hq_6⟩ := Prod.mk.inj hq_5
                                    obtain ⟨rfl, hq_7⟩ := Prod.mk.inj hq_6
                                    obtain ⟨rfl, hq_8⟩ := Prod.mk.inj hq_7
                                    obtain ⟨rfl, hq_9⟩ := Prod.mk.inj hq_8
                                    obtain ⟨rfl, hq_10⟩ := Prod.mk.inj hq_9
                                    obtain rfl := hq_10
                                    exact rt_z hQ hx hb hr hzb hlocks hP hD hS dX12_readFrame_444
                                · replace hf := if_t c_388 hf
                                  have hf : m_Mo_readFrame_E391 h0_inSize h0_freshSize h0_in_n h0_in_f h0_fresh_n v2_1 s11 f38 f39 g40 g41 g42 g43 g44 g45 p_49 g47 g46 = some (o_r, o_h0_freshSize, o_h0_copiesOf, o_h0_literalsOf, o_h0_partsOf, o_h0_newMany, o_h0_rule, o_h0_place, o_h0_at, o_h0_fresh_f, o_h0_newBlocks_f) := by have hq := hk_334; rw [iter_exit hf hr_334] at hq; exact hq
                                  exact hJ_391 f38 f39 g40 g41 g42 g43 g44 g45 p_49 g47 g46 _ _ _ hf hP hD hS (lv_sub hl [2, 3, 5, 6, 1] rfl)
                              · replace hf := if_f c_350 hf
                                refine lv_aload_n hx hb dX12_readFrame_353 rfl (lv_at hl 1 rfl) ?_
                                refine lv_iconst (v := 1) hx hb dX12_readFrame_354 (by decide) ?_
                                refine lv_aload_n hx hb dX12_readFrame_355 rfl (lv_at hl 1 rfl) ?_
                                refine va_get (D := (dC, dI)) (ci := 10) (v := .int h0_inSize) (C := RX12) (T := TX12) (N := 32) hx hb hts inG_X12 hown hK hP 0 rfl rfl 1 (by decide) (hts _ kw_1053) (fun _ h9 => h9) rfl dX12_readFrame_356 ?_
                                obtain ⟨x, hc, hf⟩ := bind_some hf
                                obtain ⟨r61, u62, u63⟩ := x
                                dsimp only at hf
                                refine nx_i (rn_V (As := [.int (1 : Int32), .int h0_inSize]) (rest := []) (n := 2) (ci := 10) (q0 := 0) ⟨hx, hb, hml, hown, hts⟩ (c_Mo_no (l := l) (dC := dC) (dI := dI) (cB := cB) (cI := cI) (h0 := h0) (a1 := (1 : Int32)) (a2 := h0_inSize) (w_h0_in := (.ref h0_in)) (w_h0_inSize := (.int h0_inSize)) (w_h0_out := (w_h0_out)) (w_h0_outSize := (w_h0_outSize)) (w_h0_dict := (.ref h0_dict)) (w_h0_dictSize := (.int h0_dictSize)) (w_h0_told := (.ref h0_told)) (w_h0_fresh := (.ref h0_fresh)) (w_h0_freshSize := (.int g47)) (w_h0_text := (w_h0_text)) (w_h0_lean := (w_h0_lean)) (w_h0_size := (w_h0_size)) (w_h0_most := (w_h0_most)) (w_h0_offset := (w_h0_offset)) (w_h0_copyAt := (w_h0_copyAt)) (w_h0_copies := (w_h0_copies)) (w_h0_copyLength := (w_h0_copyLength)) (w_h0_copyOffset := (w_h0_copyOffset)) (w_h0_fromHere := (w_h0_fromHere)) (w_h0_withCopy := (w_h0_withCopy)) (w_h0_bestCopy := (w_h0_bestCopy)) (w_h0_bestLiterals := (w_h0_bestLiterals)) (w_h0_copiesOf := (.int g40)) (w_h0_literalsOf := (.int g41)) (w_h0_partsOf := (.int g42)) (w_h0_blocks := (w_h0_blocks)) (w_h0_blockMany := (w_h0_blockMany)) (w_h0_newBlocks := (.ref h0_newBlocks)) (w_h0_newMany := (.int g43)) (h0_rule := g44) (h0_place := g45) (w_h0_at := (.int g46)) (o_h0_rule := u62) (o_h0_place := u63) (o_r := r61) hc) (wV kw_1353 kw_1355 kw_72 kw_94 kw_1356) (by decide +kernel) ⟨Nat.le_of_ble_eq_true rfl, Nat.le_of_ble_eq_true rfl⟩ hK hP hD hN hT hS (va_free (wc := [(h0, .inr (10, [.ref h0_in, .int h0_inSize, w_h0_out, w_h0_outSize, .ref h0_dict, .int h0_dictSize, .ref h0_told, .ref h0_fresh, .int g47, w_h0_text, w_h0_lean, w_h0_size, w_h0_most, w_h0_offset, w_h0_copyAt, w_h0_copies, w_h0_copyLength, w_h0_copyOffset, w_h0_fromHere, w_h0_withCopy, w_h0_bestCopy, w_h0_bestLiterals, .int g40, .int g41, .int g42, w_h0_blocks, w_h0_blockMany, .ref h0_newBlocks, .int g43, .int g44, .int g45, .int g46]))]) hD hS hA [0] rfl) [0] rfl (by decide) rfl rfl rfl hl.1 rfl (lv_room (Nat.le_of_ble_eq_true rfl)) dX12_readFrame_359 ⟨Nat.le_of_ble_eq_true rfl, Nat.le_of_ble_eq_true rfl⟩) hP hD hS hA (wr := [(h0_in, .inl (cI, h0_in_n, .inl h0_in_f)), (h0_told, .inl (cI, h0_told_n, .inl h0_told_f)), (h0_fresh, .inl (cI, h0_fresh_n, .inl f38)), (h0_newBlocks, .inl (cI, h0_newBlocks_n, .inl f39)), (h0_dict, .inl (cI, h0_dict_n, .inl h0_dict_f))]) (w1 := [(h0, .inr (10, [.ref h0_in, .int h0_inSize, w_h0_out, w_h0_outSize, .ref h0_dict, .int h0_dictSize, .ref h0_told, .ref h0_fresh, .int g47, w_h0_text, w_h0_lean, w_h0_size, w_h0_most, w_h0_offset, w_h0_copyAt, w_h0_copies, w_h0_copyLength, w_h0_copyOffset, w_h0_fromHere, w_h0_withCopy, w_h0_bestCopy, w_h0_bestLiterals, .int g40, .int g41, .int g42, w_h0_blocks, w_h0_blockMany, .ref h0_newBlocks, .int g43, .int u62, .int u63, .int g46]))]) (ws' := [(h0, .inr (10, [.ref h0_in, .int h0_inSize, w_h0_out, w_h0_outSize, .ref h0_dict, .int h0_dictSize, .ref h0_told, .ref h0_fresh, .int g47, w_h0_text, w_h0_lean, w_h0_size, w_h0_most, w_h0_offset, w_h0_copyAt, w_h0_copies, w_h0_copyLength, w_h0_copyOffset, w_h0_fromHere, w_h0_withCopy, w_h0_bestCopy, w_h0_bestLiterals, .int g40, .int g41, .int g42, w_h0_blocks, w_h0_blockMany, .ref h0_newBlocks, .int g43, .int u62, .int u63, .int g46])), (h0_in, .inl (cI, h0_in_n, .inl h0_in_f)), (h0_told, .inl (cI, h0_told_n, .inl h0_told_f)), (h0_fresh, .inl (cI, h0_fresh_n, .inl f38)), (h0_newBlocks, .inl (cI, h0_newBlocks_n, .inl f39)), (h0_dict, .inl (cI, h0_dict_n, .inl h0_dict_f))]) [0] [1, 2, 3, 4, 5] [5, 0, 1, 2, 3, 4] rfl rfl (by decide) (by decide) rfl (by decide) (fun H locs hP hD hS => ?_)
                                obtain ⟨hzb, hf⟩ := bch_some hf
                                replace hf : some (r61, g47, g40, g41, g42, g43, u62, u63, g46, f38, f39) = some (o_r, o_h0_freshSize, o_h0_copiesOf, o_h0_literalsOf, o_h0_partsOf, o_h0_newMany, o_h0_rule, o_h0_place, o_h0_at, o_h0_fresh_f, o_h0_newBlocks_f) := by have hq := hk_334; rw [iter_exit hf hr_334] at hq; exact hq
                                obtain ⟨rfl, hq_1⟩ := Prod.mk.inj (Option.some.inj hf)
                                obtain ⟨rfl, hq_2⟩ := Prod.mk.inj hq_1
                                obtain ⟨rfl, hq_3⟩ := Prod.mk.inj hq_2
                                obtain ⟨rfl, hq_4⟩ := Prod.mk.inj hq_3
                                obtain ⟨rfl, hq_5⟩ := Prod.mk.inj hq_4
                                obtain ⟨rfl, hq_6⟩ := Prod.mk.inj hq_5
                                obtain ⟨rfl, hq_7⟩ := Prod.mk.inj hq_6
                                obtain ⟨rfl, hq_8⟩ := Prod.mk.inj hq_7
                                obtain ⟨rfl, hq_9⟩ := Prod.mk.inj hq_8
                                obtain ⟨rfl, hq_10⟩ := Prod.mk.inj hq_9
                                obtain rfl := hq_10
                                exact rt_z hQ hx hb hr hzb hlocks hP hD hS dX12_readFrame_362
                          exact hL_334 FU h0_fresh_f h0_newBlocks_f h0_copiesOf h0_literalsOf h0_partsOf h0_newMany h0_rule h0_place p_14 h0_freshSize _ _ _ hi_334 hP hD hS (lv_sub hl [1, 2, 3, 4, 0] rfl)
                        refine lv_if_eq (tgt := 318) hx hb dX12_readFrame_281 (by decide) (fun c_281 => ?_) (fun c_281 => ?_)
                        · replace hf := if_t c_281 hf
                          exact hJ_318  _ _ _ hf hP hD hS (lv_sub hl [1, 3, 4, 0] rfl)
                        · replace hf := if_f c_281 hf
                          refine lv_aload_n hx hb dX12_readFrame_284 rfl (lv_at hl 1 rfl) ?_
                          refine lv_aload_n hx hb dX12_readFrame_285 rfl (lv_at hl 1 rfl) ?_
                          refine va_get (D := (dC, dI)) (ci := 10) (v := .int p_12) (C := RX12) (T := TX12) (N := 32) hx hb hts inG_X12 hown hK hP 0 rfl rfl 31 (by decide) (hts _ kw_1083) (fun _ h9 => h9) rfl dX12_readFrame_286 ?_
                          refine lv_iconst (v := 4) hx hb dX12_readFrame_289 (by decide) ?_
                          refine lv_isub hx hb dX12_readFrame_290 ?_
                          refine lv_iconst (v := 4) hx hb dX12_readFrame_291 (by decide) ?_
                          obtain ⟨r64, hc, hf⟩ := bind_some hf
                          refine nx_l (rn_V (As := [.int (p_12 - (4 : Int32)), .int (4 : Int32)]) (rest := []) (n := 2) (ci := 10) (q0 := 0) ⟨hx, hb, hml, hown, hts⟩ (c_Mo_number (l := l) (dC := dC) (dI := dI) (cB := cB) (cI := cI) (h0 := h0) (a1 := (p_12 - (4 : Int32))) (a2 := (4 : Int32)) (h0_in := h0_in) (w_h0_inSize := (.int h0_inSize)) (w_h0_out := (w_h0_out)) (w_h0_outSize := (w_h0_outSize)) (w_h0_dict := (.ref h0_dict)) (w_h0_dictSize := (.int h0_dictSize)) (w_h0_told := (.ref h0_told)) (w_h0_fresh := (.ref h0_fresh)) (w_h0_freshSize := (.int h0_freshSize)) (w_h0_text := (w_h0_text)) (w_h0_lean := (w_h0_lean)) (w_h0_size := (w_h0_size)) (w_h0_most := (w_h0_most)) (w_h0_offset := (w_h0_offset)) (w_h0_copyAt := (w_h0_copyAt)) (w_h0_copies := (w_h0_copies)) (w_h0_copyLength := (w_h0_copyLength)) (w_h0_copyOffset := (w_h0_copyOffset)) (w_h0_fromHere := (w_h0_fromHere)) (w_h0_withCopy := (w_h0_withCopy)) (w_h0_bestCopy := (w_h0_bestCopy)) (w_h0_bestLiterals := (w_h0_bestLiterals)) (w_h0_copiesOf := (.int h0_copiesOf)) (w_h0_literalsOf := (.int h0_literalsOf)) (w_h0_partsOf := (.int h0_partsOf)) (w_h0_blocks := (w_h0_blocks)) (w_h0_blockMany := (w_h0_blockMany)) (w_h0_newBlocks := (.ref h0_newBlocks)) (w_h0_newMany := (.int h0_newMany)) (w_h0_rule := (.int h0_rule)) (w_h0_place := (.int h0_place)) (w_h0_at := (.int p_12)) (h0_in_n := h0_in_n) (h0_in_f := h0_in_f)  (o_r := r64) hc) (wV kw_1357 kw_1359 kw_73 kw_94 kw_1360) (by decide +kernel) ⟨Nat.le_of_ble_eq_true rfl, Nat.le_of_ble_eq_true rfl⟩ hK hP hD hN hT hS (va_free (wc := [(h0, .inr (10, [.ref h0_in, .int h0_inSize, w_h0_out, w_h0_outSize, .ref h0_dict, .int h0_dictSize, .ref h0_told, .ref h0_fresh, .int h0_freshSize, w_h0_text, w_h0_lean, w_h0_size, w_h0_most, w_h0_offset, w_h0_copyAt, w_h0_copies, w_h0_copyLength, w_h0_copyOffset, w_h0_fromHere, w_h0_withCopy, w_h0_bestCopy, w_h0_bestLiterals, .int h0_copiesOf, .int h0_literalsOf, .int h0_partsOf, w_h0_blocks, w_h0_blockMany, .ref h0_newBlocks, .int h0_newMany, .int h0_rule, .int h0_place, .int p_12])), (h0_in, .inl (cI, h0_in_n, .inl h0_in_f))]) hD hS hA [0, 1] rfl) [0, 1] rfl (by decide) rfl rfl rfl hl.1 rfl (lv_room (Nat.le_of_ble_eq_true rfl)) dX12_readFrame_292 ⟨Nat.le_of_ble_eq_true rfl, Nat.le_of_ble_eq_true rfl⟩) hP hD hS hA (wr := [(h0_told, .inl (cI, h0_told_n, .inl h0_told_f)), (h0_fresh, .inl (cI, h0_fresh_n, .inl h0_fresh_f)), (h0_newBlocks, .inl (cI, h0_newBlocks_n, .inl h0_newBlocks_f)), (h0_dict, .inl (cI, h0_dict_n, .inl h0_dict_f))]) (w1 := [(h0, .inr (10, [.ref h0_in, .int h0_inSize, w_h0_out, w_h0_outSize, .ref h0_dict, .int h0_dictSize, .ref h0_told, .ref h0_fresh, .int h0_freshSize, w_h0_text, w_h0_lean, w_h0_size, w_h0_most, w_h0_offset, w_h0_copyAt, w_h0_copies, w_h0_copyLength, w_h0_copyOffset, w_h0_fromHere, w_h0_withCopy, w_h0_bestCopy, w_h0_bestLiterals, .int h0_copiesOf, .int h0_literalsOf, .int h0_partsOf, w_h0_blocks, w_h0_blockMany, .ref h0_newBlocks, .int h0_newMany, .int h0_rule, .int h0_place, .int p_12])), (h0_in, .inl (cI, h0_in_n, .inl h0_in_f))]) (ws' := [(h0, .inr (10, [.ref h0_in, .int h0_inSize, w_h0_out, w_h0_outSize, .ref h0_dict, .int h0_dictSize, .ref h0_told, .ref h0_fresh, .int h0_freshSize, w_h0_text, w_h0_lean, w_h0_size, w_h0_most, w_h0_offset, w_h0_copyAt, w_h0_copies, w_h0_copyLength, w_h0_copyOffset, w_h0_fromHere, w_h0_withCopy, w_h0_bestCopy, w_h0_bestLiterals, .int h0_copiesOf, .int h0_literalsOf, .int h0_partsOf, w_h0_blocks, w_h0_blockMany, .ref h0_newBlocks, .int h0_newMany, .int h0_rule, .int h0_place, .int p_12])), (h0_in, .inl (cI, h0_in_n, .inl h0_in_f)), (h0_told, .inl (cI, h0_told_n, .inl h0_told_f)), (h0_fresh, .inl (cI, h0_fresh_n, .inl h0_fresh_f)), (h0_newBlocks, .inl (cI, h0_newBlocks_n, .inl h0_newBlocks_f)), (h0_dict, .inl (cI, h0_dict_n, .inl h0_dict_f))]) [0, 1] [2, 3, 4, 5] [4, 5, 0, 1, 2, 3] rfl rfl (by decide) (by decide) rfl (by decide) (fun H locs hP hD hS => ?_)
                          refine lv_l2i (v := (r64.toInt32)) hx hb dX12_readFrame_295 rfl ?_
                          refine lv_aload_n hx hb dX12_readFrame_296 rfl (lv_at hl 1 rfl) ?_
                          refine va_get (D := (dC, dI)) (ci := 10) (v := .ref h0_told) (C := RX12) (T := TX12) (N := 32) hx hb hts inG_X12 hown hK hP 0 rfl rfl 6 (by decide) (hts _ kw_1058) (fun _ h9 => h9) rfl dX12_readFrame_297 ?_
                          refine lv_iconst (v := 5) hx hb dX12_readFrame_300 (by decide) ?_
                          obtain ⟨hin, hf⟩ := chk_some hf
                          refine va_iald hx hb hK hP 2 1 rfl rfl hin dX12_readFrame_301 ?_
                          refine lv_icmp_eq (tgt := 318) hx hb dX12_readFrame_302 (by decide) (fun c_302 => ?_) (fun c_302 => ?_)
                          · replace hf := if_t c_302 hf
                            exact hJ_318  _ _ _ hf hP hD hS (lv_sub hl [1, 3, 4, 0] rfl)
                          · replace hf := if_f c_302 hf
                            refine lv_aload_n hx hb dX12_readFrame_305 rfl (lv_at hl 1 rfl) ?_
                            refine lv_bipush (v := 11) hx hb dX12_readFrame_306 (by decide) ?_
                            refine lv_aload_n hx hb dX12_readFrame_308 rfl (lv_at hl 1 rfl) ?_
                            refine va_get (D := (dC, dI)) (ci := 10) (v := .int p_12) (C := RX12) (T := TX12) (N := 32) hx hb hts inG_X12 hown hK hP 0 rfl rfl 31 (by decide) (hts _ kw_1083) (fun _ h9 => h9) rfl dX12_readFrame_309 ?_
                            refine lv_iconst (v := 4) hx hb dX12_readFrame_312 (by decide) ?_
                            refine lv_isub hx hb dX12_readFrame_313 ?_
                            obtain ⟨x, hc, hf⟩ := bind_some hf
                            obtain ⟨r65, u66, u67⟩ := x
                            dsimp only at hf
                            refine nx_i (rn_V (As := [.int (11 : Int32), .int (p_12 - (4 : Int32))]) (rest := []) (n := 2) (ci := 10) (q0 := 0) ⟨hx, hb, hml, hown, hts⟩ (c_Mo_no (l := l) (dC := dC) (dI := dI) (cB := cB) (cI := cI) (h0 := h0) (a1 := (11 : Int32)) (a2 := (p_12 - (4 : Int32))) (w_h0_in := (.ref h0_in)) (w_h0_inSize := (.int h0_inSize)) (w_h0_out := (w_h0_out)) (w_h0_outSize := (w_h0_outSize)) (w_h0_dict := (.ref h0_dict)) (w_h0_dictSize := (.int h0_dictSize)) (w_h0_told := (.ref h0_told)) (w_h0_fresh := (.ref h0_fresh)) (w_h0_freshSize := (.int h0_freshSize)) (w_h0_text := (w_h0_text)) (w_h0_lean := (w_h0_lean)) (w_h0_size := (w_h0_size)) (w_h0_most := (w_h0_most)) (w_h0_offset := (w_h0_offset)) (w_h0_copyAt := (w_h0_copyAt)) (w_h0_copies := (w_h0_copies)) (w_h0_copyLength := (w_h0_copyLength)) (w_h0_copyOffset := (w_h0_copyOffset)) (w_h0_fromHere := (w_h0_fromHere)) (w_h0_withCopy := (w_h0_withCopy)) (w_h0_bestCopy := (w_h0_bestCopy)) (w_h0_bestLiterals := (w_h0_bestLiterals)) (w_h0_copiesOf := (.int h0_copiesOf)) (w_h0_literalsOf := (.int h0_literalsOf)) (w_h0_partsOf := (.int h0_partsOf)) (w_h0_blocks := (w_h0_blocks)) (w_h0_blockMany := (w_h0_blockMany)) (w_h0_newBlocks := (.ref h0_newBlocks)) (w_h0_newMany := (.int h0_newMany)) (h0_rule := h0_rule) (h0_place := h0_place) (w_h0_at := (.int p_12)) (o_h0_rule := u66) (o_h0_place := u67) (o_r := r65) hc) (wV kw_1353 kw_1355 kw_72 kw_94 kw_1356) (by decide +kernel) ⟨Nat.le_of_ble_eq_true rfl, Nat.le_of_ble_eq_true rfl⟩ hK hP hD hN hT hS (va_free (wc := [(h0, .inr (10, [.ref h0_in, .int h0_inSize, w_h0_out, w_h0_outSize, .ref h0_dict, .int h0_dictSize, .ref h0_told, .ref h0_fresh, .int h0_freshSize, w_h0_text, w_h0_lean, w_h0_size, w_h0_most, w_h0_offset, w_h0_copyAt, w_h0_copies, w_h0_copyLength, w_h0_copyOffset, w_h0_fromHere, w_h0_withCopy, w_h0_bestCopy, w_h0_bestLiterals, .int h0_copiesOf, .int h0_literalsOf, .int h0_partsOf, w_h0_blocks, w_h0_blockMany, .ref h0_newBlocks, .int h0_newMany, .int h0_rule, .int h0_place, .int p_12]))]) hD hS hA [0] rfl) [0] rfl (by decide) rfl rfl rfl hl.1 rfl (lv_room (Nat.le_of_ble_eq_true rfl)) dX12_readFrame_314 ⟨Nat.le_of_ble_eq_true rfl, Nat.le_of_ble_eq_true rfl⟩) hP hD hS hA (wr := [(h0_in, .inl (cI, h0_in_n, .inl h0_in_f)), (h0_told, .inl (cI, h0_told_n, .inl h0_told_f)), (h0_fresh, .inl (cI, h0_fresh_n, .inl h0_fresh_f)), (h0_newBlocks, .inl (cI, h0_newBlocks_n, .inl h0_newBlocks_f)), (h0_dict, .inl (cI, h0_dict_n, .inl h0_dict_f))]) (w1 := [(h0, .inr (10, [.ref h0_in, .int h0_inSize, w_h0_out, w_h0_outSize, .ref h0_dict, .int h0_dictSize, .ref h0_told, .ref h0_fresh, .int h0_freshSize, w_h0_text, w_h0_lean, w_h0_size, w_h0_most, w_h0_offset, w_h0_copyAt, w_h0_copies, w_h0_copyLength, w_h0_copyOffset, w_h0_fromHere, w_h0_withCopy, w_h0_bestCopy, w_h0_bestLiterals, .int h0_copiesOf, .int h0_literalsOf, .int h0_partsOf, w_h0_blocks, w_h0_blockMany, .ref h0_newBlocks, .int h0_newMany, .int u66, .int u67, .int p_12]))]) (ws' := [(h0, .inr (10, [.ref h0_in, .int h0_inSize, w_h0_out, w_h0_outSize, .ref h0_dict, .int h0_dictSize, .ref h0_told, .ref h0_fresh, .int h0_freshSize, w_h0_text, w_h0_lean, w_h0_size, w_h0_most, w_h0_offset, w_h0_copyAt, w_h0_copies, w_h0_copyLength, w_h0_copyOffset, w_h0_fromHere, w_h0_withCopy, w_h0_bestCopy, w_h0_bestLiterals, .int h0_copiesOf, .int h0_literalsOf, .int h0_partsOf, w_h0_blocks, w_h0_blockMany, .ref h0_newBlocks, .int h0_newMany, .int u66, .int u67, .int p_12])), (h0_in, .inl (cI, h0_in_n, .inl h0_in_f)), (h0_told, .inl (cI, h0_told_n, .inl h0_told_f)), (h0_fresh, .inl (cI, h0_fresh_n, .inl h0_fresh_f)), (h0_newBlocks, .inl (cI, h0_newBlocks_n, .inl h0_newBlocks_f)), (h0_dict, .inl (cI, h0_dict_n, .inl h0_dict_f))]) [0] [1, 2, 3, 4, 5] [5, 0, 1, 2, 3, 4] rfl rfl (by decide) (by decide) rfl (by decide) (fun H locs hP hD hS => ?_)
                            obtain ⟨hzb, hf⟩ := bch_some hf
                            obtain ⟨rfl, hq_1⟩ := Prod.mk.inj (Option.some.inj hf)
                            obtain ⟨rfl, hq_2⟩ := Prod.mk.inj hq_1
                            obtain ⟨rfl, hq_3⟩ := Prod.mk.inj hq_2
                            obtain ⟨rfl, hq_4⟩ := Prod.mk.inj hq_3
                            obtain ⟨rfl, hq_5⟩ := Prod.mk.inj hq_4
                            obtain ⟨rfl, hq_6⟩ := Prod.mk.inj hq_5
                            obtain ⟨rfl, hq_7⟩ := Prod.mk.inj hq_6
                            obtain ⟨rfl, hq_8⟩ := Prod.mk.inj hq_7
                            obtain ⟨rfl, hq_9⟩ := Prod.mk.inj hq_8
                            obtain ⟨rfl, hq_10⟩ := Prod.mk.inj hq_9
                            obtain rfl := hq_10
                            exact rt_z hQ hx hb hr hzb hlocks hP hD hS dX12_readFrame_317
                      · replace hf := if_f c_264 hf
                        refine lv_aload_n hx hb dX12_readFrame_267 rfl (lv_at hl 1 rfl) ?_
                        refine lv_bipush (v := 6) hx hb dX12_readFrame_268 (by decide) ?_
                        refine lv_aload_n hx hb dX12_readFrame_270 rfl (lv_at hl 1 rfl) ?_
                        refine va_get (D := (dC, dI)) (ci := 10) (v := .int p_12) (C := RX12) (T := TX12) (N := 32) hx hb hts inG_X12 hown hK hP 0 rfl rfl 31 (by decide) (hts _ kw_1083) (fun _ h9 => h9) rfl dX12_readFrame_271 ?_
                        obtain ⟨x, hc, hf⟩ := bind_some hf
                        obtain ⟨r68, u69, u70⟩ := x
                        dsimp only at hf
                        refine nx_i (rn_V (As := [.int (6 : Int32), .int p_12]) (rest := []) (n := 2) (ci := 10) (q0 := 0) ⟨hx, hb, hml, hown, hts⟩ (c_Mo_no (l := l) (dC := dC) (dI := dI) (cB := cB) (cI := cI) (h0 := h0) (a1 := (6 : Int32)) (a2 := p_12) (w_h0_in := (.ref h0_in)) (w_h0_inSize := (.int h0_inSize)) (w_h0_out := (w_h0_out)) (w_h0_outSize := (w_h0_outSize)) (w_h0_dict := (.ref h0_dict)) (w_h0_dictSize := (.int h0_dictSize)) (w_h0_told := (.ref h0_told)) (w_h0_fresh := (.ref h0_fresh)) (w_h0_freshSize := (.int h0_freshSize)) (w_h0_text := (w_h0_text)) (w_h0_lean := (w_h0_lean)) (w_h0_size := (w_h0_size)) (w_h0_most := (w_h0_most)) (w_h0_offset := (w_h0_offset)) (w_h0_copyAt := (w_h0_copyAt)) (w_h0_copies := (w_h0_copies)) (w_h0_copyLength := (w_h0_copyLength)) (w_h0_copyOffset := (w_h0_copyOffset)) (w_h0_fromHere := (w_h0_fromHere)) (w_h0_withCopy := (w_h0_withCopy)) (w_h0_bestCopy := (w_h0_bestCopy)) (w_h0_bestLiterals := (w_h0_bestLiterals)) (w_h0_copiesOf := (.int h0_copiesOf)) (w_h0_literalsOf := (.int h0_literalsOf)) (w_h0_partsOf := (.int h0_partsOf)) (w_h0_blocks := (w_h0_blocks)) (w_h0_blockMany := (w_h0_blockMany)) (w_h0_newBlocks := (.ref h0_newBlocks)) (w_h0_newMany := (.int h0_newMany)) (h0_rule := h0_rule) (h0_place := h0_place) (w_h0_at := (.int p_12)) (o_h0_rule := u69) (o_h0_place := u70) (o_r := r68) hc) (wV kw_1353 kw_1355 kw_72 kw_94 kw_1356) (by decide +kernel) ⟨Nat.le_of_ble_eq_true rfl, Nat.le_of_ble_eq_true rfl⟩ hK hP hD hN hT hS (va_free (wc := [(h0, .inr (10, [.ref h0_in, .int h0_inSize, w_h0_out, w_h0_outSize, .ref h0_dict, .int h0_dictSize, .ref h0_told, .ref h0_fresh, .int h0_freshSize, w_h0_text, w_h0_lean, w_h0_size, w_h0_most, w_h0_offset, w_h0_copyAt, w_h0_copies, w_h0_copyLength, w_h0_copyOffset, w_h0_fromHere, w_h0_withCopy, w_h0_bestCopy, w_h0_bestLiterals, .int h0_copiesOf, .int h0_literalsOf, .int h0_partsOf, w_h0_blocks, w_h0_blockMany, .ref h0_newBlocks, .int h0_newMany, .int h0_rule, .int h0_place, .int p_12]))]) hD hS hA [0] rfl) [0] rfl (by decide) rfl rfl rfl hl.1 rfl (lv_room (Nat.le_of_ble_eq_true rfl)) dX12_readFrame_274 ⟨Nat.le_of_ble_eq_true rfl, Nat.le_of_ble_eq_true rfl⟩) hP hD hS hA (wr := [(h0_in, .inl (cI, h0_in_n, .inl h0_in_f)), (h0_told, .inl (cI, h0_told_n, .inl h0_told_f)), (h0_fresh, .inl (cI, h0_fresh_n, .inl h0_fresh_f)), (h0_newBlocks, .inl (cI, h0_newBlocks_n, .inl h0_newBlocks_f)), (h0_dict, .inl (cI, h0_dict_n, .inl h0_dict_f))]) (w1 := [(h0, .inr (10, [.ref h0_in, .int h0_inSize, w_h0_out, w_h0_outSize, .ref h0_dict, .int h0_dictSize, .ref h0_told, .ref h0_fresh, .int h0_freshSize, w_h0_text, w_h0_lean, w_h0_size, w_h0_most, w_h0_offset, w_h0_copyAt, w_h0_copies, w_h0_copyLength, w_h0_copyOffset, w_h0_fromHere, w_h0_withCopy, w_h0_bestCopy, w_h0_bestLiterals, .int h0_copiesOf, .int h0_literalsOf, .int h0_partsOf, w_h0_blocks, w_h0_blockMany, .ref h0_newBlocks, .int h0_newMany, .int u69, .int u70, .int p_12]))]) (ws' := [(h0, .inr (10, [.ref h0_in, .int h0_inSize, w_h0_out, w_h0_outSize, .ref h0_dict, .int h0_dictSize, .ref h0_told, .ref h0_fresh, .int h0_freshSize, w_h0_text, w_h0_lean, w_h0_size, w_h0_most, w_h0_offset, w_h0_copyAt, w_h0_copies, w_h0_copyLength, w_h0_copyOffset, w_h0_fromHere, w_h0_withCopy, w_h0_bestCopy, w_h0_bestLiterals, .int h0_copiesOf, .int h0_literalsOf, .int h0_partsOf, w_h0_blocks, w_h0_blockMany, .ref h0_newBlocks, .int h0_newMany, .int u69, .int u70, .int p_12])), (h0_in, .inl (cI, h0_in_n, .inl h0_in_f)), (h0_told, .inl (cI, h0_told_n, .inl h0_told_f)), (h0_fresh, .inl (cI, h0_fresh_n, .inl h0_fresh_f)), (h0_newBlocks, .inl (cI, h0_newBlocks_n, .inl h0_newBlocks_f)), (h0_dict, .inl (cI, h0_dict_n, .inl h0_dict_f))]) [0] [1, 2, 3, 4, 5] [5, 0, 1, 2, 3, 4] rfl rfl (by decide) (by decide) rfl (by decide) (fun H locs hP hD hS => ?_)
                        obtain ⟨hzb, hf⟩ := bch_some hf
                        obtain ⟨rfl, hq_1⟩ := Prod.mk.inj (Option.some.inj hf)
                        obtain ⟨rfl, hq_2⟩ := Prod.mk.inj hq_1
                        obtain ⟨rfl, hq_3⟩ := Prod.mk.inj hq_2
                        obtain ⟨rfl, hq_4⟩ := Prod.mk.inj hq_3
                        obtain ⟨rfl, hq_5⟩ := Prod.mk.inj hq_4
                        obtain ⟨rfl, hq_6⟩ := Prod.mk.inj hq_5
                        obtain ⟨rfl, hq_7⟩ := Prod.mk.inj hq_6
                        obtain ⟨rfl, hq_8⟩ := Prod.mk.inj hq_7
                        obtain ⟨rfl, hq_9⟩ := Prod.mk.inj hq_8
                        obtain ⟨rfl, hq_10⟩ := Prod.mk.inj hq_9
                        obtain rfl := hq_10
                        exact rt_z hQ hx hb hr hzb hlocks hP hD hS dX12_readFrame_277
                    refine lv_if_eq (tgt := 218) hx hb dX12_readFrame_202 (by decide) (fun c_202 => ?_) (fun c_202 => ?_)
                    · replace hf := if_t c_202 hf
                      refine lv_lconst (v := 0) hx hb dX12_readFrame_218 (by decide) ?_
                      exact hJ_219 (0 : Int64) _ _ _ hf hP hD hS (lv_sub hl [1, 2, 3, 4, 0] rfl)
                    · replace hf := if_f c_202 hf
                      refine lv_aload_n hx hb dX12_readFrame_205 rfl (lv_at hl 1 rfl) ?_
                      refine lv_aload_n hx hb dX12_readFrame_206 rfl (lv_at hl 1 rfl) ?_
                      refine va_get (D := (dC, dI)) (ci := 10) (v := .int p_7) (C := RX12) (T := TX12) (N := 32) hx hb hts inG_X12 hown hK hP 0 rfl rfl 31 (by decide) (hts _ kw_1083) (fun _ h9 => h9) rfl dX12_readFrame_207 ?_
                      refine lv_bipush (v := 8) hx hb dX12_readFrame_210 (by decide) ?_
                      obtain ⟨r71, hc, hf⟩ := bind_some hf
                      refine nx_l (rn_V (As := [.int p_7, .int (8 : Int32)]) (rest := []) (n := 2) (ci := 10) (q0 := 0) ⟨hx, hb, hml, hown, hts⟩ (c_Mo_number (l := l) (dC := dC) (dI := dI) (cB := cB) (cI := cI) (h0 := h0) (a1 := p_7) (a2 := (8 : Int32)) (h0_in := h0_in) (w_h0_inSize := (.int h0_inSize)) (w_h0_out := (w_h0_out)) (w_h0_outSize := (w_h0_outSize)) (w_h0_dict := (.ref h0_dict)) (w_h0_dictSize := (.int h0_dictSize)) (w_h0_told := (.ref h0_told)) (w_h0_fresh := (.ref h0_fresh)) (w_h0_freshSize := (.int h0_freshSize)) (w_h0_text := (w_h0_text)) (w_h0_lean := (w_h0_lean)) (w_h0_size := (w_h0_size)) (w_h0_most := (w_h0_most)) (w_h0_offset := (w_h0_offset)) (w_h0_copyAt := (w_h0_copyAt)) (w_h0_copies := (w_h0_copies)) (w_h0_copyLength := (w_h0_copyLength)) (w_h0_copyOffset := (w_h0_copyOffset)) (w_h0_fromHere := (w_h0_fromHere)) (w_h0_withCopy := (w_h0_withCopy)) (w_h0_bestCopy := (w_h0_bestCopy)) (w_h0_bestLiterals := (w_h0_bestLiterals)) (w_h0_copiesOf := (.int h0_copiesOf)) (w_h0_literalsOf := (.int h0_literalsOf)) (w_h0_partsOf := (.int h0_partsOf)) (w_h0_blocks := (w_h0_blocks)) (w_h0_blockMany := (w_h0_blockMany)) (w_h0_newBlocks := (.ref h0_newBlocks)) (w_h0_newMany := (.int h0_newMany)) (w_h0_rule := (.int h0_rule)) (w_h0_place := (.int h0_place)) (w_h0_at := (.int p_7)) (h0_in_n := h0_in_n) (h0_in_f := h0_in_f)  (o_r := r71) hc) (wV kw_1357 kw_1359 kw_73 kw_94 kw_1360) (by decide +kernel) ⟨Nat.le_of_ble_eq_true rfl, Nat.le_of_ble_eq_true rfl⟩ hK hP hD hN hT hS (va_free (wc := [(h0, .inr (10, [.ref h0_in, .int h0_inSize, w_h0_out, w_h0_outSize, .ref h0_dict, .int h0_dictSize, .ref h0_told, .ref h0_fresh, .int h0_freshSize, w_h0_text, w_h0_lean, w_h0_size, w_h0_most, w_h0_offset, w_h0_copyAt, w_h0_copies, w_h0_copyLength, w_h0_copyOffset, w_h0_fromHere, w_h0_withCopy, w_h0_bestCopy, w_h0_bestLiterals, .int h0_copiesOf, .int h0_literalsOf, .int h0_partsOf, w_h0_blocks, w_h0_blockMany, .ref h0_newBlocks, .int h0_newMany, .int h0_rule, .int h0_place, .int p_7])), (h0_in, .inl (cI, h0_in_n, .inl h0_in_f))]) hD hS hA [0, 1] rfl) [0, 1] rfl (by decide) rfl rfl rfl hl.1 rfl (lv_room (Nat.le_of_ble_eq_true rfl)) dX12_readFrame_212 ⟨Nat.le_of_ble_eq_true rfl, Nat.le_of_ble_eq_true rfl⟩) hP hD hS hA (wr := [(h0_told, .inl (cI, h0_told_n, .inl h0_told_f)), (h0_fresh, .inl (cI, h0_fresh_n, .inl h0_fresh_f)), (h0_newBlocks, .inl (cI, h0_newBlocks_n, .inl h0_newBlocks_f)), (h0_dict, .inl (cI, h0_dict_n, .inl h0_dict_f))]) (w1 := [(h0, .inr (10, [.ref h0_in, .int h0_inSize, w_h0_out, w_h0_outSize, .ref h0_dict, .int h0_dictSize, .ref h0_told, .ref h0_fresh, .int h0_freshSize, w_h0_text, w_h0_lean, w_h0_size, w_h0_most, w_h0_offset, w_h0_copyAt, w_h0_copies, w_h0_copyLength, w_h0_copyOffset, w_h0_fromHere, w_h0_withCopy, w_h0_bestCopy, w_h0_bestLiterals, .int h0_copiesOf, .int h0_literalsOf, .int h0_partsOf, w_h0_blocks, w_h0_blockMany, .ref h0_newBlocks, .int h0_newMany, .int h0_rule, .int h0_place, .int p_7])), (h0_in, .inl (cI, h0_in_n, .inl h0_in_f))]) (ws' := [(h0, .inr (10, [.ref h0_in, .int h0_inSize, w_h0_out, w_h0_outSize, .ref h0_dict, .int h0_dictSize, .ref h0_told, .ref h0_fresh, .int h0_freshSize, w_h0_text, w_h0_lean, w_h0_size, w_h0_most, w_h0_offset, w_h0_copyAt, w_h0_copies, w_h0_copyLength, w_h0_copyOffset, w_h0_fromHere, w_h0_withCopy, w_h0_bestCopy, w_h0_bestLiterals, .int h0_copiesOf, .int h0_literalsOf, .int h0_partsOf, w_h0_blocks, w_h0_blockMany, .ref h0_newBlocks, .int h0_newMany, .int h0_rule, .int h0_place, .int p_7])), (h0_in, .inl (cI, h0_in_n, .inl h0_in_f)), (h0_told, .inl (cI, h0_told_n, .inl h0_told_f)), (h0_fresh, .inl (cI, h0_fresh_n, .inl h0_fresh_f)), (h0_newBlocks, .inl (cI, h0_newBlocks_n, .inl h0_newBlocks_f)), (h0_dict, .inl (cI, h0_dict_n, .inl h0_dict_f))]) [0, 1] [2, 3, 4, 5] [4, 5, 0, 1, 2, 3] rfl rfl (by decide) (by decide) rfl (by decide) (fun H locs hP hD hS => ?_)
                      refine lv_goto (tgt := 219) hx hb dX12_readFrame_215 (by decide) ?_
                      exact hJ_219 r71 _ _ _ hf hP hD hS (lv_sub hl [1, 2, 3, 4, 0] rfl)
                  · replace hf := if_f c_185 hf
                    refine lv_aload_n hx hb dX12_readFrame_188 rfl (lv_at hl 1 rfl) ?_
                    refine lv_iconst (v := 1) hx hb dX12_readFrame_189 (by decide) ?_
                    refine lv_aload_n hx hb dX12_readFrame_190 rfl (lv_at hl 1 rfl) ?_
                    refine va_get (D := (dC, dI)) (ci := 10) (v := .int h0_inSize) (C := RX12) (T := TX12) (N := 32) hx hb hts inG_X12 hown hK hP 0 rfl rfl 1 (by decide) (hts _ kw_1053) (fun _ h9 => h9) rfl dX12_readFrame_191 ?_
                    obtain ⟨x, hc, hf⟩ := bind_some hf
                    obtain ⟨r72, u73, u74⟩ := x
                    dsimp only at hf
                    refine nx_i (rn_V (As := [.int (1 : Int32), .int h0_inSize]) (rest := []) (n := 2) (ci := 10) (q0 := 0) ⟨hx, hb, hml, hown, hts⟩ (c_Mo_no (l := l) (dC := dC) (dI := dI) (cB := cB) (cI := cI) (h0 := h0) (a1 := (1 : Int32)) (a2 := h0_inSize) (w_h0_in := (.ref h0_in)) (w_h0_inSize := (.int h0_inSize)) (w_h0_out := (w_h0_out)) (w_h0_outSize := (w_h0_outSize)) (w_h0_dict := (.ref h0_dict)) (w_h0_dictSize := (.int h0_dictSize)) (w_h0_told := (.ref h0_told)) (w_h0_fresh := (.ref h0_fresh)) (w_h0_freshSize := (.int h0_freshSize)) (w_h0_text := (w_h0_text)) (w_h0_lean := (w_h0_lean)) (w_h0_size := (w_h0_size)) (w_h0_most := (w_h0_most)) (w_h0_offset := (w_h0_offset)) (w_h0_copyAt := (w_h0_copyAt)) (w_h0_copies := (w_h0_copies)) (w_h0_copyLength := (w_h0_copyLength)) (w_h0_copyOffset := (w_h0_copyOffset)) (w_h0_fromHere := (w_h0_fromHere)) (w_h0_withCopy := (w_h0_withCopy)) (w_h0_bestCopy := (w_h0_bestCopy)) (w_h0_bestLiterals := (w_h0_bestLiterals)) (w_h0_copiesOf := (.int h0_copiesOf)) (w_h0_literalsOf := (.int h0_literalsOf)) (w_h0_partsOf := (.int h0_partsOf)) (w_h0_blocks := (w_h0_blocks)) (w_h0_blockMany := (w_h0_blockMany)) (w_h0_newBlocks := (.ref h0_newBlocks)) (w_h0_newMany := (.int h0_newMany)) (h0_rule := h0_rule) (h0_place := h0_place) (w_h0_at := (.int p_7)) (o_h0_rule := u73) (o_h0_place := u74) (o_r := r72) hc) (wV kw_1353 kw_1355 kw_72 kw_94 kw_1356) (by decide +kernel) ⟨Nat.le_of_ble_eq_true rfl, Nat.le_of_ble_eq_true rfl⟩ hK hP hD hN hT hS (va_free (wc := [(h0, .inr (10, [.ref h0_in, .int h0_inSize, w_h0_out, w_h0_outSize, .ref h0_dict, .int h0_dictSize, .ref h0_told, .ref h0_fresh, .int h0_freshSize, w_h0_text, w_h0_lean, w_h0_size, w_h0_most, w_h0_offset, w_h0_copyAt, w_h0_copies, w_h0_copyLength, w_h0_copyOffset, w_h0_fromHere, w_h0_withCopy, w_h0_bestCopy, w_h0_bestLiterals, .int h0_copiesOf, .int h0_literalsOf, .int h0_partsOf, w_h0_blocks, w_h0_blockMany, .ref h0_newBlocks, .int h0_newMany, .int h0_rule, .int h0_place, .int p_7]))]) hD hS hA [0] rfl) [0] rfl (by decide) rfl rfl rfl hl.1 rfl (lv_room (Nat.le_of_ble_eq_true rfl)) dX12_readFrame_194 ⟨Nat.le_of_ble_eq_true rfl, Nat.le_of_ble_eq_true rfl⟩) hP hD hS hA (wr := [(h0_in, .inl (cI, h0_in_n, .inl h0_in_f)), (h0_told, .inl (cI, h0_told_n, .inl h0_told_f)), (h0_fresh, .inl (cI, h0_fresh_n, .inl h0_fresh_f)), (h0_newBlocks, .inl (cI, h0_newBlocks_n, .inl h0_newBlocks_f)), (h0_dict, .inl (cI, h0_dict_n, .inl h0_dict_f))]) (w1 := [(h0, .inr (10, [.ref h0_in, .int h0_inSize, w_h0_out, w_h0_outSize, .ref h0_dict, .int h0_dictSize, .ref h0_told, .ref h0_fresh, .int h0_freshSize, w_h0_text, w_h0_lean, w_h0_size, w_h0_most, w_h0_offset, w_h0_copyAt, w_h0_copies, w_h0_copyLength, w_h0_copyOffset, w_h0_fromHere, w_h0_withCopy, w_h0_bestCopy, w_h0_bestLiterals, .int h0_copiesOf, .int h0_literalsOf, .int h0_partsOf, w_h0_blocks, w_h0_blockMany, .ref h0_newBlocks, .int h0_newMany, .int u73, .int u74, .int p_7]))]) (ws' := [(h0, .inr (10, [.ref h0_in, .int h0_inSize, w_h0_out, w_h0_outSize, .ref h0_dict, .int h0_dictSize, .ref h0_told, .ref h0_fresh, .int h0_freshSize, w_h0_text, w_h0_lean, w_h0_size, w_h0_most, w_h0_offset, w_h0_copyAt, w_h0_copies, w_h0_copyLength, w_h0_copyOffset, w_h0_fromHere, w_h0_withCopy, w_h0_bestCopy, w_h0_bestLiterals, .int h0_copiesOf, .int h0_literalsOf, .int h0_partsOf, w_h0_blocks, w_h0_blockMany, .ref h0_newBlocks, .int h0_newMany, .int u73, .int u74, .int p_7])), (h0_in, .inl (cI, h0_in_n, .inl h0_in_f)), (h0_told, .inl (cI, h0_told_n, .inl h0_told_f)), (h0_fresh, .inl (cI, h0_fresh_n, .inl h0_fresh_f)), (h0_newBlocks, .inl (cI, h0_newBlocks_n, .inl h0_newBlocks_f)), (h0_dict, .inl (cI, h0_dict_n, .inl h0_dict_f))]) [0] [1, 2, 3, 4, 5] [5, 0, 1, 2, 3, 4] rfl rfl (by decide) (by decide) rfl (by decide) (fun H locs hP hD hS => ?_)
                    obtain ⟨hzb, hf⟩ := bch_some hf
                    obtain ⟨rfl, hq_1⟩ := Prod.mk.inj (Option.some.inj hf)
                    obtain ⟨rfl, hq_2⟩ := Prod.mk.inj hq_1
                    obtain ⟨rfl, hq_3⟩ := Prod.mk.inj hq_2
                    obtain ⟨rfl, hq_4⟩ := Prod.mk.inj hq_3
                    obtain ⟨rfl, hq_5⟩ := Prod.mk.inj hq_4
                    obtain ⟨rfl, hq_6⟩ := Prod.mk.inj hq_5
                    obtain ⟨rfl, hq_7⟩ := Prod.mk.inj hq_6
                    obtain ⟨rfl, hq_8⟩ := Prod.mk.inj hq_7
                    obtain ⟨rfl, hq_9⟩ := Prod.mk.inj hq_8
                    obtain ⟨rfl, hq_10⟩ := Prod.mk.inj hq_9
                    obtain rfl := hq_10
                    exact rt_z hQ hx hb hr hzb hlocks hP hD hS dX12_readFrame_197
                refine lv_if_eq (tgt := 168) hx hb dX12_readFrame_161 (by decide) (fun c_161 => ?_) (fun c_161 => ?_)
                · replace hf := if_t c_161 hf
                  refine lv_iconst (v := 0) hx hb dX12_readFrame_168 (by decide) ?_
                  exact hJ_169 (0 : Int32) _ _ _ hf hP hD hS (lv_sub hl [0, 1, 2, 3] rfl)
                · replace hf := if_f c_161 hf
                  refine lv_iconst (v := 4) hx hb dX12_readFrame_164 (by decide) ?_
                  refine lv_goto (tgt := 169) hx hb dX12_readFrame_165 (by decide) ?_
                  exact hJ_169 (4 : Int32) _ _ _ hf hP hD hS (lv_sub hl [0, 1, 2, 3] rfl)
              refine lv_if_eq (tgt := 157) hx hb dX12_readFrame_149 (by decide) (fun c_149 => ?_) (fun c_149 => ?_)
              · replace hf := if_t c_149 hf
                refine lv_iconst (v := 0) hx hb dX12_readFrame_157 (by decide) ?_
                exact hJ_158 (0 : Int32) _ _ _ hf hP hD hS (lv_sub hl [3, 2, 1, 0] rfl)
              · replace hf := if_f c_149 hf
                refine lv_bipush (v := 8) hx hb dX12_readFrame_152 (by decide) ?_
                refine lv_goto (tgt := 158) hx hb dX12_readFrame_154 (by decide) ?_
                exact hJ_158 (8 : Int32) _ _ _ hf hP hD hS (lv_sub hl [3, 2, 1, 0] rfl)
            · replace hf := if_f c_122 hf
              exact hJ_125  _ _ _ hf hP hD hS (lv_sub hl [3] rfl)
      · replace hf := if_t c_74 hf
        refine lv_aload_n hx hb dX12_readFrame_77 rfl (lv_at hl 2 rfl) ?_
        refine lv_iconst (v := 1) hx hb dX12_readFrame_78 (by decide) ?_
        refine lv_aload_n hx hb dX12_readFrame_79 rfl (lv_at hl 2 rfl) ?_
        refine va_get (D := (dC, dI)) (ci := 10) (v := .int h0_inSize) (C := RX12) (T := TX12) (N := 32) hx hb hts inG_X12 hown hK hP 0 rfl rfl 1 (by decide) (hts _ kw_1053) (fun _ h9 => h9) rfl dX12_readFrame_80 ?_
        obtain ⟨x, hc, hf⟩ := bind_some hf
        obtain ⟨r75, u76, u77⟩ := x
        dsimp only at hf
        refine nx_i (rn_V (As := [.int (1 : Int32), .int h0_inSize]) (rest := []) (n := 2) (ci := 10) (q0 := 0) ⟨hx, hb, hml, hown, hts⟩ (c_Mo_no (l := l) (dC := dC) (dI := dI) (cB := cB) (cI := cI) (h0 := h0) (a1 := (1 : Int32)) (a2 := h0_inSize) (w_h0_in := (.ref h0_in)) (w_h0_inSize := (.int h0_inSize)) (w_h0_out := (w_h0_out)) (w_h0_outSize := (w_h0_outSize)) (w_h0_dict := (.ref h0_dict)) (w_h0_dictSize := (.int h0_dictSize)) (w_h0_told := (.ref h0_told)) (w_h0_fresh := (.ref h0_fresh)) (w_h0_freshSize := (.int h0_freshSize)) (w_h0_text := (w_h0_text)) (w_h0_lean := (w_h0_lean)) (w_h0_size := (w_h0_size)) (w_h0_most := (w_h0_most)) (w_h0_offset := (w_h0_offset)) (w_h0_copyAt := (w_h0_copyAt)) (w_h0_copies := (w_h0_copies)) (w_h0_copyLength := (w_h0_copyLength)) (w_h0_copyOffset := (w_h0_copyOffset)) (w_h0_fromHere := (w_h0_fromHere)) (w_h0_withCopy := (w_h0_withCopy)) (w_h0_bestCopy := (w_h0_bestCopy)) (w_h0_bestLiterals := (w_h0_bestLiterals)) (w_h0_copiesOf := (.int h0_copiesOf)) (w_h0_literalsOf := (.int h0_literalsOf)) (w_h0_partsOf := (.int h0_partsOf)) (w_h0_blocks := (w_h0_blocks)) (w_h0_blockMany := (w_h0_blockMany)) (w_h0_newBlocks := (.ref h0_newBlocks)) (w_h0_newMany := (.int h0_newMany)) (h0_rule := h0_rule) (h0_place := h0_place) (w_h0_at := (.int p_2)) (o_h0_rule := u76) (o_h0_place := u77) (o_r := r75) hc) (wV kw_1353 kw_1355 kw_72 kw_94 kw_1356) (by decide +kernel) ⟨Nat.le_of_ble_eq_true rfl, Nat.le_of_ble_eq_true rfl⟩ hK hP hD hN hT hS (va_free (wc := [(h0, .inr (10, [.ref h0_in, .int h0_inSize, w_h0_out, w_h0_outSize, .ref h0_dict, .int h0_dictSize, .ref h0_told, .ref h0_fresh, .int h0_freshSize, w_h0_text, w_h0_lean, w_h0_size, w_h0_most, w_h0_offset, w_h0_copyAt, w_h0_copies, w_h0_copyLength, w_h0_copyOffset, w_h0_fromHere, w_h0_withCopy, w_h0_bestCopy, w_h0_bestLiterals, .int h0_copiesOf, .int h0_literalsOf, .int h0_partsOf, w_h0_blocks, w_h0_blockMany, .ref h0_newBlocks, .int h0_newMany, .int h0_rule, .int h0_place, .int p_2]))]) hD hS hA [0] rfl) [0] rfl (by decide) rfl rfl rfl hl.1 rfl (lv_room (Nat.le_of_ble_eq_true rfl)) dX12_readFrame_83 ⟨Nat.le_of_ble_eq_true rfl, Nat.le_of_ble_eq_true rfl⟩) hP hD hS hA (wr := [(h0_in, .inl (cI, h0_in_n, .inl h0_in_f)), (h0_told, .inl (cI, h0_told_n, .inl h0_told_f)), (h0_fresh, .inl (cI, h0_fresh_n, .inl h0_fresh_f)), (h0_newBlocks, .inl (cI, h0_newBlocks_n, .inl h0_newBlocks_f)), (h0_dict, .inl (cI, h0_dict_n, .inl h0_dict_f))]) (w1 := [(h0, .inr (10, [.ref h0_in, .int h0_inSize, w_h0_out, w_h0_outSize, .ref h0_dict, .int h0_dictSize, .ref h0_told, .ref h0_fresh, .int h0_freshSize, w_h0_text, w_h0_lean, w_h0_size, w_h0_most, w_h0_offset, w_h0_copyAt, w_h0_copies, w_h0_copyLength, w_h0_copyOffset, w_h0_fromHere, w_h0_withCopy, w_h0_bestCopy, w_h0_bestLiterals, .int h0_copiesOf, .int h0_literalsOf, .int h0_partsOf, w_h0_blocks, w_h0_blockMany, .ref h0_newBlocks, .int h0_newMany, .int u76, .int u77, .int p_2]))]) (ws' := [(h0, .inr (10, [.ref h0_in, .int h0_inSize, w_h0_out, w_h0_outSize, .ref h0_dict, .int h0_dictSize, .ref h0_told, .ref h0_fresh, .int h0_freshSize, w_h0_text, w_h0_lean, w_h0_size, w_h0_most, w_h0_offset, w_h0_copyAt, w_h0_copies, w_h0_copyLength, w_h0_copyOffset, w_h0_fromHere, w_h0_withCopy, w_h0_bestCopy, w_h0_bestLiterals, .int h0_copiesOf, .int h0_literalsOf, .int h0_partsOf, w_h0_blocks, w_h0_blockMany, .ref h0_newBlocks, .int h0_newMany, .int u76, .int u77, .int p_2])), (h0_in, .inl (cI, h0_in_n, .inl h0_in_f)), (h0_told, .inl (cI, h0_told_n, .inl h0_told_f)), (h0_fresh, .inl (cI, h0_fresh_n, .inl h0_fresh_f)), (h0_newBlocks, .inl (cI, h0_newBlocks_n, .inl h0_newBlocks_f)), (h0_dict, .inl (cI, h0_dict_n, .inl h0_dict_f))]) [0] [1, 2, 3, 4, 5] [5, 0, 1, 2, 3, 4] rfl rfl (by decide) (by decide) rfl (by decide) (fun H locs hP hD hS => ?_)
        obtain ⟨hzb, hf⟩ := bch_some hf
        obtain ⟨rfl, hq_1⟩ := Prod.mk.inj (Option.some.inj hf)
        obtain ⟨rfl, hq_2⟩ := Prod.mk.inj hq_1
        obtain ⟨rfl, hq_3⟩ := Prod.mk.inj hq_2
        obtain ⟨rfl, hq_4⟩ := Prod.mk.inj hq_3
        obtain ⟨rfl, hq_5⟩ := Prod.mk.inj hq_4
        obtain ⟨rfl, hq_6⟩ := Prod.mk.inj hq_5
        obtain ⟨rfl, hq_7⟩ := Prod.mk.inj hq_6
        obtain ⟨rfl, hq_8⟩ := Prod.mk.inj hq_7
        obtain ⟨rfl, hq_9⟩ := Prod.mk.inj hq_8
        obtain ⟨rfl, hq_10⟩ := Prod.mk.inj hq_9
        obtain rfl := hq_10
        exact rt_z hQ hx hb hr hzb hlocks hP hD hS dX12_readFrame_86
    · replace hf := if_f c_43 hf
      refine lv_aload_n hx hb dX12_readFrame_46 rfl (lv_at hl 2 rfl) ?_
      refine lv_iconst (v := 5) hx hb dX12_readFrame_47 (by decide) ?_
      refine lv_aload_n hx hb dX12_readFrame_48 rfl (lv_at hl 2 rfl) ?_
      refine va_get (D := (dC, dI)) (ci := 10) (v := .int h0_at) (C := RX12) (T := TX12) (N := 32) hx hb hts inG_X12 hown hK hP 0 rfl rfl 31 (by decide) (hts _ kw_1083) (fun _ h9 => h9) rfl dX12_readFrame_49 ?_
      obtain ⟨x, hc, hf⟩ := bind_some hf
      obtain ⟨r78, u79, u80⟩ := x
      dsimp only at hf
      refine nx_i (rn_V (As := [.int (5 : Int32), .int h0_at]) (rest := []) (n := 2) (ci := 10) (q0 := 0) ⟨hx, hb, hml, hown, hts⟩ (c_Mo_no (l := l) (dC := dC) (dI := dI) (cB := cB) (cI := cI) (h0 := h0) (a1 := (5 : Int32)) (a2 := h0_at) (w_h0_in := (.ref h0_in)) (w_h0_inSize := (.int h0_inSize)) (w_h0_out := (w_h0_out)) (w_h0_outSize := (w_h0_outSize)) (w_h0_dict := (.ref h0_dict)) (w_h0_dictSize := (.int h0_dictSize)) (w_h0_told := (.ref h0_told)) (w_h0_fresh := (.ref h0_fresh)) (w_h0_freshSize := (.int h0_freshSize)) (w_h0_text := (w_h0_text)) (w_h0_lean := (w_h0_lean)) (w_h0_size := (w_h0_size)) (w_h0_most := (w_h0_most)) (w_h0_offset := (w_h0_offset)) (w_h0_copyAt := (w_h0_copyAt)) (w_h0_copies := (w_h0_copies)) (w_h0_copyLength := (w_h0_copyLength)) (w_h0_copyOffset := (w_h0_copyOffset)) (w_h0_fromHere := (w_h0_fromHere)) (w_h0_withCopy := (w_h0_withCopy)) (w_h0_bestCopy := (w_h0_bestCopy)) (w_h0_bestLiterals := (w_h0_bestLiterals)) (w_h0_copiesOf := (.int h0_copiesOf)) (w_h0_literalsOf := (.int h0_literalsOf)) (w_h0_partsOf := (.int h0_partsOf)) (w_h0_blocks := (w_h0_blocks)) (w_h0_blockMany := (w_h0_blockMany)) (w_h0_newBlocks := (.ref h0_newBlocks)) (w_h0_newMany := (.int h0_newMany)) (h0_rule := h0_rule) (h0_place := h0_place) (w_h0_at := (.int h0_at)) (o_h0_rule := u79) (o_h0_place := u80) (o_r := r78) hc) (wV kw_1353 kw_1355 kw_72 kw_94 kw_1356) (by decide +kernel) ⟨Nat.le_of_ble_eq_true rfl, Nat.le_of_ble_eq_true rfl⟩ hK hP hD hN hT hS (va_free (wc := [(h0, .inr (10, [.ref h0_in, .int h0_inSize, w_h0_out, w_h0_outSize, .ref h0_dict, .int h0_dictSize, .ref h0_told, .ref h0_fresh, .int h0_freshSize, w_h0_text, w_h0_lean, w_h0_size, w_h0_most, w_h0_offset, w_h0_copyAt, w_h0_copies, w_h0_copyLength, w_h0_copyOffset, w_h0_fromHere, w_h0_withCopy, w_h0_bestCopy, w_h0_bestLiterals, .int h0_copiesOf, .int h0_literalsOf, .int h0_partsOf, w_h0_blocks, w_h0_blockMany, .ref h0_newBlocks, .int h0_newMany, .int h0_rule, .int h0_place, .int h0_at]))]) hD hS hA [0] rfl) [0] rfl (by decide) rfl rfl rfl hl.1 rfl (lv_room (Nat.le_of_ble_eq_true rfl)) dX12_readFrame_52 ⟨Nat.le_of_ble_eq_true rfl, Nat.le_of_ble_eq_true rfl⟩) hP hD hS hA (wr := [(h0_in, .inl (cI, h0_in_n, .inl h0_in_f)), (h0_told, .inl (cI, h0_told_n, .inl h0_told_f)), (h0_fresh, .inl (cI, h0_fresh_n, .inl h0_fresh_f)), (h0_newBlocks, .inl (cI, h0_newBlocks_n, .inl h0_newBlocks_f)), (h0_dict, .inl (cI, h0_dict_n, .inl h0_dict_f))]) (w1 := [(h0, .inr (10, [.ref h0_in, .int h0_inSize, w_h0_out, w_h0_outSize, .ref h0_dict, .int h0_dictSize, .ref h0_told, .ref h0_fresh, .int h0_freshSize, w_h0_text, w_h0_lean, w_h0_size, w_h0_most, w_h0_offset, w_h0_copyAt, w_h0_copies, w_h0_copyLength, w_h0_copyOffset, w_h0_fromHere, w_h0_withCopy, w_h0_bestCopy, w_h0_bestLiterals, .int h0_copiesOf, .int h0_literalsOf, .int h0_partsOf, w_h0_blocks, w_h0_blockMany, .ref h0_newBlocks, .int h0_newMany, .int u79, .int u80, .int h0_at]))]) (ws' := [(h0, .inr (10, [.ref h0_in, .int h0_inSize, w_h0_out, w_h0_outSize, .ref h0_dict, .int h0_dictSize, .ref h0_told, .ref h0_fresh, .int h0_freshSize, w_h0_text, w_h0_lean, w_h0_size, w_h0_most, w_h0_offset, w_h0_copyAt, w_h0_copies, w_h0_copyLength, w_h0_copyOffset, w_h0_fromHere, w_h0_withCopy, w_h0_bestCopy, w_h0_bestLiterals, .int h0_copiesOf, .int h0_literalsOf, .int h0_partsOf, w_h0_blocks, w_h0_blockMany, .ref h0_newBlocks, .int h0_newMany, .int u79, .int u80, .int h0_at])), (h0_in, .inl (cI, h0_in_n, .inl h0_in_f)), (h0_told, .inl (cI, h0_told_n, .inl h0_told_f)), (h0_fresh, .inl (cI, h0_fresh_n, .inl h0_fresh_f)), (h0_newBlocks, .inl (cI, h0_newBlocks_n, .inl h0_newBlocks_f)), (h0_dict, .inl (cI, h0_dict_n, .inl h0_dict_f))]) [0] [1, 2, 3, 4, 5] [5, 0, 1, 2, 3, 4] rfl rfl (by decide) (by decide) rfl (by decide) (fun H locs hP hD hS => ?_)
      obtain ⟨hzb, hf⟩ := bch_some hf
      obtain ⟨rfl, hq_1⟩ := Prod.mk.inj (Option.some.inj hf)
      obtain ⟨rfl, hq_2⟩ := Prod.mk.inj hq_1
      obtain ⟨rfl, hq_3⟩ := Prod.mk.inj hq_2
      obtain ⟨rfl, hq_4⟩ := Prod.mk.inj hq_3
      obtain ⟨rfl, hq_5⟩ := Prod.mk.inj hq_4
      obtain ⟨rfl, hq_6⟩ := Prod.mk.inj hq_5
      obtain ⟨rfl, hq_7⟩ := Prod.mk.inj hq_6
      obtain ⟨rfl, hq_8⟩ := Prod.mk.inj hq_7
      obtain ⟨rfl, hq_9⟩ := Prod.mk.inj hq_8
      obtain ⟨rfl, hq_10⟩ := Prod.mk.inj hq_9
      obtain rfl := hq_10
      exact rt_z hQ hx hb hr hzb hlocks hP hD hS dX12_readFrame_55
  · replace hf := if_t c_13 hf
    refine lv_aload_n hx hb dX12_readFrame_16 rfl (lv_at hl 1 rfl) ?_
    refine lv_iconst (v := 1) hx hb dX12_readFrame_17 (by decide) ?_
    refine lv_aload_n hx hb dX12_readFrame_18 rfl (lv_at hl 1 rfl) ?_
    refine va_get (D := (dC, dI)) (ci := 10) (v := .int h0_inSize) (C := RX12) (T := TX12) (N := 32) hx hb hts inG_X12 hown hK hP 0 rfl rfl 1 (by decide) (hts _ kw_1053) (fun _ h9 => h9) rfl dX12_readFrame_19 ?_
    obtain ⟨x, hc, hf⟩ := bind_some hf
    obtain ⟨r81, u82, u83⟩ := x
    dsimp only at hf
    refine nx_i (rn_V (As := [.int (1 : Int32), .int h0_inSize]) (rest := []) (n := 2) (ci := 10) (q0 := 0) ⟨hx, hb, hml, hown, hts⟩ (c_Mo_no (l := l) (dC := dC) (dI := dI) (cB := cB) (cI := cI) (h0 := h0) (a1 := (1 : Int32)) (a2 := h0_inSize) (w_h0_in := (.ref h0_in)) (w_h0_inSize := (.int h0_inSize)) (w_h0_out := (w_h0_out)) (w_h0_outSize := (w_h0_outSize)) (w_h0_dict := (.ref h0_dict)) (w_h0_dictSize := (.int h0_dictSize)) (w_h0_told := (.ref h0_told)) (w_h0_fresh := (.ref h0_fresh)) (w_h0_freshSize := (.int h0_freshSize)) (w_h0_text := (w_h0_text)) (w_h0_lean := (w_h0_lean)) (w_h0_size := (w_h0_size)) (w_h0_most := (w_h0_most)) (w_h0_offset := (w_h0_offset)) (w_h0_copyAt := (w_h0_copyAt)) (w_h0_copies := (w_h0_copies)) (w_h0_copyLength := (w_h0_copyLength)) (w_h0_copyOffset := (w_h0_copyOffset)) (w_h0_fromHere := (w_h0_fromHere)) (w_h0_withCopy := (w_h0_withCopy)) (w_h0_bestCopy := (w_h0_bestCopy)) (w_h0_bestLiterals := (w_h0_bestLiterals)) (w_h0_copiesOf := (.int h0_copiesOf)) (w_h0_literalsOf := (.int h0_literalsOf)) (w_h0_partsOf := (.int h0_partsOf)) (w_h0_blocks := (w_h0_blocks)) (w_h0_blockMany := (w_h0_blockMany)) (w_h0_newBlocks := (.ref h0_newBlocks)) (w_h0_newMany := (.int h0_newMany)) (h0_rule := h0_rule) (h0_place := h0_place) (w_h0_at := (.int h0_at)) (o_h0_rule := u82) (o_h0_place := u83) (o_r := r81) hc) (wV kw_1353 kw_1355 kw_72 kw_94 kw_1356) (by decide +kernel) ⟨Nat.le_of_ble_eq_true rfl, Nat.le_of_ble_eq_true rfl⟩ hK hP hD hN hT hS (va_free (wc := [(h0, .inr (10, [.ref h0_in, .int h0_inSize, w_h0_out, w_h0_outSize, .ref h0_dict, .int h0_dictSize, .ref h0_told, .ref h0_fresh, .int h0_freshSize, w_h0_text, w_h0_lean, w_h0_size, w_h0_most, w_h0_offset, w_h0_copyAt, w_h0_copies, w_h0_copyLength, w_h0_copyOffset, w_h0_fromHere, w_h0_withCopy, w_h0_bestCopy, w_h0_bestLiterals, .int h0_copiesOf, .int h0_literalsOf, .int h0_partsOf, w_h0_blocks, w_h0_blockMany, .ref h0_newBlocks, .int h0_newMany, .int h0_rule, .int h0_place, .int h0_at]))]) hD hS hA [0] rfl) [0] rfl (by decide) rfl rfl rfl hl.1 rfl (lv_room (Nat.le_of_ble_eq_true rfl)) dX12_readFrame_22 ⟨Nat.le_of_ble_eq_true rfl, Nat.le_of_ble_eq_true rfl⟩) hP hD hS hA (wr := [(h0_in, .inl (cI, h0_in_n, .inl h0_in_f)), (h0_told, .inl (cI, h0_told_n, .inl h0_told_f)), (h0_fresh, .inl (cI, h0_fresh_n, .inl h0_fresh_f)), (h0_newBlocks, .inl (cI, h0_newBlocks_n, .inl h0_newBlocks_f)), (h0_dict, .inl (cI, h0_dict_n, .inl h0_dict_f))]) (w1 := [(h0, .inr (10, [.ref h0_in, .int h0_inSize, w_h0_out, w_h0_outSize, .ref h0_dict, .int h0_dictSize, .ref h0_told, .ref h0_fresh, .int h0_freshSize, w_h0_text, w_h0_lean, w_h0_size, w_h0_most, w_h0_offset, w_h0_copyAt, w_h0_copies, w_h0_copyLength, w_h0_copyOffset, w_h0_fromHere, w_h0_withCopy, w_h0_bestCopy, w_h0_bestLiterals, .int h0_copiesOf, .int h0_literalsOf, .int h0_partsOf, w_h0_blocks, w_h0_blockMany, .ref h0_newBlocks, .int h0_newMany, .int u82, .int u83, .int h0_at]))]) (ws' := [(h0, .inr (10, [.ref h0_in, .int h0_inSize, w_h0_out, w_h0_outSize, .ref h0_dict, .int h0_dictSize, .ref h0_told, .ref h0_fresh, .int h0_freshSize, w_h0_text, w_h0_lean, w_h0_size, w_h0_most, w_h0_offset, w_h0_copyAt, w_h0_copies, w_h0_copyLength, w_h0_copyOffset, w_h0_fromHere, w_h0_withCopy, w_h0_bestCopy, w_h0_bestLiterals, .int h0_copiesOf, .int h0_literalsOf, .int h0_partsOf, w_h0_blocks, w_h0_blockMany, .ref h0_newBlocks, .int h0_newMany, .int u82, .int u83, .int h0_at])), (h0_in, .inl (cI, h0_in_n, .inl h0_in_f)), (h0_told, .inl (cI, h0_told_n, .inl h0_told_f)), (h0_fresh, .inl (cI, h0_fresh_n, .inl h0_fresh_f)), (h0_newBlocks, .inl (cI, h0_newBlocks_n, .inl h0_newBlocks_f)), (h0_dict, .inl (cI, h0_dict_n, .inl h0_dict_f))]) [0] [1, 2, 3, 4, 5] [5, 0, 1, 2, 3, 4] rfl rfl (by decide) (by decide) rfl (by decide) (fun H locs hP hD hS => ?_)
    obtain ⟨hzb, hf⟩ := bch_some hf
    obtain ⟨rfl, hq_1⟩ := Prod.mk.inj (Option.some.inj hf)
    obtain ⟨rfl, hq_2⟩ := Prod.mk.inj hq_1
    obtain ⟨rfl, hq_3⟩ := Prod.mk.inj hq_2
    obtain ⟨rfl, hq_4⟩ := Prod.mk.inj hq_3
    obtain ⟨rfl, hq_5⟩ := Prod.mk.inj hq_4
    obtain ⟨rfl, hq_6⟩ := Prod.mk.inj hq_5
    obtain ⟨rfl, hq_7⟩ := Prod.mk.inj hq_6
    obtain ⟨rfl, hq_8⟩ := Prod.mk.inj hq_7
    obtain ⟨rfl, hq_9⟩ := Prod.mk.inj hq_8
    obtain ⟨rfl, hq_10⟩ := Prod.mk.inj hq_9
    obtain rfl := hq_10
    exact rt_z hQ hx hb hr hzb hlocks hP hD hS dX12_readFrame_25

theorem dX12_readFrames_0 : decode cX12_readFrames 0 = .ok (.aload_n 0, 1) := by decide +kernel
theorem dX12_readFrames_1 : decode cX12_readFrames 1 = .ok (.getfield 232, 3) := by decide +kernel
theorem dX12_readFrames_4 : decode cX12_readFrames 4 = .ok (.aload_n 0, 1) := by decide +kernel
theorem dX12_readFrames_5 : decode cX12_readFrames 5 = .ok (.getfield 177, 3) := by decide +kernel
theorem dX12_readFrames_8 : decode cX12_readFrames 8 = .ok (.if_icmp .ge 202, 3) := by decide +kernel
theorem dX12_readFrames_11 : decode cX12_readFrames 11 = .ok (.aload_n 0, 1) := by decide +kernel
theorem dX12_readFrames_12 : decode cX12_readFrames 12 = .ok (.getfield 232, 3) := by decide +kernel
theorem dX12_readFrames_15 : decode cX12_readFrames 15 = .ok (.istore_n 1, 1) := by decide +kernel
theorem dX12_readFrames_16 : decode cX12_readFrames 16 = .ok (.aload_n 0, 1) := by decide +kernel
theorem dX12_readFrames_17 : decode cX12_readFrames 17 = .ok (.getfield 177, 3) := by decide +kernel
theorem dX12_readFrames_20 : decode cX12_readFrames 20 = .ok (.aload_n 0, 1) := by decide +kernel
theorem dX12_readFrames_21 : decode cX12_readFrames 21 = .ok (.getfield 232, 3) := by decide +kernel
theorem dX12_readFrames_24 : decode cX12_readFrames 24 = .ok (.isub, 1) := by decide +kernel
theorem dX12_readFrames_25 : decode cX12_readFrames 25 = .ok (.iconst 4, 1) := by decide +kernel
theorem dX12_readFrames_26 : decode cX12_readFrames 26 = .ok (.if_icmp .ge 13, 3) := by decide +kernel
theorem dX12_readFrames_29 : decode cX12_readFrames 29 = .ok (.aload_n 0, 1) := by decide +kernel
theorem dX12_readFrames_30 : decode cX12_readFrames 30 = .ok (.iconst 1, 1) := by decide +kernel
theorem dX12_readFrames_31 : decode cX12_readFrames 31 = .ok (.aload_n 0, 1) := by decide +kernel
theorem dX12_readFrames_32 : decode cX12_readFrames 32 = .ok (.getfield 177, 3) := by decide +kernel
theorem dX12_readFrames_35 : decode cX12_readFrames 35 = .ok (.invokevirtual 235, 3) := by decide +kernel
theorem dX12_readFrames_38 : decode cX12_readFrames 38 = .ok (.ireturn, 1) := by decide +kernel
theorem dX12_readFrames_39 : decode cX12_readFrames 39 = .ok (.aload_n 0, 1) := by decide +kernel
theorem dX12_readFrames_40 : decode cX12_readFrames 40 = .ok (.aload_n 0, 1) := by decide +kernel
theorem dX12_readFrames_41 : decode cX12_readFrames 41 = .ok (.getfield 232, 3) := by decide +kernel
theorem dX12_readFrames_44 : decode cX12_readFrames 44 = .ok (.iconst 4, 1) := by decide +kernel
theorem dX12_readFrames_45 : decode cX12_readFrames 45 = .ok (.invokevirtual 239, 3) := by decide +kernel
theorem dX12_readFrames_48 : decode cX12_readFrames 48 = .ok (.lstore_n 2, 1) := by decide +kernel
theorem dX12_readFrames_49 : decode cX12_readFrames 49 = .ok (.aload_n 0, 1) := by decide +kernel
theorem dX12_readFrames_50 : decode cX12_readFrames 50 = .ok (.dup, 1) := by decide +kernel
theorem dX12_readFrames_51 : decode cX12_readFrames 51 = .ok (.getfield 232, 3) := by decide +kernel
theorem dX12_readFrames_54 : decode cX12_readFrames 54 = .ok (.iconst 4, 1) := by decide +kernel
theorem dX12_readFrames_55 : decode cX12_readFrames 55 = .ok (.iadd, 1) := by decide +kernel
theorem dX12_readFrames_56 : decode cX12_readFrames 56 = .ok (.putfield 232, 3) := by decide +kernel
theorem dX12_readFrames_59 : decode cX12_readFrames 59 = .ok (.lload_n 2, 1) := by decide +kernel
theorem dX12_readFrames_60 : decode cX12_readFrames 60 = .ok (.ldc2_w 172, 3) := by decide +kernel
theorem dX12_readFrames_63 : decode cX12_readFrames 63 = .ok (.lcmp, 1) := by decide +kernel
theorem dX12_readFrames_64 : decode cX12_readFrames 64 = .ok (.ifCond .ne 12, 3) := by decide +kernel
theorem dX12_readFrames_67 : decode cX12_readFrames 67 = .ok (.aload_n 0, 1) := by decide +kernel
theorem dX12_readFrames_68 : decode cX12_readFrames 68 = .ok (.invokevirtual 249, 3) := by decide +kernel
theorem dX12_readFrames_71 : decode cX12_readFrames 71 = .ok (.istore 4, 2) := by decide +kernel
theorem dX12_readFrames_73 : decode cX12_readFrames 73 = .ok (.goto 127, 3) := by decide +kernel
theorem dX12_readFrames_76 : decode cX12_readFrames 76 = .ok (.lload_n 2, 1) := by decide +kernel
theorem dX12_readFrames_77 : decode cX12_readFrames 77 = .ok (.ldc2_w 253, 3) := by decide +kernel
theorem dX12_readFrames_80 : decode cX12_readFrames 80 = .ok (.ldc2_w 255, 3) := by decide +kernel
theorem dX12_readFrames_83 : decode cX12_readFrames 83 = .ok (.invokestatic 101, 3) := by decide +kernel
theorem dX12_readFrames_86 : decode cX12_readFrames 86 = .ok (.ifCond .eq 106, 3) := by decide +kernel
theorem dX12_readFrames_89 : decode cX12_readFrames 89 = .ok (.aload_n 0, 1) := by decide +kernel
theorem dX12_readFrames_90 : decode cX12_readFrames 90 = .ok (.getfield 177, 3) := by decide +kernel
theorem dX12_readFrames_93 : decode cX12_readFrames 93 = .ok (.aload_n 0, 1) := by decide +kernel
theorem dX12_readFrames_94 : decode cX12_readFrames 94 = .ok (.getfield 232, 3) := by decide +kernel
theorem dX12_readFrames_97 : decode cX12_readFrames 97 = .ok (.isub, 1) := by decide +kernel
theorem dX12_readFrames_98 : decode cX12_readFrames 98 = .ok (.iconst 4, 1) := by decide +kernel
theorem dX12_readFrames_99 : decode cX12_readFrames 99 = .ok (.if_icmp .ge 13, 3) := by decide +kernel
theorem dX12_readFrames_102 : decode cX12_readFrames 102 = .ok (.aload_n 0, 1) := by decide +kernel
theorem dX12_readFrames_103 : decode cX12_readFrames 103 = .ok (.iconst 1, 1) := by decide +kernel
theorem dX12_readFrames_104 : decode cX12_readFrames 104 = .ok (.aload_n 0, 1) := by decide +kernel
theorem dX12_readFrames_105 : decode cX12_readFrames 105 = .ok (.getfield 177, 3) := by decide +kernel
theorem dX12_readFrames_108 : decode cX12_readFrames 108 = .ok (.invokevirtual 235, 3) := by decide +kernel
theorem dX12_readFrames_111 : decode cX12_readFrames 111 = .ok (.ireturn, 1) := by decide +kernel
theorem dX12_readFrames_112 : decode cX12_readFrames 112 = .ok (.aload_n 0, 1) := by decide +kernel
theorem dX12_readFrames_113 : decode cX12_readFrames 113 = .ok (.aload_n 0, 1) := by decide +kernel
theorem dX12_readFrames_114 : decode cX12_readFrames 114 = .ok (.getfield 232, 3) := by decide +kernel
theorem dX12_readFrames_117 : decode cX12_readFrames 117 = .ok (.iconst 4, 1) := by decide +kernel
theorem dX12_readFrames_118 : decode cX12_readFrames 118 = .ok (.invokevirtual 239, 3) := by decide +kernel
theorem dX12_readFrames_121 : decode cX12_readFrames 121 = .ok (.lstore 5, 2) := by decide +kernel
theorem dX12_readFrames_123 : decode cX12_readFrames 123 = .ok (.aload_n 0, 1) := by decide +kernel
theorem dX12_readFrames_124 : decode cX12_readFrames 124 = .ok (.dup, 1) := by decide +kernel
theorem dX12_readFrames_125 : decode cX12_readFrames 125 = .ok (.getfield 232, 3) := by decide +kernel
theorem dX12_readFrames_128 : decode cX12_readFrames 128 = .ok (.iconst 4, 1) := by decide +kernel
theorem dX12_readFrames_129 : decode cX12_readFrames 129 = .ok (.iadd, 1) := by decide +kernel
theorem dX12_readFrames_130 : decode cX12_readFrames 130 = .ok (.putfield 232, 3) := by decide +kernel
theorem dX12_readFrames_133 : decode cX12_readFrames 133 = .ok (.lload 5, 2) := by decide +kernel
theorem dX12_readFrames_135 : decode cX12_readFrames 135 = .ok (.aload_n 0, 1) := by decide +kernel
theorem dX12_readFrames_136 : decode cX12_readFrames 136 = .ok (.getfield 177, 3) := by decide +kernel
theorem dX12_readFrames_139 : decode cX12_readFrames 139 = .ok (.aload_n 0, 1) := by decide +kernel
theorem dX12_readFrames_140 : decode cX12_readFrames 140 = .ok (.getfield 232, 3) := by decide +kernel
theorem dX12_readFrames_143 : decode cX12_readFrames 143 = .ok (.isub, 1) := by decide +kernel
theorem dX12_readFrames_144 : decode cX12_readFrames 144 = .ok (.i2l, 1) := by decide +kernel
theorem dX12_readFrames_145 : decode cX12_readFrames 145 = .ok (.lcmp, 1) := by decide +kernel
theorem dX12_readFrames_146 : decode cX12_readFrames 146 = .ok (.ifCond .le 15, 3) := by decide +kernel
theorem dX12_readFrames_149 : decode cX12_readFrames 149 = .ok (.aload_n 0, 1) := by decide +kernel
theorem dX12_readFrames_150 : decode cX12_readFrames 150 = .ok (.iconst 1, 1) := by decide +kernel
theorem dX12_readFrames_151 : decode cX12_readFrames 151 = .ok (.aload_n 0, 1) := by decide +kernel
theorem dX12_readFrames_152 : decode cX12_readFrames 152 = .ok (.getfield 177, 3) := by decide +kernel
theorem dX12_readFrames_155 : decode cX12_readFrames 155 = .ok (.invokevirtual 235, 3) := by decide +kernel
theorem dX12_readFrames_158 : decode cX12_readFrames 158 = .ok (.ifCond .eq 7, 3) := by decide +kernel
theorem dX12_readFrames_161 : decode cX12_readFrames 161 = .ok (.iconst 1, 1) := by decide +kernel
theorem dX12_readFrames_162 : decode cX12_readFrames 162 = .ok (.goto 4, 3) := by decide +kernel
theorem dX12_readFrames_165 : decode cX12_readFrames 165 = .ok (.iconst 0, 1) := by decide +kernel
theorem dX12_readFrames_166 : decode cX12_readFrames 166 = .ok (.istore 4, 2) := by decide +kernel
theorem dX12_readFrames_168 : decode cX12_readFrames 168 = .ok (.aload_n 0, 1) := by decide +kernel
theorem dX12_readFrames_169 : decode cX12_readFrames 169 = .ok (.dup, 1) := by decide +kernel
theorem dX12_readFrames_170 : decode cX12_readFrames 170 = .ok (.getfield 232, 3) := by decide +kernel
theorem dX12_readFrames_173 : decode cX12_readFrames 173 = .ok (.iload 4, 2) := by decide +kernel
theorem dX12_readFrames_175 : decode cX12_readFrames 175 = .ok (.ifCond .eq 9, 3) := by decide +kernel
theorem dX12_readFrames_178 : decode cX12_readFrames 178 = .ok (.lload 5, 2) := by decide +kernel
theorem dX12_readFrames_180 : decode cX12_readFrames 180 = .ok (.l2i, 1) := by decide +kernel
theorem dX12_readFrames_181 : decode cX12_readFrames 181 = .ok (.goto 4, 3) := by decide +kernel
theorem dX12_readFrames_184 : decode cX12_readFrames 184 = .ok (.iconst 0, 1) := by decide +kernel
theorem dX12_readFrames_185 : decode cX12_readFrames 185 = .ok (.iadd, 1) := by decide +kernel
theorem dX12_readFrames_186 : decode cX12_readFrames 186 = .ok (.putfield 232, 3) := by decide +kernel
theorem dX12_readFrames_189 : decode cX12_readFrames 189 = .ok (.goto 11, 3) := by decide +kernel
theorem dX12_readFrames_192 : decode cX12_readFrames 192 = .ok (.aload_n 0, 1) := by decide +kernel
theorem dX12_readFrames_193 : decode cX12_readFrames 193 = .ok (.iconst 4, 1) := by decide +kernel
theorem dX12_readFrames_194 : decode cX12_readFrames 194 = .ok (.iload_n 1, 1) := by decide +kernel
theorem dX12_readFrames_195 : decode cX12_readFrames 195 = .ok (.invokevirtual 235, 3) := by decide +kernel
theorem dX12_readFrames_198 : decode cX12_readFrames 198 = .ok (.istore 4, 2) := by decide +kernel
theorem dX12_readFrames_200 : decode cX12_readFrames 200 = .ok (.iload 4, 2) := by decide +kernel
theorem dX12_readFrames_202 : decode cX12_readFrames 202 = .ok (.ifCond .ne 5, 3) := by decide +kernel
theorem dX12_readFrames_205 : decode cX12_readFrames 205 = .ok (.iconst 0, 1) := by decide +kernel
theorem dX12_readFrames_206 : decode cX12_readFrames 206 = .ok (.ireturn, 1) := by decide +kernel
theorem dX12_readFrames_207 : decode cX12_readFrames 207 = .ok (.goto (-207), 3) := by decide +kernel
theorem dX12_readFrames_210 : decode cX12_readFrames 210 = .ok (.iconst 1, 1) := by decide +kernel
theorem dX12_readFrames_211 : decode cX12_readFrames 211 = .ok (.ireturn, 1) := by decide +kernel
def m_Mo_readFrames_J200 (f13 : Nat → Int32) (f14 : Nat → Int32) (g15 : Int32) (g16 : Int32) (g17 : Int32) (g18 : Int32) (g19 : Int32) (g20 : Int32) (g21 : Int32) (g22 : Int32) (j4_23 : Int32) : Option (((Nat → Int32) × (Nat → Int32) × Int32 × Int32 × Int32 × Int32 × Int32 × Int32 × Int32 × Int32) ⊕ ((((Int32 × Int32 × Int32 × Int32 × Int32 × Int32 × Int32 × Int32 × Int32 × (Nat → Int32) × (Nat → Int32)))))) :=
  if j4_23 = 0 then
    some (.inr ((0 : Int32), g22, g15, g16, g17, g18, g19, g20, g21, f13, f14))
  else
    some (.inl (f13, f14, g15, g16, g17, g18, g19, g20, g21, g22))
def m_Mo_readFrames_J185 (f1 : Nat → Int32) (f2 : Nat → Int32) (g3 : Int32) (g4 : Int32) (g5 : Int32) (g6 : Int32) (g10 : Int32) (p_29 : Int32) (g30 : Int32) (g31 : Int32) (s32 : Int32) (s33 : Int32) : Option (((Nat → Int32) × (Nat → Int32) × Int32 × Int32 × Int32 × Int32 × Int32 × Int32 × Int32 × Int32) ⊕ ((((Int32 × Int32 × Int32 × Int32 × Int32 × Int32 × Int32 × Int32 × Int32 × (Nat → Int32) × (Nat → Int32)))))) :=
  bnd (p_29 + s33) fun p_34 =>
  m_Mo_readFrames_J200 f1 f2 g3 g4 g5 g6 g30 g31 p_34 g10 s32
def m_Mo_readFrames_J166 (f1 : Nat → Int32) (f2 : Nat → Int32) (g3 : Int32) (g4 : Int32) (g5 : Int32) (g6 : Int32) (g10 : Int32) (r28 : Int64) (p_29 : Int32) (g30 : Int32) (g31 : Int32) (s32 : Int32) : Option (((Nat → Int32) × (Nat → Int32) × Int32 × Int32 × Int32 × Int32 × Int32 × Int32 × Int32 × Int32) ⊕ ((((Int32 × Int32 × Int32 × Int32 × Int32 × Int32 × Int32 × Int32 × Int32 × (Nat → Int32) × (Nat → Int32)))))) :=
  if s32 = 0 then
    m_Mo_readFrames_J185 f1 f2 g3 g4 g5 g6 g10 p_29 g30 g31 s32 (0 : Int32)
  else
    m_Mo_readFrames_J185 f1 f2 g3 g4 g5 g6 g10 p_29 g30 g31 s32 (r28.toInt32)
def m_Mo_readFrames_B0 (h0_inSize : Int32) (h0_dictSize : Int32) (h0_in_n : Nat) (h0_in_f : Nat → Int32) (h0_told_n : Nat) (h0_told_f : Nat → Int32) (h0_fresh_n : Nat) (h0_newBlocks_n : Nat) (h0_dict_n : Nat) (h0_dict_f : Nat → Int32) (f1 : Nat → Int32) (f2 : Nat → Int32) (g3 : Int32) (g4 : Int32) (g5 : Int32) (g6 : Int32) (g7 : Int32) (g8 : Int32) (g9 : Int32) (g10 : Int32) : Option (((Nat → Int32) × (Nat → Int32) × Int32 × Int32 × Int32 × Int32 × Int32 × Int32 × Int32 × Int32) ⊕ ((((Int32 × Int32 × Int32 × Int32 × Int32 × Int32 × Int32 × Int32 × Int32 × (Nat → Int32) × (Nat → Int32)))))) :=
  if h0_inSize ≤ g9 then
    some (.inr ((1 : Int32), g10, g3, g4, g5, g6, g7, g8, g9, f1, f2))
  else
    if (4 : Int32) ≤ (h0_inSize - g9) then
      (m_Mo_number g9 (4 : Int32) h0_in_n h0_in_f).bind fun r11 =>
      bnd (g9 + (4 : Int32)) fun p_12 =>
      if (lg_cmp r11 (407708164 : Int64)) = 0 then
        (m_Mo_readFrame h0_inSize h0_dictSize g10 g3 g4 g5 g6 g7 g8 p_12 h0_in_n h0_in_f h0_told_n h0_told_f h0_fresh_n f1 h0_newBlocks_n f2 h0_dict_n h0_dict_f).bind fun (r41, u42, u43, u44, u45, u46, u47, u48, u49, u50, u51) =>
        m_Mo_readFrames_J200 u50 u51 u43 u44 u45 u46 u47 u48 u49 u42 r41
      else
        (m_Mo_in r11 (407710288 : Int64) (407710303 : Int64)).bind fun r24 =>
        if r24 = 0 then
          (m_Mo_no (4 : Int32) g9).bind fun (r25, u26, u27) =>
          m_Mo_readFrames_J200 f1 f2 g3 g4 g5 g6 u26 u27 p_12 g10 r25
        else
          if (4 : Int32) ≤ (h0_inSize - p_12) then
            (m_Mo_number p_12 (4 : Int32) h0_in_n h0_in_f).bind fun r28 =>
            bnd (p_12 + (4 : Int32)) fun p_29 =>
            if (lg_cmp r28 ((h0_inSize - p_29).toInt64)) ≤ 0 then
              m_Mo_readFrames_J166 f1 f2 g3 g4 g5 g6 g10 r28 p_29 g7 g8 (1 : Int32)
            else
              (m_Mo_no (1 : Int32) h0_inSize).bind fun (r35, u36, u37) =>
              if r35 = 0 then
                m_Mo_readFrames_J166 f1 f2 g3 g4 g5 g6 g10 r28 p_29 u36 u37 (0 : Int32)
              else
                m_Mo_readFrames_J166 f1 f2 g3 g4 g5 g6 g10 r28 p_29 u36 u37 (1 : Int32)
          else
            (m_Mo_no (1 : Int32) h0_inSize).bind fun (r38, u39, u40) =>
            bch r38 <|
            some (.inr (r38, g10, g3, g4, g5, g6, u39, u40, p_12, f1, f2))
    else
      (m_Mo_no (1 : Int32) h0_inSize).bind fun (r52, u53, u54) =>
      bch r52 <|
      some (.inr (r52, g10, g3, g4, g5, g6, u53, u54, g9, f1, f2))
def m_Mo_readFrames (h0_inSize : Int32) (h0_dictSize : Int32) (h0_freshSize : Int32) (h0_copiesOf : Int32) (h0_literalsOf : Int32) (h0_partsOf : Int32) (h0_newMany : Int32) (h0_rule : Int32) (h0_place : Int32) (h0_at : Int32) (h0_in_n : Nat) (h0_in_f : Nat → Int32) (h0_told_n : Nat) (h0_told_f : Nat → Int32) (h0_fresh_n : Nat) (h0_fresh_f : Nat → Int32) (h0_newBlocks_n : Nat) (h0_newBlocks_f : Nat → Int32) (h0_dict_n : Nat) (h0_dict_f : Nat → Int32) : Option (Int32 × Int32 × Int32 × Int32 × Int32 × Int32 × Int32 × Int32 × Int32 × (Nat → Int32) × (Nat → Int32)) :=
  (iter (fun st => m_Mo_readFrames_B0 h0_inSize h0_dictSize h0_in_n h0_in_f h0_told_n h0_told_f h0_fresh_n h0_newBlocks_n h0_dict_n h0_dict_f st.1 st.2.1 st.2.2.1 st.2.2.2.1 st.2.2.2.2.1 st.2.2.2.2.2.1 st.2.2.2.2.2.2.1 st.2.2.2.2.2.2.2.1 st.2.2.2.2.2.2.2.2.1 st.2.2.2.2.2.2.2.2.2) FU (h0_fresh_f, h0_newBlocks_f, h0_copiesOf, h0_literalsOf, h0_partsOf, h0_newMany, h0_rule, h0_place, h0_at, h0_freshSize)).bind fun o => some o
def rm_Mo_readFrames : Room := { frames := 4, cells := 0, slots := 0, locals := 119 }
set_option maxHeartbeats 4000000 in
set_option maxRecDepth 100000 in
theorem c_Mo_readFrames {l : Launch} {dC : Nat → ClassId} {dI : Nat → Nat → Nat} {cB cI : ClassId} {sz : Nat} {h0 : Nat} {h0_in : Nat} {h0_told : Nat} {h0_fresh : Nat} {h0_newBlocks : Nat} {h0_dict : Nat} {h0_inSize : Int32} {w_h0_out : Value} {w_h0_outSize : Value} {h0_dictSize : Int32} {h0_freshSize : Int32} {w_h0_text : Value} {w_h0_lean : Value} {w_h0_size : Value} {w_h0_most : Value} {w_h0_offset : Value} {w_h0_copyAt : Value} {w_h0_copies : Value} {w_h0_copyLength : Value} {w_h0_copyOffset : Value} {w_h0_fromHere : Value} {w_h0_withCopy : Value} {w_h0_bestCopy : Value} {w_h0_bestLiterals : Value} {h0_copiesOf : Int32} {h0_literalsOf : Int32} {h0_partsOf : Int32} {w_h0_blocks : Value} {w_h0_blockMany : Value} {h0_newMany : Int32} {h0_rule : Int32} {h0_place : Int32} {h0_at : Int32} {h0_in_n : Nat} {h0_in_f : Nat → Int32} {h0_told_n : Nat} {h0_told_f : Nat → Int32} {h0_fresh_n : Nat} {h0_fresh_f : Nat → Int32} {h0_newBlocks_n : Nat} {h0_newBlocks_f : Nat → Int32} {h0_dict_n : Nat} {h0_dict_f : Nat → Int32} {o_r : Int32} {o_h0_freshSize : Int32} {o_h0_copiesOf : Int32} {o_h0_literalsOf : Int32} {o_h0_partsOf : Int32} {o_h0_newMany : Int32} {o_h0_rule : Int32} {o_h0_place : Int32} {o_h0_at : Int32} {o_h0_fresh_f : Nat → Int32} {o_h0_newBlocks_f : Nat → Int32} (hf : m_Mo_readFrames h0_inSize h0_dictSize h0_freshSize h0_copiesOf h0_literalsOf h0_partsOf h0_newMany h0_rule h0_place h0_at h0_in_n h0_in_f h0_told_n h0_told_f h0_fresh_n h0_fresh_f h0_newBlocks_n h0_newBlocks_f h0_dict_n h0_dict_f = some (o_r, o_h0_freshSize, o_h0_copiesOf, o_h0_literalsOf, o_h0_partsOf, o_h0_newMany, o_h0_rule, o_h0_place, o_h0_at, o_h0_fresh_f, o_h0_newBlocks_f)) : Met l yX12_readFrames (Cond.code yX12_readFrames cX12_readFrames 7 (some .boolean) :: lw_G) rm_Mo_readFrames (PreC (dC, dI) [(cB, .byte), (cI, .int)] [.ref h0] sz [(h0, .inr (10, [.ref h0_in, .int h0_inSize, w_h0_out, w_h0_outSize, .ref h0_dict, .int h0_dictSize, .ref h0_told, .ref h0_fresh, .int h0_freshSize, w_h0_text, w_h0_lean, w_h0_size, w_h0_most, w_h0_offset, w_h0_copyAt, w_h0_copies, w_h0_copyLength, w_h0_copyOffset, w_h0_fromHere, w_h0_withCopy, w_h0_bestCopy, w_h0_bestLiterals, .int h0_copiesOf, .int h0_literalsOf, .int h0_partsOf, w_h0_blocks, w_h0_blockMany, .ref h0_newBlocks, .int h0_newMany, .int h0_rule, .int h0_place, .int h0_at])), (h0_in, .inl (cI, h0_in_n, .inl h0_in_f)), (h0_told, .inl (cI, h0_told_n, .inl h0_told_f)), (h0_fresh, .inl (cI, h0_fresh_n, .inl h0_fresh_f)), (h0_newBlocks, .inl (cI, h0_newBlocks_n, .inl h0_newBlocks_f)), (h0_dict, .inl (cI, h0_dict_n, .inl h0_dict_f))]) (QcI o_r (dC, dI) [(h0, .inr (10, [.ref h0_in, .int h0_inSize, w_h0_out, w_h0_outSize, .ref h0_dict, .int h0_dictSize, .ref h0_told, .ref h0_fresh, .int o_h0_freshSize, w_h0_text, w_h0_lean, w_h0_size, w_h0_most, w_h0_offset, w_h0_copyAt, w_h0_copies, w_h0_copyLength, w_h0_copyOffset, w_h0_fromHere, w_h0_withCopy, w_h0_bestCopy, w_h0_bestLiterals, .int o_h0_copiesOf, .int o_h0_literalsOf, .int o_h0_partsOf, w_h0_blocks, w_h0_blockMany, .ref h0_newBlocks, .int o_h0_newMany, .int o_h0_rule, .int o_h0_place, .int o_h0_at])), (h0_in, .inl (cI, h0_in_n, .inl h0_in_f)), (h0_told, .inl (cI, h0_told_n, .inl h0_told_f)), (h0_fresh, .inl (cI, h0_fresh_n, .inl o_h0_fresh_f)), (h0_newBlocks, .inl (cI, h0_newBlocks_n, .inl o_h0_newBlocks_f)), (h0_dict, .inl (cI, h0_dict_n, .inl h0_dict_f))] (va_A [(h0, .inr (10, [.ref h0_in, .int h0_inSize, w_h0_out, w_h0_outSize, .ref h0_dict, .int h0_dictSize, .ref h0_told, .ref h0_fresh, .int h0_freshSize, w_h0_text, w_h0_lean, w_h0_size, w_h0_most, w_h0_offset, w_h0_copyAt, w_h0_copies, w_h0_copyLength, w_h0_copyOffset, w_h0_fromHere, w_h0_withCopy, w_h0_bestCopy, w_h0_bestLiterals, .int h0_copiesOf, .int h0_literalsOf, .int h0_partsOf, w_h0_blocks, w_h0_blockMany, .ref h0_newBlocks, .int h0_newMany, .int h0_rule, .int h0_place, .int h0_at])), (h0_in, .inl (cI, h0_in_n, .inl h0_in_f)), (h0_told, .inl (cI, h0_told_n, .inl h0_told_f)), (h0_fresh, .inl (cI, h0_fresh_n, .inl h0_fresh_f)), (h0_newBlocks, .inl (cI, h0_newBlocks_n, .inl h0_newBlocks_f)), (h0_dict, .inl (cI, h0_dict_n, .inl h0_dict_f))] sz)) 0 0 (va_A [(h0, .inr (10, [.ref h0_in, .int h0_inSize, w_h0_out, w_h0_outSize, .ref h0_dict, .int h0_dictSize, .ref h0_told, .ref h0_fresh, .int h0_freshSize, w_h0_text, w_h0_lean, w_h0_size, w_h0_most, w_h0_offset, w_h0_copyAt, w_h0_copies, w_h0_copyLength, w_h0_copyOffset, w_h0_fromHere, w_h0_withCopy, w_h0_bestCopy, w_h0_bestLiterals, .int h0_copiesOf, .int h0_literalsOf, .int h0_partsOf, w_h0_blocks, w_h0_blockMany, .ref h0_newBlocks, .int h0_newMany, .int h0_rule, .int h0_place, .int h0_at])), (h0_in, .inl (cI, h0_in_n, .inl h0_in_f)), (h0_told, .inl (cI, h0_told_n, .inl h0_told_f)), (h0_fresh, .inl (cI, h0_fresh_n, .inl h0_fresh_f)), (h0_newBlocks, .inl (cI, h0_newBlocks_n, .inl h0_newBlocks_f)), (h0_dict, .inl (cI, h0_dict_n, .inl h0_dict_f))] sz) := by
  refine met_of (Qf := fun A => QcI o_r (dC, dI) [(h0, .inr (10, [.ref h0_in, .int h0_inSize, w_h0_out, w_h0_outSize, .ref h0_dict, .int h0_dictSize, .ref h0_told, .ref h0_fresh, .int o_h0_freshSize, w_h0_text, w_h0_lean, w_h0_size, w_h0_most, w_h0_offset, w_h0_copyAt, w_h0_copies, w_h0_copyLength, w_h0_copyOffset, w_h0_fromHere, w_h0_withCopy, w_h0_bestCopy, w_h0_bestLiterals, .int o_h0_copiesOf, .int o_h0_literalsOf, .int o_h0_partsOf, w_h0_blocks, w_h0_blockMany, .ref h0_newBlocks, .int o_h0_newMany, .int o_h0_rule, .int o_h0_place, .int o_h0_at])), (h0_in, .inl (cI, h0_in_n, .inl h0_in_f)), (h0_told, .inl (cI, h0_told_n, .inl h0_told_f)), (h0_fresh, .inl (cI, h0_fresh_n, .inl o_h0_fresh_f)), (h0_newBlocks, .inl (cI, h0_newBlocks_n, .inl o_h0_newBlocks_f)), (h0_dict, .inl (cI, h0_dict_n, .inl h0_dict_f))] A) (by decide) (Nat.le_of_ble_eq_true rfl) ?_
  intro p e s m below meth c A ls Q hx hb hr hml hown hts hlocks hnm hP hK hD hN hT hA hl hQ
  have hown : s.vm.findClass RX12 = some m.cls := hown
  have hS : va_S A s.heap s.heap [] := va_S.rf
  have hl : lv_has ls 7 [(0, .ref h0)] := hl
  unfold m_Mo_readFrames at hf
  obtain ⟨o_0, hi_0, hk_0⟩ := bind_some hf
  have hL_0 : ∀ (n : Nat) (f1 : Nat → Int32) (f2 : Nat → Int32) (g3 : Int32) (g4 : Int32) (g5 : Int32) (g6 : Int32) (g7 : Int32) (g8 : Int32) (g9 : Int32) (g10 : Int32) (H : Heap) (locs : List Loc) (ls : Array Slot), iter (fun st => m_Mo_readFrames_B0 h0_inSize h0_dictSize h0_in_n h0_in_f h0_told_n h0_told_f h0_fresh_n h0_newBlocks_n h0_dict_n h0_dict_f st.1 st.2.1 st.2.2.1 st.2.2.2.1 st.2.2.2.2.1 st.2.2.2.2.2.1 st.2.2.2.2.2.2.1 st.2.2.2.2.2.2.2.1 st.2.2.2.2.2.2.2.2.1 st.2.2.2.2.2.2.2.2.2) n (f1, f2, g3, g4, g5, g6, g7, g8, g9, g10) = some o_0 → va_P (dC, dI) vwCl [(h0, .inr (10, [.ref h0_in, .int h0_inSize, w_h0_out, w_h0_outSize, .ref h0_dict, .int h0_dictSize, .ref h0_told, .ref h0_fresh, .int g10, w_h0_text, w_h0_lean, w_h0_size, w_h0_most, w_h0_offset, w_h0_copyAt, w_h0_copies, w_h0_copyLength, w_h0_copyOffset, w_h0_fromHere, w_h0_withCopy, w_h0_bestCopy, w_h0_bestLiterals, .int g3, .int g4, .int g5, w_h0_blocks, w_h0_blockMany, .ref h0_newBlocks, .int g6, .int g7, .int g8, .int g9])), (h0_in, .inl (cI, h0_in_n, .inl h0_in_f)), (h0_told, .inl (cI, h0_told_n, .inl h0_told_f)), (h0_fresh, .inl (cI, h0_fresh_n, .inl f1)), (h0_newBlocks, .inl (cI, h0_newBlocks_n, .inl f2)), (h0_dict, .inl (cI, h0_dict_n, .inl h0_dict_f))] H → va_D A [(h0, .inr (10, [.ref h0_in, .int h0_inSize, w_h0_out, w_h0_outSize, .ref h0_dict, .int h0_dictSize, .ref h0_told, .ref h0_fresh, .int g10, w_h0_text, w_h0_lean, w_h0_size, w_h0_most, w_h0_offset, w_h0_copyAt, w_h0_copies, w_h0_copyLength, w_h0_copyOffset, w_h0_fromHere, w_h0_withCopy, w_h0_bestCopy, w_h0_bestLiterals, .int g3, .int g4, .int g5, w_h0_blocks, w_h0_blockMany, .ref h0_newBlocks, .int g6, .int g7, .int g8, .int g9])), (h0_in, .inl (cI, h0_in_n, .inl h0_in_f)), (h0_told, .inl (cI, h0_told_n, .inl h0_told_f)), (h0_fresh, .inl (cI, h0_fresh_n, .inl f1)), (h0_newBlocks, .inl (cI, h0_newBlocks_n, .inl f2)), (h0_dict, .inl (cI, h0_dict_n, .inl h0_dict_f))] → va_S A s.heap H locs → lv_has ls 7 [(0, .ref h0)] → W p l e (rm_Mo_readFrames) s m ([.ref h0] : List Value).toArray below meth c H locs 0 0 Q (F0 m 0 ls []) := by
    intro n
    induction n with
    | zero => intro f1 f2 g3 g4 g5 g6 g7 g8 g9 g10 H locs ls hf; exact absurd hf (fun z => by cases z)
    | succ n ih_0 =>
      intro f1 f2 g3 g4 g5 g6 g7 g8 g9 g10 H locs ls hf hP hD hS hl
      obtain ⟨r_0, hf, hr_0⟩ := iter_succ hf
      have hf : m_Mo_readFrames_B0 h0_inSize h0_dictSize h0_in_n h0_in_f h0_told_n h0_told_f h0_fresh_n h0_newBlocks_n h0_dict_n h0_dict_f f1 f2 g3 g4 g5 g6 g7 g8 g9 g10 = some r_0 := hf
      unfold m_Mo_readFrames_B0 at hf
      refine lv_aload_n hx hb dX12_readFrames_0 rfl (lv_at hl 0 rfl) ?_
      refine va_get (D := (dC, dI)) (ci := 10) (v := .int g9) (C := RX12) (T := TX12) (N := 32) hx hb hts inG_X12 hown hK hP 0 rfl rfl 31 (by decide) (hts _ kw_1083) (fun _ h9 => h9) rfl dX12_readFrames_1 ?_
      refine lv_aload_n hx hb dX12_readFrames_4 rfl (lv_at hl 0 rfl) ?_
      refine va_get (D := (dC, dI)) (ci := 10) (v := .int h0_inSize) (C := RX12) (T := TX12) (N := 32) hx hb hts inG_X12 hown hK hP 0 rfl rfl 1 (by decide) (hts _ kw_1053) (fun _ h9 => h9) rfl dX12_readFrames_5 ?_
      refine lv_icmp_ge (tgt := 210) hx hb dX12_readFrames_8 (by decide) (fun c_8 => ?_) (fun c_8 => ?_)
      · replace hf := if_t c_8 hf
        refine lv_iconst (v := 1) hx hb dX12_readFrames_210 (by decide) ?_
        have hzb : narrow .boolean (.int (1 : Int32)) = .int (1 : Int32) := rfl
        replace hf : some ((1 : Int32), g10, g3, g4, g5, g6, g7, g8, g9, f1, f2) = some (o_r, o_h0_freshSize, o_h0_copiesOf, o_h0_literalsOf, o_h0_partsOf, o_h0_newMany, o_h0_rule, o_h0_place, o_h0_at, o_h0_fresh_f, o_h0_newBlocks_f) := by have hq := hk_0; rw [iter_exit hf hr_0] at hq; exact hq
        obtain ⟨rfl, hq_1⟩ := Prod.mk.inj (Option.some.inj hf)
        obtain ⟨rfl, hq_2⟩ := Prod.mk.inj hq_1
        obtain ⟨rfl, hq_3⟩ := Prod.mk.inj hq_2
        obtain ⟨rfl, hq_4⟩ := Prod.mk.inj hq_3
        obtain ⟨rfl, hq_5⟩ := Prod.mk.inj hq_4
        obtain ⟨rfl, hq_6⟩ := Prod.mk.inj hq_5
        obtain ⟨rfl, hq_7⟩ := Prod.mk.inj hq_6
        obtain ⟨rfl, hq_8⟩ := Prod.mk.inj hq_7
        obtain ⟨rfl, hq_9⟩ := Prod.mk.inj hq_8
        obtain ⟨rfl, hq_10⟩ := Prod.mk.inj hq_9
        obtain rfl := hq_10
        exact rt_z hQ hx hb hr hzb hlocks hP hD hS dX12_readFrames_211
      · replace hf := if_f c_8 hf
        refine lv_aload_n hx hb dX12_readFrames_11 rfl (lv_at hl 0 rfl) ?_
        refine va_get (D := (dC, dI)) (ci := 10) (v := .int g9) (C := RX12) (T := TX12) (N := 32) hx hb hts inG_X12 hown hK hP 0 rfl rfl 31 (by decide) (hts _ kw_1083) (fun _ h9 => h9) rfl dX12_readFrames_12 ?_
        refine lv_istore_n (lv' := [(1, .int g9), (0, .ref h0)]) hx hb dX12_readFrames_15 rfl hl (by decide) rfl (fun ls hl => ?_)
        refine lv_aload_n hx hb dX12_readFrames_16 rfl (lv_at hl 1 rfl) ?_
        refine va_get (D := (dC, dI)) (ci := 10) (v := .int h0_inSize) (C := RX12) (T := TX12) (N := 32) hx hb hts inG_X12 hown hK hP 0 rfl rfl 1 (by decide) (hts _ kw_1053) (fun _ h9 => h9) rfl dX12_readFrames_17 ?_
        refine lv_aload_n hx hb dX12_readFrames_20 rfl (lv_at hl 1 rfl) ?_
        refine va_get (D := (dC, dI)) (ci := 10) (v := .int g9) (C := RX12) (T := TX12) (N := 32) hx hb hts inG_X12 hown hK hP 0 rfl rfl 31 (by decide) (hts _ kw_1083) (fun _ h9 => h9) rfl dX12_readFrames_21 ?_
        refine lv_isub hx hb dX12_readFrames_24 ?_
        refine lv_iconst (v := 4) hx hb dX12_readFrames_25 (by decide) ?_
        refine lv_icmp_ge (tgt := 39) hx hb dX12_readFrames_26 (by decide) (fun c_26 => ?_) (fun c_26 => ?_)
        · replace hf := if_t c_26 hf
          refine lv_aload_n hx hb dX12_readFrames_39 rfl (lv_at hl 1 rfl) ?_
          refine lv_aload_n hx hb dX12_readFrames_40 rfl (lv_at hl 1 rfl) ?_
          refine va_get (D := (dC, dI)) (ci := 10) (v := .int g9) (C := RX12) (T := TX12) (N := 32) hx hb hts inG_X12 hown hK hP 0 rfl rfl 31 (by decide) (hts _ kw_1083) (fun _ h9 => h9) rfl dX12_readFrames_41 ?_
          refine lv_iconst (v := 4) hx hb dX12_readFrames_44 (by decide) ?_
          obtain ⟨r11, hc, hf⟩ := bind_some hf
          refine nx_l (rn_V (As := [.int g9, .int (4 : Int32)]) (rest := []) (n := 2) (ci := 10) (q0 := 0) ⟨hx, hb, hml, hown, hts⟩ (c_Mo_number (l := l) (dC := dC) (dI := dI) (cB := cB) (cI := cI) (h0 := h0) (a1 := g9) (a2 := (4 : Int32)) (h0_in := h0_in) (w_h0_inSize := (.int h0_inSize)) (w_h0_out := (w_h0_out)) (w_h0_outSize := (w_h0_outSize)) (w_h0_dict := (.ref h0_dict)) (w_h0_dictSize := (.int h0_dictSize)) (w_h0_told := (.ref h0_told)) (w_h0_fresh := (.ref h0_fresh)) (w_h0_freshSize := (.int g10)) (w_h0_text := (w_h0_text)) (w_h0_lean := (w_h0_lean)) (w_h0_size := (w_h0_size)) (w_h0_most := (w_h0_most)) (w_h0_offset := (w_h0_offset)) (w_h0_copyAt := (w_h0_copyAt)) (w_h0_copies := (w_h0_copies)) (w_h0_copyLength := (w_h0_copyLength)) (w_h0_copyOffset := (w_h0_copyOffset)) (w_h0_fromHere := (w_h0_fromHere)) (w_h0_withCopy := (w_h0_withCopy)) (w_h0_bestCopy := (w_h0_bestCopy)) (w_h0_bestLiterals := (w_h0_bestLiterals)) (w_h0_copiesOf := (.int g3)) (w_h0_literalsOf := (.int g4)) (w_h0_partsOf := (.int g5)) (w_h0_blocks := (w_h0_blocks)) (w_h0_blockMany := (w_h0_blockMany)) (w_h0_newBlocks := (.ref h0_newBlocks)) (w_h0_newMany := (.int g6)) (w_h0_rule := (.int g7)) (w_h0_place := (.int g8)) (w_h0_at := (.int g9)) (h0_in_n := h0_in_n) (h0_in_f := h0_in_f)  (o_r := r11) hc) (wV kw_1357 kw_1359 kw_73 kw_94 kw_1360) (by decide +kernel) ⟨Nat.le_of_ble_eq_true rfl, Nat.le_of_ble_eq_true rfl⟩ hK hP hD hN hT hS (va_free (wc := [(h0, .inr (10, [.ref h0_in, .int h0_inSize, w_h0_out, w_h0_outSize, .ref h0_dict, .int h0_dictSize, .ref h0_told, .ref h0_fresh, .int g10, w_h0_text, w_h0_lean, w_h0_size, w_h0_most, w_h0_offset, w_h0_copyAt, w_h0_copies, w_h0_copyLength, w_h0_copyOffset, w_h0_fromHere, w_h0_withCopy, w_h0_bestCopy, w_h0_bestLiterals, .int g3, .int g4, .int g5, w_h0_blocks, w_h0_blockMany, .ref h0_newBlocks, .int g6, .int g7, .int g8, .int g9])), (h0_in, .inl (cI, h0_in_n, .inl h0_in_f))]) hD hS hA [0, 1] rfl) [0, 1] rfl (by decide) rfl rfl rfl hl.1 rfl (lv_room (Nat.le_of_ble_eq_true rfl)) dX12_readFrames_45 ⟨Nat.le_of_ble_eq_true rfl, Nat.le_of_ble_eq_true rfl⟩) hP hD hS hA (wr := [(h0_told, .inl (cI, h0_told_n, .inl h0_told_f)), (h0_fresh, .inl (cI, h0_fresh_n, .inl f1)), (h0_newBlocks, .inl (cI, h0_newBlocks_n, .inl f2)), (h0_dict, .inl (cI, h0_dict_n, .inl h0_dict_f))]) (w1 := [(h0, .inr (10, [.ref h0_in, .int h0_inSize, w_h0_out, w_h0_outSize, .ref h0_dict, .int h0_dictSize, .ref h0_told, .ref h0_fresh, .int g10, w_h0_text, w_h0_lean, w_h0_size, w_h0_most, w_h0_offset, w_h0_copyAt, w_h0_copies, w_h0_copyLength, w_h0_copyOffset, w_h0_fromHere, w_h0_withCopy, w_h0_bestCopy, w_h0_bestLiterals, .int g3, .int g4, .int g5, w_h0_blocks, w_h0_blockMany, .ref h0_newBlocks, .int g6, .int g7, .int g8, .int g9])), (h0_in, .inl (cI, h0_in_n, .inl h0_in_f))]) (ws' := [(h0, .inr (10, [.ref h0_in, .int h0_inSize, w_h0_out, w_h0_outSize, .ref h0_dict, .int h0_dictSize, .ref h0_told, .ref h0_fresh, .int g10, w_h0_text, w_h0_lean, w_h0_size, w_h0_most, w_h0_offset, w_h0_copyAt, w_h0_copies, w_h0_copyLength, w_h0_copyOffset, w_h0_fromHere, w_h0_withCopy, w_h0_bestCopy, w_h0_bestLiterals, .int g3, .int g4, .int g5, w_h0_blocks, w_h0_blockMany, .ref h0_newBlocks, .int g6, .int g7, .int g8, .int g9])), (h0_in, .inl (cI, h0_in_n, .inl h0_in_f)), (h0_told, .inl (cI, h0_told_n, .inl h0_told_f)), (h0_fresh, .inl (cI, h0_fresh_n, .inl f1)), (h0_newBlocks, .inl (cI, h0_newBlocks_n, .inl f2)), (h0_dict, .inl (cI, h0_dict_n, .inl h0_dict_f))]) [0, 1] [2, 3, 4, 5] [4, 5, 0, 1, 2, 3] rfl rfl (by decide) (by decide) rfl (by decide) (fun H locs hP hD hS => ?_)
          refine lv_lstore_n (lv' := [(2, .long r11), (1, .int g9), (0, .ref h0)]) hx hb dX12_readFrames_48 rfl hl (by decide) rfl (fun ls hl => ?_)
          refine lv_aload_n hx hb dX12_readFrames_49 rfl (lv_at hl 2 rfl) ?_
          refine lv_dup hx hb dX12_readFrames_50 rfl ?_
          refine va_get (D := (dC, dI)) (ci := 10) (v := .int g9) (C := RX12) (T := TX12) (N := 32) hx hb hts inG_X12 hown hK hP 0 rfl rfl 31 (by decide) (hts _ kw_1083) (fun _ h9 => h9) rfl dX12_readFrames_51 ?_
          refine lv_iconst (v := 4) hx hb dX12_readFrames_54 (by decide) ?_
          refine lv_iadd hx hb dX12_readFrames_55 ?_
          refine lv_topi (fun p_12 e_p_12 => ?_)
          replace hf := bnd_at e_p_12 hf
          refine va_put (D := (dC, dI)) (ci := 10) (v := .int p_12) (ty := .int) (C := RX12) (T := TX12) (N := 32) hx hb hts inG_X12 tyX12 tyX12_ok nmX12 hown hK hP hD hS 0 rfl rfl 31 (by decide) (hts _ kw_1083) (fun _ h9 => h9) rfl (by decide +kernel) rfl rfl (Nat.le_of_ble_eq_true rfl) dX12_readFrames_56 (fun H locs hP hD hS => ?_)
          have hP : va_P (dC, dI) vwCl [(h0, .inr (10, [.ref h0_in, .int h0_inSize, w_h0_out, w_h0_outSize, .ref h0_dict, .int h0_dictSize, .ref h0_told, .ref h0_fresh, .int g10, w_h0_text, w_h0_lean, w_h0_size, w_h0_most, w_h0_offset, w_h0_copyAt, w_h0_copies, w_h0_copyLength, w_h0_copyOffset, w_h0_fromHere, w_h0_withCopy, w_h0_bestCopy, w_h0_bestLiterals, .int g3, .int g4, .int g5, w_h0_blocks, w_h0_blockMany, .ref h0_newBlocks, .int g6, .int g7, .int g8, .int p_12])), (h0_in, .inl (cI, h0_in_n, .inl h0_in_f)), (h0_told, .inl (cI, h0_told_n, .inl h0_told_f)), (h0_fresh, .inl (cI, h0_fresh_n, .inl f1)), (h0_newBlocks, .inl (cI, h0_newBlocks_n, .inl f2)), (h0_dict, .inl (cI, h0_dict_n, .inl h0_dict_f))] H := hP
          have hD : va_D A [(h0, .inr (10, [.ref h0_in, .int h0_inSize, w_h0_out, w_h0_outSize, .ref h0_dict, .int h0_dictSize, .ref h0_told, .ref h0_fresh, .int g10, w_h0_text, w_h0_lean, w_h0_size, w_h0_most, w_h0_offset, w_h0_copyAt, w_h0_copies, w_h0_copyLength, w_h0_copyOffset, w_h0_fromHere, w_h0_withCopy, w_h0_bestCopy, w_h0_bestLiterals, .int g3, .int g4, .int g5, w_h0_blocks, w_h0_blockMany, .ref h0_newBlocks, .int g6, .int g7, .int g8, .int p_12])), (h0_in, .inl (cI, h0_in_n, .inl h0_in_f)), (h0_told, .inl (cI, h0_told_n, .inl h0_told_f)), (h0_fresh, .inl (cI, h0_fresh_n, .inl f1)), (h0_newBlocks, .inl (cI, h0_newBlocks_n, .inl f2)), (h0_dict, .inl (cI, h0_dict_n, .inl h0_dict_f))] := hD
          refine lv_lload_n hx hb dX12_readFrames_59 rfl (lv_at hl 0 rfl) ?_
          refine lv_ldc2 hx hb hown (hts _ kw_1200) dX12_readFrames_60 ?_
          refine W.lcmp hx hb dX12_readFrames_63 ?_
          have hJ_200 : ∀ (f13 : Nat → Int32) (f14 : Nat → Int32) (g15 : Int32) (g16 : Int32) (g17 : Int32) (g18 : Int32) (g19 : Int32) (g20 : Int32) (g21 : Int32) (g22 : Int32) (j4_23 : Int32) (H : Heap) (locs : List Loc) (ls : Array Slot), m_Mo_readFrames_J200 f13 f14 g15 g16 g17 g18 g19 g20 g21 g22 j4_23 = some r_0 → va_P (dC, dI) vwCl [(h0, .inr (10, [.ref h0_in, .int h0_inSize, w_h0_out, w_h0_outSize, .ref h0_dict, .int h0_dictSize, .ref h0_told, .ref h0_fresh, .int g22, w_h0_text, w_h0_lean, w_h0_size, w_h0_most, w_h0_offset, w_h0_copyAt, w_h0_copies, w_h0_copyLength, w_h0_copyOffset, w_h0_fromHere, w_h0_withCopy, w_h0_bestCopy, w_h0_bestLiterals, .int g15, .int g16, .int g17, w_h0_blocks, w_h0_blockMany, .ref h0_newBlocks, .int g18, .int g19, .int g20, .int g21])), (h0_in, .inl (cI, h0_in_n, .inl h0_in_f)), (h0_told, .inl (cI, h0_told_n, .inl h0_told_f)), (h0_fresh, .inl (cI, h0_fresh_n, .inl f13)), (h0_newBlocks, .inl (cI, h0_newBlocks_n, .inl f14)), (h0_dict, .inl (cI, h0_dict_n, .inl h0_dict_f))] H → va_D A [(h0, .inr (10, [.ref h0_in, .int h0_inSize, w_h0_out, w_h0_outSize, .ref h0_dict, .int h0_dictSize, .ref h0_told, .ref h0_fresh, .int g22, w_h0_text, w_h0_lean, w_h0_size, w_h0_most, w_h0_offset, w_h0_copyAt, w_h0_copies, w_h0_copyLength, w_h0_copyOffset, w_h0_fromHere, w_h0_withCopy, w_h0_bestCopy, w_h0_bestLiterals, .int g15, .int g16, .int g17, w_h0_blocks, w_h0_blockMany, .ref h0_newBlocks, .int g18, .int g19, .int g20, .int g21])), (h0_in, .inl (cI, h0_in_n, .inl h0_in_f)), (h0_told, .inl (cI, h0_told_n, .inl h0_told_f)), (h0_fresh, .inl (cI, h0_fresh_n, .inl f13)), (h0_newBlocks, .inl (cI, h0_newBlocks_n, .inl f14)), (h0_dict, .inl (cI, h0_dict_n, .inl h0_dict_f))] → va_S A s.heap H locs → lv_has ls 7 [(0, .ref h0), (4, .int j4_23)] → W p l e (rm_Mo_readFrames) s m ([.ref h0] : List Value).toArray below meth c H locs 0 0 Q (F0 m 200 ls []) := by
            intro f13 f14 g15 g16 g17 g18 g19 g20 g21 g22 j4_23 H locs ls hf hP hD hS hl
            unfold m_Mo_readFrames_J200 at hf
            refine lv_iload hx hb dX12_readFrames_200 (lv_at hl 1 rfl) ?_
            refine lv_if_ne (tgt := 207) hx hb dX12_readFrames_202 (by decide) (fun c_202 => ?_) (fun c_202 => ?_)
            · replace hf := if_f c_202 hf
              refine lv_goto (tgt := 0) hx hb dX12_readFrames_207 (by decide) ?_
              exact ih_0 f13 f14 g15 g16 g17 g18 g19 g20 g21 g22 _ _ _ (iter_back hf hr_0) hP hD hS (lv_sub hl [0] rfl)
            · replace hf := if_t c_202 hf
              refine lv_iconst (v := 0) hx hb dX12_readFrames_205 (by decide) ?_
              have hzb : narrow .boolean (.int (0 : Int32)) = .int (0 : Int32) := rfl
              replace hf : some ((0 : Int32), g22, g15, g16, g17, g18, g19, g20, g21, f13, f14) = some (o_r, o_h0_freshSize, o_h0_copiesOf, o_h0_literalsOf, o_h0_partsOf, o_h0_newMany, o_h0_rule, o_h0_place, o_h0_at, o_h0_fresh_f, o_h0_newBlocks_f) := by have hq := hk_0; rw [iter_exit hf hr_0] at hq; exact hq
              obtain ⟨rfl, hq_1⟩ := Prod.mk.inj (Option.some.inj hf)
              obtain ⟨rfl, hq_2⟩ := Prod.mk.inj hq_1
              obtain ⟨rfl, hq_3⟩ := Prod.mk.inj hq_2
              obtain ⟨rfl, hq_4⟩ := Prod.mk.inj hq_3
              obtain ⟨rfl, hq_5⟩ := Prod.mk.inj hq_4
              obtain ⟨rfl, hq_6⟩ := Prod.mk.inj hq_5
              obtain ⟨rfl, hq_7⟩ := Prod.mk.inj hq_6
              obtain ⟨rfl, hq_8⟩ := Prod.mk.inj hq_7
              obtain ⟨rfl, hq_9⟩ := Prod.mk.inj hq_8
              obtain ⟨rfl, hq_10⟩ := Prod.mk.inj hq_9
              obtain rfl := hq_10
              exact rt_z hQ hx hb hr hzb hlocks hP hD hS dX12_readFrames_206
          refine lv_if_ne (tgt := 76) hx hb dX12_readFrames_64 (by decide) (fun c_64 => ?_) (fun c_64 => ?_)
          · replace hf := if_f c_64 hf
            refine lv_lload_n hx hb dX12_readFrames_76 rfl (lv_at hl 0 rfl) ?_
            refine lv_ldc2 hx hb hown (hts _ kw_1375) dX12_readFrames_77 ?_
            refine lv_ldc2 hx hb hown (hts _ kw_1376) dX12_readFrames_80 ?_
            obtain ⟨r24, hc, hf⟩ := bind_some hf
            refine nx_i (rn_S (As := [.long r11, .long (407710288 : Int64), .long (407710303 : Int64)]) (rest := []) (n := 3) ⟨hx, hb, hml, hown, hts⟩ (c_Mo_in (l := l) (dC := dC) (dI := dI) (cB := cB) (cI := cI) (a0 := r11) (a1 := (407710288 : Int64)) (a2 := (407710303 : Int64))  (o_r := r24) hc) (wS kw_1161 kw_1162 kw_94 kw_1163) (by decide +kernel) ⟨Nat.le_of_ble_eq_true rfl, Nat.le_of_ble_eq_true rfl⟩ hK hP hD hN hT hS (va_free (wc := []) hD hS hA [] rfl) [] rfl (by decide) rfl hl.1 rfl (lv_room (Nat.le_of_ble_eq_true rfl)) dX12_readFrames_83 ⟨Nat.le_of_ble_eq_true rfl, Nat.le_of_ble_eq_true rfl⟩) hP hD hS hA (wr := [(h0, .inr (10, [.ref h0_in, .int h0_inSize, w_h0_out, w_h0_outSize, .ref h0_dict, .int h0_dictSize, .ref h0_told, .ref h0_fresh, .int g10, w_h0_text, w_h0_lean, w_h0_size, w_h0_most, w_h0_offset, w_h0_copyAt, w_h0_copies, w_h0_copyLength, w_h0_copyOffset, w_h0_fromHere, w_h0_withCopy, w_h0_bestCopy, w_h0_bestLiterals, .int g3, .int g4, .int g5, w_h0_blocks, w_h0_blockMany, .ref h0_newBlocks, .int g6, .int g7, .int g8, .int p_12])), (h0_in, .inl (cI, h0_in_n, .inl h0_in_f)), (h0_told, .inl (cI, h0_told_n, .inl h0_told_f)), (h0_fresh, .inl (cI, h0_fresh_n, .inl f1)), (h0_newBlocks, .inl (cI, h0_newBlocks_n, .inl f2)), (h0_dict, .inl (cI, h0_dict_n, .inl h0_dict_f))]) (w1 := []) (ws' := [(h0, .inr (10, [.ref h0_in, .int h0_inSize, w_h0_out, w_h0_outSize, .ref h0_dict, .int h0_dictSize, .ref h0_told, .ref h0_fresh, .int g10, w_h0_text, w_h0_lean, w_h0_size, w_h0_most, w_h0_offset, w_h0_copyAt, w_h0_copies, w_h0_copyLength, w_h0_copyOffset, w_h0_fromHere, w_h0_withCopy, w_h0_bestCopy, w_h0_bestLiterals, .int g3, .int g4, .int g5, w_h0_blocks, w_h0_blockMany, .ref h0_newBlocks, .int g6, .int g7, .int g8, .int p_12])), (h0_in, .inl (cI, h0_in_n, .inl h0_in_f)), (h0_told, .inl (cI, h0_told_n, .inl h0_told_f)), (h0_fresh, .inl (cI, h0_fresh_n, .inl f1)), (h0_newBlocks, .inl (cI, h0_newBlocks_n, .inl f2)), (h0_dict, .inl (cI, h0_dict_n, .inl h0_dict_f))]) [] [0, 1, 2, 3, 4, 5] [0, 1, 2, 3, 4, 5] rfl rfl (by decide) (by decide) rfl (by decide) (fun H locs hP hD hS => ?_)
            refine lv_if_eq (tgt := 192) hx hb dX12_readFrames_86 (by decide) (fun c_86 => ?_) (fun c_86 => ?_)
            · replace hf := if_t c_86 hf
              refine lv_aload_n hx hb dX12_readFrames_192 rfl (lv_at hl 2 rfl) ?_
              refine lv_iconst (v := 4) hx hb dX12_readFrames_193 (by decide) ?_
              refine lv_iload_n hx hb dX12_readFrames_194 rfl (lv_at hl 1 rfl) ?_
              obtain ⟨x, hc, hf⟩ := bind_some hf
              obtain ⟨r25, u26, u27⟩ := x
              dsimp only at hf
              refine nx_i (rn_V (As := [.int (4 : Int32), .int g9]) (rest := []) (n := 2) (ci := 10) (q0 := 0) ⟨hx, hb, hml, hown, hts⟩ (c_Mo_no (l := l) (dC := dC) (dI := dI) (cB := cB) (cI := cI) (h0 := h0) (a1 := (4 : Int32)) (a2 := g9) (w_h0_in := (.ref h0_in)) (w_h0_inSize := (.int h0_inSize)) (w_h0_out := (w_h0_out)) (w_h0_outSize := (w_h0_outSize)) (w_h0_dict := (.ref h0_dict)) (w_h0_dictSize := (.int h0_dictSize)) (w_h0_told := (.ref h0_told)) (w_h0_fresh := (.ref h0_fresh)) (w_h0_freshSize := (.int g10)) (w_h0_text := (w_h0_text)) (w_h0_lean := (w_h0_lean)) (w_h0_size := (w_h0_size)) (w_h0_most := (w_h0_most)) (w_h0_offset := (w_h0_offset)) (w_h0_copyAt := (w_h0_copyAt)) (w_h0_copies := (w_h0_copies)) (w_h0_copyLength := (w_h0_copyLength)) (w_h0_copyOffset := (w_h0_copyOffset)) (w_h0_fromHere := (w_h0_fromHere)) (w_h0_withCopy := (w_h0_withCopy)) (w_h0_bestCopy := (w_h0_bestCopy)) (w_h0_bestLiterals := (w_h0_bestLiterals)) (w_h0_copiesOf := (.int g3)) (w_h0_literalsOf := (.int g4)) (w_h0_partsOf := (.int g5)) (w_h0_blocks := (w_h0_blocks)) (w_h0_blockMany := (w_h0_blockMany)) (w_h0_newBlocks := (.ref h0_newBlocks)) (w_h0_newMany := (.int g6)) (h0_rule := g7) (h0_place := g8) (w_h0_at := (.int p_12)) (o_h0_rule := u26) (o_h0_place := u27) (o_r := r25) hc) (wV kw_1353 kw_1355 kw_72 kw_94 kw_1356) (by decide +kernel) ⟨Nat.le_of_ble_eq_true rfl, Nat.le_of_ble_eq_true rfl⟩ hK hP hD hN hT hS (va_free (wc := [(h0, .inr (10, [.ref h0_in, .int h0_inSize, w_h0_out, w_h0_outSize, .ref h0_dict, .int h0_dictSize, .ref h0_told, .ref h0_fresh, .int g10, w_h0_text, w_h0_lean, w_h0_size, w_h0_most, w_h0_offset, w_h0_copyAt, w_h0_copies, w_h0_copyLength, w_h0_copyOffset, w_h0_fromHere, w_h0_withCopy, w_h0_bestCopy, w_h0_bestLiterals, .int g3, .int g4, .int g5, w_h0_blocks, w_h0_blockMany, .ref h0_newBlocks, .int g6, .int g7, .int g8, .int p_12]))]) hD hS hA [0] rfl) [0] rfl (by decide) rfl rfl rfl hl.1 rfl (lv_room (Nat.le_of_ble_eq_true rfl)) dX12_readFrames_195 ⟨Nat.le_of_ble_eq_true rfl, Nat.le_of_ble_eq_true rfl⟩) hP hD hS hA (wr := [(h0_in, .inl (cI, h0_in_n, .inl h0_in_f)), (h0_told, .inl (cI, h0_told_n, .inl h0_told_f)), (h0_fresh, .inl (cI, h0_fresh_n, .inl f1)), (h0_newBlocks, .inl (cI, h0_newBlocks_n, .inl f2)), (h0_dict, .inl (cI, h0_dict_n, .inl h0_dict_f))]) (w1 := [(h0, .inr (10, [.ref h0_in, .int h0_inSize, w_h0_out, w_h0_outSize, .ref h0_dict, .int h0_dictSize, .ref h0_told, .ref h0_fresh, .int g10, w_h0_text, w_h0_lean, w_h0_size, w_h0_most, w_h0_offset, w_h0_copyAt, w_h0_copies, w_h0_copyLength, w_h0_copyOffset, w_h0_fromHere, w_h0_withCopy, w_h0_bestCopy, w_h0_bestLiterals, .int g3, .int g4, .int g5, w_h0_blocks, w_h0_blockMany, .ref h0_newBlocks, .int g6, .int u26, .int u27, .int p_12]))]) (ws' := [(h0, .inr (10, [.ref h0_in, .int h0_inSize, w_h0_out, w_h0_outSize, .ref h0_dict, .int h0_dictSize, .ref h0_told, .ref h0_fresh, .int g10, w_h0_text, w_h0_lean, w_h0_size, w_h0_most, w_h0_offset, w_h0_copyAt, w_h0_copies, w_h0_copyLength, w_h0_copyOffset, w_h0_fromHere, w_h0_withCopy, w_h0_bestCopy, w_h0_bestLiterals, .int g3, .int g4, .int g5, w_h0_blocks, w_h0_blockMany, .ref h0_newBlocks, .int g6, .int u26, .int u27, .int p_12])), (h0_in, .inl (cI, h0_in_n, .inl h0_in_f)), (h0_told, .inl (cI, h0_told_n, .inl h0_told_f)), (h0_fresh, .inl (cI, h0_fresh_n, .inl f1)), (h0_newBlocks, .inl (cI, h0_newBlocks_n, .inl f2)), (h0_dict, .inl (cI, h0_dict_n, .inl h0_dict_f))]) [0] [1, 2, 3, 4, 5] [5, 0, 1, 2, 3, 4] rfl rfl (by decide) (by decide) rfl (by decide) (fun H locs hP hD hS => ?_)
              refine lv_istore (lv' := [(4, .int r25), (2, .long r11), (1, .int g9), (0, .ref h0)]) hx hb dX12_readFrames_198 hl (by decide) rfl (fun ls hl => ?_)
              exact hJ_200 f1 f2 g3 g4 g5 g6 u26 u27 p_12 g10 r25 _ _ _ hf hP hD hS (lv_sub hl [3, 0] rfl)
            · replace hf := if_f c_86 hf
              refine lv_aload_n hx hb dX12_readFrames_89 rfl (lv_at hl 2 rfl) ?_
              refine va_get (D := (dC, dI)) (ci := 10) (v := .int h0_inSize) (C := RX12) (T := TX12) (N := 32) hx hb hts inG_X12 hown hK hP 0 rfl rfl 1 (by decide) (hts _ kw_1053) (fun _ h9 => h9) rfl dX12_readFrames_90 ?_
              refine lv_aload_n hx hb dX12_readFrames_93 rfl (lv_at hl 2 rfl) ?_
              refine va_get (D := (dC, dI)) (ci := 10) (v := .int p_12) (C := RX12) (T := TX12) (N := 32) hx hb hts inG_X12 hown hK hP 0 rfl rfl 31 (by decide) (hts _ kw_1083) (fun _ h9 => h9) rfl dX12_readFrames_94 ?_
              refine lv_isub hx hb dX12_readFrames_97 ?_
              refine lv_iconst (v := 4) hx hb dX12_readFrames_98 (by decide) ?_
              refine lv_icmp_ge (tgt := 112) hx hb dX12_readFrames_99 (by decide) (fun c_99 => ?_) (fun c_99 => ?_)
              · replace hf := if_t c_99 hf
                refine lv_aload_n hx hb dX12_readFrames_112 rfl (lv_at hl 2 rfl) ?_
                refine lv_aload_n hx hb dX12_readFrames_113 rfl (lv_at hl 2 rfl) ?_
                refine va_get (D := (dC, dI)) (ci := 10) (v := .int p_12) (C := RX12) (T := TX12) (N := 32) hx hb hts inG_X12 hown hK hP 0 rfl rfl 31 (by decide) (hts _ kw_1083) (fun _ h9 => h9) rfl dX12_readFrames_114 ?_
                refine lv_iconst (v := 4) hx hb dX12_readFrames_117 (by decide) ?_
                obtain ⟨r28, hc, hf⟩ := bind_some hf
                refine nx_l (rn_V (As := [.int p_12, .int (4 : Int32)]) (rest := []) (n := 2) (ci := 10) (q0 := 0) ⟨hx, hb, hml, hown, hts⟩ (c_Mo_number (l := l) (dC := dC) (dI := dI) (cB := cB) (cI := cI) (h0 := h0) (a1 := p_12) (a2 := (4 : Int32)) (h0_in := h0_in) (w_h0_inSize := (.int h0_inSize)) (w_h0_out := (w_h0_out)) (w_h0_outSize := (w_h0_outSize)) (w_h0_dict := (.ref h0_dict)) (w_h0_dictSize := (.int h0_dictSize)) (w_h0_told := (.ref h0_told)) (w_h0_fresh := (.ref h0_fresh)) (w_h0_freshSize := (.int g10)) (w_h0_text := (w_h0_text)) (w_h0_lean := (w_h0_lean)) (w_h0_size := (w_h0_size)) (w_h0_most := (w_h0_most)) (w_h0_offset := (w_h0_offset)) (w_h0_copyAt := (w_h0_copyAt)) (w_h0_copies := (w_h0_copies)) (w_h0_copyLength := (w_h0_copyLength)) (w_h0_copyOffset := (w_h0_copyOffset)) (w_h0_fromHere := (w_h0_fromHere)) (w_h0_withCopy := (w_h0_withCopy)) (w_h0_bestCopy := (w_h0_bestCopy)) (w_h0_bestLiterals := (w_h0_bestLiterals)) (w_h0_copiesOf := (.int g3)) (w_h0_literalsOf := (.int g4)) (w_h0_partsOf := (.int g5)) (w_h0_blocks := (w_h0_blocks)) (w_h0_blockMany := (w_h0_blockMany)) (w_h0_newBlocks := (.ref h0_newBlocks)) (w_h0_newMany := (.int g6)) (w_h0_rule := (.int g7)) (w_h0_place := (.int g8)) (w_h0_at := (.int p_12)) (h0_in_n := h0_in_n) (h0_in_f := h0_in_f)  (o_r := r28) hc) (wV kw_1357 kw_1359 kw_73 kw_94 kw_1360) (by decide +kernel) ⟨Nat.le_of_ble_eq_true rfl, Nat.le_of_ble_eq_true rfl⟩ hK hP hD hN hT hS (va_free (wc := [(h0, .inr (10, [.ref h0_in, .int h0_inSize, w_h0_out, w_h0_outSize, .ref h0_dict, .int h0_dictSize, .ref h0_told, .ref h0_fresh, .int g10, w_h0_text, w_h0_lean, w_h0_size, w_h0_most, w_h0_offset, w_h0_copyAt, w_h0_copies, w_h0_copyLength, w_h0_copyOffset, w_h0_fromHere, w_h0_withCopy, w_h0_bestCopy, w_h0_bestLiterals, .int g3, .int g4, .int g5, w_h0_blocks, w_h0_blockMany, .ref h0_newBlocks, .int g6, .int g7, .int g8, .int p_12])), (h0_in, .inl (cI, h0_in_n, .inl h0_in_f))]) hD hS hA [0, 1] rfl) [0, 1] rfl (by decide) rfl rfl rfl hl.1 rfl (lv_room (Nat.le_of_ble_eq_true rfl)) dX12_readFrames_118 ⟨Nat.le_of_ble_eq_true rfl, Nat.le_of_ble_eq_true rfl⟩) hP hD hS hA (wr := [(h0_told, .inl (cI, h0_told_n, .inl h0_told_f)), (h0_fresh, .inl (cI, h0_fresh_n, .inl f1)), (h0_newBlocks, .inl (cI, h0_newBlocks_n, .inl f2)), (h0_dict, .inl (cI, h0_dict_n, .inl h0_dict_f))]) (w1 := [(h0, .inr (10, [.ref h0_in, .int h0_inSize, w_h0_out, w_h0_outSize, .ref h0_dict, .int h0_dictSize, .ref h0_told, .ref h0_fresh, .int g10, w_h0_text, w_h0_lean, w_h0_size, w_h0_most, w_h0_offset, w_h0_copyAt, w_h0_copies, w_h0_copyLength, w_h0_copyOffset, w_h0_fromHere, w_h0_withCopy, w_h0_bestCopy, w_h0_bestLiterals, .int g3, .int g4, .int g5, w_h0_blocks, w_h0_blockMany, .ref h0_newBlocks, .int g6, .int g7, .int g8, .int p_12])), (h0_in, .inl (cI, h0_in_n, .inl h0_in_f))]) (ws' := [(h0, .inr (10, [.ref h0_in, .int h0_inSize, w_h0_out, w_h0_outSize, .ref h0_dict, .int h0_dictSize, .ref h0_told, .ref h0_fresh, .int g10, w_h0_text, w_h0_lean, w_h0_size, w_h0_most, w_h0_offset, w_h0_copyAt, w_h0_copies, w_h0_copyLength, w_h0_copyOffset, w_h0_fromHere, w_h0_withCopy, w_h0_bestCopy, w_h0_bestLiterals, .int g3, .int g4, .int g5, w_h0_blocks, w_h0_blockMany, .ref h0_newBlocks, .int g6, .int g7, .int g8, .int p_12])), (h0_in, .inl (cI, h0_in_n, .inl h0_in_f)), (h0_told, .inl (cI, h0_told_n, .inl h0_told_f)), (h0_fresh, .inl (cI, h0_fresh_n, .inl f1)), (h0_newBlocks, .inl (cI, h0_newBlocks_n, .inl f2)), (h0_dict, .inl (cI, h0_dict_n, .inl h0_dict_f))]) [0, 1] [2, 3, 4, 5] [4, 5, 0, 1, 2, 3] rfl rfl (by decide) (by decide) rfl (by decide) (fun H locs hP hD hS => ?_)
                refine lv_lstore (lv' := [(5, .long r28), (2, .long r11), (1, .int g9), (0, .ref h0)]) hx hb dX12_readFrames_121 hl (by decide) rfl (fun ls hl => ?_)
                refine lv_aload_n hx hb dX12_readFrames_123 rfl (lv_at hl 3 rfl) ?_
                refine lv_dup hx hb dX12_readFrames_124 rfl ?_
                refine va_get (D := (dC, dI)) (ci := 10) (v := .int p_12) (C := RX12) (T := TX12) (N := 32) hx hb hts inG_X12 hown hK hP 0 rfl rfl 31 (by decide) (hts _ kw_1083) (fun _ h9 => h9) rfl dX12_readFrames_125 ?_
                refine lv_iconst (v := 4) hx hb dX12_readFrames_128 (by decide) ?_
                refine lv_iadd hx hb dX12_readFrames_129 ?_
                refine lv_topi (fun p_29 e_p_29 => ?_)
                replace hf := bnd_at e_p_29 hf
                refine va_put (D := (dC, dI)) (ci := 10) (v := .int p_29) (ty := .int) (C := RX12) (T := TX12) (N := 32) hx hb hts inG_X12 tyX12 tyX12_ok nmX12 hown hK hP hD hS 0 rfl rfl 31 (by decide) (hts _ kw_1083) (fun _ h9 => h9) rfl (by decide +kernel) rfl rfl (Nat.le_of_ble_eq_true rfl) dX12_readFrames_130 (fun H locs hP hD hS => ?_)
                have hP : va_P (dC, dI) vwCl [(h0, .inr (10, [.ref h0_in, .int h0_inSize, w_h0_out, w_h0_outSize, .ref h0_dict, .int h0_dictSize, .ref h0_told, .ref h0_fresh, .int g10, w_h0_text, w_h0_lean, w_h0_size, w_h0_most, w_h0_offset, w_h0_copyAt, w_h0_copies, w_h0_copyLength, w_h0_copyOffset, w_h0_fromHere, w_h0_withCopy, w_h0_bestCopy, w_h0_bestLiterals, .int g3, .int g4, .int g5, w_h0_blocks, w_h0_blockMany, .ref h0_newBlocks, .int g6, .int g7, .int g8, .int p_29])), (h0_in, .inl (cI, h0_in_n, .inl h0_in_f)), (h0_told, .inl (cI, h0_told_n, .inl h0_told_f)), (h0_fresh, .inl (cI, h0_fresh_n, .inl f1)), (h0_newBlocks, .inl (cI, h0_newBlocks_n, .inl f2)), (h0_dict, .inl (cI, h0_dict_n, .inl h0_dict_f))] H := hP
                have hD : va_D A [(h0, .inr (10, [.ref h0_in, .int h0_inSize, w_h0_out, w_h0_outSize, .ref h0_dict, .int h0_dictSize, .ref h0_told, .ref h0_fresh, .int g10, w_h0_text, w_h0_lean, w_h0_size, w_h0_most, w_h0_offset, w_h0_copyAt, w_h0_copies, w_h0_copyLength, w_h0_copyOffset, w_h0_fromHere, w_h0_withCopy, w_h0_bestCopy, w_h0_bestLiterals, .int g3, .int g4, .int g5, w_h0_blocks, w_h0_blockMany, .ref h0_newBlocks, .int g6, .int g7, .int g8, .int p_29])), (h0_in, .inl (cI, h0_in_n, .inl h0_in_f)), (h0_told, .inl (cI, h0_told_n, .inl h0_told_f)), (h0_fresh, .inl (cI, h0_fresh_n, .inl f1)), (h0_newBlocks, .inl (cI, h0_newBlocks_n, .inl f2)), (h0_dict, .inl (cI, h0_dict_n, .inl h0_dict_f))] := hD
                refine lv_lload hx hb dX12_readFrames_133 (lv_at hl 0 rfl) ?_
                refine lv_aload_n hx hb dX12_readFrames_135 rfl (lv_at hl 3 rfl) ?_
                refine va_get (D := (dC, dI)) (ci := 10) (v := .int h0_inSize) (C := RX12) (T := TX12) (N := 32) hx hb hts inG_X12 hown hK hP 0 rfl rfl 1 (by decide) (hts _ kw_1053) (fun _ h9 => h9) rfl dX12_readFrames_136 ?_
                refine lv_aload_n hx hb dX12_readFrames_139 rfl (lv_at hl 3 rfl) ?_
                refine va_get (D := (dC, dI)) (ci := 10) (v := .int p_29) (C := RX12) (T := TX12) (N := 32) hx hb hts inG_X12 hown hK hP 0 rfl rfl 31 (by decide) (hts _ kw_1083) (fun _ h9 => h9) rfl dX12_readFrames_140 ?_
                refine lv_isub hx hb dX12_readFrames_143 ?_
                refine lv_i2l (v := ((h0_inSize - p_29).toInt64)) hx hb dX12_readFrames_144 rfl ?_
                refine W.lcmp hx hb dX12_readFrames_145 ?_
                have hJ_166 : ∀ (g30 : Int32) (g31 : Int32) (s32 : Int32) (H : Heap) (locs : List Loc) (ls : Array Slot), m_Mo_readFrames_J166 f1 f2 g3 g4 g5 g6 g10 r28 p_29 g30 g31 s32 = some r_0 → va_P (dC, dI) vwCl [(h0, .inr (10, [.ref h0_in, .int h0_inSize, w_h0_out, w_h0_outSize, .ref h0_dict, .int h0_dictSize, .ref h0_told, .ref h0_fresh, .int g10, w_h0_text, w_h0_lean, w_h0_size, w_h0_most, w_h0_offset, w_h0_copyAt, w_h0_copies, w_h0_copyLength, w_h0_copyOffset, w_h0_fromHere, w_h0_withCopy, w_h0_bestCopy, w_h0_bestLiterals, .int g3, .int g4, .int g5, w_h0_blocks, w_h0_blockMany, .ref h0_newBlocks, .int g6, .int g30, .int g31, .int p_29])), (h0_in, .inl (cI, h0_in_n, .inl h0_in_f)), (h0_told, .inl (cI, h0_told_n, .inl h0_told_f)), (h0_fresh, .inl (cI, h0_fresh_n, .inl f1)), (h0_newBlocks, .inl (cI, h0_newBlocks_n, .inl f2)), (h0_dict, .inl (cI, h0_dict_n, .inl h0_dict_f))] H → va_D A [(h0, .inr (10, [.ref h0_in, .int h0_inSize, w_h0_out, w_h0_outSize, .ref h0_dict, .int h0_dictSize, .ref h0_told, .ref h0_fresh, .int g10, w_h0_text, w_h0_lean, w_h0_size, w_h0_most, w_h0_offset, w_h0_copyAt, w_h0_copies, w_h0_copyLength, w_h0_copyOffset, w_h0_fromHere, w_h0_withCopy, w_h0_bestCopy, w_h0_bestLiterals, .int g3, .int g4, .int g5, w_h0_blocks, w_h0_blockMany, .ref h0_newBlocks, .int g6, .int g30, .int g31, .int p_29])), (h0_in, .inl (cI, h0_in_n, .inl h0_in_f)), (h0_told, .inl (cI, h0_told_n, .inl h0_told_f)), (h0_fresh, .inl (cI, h0_fresh_n, .inl f1)), (h0_newBlocks, .inl (cI, h0_newBlocks_n, .inl f2)), (h0_dict, .inl (cI, h0_dict_n, .inl h0_dict_f))] → va_S A s.heap H locs → lv_has ls 7 [(0, .ref h0), (5, .long r28)] → W p l e (rm_Mo_readFrames) s m ([.ref h0] : List Value).toArray below meth c H locs 0 0 Q (F0 m 166 ls [.int s32]) := by
                  intro g30 g31 s32 H locs ls hf hP hD hS hl
                  unfold m_Mo_readFrames_J166 at hf
                  refine lv_istore (lv' := [(4, .int s32), (0, .ref h0), (5, .long r28)]) hx hb dX12_readFrames_166 hl (by decide) rfl (fun ls hl => ?_)
                  refine lv_aload_n hx hb dX12_readFrames_168 rfl (lv_at hl 1 rfl) ?_
                  refine lv_dup hx hb dX12_readFrames_169 rfl ?_
                  refine va_get (D := (dC, dI)) (ci := 10) (v := .int p_29) (C := RX12) (T := TX12) (N := 32) hx hb hts inG_X12 hown hK hP 0 rfl rfl 31 (by decide) (hts _ kw_1083) (fun _ h9 => h9) rfl dX12_readFrames_170 ?_
                  refine lv_iload hx hb dX12_readFrames_173 (lv_at hl 0 rfl) ?_
                  have hJ_185 : ∀ (s33 : Int32) (H : Heap) (locs : List Loc) (ls : Array Slot), m_Mo_readFrames_J185 f1 f2 g3 g4 g5 g6 g10 p_29 g30 g31 s32 s33 = some r_0 → va_P (dC, dI) vwCl [(h0, .inr (10, [.ref h0_in, .int h0_inSize, w_h0_out, w_h0_outSize, .ref h0_dict, .int h0_dictSize, .ref h0_told, .ref h0_fresh, .int g10, w_h0_text, w_h0_lean, w_h0_size, w_h0_most, w_h0_offset, w_h0_copyAt, w_h0_copies, w_h0_copyLength, w_h0_copyOffset, w_h0_fromHere, w_h0_withCopy, w_h0_bestCopy, w_h0_bestLiterals, .int g3, .int g4, .int g5, w_h0_blocks, w_h0_blockMany, .ref h0_newBlocks, .int g6, .int g30, .int g31, .int p_29])), (h0_in, .inl (cI, h0_in_n, .inl h0_in_f)), (h0_told, .inl (cI, h0_told_n, .inl h0_told_f)), (h0_fresh, .inl (cI, h0_fresh_n, .inl f1)), (h0_newBlocks, .inl (cI, h0_newBlocks_n, .inl f2)), (h0_dict, .inl (cI, h0_dict_n, .inl h0_dict_f))] H → va_D A [(h0, .inr (10, [.ref h0_in, .int h0_inSize, w_h0_out, w_h0_outSize, .ref h0_dict, .int h0_dictSize, .ref h0_told, .ref h0_fresh, .int g10, w_h0_text, w_h0_lean, w_h0_size, w_h0_most, w_h0_offset, w_h0_copyAt, w_h0_copies, w_h0_copyLength, w_h0_copyOffset, w_h0_fromHere, w_h0_withCopy, w_h0_bestCopy, w_h0_bestLiterals, .int g3, .int g4, .int g5, w_h0_blocks, w_h0_blockMany, .ref h0_newBlocks, .int g6, .int g30, .int g31, .int p_29])), (h0_in, .inl (cI, h0_in_n, .inl h0_in_f)), (h0_told, .inl (cI, h0_told_n, .inl h0_told_f)), (h0_fresh, .inl (cI, h0_fresh_n, .inl f1)), (h0_newBlocks, .inl (cI, h0_newBlocks_n, .inl f2)), (h0_dict, .inl (cI, h0_dict_n, .inl h0_dict_f))] → va_S A s.heap H locs → lv_has ls 7 [(0, .ref h0), (4, .int s32)] → W p l e (rm_Mo_readFrames) s m ([.ref h0] : List Value).toArray below meth c H locs 0 0 Q (F0 m 185 ls [.int s33, .int p_29, .ref h0]) := by
                    intro s33 H locs ls hf hP hD hS hl
                    unfold m_Mo_readFrames_J185 at hf
                    refine lv_iadd hx hb dX12_readFrames_185 ?_
                    refine lv_topi (fun p_34 e_p_34 => ?_)
                    replace hf := bnd_at e_p_34 hf
                    refine va_put (D := (dC, dI)) (ci := 10) (v := .int p_34) (ty := .int) (C := RX12) (T := TX12) (N := 32) hx hb hts inG_X12 tyX12 tyX12_ok nmX12 hown hK hP hD hS 0 rfl rfl 31 (by decide) (hts _ kw_1083) (fun _ h9 => h9) rfl (by decide +kernel) rfl rfl (Nat.le_of_ble_eq_true rfl) dX12_readFrames_186 (fun H locs hP hD hS => ?_)
                    have hP : va_P (dC, dI) vwCl [(h0, .inr (10, [.ref h0_in, .int h0_inSize, w_h0_out, w_h0_outSize, .ref h0_dict, .int h0_dictSize, .ref h0_told, .ref h0_fresh, .int g10, w_h0_text, w_h0_lean, w_h0_size, w_h0_most, w_h0_offset, w_h0_copyAt, w_h0_copies, w_h0_copyLength, w_h0_copyOffset, w_h0_fromHere, w_h0_withCopy, w_h0_bestCopy, w_h0_bestLiterals, .int g3, .int g4, .int g5, w_h0_blocks, w_h0_blockMany, .ref h0_newBlocks, .int g6, .int g30, .int g31, .int p_34])), (h0_in, .inl (cI, h0_in_n, .inl h0_in_f)), (h0_told, .inl (cI, h0_told_n, .inl h0_told_f)), (h0_fresh, .inl (cI, h0_fresh_n, .inl f1)), (h0_newBlocks, .inl (cI, h0_newBlocks_n, .inl f2)), (h0_dict, .inl (cI, h0_dict_n, .inl h0_dict_f))] H := hP
                    have hD : va_D A [(h0, .inr (10, [.ref h0_in, .int h0_inSize, w_h0_out, w_h0_outSize, .ref h0_dict, .int h0_dictSize, .ref h0_told, .ref h0_fresh, .int g10, w_h0_text, w_h0_lean, w_h0_size, w_h0_most, w_h0_offset, w_h0_copyAt, w_h0_copies, w_h0_copyLength, w_h0_copyOffset, w_h0_fromHere, w_h0_withCopy, w_h0_bestCopy, w_h0_bestLiterals, .int g3, .int g4, .int g5, w_h0_blocks, w_h0_blockMany, .ref h0_newBlocks, .int g6, .int g30, .int g31, .int p_34])), (h0_in, .inl (cI, h0_in_n, .inl h0_in_f)), (h0_told, .inl (cI, h0_told_n, .inl h0_told_f)), (h0_fresh, .inl (cI, h0_fresh_n, .inl f1)), (h0_newBlocks, .inl (cI, h0_newBlocks_n, .inl f2)), (h0_dict, .inl (cI, h0_dict_n, .inl h0_dict_f))] := hD
                    refine lv_goto (tgt := 200) hx hb dX12_readFrames_189 (by decide) ?_
                    exact hJ_200 f1 f2 g3 g4 g5 g6 g30 g31 p_34 g10 s32 _ _ _ hf hP hD hS (lv_sub hl [0, 1] rfl)
                  refine lv_if_eq (tgt := 184) hx hb dX12_readFrames_175 (by decide) (fun c_175 => ?_) (fun c_175 => ?_)
                  · replace hf := if_t c_175 hf
                    refine lv_iconst (v := 0) hx hb dX12_readFrames_184 (by decide) ?_
                    exact hJ_185 (0 : Int32) _ _ _ hf hP hD hS (lv_sub hl [1, 0] rfl)
                  · replace hf := if_f c_175 hf
                    refine lv_lload hx hb dX12_readFrames_178 (lv_at hl 2 rfl) ?_
                    refine lv_l2i (v := (r28.toInt32)) hx hb dX12_readFrames_180 rfl ?_
                    refine lv_goto (tgt := 185) hx hb dX12_readFrames_181 (by decide) ?_
                    exact hJ_185 (r28.toInt32) _ _ _ hf hP hD hS (lv_sub hl [1, 0] rfl)
                refine lv_if_le (tgt := 161) hx hb dX12_readFrames_146 (by decide) (fun c_146 => ?_) (fun c_146 => ?_)
                · replace hf := if_t c_146 hf
                  refine lv_iconst (v := 1) hx hb dX12_readFrames_161 (by decide) ?_
                  refine lv_goto (tgt := 166) hx hb dX12_readFrames_162 (by decide) ?_
                  exact hJ_166 g7 g8 (1 : Int32) _ _ _ hf hP hD hS (lv_sub hl [3, 0] rfl)
                · replace hf := if_f c_146 hf
                  refine lv_aload_n hx hb dX12_readFrames_149 rfl (lv_at hl 3 rfl) ?_
                  refine lv_iconst (v := 1) hx hb dX12_readFrames_150 (by decide) ?_
                  refine lv_aload_n hx hb dX12_readFrames_151 rfl (lv_at hl 3 rfl) ?_
                  refine va_get (D := (dC, dI)) (ci := 10) (v := .int h0_inSize) (C := RX12) (T := TX12) (N := 32) hx hb hts inG_X12 hown hK hP 0 rfl rfl 1 (by decide) (hts _ kw_1053) (fun _ h9 => h9) rfl dX12_readFrames_152 ?_
                  obtain ⟨x, hc, hf⟩ := bind_some hf
                  obtain ⟨r35, u36, u37⟩ := x
                  dsimp only at hf
                  refine nx_i (rn_V (As := [.int (1 : Int32), .int h0_inSize]) (rest := []) (n := 2) (ci := 10) (q0 := 0) ⟨hx, hb, hml, hown, hts⟩ (c_Mo_no (l := l) (dC := dC) (dI := dI) (cB := cB) (cI := cI) (h0 := h0) (a1 := (1 : Int32)) (a2 := h0_inSize) (w_h0_in := (.ref h0_in)) (w_h0_inSize := (.int h0_inSize)) (w_h0_out := (w_h0_out)) (w_h0_outSize := (w_h0_outSize)) (w_h0_dict := (.ref h0_dict)) (w_h0_dictSize := (.int h0_dictSize)) (w_h0_told := (.ref h0_told)) (w_h0_fresh := (.ref h0_fresh)) (w_h0_freshSize := (.int g10)) (w_h0_text := (w_h0_text)) (w_h0_lean := (w_h0_lean)) (w_h0_size := (w_h0_size)) (w_h0_most := (w_h0_most)) (w_h0_offset := (w_h0_offset)) (w_h0_copyAt := (w_h0_copyAt)) (w_h0_copies := (w_h0_copies)) (w_h0_copyLength := (w_h0_copyLength)) (w_h0_copyOffset := (w_h0_copyOffset)) (w_h0_fromHere := (w_h0_fromHere)) (w_h0_withCopy := (w_h0_withCopy)) (w_h0_bestCopy := (w_h0_bestCopy)) (w_h0_bestLiterals := (w_h0_bestLiterals)) (w_h0_copiesOf := (.int g3)) (w_h0_literalsOf := (.int g4)) (w_h0_partsOf := (.int g5)) (w_h0_blocks := (w_h0_blocks)) (w_h0_blockMany := (w_h0_blockMany)) (w_h0_newBlocks := (.ref h0_newBlocks)) (w_h0_newMany := (.int g6)) (h0_rule := g7) (h0_place := g8) (w_h0_at := (.int p_29)) (o_h0_rule := u36) (o_h0_place := u37) (o_r := r35) hc) (wV kw_1353 kw_1355 kw_72 kw_94 kw_1356) (by decide +kernel) ⟨Nat.le_of_ble_eq_true rfl, Nat.le_of_ble_eq_true rfl⟩ hK hP hD hN hT hS (va_free (wc := [(h0, .inr (10, [.ref h0_in, .int h0_inSize, w_h0_out, w_h0_outSize, .ref h0_dict, .int h0_dictSize, .ref h0_told, .ref h0_fresh, .int g10, w_h0_text, w_h0_lean, w_h0_size, w_h0_most, w_h0_offset, w_h0_copyAt, w_h0_copies, w_h0_copyLength, w_h0_copyOffset, w_h0_fromHere, w_h0_withCopy, w_h0_bestCopy, w_h0_bestLiterals, .int g3, .int g4, .int g5, w_h0_blocks, w_h0_blockMany, .ref h0_newBlocks, .int g6, .int g7, .int g8, .int p_29]))]) hD hS hA [0] rfl) [0] rfl (by decide) rfl rfl rfl hl.1 rfl (lv_room (Nat.le_of_ble_eq_true rfl)) dX12_readFrames_155 ⟨Nat.le_of_ble_eq_true rfl, Nat.le_of_ble_eq_true rfl⟩) hP hD hS hA (wr := [(h0_in, .inl (cI, h0_in_n, .inl h0_in_f)), (h0_told, .inl (cI, h0_told_n, .inl h0_told_f)), (h0_fresh, .inl (cI, h0_fresh_n, .inl f1)), (h0_newBlocks, .inl (cI, h0_newBlocks_n, .inl f2)), (h0_dict, .inl (cI, h0_dict_n, .inl h0_dict_f))]) (w1 := [(h0, .inr (10, [.ref h0_in, .int h0_inSize, w_h0_out, w_h0_outSize, .ref h0_dict, .int h0_dictSize, .ref h0_told, .ref h0_fresh, .int g10, w_h0_text, w_h0_lean, w_h0_size, w_h0_most, w_h0_offset, w_h0_copyAt, w_h0_copies, w_h0_copyLength, w_h0_copyOffset, w_h0_fromHere, w_h0_withCopy, w_h0_bestCopy, w_h0_bestLiterals, .int g3, .int g4, .int g5, w_h0_blocks, w_h0_blockMany, .ref h0_newBlocks, .int g6, .int u36, .int u37, .int p_29]))]) (ws' := [(h0, .inr (10, [.ref h0_in, .int h0_inSize, w_h0_out, w_h0_outSize, .ref h0_dict, .int h0_dictSize, .ref h0_told, .ref h0_fresh, .int g10, w_h0_text, w_h0_lean, w_h0_size, w_h0_most, w_h0_offset, w_h0_copyAt, w_h0_copies, w_h0_copyLength, w_h0_copyOffset, w_h0_fromHere, w_h0_withCopy, w_h0_bestCopy, w_h0_bestLiterals, .int g3, .int g4, .int g5, w_h0_blocks, w_h0_blockMany, .ref h0_newBlocks, .int g6, .int u36, .int u37, .int p_29])), (h0_in, .inl (cI, h0_in_n, .inl h0_in_f)), (h0_told, .inl (cI, h0_told_n, .inl h0_told_f)), (h0_fresh, .inl (cI, h0_fresh_n, .inl f1)), (h0_newBlocks, .inl (cI, h0_newBlocks_n, .inl f2)), (h0_dict, .inl (cI, h0_dict_n, .inl h0_dict_f))]) [0] [1, 2, 3, 4, 5] [5, 0, 1, 2, 3, 4] rfl rfl (by decide) (by decide) rfl (by decide) (fun H locs hP hD hS => ?_)
                  refine lv_if_eq (tgt := 165) hx hb dX12_readFrames_158 (by decide) (fun c_158 => ?_) (fun c_158 => ?_)
                  · replace hf := if_t c_158 hf
                    refine lv_iconst (v := 0) hx hb dX12_readFrames_165 (by decide) ?_
                    exact hJ_166 u36 u37 (0 : Int32) _ _ _ hf hP hD hS (lv_sub hl [3, 0] rfl)
                  · replace hf := if_f c_158 hf
                    refine lv_iconst (v := 1) hx hb dX12_readFrames_161 (by decide) ?_
                    refine lv_goto (tgt := 166) hx hb dX12_readFrames_162 (by decide) ?_
                    exact hJ_166 u36 u37 (1 : Int32) _ _ _ hf hP hD hS (lv_sub hl [3, 0] rfl)
              · replace hf := if_f c_99 hf
                refine lv_aload_n hx hb dX12_readFrames_102 rfl (lv_at hl 2 rfl) ?_
                refine lv_iconst (v := 1) hx hb dX12_readFrames_103 (by decide) ?_
                refine lv_aload_n hx hb dX12_readFrames_104 rfl (lv_at hl 2 rfl) ?_
                refine va_get (D := (dC, dI)) (ci := 10) (v := .int h0_inSize) (C := RX12) (T := TX12) (N := 32) hx hb hts inG_X12 hown hK hP 0 rfl rfl 1 (by decide) (hts _ kw_1053) (fun _ h9 => h9) rfl dX12_readFrames_105 ?_
                obtain ⟨x, hc, hf⟩ := bind_some hf
                obtain ⟨r38, u39, u40⟩ := x
                dsimp only at hf
                refine nx_i (rn_V (As := [.int (1 : Int32), .int h0_inSize]) (rest := []) (n := 2) (ci := 10) (q0 := 0) ⟨hx, hb, hml, hown, hts⟩ (c_Mo_no (l := l) (dC := dC) (dI := dI) (cB := cB) (cI := cI) (h0 := h0) (a1 := (1 : Int32)) (a2 := h0_inSize) (w_h0_in := (.ref h0_in)) (w_h0_inSize := (.int h0_inSize)) (w_h0_out := (w_h0_out)) (w_h0_outSize := (w_h0_outSize)) (w_h0_dict := (.ref h0_dict)) (w_h0_dictSize := (.int h0_dictSize)) (w_h0_told := (.ref h0_told)) (w_h0_fresh := (.ref h0_fresh)) (w_h0_freshSize := (.int g10)) (w_h0_text := (w_h0_text)) (w_h0_lean := (w_h0_lean)) (w_h0_size := (w_h0_size)) (w_h0_most := (w_h0_most)) (w_h0_offset := (w_h0_offset)) (w_h0_copyAt := (w_h0_copyAt)) (w_h0_copies := (w_h0_copies)) (w_h0_copyLength := (w_h0_copyLength)) (w_h0_copyOffset := (w_h0_copyOffset)) (w_h0_fromHere := (w_h0_fromHere)) (w_h0_withCopy := (w_h0_withCopy)) (w_h0_bestCopy := (w_h0_bestCopy)) (w_h0_bestLiterals := (w_h0_bestLiterals)) (w_h0_copiesOf := (.int g3)) (w_h0_literalsOf := (.int g4)) (w_h0_partsOf := (.int g5)) (w_h0_blocks := (w_h0_blocks)) (w_h0_blockMany := (w_h0_blockMany)) (w_h0_newBlocks := (.ref h0_newBlocks)) (w_h0_newMany := (.int g6)) (h0_rule := g7) (h0_place := g8) (w_h0_at := (.int p_12)) (o_h0_rule := u39) (o_h0_place := u40) (o_r := r38) hc) (wV kw_1353 kw_1355 kw_72 kw_94 kw_1356) (by decide +kernel) ⟨Nat.le_of_ble_eq_true rfl, Nat.le_of_ble_eq_true rfl⟩ hK hP hD hN hT hS (va_free (wc := [(h0, .inr (10, [.ref h0_in, .int h0_inSize, w_h0_out, w_h0_outSize, .ref h0_dict, .int h0_dictSize, .ref h0_told, .ref h0_fresh, .int g10, w_h0_text, w_h0_lean, w_h0_size, w_h0_most, w_h0_offset, w_h0_copyAt, w_h0_copies, w_h0_copyLength, w_h0_copyOffset, w_h0_fromHere, w_h0_withCopy, w_h0_bestCopy, w_h0_bestLiterals, .int g3, .int g4, .int g5, w_h0_blocks, w_h0_blockMany, .ref h0_newBlocks, .int g6, .int g7, .int g8, .int p_12]))]) hD hS hA [0] rfl) [0] rfl (by decide) rfl rfl rfl hl.1 rfl (lv_room (Nat.le_of_ble_eq_true rfl)) dX12_readFrames_108 ⟨Nat.le_of_ble_eq_true rfl, Nat.le_of_ble_eq_true rfl⟩) hP hD hS hA (wr := [(h0_in, .inl (cI, h0_in_n, .inl h0_in_f)), (h0_told, .inl (cI, h0_told_n, .inl h0_told_f)), (h0_fresh, .inl (cI, h0_fresh_n, .inl f1)), (h0_newBlocks, .inl (cI, h0_newBlocks_n, .inl f2)), (h0_dict, .inl (cI, h0_dict_n, .inl h0_dict_f))]) (w1 := [(h0, .inr (10, [.ref h0_in, .int h0_inSize, w_h0_out, w_h0_outSize, .ref h0_dict, .int h0_dictSize, .ref h0_told, .ref h0_fresh, .int g10, w_h0_text, w_h0_lean, w_h0_size, w_h0_most, w_h0_offset, w_h0_copyAt, w_h0_copies, w_h0_copyLength, w_h0_copyOffset, w_h0_fromHere, w_h0_withCopy, w_h0_bestCopy, w_h0_bestLiterals, .int g3, .int g4, .int g5, w_h0_blocks, w_h0_blockMany, .ref h0_newBlocks, .int g6, .int u39, .int u40, .int p_12]))]) (ws' := [(h0, .inr (10, [.ref h0_in, .int h0_inSize, w_h0_out, w_h0_outSize, .ref h0_dict, .int h0_dictSize, .ref h0_told, .ref h0_fresh, .int g10, w_h0_text, w_h0_lean, w_h0_size, w_h0_most, w_h0_offset, w_h0_copyAt, w_h0_copies, w_h0_copyLength, w_h0_copyOffset, w_h0_fromHere, w_h0_withCopy, w_h0_bestCopy, w_h0_bestLiterals, .int g3, .int g4, .int g5, w_h0_blocks, w_h0_blockMany, .ref h0_newBlocks, .int g6, .int u39, .int u40, .int p_12])), (h0_in, .inl (cI, h0_in_n, .inl h0_in_f)), (h0_told, .inl (cI, h0_told_n, .inl h0_told_f)), (h0_fresh, .inl (cI, h0_fresh_n, .inl f1)), (h0_newBlocks, .inl (cI, h0_newBlocks_n, .inl f2)), (h0_dict, .inl (cI, h0_dict_n, .inl h0_dict_f))]) [0] [1, 2, 3, 4, 5] [5, 0, 1, 2, 3, 4] rfl rfl (by decide) (by decide) rfl (by decide) (fun H locs hP hD hS => ?_)
                obtain ⟨hzb, hf⟩ := bch_some hf
                replace hf : some (r38, g10, g3, g4, g5, g6, u39, u40, p_12, f1, f2) = some (o_r, o_h0_freshSize, o_h0_copiesOf, o_h0_literalsOf, o_h0_partsOf, o_h0_newMany, o_h0_rule, o_h0_place, o_h0_at, o_h0_fresh_f, o_h0_newBlocks_f) := by have hq := hk_0; rw [iter_exit hf hr_0] at hq; exact hq
                obtain ⟨rfl, hq_1⟩ := Prod.mk.inj (Option.some.inj hf)
                obtain ⟨rfl, hq_2⟩ := Prod.mk.inj hq_1
                obtain ⟨rfl, hq_3⟩ := Prod.mk.inj hq_2
                obtain ⟨rfl, hq_4⟩ := Prod.mk.inj hq_3
                obtain ⟨rfl, hq_5⟩ := Prod.mk.inj hq_4
                obtain ⟨rfl, hq_6⟩ := Prod.mk.inj hq_5
                obtain ⟨rfl, hq_7⟩ := Prod.mk.inj hq_6
                obtain ⟨rfl, hq_8⟩ := Prod.mk.inj hq_7
                obtain ⟨rfl, hq_9⟩ := Prod.mk.inj hq_8
                obtain ⟨rfl, hq_10⟩ := Prod.mk.inj hq_9
                obtain rfl := hq_10
                exact rt_z hQ hx hb hr hzb hlocks hP hD hS dX12_readFrames_111
          · replace hf := if_t c_64 hf
            refine lv_aload_n hx hb dX12_readFrames_67 rfl (lv_at hl 2 rfl) ?_
            obtain ⟨x, hc, hf⟩ := bind_some hf
            obtain ⟨r41, u42, u43, u44, u45, u46, u47, u48, u49, u50, u51⟩ := x
            dsimp only at hf
            refine nx_i (rn_V (As := []) (rest := []) (n := 0) (ci := 10) (q0 := 0) ⟨hx, hb, hml, hown, hts⟩ (c_Mo_readFrame (l := l) (dC := dC) (dI := dI) (cB := cB) (cI := cI) (h0 := h0) (h0_in := h0_in) (h0_told := h0_told) (h0_fresh := h0_fresh) (h0_newBlocks := h0_newBlocks) (h0_dict := h0_dict) (h0_inSize := h0_inSize) (w_h0_out := (w_h0_out)) (w_h0_outSize := (w_h0_outSize)) (h0_dictSize := h0_dictSize) (h0_freshSize := g10) (w_h0_text := (w_h0_text)) (w_h0_lean := (w_h0_lean)) (w_h0_size := (w_h0_size)) (w_h0_most := (w_h0_most)) (w_h0_offset := (w_h0_offset)) (w_h0_copyAt := (w_h0_copyAt)) (w_h0_copies := (w_h0_copies)) (w_h0_copyLength := (w_h0_copyLength)) (w_h0_copyOffset := (w_h0_copyOffset)) (w_h0_fromHere := (w_h0_fromHere)) (w_h0_withCopy := (w_h0_withCopy)) (w_h0_bestCopy := (w_h0_bestCopy)) (w_h0_bestLiterals := (w_h0_bestLiterals)) (h0_copiesOf := g3) (h0_literalsOf := g4) (h0_partsOf := g5) (w_h0_blocks := (w_h0_blocks)) (w_h0_blockMany := (w_h0_blockMany)) (h0_newMany := g6) (h0_rule := g7) (h0_place := g8) (h0_at := p_12) (h0_in_n := h0_in_n) (h0_in_f := h0_in_f) (h0_told_n := h0_told_n) (h0_told_f := h0_told_f) (h0_fresh_n := h0_fresh_n) (h0_fresh_f := f1) (h0_newBlocks_n := h0_newBlocks_n) (h0_newBlocks_f := f2) (h0_dict_n := h0_dict_n) (h0_dict_f := h0_dict_f) (o_h0_freshSize := u42) (o_h0_copiesOf := u43) (o_h0_literalsOf := u44) (o_h0_partsOf := u45) (o_h0_newMany := u46) (o_h0_rule := u47) (o_h0_place := u48) (o_h0_at := u49) (o_h0_fresh_f := u50) (o_h0_newBlocks_f := u51) (o_r := r41) hc) (wV kw_1361 kw_1363 kw_74 kw_94 kw_1364) (by decide +kernel) ⟨Nat.le_of_ble_eq_true rfl, Nat.le_of_ble_eq_true rfl⟩ hK hP hD hN hT hS (va_free (wc := [(h0, .inr (10, [.ref h0_in, .int h0_inSize, w_h0_out, w_h0_outSize, .ref h0_dict, .int h0_dictSize, .ref h0_told, .ref h0_fresh, .int g10, w_h0_text, w_h0_lean, w_h0_size, w_h0_most, w_h0_offset, w_h0_copyAt, w_h0_copies, w_h0_copyLength, w_h0_copyOffset, w_h0_fromHere, w_h0_withCopy, w_h0_bestCopy, w_h0_bestLiterals, .int g3, .int g4, .int g5, w_h0_blocks, w_h0_blockMany, .ref h0_newBlocks, .int g6, .int g7, .int g8, .int p_12])), (h0_in, .inl (cI, h0_in_n, .inl h0_in_f)), (h0_told, .inl (cI, h0_told_n, .inl h0_told_f)), (h0_fresh, .inl (cI, h0_fresh_n, .inl f1)), (h0_newBlocks, .inl (cI, h0_newBlocks_n, .inl f2)), (h0_dict, .inl (cI, h0_dict_n, .inl h0_dict_f))]) hD hS hA [0, 1, 2, 3, 4, 5] rfl) [0, 1, 2, 3, 4, 5] rfl (by decide) rfl rfl rfl hl.1 rfl (lv_room (Nat.le_of_ble_eq_true rfl)) dX12_readFrames_68 ⟨Nat.le_of_ble_eq_true rfl, Nat.le_of_ble_eq_true rfl⟩) hP hD hS hA (wr := []) (w1 := [(h0, .inr (10, [.ref h0_in, .int h0_inSize, w_h0_out, w_h0_outSize, .ref h0_dict, .int h0_dictSize, .ref h0_told, .ref h0_fresh, .int u42, w_h0_text, w_h0_lean, w_h0_size, w_h0_most, w_h0_offset, w_h0_copyAt, w_h0_copies, w_h0_copyLength, w_h0_copyOffset, w_h0_fromHere, w_h0_withCopy, w_h0_bestCopy, w_h0_bestLiterals, .int u43, .int u44, .int u45, w_h0_blocks, w_h0_blockMany, .ref h0_newBlocks, .int u46, .int u47, .int u48, .int u49])), (h0_in, .inl (cI, h0_in_n, .inl h0_in_f)), (h0_told, .inl (cI, h0_told_n, .inl h0_told_f)), (h0_fresh, .inl (cI, h0_fresh_n, .inl u50)), (h0_newBlocks, .inl (cI, h0_newBlocks_n, .inl u51)), (h0_dict, .inl (cI, h0_dict_n, .inl h0_dict_f))]) (ws' := [(h0, .inr (10, [.ref h0_in, .int h0_inSize, w_h0_out, w_h0_outSize, .ref h0_dict, .int h0_dictSize, .ref h0_told, .ref h0_fresh, .int u42, w_h0_text, w_h0_lean, w_h0_size, w_h0_most, w_h0_offset, w_h0_copyAt, w_h0_copies, w_h0_copyLength, w_h0_copyOffset, w_h0_fromHere, w_h0_withCopy, w_h0_bestCopy, w_h0_bestLiterals, .int u43, .int u44, .int u45, w_h0_blocks, w_h0_blockMany, .ref h0_newBlocks, .int u46, .int u47, .int u48, .int u49])), (h0_in, .inl (cI, h0_in_n, .inl h0_in_f)), (h0_told, .inl (cI, h0_told_n, .inl h0_told_f)), (h0_fresh, .inl (cI, h0_fresh_n, .inl u50)), (h0_newBlocks, .inl (cI, h0_newBlocks_n, .inl u51)), (h0_dict, .inl (cI, h0_dict_n, .inl h0_dict_f))]) [0, 1, 2, 3, 4, 5] [] [0, 1, 2, 3, 4, 5] rfl rfl (by decide) (by decide) rfl (by decide) (fun H locs hP hD hS => ?_)
            refine lv_istore (lv' := [(4, .int r41), (2, .long r11), (1, .int g9), (0, .ref h0)]) hx hb dX12_readFrames_71 hl (by decide) rfl (fun ls hl => ?_)
            refine lv_goto (tgt := 200) hx hb dX12_readFrames_73 (by decide) ?_
            exact hJ_200 u50 u51 u43 u44 u45 u46 u47 u48 u49 u42 r41 _ _ _ hf hP hD hS (lv_sub hl [3, 0] rfl)
        · replace hf := if_f c_26 hf
          refine lv_aload_n hx hb dX12_readFrames_29 rfl (lv_at hl 1 rfl) ?_
          refine lv_iconst (v := 1) hx hb dX12_readFrames_30 (by decide) ?_
          refine lv_aload_n hx hb dX12_readFrames_31 rfl (lv_at hl 1 rfl) ?_
          refine va_get (D := (dC, dI)) (ci := 10) (v := .int h0_inSize) (C := RX12) (T := TX12) (N := 32) hx hb hts inG_X12 hown hK hP 0 rfl rfl 1 (by decide) (hts _ kw_1053) (fun _ h9 => h9) rfl dX12_readFrames_32 ?_
          obtain ⟨x, hc, hf⟩ := bind_some hf
          obtain ⟨r52, u53, u54⟩ := x
          dsimp only at hf
          refine nx_i (rn_V (As := [.int (1 : Int32), .int h0_inSize]) (rest := []) (n := 2) (ci := 10) (q0 := 0) ⟨hx, hb, hml, hown, hts⟩ (c_Mo_no (l := l) (dC := dC) (dI := dI) (cB := cB) (cI := cI) (h0 := h0) (a1 := (1 : Int32)) (a2 := h0_inSize) (w_h0_in := (.ref h0_in)) (w_h0_inSize := (.int h0_inSize)) (w_h0_out := (w_h0_out)) (w_h0_outSize := (w_h0_outSize)) (w_h0_dict := (.ref h0_dict)) (w_h0_dictSize := (.int h0_dictSize)) (w_h0_told := (.ref h0_told)) (w_h0_fresh := (.ref h0_fresh)) (w_h0_freshSize := (.int g10)) (w_h0_text := (w_h0_text)) (w_h0_lean := (w_h0_lean)) (w_h0_size := (w_h0_size)) (w_h0_most := (w_h0_most)) (w_h0_offset := (w_h0_offset)) (w_h0_copyAt := (w_h0_copyAt)) (w_h0_copies := (w_h0_copies)) (w_h0_copyLength := (w_h0_copyLength)) (w_h0_copyOffset := (w_h0_copyOffset)) (w_h0_fromHere := (w_h0_fromHere)) (w_h0_withCopy := (w_h0_withCopy)) (w_h0_bestCopy := (w_h0_bestCopy)) (w_h0_bestLiterals := (w_h0_bestLiterals)) (w_h0_copiesOf := (.int g3)) (w_h0_literalsOf := (.int g4)) (w_h0_partsOf := (.int g5)) (w_h0_blocks := (w_h0_blocks)) (w_h0_blockMany := (w_h0_blockMany)) (w_h0_newBlocks := (.ref h0_newBlocks)) (w_h0_newMany := (.int g6)) (h0_rule := g7) (h0_place := g8) (w_h0_at := (.int g9)) (o_h0_rule := u53) (o_h0_place := u54) (o_r := r52) hc) (wV kw_1353 kw_1355 kw_72 kw_94 kw_1356) (by decide +kernel) ⟨Nat.le_of_ble_eq_true rfl, Nat.le_of_ble_eq_true rfl⟩ hK hP hD hN hT hS (va_free (wc := [(h0, .inr (10, [.ref h0_in, .int h0_inSize, w_h0_out, w_h0_outSize, .ref h0_dict, .int h0_dictSize, .ref h0_told, .ref h0_fresh, .int g10, w_h0_text, w_h0_lean, w_h0_size, w_h0_most, w_h0_offset, w_h0_copyAt, w_h0_copies, w_h0_copyLength, w_h0_copyOffset, w_h0_fromHere, w_h0_withCopy, w_h0_bestCopy, w_h0_bestLiterals, .int g3, .int g4, .int g5, w_h0_blocks, w_h0_blockMany, .ref h0_newBlocks, .int g6, .int g7, .int g8, .int g9]))]) hD hS hA [0] rfl) [0] rfl (by decide) rfl rfl rfl hl.1 rfl (lv_room (Nat.le_of_ble_eq_true rfl)) dX12_readFrames_35 ⟨Nat.le_of_ble_eq_true rfl, Nat.le_of_ble_eq_true rfl⟩) hP hD hS hA (wr := [(h0_in, .inl (cI, h0_in_n, .inl h0_in_f)), (h0_told, .inl (cI, h0_told_n, .inl h0_told_f)), (h0_fresh, .inl (cI, h0_fresh_n, .inl f1)), (h0_newBlocks, .inl (cI, h0_newBlocks_n, .inl f2)), (h0_dict, .inl (cI, h0_dict_n, .inl h0_dict_f))]) (w1 := [(h0, .inr (10, [.ref h0_in, .int h0_inSize, w_h0_out, w_h0_outSize, .ref h0_dict, .int h0_dictSize, .ref h0_told, .ref h0_fresh, .int g10, w_h0_text, w_h0_lean, w_h0_size, w_h0_most, w_h0_offset, w_h0_copyAt, w_h0_copies, w_h0_copyLength, w_h0_copyOffset, w_h0_fromHere, w_h0_withCopy, w_h0_bestCopy, w_h0_bestLiterals, .int g3, .int g4, .int g5, w_h0_blocks, w_h0_blockMany, .ref h0_newBlocks, .int g6, .int u53, .int u54, .int g9]))]) (ws' := [(h0, .inr (10, [.ref h0_in, .int h0_inSize, w_h0_out, w_h0_outSize, .ref h0_dict, .int h0_dictSize, .ref h0_told, .ref h0_fresh, .int g10, w_h0_text, w_h0_lean, w_h0_size, w_h0_most, w_h0_offset, w_h0_copyAt, w_h0_copies, w_h0_copyLength, w_h0_copyOffset, w_h0_fromHere, w_h0_withCopy, w_h0_bestCopy, w_h0_bestLiterals, .int g3, .int g4, .int g5, w_h0_blocks, w_h0_blockMany, .ref h0_newBlocks, .int g6, .int u53, .int u54, .int g9])), (h0_in, .inl (cI, h0_in_n, .inl h0_in_f)), (h0_told, .inl (cI, h0_told_n, .inl h0_told_f)), (h0_fresh, .inl (cI, h0_fresh_n, .inl f1)), (h0_newBlocks, .inl (cI, h0_newBlocks_n, .inl f2)), (h0_dict, .inl (cI, h0_dict_n, .inl h0_dict_f))]) [0] [1, 2, 3, 4, 5] [5, 0, 1, 2, 3, 4] rfl rfl (by decide) (by decide) rfl (by decide) (fun H locs hP hD hS => ?_)
          obtain ⟨hzb, hf⟩ := bch_some hf
          replace hf : some (r52, g10, g3, g4, g5, g6, u53, u54, g9, f1, f2) = some (o_r, o_h0_freshSize, o_h0_copiesOf, o_h0_literalsOf, o_h0_partsOf, o_h0_newMany, o_h0_rule, o_h0_place, o_h0_at, o_h0_fresh_f, o_h0_newBlocks_f) := by have hq := hk_0; rw [iter_exit hf hr_0] at hq; exact hq
          obtain ⟨rfl, hq_1⟩ := Prod.mk.inj (Option.some.inj hf)
          obtain ⟨rfl, hq_2⟩ := Prod.mk.inj hq_1
          obtain ⟨rfl, hq_3⟩ := Prod.mk.inj hq_2
          obtain ⟨rfl, hq_4⟩ := Prod.mk.inj hq_3
          obtain ⟨rfl, hq_5⟩ := Prod.mk.inj hq_4
          obtain ⟨rfl, hq_6⟩ := Prod.mk.inj hq_5
          obtain ⟨rfl, hq_7⟩ := Prod.mk.inj hq_6
          obtain ⟨rfl, hq_8⟩ := Prod.mk.inj hq_7
          obtain ⟨rfl, hq_9⟩ := Prod.mk.inj hq_8
          obtain ⟨rfl, hq_10⟩ := Prod.mk.inj hq_9
          obtain rfl := hq_10
          exact rt_z hQ hx hb hr hzb hlocks hP hD hS dX12_readFrames_38
  exact hL_0 FU h0_fresh_f h0_newBlocks_f h0_copiesOf h0_literalsOf h0_partsOf h0_newMany h0_rule h0_place h0_at h0_freshSize _ _ _ hi_0 hP hD hS (lv_sub hl [0] rfl)

theorem dX12_readChunk_0 : decode cX12_readChunk 0 = .ok (.aload_n 0, 1) := by decide +kernel
theorem dX12_readChunk_1 : decode cX12_readChunk 1 = .ok (.getfield 232, 3) := by decide +kernel
theorem dX12_readChunk_4 : decode cX12_readChunk 4 = .ok (.istore 4, 2) := by decide +kernel
theorem dX12_readChunk_6 : decode cX12_readChunk 6 = .ok (.aload_n 0, 1) := by decide +kernel
theorem dX12_readChunk_7 : decode cX12_readChunk 7 = .ok (.getfield 108, 3) := by decide +kernel
theorem dX12_readChunk_10 : decode cX12_readChunk 10 = .ok (.istore 5, 2) := by decide +kernel
theorem dX12_readChunk_12 : decode cX12_readChunk 12 = .ok (.aload_n 0, 1) := by decide +kernel
theorem dX12_readChunk_13 : decode cX12_readChunk 13 = .ok (.dup, 1) := by decide +kernel
theorem dX12_readChunk_14 : decode cX12_readChunk 14 = .ok (.getfield 232, 3) := by decide +kernel
theorem dX12_readChunk_17 : decode cX12_readChunk 17 = .ok (.iconst 4, 1) := by decide +kernel
theorem dX12_readChunk_18 : decode cX12_readChunk 18 = .ok (.iadd, 1) := by decide +kernel
theorem dX12_readChunk_19 : decode cX12_readChunk 19 = .ok (.putfield 232, 3) := by decide +kernel
theorem dX12_readChunk_22 : decode cX12_readChunk 22 = .ok (.iload_n 2, 1) := by decide +kernel
theorem dX12_readChunk_23 : decode cX12_readChunk 23 = .ok (.iconst 1, 1) := by decide +kernel
theorem dX12_readChunk_24 : decode cX12_readChunk 24 = .ok (.if_icmp .ne 62, 3) := by decide +kernel
theorem dX12_readChunk_27 : decode cX12_readChunk 27 = .ok (.aload_n 0, 1) := by decide +kernel
theorem dX12_readChunk_28 : decode cX12_readChunk 28 = .ok (.getfield 108, 3) := by decide +kernel
theorem dX12_readChunk_31 : decode cX12_readChunk 31 = .ok (.iload_n 3, 1) := by decide +kernel
theorem dX12_readChunk_32 : decode cX12_readChunk 32 = .ok (.iadd, 1) := by decide +kernel
theorem dX12_readChunk_33 : decode cX12_readChunk 33 = .ok (.aload_n 0, 1) := by decide +kernel
theorem dX12_readChunk_34 : decode cX12_readChunk 34 = .ok (.getfield 232, 3) := by decide +kernel
theorem dX12_readChunk_37 : decode cX12_readChunk 37 = .ok (.isub, 1) := by decide +kernel
theorem dX12_readChunk_38 : decode cX12_readChunk 38 = .ok (.sipush 12000, 3) := by decide +kernel
theorem dX12_readChunk_41 : decode cX12_readChunk 41 = .ok (.if_icmp .le 11, 3) := by decide +kernel
theorem dX12_readChunk_44 : decode cX12_readChunk 44 = .ok (.aload_n 0, 1) := by decide +kernel
theorem dX12_readChunk_45 : decode cX12_readChunk 45 = .ok (.bipush 12, 2) := by decide +kernel
theorem dX12_readChunk_47 : decode cX12_readChunk 47 = .ok (.iload_n 1, 1) := by decide +kernel
theorem dX12_readChunk_48 : decode cX12_readChunk 48 = .ok (.invokevirtual 235, 3) := by decide +kernel
theorem dX12_readChunk_51 : decode cX12_readChunk 51 = .ok (.ireturn, 1) := by decide +kernel
theorem dX12_readChunk_52 : decode cX12_readChunk 52 = .ok (.aload_n 0, 1) := by decide +kernel
theorem dX12_readChunk_53 : decode cX12_readChunk 53 = .ok (.getfield 232, 3) := by decide +kernel
theorem dX12_readChunk_56 : decode cX12_readChunk 56 = .ok (.iload_n 3, 1) := by decide +kernel
theorem dX12_readChunk_57 : decode cX12_readChunk 57 = .ok (.if_icmp .ge 39, 3) := by decide +kernel
theorem dX12_readChunk_60 : decode cX12_readChunk 60 = .ok (.aload_n 0, 1) := by decide +kernel
theorem dX12_readChunk_61 : decode cX12_readChunk 61 = .ok (.aload_n 0, 1) := by decide +kernel
theorem dX12_readChunk_62 : decode cX12_readChunk 62 = .ok (.getfield 170, 3) := by decide +kernel
theorem dX12_readChunk_65 : decode cX12_readChunk 65 = .ok (.aload_n 0, 1) := by decide +kernel
theorem dX12_readChunk_66 : decode cX12_readChunk 66 = .ok (.getfield 232, 3) := by decide +kernel
theorem dX12_readChunk_69 : decode cX12_readChunk 69 = .ok (.iaload, 1) := by decide +kernel
theorem dX12_readChunk_70 : decode cX12_readChunk 70 = .ok (.invokevirtual 111, 3) := by decide +kernel
theorem dX12_readChunk_73 : decode cX12_readChunk 73 = .ok (.aload_n 0, 1) := by decide +kernel
theorem dX12_readChunk_74 : decode cX12_readChunk 74 = .ok (.dup, 1) := by decide +kernel
theorem dX12_readChunk_75 : decode cX12_readChunk 75 = .ok (.getfield 232, 3) := by decide +kernel
theorem dX12_readChunk_78 : decode cX12_readChunk 78 = .ok (.iconst 1, 1) := by decide +kernel
theorem dX12_readChunk_79 : decode cX12_readChunk 79 = .ok (.iadd, 1) := by decide +kernel
theorem dX12_readChunk_80 : decode cX12_readChunk 80 = .ok (.putfield 232, 3) := by decide +kernel
theorem dX12_readChunk_83 : decode cX12_readChunk 83 = .ok (.goto (-31), 3) := by decide +kernel
theorem dX12_readChunk_86 : decode cX12_readChunk 86 = .ok (.aload_n 0, 1) := by decide +kernel
theorem dX12_readChunk_87 : decode cX12_readChunk 87 = .ok (.iload_n 3, 1) := by decide +kernel
theorem dX12_readChunk_88 : decode cX12_readChunk 88 = .ok (.invokevirtual 274, 3) := by decide +kernel
theorem dX12_readChunk_91 : decode cX12_readChunk 91 = .ok (.ifCond .ne 5, 3) := by decide +kernel
theorem dX12_readChunk_94 : decode cX12_readChunk 94 = .ok (.iconst 0, 1) := by decide +kernel
theorem dX12_readChunk_95 : decode cX12_readChunk 95 = .ok (.ireturn, 1) := by decide +kernel
theorem dX12_readChunk_96 : decode cX12_readChunk 96 = .ok (.aload_n 0, 1) := by decide +kernel
theorem dX12_readChunk_97 : decode cX12_readChunk 97 = .ok (.iload 4, 2) := by decide +kernel
theorem dX12_readChunk_99 : decode cX12_readChunk 99 = .ok (.iconst 4, 1) := by decide +kernel
theorem dX12_readChunk_100 : decode cX12_readChunk 100 = .ok (.invokevirtual 239, 3) := by decide +kernel
theorem dX12_readChunk_103 : decode cX12_readChunk 103 = .ok (.l2i, 1) := by decide +kernel
theorem dX12_readChunk_104 : decode cX12_readChunk 104 = .ok (.aload_n 0, 1) := by decide +kernel
theorem dX12_readChunk_105 : decode cX12_readChunk 105 = .ok (.getfield 105, 3) := by decide +kernel
theorem dX12_readChunk_108 : decode cX12_readChunk 108 = .ok (.iload 5, 2) := by decide +kernel
theorem dX12_readChunk_110 : decode cX12_readChunk 110 = .ok (.aload_n 0, 1) := by decide +kernel
theorem dX12_readChunk_111 : decode cX12_readChunk 111 = .ok (.getfield 108, 3) := by decide +kernel
theorem dX12_readChunk_114 : decode cX12_readChunk 114 = .ok (.iload 5, 2) := by decide +kernel
theorem dX12_readChunk_116 : decode cX12_readChunk 116 = .ok (.isub, 1) := by decide +kernel
theorem dX12_readChunk_117 : decode cX12_readChunk 117 = .ok (.invokestatic 205, 3) := by decide +kernel
theorem dX12_readChunk_120 : decode cX12_readChunk 120 = .ok (.invokestatic 208, 3) := by decide +kernel
theorem dX12_readChunk_123 : decode cX12_readChunk 123 = .ok (.if_icmp .eq 12, 3) := by decide +kernel
theorem dX12_readChunk_126 : decode cX12_readChunk 126 = .ok (.aload_n 0, 1) := by decide +kernel
theorem dX12_readChunk_127 : decode cX12_readChunk 127 = .ok (.bipush 8, 2) := by decide +kernel
theorem dX12_readChunk_129 : decode cX12_readChunk 129 = .ok (.iload 4, 2) := by decide +kernel
theorem dX12_readChunk_131 : decode cX12_readChunk 131 = .ok (.invokevirtual 235, 3) := by decide +kernel
theorem dX12_readChunk_134 : decode cX12_readChunk 134 = .ok (.ireturn, 1) := by decide +kernel
theorem dX12_readChunk_135 : decode cX12_readChunk 135 = .ok (.aload_n 0, 1) := by decide +kernel
theorem dX12_readChunk_136 : decode cX12_readChunk 136 = .ok (.iload 4, 2) := by decide +kernel
theorem dX12_readChunk_138 : decode cX12_readChunk 138 = .ok (.iconst 4, 1) := by decide +kernel
theorem dX12_readChunk_139 : decode cX12_readChunk 139 = .ok (.iadd, 1) := by decide +kernel
theorem dX12_readChunk_140 : decode cX12_readChunk 140 = .ok (.iload_n 3, 1) := by decide +kernel
theorem dX12_readChunk_141 : decode cX12_readChunk 141 = .ok (.iload 4, 2) := by decide +kernel
theorem dX12_readChunk_143 : decode cX12_readChunk 143 = .ok (.isub, 1) := by decide +kernel
theorem dX12_readChunk_144 : decode cX12_readChunk 144 = .ok (.iconst 4, 1) := by decide +kernel
theorem dX12_readChunk_145 : decode cX12_readChunk 145 = .ok (.isub, 1) := by decide +kernel
theorem dX12_readChunk_146 : decode cX12_readChunk 146 = .ok (.aload_n 0, 1) := by decide +kernel
theorem dX12_readChunk_147 : decode cX12_readChunk 147 = .ok (.getfield 108, 3) := by decide +kernel
theorem dX12_readChunk_150 : decode cX12_readChunk 150 = .ok (.iload 5, 2) := by decide +kernel
theorem dX12_readChunk_152 : decode cX12_readChunk 152 = .ok (.isub, 1) := by decide +kernel
theorem dX12_readChunk_153 : decode cX12_readChunk 153 = .ok (.iload_n 2, 1) := by decide +kernel
theorem dX12_readChunk_154 : decode cX12_readChunk 154 = .ok (.iconst 1, 1) := by decide +kernel
theorem dX12_readChunk_155 : decode cX12_readChunk 155 = .ok (.if_icmp .ne 7, 3) := by decide +kernel
theorem dX12_readChunk_158 : decode cX12_readChunk 158 = .ok (.iconst 1, 1) := by decide +kernel
theorem dX12_readChunk_159 : decode cX12_readChunk 159 = .ok (.goto 4, 3) := by decide +kernel
theorem dX12_readChunk_162 : decode cX12_readChunk 162 = .ok (.iconst 0, 1) := by decide +kernel
theorem dX12_readChunk_163 : decode cX12_readChunk 163 = .ok (.invokevirtual 193, 3) := by decide +kernel
theorem dX12_readChunk_166 : decode cX12_readChunk 166 = .ok (.iconst 1, 1) := by decide +kernel
theorem dX12_readChunk_167 : decode cX12_readChunk 167 = .ok (.ireturn, 1) := by decide +kernel
def m_Mo_readChunk_J163 (a3 : Int32) (h0_freshSize : Int32) (h0_newMany : Int32) (h0_at : Int32) (h0_newBlocks_n : Nat) (h0_newBlocks_f : Nat → Int32) (f2 : Nat → Int32) (g3 : Int32) (g4 : Int32) (g5 : Int32) (g6 : Int32) (g7 : Int32) (g8 : Int32) (g9 : Int32) (s13 : Int32) : Option (Int32 × Int32 × Int32 × Int32 × Int32 × Int32 × Int32 × Int32 × Int32 × (Nat → Int32) × (Nat → Int32)) :=
  (m_Mo_note (h0_at + (4 : Int32)) ((a3 - h0_at) - (4 : Int32)) (g9 - h0_freshSize) s13 g3 g4 g5 h0_newMany h0_newBlocks_n h0_newBlocks_f).bind fun (u14, u15) =>
  some ((1 : Int32), g9, g3, g4, g5, u14, g6, g7, g8, f2, u15)
def m_Mo_readChunk_J96 (a2 : Int32) (a3 : Int32) (h0_freshSize : Int32) (h0_newMany : Int32) (h0_at : Int32) (h0_in_n : Nat) (h0_in_f : Nat → Int32) (h0_fresh_n : Nat) (h0_newBlocks_n : Nat) (h0_newBlocks_f : Nat → Int32) (f2 : Nat → Int32) (g3 : Int32) (g4 : Int32) (g5 : Int32) (g6 : Int32) (g7 : Int32) (g8 : Int32) (g9 : Int32) : Option (Int32 × Int32 × Int32 × Int32 × Int32 × Int32 × Int32 × Int32 × Int32 × (Nat → Int32) × (Nat → Int32)) :=
  (m_Mo_number h0_at (4 : Int32) h0_in_n h0_in_f).bind fun r10 =>
  (m_Mo_crcOf h0_freshSize (g9 - h0_freshSize) h0_fresh_n f2).bind fun r11 =>
  (m_Mo_masked r11).bind fun r12 =>
  if (r10.toInt32) = r12 then
    if a2 = (1 : Int32) then
      m_Mo_readChunk_J163 a3 h0_freshSize h0_newMany h0_at h0_newBlocks_n h0_newBlocks_f f2 g3 g4 g5 g6 g7 g8 g9 (1 : Int32)
    else
      m_Mo_readChunk_J163 a3 h0_freshSize h0_newMany h0_at h0_newBlocks_n h0_newBlocks_f f2 g3 g4 g5 g6 g7 g8 g9 (0 : Int32)
  else
    (m_Mo_no (8 : Int32) h0_at).bind fun (r16, u17, u18) =>
    bch r16 <|
    some (r16, g9, g3, g4, g5, h0_newMany, u17, u18, g8, f2, h0_newBlocks_f)
def m_Mo_readChunk_B52 (a3 : Int32) (h0_copiesOf : Int32) (h0_literalsOf : Int32) (h0_partsOf : Int32) (h0_rule : Int32) (h0_place : Int32) (h0_in_n : Nat) (h0_in_f : Nat → Int32) (h0_fresh_n : Nat) (f28 : Nat → Int32) (g29 : Int32) (g30 : Int32) : Option (((Nat → Int32) × Int32 × Int32) ⊕ (((Nat → Int32) × Int32 × Int32 × Int32 × Int32 × Int32 × Int32 × Int32))) :=
  if a3 ≤ g29 then
    some (.inr (f28, h0_copiesOf, h0_literalsOf, h0_partsOf, h0_rule, h0_place, g29, g30))
  else
    chk g29 h0_in_n <|
    (m_Mo_put (h0_in_f g29.toNatClampNeg) g30 h0_fresh_n f28).bind fun (u31, u32) =>
    bnd (g29 + (1 : Int32)) fun p_33 =>
    some (.inl (u32, p_33, u31))
def m_Mo_readChunk (a1 : Int32) (a2 : Int32) (a3 : Int32) (h0_freshSize : Int32) (h0_copiesOf : Int32) (h0_literalsOf : Int32) (h0_partsOf : Int32) (h0_newMany : Int32) (h0_rule : Int32) (h0_place : Int32) (h0_at : Int32) (h0_in_n : Nat) (h0_in_f : Nat → Int32) (h0_fresh_n : Nat) (h0_fresh_f : Nat → Int32) (h0_newBlocks_n : Nat) (h0_newBlocks_f : Nat → Int32) : Option (Int32 × Int32 × Int32 × Int32 × Int32 × Int32 × Int32 × Int32 × Int32 × (Nat → Int32) × (Nat → Int32)) :=
  bnd (h0_at + (4 : Int32)) fun p_1 =>
  if a2 = (1 : Int32) then
    if ((h0_freshSize + a3) - p_1) ≤ (12000 : Int32) then
      (iter (fun st => m_Mo_readChunk_B52 a3 h0_copiesOf h0_literalsOf h0_partsOf h0_rule h0_place h0_in_n h0_in_f h0_fresh_n st.1 st.2.1 st.2.2) FU (h0_fresh_f, p_1, h0_freshSize)).bind fun o => m_Mo_readChunk_J96 a2 a3 h0_freshSize h0_newMany h0_at h0_in_n h0_in_f h0_fresh_n h0_newBlocks_n h0_newBlocks_f o.1 o.2.1 o.2.2.1 o.2.2.2.1 o.2.2.2.2.1 o.2.2.2.2.2.1 o.2.2.2.2.2.2.1 o.2.2.2.2.2.2.2
    else
      (m_Mo_no (12 : Int32) a1).bind fun (r34, u35, u36) =>
      bch r34 <|
      some (r34, h0_freshSize, h0_copiesOf, h0_literalsOf, h0_partsOf, h0_newMany, u35, u36, p_1, h0_fresh_f, h0_newBlocks_f)
  else
    (m_Mo_readElements a3 h0_freshSize h0_rule h0_place p_1 h0_in_n h0_in_f h0_fresh_n h0_fresh_f).bind fun (r19, u20, u21, u22, u23, u24, u25, u26, u27) =>
    if r19 = 0 then
      some ((0 : Int32), u20, u21, u22, u23, h0_newMany, u24, u25, u26, u27, h0_newBlocks_f)
    else
      m_Mo_readChunk_J96 a2 a3 h0_freshSize h0_newMany h0_at h0_in_n h0_in_f h0_fresh_n h0_newBlocks_n h0_newBlocks_f u27 u21 u22 u23 u24 u25 u26 u20
def rm_Mo_readChunk : Room := { frames := 2, cells := 0, slots := 0, locals := 63 }
set_option maxHeartbeats 4000000 in
set_option maxRecDepth 100000 in
theorem c_Mo_readChunk {l : Launch} {dC : Nat → ClassId} {dI : Nat → Nat → Nat} {cB cI : ClassId} {sz : Nat} {h0 : Nat} {a1 : Int32} {a2 : Int32} {a3 : Int32} {h0_in : Nat} {h0_fresh : Nat} {h0_newBlocks : Nat} {w_h0_inSize : Value} {w_h0_out : Value} {w_h0_outSize : Value} {w_h0_dict : Value} {w_h0_dictSize : Value} {w_h0_told : Value} {h0_freshSize : Int32} {w_h0_text : Value} {w_h0_lean : Value} {w_h0_size : Value} {w_h0_most : Value} {w_h0_offset : Value} {w_h0_copyAt : Value} {w_h0_copies : Value} {w_h0_copyLength : Value} {w_h0_copyOffset : Value} {w_h0_fromHere : Value} {w_h0_withCopy : Value} {w_h0_bestCopy : Value} {w_h0_bestLiterals : Value} {h0_copiesOf : Int32} {h0_literalsOf : Int32} {h0_partsOf : Int32} {w_h0_blocks : Value} {w_h0_blockMany : Value} {h0_newMany : Int32} {h0_rule : Int32} {h0_place : Int32} {h0_at : Int32} {h0_in_n : Nat} {h0_in_f : Nat → Int32} {h0_fresh_n : Nat} {h0_fresh_f : Nat → Int32} {h0_newBlocks_n : Nat} {h0_newBlocks_f : Nat → Int32} {o_r : Int32} {o_h0_freshSize : Int32} {o_h0_copiesOf : Int32} {o_h0_literalsOf : Int32} {o_h0_partsOf : Int32} {o_h0_newMany : Int32} {o_h0_rule : Int32} {o_h0_place : Int32} {o_h0_at : Int32} {o_h0_fresh_f : Nat → Int32} {o_h0_newBlocks_f : Nat → Int32} (hf : m_Mo_readChunk a1 a2 a3 h0_freshSize h0_copiesOf h0_literalsOf h0_partsOf h0_newMany h0_rule h0_place h0_at h0_in_n h0_in_f h0_fresh_n h0_fresh_f h0_newBlocks_n h0_newBlocks_f = some (o_r, o_h0_freshSize, o_h0_copiesOf, o_h0_literalsOf, o_h0_partsOf, o_h0_newMany, o_h0_rule, o_h0_place, o_h0_at, o_h0_fresh_f, o_h0_newBlocks_f)) : Met l yX12_readChunk (Cond.code yX12_readChunk cX12_readChunk 6 (some .boolean) :: lw_G) rm_Mo_readChunk (PreC (dC, dI) [(cB, .byte), (cI, .int)] [.ref h0, .int a1, .int a2, .int a3] sz [(h0, .inr (10, [.ref h0_in, w_h0_inSize, w_h0_out, w_h0_outSize, w_h0_dict, w_h0_dictSize, w_h0_told, .ref h0_fresh, .int h0_freshSize, w_h0_text, w_h0_lean, w_h0_size, w_h0_most, w_h0_offset, w_h0_copyAt, w_h0_copies, w_h0_copyLength, w_h0_copyOffset, w_h0_fromHere, w_h0_withCopy, w_h0_bestCopy, w_h0_bestLiterals, .int h0_copiesOf, .int h0_literalsOf, .int h0_partsOf, w_h0_blocks, w_h0_blockMany, .ref h0_newBlocks, .int h0_newMany, .int h0_rule, .int h0_place, .int h0_at])), (h0_in, .inl (cI, h0_in_n, .inl h0_in_f)), (h0_fresh, .inl (cI, h0_fresh_n, .inl h0_fresh_f)), (h0_newBlocks, .inl (cI, h0_newBlocks_n, .inl h0_newBlocks_f))]) (QcI o_r (dC, dI) [(h0, .inr (10, [.ref h0_in, w_h0_inSize, w_h0_out, w_h0_outSize, w_h0_dict, w_h0_dictSize, w_h0_told, .ref h0_fresh, .int o_h0_freshSize, w_h0_text, w_h0_lean, w_h0_size, w_h0_most, w_h0_offset, w_h0_copyAt, w_h0_copies, w_h0_copyLength, w_h0_copyOffset, w_h0_fromHere, w_h0_withCopy, w_h0_bestCopy, w_h0_bestLiterals, .int o_h0_copiesOf, .int o_h0_literalsOf, .int o_h0_partsOf, w_h0_blocks, w_h0_blockMany, .ref h0_newBlocks, .int o_h0_newMany, .int o_h0_rule, .int o_h0_place, .int o_h0_at])), (h0_in, .inl (cI, h0_in_n, .inl h0_in_f)), (h0_fresh, .inl (cI, h0_fresh_n, .inl o_h0_fresh_f)), (h0_newBlocks, .inl (cI, h0_newBlocks_n, .inl o_h0_newBlocks_f))] (va_A [(h0, .inr (10, [.ref h0_in, w_h0_inSize, w_h0_out, w_h0_outSize, w_h0_dict, w_h0_dictSize, w_h0_told, .ref h0_fresh, .int h0_freshSize, w_h0_text, w_h0_lean, w_h0_size, w_h0_most, w_h0_offset, w_h0_copyAt, w_h0_copies, w_h0_copyLength, w_h0_copyOffset, w_h0_fromHere, w_h0_withCopy, w_h0_bestCopy, w_h0_bestLiterals, .int h0_copiesOf, .int h0_literalsOf, .int h0_partsOf, w_h0_blocks, w_h0_blockMany, .ref h0_newBlocks, .int h0_newMany, .int h0_rule, .int h0_place, .int h0_at])), (h0_in, .inl (cI, h0_in_n, .inl h0_in_f)), (h0_fresh, .inl (cI, h0_fresh_n, .inl h0_fresh_f)), (h0_newBlocks, .inl (cI, h0_newBlocks_n, .inl h0_newBlocks_f))] sz)) 0 0 (va_A [(h0, .inr (10, [.ref h0_in, w_h0_inSize, w_h0_out, w_h0_outSize, w_h0_dict, w_h0_dictSize, w_h0_told, .ref h0_fresh, .int h0_freshSize, w_h0_text, w_h0_lean, w_h0_size, w_h0_most, w_h0_offset, w_h0_copyAt, w_h0_copies, w_h0_copyLength, w_h0_copyOffset, w_h0_fromHere, w_h0_withCopy, w_h0_bestCopy, w_h0_bestLiterals, .int h0_copiesOf, .int h0_literalsOf, .int h0_partsOf, w_h0_blocks, w_h0_blockMany, .ref h0_newBlocks, .int h0_newMany, .int h0_rule, .int h0_place, .int h0_at])), (h0_in, .inl (cI, h0_in_n, .inl h0_in_f)), (h0_fresh, .inl (cI, h0_fresh_n, .inl h0_fresh_f)), (h0_newBlocks, .inl (cI, h0_newBlocks_n, .inl h0_newBlocks_f))] sz) := by
  refine met_of (Qf := fun A => QcI o_r (dC, dI) [(h0, .inr (10, [.ref h0_in, w_h0_inSize, w_h0_out, w_h0_outSize, w_h0_dict, w_h0_dictSize, w_h0_told, .ref h0_fresh, .int o_h0_freshSize, w_h0_text, w_h0_lean, w_h0_size, w_h0_most, w_h0_offset, w_h0_copyAt, w_h0_copies, w_h0_copyLength, w_h0_copyOffset, w_h0_fromHere, w_h0_withCopy, w_h0_bestCopy, w_h0_bestLiterals, .int o_h0_copiesOf, .int o_h0_literalsOf, .int o_h0_partsOf, w_h0_blocks, w_h0_blockMany, .ref h0_newBlocks, .int o_h0_newMany, .int o_h0_rule, .int o_h0_place, .int o_h0_at])), (h0_in, .inl (cI, h0_in_n, .inl h0_in_f)), (h0_fresh, .inl (cI, h0_fresh_n, .inl o_h0_fresh_f)), (h0_newBlocks, .inl (cI, h0_newBlocks_n, .inl o_h0_newBlocks_f))] A) (by decide) (Nat.le_of_ble_eq_true rfl) ?_
  intro p e s m below meth c A ls Q hx hb hr hml hown hts hlocks hnm hP hK hD hN hT hA hl hQ
  have hown : s.vm.findClass RX12 = some m.cls := hown
  have hS : va_S A s.heap s.heap [] := va_S.rf
  have hl : lv_has ls 6 [(0, .ref h0), (1, .int a1), (2, .int a2), (3, .int a3)] := hl
  unfold m_Mo_readChunk at hf
  refine lv_aload_n hx hb dX12_readChunk_0 rfl (lv_at hl 0 rfl) ?_
  refine va_get (D := (dC, dI)) (ci := 10) (v := .int h0_at) (C := RX12) (T := TX12) (N := 32) hx hb hts inG_X12 hown hK hP 0 rfl rfl 31 (by decide) (hts _ kw_1083) (fun _ h9 => h9) rfl dX12_readChunk_1 ?_
  refine lv_istore (lv' := [(4, .int h0_at), (0, .ref h0), (1, .int a1), (2, .int a2), (3, .int a3)]) hx hb dX12_readChunk_4 hl (by decide) rfl (fun ls hl => ?_)
  refine lv_aload_n hx hb dX12_readChunk_6 rfl (lv_at hl 1 rfl) ?_
  refine va_get (D := (dC, dI)) (ci := 10) (v := .int h0_freshSize) (C := RX12) (T := TX12) (N := 32) hx hb hts inG_X12 hown hK hP 0 rfl rfl 8 (by decide) (hts _ kw_1060) (fun _ h9 => h9) rfl dX12_readChunk_7 ?_
  refine lv_istore (lv' := [(5, .int h0_freshSize), (4, .int h0_at), (0, .ref h0), (1, .int a1), (2, .int a2), (3, .int a3)]) hx hb dX12_readChunk_10 hl (by decide) rfl (fun ls hl => ?_)
  refine lv_aload_n hx hb dX12_readChunk_12 rfl (lv_at hl 2 rfl) ?_
  refine lv_dup hx hb dX12_readChunk_13 rfl ?_
  refine va_get (D := (dC, dI)) (ci := 10) (v := .int h0_at) (C := RX12) (T := TX12) (N := 32) hx hb hts inG_X12 hown hK hP 0 rfl rfl 31 (by decide) (hts _ kw_1083) (fun _ h9 => h9) rfl dX12_readChunk_14 ?_
  refine lv_iconst (v := 4) hx hb dX12_readChunk_17 (by decide) ?_
  refine lv_iadd hx hb dX12_readChunk_18 ?_
  refine lv_topi (fun p_1 e_p_1 => ?_)
  replace hf := bnd_at e_p_1 hf
  refine va_put (D := (dC, dI)) (ci := 10) (v := .int p_1) (ty := .int) (C := RX12) (T := TX12) (N := 32) hx hb hts inG_X12 tyX12 tyX12_ok nmX12 hown hK hP hD hS 0 rfl rfl 31 (by decide) (hts _ kw_1083) (fun _ h9 => h9) rfl (by decide +kernel) rfl rfl (Nat.le_of_ble_eq_true rfl) dX12_readChunk_19 (fun H locs hP hD hS => ?_)
  have hP : va_P (dC, dI) vwCl [(h0, .inr (10, [.ref h0_in, w_h0_inSize, w_h0_out, w_h0_outSize, w_h0_dict, w_h0_dictSize, w_h0_told, .ref h0_fresh, .int h0_freshSize, w_h0_text, w_h0_lean, w_h0_size, w_h0_most, w_h0_offset, w_h0_copyAt, w_h0_copies, w_h0_copyLength, w_h0_copyOffset, w_h0_fromHere, w_h0_withCopy, w_h0_bestCopy, w_h0_bestLiterals, .int h0_copiesOf, .int h0_literalsOf, .int h0_partsOf, w_h0_blocks, w_h0_blockMany, .ref h0_newBlocks, .int h0_newMany, .int h0_rule, .int h0_place, .int p_1])), (h0_in, .inl (cI, h0_in_n, .inl h0_in_f)), (h0_fresh, .inl (cI, h0_fresh_n, .inl h0_fresh_f)), (h0_newBlocks, .inl (cI, h0_newBlocks_n, .inl h0_newBlocks_f))] H := hP
  have hD : va_D A [(h0, .inr (10, [.ref h0_in, w_h0_inSize, w_h0_out, w_h0_outSize, w_h0_dict, w_h0_dictSize, w_h0_told, .ref h0_fresh, .int h0_freshSize, w_h0_text, w_h0_lean, w_h0_size, w_h0_most, w_h0_offset, w_h0_copyAt, w_h0_copies, w_h0_copyLength, w_h0_copyOffset, w_h0_fromHere, w_h0_withCopy, w_h0_bestCopy, w_h0_bestLiterals, .int h0_copiesOf, .int h0_literalsOf, .int h0_partsOf, w_h0_blocks, w_h0_blockMany, .ref h0_newBlocks, .int h0_newMany, .int h0_rule, .int h0_place, .int p_1])), (h0_in, .inl (cI, h0_in_n, .inl h0_in_f)), (h0_fresh, .inl (cI, h0_fresh_n, .inl h0_fresh_f)), (h0_newBlocks, .inl (cI, h0_newBlocks_n, .inl h0_newBlocks_f))] := hD
  refine lv_iload_n hx hb dX12_readChunk_22 rfl (lv_at hl 4 rfl) ?_
  refine lv_iconst (v := 1) hx hb dX12_readChunk_23 (by decide) ?_
  have hJ_96 : ∀ (f2 : Nat → Int32) (g3 : Int32) (g4 : Int32) (g5 : Int32) (g6 : Int32) (g7 : Int32) (g8 : Int32) (g9 : Int32) (H : Heap) (locs : List Loc) (ls : Array Slot), m_Mo_readChunk_J96 a2 a3 h0_freshSize h0_newMany h0_at h0_in_n h0_in_f h0_fresh_n h0_newBlocks_n h0_newBlocks_f f2 g3 g4 g5 g6 g7 g8 g9 = some (o_r, o_h0_freshSize, o_h0_copiesOf, o_h0_literalsOf, o_h0_partsOf, o_h0_newMany, o_h0_rule, o_h0_place, o_h0_at, o_h0_fresh_f, o_h0_newBlocks_f) → va_P (dC, dI) vwCl [(h0, .inr (10, [.ref h0_in, w_h0_inSize, w_h0_out, w_h0_outSize, w_h0_dict, w_h0_dictSize, w_h0_told, .ref h0_fresh, .int g9, w_h0_text, w_h0_lean, w_h0_size, w_h0_most, w_h0_offset, w_h0_copyAt, w_h0_copies, w_h0_copyLength, w_h0_copyOffset, w_h0_fromHere, w_h0_withCopy, w_h0_bestCopy, w_h0_bestLiterals, .int g3, .int g4, .int g5, w_h0_blocks, w_h0_blockMany, .ref h0_newBlocks, .int h0_newMany, .int g6, .int g7, .int g8])), (h0_in, .inl (cI, h0_in_n, .inl h0_in_f)), (h0_fresh, .inl (cI, h0_fresh_n, .inl f2)), (h0_newBlocks, .inl (cI, h0_newBlocks_n, .inl h0_newBlocks_f))] H → va_D A [(h0, .inr (10, [.ref h0_in, w_h0_inSize, w_h0_out, w_h0_outSize, w_h0_dict, w_h0_dictSize, w_h0_told, .ref h0_fresh, .int g9, w_h0_text, w_h0_lean, w_h0_size, w_h0_most, w_h0_offset, w_h0_copyAt, w_h0_copies, w_h0_copyLength, w_h0_copyOffset, w_h0_fromHere, w_h0_withCopy, w_h0_bestCopy, w_h0_bestLiterals, .int g3, .int g4, .int g5, w_h0_blocks, w_h0_blockMany, .ref h0_newBlocks, .int h0_newMany, .int g6, .int g7, .int g8])), (h0_in, .inl (cI, h0_in_n, .inl h0_in_f)), (h0_fresh, .inl (cI, h0_fresh_n, .inl f2)), (h0_newBlocks, .inl (cI, h0_newBlocks_n, .inl h0_newBlocks_f))] → va_S A s.heap H locs → lv_has ls 6 [(0, .ref h0), (2, .int a2), (3, .int a3), (4, .int h0_at), (5, .int h0_freshSize)] → W p l e (rm_Mo_readChunk) s m ([.ref h0, .int a1, .int a2, .int a3] : List Value).toArray below meth c H locs 0 0 Q (F0 m 96 ls []) := by
    intro f2 g3 g4 g5 g6 g7 g8 g9 H locs ls hf hP hD hS hl
    unfold m_Mo_readChunk_J96 at hf
    refine lv_aload_n hx hb dX12_readChunk_96 rfl (lv_at hl 0 rfl) ?_
    refine lv_iload hx hb dX12_readChunk_97 (lv_at hl 3 rfl) ?_
    refine lv_iconst (v := 4) hx hb dX12_readChunk_99 (by decide) ?_
    obtain ⟨r10, hc, hf⟩ := bind_some hf
    refine nx_l (rn_V (As := [.int h0_at, .int (4 : Int32)]) (rest := []) (n := 2) (ci := 10) (q0 := 0) ⟨hx, hb, hml, hown, hts⟩ (c_Mo_number (l := l) (dC := dC) (dI := dI) (cB := cB) (cI := cI) (h0 := h0) (a1 := h0_at) (a2 := (4 : Int32)) (h0_in := h0_in) (w_h0_inSize := (w_h0_inSize)) (w_h0_out := (w_h0_out)) (w_h0_outSize := (w_h0_outSize)) (w_h0_dict := (w_h0_dict)) (w_h0_dictSize := (w_h0_dictSize)) (w_h0_told := (w_h0_told)) (w_h0_fresh := (.ref h0_fresh)) (w_h0_freshSize := (.int g9)) (w_h0_text := (w_h0_text)) (w_h0_lean := (w_h0_lean)) (w_h0_size := (w_h0_size)) (w_h0_most := (w_h0_most)) (w_h0_offset := (w_h0_offset)) (w_h0_copyAt := (w_h0_copyAt)) (w_h0_copies := (w_h0_copies)) (w_h0_copyLength := (w_h0_copyLength)) (w_h0_copyOffset := (w_h0_copyOffset)) (w_h0_fromHere := (w_h0_fromHere)) (w_h0_withCopy := (w_h0_withCopy)) (w_h0_bestCopy := (w_h0_bestCopy)) (w_h0_bestLiterals := (w_h0_bestLiterals)) (w_h0_copiesOf := (.int g3)) (w_h0_literalsOf := (.int g4)) (w_h0_partsOf := (.int g5)) (w_h0_blocks := (w_h0_blocks)) (w_h0_blockMany := (w_h0_blockMany)) (w_h0_newBlocks := (.ref h0_newBlocks)) (w_h0_newMany := (.int h0_newMany)) (w_h0_rule := (.int g6)) (w_h0_place := (.int g7)) (w_h0_at := (.int g8)) (h0_in_n := h0_in_n) (h0_in_f := h0_in_f)  (o_r := r10) hc) (wV kw_1357 kw_1359 kw_73 kw_94 kw_1360) (by decide +kernel) ⟨Nat.le_of_ble_eq_true rfl, Nat.le_of_ble_eq_true rfl⟩ hK hP hD hN hT hS (va_free (wc := [(h0, .inr (10, [.ref h0_in, w_h0_inSize, w_h0_out, w_h0_outSize, w_h0_dict, w_h0_dictSize, w_h0_told, .ref h0_fresh, .int g9, w_h0_text, w_h0_lean, w_h0_size, w_h0_most, w_h0_offset, w_h0_copyAt, w_h0_copies, w_h0_copyLength, w_h0_copyOffset, w_h0_fromHere, w_h0_withCopy, w_h0_bestCopy, w_h0_bestLiterals, .int g3, .int g4, .int g5, w_h0_blocks, w_h0_blockMany, .ref h0_newBlocks, .int h0_newMany, .int g6, .int g7, .int g8])), (h0_in, .inl (cI, h0_in_n, .inl h0_in_f))]) hD hS hA [0, 1] rfl) [0, 1] rfl (by decide) rfl rfl rfl hl.1 rfl (lv_room (Nat.le_of_ble_eq_true rfl)) dX12_readChunk_100 ⟨Nat.le_of_ble_eq_true rfl, Nat.le_of_ble_eq_true rfl⟩) hP hD hS hA (wr := [(h0_fresh, .inl (cI, h0_fresh_n, .inl f2)), (h0_newBlocks, .inl (cI, h0_newBlocks_n, .inl h0_newBlocks_f))]) (w1 := [(h0, .inr (10, [.ref h0_in, w_h0_inSize, w_h0_out, w_h0_outSize, w_h0_dict, w_h0_dictSize, w_h0_told, .ref h0_fresh, .int g9, w_h0_text, w_h0_lean, w_h0_size, w_h0_most, w_h0_offset, w_h0_copyAt, w_h0_copies, w_h0_copyLength, w_h0_copyOffset, w_h0_fromHere, w_h0_withCopy, w_h0_bestCopy, w_h0_bestLiterals, .int g3, .int g4, .int g5, w_h0_blocks, w_h0_blockMany, .ref h0_newBlocks, .int h0_newMany, .int g6, .int g7, .int g8])), (h0_in, .inl (cI, h0_in_n, .inl h0_in_f))]) (ws' := [(h0, .inr (10, [.ref h0_in, w_h0_inSize, w_h0_out, w_h0_outSize, w_h0_dict, w_h0_dictSize, w_h0_told, .ref h0_fresh, .int g9, w_h0_text, w_h0_lean, w_h0_size, w_h0_most, w_h0_offset, w_h0_copyAt, w_h0_copies, w_h0_copyLength, w_h0_copyOffset, w_h0_fromHere, w_h0_withCopy, w_h0_bestCopy, w_h0_bestLiterals, .int g3, .int g4, .int g5, w_h0_blocks, w_h0_blockMany, .ref h0_newBlocks, .int h0_newMany, .int g6, .int g7, .int g8])), (h0_in, .inl (cI, h0_in_n, .inl h0_in_f)), (h0_fresh, .inl (cI, h0_fresh_n, .inl f2)), (h0_newBlocks, .inl (cI, h0_newBlocks_n, .inl h0_newBlocks_f))]) [0, 1] [2, 3] [2, 3, 0, 1] rfl rfl (by decide) (by decide) rfl (by decide) (fun H locs hP hD hS => ?_)
    refine lv_l2i (v := (r10.toInt32)) hx hb dX12_readChunk_103 rfl ?_
    refine lv_aload_n hx hb dX12_readChunk_104 rfl (lv_at hl 0 rfl) ?_
    refine va_get (D := (dC, dI)) (ci := 10) (v := .ref h0_fresh) (C := RX12) (T := TX12) (N := 32) hx hb hts inG_X12 hown hK hP 0 rfl rfl 7 (by decide) (hts _ kw_1059) (fun _ h9 => h9) rfl dX12_readChunk_105 ?_
    refine lv_iload hx hb dX12_readChunk_108 (lv_at hl 4 rfl) ?_
    refine lv_aload_n hx hb dX12_readChunk_110 rfl (lv_at hl 0 rfl) ?_
    refine va_get (D := (dC, dI)) (ci := 10) (v := .int g9) (C := RX12) (T := TX12) (N := 32) hx hb hts inG_X12 hown hK hP 0 rfl rfl 8 (by decide) (hts _ kw_1060) (fun _ h9 => h9) rfl dX12_readChunk_111 ?_
    refine lv_iload hx hb dX12_readChunk_114 (lv_at hl 4 rfl) ?_
    refine lv_isub hx hb dX12_readChunk_116 ?_
    obtain ⟨r11, hc, hf⟩ := bind_some hf
    refine nx_i (rn_S (As := [.ref h0_fresh, .int h0_freshSize, .int (g9 - h0_freshSize)]) (rest := [.int (r10.toInt32)]) (n := 3) ⟨hx, hb, hml, hown, hts⟩ (c_Mo_crcOf (l := l) (dC := dC) (dI := dI) (cB := cB) (cI := cI) (h0 := h0_fresh) (a1 := h0_freshSize) (a2 := (g9 - h0_freshSize)) (h0_n := h0_fresh_n) (h0_f := f2)  (o_r := r11) hc) (wS kw_1305 kw_1306 kw_94 kw_1307) (by decide +kernel) ⟨Nat.le_of_ble_eq_true rfl, Nat.le_of_ble_eq_true rfl⟩ hK hP hD hN hT hS (va_free (wc := [(h0_fresh, .inl (cI, h0_fresh_n, .inl f2))]) hD hS hA [2] rfl) [2] rfl (by decide) rfl hl.1 rfl (lv_room (Nat.le_of_ble_eq_true rfl)) dX12_readChunk_117 ⟨Nat.le_of_ble_eq_true rfl, Nat.le_of_ble_eq_true rfl⟩) hP hD hS hA (wr := [(h0, .inr (10, [.ref h0_in, w_h0_inSize, w_h0_out, w_h0_outSize, w_h0_dict, w_h0_dictSize, w_h0_told, .ref h0_fresh, .int g9, w_h0_text, w_h0_lean, w_h0_size, w_h0_most, w_h0_offset, w_h0_copyAt, w_h0_copies, w_h0_copyLength, w_h0_copyOffset, w_h0_fromHere, w_h0_withCopy, w_h0_bestCopy, w_h0_bestLiterals, .int g3, .int g4, .int g5, w_h0_blocks, w_h0_blockMany, .ref h0_newBlocks, .int h0_newMany, .int g6, .int g7, .int g8])), (h0_in, .inl (cI, h0_in_n, .inl h0_in_f)), (h0_newBlocks, .inl (cI, h0_newBlocks_n, .inl h0_newBlocks_f))]) (w1 := [(h0_fresh, .inl (cI, h0_fresh_n, .inl f2))]) (ws' := [(h0, .inr (10, [.ref h0_in, w_h0_inSize, w_h0_out, w_h0_outSize, w_h0_dict, w_h0_dictSize, w_h0_told, .ref h0_fresh, .int g9, w_h0_text, w_h0_lean, w_h0_size, w_h0_most, w_h0_offset, w_h0_copyAt, w_h0_copies, w_h0_copyLength, w_h0_copyOffset, w_h0_fromHere, w_h0_withCopy, w_h0_bestCopy, w_h0_bestLiterals, .int g3, .int g4, .int g5, w_h0_blocks, w_h0_blockMany, .ref h0_newBlocks, .int h0_newMany, .int g6, .int g7, .int g8])), (h0_in, .inl (cI, h0_in_n, .inl h0_in_f)), (h0_fresh, .inl (cI, h0_fresh_n, .inl f2)), (h0_newBlocks, .inl (cI, h0_newBlocks_n, .inl h0_newBlocks_f))]) [2] [0, 1, 3] [0, 1, 3, 2] rfl rfl (by decide) (by decide) rfl (by decide) (fun H locs hP hD hS => ?_)
    obtain ⟨r12, hc, hf⟩ := bind_some hf
    refine nx_i (rn_S (As := [.int r11]) (rest := [.int (r10.toInt32)]) (n := 1) ⟨hx, hb, hml, hown, hts⟩ (c_Mo_masked (l := l) (dC := dC) (dI := dI) (cB := cB) (cI := cI) (a0 := r11)  (o_r := r12) hc) (wS kw_1309 kw_1310 kw_94 kw_1311) (by decide +kernel) ⟨Nat.le_of_ble_eq_true rfl, Nat.le_of_ble_eq_true rfl⟩ hK hP hD hN hT hS (va_free (wc := []) hD hS hA [] rfl) [] rfl (by decide) rfl hl.1 rfl (lv_room (Nat.le_of_ble_eq_true rfl)) dX12_readChunk_120 ⟨Nat.le_of_ble_eq_true rfl, Nat.le_of_ble_eq_true rfl⟩) hP hD hS hA (wr := [(h0, .inr (10, [.ref h0_in, w_h0_inSize, w_h0_out, w_h0_outSize, w_h0_dict, w_h0_dictSize, w_h0_told, .ref h0_fresh, .int g9, w_h0_text, w_h0_lean, w_h0_size, w_h0_most, w_h0_offset, w_h0_copyAt, w_h0_copies, w_h0_copyLength, w_h0_copyOffset, w_h0_fromHere, w_h0_withCopy, w_h0_bestCopy, w_h0_bestLiterals, .int g3, .int g4, .int g5, w_h0_blocks, w_h0_blockMany, .ref h0_newBlocks, .int h0_newMany, .int g6, .int g7, .int g8])), (h0_in, .inl (cI, h0_in_n, .inl h0_in_f)), (h0_fresh, .inl (cI, h0_fresh_n, .inl f2)), (h0_newBlocks, .inl (cI, h0_newBlocks_n, .inl h0_newBlocks_f))]) (w1 := []) (ws' := [(h0, .inr (10, [.ref h0_in, w_h0_inSize, w_h0_out, w_h0_outSize, w_h0_dict, w_h0_dictSize, w_h0_told, .ref h0_fresh, .int g9, w_h0_text, w_h0_lean, w_h0_size, w_h0_most, w_h0_offset, w_h0_copyAt, w_h0_copies, w_h0_copyLength, w_h0_copyOffset, w_h0_fromHere, w_h0_withCopy, w_h0_bestCopy, w_h0_bestLiterals, .int g3, .int g4, .int g5, w_h0_blocks, w_h0_blockMany, .ref h0_newBlocks, .int h0_newMany, .int g6, .int g7, .int g8])), (h0_in, .inl (cI, h0_in_n, .inl h0_in_f)), (h0_fresh, .inl (cI, h0_fresh_n, .inl f2)), (h0_newBlocks, .inl (cI, h0_newBlocks_n, .inl h0_newBlocks_f))]) [] [0, 1, 2, 3] [0, 1, 2, 3] rfl rfl (by decide) (by decide) rfl (by decide) (fun H locs hP hD hS => ?_)
    refine lv_icmp_eq (tgt := 135) hx hb dX12_readChunk_123 (by decide) (fun c_123 => ?_) (fun c_123 => ?_)
    · replace hf := if_t c_123 hf
      refine lv_aload_n hx hb dX12_readChunk_135 rfl (lv_at hl 0 rfl) ?_
      refine lv_iload hx hb dX12_readChunk_136 (lv_at hl 3 rfl) ?_
      refine lv_iconst (v := 4) hx hb dX12_readChunk_138 (by decide) ?_
      refine lv_iadd hx hb dX12_readChunk_139 ?_
      refine lv_iload_n hx hb dX12_readChunk_140 rfl (lv_at hl 2 rfl) ?_
      refine lv_iload hx hb dX12_readChunk_141 (lv_at hl 3 rfl) ?_
      refine lv_isub hx hb dX12_readChunk_143 ?_
      refine lv_iconst (v := 4) hx hb dX12_readChunk_144 (by decide) ?_
      refine lv_isub hx hb dX12_readChunk_145 ?_
      refine lv_aload_n hx hb dX12_readChunk_146 rfl (lv_at hl 0 rfl) ?_
      refine va_get (D := (dC, dI)) (ci := 10) (v := .int g9) (C := RX12) (T := TX12) (N := 32) hx hb hts inG_X12 hown hK hP 0 rfl rfl 8 (by decide) (hts _ kw_1060) (fun _ h9 => h9) rfl dX12_readChunk_147 ?_
      refine lv_iload hx hb dX12_readChunk_150 (lv_at hl 4 rfl) ?_
      refine lv_isub hx hb dX12_readChunk_152 ?_
      refine lv_iload_n hx hb dX12_readChunk_153 rfl (lv_at hl 1 rfl) ?_
      refine lv_iconst (v := 1) hx hb dX12_readChunk_154 (by decide) ?_
      have hJ_163 : ∀ (s13 : Int32) (H : Heap) (locs : List Loc) (ls : Array Slot), m_Mo_readChunk_J163 a3 h0_freshSize h0_newMany h0_at h0_newBlocks_n h0_newBlocks_f f2 g3 g4 g5 g6 g7 g8 g9 s13 = some (o_r, o_h0_freshSize, o_h0_copiesOf, o_h0_literalsOf, o_h0_partsOf, o_h0_newMany, o_h0_rule, o_h0_place, o_h0_at, o_h0_fresh_f, o_h0_newBlocks_f) → va_P (dC, dI) vwCl [(h0, .inr (10, [.ref h0_in, w_h0_inSize, w_h0_out, w_h0_outSize, w_h0_dict, w_h0_dictSize, w_h0_told, .ref h0_fresh, .int g9, w_h0_text, w_h0_lean, w_h0_size, w_h0_most, w_h0_offset, w_h0_copyAt, w_h0_copies, w_h0_copyLength, w_h0_copyOffset, w_h0_fromHere, w_h0_withCopy, w_h0_bestCopy, w_h0_bestLiterals, .int g3, .int g4, .int g5, w_h0_blocks, w_h0_blockMany, .ref h0_newBlocks, .int h0_newMany, .int g6, .int g7, .int g8])), (h0_in, .inl (cI, h0_in_n, .inl h0_in_f)), (h0_fresh, .inl (cI, h0_fresh_n, .inl f2)), (h0_newBlocks, .inl (cI, h0_newBlocks_n, .inl h0_newBlocks_f))] H → va_D A [(h0, .inr (10, [.ref h0_in, w_h0_inSize, w_h0_out, w_h0_outSize, w_h0_dict, w_h0_dictSize, w_h0_told, .ref h0_fresh, .int g9, w_h0_text, w_h0_lean, w_h0_size, w_h0_most, w_h0_offset, w_h0_copyAt, w_h0_copies, w_h0_copyLength, w_h0_copyOffset, w_h0_fromHere, w_h0_withCopy, w_h0_bestCopy, w_h0_bestLiterals, .int g3, .int g4, .int g5, w_h0_blocks, w_h0_blockMany, .ref h0_newBlocks, .int h0_newMany, .int g6, .int g7, .int g8])), (h0_in, .inl (cI, h0_in_n, .inl h0_in_f)), (h0_fresh, .inl (cI, h0_fresh_n, .inl f2)), (h0_newBlocks, .inl (cI, h0_newBlocks_n, .inl h0_newBlocks_f))] → va_S A s.heap H locs → lv_has ls 6 [] → W p l e (rm_Mo_readChunk) s m ([.ref h0, .int a1, .int a2, .int a3] : List Value).toArray below meth c H locs 0 0 Q (F0 m 163 ls [.int s13, .int (g9 - h0_freshSize), .int ((a3 - h0_at) - (4 : Int32)), .int (h0_at + (4 : Int32)), .ref h0]) := by
        intro s13 H locs ls hf hP hD hS hl
        unfold m_Mo_readChunk_J163 at hf
        obtain ⟨x, hc, hf⟩ := bind_some hf
        obtain ⟨u14, u15⟩ := x
        dsimp only at hf
        refine nx_v (rn_V (As := [.int (h0_at + (4 : Int32)), .int ((a3 - h0_at) - (4 : Int32)), .int (g9 - h0_freshSize), .int s13]) (rest := []) (n := 4) (ci := 10) (q0 := 0) ⟨hx, hb, hml, hown, hts⟩ (c_Mo_note (l := l) (dC := dC) (dI := dI) (cB := cB) (cI := cI) (h0 := h0) (a1 := (h0_at + (4 : Int32))) (a2 := ((a3 - h0_at) - (4 : Int32))) (a3 := (g9 - h0_freshSize)) (a4 := s13) (h0_newBlocks := h0_newBlocks) (w_h0_in := (.ref h0_in)) (w_h0_inSize := (w_h0_inSize)) (w_h0_out := (w_h0_out)) (w_h0_outSize := (w_h0_outSize)) (w_h0_dict := (w_h0_dict)) (w_h0_dictSize := (w_h0_dictSize)) (w_h0_told := (w_h0_told)) (w_h0_fresh := (.ref h0_fresh)) (w_h0_freshSize := (.int g9)) (w_h0_text := (w_h0_text)) (w_h0_lean := (w_h0_lean)) (w_h0_size := (w_h0_size)) (w_h0_most := (w_h0_most)) (w_h0_offset := (w_h0_offset)) (w_h0_copyAt := (w_h0_copyAt)) (w_h0_copies := (w_h0_copies)) (w_h0_copyLength := (w_h0_copyLength)) (w_h0_copyOffset := (w_h0_copyOffset)) (w_h0_fromHere := (w_h0_fromHere)) (w_h0_withCopy := (w_h0_withCopy)) (w_h0_bestCopy := (w_h0_bestCopy)) (w_h0_bestLiterals := (w_h0_bestLiterals)) (h0_copiesOf := g3) (h0_literalsOf := g4) (h0_partsOf := g5) (w_h0_blocks := (w_h0_blocks)) (w_h0_blockMany := (w_h0_blockMany)) (h0_newMany := h0_newMany) (w_h0_rule := (.int g6)) (w_h0_place := (.int g7)) (w_h0_at := (.int g8)) (h0_newBlocks_n := h0_newBlocks_n) (h0_newBlocks_f := h0_newBlocks_f) (o_h0_newMany := u14) (o_h0_newBlocks_f := u15) hc) (wV kw_1291 kw_1293 kw_64 kw_94 kw_1294) (by decide +kernel) ⟨Nat.le_of_ble_eq_true rfl, Nat.le_of_ble_eq_true rfl⟩ hK hP hD hN hT hS (va_free (wc := [(h0, .inr (10, [.ref h0_in, w_h0_inSize, w_h0_out, w_h0_outSize, w_h0_dict, w_h0_dictSize, w_h0_told, .ref h0_fresh, .int g9, w_h0_text, w_h0_lean, w_h0_size, w_h0_most, w_h0_offset, w_h0_copyAt, w_h0_copies, w_h0_copyLength, w_h0_copyOffset, w_h0_fromHere, w_h0_withCopy, w_h0_bestCopy, w_h0_bestLiterals, .int g3, .int g4, .int g5, w_h0_blocks, w_h0_blockMany, .ref h0_newBlocks, .int h0_newMany, .int g6, .int g7, .int g8])), (h0_newBlocks, .inl (cI, h0_newBlocks_n, .inl h0_newBlocks_f))]) hD hS hA [0, 3] rfl) [0, 3] rfl (by decide) rfl rfl rfl hl.1 rfl (lv_room (Nat.le_of_ble_eq_true rfl)) dX12_readChunk_163 ⟨Nat.le_of_ble_eq_true rfl, Nat.le_of_ble_eq_true rfl⟩) hP hD hS hA (wr := [(h0_in, .inl (cI, h0_in_n, .inl h0_in_f)), (h0_fresh, .inl (cI, h0_fresh_n, .inl f2))]) (w1 := [(h0, .inr (10, [.ref h0_in, w_h0_inSize, w_h0_out, w_h0_outSize, w_h0_dict, w_h0_dictSize, w_h0_told, .ref h0_fresh, .int g9, w_h0_text, w_h0_lean, w_h0_size, w_h0_most, w_h0_offset, w_h0_copyAt, w_h0_copies, w_h0_copyLength, w_h0_copyOffset, w_h0_fromHere, w_h0_withCopy, w_h0_bestCopy, w_h0_bestLiterals, .int g3, .int g4, .int g5, w_h0_blocks, w_h0_blockMany, .ref h0_newBlocks, .int u14, .int g6, .int g7, .int g8])), (h0_newBlocks, .inl (cI, h0_newBlocks_n, .inl u15))]) (ws' := [(h0, .inr (10, [.ref h0_in, w_h0_inSize, w_h0_out, w_h0_outSize, w_h0_dict, w_h0_dictSize, w_h0_told, .ref h0_fresh, .int g9, w_h0_text, w_h0_lean, w_h0_size, w_h0_most, w_h0_offset, w_h0_copyAt, w_h0_copies, w_h0_copyLength, w_h0_copyOffset, w_h0_fromHere, w_h0_withCopy, w_h0_bestCopy, w_h0_bestLiterals, .int g3, .int g4, .int g5, w_h0_blocks, w_h0_blockMany, .ref h0_newBlocks, .int u14, .int g6, .int g7, .int g8])), (h0_in, .inl (cI, h0_in_n, .inl h0_in_f)), (h0_fresh, .inl (cI, h0_fresh_n, .inl f2)), (h0_newBlocks, .inl (cI, h0_newBlocks_n, .inl u15))]) [0, 3] [1, 2] [2, 0, 1, 3] rfl rfl (by decide) (by decide) rfl (by decide) (fun H locs hP hD hS => ?_)
        refine lv_iconst (v := 1) hx hb dX12_readChunk_166 (by decide) ?_
        have hzb : narrow .boolean (.int (1 : Int32)) = .int (1 : Int32) := rfl
        obtain ⟨rfl, hq_1⟩ := Prod.mk.inj (Option.some.inj hf)
        obtain ⟨rfl, hq_2⟩ := Prod.mk.inj hq_1
        obtain ⟨rfl, hq_3⟩ := Prod.mk.inj hq_2
        obtain ⟨rfl, hq_4⟩ := Prod.mk.inj hq_3
        obtain ⟨rfl, hq_5⟩ := Prod.mk.inj hq_4
        obtain ⟨rfl, hq_6⟩ := Prod.mk.inj hq_5
        obtain ⟨rfl, hq_7⟩ := Prod.mk.inj hq_6
        obtain ⟨rfl, hq_8⟩ := Prod.mk.inj hq_7
        obtain ⟨rfl, hq_9⟩ := Prod.mk.inj hq_8
        obtain ⟨rfl, hq_10⟩ := Prod.mk.inj hq_9
        obtain rfl := hq_10
        exact rt_z hQ hx hb hr hzb hlocks hP hD hS dX12_readChunk_167
      refine lv_icmp_ne (tgt := 162) hx hb dX12_readChunk_155 (by decide) (fun c_155 => ?_) (fun c_155 => ?_)
      · replace hf := if_f c_155 hf
        refine lv_iconst (v := 0) hx hb dX12_readChunk_162 (by decide) ?_
        exact hJ_163 (0 : Int32) _ _ _ hf hP hD hS (lv_sub hl [] rfl)
      · replace hf := if_t c_155 hf
        refine lv_iconst (v := 1) hx hb dX12_readChunk_158 (by decide) ?_
        refine lv_goto (tgt := 163) hx hb dX12_readChunk_159 (by decide) ?_
        exact hJ_163 (1 : Int32) _ _ _ hf hP hD hS (lv_sub hl [] rfl)
    · replace hf := if_f c_123 hf
      refine lv_aload_n hx hb dX12_readChunk_126 rfl (lv_at hl 0 rfl) ?_
      refine lv_bipush (v := 8) hx hb dX12_readChunk_127 (by decide) ?_
      refine lv_iload hx hb dX12_readChunk_129 (lv_at hl 3 rfl) ?_
      obtain ⟨x, hc, hf⟩ := bind_some hf
      obtain ⟨r16, u17, u18⟩ := x
      dsimp only at hf
      refine nx_i (rn_V (As := [.int (8 : Int32), .int h0_at]) (rest := []) (n := 2) (ci := 10) (q0 := 0) ⟨hx, hb, hml, hown, hts⟩ (c_Mo_no (l := l) (dC := dC) (dI := dI) (cB := cB) (cI := cI) (h0 := h0) (a1 := (8 : Int32)) (a2 := h0_at) (w_h0_in := (.ref h0_in)) (w_h0_inSize := (w_h0_inSize)) (w_h0_out := (w_h0_out)) (w_h0_outSize := (w_h0_outSize)) (w_h0_dict := (w_h0_dict)) (w_h0_dictSize := (w_h0_dictSize)) (w_h0_told := (w_h0_told)) (w_h0_fresh := (.ref h0_fresh)) (w_h0_freshSize := (.int g9)) (w_h0_text := (w_h0_text)) (w_h0_lean := (w_h0_lean)) (w_h0_size := (w_h0_size)) (w_h0_most := (w_h0_most)) (w_h0_offset := (w_h0_offset)) (w_h0_copyAt := (w_h0_copyAt)) (w_h0_copies := (w_h0_copies)) (w_h0_copyLength := (w_h0_copyLength)) (w_h0_copyOffset := (w_h0_copyOffset)) (w_h0_fromHere := (w_h0_fromHere)) (w_h0_withCopy := (w_h0_withCopy)) (w_h0_bestCopy := (w_h0_bestCopy)) (w_h0_bestLiterals := (w_h0_bestLiterals)) (w_h0_copiesOf := (.int g3)) (w_h0_literalsOf := (.int g4)) (w_h0_partsOf := (.int g5)) (w_h0_blocks := (w_h0_blocks)) (w_h0_blockMany := (w_h0_blockMany)) (w_h0_newBlocks := (.ref h0_newBlocks)) (w_h0_newMany := (.int h0_newMany)) (h0_rule := g6) (h0_place := g7) (w_h0_at := (.int g8)) (o_h0_rule := u17) (o_h0_place := u18) (o_r := r16) hc) (wV kw_1353 kw_1355 kw_72 kw_94 kw_1356) (by decide +kernel) ⟨Nat.le_of_ble_eq_true rfl, Nat.le_of_ble_eq_true rfl⟩ hK hP hD hN hT hS (va_free (wc := [(h0, .inr (10, [.ref h0_in, w_h0_inSize, w_h0_out, w_h0_outSize, w_h0_dict, w_h0_dictSize, w_h0_told, .ref h0_fresh, .int g9, w_h0_text, w_h0_lean, w_h0_size, w_h0_most, w_h0_offset, w_h0_copyAt, w_h0_copies, w_h0_copyLength, w_h0_copyOffset, w_h0_fromHere, w_h0_withCopy, w_h0_bestCopy, w_h0_bestLiterals, .int g3, .int g4, .int g5, w_h0_blocks, w_h0_blockMany, .ref h0_newBlocks, .int h0_newMany, .int g6, .int g7, .int g8]))]) hD hS hA [0] rfl) [0] rfl (by decide) rfl rfl rfl hl.1 rfl (lv_room (Nat.le_of_ble_eq_true rfl)) dX12_readChunk_131 ⟨Nat.le_of_ble_eq_true rfl, Nat.le_of_ble_eq_true rfl⟩) hP hD hS hA (wr := [(h0_in, .inl (cI, h0_in_n, .inl h0_in_f)), (h0_fresh, .inl (cI, h0_fresh_n, .inl f2)), (h0_newBlocks, .inl (cI, h0_newBlocks_n, .inl h0_newBlocks_f))]) (w1 := [(h0, .inr (10, [.ref h0_in, w_h0_inSize, w_h0_out, w_h0_outSize, w_h0_dict, w_h0_dictSize, w_h0_told, .ref h0_fresh, .int g9, w_h0_text, w_h0_lean, w_h0_size, w_h0_most, w_h0_offset, w_h0_copyAt, w_h0_copies, w_h0_copyLength, w_h0_copyOffset, w_h0_fromHere, w_h0_withCopy, w_h0_bestCopy, w_h0_bestLiterals, .int g3, .int g4, .int g5, w_h0_blocks, w_h0_blockMany, .ref h0_newBlocks, .int h0_newMany, .int u17, .int u18, .int g8]))]) (ws' := [(h0, .inr (10, [.ref h0_in, w_h0_inSize, w_h0_out, w_h0_outSize, w_h0_dict, w_h0_dictSize, w_h0_told, .ref h0_fresh, .int g9, w_h0_text, w_h0_lean, w_h0_size, w_h0_most, w_h0_offset, w_h0_copyAt, w_h0_copies, w_h0_copyLength, w_h0_copyOffset, w_h0_fromHere, w_h0_withCopy, w_h0_bestCopy, w_h0_bestLiterals, .int g3, .int g4, .int g5, w_h0_blocks, w_h0_blockMany, .ref h0_newBlocks, .int h0_newMany, .int u17, .int u18, .int g8])), (h0_in, .inl (cI, h0_in_n, .inl h0_in_f)), (h0_fresh, .inl (cI, h0_fresh_n, .inl f2)), (h0_newBlocks, .inl (cI, h0_newBlocks_n, .inl h0_newBlocks_f))]) [0] [1, 2, 3] [3, 0, 1, 2] rfl rfl (by decide) (by decide) rfl (by decide) (fun H locs hP hD hS => ?_)
      obtain ⟨hzb, hf⟩ := bch_some hf
      obtain ⟨rfl, hq_1⟩ := Prod.mk.inj (Option.some.inj hf)
      obtain ⟨rfl, hq_2⟩ := Prod.mk.inj hq_1
      obtain ⟨rfl, hq_3⟩ := Prod.mk.inj hq_2
      obtain ⟨rfl, hq_4⟩ := Prod.mk.inj hq_3
      obtain ⟨rfl, hq_5⟩ := Prod.mk.inj hq_4
      obtain ⟨rfl, hq_6⟩ := Prod.mk.inj hq_5
      obtain ⟨rfl, hq_7⟩ := Prod.mk.inj hq_6
      obtain ⟨rfl, hq_8⟩ := Prod.mk.inj hq_7
      obtain ⟨rfl, hq_9⟩ := Prod.mk.inj hq_8
      obtain ⟨rfl, hq_10⟩ := Prod.mk.inj hq_9
      obtain rfl := hq_10
      exact rt_z hQ hx hb hr hzb hlocks hP hD hS dX12_readChunk_134
  refine lv_icmp_ne (tgt := 86) hx hb dX12_readChunk_24 (by decide) (fun c_24 => ?_) (fun c_24 => ?_)
  · replace hf := if_f c_24 hf
    refine lv_aload_n hx hb dX12_readChunk_86 rfl (lv_at hl 2 rfl) ?_
    refine lv_iload_n hx hb dX12_readChunk_87 rfl (lv_at hl 5 rfl) ?_
    obtain ⟨x, hc, hf⟩ := bind_some hf
    obtain ⟨r19, u20, u21, u22, u23, u24, u25, u26, u27⟩ := x
    dsimp only at hf
    refine nx_i (rn_V (As := [.int a3]) (rest := []) (n := 1) (ci := 10) (q0 := 0) ⟨hx, hb, hml, hown, hts⟩ (c_Mo_readElements (l := l) (dC := dC) (dI := dI) (cB := cB) (cI := cI) (h0 := h0) (a1 := a3) (h0_in := h0_in) (h0_fresh := h0_fresh) (w_h0_inSize := (w_h0_inSize)) (w_h0_out := (w_h0_out)) (w_h0_outSize := (w_h0_outSize)) (w_h0_dict := (w_h0_dict)) (w_h0_dictSize := (w_h0_dictSize)) (w_h0_told := (w_h0_told)) (h0_freshSize := h0_freshSize) (w_h0_text := (w_h0_text)) (w_h0_lean := (w_h0_lean)) (w_h0_size := (w_h0_size)) (w_h0_most := (w_h0_most)) (w_h0_offset := (w_h0_offset)) (w_h0_copyAt := (w_h0_copyAt)) (w_h0_copies := (w_h0_copies)) (w_h0_copyLength := (w_h0_copyLength)) (w_h0_copyOffset := (w_h0_copyOffset)) (w_h0_fromHere := (w_h0_fromHere)) (w_h0_withCopy := (w_h0_withCopy)) (w_h0_bestCopy := (w_h0_bestCopy)) (w_h0_bestLiterals := (w_h0_bestLiterals)) (h0_copiesOf := h0_copiesOf) (h0_literalsOf := h0_literalsOf) (h0_partsOf := h0_partsOf) (w_h0_blocks := (w_h0_blocks)) (w_h0_blockMany := (w_h0_blockMany)) (w_h0_newBlocks := (.ref h0_newBlocks)) (w_h0_newMany := (.int h0_newMany)) (h0_rule := h0_rule) (h0_place := h0_place) (h0_at := p_1) (h0_in_n := h0_in_n) (h0_in_f := h0_in_f) (h0_fresh_n := h0_fresh_n) (h0_fresh_f := h0_fresh_f) (o_h0_freshSize := u20) (o_h0_copiesOf := u21) (o_h0_literalsOf := u22) (o_h0_partsOf := u23) (o_h0_rule := u24) (o_h0_place := u25) (o_h0_at := u26) (o_h0_fresh_f := u27) (o_r := r19) hc) (wV kw_1386 kw_1388 kw_79 kw_94 kw_1389) (by decide +kernel) ⟨Nat.le_of_ble_eq_true rfl, Nat.le_of_ble_eq_true rfl⟩ hK hP hD hN hT hS (va_free (wc := [(h0, .inr (10, [.ref h0_in, w_h0_inSize, w_h0_out, w_h0_outSize, w_h0_dict, w_h0_dictSize, w_h0_told, .ref h0_fresh, .int h0_freshSize, w_h0_text, w_h0_lean, w_h0_size, w_h0_most, w_h0_offset, w_h0_copyAt, w_h0_copies, w_h0_copyLength, w_h0_copyOffset, w_h0_fromHere, w_h0_withCopy, w_h0_bestCopy, w_h0_bestLiterals, .int h0_copiesOf, .int h0_literalsOf, .int h0_partsOf, w_h0_blocks, w_h0_blockMany, .ref h0_newBlocks, .int h0_newMany, .int h0_rule, .int h0_place, .int p_1])), (h0_in, .inl (cI, h0_in_n, .inl h0_in_f)), (h0_fresh, .inl (cI, h0_fresh_n, .inl h0_fresh_f))]) hD hS hA [0, 1, 2] rfl) [0, 1, 2] rfl (by decide) rfl rfl rfl hl.1 rfl (lv_room (Nat.le_of_ble_eq_true rfl)) dX12_readChunk_88 ⟨Nat.le_of_ble_eq_true rfl, Nat.le_of_ble_eq_true rfl⟩) hP hD hS hA (wr := [(h0_newBlocks, .inl (cI, h0_newBlocks_n, .inl h0_newBlocks_f))]) (w1 := [(h0, .inr (10, [.ref h0_in, w_h0_inSize, w_h0_out, w_h0_outSize, w_h0_dict, w_h0_dictSize, w_h0_told, .ref h0_fresh, .int u20, w_h0_text, w_h0_lean, w_h0_size, w_h0_most, w_h0_offset, w_h0_copyAt, w_h0_copies, w_h0_copyLength, w_h0_copyOffset, w_h0_fromHere, w_h0_withCopy, w_h0_bestCopy, w_h0_bestLiterals, .int u21, .int u22, .int u23, w_h0_blocks, w_h0_blockMany, .ref h0_newBlocks, .int h0_newMany, .int u24, .int u25, .int u26])), (h0_in, .inl (cI, h0_in_n, .inl h0_in_f)), (h0_fresh, .inl (cI, h0_fresh_n, .inl u27))]) (ws' := [(h0, .inr (10, [.ref h0_in, w_h0_inSize, w_h0_out, w_h0_outSize, w_h0_dict, w_h0_dictSize, w_h0_told, .ref h0_fresh, .int u20, w_h0_text, w_h0_lean, w_h0_size, w_h0_most, w_h0_offset, w_h0_copyAt, w_h0_copies, w_h0_copyLength, w_h0_copyOffset, w_h0_fromHere, w_h0_withCopy, w_h0_bestCopy, w_h0_bestLiterals, .int u21, .int u22, .int u23, w_h0_blocks, w_h0_blockMany, .ref h0_newBlocks, .int h0_newMany, .int u24, .int u25, .int u26])), (h0_in, .inl (cI, h0_in_n, .inl h0_in_f)), (h0_fresh, .inl (cI, h0_fresh_n, .inl u27)), (h0_newBlocks, .inl (cI, h0_newBlocks_n, .inl h0_newBlocks_f))]) [0, 1, 2] [3] [1, 2, 3, 0] rfl rfl (by decide) (by decide) rfl (by decide) (fun H locs hP hD hS => ?_)
    refine lv_if_ne (tgt := 96) hx hb dX12_readChunk_91 (by decide) (fun c_91 => ?_) (fun c_91 => ?_)
    · replace hf := if_f c_91 hf
      exact hJ_96 u27 u21 u22 u23 u24 u25 u26 u20 _ _ _ hf hP hD hS (lv_sub hl [2, 4, 5, 1, 0] rfl)
    · replace hf := if_t c_91 hf
      refine lv_iconst (v := 0) hx hb dX12_readChunk_94 (by decide) ?_
      have hzb : narrow .boolean (.int (0 : Int32)) = .int (0 : Int32) := rfl
      obtain ⟨rfl, hq_1⟩ := Prod.mk.inj (Option.some.inj hf)
      obtain ⟨rfl, hq_2⟩ := Prod.mk.inj hq_1
      obtain ⟨rfl, hq_3⟩ := Prod.mk.inj hq_2
      obtain ⟨rfl, hq_4⟩ := Prod.mk.inj hq_3
      obtain ⟨rfl, hq_5⟩ := Prod.mk.inj hq_4
      obtain ⟨rfl, hq_6⟩ := Prod.mk.inj hq_5
      obtain ⟨rfl, hq_7⟩ := Prod.mk.inj hq_6
      obtain ⟨rfl, hq_8⟩ := Prod.mk.inj hq_7
      obtain ⟨rfl, hq_9⟩ := Prod.mk.inj hq_8
      obtain ⟨rfl, hq_10⟩ := Prod.mk.inj hq_9
      obtain rfl := hq_10
      exact rt_z hQ hx hb hr hzb hlocks hP hD hS dX12_readChunk_95
  · replace hf := if_t c_24 hf
    refine lv_aload_n hx hb dX12_readChunk_27 rfl (lv_at hl 2 rfl) ?_
    refine va_get (D := (dC, dI)) (ci := 10) (v := .int h0_freshSize) (C := RX12) (T := TX12) (N := 32) hx hb hts inG_X12 hown hK hP 0 rfl rfl 8 (by decide) (hts _ kw_1060) (fun _ h9 => h9) rfl dX12_readChunk_28 ?_
    refine lv_iload_n hx hb dX12_readChunk_31 rfl (lv_at hl 5 rfl) ?_
    refine lv_iadd hx hb dX12_readChunk_32 ?_
    refine lv_aload_n hx hb dX12_readChunk_33 rfl (lv_at hl 2 rfl) ?_
    refine va_get (D := (dC, dI)) (ci := 10) (v := .int p_1) (C := RX12) (T := TX12) (N := 32) hx hb hts inG_X12 hown hK hP 0 rfl rfl 31 (by decide) (hts _ kw_1083) (fun _ h9 => h9) rfl dX12_readChunk_34 ?_
    refine lv_isub hx hb dX12_readChunk_37 ?_
    refine lv_sipush (v := 12000) hx hb dX12_readChunk_38 (by decide) ?_
    refine lv_icmp_le (tgt := 52) hx hb dX12_readChunk_41 (by decide) (fun c_41 => ?_) (fun c_41 => ?_)
    · replace hf := if_t c_41 hf
      obtain ⟨o_52, hi_52, hk_52⟩ := bind_some hf
      have hL_52 : ∀ (n : Nat) (f28 : Nat → Int32) (g29 : Int32) (g30 : Int32) (H : Heap) (locs : List Loc) (ls : Array Slot), iter (fun st => m_Mo_readChunk_B52 a3 h0_copiesOf h0_literalsOf h0_partsOf h0_rule h0_place h0_in_n h0_in_f h0_fresh_n st.1 st.2.1 st.2.2) n (f28, g29, g30) = some o_52 → va_P (dC, dI) vwCl [(h0, .inr (10, [.ref h0_in, w_h0_inSize, w_h0_out, w_h0_outSize, w_h0_dict, w_h0_dictSize, w_h0_told, .ref h0_fresh, .int g30, w_h0_text, w_h0_lean, w_h0_size, w_h0_most, w_h0_offset, w_h0_copyAt, w_h0_copies, w_h0_copyLength, w_h0_copyOffset, w_h0_fromHere, w_h0_withCopy, w_h0_bestCopy, w_h0_bestLiterals, .int h0_copiesOf, .int h0_literalsOf, .int h0_partsOf, w_h0_blocks, w_h0_blockMany, .ref h0_newBlocks, .int h0_newMany, .int h0_rule, .int h0_place, .int g29])), (h0_in, .inl (cI, h0_in_n, .inl h0_in_f)), (h0_fresh, .inl (cI, h0_fresh_n, .inl f28)), (h0_newBlocks, .inl (cI, h0_newBlocks_n, .inl h0_newBlocks_f))] H → va_D A [(h0, .inr (10, [.ref h0_in, w_h0_inSize, w_h0_out, w_h0_outSize, w_h0_dict, w_h0_dictSize, w_h0_told, .ref h0_fresh, .int g30, w_h0_text, w_h0_lean, w_h0_size, w_h0_most, w_h0_offset, w_h0_copyAt, w_h0_copies, w_h0_copyLength, w_h0_copyOffset, w_h0_fromHere, w_h0_withCopy, w_h0_bestCopy, w_h0_bestLiterals, .int h0_copiesOf, .int h0_literalsOf, .int h0_partsOf, w_h0_blocks, w_h0_blockMany, .ref h0_newBlocks, .int h0_newMany, .int h0_rule, .int h0_place, .int g29])), (h0_in, .inl (cI, h0_in_n, .inl h0_in_f)), (h0_fresh, .inl (cI, h0_fresh_n, .inl f28)), (h0_newBlocks, .inl (cI, h0_newBlocks_n, .inl h0_newBlocks_f))] → va_S A s.heap H locs → lv_has ls 6 [(0, .ref h0), (2, .int a2), (3, .int a3), (4, .int h0_at), (5, .int h0_freshSize)] → W p l e (rm_Mo_readChunk) s m ([.ref h0, .int a1, .int a2, .int a3] : List Value).toArray below meth c H locs 0 0 Q (F0 m 52 ls []) := by
        intro n
        induction n with
        | zero => intro f28 g29 g30 H locs ls hf; exact absurd hf (fun z => by cases z)
        | succ n ih_52 =>
          intro f28 g29 g30 H locs ls hf hP hD hS hl
          obtain ⟨r_52, hf, hr_52⟩ := iter_succ hf
          have hf : m_Mo_readChunk_B52 a3 h0_copiesOf h0_literalsOf h0_partsOf h0_rule h0_place h0_in_n h0_in_f h0_fresh_n f28 g29 g30 = some r_52 := hf
          unfold m_Mo_readChunk_B52 at hf
          refine lv_aload_n hx hb dX12_readChunk_52 rfl (lv_at hl 0 rfl) ?_
          refine va_get (D := (dC, dI)) (ci := 10) (v := .int g29) (C := RX12) (T := TX12) (N := 32) hx hb hts inG_X12 hown hK hP 0 rfl rfl 31 (by decide) (hts _ kw_1083) (fun _ h9 => h9) rfl dX12_readChunk_53 ?_
          refine lv_iload_n hx hb dX12_readChunk_56 rfl (lv_at hl 2 rfl) ?_
          refine lv_icmp_ge (tgt := 96) hx hb dX12_readChunk_57 (by decide) (fun c_57 => ?_) (fun c_57 => ?_)
          · replace hf := if_t c_57 hf
            have hf : m_Mo_readChunk_J96 a2 a3 h0_freshSize h0_newMany h0_at h0_in_n h0_in_f h0_fresh_n h0_newBlocks_n h0_newBlocks_f f28 h0_copiesOf h0_literalsOf h0_partsOf h0_rule h0_place g29 g30 = some (o_r, o_h0_freshSize, o_h0_copiesOf, o_h0_literalsOf, o_h0_partsOf, o_h0_newMany, o_h0_rule, o_h0_place, o_h0_at, o_h0_fresh_f, o_h0_newBlocks_f) := by have hq := hk_52; rw [iter_exit hf hr_52] at hq; exact hq
            exact hJ_96 f28 h0_copiesOf h0_literalsOf h0_partsOf h0_rule h0_place g29 g30 _ _ _ hf hP hD hS (lv_sub hl [0, 1, 2, 3, 4] rfl)
          · replace hf := if_f c_57 hf
            refine lv_aload_n hx hb dX12_readChunk_60 rfl (lv_at hl 0 rfl) ?_
            refine lv_aload_n hx hb dX12_readChunk_61 rfl (lv_at hl 0 rfl) ?_
            refine va_get (D := (dC, dI)) (ci := 10) (v := .ref h0_in) (C := RX12) (T := TX12) (N := 32) hx hb hts inG_X12 hown hK hP 0 rfl rfl 0 (by decide) (hts _ kw_1052) (fun _ h9 => h9) rfl dX12_readChunk_62 ?_
            refine lv_aload_n hx hb dX12_readChunk_65 rfl (lv_at hl 0 rfl) ?_
            refine va_get (D := (dC, dI)) (ci := 10) (v := .int g29) (C := RX12) (T := TX12) (N := 32) hx hb hts inG_X12 hown hK hP 0 rfl rfl 31 (by decide) (hts _ kw_1083) (fun _ h9 => h9) rfl dX12_readChunk_66 ?_
            obtain ⟨hin, hf⟩ := chk_some hf
            refine va_iald hx hb hK hP 1 1 rfl rfl hin dX12_readChunk_69 ?_
            obtain ⟨x, hc, hf⟩ := bind_some hf
            obtain ⟨u31, u32⟩ := x
            dsimp only at hf
            refine nx_v (rn_V (As := [.int (h0_in_f g29.toNatClampNeg)]) (rest := []) (n := 1) (ci := 10) (q0 := 0) ⟨hx, hb, hml, hown, hts⟩ (c_Mo_put (l := l) (dC := dC) (dI := dI) (cB := cB) (cI := cI) (h0 := h0) (a1 := (h0_in_f g29.toNatClampNeg)) (h0_fresh := h0_fresh) (w_h0_in := (.ref h0_in)) (w_h0_inSize := (w_h0_inSize)) (w_h0_out := (w_h0_out)) (w_h0_outSize := (w_h0_outSize)) (w_h0_dict := (w_h0_dict)) (w_h0_dictSize := (w_h0_dictSize)) (w_h0_told := (w_h0_told)) (h0_freshSize := g30) (w_h0_text := (w_h0_text)) (w_h0_lean := (w_h0_lean)) (w_h0_size := (w_h0_size)) (w_h0_most := (w_h0_most)) (w_h0_offset := (w_h0_offset)) (w_h0_copyAt := (w_h0_copyAt)) (w_h0_copies := (w_h0_copies)) (w_h0_copyLength := (w_h0_copyLength)) (w_h0_copyOffset := (w_h0_copyOffset)) (w_h0_fromHere := (w_h0_fromHere)) (w_h0_withCopy := (w_h0_withCopy)) (w_h0_bestCopy := (w_h0_bestCopy)) (w_h0_bestLiterals := (w_h0_bestLiterals)) (w_h0_copiesOf := (.int h0_copiesOf)) (w_h0_literalsOf := (.int h0_literalsOf)) (w_h0_partsOf := (.int h0_partsOf)) (w_h0_blocks := (w_h0_blocks)) (w_h0_blockMany := (w_h0_blockMany)) (w_h0_newBlocks := (.ref h0_newBlocks)) (w_h0_newMany := (.int h0_newMany)) (w_h0_rule := (.int h0_rule)) (w_h0_place := (.int h0_place)) (w_h0_at := (.int g29)) (h0_fresh_n := h0_fresh_n) (h0_fresh_f := f28) (o_h0_freshSize := u31) (o_h0_fresh_f := u32) hc) (wV kw_1205 kw_1207 kw_51 kw_94 kw_1208) (by decide +kernel) ⟨Nat.le_of_ble_eq_true rfl, Nat.le_of_ble_eq_true rfl⟩ hK hP hD hN hT hS (va_free (wc := [(h0, .inr (10, [.ref h0_in, w_h0_inSize, w_h0_out, w_h0_outSize, w_h0_dict, w_h0_dictSize, w_h0_told, .ref h0_fresh, .int g30, w_h0_text, w_h0_lean, w_h0_size, w_h0_most, w_h0_offset, w_h0_copyAt, w_h0_copies, w_h0_copyLength, w_h0_copyOffset, w_h0_fromHere, w_h0_withCopy, w_h0_bestCopy, w_h0_bestLiterals, .int h0_copiesOf, .int h0_literalsOf, .int h0_partsOf, w_h0_blocks, w_h0_blockMany, .ref h0_newBlocks, .int h0_newMany, .int h0_rule, .int h0_place, .int g29])), (h0_fresh, .inl (cI, h0_fresh_n, .inl f28))]) hD hS hA [0, 2] rfl) [0, 2] rfl (by decide) rfl rfl rfl hl.1 rfl (lv_room (Nat.le_of_ble_eq_true rfl)) dX12_readChunk_70 ⟨Nat.le_of_ble_eq_true rfl, Nat.le_of_ble_eq_true rfl⟩) hP hD hS hA (wr := [(h0_in, .inl (cI, h0_in_n, .inl h0_in_f)), (h0_newBlocks, .inl (cI, h0_newBlocks_n, .inl h0_newBlocks_f))]) (w1 := [(h0, .inr (10, [.ref h0_in, w_h0_inSize, w_h0_out, w_h0_outSize, w_h0_dict, w_h0_dictSize, w_h0_told, .ref h0_fresh, .int u31, w_h0_text, w_h0_lean, w_h0_size, w_h0_most, w_h0_offset, w_h0_copyAt, w_h0_copies, w_h0_copyLength, w_h0_copyOffset, w_h0_fromHere, w_h0_withCopy, w_h0_bestCopy, w_h0_bestLiterals, .int h0_copiesOf, .int h0_literalsOf, .int h0_partsOf, w_h0_blocks, w_h0_blockMany, .ref h0_newBlocks, .int h0_newMany, .int h0_rule, .int h0_place, .int g29])), (h0_fresh, .inl (cI, h0_fresh_n, .inl u32))]) (ws' := [(h0, .inr (10, [.ref h0_in, w_h0_inSize, w_h0_out, w_h0_outSize, w_h0_dict, w_h0_dictSize, w_h0_told, .ref h0_fresh, .int u31, w_h0_text, w_h0_lean, w_h0_size, w_h0_most, w_h0_offset, w_h0_copyAt, w_h0_copies, w_h0_copyLength, w_h0_copyOffset, w_h0_fromHere, w_h0_withCopy, w_h0_bestCopy, w_h0_bestLiterals, .int h0_copiesOf, .int h0_literalsOf, .int h0_partsOf, w_h0_blocks, w_h0_blockMany, .ref h0_newBlocks, .int h0_newMany, .int h0_rule, .int h0_place, .int g29])), (h0_in, .inl (cI, h0_in_n, .inl h0_in_f)), (h0_fresh, .inl (cI, h0_fresh_n, .inl u32)), (h0_newBlocks, .inl (cI, h0_newBlocks_n, .inl h0_newBlocks_f))]) [0, 2] [1, 3] [2, 0, 3, 1] rfl rfl (by decide) (by decide) rfl (by decide) (fun H locs hP hD hS => ?_)
            refine lv_aload_n hx hb dX12_readChunk_73 rfl (lv_at hl 0 rfl) ?_
            refine lv_dup hx hb dX12_readChunk_74 rfl ?_
            refine va_get (D := (dC, dI)) (ci := 10) (v := .int g29) (C := RX12) (T := TX12) (N := 32) hx hb hts inG_X12 hown hK hP 0 rfl rfl 31 (by decide) (hts _ kw_1083) (fun _ h9 => h9) rfl dX12_readChunk_75 ?_
            refine lv_iconst (v := 1) hx hb dX12_readChunk_78 (by decide) ?_
            refine lv_iadd hx hb dX12_readChunk_79 ?_
            refine lv_topi (fun p_33 e_p_33 => ?_)
            replace hf := bnd_at e_p_33 hf
            refine va_put (D := (dC, dI)) (ci := 10) (v := .int p_33) (ty := .int) (C := RX12) (T := TX12) (N := 32) hx hb hts inG_X12 tyX12 tyX12_ok nmX12 hown hK hP hD hS 0 rfl rfl 31 (by decide) (hts _ kw_1083) (fun _ h9 => h9) rfl (by decide +kernel) rfl rfl (Nat.le_of_ble_eq_true rfl) dX12_readChunk_80 (fun H locs hP hD hS => ?_)
            have hP : va_P (dC, dI) vwCl [(h0, .inr (10, [.ref h0_in, w_h0_inSize, w_h0_out, w_h0_outSize, w_h0_dict, w_h0_dictSize, w_h0_told, .ref h0_fresh, .int u31, w_h0_text, w_h0_lean, w_h0_size, w_h0_most, w_h0_offset, w_h0_copyAt, w_h0_copies, w_h0_copyLength, w_h0_copyOffset, w_h0_fromHere, w_h0_withCopy, w_h0_bestCopy, w_h0_bestLiterals, .int h0_copiesOf, .int h0_literalsOf, .int h0_partsOf, w_h0_blocks, w_h0_blockMany, .ref h0_newBlocks, .int h0_newMany, .int h0_rule, .int h0_place, .int p_33])), (h0_in, .inl (cI, h0_in_n, .inl h0_in_f)), (h0_fresh, .inl (cI, h0_fresh_n, .inl u32)), (h0_newBlocks, .inl (cI, h0_newBlocks_n, .inl h0_newBlocks_f))] H := hP
            have hD : va_D A [(h0, .inr (10, [.ref h0_in, w_h0_inSize, w_h0_out, w_h0_outSize, w_h0_dict, w_h0_dictSize, w_h0_told, .ref h0_fresh, .int u31, w_h0_text, w_h0_lean, w_h0_size, w_h0_most, w_h0_offset, w_h0_copyAt, w_h0_copies, w_h0_copyLength, w_h0_copyOffset, w_h0_fromHere, w_h0_withCopy, w_h0_bestCopy, w_h0_bestLiterals, .int h0_copiesOf, .int h0_literalsOf, .int h0_partsOf, w_h0_blocks, w_h0_blockMany, .ref h0_newBlocks, .int h0_newMany, .int h0_rule, .int h0_place, .int p_33])), (h0_in, .inl (cI, h0_in_n, .inl h0_in_f)), (h0_fresh, .inl (cI, h0_fresh_n, .inl u32)), (h0_newBlocks, .inl (cI, h0_newBlocks_n, .inl h0_newBlocks_f))] := hD
            refine lv_goto (tgt := 52) hx hb dX12_readChunk_83 (by decide) ?_
            exact ih_52 u32 p_33 u31 _ _ _ (iter_back hf hr_52) hP hD hS (lv_sub hl [0, 1, 2, 3, 4] rfl)
      exact hL_52 FU h0_fresh_f p_1 h0_freshSize _ _ _ hi_52 hP hD hS (lv_sub hl [2, 4, 5, 1, 0] rfl)
    · replace hf := if_f c_41 hf
      refine lv_aload_n hx hb dX12_readChunk_44 rfl (lv_at hl 2 rfl) ?_
      refine lv_bipush (v := 12) hx hb dX12_readChunk_45 (by decide) ?_
      refine lv_iload_n hx hb dX12_readChunk_47 rfl (lv_at hl 3 rfl) ?_
      obtain ⟨x, hc, hf⟩ := bind_some hf
      obtain ⟨r34, u35, u36⟩ := x
      dsimp only at hf
      refine nx_i (rn_V (As := [.int (12 : Int32), .int a1]) (rest := []) (n := 2) (ci := 10) (q0 := 0) ⟨hx, hb, hml, hown, hts⟩ (c_Mo_no (l := l) (dC := dC) (dI := dI) (cB := cB) (cI := cI) (h0 := h0) (a1 := (12 : Int32)) (a2 := a1) (w_h0_in := (.ref h0_in)) (w_h0_inSize := (w_h0_inSize)) (w_h0_out := (w_h0_out)) (w_h0_outSize := (w_h0_outSize)) (w_h0_dict := (w_h0_dict)) (w_h0_dictSize := (w_h0_dictSize)) (w_h0_told := (w_h0_told)) (w_h0_fresh := (.ref h0_fresh)) (w_h0_freshSize := (.int h0_freshSize)) (w_h0_text := (w_h0_text)) (w_h0_lean := (w_h0_lean)) (w_h0_size := (w_h0_size)) (w_h0_most := (w_h0_most)) (w_h0_offset := (w_h0_offset)) (w_h0_copyAt := (w_h0_copyAt)) (w_h0_copies := (w_h0_copies)) (w_h0_copyLength := (w_h0_copyLength)) (w_h0_copyOffset := (w_h0_copyOffset)) (w_h0_fromHere := (w_h0_fromHere)) (w_h0_withCopy := (w_h0_withCopy)) (w_h0_bestCopy := (w_h0_bestCopy)) (w_h0_bestLiterals := (w_h0_bestLiterals)) (w_h0_copiesOf := (.int h0_copiesOf)) (w_h0_literalsOf := (.int h0_literalsOf)) (w_h0_partsOf := (.int h0_partsOf)) (w_h0_blocks := (w_h0_blocks)) (w_h0_blockMany := (w_h0_blockMany)) (w_h0_newBlocks := (.ref h0_newBlocks)) (w_h0_newMany := (.int h0_newMany)) (h0_rule := h0_rule) (h0_place := h0_place) (w_h0_at := (.int p_1)) (o_h0_rule := u35) (o_h0_place := u36) (o_r := r34) hc) (wV kw_1353 kw_1355 kw_72 kw_94 kw_1356) (by decide +kernel) ⟨Nat.le_of_ble_eq_true rfl, Nat.le_of_ble_eq_true rfl⟩ hK hP hD hN hT hS (va_free (wc := [(h0, .inr (10, [.ref h0_in, w_h0_inSize, w_h0_out, w_h0_outSize, w_h0_dict, w_h0_dictSize, w_h0_told, .ref h0_fresh, .int h0_freshSize, w_h0_text, w_h0_lean, w_h0_size, w_h0_most, w_h0_offset, w_h0_copyAt, w_h0_copies, w_h0_copyLength, w_h0_copyOffset, w_h0_fromHere, w_h0_withCopy, w_h0_bestCopy, w_h0_bestLiterals, .int h0_copiesOf, .int h0_literalsOf, .int h0_partsOf, w_h0_blocks, w_h0_blockMany, .ref h0_newBlocks, .int h0_newMany, .int h0_rule, .int h0_place, .int p_1]))]) hD hS hA [0] rfl) [0] rfl (by decide) rfl rfl rfl hl.1 rfl (lv_room (Nat.le_of_ble_eq_true rfl)) dX12_readChunk_48 ⟨Nat.le_of_ble_eq_true rfl, Nat.le_of_ble_eq_true rfl⟩) hP hD hS hA (wr := [(h0_in, .inl (cI, h0_in_n, .inl h0_in_f)), (h0_fresh, .inl (cI, h0_fresh_n, .inl h0_fresh_f)), (h0_newBlocks, .inl (cI, h0_newBlocks_n, .inl h0_newBlocks_f))]) (w1 := [(h0, .inr (10, [.ref h0_in, w_h0_inSize, w_h0_out, w_h0_outSize, w_h0_dict, w_h0_dictSize, w_h0_told, .ref h0_fresh, .int h0_freshSize, w_h0_text, w_h0_lean, w_h0_size, w_h0_most, w_h0_offset, w_h0_copyAt, w_h0_copies, w_h0_copyLength, w_h0_copyOffset, w_h0_fromHere, w_h0_withCopy, w_h0_bestCopy, w_h0_bestLiterals, .int h0_copiesOf, .int h0_literalsOf, .int h0_partsOf, w_h0_blocks, w_h0_blockMany, .ref h0_newBlocks, .int h0_newMany, .int u35, .int u36, .int p_1]))]) (ws' := [(h0, .inr (10, [.ref h0_in, w_h0_inSize, w_h0_out, w_h0_outSize, w_h0_dict, w_h0_dictSize, w_h0_told, .ref h0_fresh, .int h0_freshSize, w_h0_text, w_h0_lean, w_h0_size, w_h0_most, w_h0_offset, w_h0_copyAt, w_h0_copies, w_h0_copyLength, w_h0_copyOffset, w_h0_fromHere, w_h0_withCopy, w_h0_bestCopy, w_h0_bestLiterals, .int h0_copiesOf, .int h0_literalsOf, .int h0_partsOf, w_h0_blocks, w_h0_blockMany, .ref h0_newBlocks, .int h0_newMany, .int u35, .int u36, .int p_1])), (h0_in, .inl (cI, h0_in_n, .inl h0_in_f)), (h0_fresh, .inl (cI, h0_fresh_n, .inl h0_fresh_f)), (h0_newBlocks, .inl (cI, h0_newBlocks_n, .inl h0_newBlocks_f))]) [0] [1, 2, 3] [3, 0, 1, 2] rfl rfl (by decide) (by decide) rfl (by decide) (fun H locs hP hD hS => ?_)
      obtain ⟨hzb, hf⟩ := bch_some hf
      obtain ⟨rfl, hq_1⟩ := Prod.mk.inj (Option.some.inj hf)
      obtain ⟨rfl, hq_2⟩ := Prod.mk.inj hq_1
      obtain ⟨rfl, hq_3⟩ := Prod.mk.inj hq_2
      obtain ⟨rfl, hq_4⟩ := Prod.mk.inj hq_3
      obtain ⟨rfl, hq_5⟩ := Prod.mk.inj hq_4
      obtain ⟨rfl, hq_6⟩ := Prod.mk.inj hq_5
      obtain ⟨rfl, hq_7⟩ := Prod.mk.inj hq_6
      obtain ⟨rfl, hq_8⟩ := Prod.mk.inj hq_7
      obtain ⟨rfl, hq_9⟩ := Prod.mk.inj hq_8
      obtain ⟨rfl, hq_10⟩ := Prod.mk.inj hq_9
      obtain rfl := hq_10
      exact rt_z hQ hx hb hr hzb hlocks hP hD hS dX12_readChunk_51

