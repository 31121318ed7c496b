theorem dX6_openElements_0 : decode cX6_openElements 0 = .ok (.aload_n 0, 1) := by decide +kernel
theorem dX6_openElements_1 : decode cX6_openElements 1 = .ok (.invokevirtual 86, 3) := by decide +kernel
theorem dX6_openElements_4 : decode cX6_openElements 4 = .ok (.aload_n 0, 1) := by decide +kernel
theorem dX6_openElements_5 : decode cX6_openElements 5 = .ok (.getfield 47, 3) := by decide +kernel
theorem dX6_openElements_8 : decode cX6_openElements 8 = .ok (.istore_n 1, 1) := by decide +kernel
theorem dX6_openElements_9 : decode cX6_openElements 9 = .ok (.lconst 0, 1) := by decide +kernel
theorem dX6_openElements_10 : decode cX6_openElements 10 = .ok (.lstore_n 2, 1) := by decide +kernel
theorem dX6_openElements_11 : decode cX6_openElements 11 = .ok (.sipush 128, 3) := by decide +kernel
theorem dX6_openElements_14 : decode cX6_openElements 14 = .ok (.istore 4, 2) := by decide +kernel
theorem dX6_openElements_16 : decode cX6_openElements 16 = .ok (.iconst 0, 1) := by decide +kernel
theorem dX6_openElements_17 : decode cX6_openElements 17 = .ok (.istore 5, 2) := by decide +kernel
theorem dX6_openElements_19 : decode cX6_openElements 19 = .ok (.iload 5, 2) := by decide +kernel
theorem dX6_openElements_21 : decode cX6_openElements 21 = .ok (.iconst 5, 1) := by decide +kernel
theorem dX6_openElements_22 : decode cX6_openElements 22 = .ok (.if_icmp .ge 74, 3) := by decide +kernel
theorem dX6_openElements_25 : decode cX6_openElements 25 = .ok (.iload 4, 2) := by decide +kernel
theorem dX6_openElements_27 : decode cX6_openElements 27 = .ok (.sipush 128, 3) := by decide +kernel
theorem dX6_openElements_30 : decode cX6_openElements 30 = .ok (.if_icmp .lt 66, 3) := by decide +kernel
theorem dX6_openElements_33 : decode cX6_openElements 33 = .ok (.aload_n 0, 1) := by decide +kernel
theorem dX6_openElements_34 : decode cX6_openElements 34 = .ok (.iconst 1, 1) := by decide +kernel
theorem dX6_openElements_35 : decode cX6_openElements 35 = .ok (.invokevirtual 95, 3) := by decide +kernel
theorem dX6_openElements_38 : decode cX6_openElements 38 = .ok (.ifCond .eq 13, 3) := by decide +kernel
theorem dX6_openElements_41 : decode cX6_openElements 41 = .ok (.aload_n 0, 1) := by decide +kernel
theorem dX6_openElements_42 : decode cX6_openElements 42 = .ok (.iconst 1, 1) := by decide +kernel
theorem dX6_openElements_43 : decode cX6_openElements 43 = .ok (.aload_n 0, 1) := by decide +kernel
theorem dX6_openElements_44 : decode cX6_openElements 44 = .ok (.getfield 54, 3) := by decide +kernel
theorem dX6_openElements_47 : decode cX6_openElements 47 = .ok (.invokevirtual 98, 3) := by decide +kernel
theorem dX6_openElements_50 : decode cX6_openElements 50 = .ok (.ireturn, 1) := by decide +kernel
theorem dX6_openElements_51 : decode cX6_openElements 51 = .ok (.aload_n 0, 1) := by decide +kernel
theorem dX6_openElements_52 : decode cX6_openElements 52 = .ok (.getfield 9, 3) := by decide +kernel
theorem dX6_openElements_55 : decode cX6_openElements 55 = .ok (.aload_n 0, 1) := by decide +kernel
theorem dX6_openElements_56 : decode cX6_openElements 56 = .ok (.getfield 47, 3) := by decide +kernel
theorem dX6_openElements_59 : decode cX6_openElements 59 = .ok (.invokevirtual 89, 3) := by decide +kernel
theorem dX6_openElements_62 : decode cX6_openElements 62 = .ok (.istore 4, 2) := by decide +kernel
theorem dX6_openElements_64 : decode cX6_openElements 64 = .ok (.lload_n 2, 1) := by decide +kernel
theorem dX6_openElements_65 : decode cX6_openElements 65 = .ok (.iload 4, 2) := by decide +kernel
theorem dX6_openElements_67 : decode cX6_openElements 67 = .ok (.sipush 128, 3) := by decide +kernel
theorem dX6_openElements_70 : decode cX6_openElements 70 = .ok (.irem, 1) := by decide +kernel
theorem dX6_openElements_71 : decode cX6_openElements 71 = .ok (.i2l, 1) := by decide +kernel
theorem dX6_openElements_72 : decode cX6_openElements 72 = .ok (.bipush 7, 2) := by decide +kernel
theorem dX6_openElements_74 : decode cX6_openElements 74 = .ok (.iload 5, 2) := by decide +kernel
theorem dX6_openElements_76 : decode cX6_openElements 76 = .ok (.imul, 1) := by decide +kernel
theorem dX6_openElements_77 : decode cX6_openElements 77 = .ok (.lshl, 1) := by decide +kernel
theorem dX6_openElements_78 : decode cX6_openElements 78 = .ok (.ladd, 1) := by decide +kernel
theorem dX6_openElements_79 : decode cX6_openElements 79 = .ok (.lstore_n 2, 1) := by decide +kernel
theorem dX6_openElements_80 : decode cX6_openElements 80 = .ok (.aload_n 0, 1) := by decide +kernel
theorem dX6_openElements_81 : decode cX6_openElements 81 = .ok (.dup, 1) := by decide +kernel
theorem dX6_openElements_82 : decode cX6_openElements 82 = .ok (.getfield 47, 3) := by decide +kernel
theorem dX6_openElements_85 : decode cX6_openElements 85 = .ok (.iconst 1, 1) := by decide +kernel
theorem dX6_openElements_86 : decode cX6_openElements 86 = .ok (.iadd, 1) := by decide +kernel
theorem dX6_openElements_87 : decode cX6_openElements 87 = .ok (.putfield 47, 3) := by decide +kernel
theorem dX6_openElements_90 : decode cX6_openElements 90 = .ok (.iinc 5 1, 3) := by decide +kernel
theorem dX6_openElements_93 : decode cX6_openElements 93 = .ok (.goto (-74), 3) := by decide +kernel
theorem dX6_openElements_96 : decode cX6_openElements 96 = .ok (.iload 4, 2) := by decide +kernel
theorem dX6_openElements_98 : decode cX6_openElements 98 = .ok (.sipush 128, 3) := by decide +kernel
theorem dX6_openElements_101 : decode cX6_openElements 101 = .ok (.if_icmp .ge 11, 3) := by decide +kernel
theorem dX6_openElements_104 : decode cX6_openElements 104 = .ok (.lload_n 2, 1) := by decide +kernel
theorem dX6_openElements_105 : decode cX6_openElements 105 = .ok (.ldc2_w 194, 3) := by decide +kernel
theorem dX6_openElements_108 : decode cX6_openElements 108 = .ok (.lcmp, 1) := by decide +kernel
theorem dX6_openElements_109 : decode cX6_openElements 109 = .ok (.ifCond .le 11, 3) := by decide +kernel
theorem dX6_openElements_112 : decode cX6_openElements 112 = .ok (.aload_n 0, 1) := by decide +kernel
theorem dX6_openElements_113 : decode cX6_openElements 113 = .ok (.bipush 13, 2) := by decide +kernel
theorem dX6_openElements_115 : decode cX6_openElements 115 = .ok (.iload_n 1, 1) := by decide +kernel
theorem dX6_openElements_116 : decode cX6_openElements 116 = .ok (.invokevirtual 98, 3) := by decide +kernel
theorem dX6_openElements_119 : decode cX6_openElements 119 = .ok (.ireturn, 1) := by decide +kernel
theorem dX6_openElements_120 : decode cX6_openElements 120 = .ok (.aload_n 0, 1) := by decide +kernel
theorem dX6_openElements_121 : decode cX6_openElements 121 = .ok (.lload_n 2, 1) := by decide +kernel
theorem dX6_openElements_122 : decode cX6_openElements 122 = .ok (.invokevirtual 102, 3) := by decide +kernel
theorem dX6_openElements_125 : decode cX6_openElements 125 = .ok (.ifCond .eq 11, 3) := by decide +kernel
theorem dX6_openElements_128 : decode cX6_openElements 128 = .ok (.aload_n 0, 1) := by decide +kernel
theorem dX6_openElements_129 : decode cX6_openElements 129 = .ok (.bipush 12, 2) := by decide +kernel
theorem dX6_openElements_131 : decode cX6_openElements 131 = .ok (.iload_n 1, 1) := by decide +kernel
theorem dX6_openElements_132 : decode cX6_openElements 132 = .ok (.invokevirtual 98, 3) := by decide +kernel
theorem dX6_openElements_135 : decode cX6_openElements 135 = .ok (.ireturn, 1) := by decide +kernel
theorem dX6_openElements_136 : decode cX6_openElements 136 = .ok (.aload_n 0, 1) := by decide +kernel
theorem dX6_openElements_137 : decode cX6_openElements 137 = .ok (.getfield 68, 3) := by decide +kernel
theorem dX6_openElements_140 : decode cX6_openElements 140 = .ok (.lload_n 2, 1) := by decide +kernel
theorem dX6_openElements_141 : decode cX6_openElements 141 = .ok (.l2i, 1) := by decide +kernel
theorem dX6_openElements_142 : decode cX6_openElements 142 = .ok (.iadd, 1) := by decide +kernel
theorem dX6_openElements_143 : decode cX6_openElements 143 = .ok (.istore 5, 2) := by decide +kernel
theorem dX6_openElements_145 : decode cX6_openElements 145 = .ok (.iconst 0, 1) := by decide +kernel
theorem dX6_openElements_146 : decode cX6_openElements 146 = .ok (.istore 6, 2) := by decide +kernel
theorem dX6_openElements_148 : decode cX6_openElements 148 = .ok (.iload 6, 2) := by decide +kernel
theorem dX6_openElements_150 : decode cX6_openElements 150 = .ok (.sipush 4000, 3) := by decide +kernel
theorem dX6_openElements_153 : decode cX6_openElements 153 = .ok (.if_icmp .ge 31, 3) := by decide +kernel
theorem dX6_openElements_156 : decode cX6_openElements 156 = .ok (.aload_n 0, 1) := by decide +kernel
theorem dX6_openElements_157 : decode cX6_openElements 157 = .ok (.getfield 47, 3) := by decide +kernel
theorem dX6_openElements_160 : decode cX6_openElements 160 = .ok (.aload_n 0, 1) := by decide +kernel
theorem dX6_openElements_161 : decode cX6_openElements 161 = .ok (.getfield 54, 3) := by decide +kernel
theorem dX6_openElements_164 : decode cX6_openElements 164 = .ok (.if_icmp .ge 20, 3) := by decide +kernel
theorem dX6_openElements_167 : decode cX6_openElements 167 = .ok (.aload_n 0, 1) := by decide +kernel
theorem dX6_openElements_168 : decode cX6_openElements 168 = .ok (.iload 5, 2) := by decide +kernel
theorem dX6_openElements_170 : decode cX6_openElements 170 = .ok (.invokevirtual 196, 3) := by decide +kernel
theorem dX6_openElements_173 : decode cX6_openElements 173 = .ok (.ifCond .ne 5, 3) := by decide +kernel
theorem dX6_openElements_176 : decode cX6_openElements 176 = .ok (.iconst 0, 1) := by decide +kernel
theorem dX6_openElements_177 : decode cX6_openElements 177 = .ok (.ireturn, 1) := by decide +kernel
theorem dX6_openElements_178 : decode cX6_openElements 178 = .ok (.iinc 6 1, 3) := by decide +kernel
theorem dX6_openElements_181 : decode cX6_openElements 181 = .ok (.goto (-33), 3) := by decide +kernel
theorem dX6_openElements_184 : decode cX6_openElements 184 = .ok (.aload_n 0, 1) := by decide +kernel
theorem dX6_openElements_185 : decode cX6_openElements 185 = .ok (.getfield 29, 3) := by decide +kernel
theorem dX6_openElements_188 : decode cX6_openElements 188 = .ok (.invokevirtual 50, 3) := by decide +kernel
theorem dX6_openElements_191 : decode cX6_openElements 191 = .ok (.iload 5, 2) := by decide +kernel
theorem dX6_openElements_193 : decode cX6_openElements 193 = .ok (.if_icmp .eq 16, 3) := by decide +kernel
theorem dX6_openElements_196 : decode cX6_openElements 196 = .ok (.aload_n 0, 1) := by decide +kernel
theorem dX6_openElements_197 : decode cX6_openElements 197 = .ok (.bipush 14, 2) := by decide +kernel
theorem dX6_openElements_199 : decode cX6_openElements 199 = .ok (.aload_n 0, 1) := by decide +kernel
theorem dX6_openElements_200 : decode cX6_openElements 200 = .ok (.getfield 54, 3) := by decide +kernel
theorem dX6_openElements_203 : decode cX6_openElements 203 = .ok (.invokevirtual 98, 3) := by decide +kernel
theorem dX6_openElements_206 : decode cX6_openElements 206 = .ok (.ifCond .eq 7, 3) := by decide +kernel
theorem dX6_openElements_209 : decode cX6_openElements 209 = .ok (.iconst 1, 1) := by decide +kernel
theorem dX6_openElements_210 : decode cX6_openElements 210 = .ok (.goto 4, 3) := by decide +kernel
theorem dX6_openElements_213 : decode cX6_openElements 213 = .ok (.iconst 0, 1) := by decide +kernel
theorem dX6_openElements_214 : decode cX6_openElements 214 = .ok (.ireturn, 1) := by decide +kernel
def m_Opener_openElements_J112 (h0_at : Int32) (h0_to_count : Int32) (h0_to_held_f : Nat → Int32) (u1 : Int32) (u2 : Int32) (u3 : Int32) (u4 : Int32) (g5 : Int32) : Option (Int32 × Int32 × Int32 × Int32 × Int32 × Int32 × Int32 × Int32 × Int32 × (Nat → Int32)) :=
  (m_Opener_breaks (13 : Int32) h0_at).bind fun (r8, u9, u10) =>
  bch r8 <|
  some (r8, u9, u10, g5, u1, u2, u3, u4, h0_to_count, h0_to_held_f)
def m_Opener_openElements_E184 (h0_end : Int32) (u1 : Int32) (v5_12 : Int32) (f13 : Nat → Int32) (g14 : Int32) (g15 : Int32) (g16 : Int32) (g17 : Int32) (g18 : Int32) (g19 : Int32) (g20 : Int32) : Option (Int32 × Int32 × Int32 × Int32 × Int32 × Int32 × Int32 × Int32 × Int32 × (Nat → Int32)) :=
  (m_Bytes_size g20).bind fun r21 =>
  if r21 = v5_12 then
    some ((1 : Int32), g17, g18, g19, u1, g14, g15, g16, g20, f13)
  else
    (m_Opener_breaks (14 : Int32) h0_end).bind fun (r22, u23, u24) =>
    if r22 = 0 then
      some ((0 : Int32), u23, u24, g19, u1, g14, g15, g16, g20, f13)
    else
      some ((1 : Int32), u23, u24, g19, u1, g14, g15, g16, g20, f13)
def m_Opener_openElements_B148 (h0_end : Int32) (h0_input_count : Int32) (h0_input_held_n : Nat) (h0_input_held_f : Nat → Int32) (h0_to_held_n : Nat) (u1 : Int32) (v5_12 : Int32) (f25 : Nat → Int32) (g26 : Int32) (g27 : Int32) (g28 : Int32) (g29 : Int32) (g30 : Int32) (g31 : Int32) (g32 : Int32) (j6_33 : Int32) : Option (((Nat → Int32) × Int32 × Int32 × Int32 × Int32 × Int32 × Int32 × Int32 × Int32) ⊕ (((Nat → Int32) × Int32 × Int32 × Int32 × Int32 × Int32 × Int32 × Int32) ⊕ (((Int32 × Int32 × Int32 × Int32 × Int32 × Int32 × Int32 × Int32 × Int32 × (Nat → Int32)))))) :=
  if (4000 : Int32) ≤ j6_33 then
    some (.inr (.inl (f25, g26, g27, g28, g29, g30, g31, g32)))
  else
    if h0_end ≤ g31 then
      some (.inr (.inl (f25, g26, g27, g28, g29, g30, g31, g32)))
    else
      (m_Opener_openElement v5_12 g29 g30 g31 h0_end u1 g26 g27 g28 h0_input_count h0_input_held_n h0_input_held_f g32 h0_to_held_n f25).bind fun (r34, u35, u36, u37, u38, u39, u40, u41, u42) =>
      if r34 = 0 then
        some (.inr (.inr ((0 : Int32), u35, u36, u37, u1, u38, u39, u40, u41, u42)))
      else
        bnd (j6_33 + (1 : Int32)) fun v6_43 =>
        some (.inl (u42, u38, u39, u40, u35, u36, u37, u41, v6_43))
def m_Opener_openElements_E96 (h0_broken : Int32) (h0_brokenAt : Int32) (h0_at : Int32) (h0_end : Int32) (h0_to_count : Int32) (h0_input_count : Int32) (h0_input_held_n : Nat) (h0_input_held_f : Nat → Int32) (h0_to_held_n : Nat) (h0_to_held_f : Nat → Int32) (u1 : Int32) (u2 : Int32) (u3 : Int32) (u4 : Int32) (g5 : Int32) (j2_6 : Int64) (j4_7 : Int32) : Option (Int32 × Int32 × Int32 × Int32 × Int32 × Int32 × Int32 × Int32 × Int32 × (Nat → Int32)) :=
  if (128 : Int32) ≤ j4_7 then
    m_Opener_openElements_J112 h0_at h0_to_count h0_to_held_f u1 u2 u3 u4 g5
  else
    if (lg_cmp j2_6 (4294967295 : Int64)) ≤ 0 then
      (m_Opener_isOver j2_6 h0_to_count).bind fun r11 =>
      if r11 = 0 then
        bnd (u1 + (j2_6.toInt32)) fun v5_12 =>
        (iter (fun st => m_Opener_openElements_B148 h0_end h0_input_count h0_input_held_n h0_input_held_f h0_to_held_n u1 v5_12 st.1 st.2.1 st.2.2.1 st.2.2.2.1 st.2.2.2.2.1 st.2.2.2.2.2.1 st.2.2.2.2.2.2.1 st.2.2.2.2.2.2.2.1 st.2.2.2.2.2.2.2.2) FU (h0_to_held_f, u2, u3, u4, h0_broken, h0_brokenAt, g5, h0_to_count, (0 : Int32))).bind fun o => match o with | (.inl y) => m_Opener_openElements_E184 h0_end u1 v5_12 y.1 y.2.1 y.2.2.1 y.2.2.2.1 y.2.2.2.2.1 y.2.2.2.2.2.1 y.2.2.2.2.2.2.1 y.2.2.2.2.2.2.2 | (.inr y) => some y
      else
        (m_Opener_breaks (12 : Int32) h0_at).bind fun (r44, u45, u46) =>
        bch r44 <|
        some (r44, u45, u46, g5, u1, u2, u3, u4, h0_to_count, h0_to_held_f)
    else
      m_Opener_openElements_J112 h0_at h0_to_count h0_to_held_f u1 u2 u3 u4 g5
def m_Opener_openElements_B19 (h0_end : Int32) (h0_to_count : Int32) (h0_input_count : Int32) (h0_input_held_n : Nat) (h0_input_held_f : Nat → Int32) (h0_to_held_f : Nat → Int32) (u1 : Int32) (u2 : Int32) (u3 : Int32) (u4 : Int32) (g47 : Int32) (j2_48 : Int64) (j4_49 : Int32) (j5_50 : Int32) : Option ((Int32 × Int64 × Int32 × Int32) ⊕ ((Int32 × Int64 × Int32) ⊕ (((Int32 × Int32 × Int32 × Int32 × Int32 × Int32 × Int32 × Int32 × Int32 × (Nat → Int32)))))) :=
  if (5 : Int32) ≤ j5_50 then
    some (.inr (.inl (g47, j2_48, j4_49)))
  else
    if j4_49 < (128 : Int32) then
      some (.inr (.inl (g47, j2_48, j4_49)))
    else
      (m_Opener_lacks (1 : Int32) g47 h0_end).bind fun r51 =>
      if r51 = 0 then
        (m_Bytes_at g47 h0_input_count h0_input_held_n h0_input_held_f).bind fun r52 =>
        bnd (j2_48 + (lshl ((irem r52 (128 : Int32)).toInt64) ((7 : Int32) * j5_50))) fun v2_53 =>
        bnd (g47 + (1 : Int32)) fun p_54 =>
        bnd (j5_50 + (1 : Int32)) fun v5_55 =>
        some (.inl (p_54, v2_53, r52, v5_55))
      else
        (m_Opener_breaks (1 : Int32) h0_end).bind fun (r56, u57, u58) =>
        bch r56 <|
        some (.inr (.inr (r56, u57, u58, g47, u1, u2, u3, u4, h0_to_count, h0_to_held_f)))
def m_Opener_openElements (h0_broken : Int32) (h0_brokenAt : Int32) (h0_at : Int32) (h0_end : Int32) (h0_to_count : Int32) (h0_input_count : Int32) (h0_input_held_n : Nat) (h0_input_held_f : Nat → Int32) (h0_to_held_n : Nat) (h0_to_held_f : Nat → Int32) : Option (Int32 × Int32 × Int32 × Int32 × Int32 × Int32 × Int32 × Int32 × Int32 × (Nat → Int32)) :=
  (m_Opener_beginBlock h0_to_count).bind fun (u1, u2, u3, u4) =>
  (iter (fun st => m_Opener_openElements_B19 h0_end h0_to_count h0_input_count h0_input_held_n h0_input_held_f h0_to_held_f u1 u2 u3 u4 st.1 st.2.1 st.2.2.1 st.2.2.2) FU (h0_at, (0 : Int64), (128 : Int32), (0 : Int32))).bind fun o => match o with | (.inl y) => m_Opener_openElements_E96 h0_broken h0_brokenAt h0_at h0_end h0_to_count h0_input_count h0_input_held_n h0_input_held_f h0_to_held_n h0_to_held_f u1 u2 u3 u4 y.1 y.2.1 y.2.2 | (.inr y) => some y
def rm_Opener_openElements : Room := { frames := 4, cells := 0, slots := 0, locals := 114 }
set_option maxHeartbeats 4000000 in
set_option maxRecDepth 100000 in
theorem c_Opener_openElements {l : Launch} {dC : Nat → ClassId} {dI : Nat → Nat → Nat} {cB cI : ClassId} {sz : Nat} {h0 : Nat} {h0_to : Nat} {h0_input : Nat} {h0_input_held : Nat} {h0_to_held : Nat} {w_h0_words : Value} {w_h0_settings : Value} {w_h0_blocks : Value} {h0_broken : Int32} {h0_brokenAt : Int32} {h0_at : Int32} {h0_end : Int32} {h0_begin : Int32} {h0_copies : Int32} {h0_literals : Int32} {h0_parts : Int32} {w_h0_frameBegin : Value} {w_h0_flags : Value} {w_h0_width : Value} {w_h0_size : Value} {h0_to_count : Int32} {h0_input_count : Int32} {h0_input_held_n : Nat} {h0_input_held_f : Nat → Int32} {h0_to_held_n : Nat} {h0_to_held_f : Nat → Int32} {o_r : Int32} {o_h0_broken : Int32} {o_h0_brokenAt : Int32} {o_h0_at : Int32} {o_h0_begin : Int32} {o_h0_copies : Int32} {o_h0_literals : Int32} {o_h0_parts : Int32} {o_h0_to_count : Int32} {o_h0_to_held_f : Nat → Int32} (hf : m_Opener_openElements h0_broken h0_brokenAt h0_at h0_end h0_to_count h0_input_count h0_input_held_n h0_input_held_f h0_to_held_n h0_to_held_f = some (o_r, o_h0_broken, o_h0_brokenAt, o_h0_at, o_h0_begin, o_h0_copies, o_h0_literals, o_h0_parts, o_h0_to_count, o_h0_to_held_f)) : Met l yX6_openElements (Cond.code yX6_openElements cX6_openElements 7 (some .boolean) :: lw_G) rm_Opener_openElements (PreC (dC, dI) [(cB, .byte), (cI, .int)] [.ref h0] sz [(h0, .inr (5, [.ref h0_input, w_h0_words, w_h0_settings, .ref h0_to, w_h0_blocks, .int h0_broken, .int h0_brokenAt, .int h0_at, .int h0_end, .int h0_begin, .int h0_copies, .int h0_literals, .int h0_parts, w_h0_frameBegin, w_h0_flags, w_h0_width, w_h0_size])), (h0_to, .inr (2, [.ref h0_to_held, .int h0_to_count])), (h0_input, .inr (2, [.ref h0_input_held, .int h0_input_count])), (h0_input_held, .inl (cB, h0_input_held_n, .inl h0_input_held_f)), (h0_to_held, .inl (cB, h0_to_held_n, .inl h0_to_held_f))]) (QcI o_r (dC, dI) [(h0, .inr (5, [.ref h0_input, w_h0_words, w_h0_settings, .ref h0_to, w_h0_blocks, .int o_h0_broken, .int o_h0_brokenAt, .int o_h0_at, .int h0_end, .int o_h0_begin, .int o_h0_copies, .int o_h0_literals, .int o_h0_parts, w_h0_frameBegin, w_h0_flags, w_h0_width, w_h0_size])), (h0_to, .inr (2, [.ref h0_to_held, .int o_h0_to_count])), (h0_input, .inr (2, [.ref h0_input_held, .int h0_input_count])), (h0_input_held, .inl (cB, h0_input_held_n, .inl h0_input_held_f)), (h0_to_held, .inl (cB, h0_to_held_n, .inl o_h0_to_held_f))] (va_A [(h0, .inr (5, [.ref h0_input, w_h0_words, w_h0_settings, .ref h0_to, w_h0_blocks, .int h0_broken, .int h0_brokenAt, .int h0_at, .int h0_end, .int h0_begin, .int h0_copies, .int h0_literals, .int h0_parts, w_h0_frameBegin, w_h0_flags, w_h0_width, w_h0_size])), (h0_to, .inr (2, [.ref h0_to_held, .int h0_to_count])), (h0_input, .inr (2, [.ref h0_input_held, .int h0_input_count])), (h0_input_held, .inl (cB, h0_input_held_n, .inl h0_input_held_f)), (h0_to_held, .inl (cB, h0_to_held_n, .inl h0_to_held_f))] sz)) 0 0 (va_A [(h0, .inr (5, [.ref h0_input, w_h0_words, w_h0_settings, .ref h0_to, w_h0_blocks, .int h0_broken, .int h0_brokenAt, .int h0_at, .int h0_end, .int h0_begin, .int h0_copies, .int h0_literals, .int h0_parts, w_h0_frameBegin, w_h0_flags, w_h0_width, w_h0_size])), (h0_to, .inr (2, [.ref h0_to_held, .int h0_to_count])), (h0_input, .inr (2, [.ref h0_input_held, .int h0_input_count])), (h0_input_held, .inl (cB, h0_input_held_n, .inl h0_input_held_f)), (h0_to_held, .inl (cB, h0_to_held_n, .inl h0_to_held_f))] sz) := by
  refine met_of (Qf := fun A => QcI o_r (dC, dI) [(h0, .inr (5, [.ref h0_input, w_h0_words, w_h0_settings, .ref h0_to, w_h0_blocks, .int o_h0_broken, .int o_h0_brokenAt, .int o_h0_at, .int h0_end, .int o_h0_begin, .int o_h0_copies, .int o_h0_literals, .int o_h0_parts, w_h0_frameBegin, w_h0_flags, w_h0_width, w_h0_size])), (h0_to, .inr (2, [.ref h0_to_held, .int o_h0_to_count])), (h0_input, .inr (2, [.ref h0_input_held, .int h0_input_count])), (h0_input_held, .inl (cB, h0_input_held_n, .inl h0_input_held_f)), (h0_to_held, .inl (cB, h0_to_held_n, .inl o_h0_to_held_f))] A) (by decide) (Nat.le_of_ble_eq_true rfl) ?_
  intro p e s m below meth c A ls Q hx hb hr hml hown hts hlocks hnm hP hK hD hN hT hA hl hQ
  have hown : s.vm.findClass RX6 = some m.cls := hown
  have hS : va_S A s.heap s.heap [] := va_S.rf
  have hl : lv_has ls 7 [(0, .ref h0)] := hl
  unfold m_Opener_openElements at hf
  refine lv_aload_n hx hb dX6_openElements_0 rfl (lv_at hl 0 rfl) ?_
  obtain ⟨x, hc, hf⟩ := bind_some hf
  obtain ⟨u1, u2, u3, u4⟩ := x
  dsimp only at hf
  refine nx_v (rn_V (As := []) (rest := []) (n := 0) (ci := 5) (q0 := 0) ⟨hx, hb, hml, hown, hts⟩ (c_Opener_beginBlock (l := l) (dC := dC) (dI := dI) (cB := cB) (cI := cI) (h0 := h0) (h0_to := h0_to) (w_h0_input := (.ref h0_input)) (w_h0_words := (w_h0_words)) (w_h0_settings := (w_h0_settings)) (w_h0_blocks := (w_h0_blocks)) (w_h0_broken := (.int h0_broken)) (w_h0_brokenAt := (.int h0_brokenAt)) (w_h0_at := (.int h0_at)) (w_h0_end := (.int h0_end)) (h0_begin := h0_begin) (h0_copies := h0_copies) (h0_literals := h0_literals) (h0_parts := h0_parts) (w_h0_frameBegin := (w_h0_frameBegin)) (w_h0_flags := (w_h0_flags)) (w_h0_width := (w_h0_width)) (w_h0_size := (w_h0_size)) (w_h0_to_held := (.ref h0_to_held)) (h0_to_count := h0_to_count) (o_h0_begin := u1) (o_h0_copies := u2) (o_h0_literals := u3) (o_h0_parts := u4) hc) (wV kw_858 kw_860 kw_23 kw_92 kw_861) (by decide +kernel) ⟨Nat.le_of_ble_eq_true rfl, Nat.le_of_ble_eq_true rfl⟩ hK hP hD hN hT hS (va_free (wc := [(h0, .inr (5, [.ref h0_input, w_h0_words, w_h0_settings, .ref h0_to, w_h0_blocks, .int h0_broken, .int h0_brokenAt, .int h0_at, .int h0_end, .int h0_begin, .int h0_copies, .int h0_literals, .int h0_parts, w_h0_frameBegin, w_h0_flags, w_h0_width, w_h0_size])), (h0_to, .inr (2, [.ref h0_to_held, .int h0_to_count]))]) hD hS hA [0, 1] rfl) [0, 1] rfl (by decide) rfl rfl rfl hl.1 rfl (lv_room (Nat.le_of_ble_eq_true rfl)) dX6_openElements_1 ⟨Nat.le_of_ble_eq_true rfl, Nat.le_of_ble_eq_true rfl⟩) hP hD hS hA (wr := [(h0_input, .inr (2, [.ref h0_input_held, .int h0_input_count])), (h0_input_held, .inl (cB, h0_input_held_n, .inl h0_input_held_f)), (h0_to_held, .inl (cB, h0_to_held_n, .inl h0_to_held_f))]) (w1 := [(h0, .inr (5, [.ref h0_input, w_h0_words, w_h0_settings, .ref h0_to, w_h0_blocks, .int h0_broken, .int h0_brokenAt, .int h0_at, .int h0_end, .int u1, .int u2, .int u3, .int u4, w_h0_frameBegin, w_h0_flags, w_h0_width, w_h0_size])), (h0_to, .inr (2, [.ref h0_to_held, .int h0_to_count]))]) (ws' := [(h0, .inr (5, [.ref h0_input, w_h0_words, w_h0_settings, .ref h0_to, w_h0_blocks, .int h0_broken, .int h0_brokenAt, .int h0_at, .int h0_end, .int u1, .int u2, .int u3, .int u4, w_h0_frameBegin, w_h0_flags, w_h0_width, w_h0_size])), (h0_to, .inr (2, [.ref h0_to_held, .int h0_to_count])), (h0_input, .inr (2, [.ref h0_input_held, .int h0_input_count])), (h0_input_held, .inl (cB, h0_input_held_n, .inl h0_input_held_f)), (h0_to_held, .inl (cB, h0_to_held_n, .inl h0_to_held_f))]) [0, 1] [2, 3, 4] [3, 4, 0, 1, 2] rfl rfl (by decide) (by decide) rfl (by decide) (fun H locs hP hD hS => ?_)
  refine lv_aload_n hx hb dX6_openElements_4 rfl (lv_at hl 0 rfl) ?_
  refine va_get (D := (dC, dI)) (ci := 5) (v := .int h0_at) (C := RX6) (T := TX6) (N := 17) hx hb hts inG_X6 hown hK hP 0 rfl rfl 7 (by decide) (hts _ kw_296) (fun _ h9 => h9) rfl dX6_openElements_5 ?_
  refine lv_istore_n (lv' := [(1, .int h0_at), (0, .ref h0)]) hx hb dX6_openElements_8 rfl hl (by decide) rfl (fun ls hl => ?_)
  refine lv_lconst (v := 0) hx hb dX6_openElements_9 (by decide) ?_
  refine lv_lstore_n (lv' := [(2, .long (0 : Int64)), (1, .int h0_at), (0, .ref h0)]) hx hb dX6_openElements_10 rfl hl (by decide) rfl (fun ls hl => ?_)
  refine lv_sipush (v := 128) hx hb dX6_openElements_11 (by decide) ?_
  refine lv_istore (lv' := [(4, .int (128 : Int32)), (2, .long (0 : Int64)), (1, .int h0_at), (0, .ref h0)]) hx hb dX6_openElements_14 hl (by decide) rfl (fun ls hl => ?_)
  refine lv_iconst (v := 0) hx hb dX6_openElements_16 (by decide) ?_
  refine lv_istore (lv' := [(5, .int (0 : Int32)), (4, .int (128 : Int32)), (2, .long (0 : Int64)), (1, .int h0_at), (0, .ref h0)]) hx hb dX6_openElements_17 hl (by decide) rfl (fun ls hl => ?_)
  have hJ_96 : ∀ (g5 : Int32) (j2_6 : Int64) (j4_7 : Int32) (H : Heap) (locs : List Loc) (ls : Array Slot), m_Opener_openElements_E96 h0_broken h0_brokenAt h0_at h0_end h0_to_count h0_input_count h0_input_held_n h0_input_held_f h0_to_held_n h0_to_held_f u1 u2 u3 u4 g5 j2_6 j4_7 = some (o_r, o_h0_broken, o_h0_brokenAt, o_h0_at, o_h0_begin, o_h0_copies, o_h0_literals, o_h0_parts, o_h0_to_count, o_h0_to_held_f) → va_P (dC, dI) vwCl [(h0, .inr (5, [.ref h0_input, w_h0_words, w_h0_settings, .ref h0_to, w_h0_blocks, .int h0_broken, .int h0_brokenAt, .int g5, .int h0_end, .int u1, .int u2, .int u3, .int u4, w_h0_frameBegin, w_h0_flags, w_h0_width, w_h0_size])), (h0_to, .inr (2, [.ref h0_to_held, .int h0_to_count])), (h0_input, .inr (2, [.ref h0_input_held, .int h0_input_count])), (h0_input_held, .inl (cB, h0_input_held_n, .inl h0_input_held_f)), (h0_to_held, .inl (cB, h0_to_held_n, .inl h0_to_held_f))] H → va_D A [(h0, .inr (5, [.ref h0_input, w_h0_words, w_h0_settings, .ref h0_to, w_h0_blocks, .int h0_broken, .int h0_brokenAt, .int g5, .int h0_end, .int u1, .int u2, .int u3, .int u4, w_h0_frameBegin, w_h0_flags, w_h0_width, w_h0_size])), (h0_to, .inr (2, [.ref h0_to_held, .int h0_to_count])), (h0_input, .inr (2, [.ref h0_input_held, .int h0_input_count])), (h0_input_held, .inl (cB, h0_input_held_n, .inl h0_input_held_f)), (h0_to_held, .inl (cB, h0_to_held_n, .inl h0_to_held_f))] → va_S A s.heap H locs → lv_has ls 7 [(0, .ref h0), (1, .int h0_at), (2, .long j2_6), (4, .int j4_7)] → W p l e (rm_Opener_openElements) s m ([.ref h0] : List Value).toArray below meth c H locs 0 0 Q (F0 m 96 ls []) := by
    intro g5 j2_6 j4_7 H locs ls hf hP hD hS hl
    unfold m_Opener_openElements_E96 at hf
    refine lv_iload hx hb dX6_openElements_96 (lv_at hl 3 rfl) ?_
    refine lv_sipush (v := 128) hx hb dX6_openElements_98 (by decide) ?_
    have hJ_112 : ∀ (H : Heap) (locs : List Loc) (ls : Array Slot), m_Opener_openElements_J112 h0_at h0_to_count h0_to_held_f u1 u2 u3 u4 g5 = some (o_r, o_h0_broken, o_h0_brokenAt, o_h0_at, o_h0_begin, o_h0_copies, o_h0_literals, o_h0_parts, o_h0_to_count, o_h0_to_held_f) → va_P (dC, dI) vwCl [(h0, .inr (5, [.ref h0_input, w_h0_words, w_h0_settings, .ref h0_to, w_h0_blocks, .int h0_broken, .int h0_brokenAt, .int g5, .int h0_end, .int u1, .int u2, .int u3, .int u4, w_h0_frameBegin, w_h0_flags, w_h0_width, w_h0_size])), (h0_to, .inr (2, [.ref h0_to_held, .int h0_to_count])), (h0_input, .inr (2, [.ref h0_input_held, .int h0_input_count])), (h0_input_held, .inl (cB, h0_input_held_n, .inl h0_input_held_f)), (h0_to_held, .inl (cB, h0_to_held_n, .inl h0_to_held_f))] H → va_D A [(h0, .inr (5, [.ref h0_input, w_h0_words, w_h0_settings, .ref h0_to, w_h0_blocks, .int h0_broken, .int h0_brokenAt, .int g5, .int h0_end, .int u1, .int u2, .int u3, .int u4, w_h0_frameBegin, w_h0_flags, w_h0_width, w_h0_size])), (h0_to, .inr (2, [.ref h0_to_held, .int h0_to_count])), (h0_input, .inr (2, [.ref h0_input_held, .int h0_input_count])), (h0_input_held, .inl (cB, h0_input_held_n, .inl h0_input_held_f)), (h0_to_held, .inl (cB, h0_to_held_n, .inl h0_to_held_f))] → va_S A s.heap H locs → lv_has ls 7 [(0, .ref h0), (1, .int h0_at)] → W p l e (rm_Opener_openElements) s m ([.ref h0] : List Value).toArray below meth c H locs 0 0 Q (F0 m 112 ls []) := by
      intro  H locs ls hf hP hD hS hl
      unfold m_Opener_openElements_J112 at hf
      refine lv_aload_n hx hb dX6_openElements_112 rfl (lv_at hl 0 rfl) ?_
      refine lv_bipush (v := 13) hx hb dX6_openElements_113 (by decide) ?_
      refine lv_iload_n hx hb dX6_openElements_115 rfl (lv_at hl 1 rfl) ?_
      obtain ⟨x, hc, hf⟩ := bind_some hf
      obtain ⟨r8, u9, u10⟩ := x
      dsimp only at hf
      refine nx_i (rn_V (As := [.int (13 : Int32), .int h0_at]) (rest := []) (n := 2) (ci := 5) (q0 := 0) ⟨hx, hb, hml, hown, hts⟩ (c_Opener_breaks (l := l) (dC := dC) (dI := dI) (cB := cB) (cI := cI) (h0 := h0) (a1 := (13 : Int32)) (a2 := h0_at) (w_h0_input := (.ref h0_input)) (w_h0_words := (w_h0_words)) (w_h0_settings := (w_h0_settings)) (w_h0_to := (.ref h0_to)) (w_h0_blocks := (w_h0_blocks)) (h0_broken := h0_broken) (h0_brokenAt := h0_brokenAt) (w_h0_at := (.int g5)) (w_h0_end := (.int h0_end)) (w_h0_begin := (.int u1)) (w_h0_copies := (.int u2)) (w_h0_literals := (.int u3)) (w_h0_parts := (.int u4)) (w_h0_frameBegin := (w_h0_frameBegin)) (w_h0_flags := (w_h0_flags)) (w_h0_width := (w_h0_width)) (w_h0_size := (w_h0_size)) (o_h0_broken := u9) (o_h0_brokenAt := u10) (o_r := r8) hc) (wV kw_871 kw_873 kw_26 kw_92 kw_874) (by decide +kernel) ⟨Nat.le_of_ble_eq_true rfl, Nat.le_of_ble_eq_true rfl⟩ hK hP hD hN hT hS (va_free (wc := [(h0, .inr (5, [.ref h0_input, w_h0_words, w_h0_settings, .ref h0_to, w_h0_blocks, .int h0_broken, .int h0_brokenAt, .int g5, .int h0_end, .int u1, .int u2, .int u3, .int u4, w_h0_frameBegin, w_h0_flags, w_h0_width, w_h0_size]))]) hD hS hA [0] rfl) [0] rfl (by decide) rfl rfl rfl hl.1 rfl (lv_room (Nat.le_of_ble_eq_true rfl)) dX6_openElements_116 ⟨Nat.le_of_ble_eq_true rfl, Nat.le_of_ble_eq_true rfl⟩) hP hD hS hA (wr := [(h0_to, .inr (2, [.ref h0_to_held, .int h0_to_count])), (h0_input, .inr (2, [.ref h0_input_held, .int h0_input_count])), (h0_input_held, .inl (cB, h0_input_held_n, .inl h0_input_held_f)), (h0_to_held, .inl (cB, h0_to_held_n, .inl h0_to_held_f))]) (w1 := [(h0, .inr (5, [.ref h0_input, w_h0_words, w_h0_settings, .ref h0_to, w_h0_blocks, .int u9, .int u10, .int g5, .int h0_end, .int u1, .int u2, .int u3, .int u4, w_h0_frameBegin, w_h0_flags, w_h0_width, w_h0_size]))]) (ws' := [(h0, .inr (5, [.ref h0_input, w_h0_words, w_h0_settings, .ref h0_to, w_h0_blocks, .int u9, .int u10, .int g5, .int h0_end, .int u1, .int u2, .int u3, .int u4, w_h0_frameBegin, w_h0_flags, w_h0_width, w_h0_size])), (h0_to, .inr (2, [.ref h0_to_held, .int h0_to_count])), (h0_input, .inr (2, [.ref h0_input_held, .int h0_input_count])), (h0_input_held, .inl (cB, h0_input_held_n, .inl h0_input_held_f)), (h0_to_held, .inl (cB, h0_to_held_n, .inl h0_to_held_f))]) [0] [1, 2, 3, 4] [4, 0, 1, 2, 3] rfl rfl (by decide) (by decide) rfl (by decide) (fun H locs hP hD hS => ?_)
      obtain ⟨hzb, hf⟩ := bch_some hf
      obtain ⟨rfl, hq_1⟩ := Prod.mk.inj (Option.some.inj hf)
      obtain ⟨rfl, hq_2⟩ := Prod.mk.inj hq_1
      obtain ⟨rfl, hq_3⟩ := Prod.mk.inj hq_2
      obtain ⟨rfl, hq_4⟩ := Prod.mk.inj hq_3
      obtain ⟨rfl, hq_5⟩ := Prod.mk.inj hq_4
      obtain ⟨rfl, hq_6⟩ := Prod.mk.inj hq_5
      obtain ⟨rfl, hq_7⟩ := Prod.mk.inj hq_6
      obtain ⟨rfl, hq_8⟩ := Prod.mk.inj hq_7
      obtain ⟨rfl, hq_9⟩ := Prod.mk.inj hq_8
      obtain rfl := hq_9
      exact rt_z hQ hx hb hr hzb hlocks hP hD hS dX6_openElements_119
    refine lv_icmp_ge (tgt := 112) hx hb dX6_openElements_101 (by decide) (fun c_101 => ?_) (fun c_101 => ?_)
    · replace hf := if_t c_101 hf
      exact hJ_112  _ _ _ hf hP hD hS (lv_sub hl [0, 1] rfl)
    · replace hf := if_f c_101 hf
      refine lv_lload_n hx hb dX6_openElements_104 rfl (lv_at hl 2 rfl) ?_
      refine lv_ldc2 hx hb hown (hts _ kw_960) dX6_openElements_105 ?_
      refine W.lcmp hx hb dX6_openElements_108 ?_
      refine lv_if_le (tgt := 120) hx hb dX6_openElements_109 (by decide) (fun c_109 => ?_) (fun c_109 => ?_)
      · replace hf := if_t c_109 hf
        refine lv_aload_n hx hb dX6_openElements_120 rfl (lv_at hl 0 rfl) ?_
        refine lv_lload_n hx hb dX6_openElements_121 rfl (lv_at hl 2 rfl) ?_
        obtain ⟨r11, hc, hf⟩ := bind_some hf
        refine nx_i (rn_V (As := [.long j2_6]) (rest := []) (n := 1) (ci := 5) (q0 := 0) ⟨hx, hb, hml, hown, hts⟩ (c_Opener_isOver (l := l) (dC := dC) (dI := dI) (cB := cB) (cI := cI) (h0 := h0) (a1 := j2_6) (h0_to := h0_to) (w_h0_input := (.ref h0_input)) (w_h0_words := (w_h0_words)) (w_h0_settings := (w_h0_settings)) (w_h0_blocks := (w_h0_blocks)) (w_h0_broken := (.int h0_broken)) (w_h0_brokenAt := (.int h0_brokenAt)) (w_h0_at := (.int g5)) (w_h0_end := (.int h0_end)) (w_h0_begin := (.int u1)) (w_h0_copies := (.int u2)) (w_h0_literals := (.int u3)) (w_h0_parts := (.int u4)) (w_h0_frameBegin := (w_h0_frameBegin)) (w_h0_flags := (w_h0_flags)) (w_h0_width := (w_h0_width)) (w_h0_size := (w_h0_size)) (w_h0_to_held := (.ref h0_to_held)) (h0_to_count := h0_to_count)  (o_r := r11) hc) (wV kw_875 kw_877 kw_27 kw_92 kw_878) (by decide +kernel) ⟨Nat.le_of_ble_eq_true rfl, Nat.le_of_ble_eq_true rfl⟩ hK hP hD hN hT hS (va_free (wc := [(h0, .inr (5, [.ref h0_input, w_h0_words, w_h0_settings, .ref h0_to, w_h0_blocks, .int h0_broken, .int h0_brokenAt, .int g5, .int h0_end, .int u1, .int u2, .int u3, .int u4, w_h0_frameBegin, w_h0_flags, w_h0_width, w_h0_size])), (h0_to, .inr (2, [.ref h0_to_held, .int h0_to_count]))]) hD hS hA [0, 1] rfl) [0, 1] rfl (by decide) rfl rfl rfl hl.1 rfl (lv_room (Nat.le_of_ble_eq_true rfl)) dX6_openElements_122 ⟨Nat.le_of_ble_eq_true rfl, Nat.le_of_ble_eq_true rfl⟩) hP hD hS hA (wr := [(h0_input, .inr (2, [.ref h0_input_held, .int h0_input_count])), (h0_input_held, .inl (cB, h0_input_held_n, .inl h0_input_held_f)), (h0_to_held, .inl (cB, h0_to_held_n, .inl h0_to_held_f))]) (w1 := [(h0, .inr (5, [.ref h0_input, w_h0_words, w_h0_settings, .ref h0_to, w_h0_blocks, .int h0_broken, .int h0_brokenAt, .int g5, .int h0_end, .int u1, .int u2, .int u3, .int u4, w_h0_frameBegin, w_h0_flags, w_h0_width, w_h0_size])), (h0_to, .inr (2, [.ref h0_to_held, .int h0_to_count]))]) (ws' := [(h0, .inr (5, [.ref h0_input, w_h0_words, w_h0_settings, .ref h0_to, w_h0_blocks, .int h0_broken, .int h0_brokenAt, .int g5, .int h0_end, .int u1, .int u2, .int u3, .int u4, w_h0_frameBegin, w_h0_flags, w_h0_width, w_h0_size])), (h0_to, .inr (2, [.ref h0_to_held, .int h0_to_count])), (h0_input, .inr (2, [.ref h0_input_held, .int h0_input_count])), (h0_input_held, .inl (cB, h0_input_held_n, .inl h0_input_held_f)), (h0_to_held, .inl (cB, h0_to_held_n, .inl h0_to_held_f))]) [0, 1] [2, 3, 4] [3, 4, 0, 1, 2] rfl rfl (by decide) (by decide) rfl (by decide) (fun H locs hP hD hS => ?_)
        refine lv_if_eq (tgt := 136) hx hb dX6_openElements_125 (by decide) (fun c_125 => ?_) (fun c_125 => ?_)
        · replace hf := if_t c_125 hf
          refine lv_aload_n hx hb dX6_openElements_136 rfl (lv_at hl 0 rfl) ?_
          refine va_get (D := (dC, dI)) (ci := 5) (v := .int u1) (C := RX6) (T := TX6) (N := 17) hx hb hts inG_X6 hown hK hP 0 rfl rfl 9 (by decide) (hts _ kw_298) (fun _ h9 => h9) rfl dX6_openElements_137 ?_
          refine lv_lload_n hx hb dX6_openElements_140 rfl (lv_at hl 2 rfl) ?_
          refine lv_l2i (v := (j2_6.toInt32)) hx hb dX6_openElements_141 rfl ?_
          refine lv_iadd hx hb dX6_openElements_142 ?_
          refine lv_topi (fun v5_12 e_v5_12 => ?_)
          replace hf := bnd_at e_v5_12 hf
          refine lv_istore (lv' := [(5, .int v5_12), (0, .ref h0), (1, .int h0_at), (2, .long j2_6), (4, .int j4_7)]) hx hb dX6_openElements_143 hl (by decide) rfl (fun ls hl => ?_)
          refine lv_iconst (v := 0) hx hb dX6_openElements_145 (by decide) ?_
          refine lv_istore (lv' := [(6, .int (0 : Int32)), (5, .int v5_12), (0, .ref h0), (1, .int h0_at), (2, .long j2_6), (4, .int j4_7)]) hx hb dX6_openElements_146 hl (by decide) rfl (fun ls hl => ?_)
          have hJ_184 : ∀ (f13 : Nat → Int32) (g14 : Int32) (g15 : Int32) (g16 : Int32) (g17 : Int32) (g18 : Int32) (g19 : Int32) (g20 : Int32) (H : Heap) (locs : List Loc) (ls : Array Slot), m_Opener_openElements_E184 h0_end u1 v5_12 f13 g14 g15 g16 g17 g18 g19 g20 = some (o_r, o_h0_broken, o_h0_brokenAt, o_h0_at, o_h0_begin, o_h0_copies, o_h0_literals, o_h0_parts, o_h0_to_count, o_h0_to_held_f) → va_P (dC, dI) vwCl [(h0, .inr (5, [.ref h0_input, w_h0_words, w_h0_settings, .ref h0_to, w_h0_blocks, .int g17, .int g18, .int g19, .int h0_end, .int u1, .int g14, .int g15, .int g16, w_h0_frameBegin, w_h0_flags, w_h0_width, w_h0_size])), (h0_to, .inr (2, [.ref h0_to_held, .int g20])), (h0_input, .inr (2, [.ref h0_input_held, .int h0_input_count])), (h0_input_held, .inl (cB, h0_input_held_n, .inl h0_input_held_f)), (h0_to_held, .inl (cB, h0_to_held_n, .inl f13))] H → va_D A [(h0, .inr (5, [.ref h0_input, w_h0_words, w_h0_settings, .ref h0_to, w_h0_blocks, .int g17, .int g18, .int g19, .int h0_end, .int u1, .int g14, .int g15, .int g16, w_h0_frameBegin, w_h0_flags, w_h0_width, w_h0_size])), (h0_to, .inr (2, [.ref h0_to_held, .int g20])), (h0_input, .inr (2, [.ref h0_input_held, .int h0_input_count])), (h0_input_held, .inl (cB, h0_input_held_n, .inl h0_input_held_f)), (h0_to_held, .inl (cB, h0_to_held_n, .inl f13))] → va_S A s.heap H locs → lv_has ls 7 [(0, .ref h0), (5, .int v5_12)] → W p l e (rm_Opener_openElements) s m ([.ref h0] : List Value).toArray below meth c H locs 0 0 Q (F0 m 184 ls []) := by
            intro f13 g14 g15 g16 g17 g18 g19 g20 H locs ls hf hP hD hS hl
            unfold m_Opener_openElements_E184 at hf
            refine lv_aload_n hx hb dX6_openElements_184 rfl (lv_at hl 0 rfl) ?_
            refine va_get (D := (dC, dI)) (ci := 5) (v := .ref h0_to) (C := RX6) (T := TX6) (N := 17) hx hb hts inG_X6 hown hK hP 0 rfl rfl 3 (by decide) (hts _ kw_292) (fun _ h9 => h9) rfl dX6_openElements_185 ?_
            obtain ⟨r21, hc, hf⟩ := bind_some hf
            refine nx_i (rn_V (As := []) (rest := []) (n := 0) (ci := 2) (q0 := 0) ⟨hx, hb, hml, hown, hts⟩ (c_Bytes_size (l := l) (dC := dC) (dI := dI) (cB := cB) (cI := cI) (h0 := h0_to) (w_h0_held := (.ref h0_to_held)) (h0_count := g20)  (o_r := r21) hc) (wV kw_849 kw_402 kw_403 kw_83 kw_404) (by decide +kernel) ⟨Nat.le_of_ble_eq_true rfl, Nat.le_of_ble_eq_true rfl⟩ hK hP hD hN hT hS (va_free (wc := [(h0_to, .inr (2, [.ref h0_to_held, .int g20]))]) hD hS hA [1] rfl) [1] rfl (by decide) rfl rfl rfl hl.1 rfl (lv_room (Nat.le_of_ble_eq_true rfl)) dX6_openElements_188 ⟨Nat.le_of_ble_eq_true rfl, Nat.le_of_ble_eq_true rfl⟩) hP hD hS hA (wr := [(h0, .inr (5, [.ref h0_input, w_h0_words, w_h0_settings, .ref h0_to, w_h0_blocks, .int g17, .int g18, .int g19, .int h0_end, .int u1, .int g14, .int g15, .int g16, w_h0_frameBegin, w_h0_flags, w_h0_width, w_h0_size])), (h0_input, .inr (2, [.ref h0_input_held, .int h0_input_count])), (h0_input_held, .inl (cB, h0_input_held_n, .inl h0_input_held_f)), (h0_to_held, .inl (cB, h0_to_held_n, .inl f13))]) (w1 := [(h0_to, .inr (2, [.ref h0_to_held, .int g20]))]) (ws' := [(h0, .inr (5, [.ref h0_input, w_h0_words, w_h0_settings, .ref h0_to, w_h0_blocks, .int g17, .int g18, .int g19, .int h0_end, .int u1, .int g14, .int g15, .int g16, w_h0_frameBegin, w_h0_flags, w_h0_width, w_h0_size])), (h0_to, .inr (2, [.ref h0_to_held, .int g20])), (h0_input, .inr (2, [.ref h0_input_held, .int h0_input_count])), (h0_input_held, .inl (cB, h0_input_held_n, .inl h0_input_held_f)), (h0_to_held, .inl (cB, h0_to_held_n, .inl f13))]) [1] [0, 2, 3, 4] [0, 4, 1, 2, 3] rfl rfl (by decide) (by decide) rfl (by decide) (fun H locs hP hD hS => ?_)
            refine lv_iload hx hb dX6_openElements_191 (lv_at hl 1 rfl) ?_
            refine lv_icmp_eq (tgt := 209) hx hb dX6_openElements_193 (by decide) (fun c_193 => ?_) (fun c_193 => ?_)
            · replace hf := if_t c_193 hf
              refine lv_iconst (v := 1) hx hb dX6_openElements_209 (by decide) ?_
              refine lv_goto (tgt := 214) hx hb dX6_openElements_210 (by decide) ?_
              have hzb : narrow .boolean (.int (1 : Int32)) = .int (1 : Int32) := rfl
              obtain ⟨rfl, hq_1⟩ := Prod.mk.inj (Option.some.inj hf)
              obtain ⟨rfl, hq_2⟩ := Prod.mk.inj hq_1
              obtain ⟨rfl, hq_3⟩ := Prod.mk.inj hq_2
              obtain ⟨rfl, hq_4⟩ := Prod.mk.inj hq_3
              obtain ⟨rfl, hq_5⟩ := Prod.mk.inj hq_4
              obtain ⟨rfl, hq_6⟩ := Prod.mk.inj hq_5
              obtain ⟨rfl, hq_7⟩ := Prod.mk.inj hq_6
              obtain ⟨rfl, hq_8⟩ := Prod.mk.inj hq_7
              obtain ⟨rfl, hq_9⟩ := Prod.mk.inj hq_8
              obtain rfl := hq_9
              exact rt_z hQ hx hb hr hzb hlocks hP hD hS dX6_openElements_214
            · replace hf := if_f c_193 hf
              refine lv_aload_n hx hb dX6_openElements_196 rfl (lv_at hl 0 rfl) ?_
              refine lv_bipush (v := 14) hx hb dX6_openElements_197 (by decide) ?_
              refine lv_aload_n hx hb dX6_openElements_199 rfl (lv_at hl 0 rfl) ?_
              refine va_get (D := (dC, dI)) (ci := 5) (v := .int h0_end) (C := RX6) (T := TX6) (N := 17) hx hb hts inG_X6 hown hK hP 0 rfl rfl 8 (by decide) (hts _ kw_297) (fun _ h9 => h9) rfl dX6_openElements_200 ?_
              obtain ⟨x, hc, hf⟩ := bind_some hf
              obtain ⟨r22, u23, u24⟩ := x
              dsimp only at hf
              refine nx_i (rn_V (As := [.int (14 : Int32), .int h0_end]) (rest := []) (n := 2) (ci := 5) (q0 := 0) ⟨hx, hb, hml, hown, hts⟩ (c_Opener_breaks (l := l) (dC := dC) (dI := dI) (cB := cB) (cI := cI) (h0 := h0) (a1 := (14 : Int32)) (a2 := h0_end) (w_h0_input := (.ref h0_input)) (w_h0_words := (w_h0_words)) (w_h0_settings := (w_h0_settings)) (w_h0_to := (.ref h0_to)) (w_h0_blocks := (w_h0_blocks)) (h0_broken := g17) (h0_brokenAt := g18) (w_h0_at := (.int g19)) (w_h0_end := (.int h0_end)) (w_h0_begin := (.int u1)) (w_h0_copies := (.int g14)) (w_h0_literals := (.int g15)) (w_h0_parts := (.int g16)) (w_h0_frameBegin := (w_h0_frameBegin)) (w_h0_flags := (w_h0_flags)) (w_h0_width := (w_h0_width)) (w_h0_size := (w_h0_size)) (o_h0_broken := u23) (o_h0_brokenAt := u24) (o_r := r22) hc) (wV kw_871 kw_873 kw_26 kw_92 kw_874) (by decide +kernel) ⟨Nat.le_of_ble_eq_true rfl, Nat.le_of_ble_eq_true rfl⟩ hK hP hD hN hT hS (va_free (wc := [(h0, .inr (5, [.ref h0_input, w_h0_words, w_h0_settings, .ref h0_to, w_h0_blocks, .int g17, .int g18, .int g19, .int h0_end, .int u1, .int g14, .int g15, .int g16, w_h0_frameBegin, w_h0_flags, w_h0_width, w_h0_size]))]) hD hS hA [0] rfl) [0] rfl (by decide) rfl rfl rfl hl.1 rfl (lv_room (Nat.le_of_ble_eq_true rfl)) dX6_openElements_203 ⟨Nat.le_of_ble_eq_true rfl, Nat.le_of_ble_eq_true rfl⟩) hP hD hS hA (wr := [(h0_to, .inr (2, [.ref h0_to_held, .int g20])), (h0_input, .inr (2, [.ref h0_input_held, .int h0_input_count])), (h0_input_held, .inl (cB, h0_input_held_n, .inl h0_input_held_f)), (h0_to_held, .inl (cB, h0_to_held_n, .inl f13))]) (w1 := [(h0, .inr (5, [.ref h0_input, w_h0_words, w_h0_settings, .ref h0_to, w_h0_blocks, .int u23, .int u24, .int g19, .int h0_end, .int u1, .int g14, .int g15, .int g16, w_h0_frameBegin, w_h0_flags, w_h0_width, w_h0_size]))]) (ws' := [(h0, .inr (5, [.ref h0_input, w_h0_words, w_h0_settings, .ref h0_to, w_h0_blocks, .int u23, .int u24, .int g19, .int h0_end, .int u1, .int g14, .int g15, .int g16, w_h0_frameBegin, w_h0_flags, w_h0_width, w_h0_size])), (h0_to, .inr (2, [.ref h0_to_held, .int g20])), (h0_input, .inr (2, [.ref h0_input_held, .int h0_input_count])), (h0_input_held, .inl (cB, h0_input_held_n, .inl h0_input_held_f)), (h0_to_held, .inl (cB, h0_to_held_n, .inl f13))]) [0] [1, 2, 3, 4] [4, 0, 1, 2, 3] rfl rfl (by decide) (by decide) rfl (by decide) (fun H locs hP hD hS => ?_)
              refine lv_if_eq (tgt := 213) hx hb dX6_openElements_206 (by decide) (fun c_206 => ?_) (fun c_206 => ?_)
              · replace hf := if_t c_206 hf
                refine lv_iconst (v := 0) hx hb dX6_openElements_213 (by decide) ?_
                have hzb : narrow .boolean (.int (0 : Int32)) = .int (0 : Int32) := rfl
                obtain ⟨rfl, hq_1⟩ := Prod.mk.inj (Option.some.inj hf)
                obtain ⟨rfl, hq_2⟩ := Prod.mk.inj hq_1
                obtain ⟨rfl, hq_3⟩ := Prod.mk.inj hq_2
                obtain ⟨rfl, hq_4⟩ := Prod.mk.inj hq_3
                obtain ⟨rfl, hq_5⟩ := Prod.mk.inj hq_4
                obtain ⟨rfl, hq_6⟩ := Prod.mk.inj hq_5
                obtain ⟨rfl, hq_7⟩ := Prod.mk.inj hq_6
                obtain ⟨rfl, hq_8⟩ := Prod.mk.inj hq_7
                obtain ⟨rfl, hq_9⟩ := Prod.mk.inj hq_8
                obtain rfl := hq_9
                exact rt_z hQ hx hb hr hzb hlocks hP hD hS dX6_openElements_214
              · replace hf := if_f c_206 hf
                refine lv_iconst (v := 1) hx hb dX6_openElements_209 (by decide) ?_
                refine lv_goto (tgt := 214) hx hb dX6_openElements_210 (by decide) ?_
                have hzb : narrow .boolean (.int (1 : Int32)) = .int (1 : Int32) := rfl
                obtain ⟨rfl, hq_1⟩ := Prod.mk.inj (Option.some.inj hf)
                obtain ⟨rfl, hq_2⟩ := Prod.mk.inj hq_1
                obtain ⟨rfl, hq_3⟩ := Prod.mk.inj hq_2
                obtain ⟨rfl, hq_4⟩ := Prod.mk.inj hq_3
                obtain ⟨rfl, hq_5⟩ := Prod.mk.inj hq_4
                obtain ⟨rfl, hq_6⟩ := Prod.mk.inj hq_5
                obtain ⟨rfl, hq_7⟩ := Prod.mk.inj hq_6
                obtain ⟨rfl, hq_8⟩ := Prod.mk.inj hq_7
                obtain ⟨rfl, hq_9⟩ := Prod.mk.inj hq_8
                obtain rfl := hq_9
                exact rt_z hQ hx hb hr hzb hlocks hP hD hS dX6_openElements_214
          obtain ⟨o_148, hi_148, hk_148⟩ := bind_some hf
          have hL_148 : ∀ (n : Nat) (f25 : Nat → Int32) (g26 : Int32) (g27 : Int32) (g28 : Int32) (g29 : Int32) (g30 : Int32) (g31 : Int32) (g32 : Int32) (j6_33 : Int32) (H : Heap) (locs : List Loc) (ls : Array Slot), iter (fun st => m_Opener_openElements_B148 h0_end h0_input_count h0_input_held_n h0_input_held_f h0_to_held_n u1 v5_12 st.1 st.2.1 st.2.2.1 st.2.2.2.1 st.2.2.2.2.1 st.2.2.2.2.2.1 st.2.2.2.2.2.2.1 st.2.2.2.2.2.2.2.1 st.2.2.2.2.2.2.2.2) n (f25, g26, g27, g28, g29, g30, g31, g32, j6_33) = some o_148 → va_P (dC, dI) vwCl [(h0, .inr (5, [.ref h0_input, w_h0_words, w_h0_settings, .ref h0_to, w_h0_blocks, .int g29, .int g30, .int g31, .int h0_end, .int u1, .int g26, .int g27, .int g28, w_h0_frameBegin, w_h0_flags, w_h0_width, w_h0_size])), (h0_to, .inr (2, [.ref h0_to_held, .int g32])), (h0_input, .inr (2, [.ref h0_input_held, .int h0_input_count])), (h0_input_held, .inl (cB, h0_input_held_n, .inl h0_input_held_f)), (h0_to_held, .inl (cB, h0_to_held_n, .inl f25))] H → va_D A [(h0, .inr (5, [.ref h0_input, w_h0_words, w_h0_settings, .ref h0_to, w_h0_blocks, .int g29, .int g30, .int g31, .int h0_end, .int u1, .int g26, .int g27, .int g28, w_h0_frameBegin, w_h0_flags, w_h0_width, w_h0_size])), (h0_to, .inr (2, [.ref h0_to_held, .int g32])), (h0_input, .inr (2, [.ref h0_input_held, .int h0_input_count])), (h0_input_held, .inl (cB, h0_input_held_n, .inl h0_input_held_f)), (h0_to_held, .inl (cB, h0_to_held_n, .inl f25))] → va_S A s.heap H locs → lv_has ls 7 [(0, .ref h0), (5, .int v5_12), (6, .int j6_33)] → W p l e (rm_Opener_openElements) s m ([.ref h0] : List Value).toArray below meth c H locs 0 0 Q (F0 m 148 ls []) := by
            intro n
            induction n with
            | zero => intro f25 g26 g27 g28 g29 g30 g31 g32 j6_33 H locs ls hf; exact absurd hf (fun z => by cases z)
            | succ n ih_148 =>
              intro f25 g26 g27 g28 g29 g30 g31 g32 j6_33 H locs ls hf hP hD hS hl
              obtain ⟨r_148, hf, hr_148⟩ := iter_succ hf
              have hf : m_Opener_openElements_B148 h0_end h0_input_count h0_input_held_n h0_input_held_f h0_to_held_n u1 v5_12 f25 g26 g27 g28 g29 g30 g31 g32 j6_33 = some r_148 := hf
              unfold m_Opener_openElements_B148 at hf
              refine lv_iload hx hb dX6_openElements_148 (lv_at hl 2 rfl) ?_
              refine lv_sipush (v := 4000) hx hb dX6_openElements_150 (by decide) ?_
              refine lv_icmp_ge (tgt := 184) hx hb dX6_openElements_153 (by decide) (fun c_153 => ?_) (fun c_153 => ?_)
              · replace hf := if_t c_153 hf
                have hf : m_Opener_openElements_E184 h0_end u1 v5_12 f25 g26 g27 g28 g29 g30 g31 g32 = some (o_r, o_h0_broken, o_h0_brokenAt, o_h0_at, o_h0_begin, o_h0_copies, o_h0_literals, o_h0_parts, o_h0_to_count, o_h0_to_held_f) := by have hq := hk_148; rw [iter_exit hf hr_148] at hq; exact hq
                exact hJ_184 f25 g26 g27 g28 g29 g30 g31 g32 _ _ _ hf hP hD hS (lv_sub hl [0, 1] rfl)
              · replace hf := if_f c_153 hf
                refine lv_aload_n hx hb dX6_openElements_156 rfl (lv_at hl 0 rfl) ?_
                refine va_get (D := (dC, dI)) (ci := 5) (v := .int g31) (C := RX6) (T := TX6) (N := 17) hx hb hts inG_X6 hown hK hP 0 rfl rfl 7 (by decide) (hts _ kw_296) (fun _ h9 => h9) rfl dX6_openElements_157 ?_
                refine lv_aload_n hx hb dX6_openElements_160 rfl (lv_at hl 0 rfl) ?_
                refine va_get (D := (dC, dI)) (ci := 5) (v := .int h0_end) (C := RX6) (T := TX6) (N := 17) hx hb hts inG_X6 hown hK hP 0 rfl rfl 8 (by decide) (hts _ kw_297) (fun _ h9 => h9) rfl dX6_openElements_161 ?_
                refine lv_icmp_ge (tgt := 184) hx hb dX6_openElements_164 (by decide) (fun c_164 => ?_) (fun c_164 => ?_)
                · replace hf := if_t c_164 hf
                  have hf : m_Opener_openElements_E184 h0_end u1 v5_12 f25 g26 g27 g28 g29 g30 g31 g32 = some (o_r, o_h0_broken, o_h0_brokenAt, o_h0_at, o_h0_begin, o_h0_copies, o_h0_literals, o_h0_parts, o_h0_to_count, o_h0_to_held_f) := by have hq := hk_148; rw [iter_exit hf hr_148] at hq; exact hq
                  exact hJ_184 f25 g26 g27 g28 g29 g30 g31 g32 _ _ _ hf hP hD hS (lv_sub hl [0, 1] rfl)
                · replace hf := if_f c_164 hf
                  refine lv_aload_n hx hb dX6_openElements_167 rfl (lv_at hl 0 rfl) ?_
                  refine lv_iload hx hb dX6_openElements_168 (lv_at hl 1 rfl) ?_
                  obtain ⟨x, hc, hf⟩ := bind_some hf
                  obtain ⟨r34, u35, u36, u37, u38, u39, u40, u41, u42⟩ := x
                  dsimp only at hf
                  refine nx_i (rn_V (As := [.int v5_12]) (rest := []) (n := 1) (ci := 5) (q0 := 0) ⟨hx, hb, hml, hown, hts⟩ (c_Opener_openElement (l := l) (dC := dC) (dI := dI) (cB := cB) (cI := cI) (h0 := h0) (a1 := v5_12) (h0_input := h0_input) (h0_input_held := h0_input_held) (h0_to := h0_to) (h0_to_held := h0_to_held) (w_h0_words := (w_h0_words)) (w_h0_settings := (w_h0_settings)) (w_h0_blocks := (w_h0_blocks)) (h0_broken := g29) (h0_brokenAt := g30) (h0_at := g31) (h0_end := h0_end) (h0_begin := u1) (h0_copies := g26) (h0_literals := g27) (h0_parts := g28) (w_h0_frameBegin := (w_h0_frameBegin)) (w_h0_flags := (w_h0_flags)) (w_h0_width := (w_h0_width)) (w_h0_size := (w_h0_size)) (h0_input_count := h0_input_count) (h0_input_held_n := h0_input_held_n) (h0_input_held_f := h0_input_held_f) (h0_to_count := g32) (h0_to_held_n := h0_to_held_n) (h0_to_held_f := f25) (o_h0_broken := u35) (o_h0_brokenAt := u36) (o_h0_at := u37) (o_h0_copies := u38) (o_h0_literals := u39) (o_h0_parts := u40) (o_h0_to_count := u41) (o_h0_to_held_f := u42) (o_r := r34) hc) (wV kw_961 kw_963 kw_41 kw_92 kw_964) (by decide +kernel) ⟨Nat.le_of_ble_eq_true rfl, Nat.le_of_ble_eq_true rfl⟩ hK hP hD hN hT hS (va_free (wc := [(h0, .inr (5, [.ref h0_input, w_h0_words, w_h0_settings, .ref h0_to, w_h0_blocks, .int g29, .int g30, .int g31, .int h0_end, .int u1, .int g26, .int g27, .int g28, w_h0_frameBegin, w_h0_flags, w_h0_width, w_h0_size])), (h0_input, .inr (2, [.ref h0_input_held, .int h0_input_count])), (h0_input_held, .inl (cB, h0_input_held_n, .inl h0_input_held_f)), (h0_to, .inr (2, [.ref h0_to_held, .int g32])), (h0_to_held, .inl (cB, h0_to_held_n, .inl f25))]) hD hS hA [0, 2, 3, 1, 4] rfl) [0, 2, 3, 1, 4] rfl (by decide) rfl rfl rfl hl.1 rfl (lv_room (Nat.le_of_ble_eq_true rfl)) dX6_openElements_170 ⟨Nat.le_of_ble_eq_true rfl, Nat.le_of_ble_eq_true rfl⟩) hP hD hS hA (wr := []) (w1 := [(h0, .inr (5, [.ref h0_input, w_h0_words, w_h0_settings, .ref h0_to, w_h0_blocks, .int u35, .int u36, .int u37, .int h0_end, .int u1, .int u38, .int u39, .int u40, w_h0_frameBegin, w_h0_flags, w_h0_width, w_h0_size])), (h0_input, .inr (2, [.ref h0_input_held, .int h0_input_count])), (h0_input_held, .inl (cB, h0_input_held_n, .inl h0_input_held_f)), (h0_to, .inr (2, [.ref h0_to_held, .int u41])), (h0_to_held, .inl (cB, h0_to_held_n, .inl u42))]) (ws' := [(h0, .inr (5, [.ref h0_input, w_h0_words, w_h0_settings, .ref h0_to, w_h0_blocks, .int u35, .int u36, .int u37, .int h0_end, .int u1, .int u38, .int u39, .int u40, w_h0_frameBegin, w_h0_flags, w_h0_width, w_h0_size])), (h0_to, .inr (2, [.ref h0_to_held, .int u41])), (h0_input, .inr (2, [.ref h0_input_held, .int h0_input_count])), (h0_input_held, .inl (cB, h0_input_held_n, .inl h0_input_held_f)), (h0_to_held, .inl (cB, h0_to_held_n, .inl u42))]) [0, 2, 3, 1, 4] [] [0, 3, 1, 2, 4] rfl rfl (by decide) (by decide) rfl (by decide) (fun H locs hP hD hS => ?_)
                  refine lv_if_ne (tgt := 178) hx hb dX6_openElements_173 (by decide) (fun c_173 => ?_) (fun c_173 => ?_)
                  · replace hf := if_f c_173 hf
                    obtain ⟨v6_43, e_v6_43⟩ : ∃ y : Int32, y = (j6_33 + (1 : Int32)) := ⟨_, rfl⟩
                    replace hf := bnd_at e_v6_43 hf
                    refine lv_iinc (v := v6_43) (lv' := [(6, .int v6_43), (0, .ref h0), (5, .int v5_12)]) hx hb dX6_openElements_178 hl (k := 2) rfl (by rw [e_v6_43]; rfl) (by decide) rfl (fun ls hl => ?_)
                    refine lv_goto (tgt := 148) hx hb dX6_openElements_181 (by decide) ?_
                    exact ih_148 u42 u38 u39 u40 u35 u36 u37 u41 v6_43 _ _ _ (iter_back hf hr_148) hP hD hS (lv_sub hl [1, 2, 0] rfl)
                  · replace hf := if_t c_173 hf
                    refine lv_iconst (v := 0) hx hb dX6_openElements_176 (by decide) ?_
                    have hzb : narrow .boolean (.int (0 : Int32)) = .int (0 : Int32) := rfl
                    replace hf : some ((0 : Int32), u35, u36, u37, u1, u38, u39, u40, u41, u42) = some (o_r, o_h0_broken, o_h0_brokenAt, o_h0_at, o_h0_begin, o_h0_copies, o_h0_literals, o_h0_parts, o_h0_to_count, o_h0_to_held_f) := by have hq := hk_148; rw [iter_exit hf hr_148] at hq; exact hq
                    obtain ⟨rfl, hq_1⟩ := Prod.mk.inj (Option.some.inj hf)
                    obtain ⟨rfl, hq_2⟩ := Prod.mk.inj hq_1
                    obtain ⟨rfl, hq_3⟩ := Prod.mk.inj hq_2
                    obtain ⟨rfl, hq_4⟩ := Prod.mk.inj hq_3
                    obtain ⟨rfl, hq_5⟩ := Prod.mk.inj hq_4
                    obtain ⟨rfl, hq_6⟩ := Prod.mk.inj hq_5
                    obtain ⟨rfl, hq_7⟩ := Prod.mk.inj hq_6
                    obtain ⟨rfl, hq_8⟩ := Prod.mk.inj hq_7
                    obtain ⟨rfl, hq_9⟩ := Prod.mk.inj hq_8
                    obtain rfl := hq_9
                    exact rt_z hQ hx hb hr hzb hlocks hP hD hS dX6_openElements_177
          exact hL_148 FU h0_to_held_f u2 u3 u4 h0_broken h0_brokenAt g5 h0_to_count (0 : Int32) _ _ _ hi_148 hP hD hS (lv_sub hl [2, 1, 0] rfl)
        · replace hf := if_f c_125 hf
          refine lv_aload_n hx hb dX6_openElements_128 rfl (lv_at hl 0 rfl) ?_
          refine lv_bipush (v := 12) hx hb dX6_openElements_129 (by decide) ?_
          refine lv_iload_n hx hb dX6_openElements_131 rfl (lv_at hl 1 rfl) ?_
          obtain ⟨x, hc, hf⟩ := bind_some hf
          obtain ⟨r44, u45, u46⟩ := x
          dsimp only at hf
          refine nx_i (rn_V (As := [.int (12 : Int32), .int h0_at]) (rest := []) (n := 2) (ci := 5) (q0 := 0) ⟨hx, hb, hml, hown, hts⟩ (c_Opener_breaks (l := l) (dC := dC) (dI := dI) (cB := cB) (cI := cI) (h0 := h0) (a1 := (12 : Int32)) (a2 := h0_at) (w_h0_input := (.ref h0_input)) (w_h0_words := (w_h0_words)) (w_h0_settings := (w_h0_settings)) (w_h0_to := (.ref h0_to)) (w_h0_blocks := (w_h0_blocks)) (h0_broken := h0_broken) (h0_brokenAt := h0_brokenAt) (w_h0_at := (.int g5)) (w_h0_end := (.int h0_end)) (w_h0_begin := (.int u1)) (w_h0_copies := (.int u2)) (w_h0_literals := (.int u3)) (w_h0_parts := (.int u4)) (w_h0_frameBegin := (w_h0_frameBegin)) (w_h0_flags := (w_h0_flags)) (w_h0_width := (w_h0_width)) (w_h0_size := (w_h0_size)) (o_h0_broken := u45) (o_h0_brokenAt := u46) (o_r := r44) hc) (wV kw_871 kw_873 kw_26 kw_92 kw_874) (by decide +kernel) ⟨Nat.le_of_ble_eq_true rfl, Nat.le_of_ble_eq_true rfl⟩ hK hP hD hN hT hS (va_free (wc := [(h0, .inr (5, [.ref h0_input, w_h0_words, w_h0_settings, .ref h0_to, w_h0_blocks, .int h0_broken, .int h0_brokenAt, .int g5, .int h0_end, .int u1, .int u2, .int u3, .int u4, w_h0_frameBegin, w_h0_flags, w_h0_width, w_h0_size]))]) hD hS hA [0] rfl) [0] rfl (by decide) rfl rfl rfl hl.1 rfl (lv_room (Nat.le_of_ble_eq_true rfl)) dX6_openElements_132 ⟨Nat.le_of_ble_eq_true rfl, Nat.le_of_ble_eq_true rfl⟩) hP hD hS hA (wr := [(h0_to, .inr (2, [.ref h0_to_held, .int h0_to_count])), (h0_input, .inr (2, [.ref h0_input_held, .int h0_input_count])), (h0_input_held, .inl (cB, h0_input_held_n, .inl h0_input_held_f)), (h0_to_held, .inl (cB, h0_to_held_n, .inl h0_to_held_f))]) (w1 := [(h0, .inr (5, [.ref h0_input, w_h0_words, w_h0_settings, .ref h0_to, w_h0_blocks, .int u45, .int u46, .int g5, .int h0_end, .int u1, .int u2, .int u3, .int u4, w_h0_frameBegin, w_h0_flags, w_h0_width, w_h0_size]))]) (ws' := [(h0, .inr (5, [.ref h0_input, w_h0_words, w_h0_settings, .ref h0_to, w_h0_blocks, .int u45, .int u46, .int g5, .int h0_end, .int u1, .int u2, .int u3, .int u4, w_h0_frameBegin, w_h0_flags, w_h0_width, w_h0_size])), (h0_to, .inr (2, [.ref h0_to_held, .int h0_to_count])), (h0_input, .inr (2, [.ref h0_input_held, .int h0_input_count])), (h0_input_held, .inl (cB, h0_input_held_n, .inl h0_input_held_f)), (h0_to_held, .inl (cB, h0_to_held_n, .inl h0_to_held_f))]) [0] [1, 2, 3, 4] [4, 0, 1, 2, 3] rfl rfl (by decide) (by decide) rfl (by decide) (fun H locs hP hD hS => ?_)
          obtain ⟨hzb, hf⟩ := bch_some hf
          obtain ⟨rfl, hq_1⟩ := Prod.mk.inj (Option.some.inj hf)
          obtain ⟨rfl, hq_2⟩ := Prod.mk.inj hq_1
          obtain ⟨rfl, hq_3⟩ := Prod.mk.inj hq_2
          obtain ⟨rfl, hq_4⟩ := Prod.mk.inj hq_3
          obtain ⟨rfl, hq_5⟩ := Prod.mk.inj hq_4
          obtain ⟨rfl, hq_6⟩ := Prod.mk.inj hq_5
          obtain ⟨rfl, hq_7⟩ := Prod.mk.inj hq_6
          obtain ⟨rfl, hq_8⟩ := Prod.mk.inj hq_7
          obtain ⟨rfl, hq_9⟩ := Prod.mk.inj hq_8
          obtain rfl := hq_9
          exact rt_z hQ hx hb hr hzb hlocks hP hD hS dX6_openElements_135
      · replace hf := if_f c_109 hf
        exact hJ_112  _ _ _ hf hP hD hS (lv_sub hl [0, 1] rfl)
  obtain ⟨o_19, hi_19, hk_19⟩ := bind_some hf
  have hL_19 : ∀ (n : Nat) (g47 : Int32) (j2_48 : Int64) (j4_49 : Int32) (j5_50 : Int32) (H : Heap) (locs : List Loc) (ls : Array Slot), iter (fun st => m_Opener_openElements_B19 h0_end h0_to_count h0_input_count h0_input_held_n h0_input_held_f h0_to_held_f u1 u2 u3 u4 st.1 st.2.1 st.2.2.1 st.2.2.2) n (g47, j2_48, j4_49, j5_50) = some o_19 → va_P (dC, dI) vwCl [(h0, .inr (5, [.ref h0_input, w_h0_words, w_h0_settings, .ref h0_to, w_h0_blocks, .int h0_broken, .int h0_brokenAt, .int g47, .int h0_end, .int u1, .int u2, .int u3, .int u4, w_h0_frameBegin, w_h0_flags, w_h0_width, w_h0_size])), (h0_to, .inr (2, [.ref h0_to_held, .int h0_to_count])), (h0_input, .inr (2, [.ref h0_input_held, .int h0_input_count])), (h0_input_held, .inl (cB, h0_input_held_n, .inl h0_input_held_f)), (h0_to_held, .inl (cB, h0_to_held_n, .inl h0_to_held_f))] H → va_D A [(h0, .inr (5, [.ref h0_input, w_h0_words, w_h0_settings, .ref h0_to, w_h0_blocks, .int h0_broken, .int h0_brokenAt, .int g47, .int h0_end, .int u1, .int u2, .int u3, .int u4, w_h0_frameBegin, w_h0_flags, w_h0_width, w_h0_size])), (h0_to, .inr (2, [.ref h0_to_held, .int h0_to_count])), (h0_input, .inr (2, [.ref h0_input_held, .int h0_input_count])), (h0_input_held, .inl (cB, h0_input_held_n, .inl h0_input_held_f)), (h0_to_held, .inl (cB, h0_to_held_n, .inl h0_to_held_f))] → va_S A s.heap H locs → lv_has ls 7 [(0, .ref h0), (1, .int h0_at), (2, .long j2_48), (4, .int j4_49), (5, .int j5_50)] → W p l e (rm_Opener_openElements) s m ([.ref h0] : List Value).toArray below meth c H locs 0 0 Q (F0 m 19 ls []) := by
    intro n
    induction n with
    | zero => intro g47 j2_48 j4_49 j5_50 H locs ls hf; exact absurd hf (fun z => by cases z)
    | succ n ih_19 =>
      intro g47 j2_48 j4_49 j5_50 H locs ls hf hP hD hS hl
      obtain ⟨r_19, hf, hr_19⟩ := iter_succ hf
      have hf : m_Opener_openElements_B19 h0_end h0_to_count h0_input_count h0_input_held_n h0_input_held_f h0_to_held_f u1 u2 u3 u4 g47 j2_48 j4_49 j5_50 = some r_19 := hf
      unfold m_Opener_openElements_B19 at hf
      refine lv_iload hx hb dX6_openElements_19 (lv_at hl 4 rfl) ?_
      refine lv_iconst (v := 5) hx hb dX6_openElements_21 (by decide) ?_
      refine lv_icmp_ge (tgt := 96) hx hb dX6_openElements_22 (by decide) (fun c_22 => ?_) (fun c_22 => ?_)
      · replace hf := if_t c_22 hf
        have hf : m_Opener_openElements_E96 h0_broken h0_brokenAt h0_at h0_end h0_to_count h0_input_count h0_input_held_n h0_input_held_f h0_to_held_n h0_to_held_f u1 u2 u3 u4 g47 j2_48 j4_49 = some (o_r, o_h0_broken, o_h0_brokenAt, o_h0_at, o_h0_begin, o_h0_copies, o_h0_literals, o_h0_parts, o_h0_to_count, o_h0_to_held_f) := by have hq := hk_19; rw [iter_exit hf hr_19] at hq; exact hq
        exact hJ_96 g47 j2_48 j4_49 _ _ _ hf hP hD hS (lv_sub hl [0, 1, 2, 3] rfl)
      · replace hf := if_f c_22 hf
        refine lv_iload hx hb dX6_openElements_25 (lv_at hl 3 rfl) ?_
        refine lv_sipush (v := 128) hx hb dX6_openElements_27 (by decide) ?_
        refine lv_icmp_lt (tgt := 96) hx hb dX6_openElements_30 (by decide) (fun c_30 => ?_) (fun c_30 => ?_)
        · replace hf := if_t c_30 hf
          have hf : m_Opener_openElements_E96 h0_broken h0_brokenAt h0_at h0_end h0_to_count h0_input_count h0_input_held_n h0_input_held_f h0_to_held_n h0_to_held_f u1 u2 u3 u4 g47 j2_48 j4_49 = some (o_r, o_h0_broken, o_h0_brokenAt, o_h0_at, o_h0_begin, o_h0_copies, o_h0_literals, o_h0_parts, o_h0_to_count, o_h0_to_held_f) := by have hq := hk_19; rw [iter_exit hf hr_19] at hq; exact hq
          exact hJ_96 g47 j2_48 j4_49 _ _ _ hf hP hD hS (lv_sub hl [0, 1, 2, 3] rfl)
        · replace hf := if_f c_30 hf
          refine lv_aload_n hx hb dX6_openElements_33 rfl (lv_at hl 0 rfl) ?_
          refine lv_iconst (v := 1) hx hb dX6_openElements_34 (by decide) ?_
          obtain ⟨r51, hc, hf⟩ := bind_some hf
          refine nx_i (rn_V (As := [.int (1 : Int32)]) (rest := []) (n := 1) (ci := 5) (q0 := 0) ⟨hx, hb, hml, hown, hts⟩ (c_Opener_lacks (l := l) (dC := dC) (dI := dI) (cB := cB) (cI := cI) (h0 := h0) (a1 := (1 : Int32)) (w_h0_input := (.ref h0_input)) (w_h0_words := (w_h0_words)) (w_h0_settings := (w_h0_settings)) (w_h0_to := (.ref h0_to)) (w_h0_blocks := (w_h0_blocks)) (w_h0_broken := (.int h0_broken)) (w_h0_brokenAt := (.int h0_brokenAt)) (h0_at := g47) (h0_end := h0_end) (w_h0_begin := (.int u1)) (w_h0_copies := (.int u2)) (w_h0_literals := (.int u3)) (w_h0_parts := (.int u4)) (w_h0_frameBegin := (w_h0_frameBegin)) (w_h0_flags := (w_h0_flags)) (w_h0_width := (w_h0_width)) (w_h0_size := (w_h0_size))  (o_r := r51) hc) (wV kw_867 kw_869 kw_25 kw_92 kw_870) (by decide +kernel) ⟨Nat.le_of_ble_eq_true rfl, Nat.le_of_ble_eq_true rfl⟩ hK hP hD hN hT hS (va_free (wc := [(h0, .inr (5, [.ref h0_input, w_h0_words, w_h0_settings, .ref h0_to, w_h0_blocks, .int h0_broken, .int h0_brokenAt, .int g47, .int h0_end, .int u1, .int u2, .int u3, .int u4, w_h0_frameBegin, w_h0_flags, w_h0_width, w_h0_size]))]) hD hS hA [0] rfl) [0] rfl (by decide) rfl rfl rfl hl.1 rfl (lv_room (Nat.le_of_ble_eq_true rfl)) dX6_openElements_35 ⟨Nat.le_of_ble_eq_true rfl, Nat.le_of_ble_eq_true rfl⟩) hP hD hS hA (wr := [(h0_to, .inr (2, [.ref h0_to_held, .int h0_to_count])), (h0_input, .inr (2, [.ref h0_input_held, .int h0_input_count])), (h0_input_held, .inl (cB, h0_input_held_n, .inl h0_input_held_f)), (h0_to_held, .inl (cB, h0_to_held_n, .inl h0_to_held_f))]) (w1 := [(h0, .inr (5, [.ref h0_input, w_h0_words, w_h0_settings, .ref h0_to, w_h0_blocks, .int h0_broken, .int h0_brokenAt, .int g47, .int h0_end, .int u1, .int u2, .int u3, .int u4, w_h0_frameBegin, w_h0_flags, w_h0_width, w_h0_size]))]) (ws' := [(h0, .inr (5, [.ref h0_input, w_h0_words, w_h0_settings, .ref h0_to, w_h0_blocks, .int h0_broken, .int h0_brokenAt, .int g47, .int h0_end, .int u1, .int u2, .int u3, .int u4, w_h0_frameBegin, w_h0_flags, w_h0_width, w_h0_size])), (h0_to, .inr (2, [.ref h0_to_held, .int h0_to_count])), (h0_input, .inr (2, [.ref h0_input_held, .int h0_input_count])), (h0_input_held, .inl (cB, h0_input_held_n, .inl h0_input_held_f)), (h0_to_held, .inl (cB, h0_to_held_n, .inl h0_to_held_f))]) [0] [1, 2, 3, 4] [4, 0, 1, 2, 3] rfl rfl (by decide) (by decide) rfl (by decide) (fun H locs hP hD hS => ?_)
          refine lv_if_eq (tgt := 51) hx hb dX6_openElements_38 (by decide) (fun c_38 => ?_) (fun c_38 => ?_)
          · replace hf := if_t c_38 hf
            refine lv_aload_n hx hb dX6_openElements_51 rfl (lv_at hl 0 rfl) ?_
            refine va_get (D := (dC, dI)) (ci := 5) (v := .ref h0_input) (C := RX6) (T := TX6) (N := 17) hx hb hts inG_X6 hown hK hP 0 rfl rfl 0 (by decide) (hts _ kw_289) (fun _ h9 => h9) rfl dX6_openElements_52 ?_
            refine lv_aload_n hx hb dX6_openElements_55 rfl (lv_at hl 0 rfl) ?_
            refine va_get (D := (dC, dI)) (ci := 5) (v := .int g47) (C := RX6) (T := TX6) (N := 17) hx hb hts inG_X6 hown hK hP 0 rfl rfl 7 (by decide) (hts _ kw_296) (fun _ h9 => h9) rfl dX6_openElements_56 ?_
            obtain ⟨r52, hc, hf⟩ := bind_some hf
            refine nx_i (rn_V (As := [.int g47]) (rest := []) (n := 1) (ci := 2) (q0 := 0) ⟨hx, hb, hml, hown, hts⟩ (c_Bytes_at (l := l) (dC := dC) (dI := dI) (cB := cB) (cI := cI) (h0 := h0_input) (a1 := g47) (h0_held := h0_input_held) (h0_count := h0_input_count) (h0_held_n := h0_input_held_n) (h0_held_f := h0_input_held_f)  (o_r := r52) hc) (wV kw_862 kw_418 kw_419 kw_83 kw_420) (by decide +kernel) ⟨Nat.le_of_ble_eq_true rfl, Nat.le_of_ble_eq_true rfl⟩ hK hP hD hN hT hS (va_free (wc := [(h0_input, .inr (2, [.ref h0_input_held, .int h0_input_count])), (h0_input_held, .inl (cB, h0_input_held_n, .inl h0_input_held_f))]) hD hS hA [2, 3] rfl) [2, 3] rfl (by decide) rfl rfl rfl hl.1 rfl (lv_room (Nat.le_of_ble_eq_true rfl)) dX6_openElements_59 ⟨Nat.le_of_ble_eq_true rfl, Nat.le_of_ble_eq_true rfl⟩) hP hD hS hA (wr := [(h0, .inr (5, [.ref h0_input, w_h0_words, w_h0_settings, .ref h0_to, w_h0_blocks, .int h0_broken, .int h0_brokenAt, .int g47, .int h0_end, .int u1, .int u2, .int u3, .int u4, w_h0_frameBegin, w_h0_flags, w_h0_width, w_h0_size])), (h0_to, .inr (2, [.ref h0_to_held, .int h0_to_count])), (h0_to_held, .inl (cB, h0_to_held_n, .inl h0_to_held_f))]) (w1 := [(h0_input, .inr (2, [.ref h0_input_held, .int h0_input_count])), (h0_input_held, .inl (cB, h0_input_held_n, .inl h0_input_held_f))]) (ws' := [(h0, .inr (5, [.ref h0_input, w_h0_words, w_h0_settings, .ref h0_to, w_h0_blocks, .int h0_broken, .int h0_brokenAt, .int g47, .int h0_end, .int u1, .int u2, .int u3, .int u4, w_h0_frameBegin, w_h0_flags, w_h0_width, w_h0_size])), (h0_to, .inr (2, [.ref h0_to_held, .int h0_to_count])), (h0_input, .inr (2, [.ref h0_input_held, .int h0_input_count])), (h0_input_held, .inl (cB, h0_input_held_n, .inl h0_input_held_f)), (h0_to_held, .inl (cB, h0_to_held_n, .inl h0_to_held_f))]) [2, 3] [0, 1, 4] [0, 1, 3, 4, 2] rfl rfl (by decide) (by decide) rfl (by decide) (fun H locs hP hD hS => ?_)
            refine lv_istore (lv' := [(4, .int r52), (0, .ref h0), (1, .int h0_at), (2, .long j2_48), (5, .int j5_50)]) hx hb dX6_openElements_62 hl (by decide) rfl (fun ls hl => ?_)
            refine lv_lload_n hx hb dX6_openElements_64 rfl (lv_at hl 3 rfl) ?_
            refine lv_iload hx hb dX6_openElements_65 (lv_at hl 0 rfl) ?_
            refine lv_sipush (v := 128) hx hb dX6_openElements_67 (by decide) ?_
            refine lv_irem hx hb dX6_openElements_70 (by decide) ?_
            refine lv_i2l (v := ((irem r52 (128 : Int32)).toInt64)) hx hb dX6_openElements_71 rfl ?_
            refine lv_bipush (v := 7) hx hb dX6_openElements_72 (by decide) ?_
            refine lv_iload hx hb dX6_openElements_74 (lv_at hl 4 rfl) ?_
            refine lv_imul hx hb dX6_openElements_76 ?_
            refine lv_lshl (v := (lshl ((irem r52 (128 : Int32)).toInt64) ((7 : Int32) * j5_50))) hx hb dX6_openElements_77 rfl ?_
            refine lv_ladd hx hb dX6_openElements_78 ?_
            refine lv_topl (fun v2_53 e_v2_53 => ?_)
            replace hf := bnd_at e_v2_53 hf
            refine lv_lstore_n (lv' := [(2, .long v2_53), (4, .int r52), (0, .ref h0), (1, .int h0_at), (5, .int j5_50)]) hx hb dX6_openElements_79 rfl hl (by decide) rfl (fun ls hl => ?_)
            refine lv_aload_n hx hb dX6_openElements_80 rfl (lv_at hl 2 rfl) ?_
            refine lv_dup hx hb dX6_openElements_81 rfl ?_
            refine va_get (D := (dC, dI)) (ci := 5) (v := .int g47) (C := RX6) (T := TX6) (N := 17) hx hb hts inG_X6 hown hK hP 0 rfl rfl 7 (by decide) (hts _ kw_296) (fun _ h9 => h9) rfl dX6_openElements_82 ?_
            refine lv_iconst (v := 1) hx hb dX6_openElements_85 (by decide) ?_
            refine lv_iadd hx hb dX6_openElements_86 ?_
            refine lv_topi (fun p_54 e_p_54 => ?_)
            replace hf := bnd_at e_p_54 hf
            refine va_put (D := (dC, dI)) (ci := 5) (v := .int p_54) (ty := .int) (C := RX6) (T := TX6) (N := 17) hx hb hts inG_X6 tyX6 tyX6_ok nmX6 hown hK hP hD hS 0 rfl rfl 7 (by decide) (hts _ kw_296) (fun _ h9 => h9) rfl (by decide +kernel) rfl rfl (Nat.le_of_ble_eq_true rfl) dX6_openElements_87 (fun H locs hP hD hS => ?_)
            have hP : va_P (dC, dI) vwCl [(h0, .inr (5, [.ref h0_input, w_h0_words, w_h0_settings, .ref h0_to, w_h0_blocks, .int h0_broken, .int h0_brokenAt, .int p_54, .int h0_end, .int u1, .int u2, .int u3, .int u4, w_h0_frameBegin, w_h0_flags, w_h0_width, w_h0_size])), (h0_to, .inr (2, [.ref h0_to_held, .int h0_to_count])), (h0_input, .inr (2, [.ref h0_input_held, .int h0_input_count])), (h0_input_held, .inl (cB, h0_input_held_n, .inl h0_input_held_f)), (h0_to_held, .inl (cB, h0_to_held_n, .inl h0_to_held_f))] H := hP
            have hD : va_D A [(h0, .inr (5, [.ref h0_input, w_h0_words, w_h0_settings, .ref h0_to, w_h0_blocks, .int h0_broken, .int h0_brokenAt, .int p_54, .int h0_end, .int u1, .int u2, .int u3, .int u4, w_h0_frameBegin, w_h0_flags, w_h0_width, w_h0_size])), (h0_to, .inr (2, [.ref h0_to_held, .int h0_to_count])), (h0_input, .inr (2, [.ref h0_input_held, .int h0_input_count])), (h0_input_held, .inl (cB, h0_input_held_n, .inl h0_input_held_f)), (h0_to_held, .inl (cB, h0_to_held_n, .inl h0_to_held_f))] := hD
            obtain ⟨v5_55, e_v5_55⟩ : ∃ y : Int32, y = (j5_50 + (1 : Int32)) := ⟨_, rfl⟩
            replace hf := bnd_at e_v5_55 hf
            refine lv_iinc (v := v5_55) (lv' := [(5, .int v5_55), (2, .long v2_53), (4, .int r52), (0, .ref h0), (1, .int h0_at)]) hx hb dX6_openElements_90 hl (k := 4) rfl (by rw [e_v5_55]; rfl) (by decide) rfl (fun ls hl => ?_)
            refine lv_goto (tgt := 19) hx hb dX6_openElements_93 (by decide) ?_
            exact ih_19 p_54 v2_53 r52 v5_55 _ _ _ (iter_back hf hr_19) hP hD hS (lv_sub hl [3, 4, 1, 2, 0] rfl)
          · replace hf := if_f c_38 hf
            refine lv_aload_n hx hb dX6_openElements_41 rfl (lv_at hl 0 rfl) ?_
            refine lv_iconst (v := 1) hx hb dX6_openElements_42 (by decide) ?_
            refine lv_aload_n hx hb dX6_openElements_43 rfl (lv_at hl 0 rfl) ?_
            refine va_get (D := (dC, dI)) (ci := 5) (v := .int h0_end) (C := RX6) (T := TX6) (N := 17) hx hb hts inG_X6 hown hK hP 0 rfl rfl 8 (by decide) (hts _ kw_297) (fun _ h9 => h9) rfl dX6_openElements_44 ?_
            obtain ⟨x, hc, hf⟩ := bind_some hf
            obtain ⟨r56, u57, u58⟩ := x
            dsimp only at hf
            refine nx_i (rn_V (As := [.int (1 : Int32), .int h0_end]) (rest := []) (n := 2) (ci := 5) (q0 := 0) ⟨hx, hb, hml, hown, hts⟩ (c_Opener_breaks (l := l) (dC := dC) (dI := dI) (cB := cB) (cI := cI) (h0 := h0) (a1 := (1 : Int32)) (a2 := h0_end) (w_h0_input := (.ref h0_input)) (w_h0_words := (w_h0_words)) (w_h0_settings := (w_h0_settings)) (w_h0_to := (.ref h0_to)) (w_h0_blocks := (w_h0_blocks)) (h0_broken := h0_broken) (h0_brokenAt := h0_brokenAt) (w_h0_at := (.int g47)) (w_h0_end := (.int h0_end)) (w_h0_begin := (.int u1)) (w_h0_copies := (.int u2)) (w_h0_literals := (.int u3)) (w_h0_parts := (.int u4)) (w_h0_frameBegin := (w_h0_frameBegin)) (w_h0_flags := (w_h0_flags)) (w_h0_width := (w_h0_width)) (w_h0_size := (w_h0_size)) (o_h0_broken := u57) (o_h0_brokenAt := u58) (o_r := r56) hc) (wV kw_871 kw_873 kw_26 kw_92 kw_874) (by decide +kernel) ⟨Nat.le_of_ble_eq_true rfl, Nat.le_of_ble_eq_true rfl⟩ hK hP hD hN hT hS (va_free (wc := [(h0, .inr (5, [.ref h0_input, w_h0_words, w_h0_settings, .ref h0_to, w_h0_blocks, .int h0_broken, .int h0_brokenAt, .int g47, .int h0_end, .int u1, .int u2, .int u3, .int u4, w_h0_frameBegin, w_h0_flags, w_h0_width, w_h0_size]))]) hD hS hA [0] rfl) [0] rfl (by decide) rfl rfl rfl hl.1 rfl (lv_room (Nat.le_of_ble_eq_true rfl)) dX6_openElements_47 ⟨Nat.le_of_ble_eq_true rfl, Nat.le_of_ble_eq_true rfl⟩) hP hD hS hA (wr := [(h0_to, .inr (2, [.ref h0_to_held, .int h0_to_count])), (h0_input, .inr (2, [.ref h0_input_held, .int h0_input_count])), (h0_input_held, .inl (cB, h0_input_held_n, .inl h0_input_held_f)), (h0_to_held, .inl (cB, h0_to_held_n, .inl h0_to_held_f))]) (w1 := [(h0, .inr (5, [.ref h0_input, w_h0_words, w_h0_settings, .ref h0_to, w_h0_blocks, .int u57, .int u58, .int g47, .int h0_end, .int u1, .int u2, .int u3, .int u4, w_h0_frameBegin, w_h0_flags, w_h0_width, w_h0_size]))]) (ws' := [(h0, .inr (5, [.ref h0_input, w_h0_words, w_h0_settings, .ref h0_to, w_h0_blocks, .int u57, .int u58, .int g47, .int h0_end, .int u1, .int u2, .int u3, .int u4, w_h0_frameBegin, w_h0_flags, w_h0_width, w_h0_size])), (h0_to, .inr (2, [.ref h0_to_held, .int h0_to_count])), (h0_input, .inr (2, [.ref h0_input_held, .int h0_input_count])), (h0_input_held, .inl (cB, h0_input_held_n, .inl h0_input_held_f)), (h0_to_held, .inl (cB, h0_to_held_n, .inl h0_to_held_f))]) [0] [1, 2, 3, 4] [4, 0, 1, 2, 3] rfl rfl (by decide) (by decide) rfl (by decide) (fun H locs hP hD hS => ?_)
            obtain ⟨hzb, hf⟩ := bch_some hf
            replace hf : some (r56, u57, u58, g47, u1, u2, u3, u4, h0_to_count, h0_to_held_f) = some (o_r, o_h0_broken, o_h0_brokenAt, o_h0_at, o_h0_begin, o_h0_copies, o_h0_literals, o_h0_parts, o_h0_to_count, o_h0_to_held_f) := by have hq := hk_19; rw [iter_exit hf hr_19] at hq; exact hq
            obtain ⟨rfl, hq_1⟩ := Prod.mk.inj (Option.some.inj hf)
            obtain ⟨rfl, hq_2⟩ := Prod.mk.inj hq_1
            obtain ⟨rfl, hq_3⟩ := Prod.mk.inj hq_2
            obtain ⟨rfl, hq_4⟩ := Prod.mk.inj hq_3
            obtain ⟨rfl, hq_5⟩ := Prod.mk.inj hq_4
            obtain ⟨rfl, hq_6⟩ := Prod.mk.inj hq_5
            obtain ⟨rfl, hq_7⟩ := Prod.mk.inj hq_6
            obtain ⟨rfl, hq_8⟩ := Prod.mk.inj hq_7
            obtain ⟨rfl, hq_9⟩ := Prod.mk.inj hq_8
            obtain rfl := hq_9
            exact rt_z hQ hx hb hr hzb hlocks hP hD hS dX6_openElements_50
  exact hL_19 FU h0_at (0 : Int64) (128 : Int32) (0 : Int32) _ _ _ hi_19 hP hD hS (lv_sub hl [4, 3, 2, 1, 0] rfl)

theorem dX6_openWholeElements_0 : decode cX6_openWholeElements 0 = .ok (.aload_n 0, 1) := by decide +kernel
theorem dX6_openWholeElements_1 : decode cX6_openWholeElements 1 = .ok (.invokevirtual 64, 3) := by decide +kernel
theorem dX6_openWholeElements_4 : decode cX6_openWholeElements 4 = .ok (.ifCond .ne 5, 3) := by decide +kernel
theorem dX6_openWholeElements_7 : decode cX6_openWholeElements 7 = .ok (.iconst 0, 1) := by decide +kernel
theorem dX6_openWholeElements_8 : decode cX6_openWholeElements 8 = .ok (.ireturn, 1) := by decide +kernel
theorem dX6_openWholeElements_9 : decode cX6_openWholeElements 9 = .ok (.aload_n 0, 1) := by decide +kernel
theorem dX6_openWholeElements_10 : decode cX6_openWholeElements 10 = .ok (.iconst 0, 1) := by decide +kernel
theorem dX6_openWholeElements_11 : decode cX6_openWholeElements 11 = .ok (.invokevirtual 61, 3) := by decide +kernel
theorem dX6_openWholeElements_14 : decode cX6_openWholeElements 14 = .ok (.iconst 1, 1) := by decide +kernel
theorem dX6_openWholeElements_15 : decode cX6_openWholeElements 15 = .ok (.ireturn, 1) := by decide +kernel
def m_Opener_openWholeElements (h0_broken : Int32) (h0_brokenAt : Int32) (h0_at : Int32) (h0_end : Int32) (h0_input_count : Int32) (h0_to_count : Int32) (h0_input_held_n : Nat) (h0_input_held_f : Nat → Int32) (h0_to_held_n : Nat) (h0_to_held_f : Nat → Int32) (h0_blocks_count : Int32) (h0_blocks_facts_n : Nat) (h0_blocks_facts_f : Nat → Int32) : Option (Int32 × Int32 × Int32 × Int32 × Int32 × Int32 × Int32 × Int32 × Int32 × (Nat → Int32) × Int32 × (Nat → Int32)) :=
  (m_Opener_openElements h0_broken h0_brokenAt h0_at h0_end h0_to_count h0_input_count h0_input_held_n h0_input_held_f h0_to_held_n h0_to_held_f).bind fun (r1, u2, u3, u4, u5, u6, u7, u8, u9, u10) =>
  if r1 = 0 then
    some ((0 : Int32), u2, u3, u4, u5, u6, u7, u8, u9, u10, h0_blocks_count, h0_blocks_facts_f)
  else
    (m_Opener_addPackedBlock (0 : Int32) u4 u5 u6 u7 u8 u9 h0_blocks_count h0_blocks_facts_n h0_blocks_facts_f).bind fun (u11, u12) =>
    some ((1 : Int32), u2, u3, u4, u5, u6, u7, u8, u9, u10, u11, u12)
def rm_Opener_openWholeElements : Room := { frames := 5, cells := 0, slots := 0, locals := 140 }
set_option maxHeartbeats 4000000 in
set_option maxRecDepth 100000 in
theorem c_Opener_openWholeElements {l : Launch} {dC : Nat → ClassId} {dI : Nat → Nat → Nat} {cB cI : ClassId} {sz : Nat} {h0 : Nat} {h0_input : Nat} {h0_to : Nat} {h0_input_held : Nat} {h0_to_held : Nat} {h0_blocks : Nat} {h0_blocks_facts : Nat} {w_h0_words : Value} {w_h0_settings : Value} {h0_broken : Int32} {h0_brokenAt : Int32} {h0_at : Int32} {h0_end : Int32} {h0_begin : Int32} {h0_copies : Int32} {h0_literals : Int32} {h0_parts : Int32} {w_h0_frameBegin : Value} {w_h0_flags : Value} {w_h0_width : Value} {w_h0_size : Value} {h0_input_count : Int32} {h0_to_count : Int32} {h0_input_held_n : Nat} {h0_input_held_f : Nat → Int32} {h0_to_held_n : Nat} {h0_to_held_f : Nat → Int32} {h0_blocks_count : Int32} {h0_blocks_facts_n : Nat} {h0_blocks_facts_f : Nat → Int32} {o_r : Int32} {o_h0_broken : Int32} {o_h0_brokenAt : Int32} {o_h0_at : Int32} {o_h0_begin : Int32} {o_h0_copies : Int32} {o_h0_literals : Int32} {o_h0_parts : Int32} {o_h0_to_count : Int32} {o_h0_to_held_f : Nat → Int32} {o_h0_blocks_count : Int32} {o_h0_blocks_facts_f : Nat → Int32} (hf : m_Opener_openWholeElements h0_broken h0_brokenAt h0_at h0_end h0_input_count h0_to_count h0_input_held_n h0_input_held_f h0_to_held_n h0_to_held_f h0_blocks_count h0_blocks_facts_n h0_blocks_facts_f = some (o_r, o_h0_broken, o_h0_brokenAt, o_h0_at, o_h0_begin, o_h0_copies, o_h0_literals, o_h0_parts, o_h0_to_count, o_h0_to_held_f, o_h0_blocks_count, o_h0_blocks_facts_f)) : Met l yX6_openWholeElements (Cond.code yX6_openWholeElements cX6_openWholeElements 1 (some .boolean) :: lw_G) rm_Opener_openWholeElements (PreC (dC, dI) [(cB, .byte), (cI, .int)] [.ref h0] sz [(h0, .inr (5, [.ref h0_input, w_h0_words, w_h0_settings, .ref h0_to, .ref h0_blocks, .int h0_broken, .int h0_brokenAt, .int h0_at, .int h0_end, .int h0_begin, .int h0_copies, .int h0_literals, .int h0_parts, w_h0_frameBegin, w_h0_flags, w_h0_width, w_h0_size])), (h0_input, .inr (2, [.ref h0_input_held, .int h0_input_count])), (h0_to, .inr (2, [.ref h0_to_held, .int h0_to_count])), (h0_input_held, .inl (cB, h0_input_held_n, .inl h0_input_held_f)), (h0_to_held, .inl (cB, h0_to_held_n, .inl h0_to_held_f)), (h0_blocks, .inr (1, [.ref h0_blocks_facts, .int h0_blocks_count])), (h0_blocks_facts, .inl (cI, h0_blocks_facts_n, .inl h0_blocks_facts_f))]) (QcI o_r (dC, dI) [(h0, .inr (5, [.ref h0_input, w_h0_words, w_h0_settings, .ref h0_to, .ref h0_blocks, .int o_h0_broken, .int o_h0_brokenAt, .int o_h0_at, .int h0_end, .int o_h0_begin, .int o_h0_copies, .int o_h0_literals, .int o_h0_parts, w_h0_frameBegin, w_h0_flags, w_h0_width, w_h0_size])), (h0_input, .inr (2, [.ref h0_input_held, .int h0_input_count])), (h0_to, .inr (2, [.ref h0_to_held, .int o_h0_to_count])), (h0_input_held, .inl (cB, h0_input_held_n, .inl h0_input_held_f)), (h0_to_held, .inl (cB, h0_to_held_n, .inl o_h0_to_held_f)), (h0_blocks, .inr (1, [.ref h0_blocks_facts, .int o_h0_blocks_count])), (h0_blocks_facts, .inl (cI, h0_blocks_facts_n, .inl o_h0_blocks_facts_f))] (va_A [(h0, .inr (5, [.ref h0_input, w_h0_words, w_h0_settings, .ref h0_to, .ref h0_blocks, .int h0_broken, .int h0_brokenAt, .int h0_at, .int h0_end, .int h0_begin, .int h0_copies, .int h0_literals, .int h0_parts, w_h0_frameBegin, w_h0_flags, w_h0_width, w_h0_size])), (h0_input, .inr (2, [.ref h0_input_held, .int h0_input_count])), (h0_to, .inr (2, [.ref h0_to_held, .int h0_to_count])), (h0_input_held, .inl (cB, h0_input_held_n, .inl h0_input_held_f)), (h0_to_held, .inl (cB, h0_to_held_n, .inl h0_to_held_f)), (h0_blocks, .inr (1, [.ref h0_blocks_facts, .int h0_blocks_count])), (h0_blocks_facts, .inl (cI, h0_blocks_facts_n, .inl h0_blocks_facts_f))] sz)) 0 0 (va_A [(h0, .inr (5, [.ref h0_input, w_h0_words, w_h0_settings, .ref h0_to, .ref h0_blocks, .int h0_broken, .int h0_brokenAt, .int h0_at, .int h0_end, .int h0_begin, .int h0_copies, .int h0_literals, .int h0_parts, w_h0_frameBegin, w_h0_flags, w_h0_width, w_h0_size])), (h0_input, .inr (2, [.ref h0_input_held, .int h0_input_count])), (h0_to, .inr (2, [.ref h0_to_held, .int h0_to_count])), (h0_input_held, .inl (cB, h0_input_held_n, .inl h0_input_held_f)), (h0_to_held, .inl (cB, h0_to_held_n, .inl h0_to_held_f)), (h0_blocks, .inr (1, [.ref h0_blocks_facts, .int h0_blocks_count])), (h0_blocks_facts, .inl (cI, h0_blocks_facts_n, .inl h0_blocks_facts_f))] sz) := by
  refine met_of (Qf := fun A => QcI o_r (dC, dI) [(h0, .inr (5, [.ref h0_input, w_h0_words, w_h0_settings, .ref h0_to, .ref h0_blocks, .int o_h0_broken, .int o_h0_brokenAt, .int o_h0_at, .int h0_end, .int o_h0_begin, .int o_h0_copies, .int o_h0_literals, .int o_h0_parts, w_h0_frameBegin, w_h0_flags, w_h0_width, w_h0_size])), (h0_input, .inr (2, [.ref h0_input_held, .int h0_input_count])), (h0_to, .inr (2, [.ref h0_to_held, .int o_h0_to_count])), (h0_input_held, .inl (cB, h0_input_held_n, .inl h0_input_held_f)), (h0_to_held, .inl (cB, h0_to_held_n, .inl o_h0_to_held_f)), (h0_blocks, .inr (1, [.ref h0_blocks_facts, .int o_h0_blocks_count])), (h0_blocks_facts, .inl (cI, h0_blocks_facts_n, .inl o_h0_blocks_facts_f))] A) (by decide) (Nat.le_of_ble_eq_true rfl) ?_
  intro p e s m below meth c A ls Q hx hb hr hml hown hts hlocks hnm hP hK hD hN hT hA hl hQ
  have hown : s.vm.findClass RX6 = some m.cls := hown
  have hS : va_S A s.heap s.heap [] := va_S.rf
  have hl : lv_has ls 1 [(0, .ref h0)] := hl
  unfold m_Opener_openWholeElements at hf
  refine lv_aload_n hx hb dX6_openWholeElements_0 rfl (lv_at hl 0 rfl) ?_
  obtain ⟨x, hc, hf⟩ := bind_some hf
  obtain ⟨r1, u2, u3, u4, u5, u6, u7, u8, u9, u10⟩ := x
  dsimp only at hf
  refine nx_i (rn_V (As := []) (rest := []) (n := 0) (ci := 5) (q0 := 0) ⟨hx, hb, hml, hown, hts⟩ (c_Opener_openElements (l := l) (dC := dC) (dI := dI) (cB := cB) (cI := cI) (h0 := h0) (h0_to := h0_to) (h0_input := h0_input) (h0_input_held := h0_input_held) (h0_to_held := h0_to_held) (w_h0_words := (w_h0_words)) (w_h0_settings := (w_h0_settings)) (w_h0_blocks := (.ref h0_blocks)) (h0_broken := h0_broken) (h0_brokenAt := h0_brokenAt) (h0_at := h0_at) (h0_end := h0_end) (h0_begin := h0_begin) (h0_copies := h0_copies) (h0_literals := h0_literals) (h0_parts := h0_parts) (w_h0_frameBegin := (w_h0_frameBegin)) (w_h0_flags := (w_h0_flags)) (w_h0_width := (w_h0_width)) (w_h0_size := (w_h0_size)) (h0_to_count := h0_to_count) (h0_input_count := h0_input_count) (h0_input_held_n := h0_input_held_n) (h0_input_held_f := h0_input_held_f) (h0_to_held_n := h0_to_held_n) (h0_to_held_f := h0_to_held_f) (o_h0_broken := u2) (o_h0_brokenAt := u3) (o_h0_at := u4) (o_h0_begin := u5) (o_h0_copies := u6) (o_h0_literals := u7) (o_h0_parts := u8) (o_h0_to_count := u9) (o_h0_to_held_f := u10) (o_r := r1) hc) (wV kw_956 kw_958 kw_40 kw_92 kw_959) (by decide +kernel) ⟨Nat.le_of_ble_eq_true rfl, Nat.le_of_ble_eq_true rfl⟩ hK hP hD hN hT hS (va_free (wc := [(h0, .inr (5, [.ref h0_input, w_h0_words, w_h0_settings, .ref h0_to, .ref h0_blocks, .int h0_broken, .int h0_brokenAt, .int h0_at, .int h0_end, .int h0_begin, .int h0_copies, .int h0_literals, .int h0_parts, w_h0_frameBegin, w_h0_flags, w_h0_width, w_h0_size])), (h0_to, .inr (2, [.ref h0_to_held, .int h0_to_count])), (h0_input, .inr (2, [.ref h0_input_held, .int h0_input_count])), (h0_input_held, .inl (cB, h0_input_held_n, .inl h0_input_held_f)), (h0_to_held, .inl (cB, h0_to_held_n, .inl h0_to_held_f))]) hD hS hA [0, 2, 1, 3, 4] rfl) [0, 2, 1, 3, 4] rfl (by decide) rfl rfl rfl hl.1 rfl (lv_room (Nat.le_of_ble_eq_true rfl)) dX6_openWholeElements_1 ⟨Nat.le_of_ble_eq_true rfl, Nat.le_of_ble_eq_true rfl⟩) hP hD hS hA (wr := [(h0_blocks, .inr (1, [.ref h0_blocks_facts, .int h0_blocks_count])), (h0_blocks_facts, .inl (cI, h0_blocks_facts_n, .inl h0_blocks_facts_f))]) (w1 := [(h0, .inr (5, [.ref h0_input, w_h0_words, w_h0_settings, .ref h0_to, .ref h0_blocks, .int u2, .int u3, .int u4, .int h0_end, .int u5, .int u6, .int u7, .int u8, w_h0_frameBegin, w_h0_flags, w_h0_width, w_h0_size])), (h0_to, .inr (2, [.ref h0_to_held, .int u9])), (h0_input, .inr (2, [.ref h0_input_held, .int h0_input_count])), (h0_input_held, .inl (cB, h0_input_held_n, .inl h0_input_held_f)), (h0_to_held, .inl (cB, h0_to_held_n, .inl u10))]) (ws' := [(h0, .inr (5, [.ref h0_input, w_h0_words, w_h0_settings, .ref h0_to, .ref h0_blocks, .int u2, .int u3, .int u4, .int h0_end, .int u5, .int u6, .int u7, .int u8, w_h0_frameBegin, w_h0_flags, w_h0_width, w_h0_size])), (h0_input, .inr (2, [.ref h0_input_held, .int h0_input_count])), (h0_to, .inr (2, [.ref h0_to_held, .int u9])), (h0_input_held, .inl (cB, h0_input_held_n, .inl h0_input_held_f)), (h0_to_held, .inl (cB, h0_to_held_n, .inl u10)), (h0_blocks, .inr (1, [.ref h0_blocks_facts, .int h0_blocks_count])), (h0_blocks_facts, .inl (cI, h0_blocks_facts_n, .inl h0_blocks_facts_f))]) [0, 2, 1, 3, 4] [5, 6] [2, 4, 3, 5, 6, 0, 1] rfl rfl (by decide) (by decide) rfl (by decide) (fun H locs hP hD hS => ?_)
  refine lv_if_ne (tgt := 9) hx hb dX6_openWholeElements_4 (by decide) (fun c_4 => ?_) (fun c_4 => ?_)
  · replace hf := if_f c_4 hf
    refine lv_aload_n hx hb dX6_openWholeElements_9 rfl (lv_at hl 0 rfl) ?_
    refine lv_iconst (v := 0) hx hb dX6_openWholeElements_10 (by decide) ?_
    obtain ⟨x, hc, hf⟩ := bind_some hf
    obtain ⟨u11, u12⟩ := x
    dsimp only at hf
    refine nx_v (rn_V (As := [.int (0 : Int32)]) (rest := []) (n := 1) (ci := 5) (q0 := 0) ⟨hx, hb, hml, hown, hts⟩ (c_Opener_addPackedBlock (l := l) (dC := dC) (dI := dI) (cB := cB) (cI := cI) (h0 := h0) (a1 := (0 : Int32)) (h0_to := h0_to) (h0_blocks := h0_blocks) (h0_blocks_facts := h0_blocks_facts) (w_h0_input := (.ref h0_input)) (w_h0_words := (w_h0_words)) (w_h0_settings := (w_h0_settings)) (w_h0_broken := (.int u2)) (w_h0_brokenAt := (.int u3)) (h0_at := u4) (w_h0_end := (.int h0_end)) (h0_begin := u5) (h0_copies := u6) (h0_literals := u7) (h0_parts := u8) (w_h0_frameBegin := (w_h0_frameBegin)) (w_h0_flags := (w_h0_flags)) (w_h0_width := (w_h0_width)) (w_h0_size := (w_h0_size)) (w_h0_to_held := (.ref h0_to_held)) (h0_to_count := u9) (h0_blocks_count := h0_blocks_count) (h0_blocks_facts_n := h0_blocks_facts_n) (h0_blocks_facts_f := h0_blocks_facts_f) (o_h0_blocks_count := u11) (o_h0_blocks_facts_f := u12) hc) (wV kw_904 kw_906 kw_31 kw_92 kw_907) (by decide +kernel) ⟨Nat.le_of_ble_eq_true rfl, Nat.le_of_ble_eq_true rfl⟩ hK hP hD hN hT hS (va_free (wc := [(h0, .inr (5, [.ref h0_input, w_h0_words, w_h0_settings, .ref h0_to, .ref h0_blocks, .int u2, .int u3, .int u4, .int h0_end, .int u5, .int u6, .int u7, .int u8, w_h0_frameBegin, w_h0_flags, w_h0_width, w_h0_size])), (h0_to, .inr (2, [.ref h0_to_held, .int u9])), (h0_blocks, .inr (1, [.ref h0_blocks_facts, .int h0_blocks_count])), (h0_blocks_facts, .inl (cI, h0_blocks_facts_n, .inl h0_blocks_facts_f))]) hD hS hA [0, 2, 5, 6] rfl) [0, 2, 5, 6] rfl (by decide) rfl rfl rfl hl.1 rfl (lv_room (Nat.le_of_ble_eq_true rfl)) dX6_openWholeElements_11 ⟨Nat.le_of_ble_eq_true rfl, Nat.le_of_ble_eq_true rfl⟩) hP hD hS hA (wr := [(h0_input, .inr (2, [.ref h0_input_held, .int h0_input_count])), (h0_input_held, .inl (cB, h0_input_held_n, .inl h0_input_held_f)), (h0_to_held, .inl (cB, h0_to_held_n, .inl u10))]) (w1 := [(h0, .inr (5, [.ref h0_input, w_h0_words, w_h0_settings, .ref h0_to, .ref h0_blocks, .int u2, .int u3, .int u4, .int h0_end, .int u5, .int u6, .int u7, .int u8, w_h0_frameBegin, w_h0_flags, w_h0_width, w_h0_size])), (h0_to, .inr (2, [.ref h0_to_held, .int u9])), (h0_blocks, .inr (1, [.ref h0_blocks_facts, .int u11])), (h0_blocks_facts, .inl (cI, h0_blocks_facts_n, .inl u12))]) (ws' := [(h0, .inr (5, [.ref h0_input, w_h0_words, w_h0_settings, .ref h0_to, .ref h0_blocks, .int u2, .int u3, .int u4, .int h0_end, .int u5, .int u6, .int u7, .int u8, w_h0_frameBegin, w_h0_flags, w_h0_width, w_h0_size])), (h0_input, .inr (2, [.ref h0_input_held, .int h0_input_count])), (h0_to, .inr (2, [.ref h0_to_held, .int u9])), (h0_input_held, .inl (cB, h0_input_held_n, .inl h0_input_held_f)), (h0_to_held, .inl (cB, h0_to_held_n, .inl u10)), (h0_blocks, .inr (1, [.ref h0_blocks_facts, .int u11])), (h0_blocks_facts, .inl (cI, h0_blocks_facts_n, .inl u12))]) [0, 2, 5, 6] [1, 3, 4] [3, 0, 4, 1, 2, 5, 6] rfl rfl (by decide) (by decide) rfl (by decide) (fun H locs hP hD hS => ?_)
    refine lv_iconst (v := 1) hx hb dX6_openWholeElements_14 (by decide) ?_
    have hzb : narrow .boolean (.int (1 : Int32)) = .int (1 : Int32) := rfl
    obtain ⟨rfl, hq_1⟩ := Prod.mk.inj (Option.some.inj hf)
    obtain ⟨rfl, hq_2⟩ := Prod.mk.inj hq_1
    obtain ⟨rfl, hq_3⟩ := Prod.mk.inj hq_2
    obtain ⟨rfl, hq_4⟩ := Prod.mk.inj hq_3
    obtain ⟨rfl, hq_5⟩ := Prod.mk.inj hq_4
    obtain ⟨rfl, hq_6⟩ := Prod.mk.inj hq_5
    obtain ⟨rfl, hq_7⟩ := Prod.mk.inj hq_6
    obtain ⟨rfl, hq_8⟩ := Prod.mk.inj hq_7
    obtain ⟨rfl, hq_9⟩ := Prod.mk.inj hq_8
    obtain ⟨rfl, hq_10⟩ := Prod.mk.inj hq_9
    obtain ⟨rfl, hq_11⟩ := Prod.mk.inj hq_10
    obtain rfl := hq_11
    exact rt_z hQ hx hb hr hzb hlocks hP hD hS dX6_openWholeElements_15
  · replace hf := if_t c_4 hf
    refine lv_iconst (v := 0) hx hb dX6_openWholeElements_7 (by decide) ?_
    have hzb : narrow .boolean (.int (0 : Int32)) = .int (0 : Int32) := rfl
    obtain ⟨rfl, hq_1⟩ := Prod.mk.inj (Option.some.inj hf)
    obtain ⟨rfl, hq_2⟩ := Prod.mk.inj hq_1
    obtain ⟨rfl, hq_3⟩ := Prod.mk.inj hq_2
    obtain ⟨rfl, hq_4⟩ := Prod.mk.inj hq_3
    obtain ⟨rfl, hq_5⟩ := Prod.mk.inj hq_4
    obtain ⟨rfl, hq_6⟩ := Prod.mk.inj hq_5
    obtain ⟨rfl, hq_7⟩ := Prod.mk.inj hq_6
    obtain ⟨rfl, hq_8⟩ := Prod.mk.inj hq_7
    obtain ⟨rfl, hq_9⟩ := Prod.mk.inj hq_8
    obtain ⟨rfl, hq_10⟩ := Prod.mk.inj hq_9
    obtain ⟨rfl, hq_11⟩ := Prod.mk.inj hq_10
    obtain rfl := hq_11
    exact rt_z hQ hx hb hr hzb hlocks hP hD hS dX6_openWholeElements_8

theorem dX6_passPiece_0 : decode cX6_passPiece 0 = .ok (.aload_n 0, 1) := by decide +kernel
theorem dX6_passPiece_1 : decode cX6_passPiece 1 = .ok (.getfield 9, 3) := by decide +kernel
theorem dX6_passPiece_4 : decode cX6_passPiece 4 = .ok (.aload_n 0, 1) := by decide +kernel
theorem dX6_passPiece_5 : decode cX6_passPiece 5 = .ok (.getfield 47, 3) := by decide +kernel
theorem dX6_passPiece_8 : decode cX6_passPiece 8 = .ok (.iconst 4, 1) := by decide +kernel
theorem dX6_passPiece_9 : decode cX6_passPiece 9 = .ok (.invokevirtual 117, 3) := by decide +kernel
theorem dX6_passPiece_12 : decode cX6_passPiece 12 = .ok (.lstore_n 1, 1) := by decide +kernel
theorem dX6_passPiece_13 : decode cX6_passPiece 13 = .ok (.aload_n 0, 1) := by decide +kernel
theorem dX6_passPiece_14 : decode cX6_passPiece 14 = .ok (.iconst 4, 1) := by decide +kernel
theorem dX6_passPiece_15 : decode cX6_passPiece 15 = .ok (.invokevirtual 95, 3) := by decide +kernel
theorem dX6_passPiece_18 : decode cX6_passPiece 18 = .ok (.ifCond .ne 20, 3) := by decide +kernel
theorem dX6_passPiece_21 : decode cX6_passPiece 21 = .ok (.lload_n 1, 1) := by decide +kernel
theorem dX6_passPiece_22 : decode cX6_passPiece 22 = .ok (.aload_n 0, 1) := by decide +kernel
theorem dX6_passPiece_23 : decode cX6_passPiece 23 = .ok (.getfield 54, 3) := by decide +kernel
theorem dX6_passPiece_26 : decode cX6_passPiece 26 = .ok (.aload_n 0, 1) := by decide +kernel
theorem dX6_passPiece_27 : decode cX6_passPiece 27 = .ok (.getfield 47, 3) := by decide +kernel
theorem dX6_passPiece_30 : decode cX6_passPiece 30 = .ok (.isub, 1) := by decide +kernel
theorem dX6_passPiece_31 : decode cX6_passPiece 31 = .ok (.iconst 4, 1) := by decide +kernel
theorem dX6_passPiece_32 : decode cX6_passPiece 32 = .ok (.isub, 1) := by decide +kernel
theorem dX6_passPiece_33 : decode cX6_passPiece 33 = .ok (.i2l, 1) := by decide +kernel
theorem dX6_passPiece_34 : decode cX6_passPiece 34 = .ok (.lcmp, 1) := by decide +kernel
theorem dX6_passPiece_35 : decode cX6_passPiece 35 = .ok (.ifCond .le 13, 3) := by decide +kernel
theorem dX6_passPiece_38 : decode cX6_passPiece 38 = .ok (.aload_n 0, 1) := by decide +kernel
theorem dX6_passPiece_39 : decode cX6_passPiece 39 = .ok (.iconst 1, 1) := by decide +kernel
theorem dX6_passPiece_40 : decode cX6_passPiece 40 = .ok (.aload_n 0, 1) := by decide +kernel
theorem dX6_passPiece_41 : decode cX6_passPiece 41 = .ok (.getfield 54, 3) := by decide +kernel
theorem dX6_passPiece_44 : decode cX6_passPiece 44 = .ok (.invokevirtual 98, 3) := by decide +kernel
theorem dX6_passPiece_47 : decode cX6_passPiece 47 = .ok (.ireturn, 1) := by decide +kernel
theorem dX6_passPiece_48 : decode cX6_passPiece 48 = .ok (.aload_n 0, 1) := by decide +kernel
theorem dX6_passPiece_49 : decode cX6_passPiece 49 = .ok (.dup, 1) := by decide +kernel
theorem dX6_passPiece_50 : decode cX6_passPiece 50 = .ok (.getfield 47, 3) := by decide +kernel
theorem dX6_passPiece_53 : decode cX6_passPiece 53 = .ok (.iconst 4, 1) := by decide +kernel
theorem dX6_passPiece_54 : decode cX6_passPiece 54 = .ok (.lload_n 1, 1) := by decide +kernel
theorem dX6_passPiece_55 : decode cX6_passPiece 55 = .ok (.l2i, 1) := by decide +kernel
theorem dX6_passPiece_56 : decode cX6_passPiece 56 = .ok (.iadd, 1) := by decide +kernel
theorem dX6_passPiece_57 : decode cX6_passPiece 57 = .ok (.iadd, 1) := by decide +kernel
theorem dX6_passPiece_58 : decode cX6_passPiece 58 = .ok (.putfield 47, 3) := by decide +kernel
theorem dX6_passPiece_61 : decode cX6_passPiece 61 = .ok (.iconst 1, 1) := by decide +kernel
theorem dX6_passPiece_62 : decode cX6_passPiece 62 = .ok (.ireturn, 1) := by decide +kernel
def m_Opener_passPiece_J38 (h0_at : Int32) (h0_end : Int32) : Option (Int32 × Int32 × Int32 × Int32) :=
  (m_Opener_breaks (1 : Int32) h0_end).bind fun (r3, u4, u5) =>
  bch r3 <|
  some (r3, u4, u5, h0_at)
def m_Opener_passPiece (h0_broken : Int32) (h0_brokenAt : Int32) (h0_at : Int32) (h0_end : Int32) (h0_input_count : Int32) (h0_input_held_n : Nat) (h0_input_held_f : Nat → Int32) : Option (Int32 × Int32 × Int32 × Int32) :=
  (m_Bytes_number h0_at (4 : Int32) h0_input_count h0_input_held_n h0_input_held_f).bind fun r1 =>
  (m_Opener_lacks (4 : Int32) h0_at h0_end).bind fun r2 =>
  if r2 = 0 then
    if (lg_cmp r1 (((h0_end - h0_at) - (4 : Int32)).toInt64)) ≤ 0 then
      bnd (h0_at + ((4 : Int32) + (r1.toInt32))) fun p_6 =>
      some ((1 : Int32), h0_broken, h0_brokenAt, p_6)
    else
      m_Opener_passPiece_J38 h0_at h0_end
  else
    m_Opener_passPiece_J38 h0_at h0_end
def rm_Opener_passPiece : Room := { frames := 2, cells := 0, slots := 0, locals := 46 }
set_option maxHeartbeats 4000000 in
set_option maxRecDepth 100000 in
theorem c_Opener_passPiece {l : Launch} {dC : Nat → ClassId} {dI : Nat → Nat → Nat} {cB cI : ClassId} {sz : Nat} {h0 : Nat} {h0_input : Nat} {h0_input_held : Nat} {w_h0_words : Value} {w_h0_settings : Value} {w_h0_to : Value} {w_h0_blocks : Value} {h0_broken : Int32} {h0_brokenAt : Int32} {h0_at : Int32} {h0_end : Int32} {w_h0_begin : Value} {w_h0_copies : Value} {w_h0_literals : Value} {w_h0_parts : Value} {w_h0_frameBegin : Value} {w_h0_flags : Value} {w_h0_width : Value} {w_h0_size : Value} {h0_input_count : Int32} {h0_input_held_n : Nat} {h0_input_held_f : Nat → Int32} {o_r : Int32} {o_h0_broken : Int32} {o_h0_brokenAt : Int32} {o_h0_at : Int32} (hf : m_Opener_passPiece h0_broken h0_brokenAt h0_at h0_end h0_input_count h0_input_held_n h0_input_held_f = some (o_r, o_h0_broken, o_h0_brokenAt, o_h0_at)) : Met l yX6_passPiece (Cond.code yX6_passPiece cX6_passPiece 3 (some .boolean) :: lw_G) rm_Opener_passPiece (PreC (dC, dI) [(cB, .byte), (cI, .int)] [.ref h0] sz [(h0, .inr (5, [.ref h0_input, w_h0_words, w_h0_settings, w_h0_to, w_h0_blocks, .int h0_broken, .int h0_brokenAt, .int h0_at, .int h0_end, w_h0_begin, w_h0_copies, w_h0_literals, w_h0_parts, w_h0_frameBegin, w_h0_flags, w_h0_width, w_h0_size])), (h0_input, .inr (2, [.ref h0_input_held, .int h0_input_count])), (h0_input_held, .inl (cB, h0_input_held_n, .inl h0_input_held_f))]) (QcI o_r (dC, dI) [(h0, .inr (5, [.ref h0_input, w_h0_words, w_h0_settings, w_h0_to, w_h0_blocks, .int o_h0_broken, .int o_h0_brokenAt, .int o_h0_at, .int h0_end, w_h0_begin, w_h0_copies, w_h0_literals, w_h0_parts, w_h0_frameBegin, w_h0_flags, w_h0_width, w_h0_size])), (h0_input, .inr (2, [.ref h0_input_held, .int h0_input_count])), (h0_input_held, .inl (cB, h0_input_held_n, .inl h0_input_held_f))] (va_A [(h0, .inr (5, [.ref h0_input, w_h0_words, w_h0_settings, w_h0_to, w_h0_blocks, .int h0_broken, .int h0_brokenAt, .int h0_at, .int h0_end, w_h0_begin, w_h0_copies, w_h0_literals, w_h0_parts, w_h0_frameBegin, w_h0_flags, w_h0_width, w_h0_size])), (h0_input, .inr (2, [.ref h0_input_held, .int h0_input_count])), (h0_input_held, .inl (cB, h0_input_held_n, .inl h0_input_held_f))] sz)) 0 0 (va_A [(h0, .inr (5, [.ref h0_input, w_h0_words, w_h0_settings, w_h0_to, w_h0_blocks, .int h0_broken, .int h0_brokenAt, .int h0_at, .int h0_end, w_h0_begin, w_h0_copies, w_h0_literals, w_h0_parts, w_h0_frameBegin, w_h0_flags, w_h0_width, w_h0_size])), (h0_input, .inr (2, [.ref h0_input_held, .int h0_input_count])), (h0_input_held, .inl (cB, h0_input_held_n, .inl h0_input_held_f))] sz) := by
  refine met_of (Qf := fun A => QcI o_r (dC, dI) [(h0, .inr (5, [.ref h0_input, w_h0_words, w_h0_settings, w_h0_to, w_h0_blocks, .int o_h0_broken, .int o_h0_brokenAt, .int o_h0_at, .int h0_end, w_h0_begin, w_h0_copies, w_h0_literals, w_h0_parts, w_h0_frameBegin, w_h0_flags, w_h0_width, w_h0_size])), (h0_input, .inr (2, [.ref h0_input_held, .int h0_input_count])), (h0_input_held, .inl (cB, h0_input_held_n, .inl h0_input_held_f))] A) (by decide) (Nat.le_of_ble_eq_true rfl) ?_
  intro p e s m below meth c A ls Q hx hb hr hml hown hts hlocks hnm hP hK hD hN hT hA hl hQ
  have hown : s.vm.findClass RX6 = some m.cls := hown
  have hS : va_S A s.heap s.heap [] := va_S.rf
  have hl : lv_has ls 3 [(0, .ref h0)] := hl
  unfold m_Opener_passPiece at hf
  refine lv_aload_n hx hb dX6_passPiece_0 rfl (lv_at hl 0 rfl) ?_
  refine va_get (D := (dC, dI)) (ci := 5) (v := .ref h0_input) (C := RX6) (T := TX6) (N := 17) hx hb hts inG_X6 hown hK hP 0 rfl rfl 0 (by decide) (hts _ kw_289) (fun _ h9 => h9) rfl dX6_passPiece_1 ?_
  refine lv_aload_n hx hb dX6_passPiece_4 rfl (lv_at hl 0 rfl) ?_
  refine va_get (D := (dC, dI)) (ci := 5) (v := .int h0_at) (C := RX6) (T := TX6) (N := 17) hx hb hts inG_X6 hown hK hP 0 rfl rfl 7 (by decide) (hts _ kw_296) (fun _ h9 => h9) rfl dX6_passPiece_5 ?_
  refine lv_iconst (v := 4) hx hb dX6_passPiece_8 (by decide) ?_
  obtain ⟨r1, hc, hf⟩ := bind_some hf
  refine nx_l (rn_V (As := [.int h0_at, .int (4 : Int32)]) (rest := []) (n := 2) (ci := 2) (q0 := 0) ⟨hx, hb, hml, hown, hts⟩ (c_Bytes_number (l := l) (dC := dC) (dI := dI) (cB := cB) (cI := cI) (h0 := h0_input) (a1 := h0_at) (a2 := (4 : Int32)) (h0_held := h0_input_held) (h0_count := h0_input_count) (h0_held_n := h0_input_held_n) (h0_held_f := h0_input_held_f)  (o_r := r1) hc) (wV kw_889 kw_890 kw_891 kw_83 kw_892) (by decide +kernel) ⟨Nat.le_of_ble_eq_true rfl, Nat.le_of_ble_eq_true rfl⟩ hK hP hD hN hT hS (va_free (wc := [(h0_input, .inr (2, [.ref h0_input_held, .int h0_input_count])), (h0_input_held, .inl (cB, h0_input_held_n, .inl h0_input_held_f))]) hD hS hA [1, 2] rfl) [1, 2] rfl (by decide) rfl rfl rfl hl.1 rfl (lv_room (Nat.le_of_ble_eq_true rfl)) dX6_passPiece_9 ⟨Nat.le_of_ble_eq_true rfl, Nat.le_of_ble_eq_true rfl⟩) hP hD hS hA (wr := [(h0, .inr (5, [.ref h0_input, w_h0_words, w_h0_settings, w_h0_to, w_h0_blocks, .int h0_broken, .int h0_brokenAt, .int h0_at, .int h0_end, w_h0_begin, w_h0_copies, w_h0_literals, w_h0_parts, w_h0_frameBegin, w_h0_flags, w_h0_width, w_h0_size]))]) (w1 := [(h0_input, .inr (2, [.ref h0_input_held, .int h0_input_count])), (h0_input_held, .inl (cB, h0_input_held_n, .inl h0_input_held_f))]) (ws' := [(h0, .inr (5, [.ref h0_input, w_h0_words, w_h0_settings, w_h0_to, w_h0_blocks, .int h0_broken, .int h0_brokenAt, .int h0_at, .int h0_end, w_h0_begin, w_h0_copies, w_h0_literals, w_h0_parts, w_h0_frameBegin, w_h0_flags, w_h0_width, w_h0_size])), (h0_input, .inr (2, [.ref h0_input_held, .int h0_input_count])), (h0_input_held, .inl (cB, h0_input_held_n, .inl h0_input_held_f))]) [1, 2] [0] [0, 1, 2] rfl rfl (by decide) (by decide) rfl (by decide) (fun H locs hP hD hS => ?_)
  refine lv_lstore_n (lv' := [(1, .long r1), (0, .ref h0)]) hx hb dX6_passPiece_12 rfl hl (by decide) rfl (fun ls hl => ?_)
  refine lv_aload_n hx hb dX6_passPiece_13 rfl (lv_at hl 1 rfl) ?_
  refine lv_iconst (v := 4) hx hb dX6_passPiece_14 (by decide) ?_
  obtain ⟨r2, hc, hf⟩ := bind_some hf
  refine nx_i (rn_V (As := [.int (4 : Int32)]) (rest := []) (n := 1) (ci := 5) (q0 := 0) ⟨hx, hb, hml, hown, hts⟩ (c_Opener_lacks (l := l) (dC := dC) (dI := dI) (cB := cB) (cI := cI) (h0 := h0) (a1 := (4 : Int32)) (w_h0_input := (.ref h0_input)) (w_h0_words := (w_h0_words)) (w_h0_settings := (w_h0_settings)) (w_h0_to := (w_h0_to)) (w_h0_blocks := (w_h0_blocks)) (w_h0_broken := (.int h0_broken)) (w_h0_brokenAt := (.int h0_brokenAt)) (h0_at := h0_at) (h0_end := h0_end) (w_h0_begin := (w_h0_begin)) (w_h0_copies := (w_h0_copies)) (w_h0_literals := (w_h0_literals)) (w_h0_parts := (w_h0_parts)) (w_h0_frameBegin := (w_h0_frameBegin)) (w_h0_flags := (w_h0_flags)) (w_h0_width := (w_h0_width)) (w_h0_size := (w_h0_size))  (o_r := r2) hc) (wV kw_867 kw_869 kw_25 kw_92 kw_870) (by decide +kernel) ⟨Nat.le_of_ble_eq_true rfl, Nat.le_of_ble_eq_true rfl⟩ hK hP hD hN hT hS (va_free (wc := [(h0, .inr (5, [.ref h0_input, w_h0_words, w_h0_settings, w_h0_to, w_h0_blocks, .int h0_broken, .int h0_brokenAt, .int h0_at, .int h0_end, w_h0_begin, w_h0_copies, w_h0_literals, w_h0_parts, w_h0_frameBegin, w_h0_flags, w_h0_width, w_h0_size]))]) hD hS hA [0] rfl) [0] rfl (by decide) rfl rfl rfl hl.1 rfl (lv_room (Nat.le_of_ble_eq_true rfl)) dX6_passPiece_15 ⟨Nat.le_of_ble_eq_true rfl, Nat.le_of_ble_eq_true rfl⟩) hP hD hS hA (wr := [(h0_input, .inr (2, [.ref h0_input_held, .int h0_input_count])), (h0_input_held, .inl (cB, h0_input_held_n, .inl h0_input_held_f))]) (w1 := [(h0, .inr (5, [.ref h0_input, w_h0_words, w_h0_settings, w_h0_to, w_h0_blocks, .int h0_broken, .int h0_brokenAt, .int h0_at, .int h0_end, w_h0_begin, w_h0_copies, w_h0_literals, w_h0_parts, w_h0_frameBegin, w_h0_flags, w_h0_width, w_h0_size]))]) (ws' := [(h0, .inr (5, [.ref h0_input, w_h0_words, w_h0_settings, w_h0_to, w_h0_blocks, .int h0_broken, .int h0_brokenAt, .int h0_at, .int h0_end, w_h0_begin, w_h0_copies, w_h0_literals, w_h0_parts, w_h0_frameBegin, w_h0_flags, w_h0_width, w_h0_size])), (h0_input, .inr (2, [.ref h0_input_held, .int h0_input_count])), (h0_input_held, .inl (cB, h0_input_held_n, .inl h0_input_held_f))]) [0] [1, 2] [2, 0, 1] rfl rfl (by decide) (by decide) rfl (by decide) (fun H locs hP hD hS => ?_)
  have hJ_38 : ∀ (H : Heap) (locs : List Loc) (ls : Array Slot), m_Opener_passPiece_J38 h0_at h0_end = some (o_r, o_h0_broken, o_h0_brokenAt, o_h0_at) → va_P (dC, dI) vwCl [(h0, .inr (5, [.ref h0_input, w_h0_words, w_h0_settings, w_h0_to, w_h0_blocks, .int h0_broken, .int h0_brokenAt, .int h0_at, .int h0_end, w_h0_begin, w_h0_copies, w_h0_literals, w_h0_parts, w_h0_frameBegin, w_h0_flags, w_h0_width, w_h0_size])), (h0_input, .inr (2, [.ref h0_input_held, .int h0_input_count])), (h0_input_held, .inl (cB, h0_input_held_n, .inl h0_input_held_f))] H → va_D A [(h0, .inr (5, [.ref h0_input, w_h0_words, w_h0_settings, w_h0_to, w_h0_blocks, .int h0_broken, .int h0_brokenAt, .int h0_at, .int h0_end, w_h0_begin, w_h0_copies, w_h0_literals, w_h0_parts, w_h0_frameBegin, w_h0_flags, w_h0_width, w_h0_size])), (h0_input, .inr (2, [.ref h0_input_held, .int h0_input_count])), (h0_input_held, .inl (cB, h0_input_held_n, .inl h0_input_held_f))] → va_S A s.heap H locs → lv_has ls 3 [(0, .ref h0)] → W p l e (rm_Opener_passPiece) s m ([.ref h0] : List Value).toArray below meth c H locs 0 0 Q (F0 m 38 ls []) := by
    intro  H locs ls hf hP hD hS hl
    unfold m_Opener_passPiece_J38 at hf
    refine lv_aload_n hx hb dX6_passPiece_38 rfl (lv_at hl 0 rfl) ?_
    refine lv_iconst (v := 1) hx hb dX6_passPiece_39 (by decide) ?_
    refine lv_aload_n hx hb dX6_passPiece_40 rfl (lv_at hl 0 rfl) ?_
    refine va_get (D := (dC, dI)) (ci := 5) (v := .int h0_end) (C := RX6) (T := TX6) (N := 17) hx hb hts inG_X6 hown hK hP 0 rfl rfl 8 (by decide) (hts _ kw_297) (fun _ h9 => h9) rfl dX6_passPiece_41 ?_
    obtain ⟨x, hc, hf⟩ := bind_some hf
    obtain ⟨r3, u4, u5⟩ := x
    dsimp only at hf
    refine nx_i (rn_V (As := [.int (1 : Int32), .int h0_end]) (rest := []) (n := 2) (ci := 5) (q0 := 0) ⟨hx, hb, hml, hown, hts⟩ (c_Opener_breaks (l := l) (dC := dC) (dI := dI) (cB := cB) (cI := cI) (h0 := h0) (a1 := (1 : Int32)) (a2 := h0_end) (w_h0_input := (.ref h0_input)) (w_h0_words := (w_h0_words)) (w_h0_settings := (w_h0_settings)) (w_h0_to := (w_h0_to)) (w_h0_blocks := (w_h0_blocks)) (h0_broken := h0_broken) (h0_brokenAt := h0_brokenAt) (w_h0_at := (.int h0_at)) (w_h0_end := (.int h0_end)) (w_h0_begin := (w_h0_begin)) (w_h0_copies := (w_h0_copies)) (w_h0_literals := (w_h0_literals)) (w_h0_parts := (w_h0_parts)) (w_h0_frameBegin := (w_h0_frameBegin)) (w_h0_flags := (w_h0_flags)) (w_h0_width := (w_h0_width)) (w_h0_size := (w_h0_size)) (o_h0_broken := u4) (o_h0_brokenAt := u5) (o_r := r3) hc) (wV kw_871 kw_873 kw_26 kw_92 kw_874) (by decide +kernel) ⟨Nat.le_of_ble_eq_true rfl, Nat.le_of_ble_eq_true rfl⟩ hK hP hD hN hT hS (va_free (wc := [(h0, .inr (5, [.ref h0_input, w_h0_words, w_h0_settings, w_h0_to, w_h0_blocks, .int h0_broken, .int h0_brokenAt, .int h0_at, .int h0_end, w_h0_begin, w_h0_copies, w_h0_literals, w_h0_parts, w_h0_frameBegin, w_h0_flags, w_h0_width, w_h0_size]))]) hD hS hA [0] rfl) [0] rfl (by decide) rfl rfl rfl hl.1 rfl (lv_room (Nat.le_of_ble_eq_true rfl)) dX6_passPiece_44 ⟨Nat.le_of_ble_eq_true rfl, Nat.le_of_ble_eq_true rfl⟩) hP hD hS hA (wr := [(h0_input, .inr (2, [.ref h0_input_held, .int h0_input_count])), (h0_input_held, .inl (cB, h0_input_held_n, .inl h0_input_held_f))]) (w1 := [(h0, .inr (5, [.ref h0_input, w_h0_words, w_h0_settings, w_h0_to, w_h0_blocks, .int u4, .int u5, .int h0_at, .int h0_end, w_h0_begin, w_h0_copies, w_h0_literals, w_h0_parts, w_h0_frameBegin, w_h0_flags, w_h0_width, w_h0_size]))]) (ws' := [(h0, .inr (5, [.ref h0_input, w_h0_words, w_h0_settings, w_h0_to, w_h0_blocks, .int u4, .int u5, .int h0_at, .int h0_end, w_h0_begin, w_h0_copies, w_h0_literals, w_h0_parts, w_h0_frameBegin, w_h0_flags, w_h0_width, w_h0_size])), (h0_input, .inr (2, [.ref h0_input_held, .int h0_input_count])), (h0_input_held, .inl (cB, h0_input_held_n, .inl h0_input_held_f))]) [0] [1, 2] [2, 0, 1] rfl rfl (by decide) (by decide) rfl (by decide) (fun H locs hP hD hS => ?_)
    obtain ⟨hzb, hf⟩ := bch_some hf
    obtain ⟨rfl, hq_1⟩ := Prod.mk.inj (Option.some.inj hf)
    obtain ⟨rfl, hq_2⟩ := Prod.mk.inj hq_1
    obtain ⟨rfl, hq_3⟩ := Prod.mk.inj hq_2
    obtain rfl := hq_3
    exact rt_z hQ hx hb hr hzb hlocks hP hD hS dX6_passPiece_47
  refine lv_if_ne (tgt := 38) hx hb dX6_passPiece_18 (by decide) (fun c_18 => ?_) (fun c_18 => ?_)
  · replace hf := if_f c_18 hf
    exact hJ_38  _ _ _ hf hP hD hS (lv_sub hl [1] rfl)
  · replace hf := if_t c_18 hf
    refine lv_lload_n hx hb dX6_passPiece_21 rfl (lv_at hl 0 rfl) ?_
    refine lv_aload_n hx hb dX6_passPiece_22 rfl (lv_at hl 1 rfl) ?_
    refine va_get (D := (dC, dI)) (ci := 5) (v := .int h0_end) (C := RX6) (T := TX6) (N := 17) hx hb hts inG_X6 hown hK hP 0 rfl rfl 8 (by decide) (hts _ kw_297) (fun _ h9 => h9) rfl dX6_passPiece_23 ?_
    refine lv_aload_n hx hb dX6_passPiece_26 rfl (lv_at hl 1 rfl) ?_
    refine va_get (D := (dC, dI)) (ci := 5) (v := .int h0_at) (C := RX6) (T := TX6) (N := 17) hx hb hts inG_X6 hown hK hP 0 rfl rfl 7 (by decide) (hts _ kw_296) (fun _ h9 => h9) rfl dX6_passPiece_27 ?_
    refine lv_isub hx hb dX6_passPiece_30 ?_
    refine lv_iconst (v := 4) hx hb dX6_passPiece_31 (by decide) ?_
    refine lv_isub hx hb dX6_passPiece_32 ?_
    refine lv_i2l (v := (((h0_end - h0_at) - (4 : Int32)).toInt64)) hx hb dX6_passPiece_33 rfl ?_
    refine W.lcmp hx hb dX6_passPiece_34 ?_
    refine lv_if_le (tgt := 48) hx hb dX6_passPiece_35 (by decide) (fun c_35 => ?_) (fun c_35 => ?_)
    · replace hf := if_t c_35 hf
      refine lv_aload_n hx hb dX6_passPiece_48 rfl (lv_at hl 1 rfl) ?_
      refine lv_dup hx hb dX6_passPiece_49 rfl ?_
      refine va_get (D := (dC, dI)) (ci := 5) (v := .int h0_at) (C := RX6) (T := TX6) (N := 17) hx hb hts inG_X6 hown hK hP 0 rfl rfl 7 (by decide) (hts _ kw_296) (fun _ h9 => h9) rfl dX6_passPiece_50 ?_
      refine lv_iconst (v := 4) hx hb dX6_passPiece_53 (by decide) ?_
      refine lv_lload_n hx hb dX6_passPiece_54 rfl (lv_at hl 0 rfl) ?_
      refine lv_l2i (v := (r1.toInt32)) hx hb dX6_passPiece_55 rfl ?_
      refine lv_iadd hx hb dX6_passPiece_56 ?_
      refine lv_iadd hx hb dX6_passPiece_57 ?_
      refine lv_topi (fun p_6 e_p_6 => ?_)
      replace hf := bnd_at e_p_6 hf
      refine va_put (D := (dC, dI)) (ci := 5) (v := .int p_6) (ty := .int) (C := RX6) (T := TX6) (N := 17) hx hb hts inG_X6 tyX6 tyX6_ok nmX6 hown hK hP hD hS 0 rfl rfl 7 (by decide) (hts _ kw_296) (fun _ h9 => h9) rfl (by decide +kernel) rfl rfl (Nat.le_of_ble_eq_true rfl) dX6_passPiece_58 (fun H locs hP hD hS => ?_)
      have hP : va_P (dC, dI) vwCl [(h0, .inr (5, [.ref h0_input, w_h0_words, w_h0_settings, w_h0_to, w_h0_blocks, .int h0_broken, .int h0_brokenAt, .int p_6, .int h0_end, w_h0_begin, w_h0_copies, w_h0_literals, w_h0_parts, w_h0_frameBegin, w_h0_flags, w_h0_width, w_h0_size])), (h0_input, .inr (2, [.ref h0_input_held, .int h0_input_count])), (h0_input_held, .inl (cB, h0_input_held_n, .inl h0_input_held_f))] H := hP
      have hD : va_D A [(h0, .inr (5, [.ref h0_input, w_h0_words, w_h0_settings, w_h0_to, w_h0_blocks, .int h0_broken, .int h0_brokenAt, .int p_6, .int h0_end, w_h0_begin, w_h0_copies, w_h0_literals, w_h0_parts, w_h0_frameBegin, w_h0_flags, w_h0_width, w_h0_size])), (h0_input, .inr (2, [.ref h0_input_held, .int h0_input_count])), (h0_input_held, .inl (cB, h0_input_held_n, .inl h0_input_held_f))] := hD
      refine lv_iconst (v := 1) hx hb dX6_passPiece_61 (by decide) ?_
      have hzb : narrow .boolean (.int (1 : Int32)) = .int (1 : Int32) := rfl
      obtain ⟨rfl, hq_1⟩ := Prod.mk.inj (Option.some.inj hf)
      obtain ⟨rfl, hq_2⟩ := Prod.mk.inj hq_1
      obtain ⟨rfl, hq_3⟩ := Prod.mk.inj hq_2
      obtain rfl := hq_3
      exact rt_z hQ hx hb hr hzb hlocks hP hD hS dX6_passPiece_62
    · replace hf := if_f c_35 hf
      exact hJ_38  _ _ _ hf hP hD hS (lv_sub hl [1] rfl)

theorem dX6_isFlag_0 : decode cX6_isFlag 0 = .ok (.aload_n 0, 1) := by decide +kernel
theorem dX6_isFlag_1 : decode cX6_isFlag 1 = .ok (.getfield 162, 3) := by decide +kernel
theorem dX6_isFlag_4 : decode cX6_isFlag 4 = .ok (.iload_n 1, 1) := by decide +kernel
theorem dX6_isFlag_5 : decode cX6_isFlag 5 = .ok (.iand, 1) := by decide +kernel
theorem dX6_isFlag_6 : decode cX6_isFlag 6 = .ok (.ifCond .eq 7, 3) := by decide +kernel
theorem dX6_isFlag_9 : decode cX6_isFlag 9 = .ok (.iconst 1, 1) := by decide +kernel
theorem dX6_isFlag_10 : decode cX6_isFlag 10 = .ok (.goto 4, 3) := by decide +kernel
theorem dX6_isFlag_13 : decode cX6_isFlag 13 = .ok (.iconst 0, 1) := by decide +kernel
theorem dX6_isFlag_14 : decode cX6_isFlag 14 = .ok (.ireturn, 1) := by decide +kernel
def m_Opener_isFlag (a1 : Int32) (h0_flags : Int32) : Option (Int32) :=
  if (h0_flags &&& a1) = 0 then
    some (0 : Int32)
  else
    some (1 : Int32)
def rm_Opener_isFlag : Room := { frames := 0, cells := 0, slots := 0, locals := 0 }
set_option maxHeartbeats 4000000 in
set_option maxRecDepth 100000 in
theorem c_Opener_isFlag {l : Launch} {dC : Nat → ClassId} {dI : Nat → Nat → Nat} {cB cI : ClassId} {sz : Nat} {h0 : Nat} {a1 : Int32} {w_h0_input : Value} {w_h0_words : Value} {w_h0_settings : Value} {w_h0_to : Value} {w_h0_blocks : Value} {w_h0_broken : Value} {w_h0_brokenAt : Value} {w_h0_at : Value} {w_h0_end : Value} {w_h0_begin : Value} {w_h0_copies : Value} {w_h0_literals : Value} {w_h0_parts : Value} {w_h0_frameBegin : Value} {h0_flags : Int32} {w_h0_width : Value} {w_h0_size : Value} {o_r : Int32} (hf : m_Opener_isFlag a1 h0_flags = some o_r) : Met l yX6_isFlag (Cond.code yX6_isFlag cX6_isFlag 2 (some .boolean) :: lw_G) rm_Opener_isFlag (PreC (dC, dI) [(cB, .byte), (cI, .int)] [.ref h0, .int a1] sz [(h0, .inr (5, [w_h0_input, w_h0_words, w_h0_settings, w_h0_to, w_h0_blocks, w_h0_broken, w_h0_brokenAt, w_h0_at, w_h0_end, w_h0_begin, w_h0_copies, w_h0_literals, w_h0_parts, w_h0_frameBegin, .int h0_flags, w_h0_width, w_h0_size]))]) (QcI o_r (dC, dI) [(h0, .inr (5, [w_h0_input, w_h0_words, w_h0_settings, w_h0_to, w_h0_blocks, w_h0_broken, w_h0_brokenAt, w_h0_at, w_h0_end, w_h0_begin, w_h0_copies, w_h0_literals, w_h0_parts, w_h0_frameBegin, .int h0_flags, w_h0_width, w_h0_size]))] (va_A [(h0, .inr (5, [w_h0_input, w_h0_words, w_h0_settings, w_h0_to, w_h0_blocks, w_h0_broken, w_h0_brokenAt, w_h0_at, w_h0_end, w_h0_begin, w_h0_copies, w_h0_literals, w_h0_parts, w_h0_frameBegin, .int h0_flags, w_h0_width, w_h0_size]))] sz)) 0 0 (va_A [(h0, .inr (5, [w_h0_input, w_h0_words, w_h0_settings, w_h0_to, w_h0_blocks, w_h0_broken, w_h0_brokenAt, w_h0_at, w_h0_end, w_h0_begin, w_h0_copies, w_h0_literals, w_h0_parts, w_h0_frameBegin, .int h0_flags, w_h0_width, w_h0_size]))] sz) := by
  refine met_of (Qf := fun A => QcI o_r (dC, dI) [(h0, .inr (5, [w_h0_input, w_h0_words, w_h0_settings, w_h0_to, w_h0_blocks, w_h0_broken, w_h0_brokenAt, w_h0_at, w_h0_end, w_h0_begin, w_h0_copies, w_h0_literals, w_h0_parts, w_h0_frameBegin, .int h0_flags, w_h0_width, w_h0_size]))] A) (by decide) (Nat.le_of_ble_eq_true rfl) ?_
  intro p e s m below meth c A ls Q hx hb hr hml hown hts hlocks hnm hP hK hD hN hT hA hl hQ
  have hown : s.vm.findClass RX6 = some m.cls := hown
  have hS : va_S A s.heap s.heap [] := va_S.rf
  have hl : lv_has ls 2 [(0, .ref h0), (1, .int a1)] := hl
  unfold m_Opener_isFlag at hf
  refine lv_aload_n hx hb dX6_isFlag_0 rfl (lv_at hl 0 rfl) ?_
  refine va_get (D := (dC, dI)) (ci := 5) (v := .int h0_flags) (C := RX6) (T := TX6) (N := 17) hx hb hts inG_X6 hown hK hP 0 rfl rfl 14 (by decide) (hts _ kw_303) (fun _ h9 => h9) rfl dX6_isFlag_1 ?_
  refine lv_iload_n hx hb dX6_isFlag_4 rfl (lv_at hl 1 rfl) ?_
  refine lv_iand hx hb dX6_isFlag_5 ?_
  refine lv_if_eq (tgt := 13) hx hb dX6_isFlag_6 (by decide) (fun c_6 => ?_) (fun c_6 => ?_)
  · replace hf := if_t c_6 hf
    refine lv_iconst (v := 0) hx hb dX6_isFlag_13 (by decide) ?_
    have hzb : narrow .boolean (.int (0 : Int32)) = .int (0 : Int32) := rfl
    obtain rfl := Option.some.inj hf
    exact rt_z hQ hx hb hr hzb hlocks hP hD hS dX6_isFlag_14
  · replace hf := if_f c_6 hf
    refine lv_iconst (v := 1) hx hb dX6_isFlag_9 (by decide) ?_
    refine lv_goto (tgt := 14) hx hb dX6_isFlag_10 (by decide) ?_
    have hzb : narrow .boolean (.int (1 : Int32)) = .int (1 : Int32) := rfl
    obtain rfl := Option.some.inj hf
    exact rt_z hQ hx hb hr hzb hlocks hP hD hS dX6_isFlag_14

theorem dX6_openFrameTold_0 : decode cX6_openFrameTold 0 = .ok (.aload_n 0, 1) := by decide +kernel
theorem dX6_openFrameTold_1 : decode cX6_openFrameTold 1 = .ok (.getfield 47, 3) := by decide +kernel
theorem dX6_openFrameTold_4 : decode cX6_openFrameTold 4 = .ok (.istore_n 1, 1) := by decide +kernel
theorem dX6_openFrameTold_5 : decode cX6_openFrameTold 5 = .ok (.iload_n 1, 1) := by decide +kernel
theorem dX6_openFrameTold_6 : decode cX6_openFrameTold 6 = .ok (.iconst 2, 1) := by decide +kernel
theorem dX6_openFrameTold_7 : decode cX6_openFrameTold 7 = .ok (.iadd, 1) := by decide +kernel
theorem dX6_openFrameTold_8 : decode cX6_openFrameTold 8 = .ok (.aload_n 0, 1) := by decide +kernel
theorem dX6_openFrameTold_9 : decode cX6_openFrameTold 9 = .ok (.bipush 8, 2) := by decide +kernel
theorem dX6_openFrameTold_11 : decode cX6_openFrameTold 11 = .ok (.invokevirtual 165, 3) := by decide +kernel
theorem dX6_openFrameTold_14 : decode cX6_openFrameTold 14 = .ok (.ifCond .eq 8, 3) := by decide +kernel
theorem dX6_openFrameTold_17 : decode cX6_openFrameTold 17 = .ok (.bipush 8, 2) := by decide +kernel
theorem dX6_openFrameTold_19 : decode cX6_openFrameTold 19 = .ok (.goto 4, 3) := by decide +kernel
theorem dX6_openFrameTold_22 : decode cX6_openFrameTold 22 = .ok (.iconst 0, 1) := by decide +kernel
theorem dX6_openFrameTold_23 : decode cX6_openFrameTold 23 = .ok (.iadd, 1) := by decide +kernel
theorem dX6_openFrameTold_24 : decode cX6_openFrameTold 24 = .ok (.istore_n 2, 1) := by decide +kernel
theorem dX6_openFrameTold_25 : decode cX6_openFrameTold 25 = .ok (.iload_n 2, 1) := by decide +kernel
theorem dX6_openFrameTold_26 : decode cX6_openFrameTold 26 = .ok (.aload_n 0, 1) := by decide +kernel
theorem dX6_openFrameTold_27 : decode cX6_openFrameTold 27 = .ok (.iconst 1, 1) := by decide +kernel
theorem dX6_openFrameTold_28 : decode cX6_openFrameTold 28 = .ok (.invokevirtual 165, 3) := by decide +kernel
theorem dX6_openFrameTold_31 : decode cX6_openFrameTold 31 = .ok (.ifCond .eq 7, 3) := by decide +kernel
theorem dX6_openFrameTold_34 : decode cX6_openFrameTold 34 = .ok (.iconst 4, 1) := by decide +kernel
theorem dX6_openFrameTold_35 : decode cX6_openFrameTold 35 = .ok (.goto 4, 3) := by decide +kernel
theorem dX6_openFrameTold_38 : decode cX6_openFrameTold 38 = .ok (.iconst 0, 1) := by decide +kernel
theorem dX6_openFrameTold_39 : decode cX6_openFrameTold 39 = .ok (.iadd, 1) := by decide +kernel
theorem dX6_openFrameTold_40 : decode cX6_openFrameTold 40 = .ok (.istore_n 3, 1) := by decide +kernel
theorem dX6_openFrameTold_41 : decode cX6_openFrameTold 41 = .ok (.iload_n 3, 1) := by decide +kernel
theorem dX6_openFrameTold_42 : decode cX6_openFrameTold 42 = .ok (.aload_n 0, 1) := by decide +kernel
theorem dX6_openFrameTold_43 : decode cX6_openFrameTold 43 = .ok (.getfield 54, 3) := by decide +kernel
theorem dX6_openFrameTold_46 : decode cX6_openFrameTold 46 = .ok (.if_icmp .lt 13, 3) := by decide +kernel
theorem dX6_openFrameTold_49 : decode cX6_openFrameTold 49 = .ok (.aload_n 0, 1) := by decide +kernel
theorem dX6_openFrameTold_50 : decode cX6_openFrameTold 50 = .ok (.iconst 1, 1) := by decide +kernel
theorem dX6_openFrameTold_51 : decode cX6_openFrameTold 51 = .ok (.aload_n 0, 1) := by decide +kernel
theorem dX6_openFrameTold_52 : decode cX6_openFrameTold 52 = .ok (.getfield 54, 3) := by decide +kernel
theorem dX6_openFrameTold_55 : decode cX6_openFrameTold 55 = .ok (.invokevirtual 98, 3) := by decide +kernel
theorem dX6_openFrameTold_58 : decode cX6_openFrameTold 58 = .ok (.ireturn, 1) := by decide +kernel
theorem dX6_openFrameTold_59 : decode cX6_openFrameTold 59 = .ok (.aload_n 0, 1) := by decide +kernel
theorem dX6_openFrameTold_60 : decode cX6_openFrameTold 60 = .ok (.aload_n 0, 1) := by decide +kernel
theorem dX6_openFrameTold_61 : decode cX6_openFrameTold 61 = .ok (.getfield 9, 3) := by decide +kernel
theorem dX6_openFrameTold_64 : decode cX6_openFrameTold 64 = .ok (.iload_n 1, 1) := by decide +kernel
theorem dX6_openFrameTold_65 : decode cX6_openFrameTold 65 = .ok (.iconst 2, 1) := by decide +kernel
theorem dX6_openFrameTold_66 : decode cX6_openFrameTold 66 = .ok (.iadd, 1) := by decide +kernel
theorem dX6_openFrameTold_67 : decode cX6_openFrameTold 67 = .ok (.bipush 8, 2) := by decide +kernel
theorem dX6_openFrameTold_69 : decode cX6_openFrameTold 69 = .ok (.invokevirtual 117, 3) := by decide +kernel
theorem dX6_openFrameTold_72 : decode cX6_openFrameTold 72 = .ok (.putfield 174, 3) := by decide +kernel
theorem dX6_openFrameTold_75 : decode cX6_openFrameTold 75 = .ok (.aload_n 0, 1) := by decide +kernel
theorem dX6_openFrameTold_76 : decode cX6_openFrameTold 76 = .ok (.getfield 9, 3) := by decide +kernel
theorem dX6_openFrameTold_79 : decode cX6_openFrameTold 79 = .ok (.iload_n 1, 1) := by decide +kernel
theorem dX6_openFrameTold_80 : decode cX6_openFrameTold 80 = .ok (.iload_n 3, 1) := by decide +kernel
theorem dX6_openFrameTold_81 : decode cX6_openFrameTold 81 = .ok (.iload_n 1, 1) := by decide +kernel
theorem dX6_openFrameTold_82 : decode cX6_openFrameTold 82 = .ok (.isub, 1) := by decide +kernel
theorem dX6_openFrameTold_83 : decode cX6_openFrameTold 83 = .ok (.invokestatic 177, 3) := by decide +kernel
theorem dX6_openFrameTold_86 : decode cX6_openFrameTold 86 = .ok (.bipush 8, 2) := by decide +kernel
theorem dX6_openFrameTold_88 : decode cX6_openFrameTold 88 = .ok (.iushr, 1) := by decide +kernel
theorem dX6_openFrameTold_89 : decode cX6_openFrameTold 89 = .ok (.sipush 255, 3) := by decide +kernel
theorem dX6_openFrameTold_92 : decode cX6_openFrameTold 92 = .ok (.iand, 1) := by decide +kernel
theorem dX6_openFrameTold_93 : decode cX6_openFrameTold 93 = .ok (.istore 4, 2) := by decide +kernel
theorem dX6_openFrameTold_95 : decode cX6_openFrameTold 95 = .ok (.aload_n 0, 1) := by decide +kernel
theorem dX6_openFrameTold_96 : decode cX6_openFrameTold 96 = .ok (.getfield 9, 3) := by decide +kernel
theorem dX6_openFrameTold_99 : decode cX6_openFrameTold 99 = .ok (.iload_n 3, 1) := by decide +kernel
theorem dX6_openFrameTold_100 : decode cX6_openFrameTold 100 = .ok (.invokevirtual 89, 3) := by decide +kernel
theorem dX6_openFrameTold_103 : decode cX6_openFrameTold 103 = .ok (.iload 4, 2) := by decide +kernel
theorem dX6_openFrameTold_105 : decode cX6_openFrameTold 105 = .ok (.if_icmp .eq 11, 3) := by decide +kernel
theorem dX6_openFrameTold_108 : decode cX6_openFrameTold 108 = .ok (.aload_n 0, 1) := by decide +kernel
theorem dX6_openFrameTold_109 : decode cX6_openFrameTold 109 = .ok (.bipush 6, 2) := by decide +kernel
theorem dX6_openFrameTold_111 : decode cX6_openFrameTold 111 = .ok (.iload_n 3, 1) := by decide +kernel
theorem dX6_openFrameTold_112 : decode cX6_openFrameTold 112 = .ok (.invokevirtual 98, 3) := by decide +kernel
theorem dX6_openFrameTold_115 : decode cX6_openFrameTold 115 = .ok (.ireturn, 1) := by decide +kernel
theorem dX6_openFrameTold_116 : decode cX6_openFrameTold 116 = .ok (.aload_n 0, 1) := by decide +kernel
theorem dX6_openFrameTold_117 : decode cX6_openFrameTold 117 = .ok (.iconst 1, 1) := by decide +kernel
theorem dX6_openFrameTold_118 : decode cX6_openFrameTold 118 = .ok (.invokevirtual 165, 3) := by decide +kernel
theorem dX6_openFrameTold_121 : decode cX6_openFrameTold 121 = .ok (.ifCond .eq 28, 3) := by decide +kernel
theorem dX6_openFrameTold_124 : decode cX6_openFrameTold 124 = .ok (.aload_n 0, 1) := by decide +kernel
theorem dX6_openFrameTold_125 : decode cX6_openFrameTold 125 = .ok (.getfield 9, 3) := by decide +kernel
theorem dX6_openFrameTold_128 : decode cX6_openFrameTold 128 = .ok (.iload_n 2, 1) := by decide +kernel
theorem dX6_openFrameTold_129 : decode cX6_openFrameTold 129 = .ok (.invokevirtual 183, 3) := by decide +kernel
theorem dX6_openFrameTold_132 : decode cX6_openFrameTold 132 = .ok (.aload_n 0, 1) := by decide +kernel
theorem dX6_openFrameTold_133 : decode cX6_openFrameTold 133 = .ok (.getfield 18, 3) := by decide +kernel
theorem dX6_openFrameTold_136 : decode cX6_openFrameTold 136 = .ok (.iconst 5, 1) := by decide +kernel
theorem dX6_openFrameTold_137 : decode cX6_openFrameTold 137 = .ok (.iaload, 1) := by decide +kernel
theorem dX6_openFrameTold_138 : decode cX6_openFrameTold 138 = .ok (.if_icmp .eq 11, 3) := by decide +kernel
theorem dX6_openFrameTold_141 : decode cX6_openFrameTold 141 = .ok (.aload_n 0, 1) := by decide +kernel
theorem dX6_openFrameTold_142 : decode cX6_openFrameTold 142 = .ok (.bipush 11, 2) := by decide +kernel
theorem dX6_openFrameTold_144 : decode cX6_openFrameTold 144 = .ok (.iload_n 2, 1) := by decide +kernel
theorem dX6_openFrameTold_145 : decode cX6_openFrameTold 145 = .ok (.invokevirtual 98, 3) := by decide +kernel
theorem dX6_openFrameTold_148 : decode cX6_openFrameTold 148 = .ok (.ireturn, 1) := by decide +kernel
theorem dX6_openFrameTold_149 : decode cX6_openFrameTold 149 = .ok (.aload_n 0, 1) := by decide +kernel
theorem dX6_openFrameTold_150 : decode cX6_openFrameTold 150 = .ok (.iload_n 3, 1) := by decide +kernel
theorem dX6_openFrameTold_151 : decode cX6_openFrameTold 151 = .ok (.iconst 1, 1) := by decide +kernel
theorem dX6_openFrameTold_152 : decode cX6_openFrameTold 152 = .ok (.iadd, 1) := by decide +kernel
theorem dX6_openFrameTold_153 : decode cX6_openFrameTold 153 = .ok (.putfield 47, 3) := by decide +kernel
theorem dX6_openFrameTold_156 : decode cX6_openFrameTold 156 = .ok (.iconst 1, 1) := by decide +kernel
theorem dX6_openFrameTold_157 : decode cX6_openFrameTold 157 = .ok (.ireturn, 1) := by decide +kernel
def m_Opener_openFrameTold_J149 (h0_broken : Int32) (h0_brokenAt : Int32) (v3_6 : Int32) (r7 : Int64) : Option (Int32 × Int32 × Int32 × Int32 × Int64) :=
  bnd (v3_6 + (1 : Int32)) fun p_12 =>
  some ((1 : Int32), h0_broken, h0_brokenAt, p_12, r7)
def m_Opener_openFrameTold_J39 (h0_broken : Int32) (h0_brokenAt : Int32) (h0_at : Int32) (h0_end : Int32) (h0_flags : Int32) (h0_size : Int64) (h0_input_count : Int32) (h0_input_held_n : Nat) (h0_input_held_f : Nat → Int32) (h0_settings_n : Nat) (h0_settings_f : Nat → Int32) (v2_3 : Int32) (s5 : Int32) : Option (Int32 × Int32 × Int32 × Int32 × Int64) :=
  bnd (v2_3 + s5) fun v3_6 =>
  if v3_6 < h0_end then
    (m_Bytes_number (h0_at + (2 : Int32)) (8 : Int32) h0_input_count h0_input_held_n h0_input_held_f).bind fun r7 =>
    (m_Sums_sumOf h0_at (v3_6 - h0_at) h0_input_count h0_input_held_n h0_input_held_f).bind fun r8 =>
    bnd ((iushr r8 (8 : Int32)) &&& (255 : Int32)) fun v4_9 =>
    (m_Bytes_at v3_6 h0_input_count h0_input_held_n h0_input_held_f).bind fun r10 =>
    if r10 = v4_9 then
      (m_Opener_isFlag (1 : Int32) h0_flags).bind fun r11 =>
      if r11 = 0 then
        m_Opener_openFrameTold_J149 h0_broken h0_brokenAt v3_6 r7
      else
        (m_Bytes_number32 v2_3 h0_input_count h0_input_held_n h0_input_held_f).bind fun r13 =>
        chk (5 : Int32) h0_settings_n <|
        if r13 = (h0_settings_f (5 : Int32).toNatClampNeg) then
          m_Opener_openFrameTold_J149 h0_broken h0_brokenAt v3_6 r7
        else
          (m_Opener_breaks (11 : Int32) v2_3).bind fun (r14, u15, u16) =>
          bch r14 <|
          some (r14, u15, u16, h0_at, r7)
    else
      (m_Opener_breaks (6 : Int32) v3_6).bind fun (r17, u18, u19) =>
      bch r17 <|
      some (r17, u18, u19, h0_at, r7)
  else
    (m_Opener_breaks (1 : Int32) h0_end).bind fun (r20, u21, u22) =>
    bch r20 <|
    some (r20, u21, u22, h0_at, h0_size)
def m_Opener_openFrameTold_J23 (h0_broken : Int32) (h0_brokenAt : Int32) (h0_at : Int32) (h0_end : Int32) (h0_flags : Int32) (h0_size : Int64) (h0_input_count : Int32) (h0_input_held_n : Nat) (h0_input_held_f : Nat → Int32) (h0_settings_n : Nat) (h0_settings_f : Nat → Int32) (s2 : Int32) : Option (Int32 × Int32 × Int32 × Int32 × Int64) :=
  bnd ((h0_at + (2 : Int32)) + s2) fun v2_3 =>
  (m_Opener_isFlag (1 : Int32) h0_flags).bind fun r4 =>
  if r4 = 0 then
    m_Opener_openFrameTold_J39 h0_broken h0_brokenAt h0_at h0_end h0_flags h0_size h0_input_count h0_input_held_n h0_input_held_f h0_settings_n h0_settings_f v2_3 (0 : Int32)
  else
    m_Opener_openFrameTold_J39 h0_broken h0_brokenAt h0_at h0_end h0_flags h0_size h0_input_count h0_input_held_n h0_input_held_f h0_settings_n h0_settings_f v2_3 (4 : Int32)
def m_Opener_openFrameTold (h0_broken : Int32) (h0_brokenAt : Int32) (h0_at : Int32) (h0_end : Int32) (h0_flags : Int32) (h0_size : Int64) (h0_input_count : Int32) (h0_input_held_n : Nat) (h0_input_held_f : Nat → Int32) (h0_settings_n : Nat) (h0_settings_f : Nat → Int32) : Option (Int32 × Int32 × Int32 × Int32 × Int64) :=
  (m_Opener_isFlag (8 : Int32) h0_flags).bind fun r1 =>
  if r1 = 0 then
    m_Opener_openFrameTold_J23 h0_broken h0_brokenAt h0_at h0_end h0_flags h0_size h0_input_count h0_input_held_n h0_input_held_f h0_settings_n h0_settings_f (0 : Int32)
  else
    m_Opener_openFrameTold_J23 h0_broken h0_brokenAt h0_at h0_end h0_flags h0_size h0_input_count h0_input_held_n h0_input_held_f h0_settings_n h0_settings_f (8 : Int32)
def rm_Opener_openFrameTold : Room := { frames := 3, cells := 0, slots := 0, locals := 75 }
set_option maxHeartbeats 4000000 in
set_option maxRecDepth 100000 in
theorem c_Opener_openFrameTold {l : Launch} {dC : Nat → ClassId} {dI : Nat → Nat → Nat} {cB cI : ClassId} {sz : Nat} {h0 : Nat} {h0_input : Nat} {h0_input_held : Nat} {h0_settings : Nat} {w_h0_words : Value} {w_h0_to : Value} {w_h0_blocks : Value} {h0_broken : Int32} {h0_brokenAt : Int32} {h0_at : Int32} {h0_end : Int32} {w_h0_begin : Value} {w_h0_copies : Value} {w_h0_literals : Value} {w_h0_parts : Value} {w_h0_frameBegin : Value} {h0_flags : Int32} {w_h0_width : Value} {h0_size : Int64} {h0_input_count : Int32} {h0_input_held_n : Nat} {h0_input_held_f : Nat → Int32} {h0_settings_n : Nat} {h0_settings_f : Nat → Int32} {o_r : Int32} {o_h0_broken : Int32} {o_h0_brokenAt : Int32} {o_h0_at : Int32} {o_h0_size : Int64} (hf : m_Opener_openFrameTold h0_broken h0_brokenAt h0_at h0_end h0_flags h0_size h0_input_count h0_input_held_n h0_input_held_f h0_settings_n h0_settings_f = some (o_r, o_h0_broken, o_h0_brokenAt, o_h0_at, o_h0_size)) : Met l yX6_openFrameTold (Cond.code yX6_openFrameTold cX6_openFrameTold 5 (some .boolean) :: lw_G) rm_Opener_openFrameTold (PreC (dC, dI) [(cB, .byte), (cI, .int)] [.ref h0] sz [(h0, .inr (5, [.ref h0_input, w_h0_words, .ref h0_settings, w_h0_to, w_h0_blocks, .int h0_broken, .int h0_brokenAt, .int h0_at, .int h0_end, w_h0_begin, w_h0_copies, w_h0_literals, w_h0_parts, w_h0_frameBegin, .int h0_flags, w_h0_width, .long h0_size])), (h0_input, .inr (2, [.ref h0_input_held, .int h0_input_count])), (h0_input_held, .inl (cB, h0_input_held_n, .inl h0_input_held_f)), (h0_settings, .inl (cI, h0_settings_n, .inl h0_settings_f))]) (QcI o_r (dC, dI) [(h0, .inr (5, [.ref h0_input, w_h0_words, .ref h0_settings, w_h0_to, w_h0_blocks, .int o_h0_broken, .int o_h0_brokenAt, .int o_h0_at, .int h0_end, w_h0_begin, w_h0_copies, w_h0_literals, w_h0_parts, w_h0_frameBegin, .int h0_flags, w_h0_width, .long o_h0_size])), (h0_input, .inr (2, [.ref h0_input_held, .int h0_input_count])), (h0_input_held, .inl (cB, h0_input_held_n, .inl h0_input_held_f)), (h0_settings, .inl (cI, h0_settings_n, .inl h0_settings_f))] (va_A [(h0, .inr (5, [.ref h0_input, w_h0_words, .ref h0_settings, w_h0_to, w_h0_blocks, .int h0_broken, .int h0_brokenAt, .int h0_at, .int h0_end, w_h0_begin, w_h0_copies, w_h0_literals, w_h0_parts, w_h0_frameBegin, .int h0_flags, w_h0_width, .long h0_size])), (h0_input, .inr (2, [.ref h0_input_held, .int h0_input_count])), (h0_input_held, .inl (cB, h0_input_held_n, .inl h0_input_held_f)), (h0_settings, .inl (cI, h0_settings_n, .inl h0_settings_f))] sz)) 0 0 (va_A [(h0, .inr (5, [.ref h0_input, w_h0_words, .ref h0_settings, w_h0_to, w_h0_blocks, .int h0_broken, .int h0_brokenAt, .int h0_at, .int h0_end, w_h0_begin, w_h0_copies, w_h0_literals, w_h0_parts, w_h0_frameBegin, .int h0_flags, w_h0_width, .long h0_size])), (h0_input, .inr (2, [.ref h0_input_held, .int h0_input_count])), (h0_input_held, .inl (cB, h0_input_held_n, .inl h0_input_held_f)), (h0_settings, .inl (cI, h0_settings_n, .inl h0_settings_f))] sz) := by
  refine met_of (Qf := fun A => QcI o_r (dC, dI) [(h0, .inr (5, [.ref h0_input, w_h0_words, .ref h0_settings, w_h0_to, w_h0_blocks, .int o_h0_broken, .int o_h0_brokenAt, .int o_h0_at, .int h0_end, w_h0_begin, w_h0_copies, w_h0_literals, w_h0_parts, w_h0_frameBegin, .int h0_flags, w_h0_width, .long o_h0_size])), (h0_input, .inr (2, [.ref h0_input_held, .int h0_input_count])), (h0_input_held, .inl (cB, h0_input_held_n, .inl h0_input_held_f)), (h0_settings, .inl (cI, h0_settings_n, .inl h0_settings_f))] A) (by decide) (Nat.le_of_ble_eq_true rfl) ?_
  intro p e s m below meth c A ls Q hx hb hr hml hown hts hlocks hnm hP hK hD hN hT hA hl hQ
  have hown : s.vm.findClass RX6 = some m.cls := hown
  have hS : va_S A s.heap s.heap [] := va_S.rf
  have hl : lv_has ls 5 [(0, .ref h0)] := hl
  unfold m_Opener_openFrameTold at hf
  refine lv_aload_n hx hb dX6_openFrameTold_0 rfl (lv_at hl 0 rfl) ?_
  refine va_get (D := (dC, dI)) (ci := 5) (v := .int h0_at) (C := RX6) (T := TX6) (N := 17) hx hb hts inG_X6 hown hK hP 0 rfl rfl 7 (by decide) (hts _ kw_296) (fun _ h9 => h9) rfl dX6_openFrameTold_1 ?_
  refine lv_istore_n (lv' := [(1, .int h0_at), (0, .ref h0)]) hx hb dX6_openFrameTold_4 rfl hl (by decide) rfl (fun ls hl => ?_)
  refine lv_iload_n hx hb dX6_openFrameTold_5 rfl (lv_at hl 0 rfl) ?_
  refine lv_iconst (v := 2) hx hb dX6_openFrameTold_6 (by decide) ?_
  refine lv_iadd hx hb dX6_openFrameTold_7 ?_
  refine lv_aload_n hx hb dX6_openFrameTold_8 rfl (lv_at hl 1 rfl) ?_
  refine lv_bipush (v := 8) hx hb dX6_openFrameTold_9 (by decide) ?_
  obtain ⟨r1, hc, hf⟩ := bind_some hf
  refine nx_i (rn_V (As := [.int (8 : Int32)]) (rest := [.int (h0_at + (2 : Int32))]) (n := 1) (ci := 5) (q0 := 0) ⟨hx, hb, hml, hown, hts⟩ (c_Opener_isFlag (l := l) (dC := dC) (dI := dI) (cB := cB) (cI := cI) (h0 := h0) (a1 := (8 : Int32)) (w_h0_input := (.ref h0_input)) (w_h0_words := (w_h0_words)) (w_h0_settings := (.ref h0_settings)) (w_h0_to := (w_h0_to)) (w_h0_blocks := (w_h0_blocks)) (w_h0_broken := (.int h0_broken)) (w_h0_brokenAt := (.int h0_brokenAt)) (w_h0_at := (.int h0_at)) (w_h0_end := (.int h0_end)) (w_h0_begin := (w_h0_begin)) (w_h0_copies := (w_h0_copies)) (w_h0_literals := (w_h0_literals)) (w_h0_parts := (w_h0_parts)) (w_h0_frameBegin := (w_h0_frameBegin)) (h0_flags := h0_flags) (w_h0_width := (w_h0_width)) (w_h0_size := (.long h0_size))  (o_r := r1) hc) (wV kw_928 kw_930 kw_35 kw_92 kw_931) (by decide +kernel) ⟨Nat.le_of_ble_eq_true rfl, Nat.le_of_ble_eq_true rfl⟩ hK hP hD hN hT hS (va_free (wc := [(h0, .inr (5, [.ref h0_input, w_h0_words, .ref h0_settings, w_h0_to, w_h0_blocks, .int h0_broken, .int h0_brokenAt, .int h0_at, .int h0_end, w_h0_begin, w_h0_copies, w_h0_literals, w_h0_parts, w_h0_frameBegin, .int h0_flags, w_h0_width, .long h0_size]))]) hD hS hA [0] rfl) [0] rfl (by decide) rfl rfl rfl hl.1 rfl (lv_room (Nat.le_of_ble_eq_true rfl)) dX6_openFrameTold_11 ⟨Nat.le_of_ble_eq_true rfl, Nat.le_of_ble_eq_true rfl⟩) hP hD hS hA (wr := [(h0_input, .inr (2, [.ref h0_input_held, .int h0_input_count])), (h0_input_held, .inl (cB, h0_input_held_n, .inl h0_input_held_f)), (h0_settings, .inl (cI, h0_settings_n, .inl h0_settings_f))]) (w1 := [(h0, .inr (5, [.ref h0_input, w_h0_words, .ref h0_settings, w_h0_to, w_h0_blocks, .int h0_broken, .int h0_brokenAt, .int h0_at, .int h0_end, w_h0_begin, w_h0_copies, w_h0_literals, w_h0_parts, w_h0_frameBegin, .int h0_flags, w_h0_width, .long h0_size]))]) (ws' := [(h0, .inr (5, [.ref h0_input, w_h0_words, .ref h0_settings, w_h0_to, w_h0_blocks, .int h0_broken, .int h0_brokenAt, .int h0_at, .int h0_end, w_h0_begin, w_h0_copies, w_h0_literals, w_h0_parts, w_h0_frameBegin, .int h0_flags, w_h0_width, .long h0_size])), (h0_input, .inr (2, [.ref h0_input_held, .int h0_input_count])), (h0_input_held, .inl (cB, h0_input_held_n, .inl h0_input_held_f)), (h0_settings, .inl (cI, h0_settings_n, .inl h0_settings_f))]) [0] [1, 2, 3] [3, 0, 1, 2] rfl rfl (by decide) (by decide) rfl (by decide) (fun H locs hP hD hS => ?_)
  have hJ_23 : ∀ (s2 : Int32) (H : Heap) (locs : List Loc) (ls : Array Slot), m_Opener_openFrameTold_J23 h0_broken h0_brokenAt h0_at h0_end h0_flags h0_size h0_input_count h0_input_held_n h0_input_held_f h0_settings_n h0_settings_f s2 = some (o_r, o_h0_broken, o_h0_brokenAt, o_h0_at, o_h0_size) → va_P (dC, dI) vwCl [(h0, .inr (5, [.ref h0_input, w_h0_words, .ref h0_settings, w_h0_to, w_h0_blocks, .int h0_broken, .int h0_brokenAt, .int h0_at, .int h0_end, w_h0_begin, w_h0_copies, w_h0_literals, w_h0_parts, w_h0_frameBegin, .int h0_flags, w_h0_width, .long h0_size])), (h0_input, .inr (2, [.ref h0_input_held, .int h0_input_count])), (h0_input_held, .inl (cB, h0_input_held_n, .inl h0_input_held_f)), (h0_settings, .inl (cI, h0_settings_n, .inl h0_settings_f))] H → va_D A [(h0, .inr (5, [.ref h0_input, w_h0_words, .ref h0_settings, w_h0_to, w_h0_blocks, .int h0_broken, .int h0_brokenAt, .int h0_at, .int h0_end, w_h0_begin, w_h0_copies, w_h0_literals, w_h0_parts, w_h0_frameBegin, .int h0_flags, w_h0_width, .long h0_size])), (h0_input, .inr (2, [.ref h0_input_held, .int h0_input_count])), (h0_input_held, .inl (cB, h0_input_held_n, .inl h0_input_held_f)), (h0_settings, .inl (cI, h0_settings_n, .inl h0_settings_f))] → va_S A s.heap H locs → lv_has ls 5 [(0, .ref h0), (1, .int h0_at)] → W p l e (rm_Opener_openFrameTold) s m ([.ref h0] : List Value).toArray below meth c H locs 0 0 Q (F0 m 23 ls [.int s2, .int (h0_at + (2 : Int32))]) := by
    intro s2 H locs ls hf hP hD hS hl
    unfold m_Opener_openFrameTold_J23 at hf
    refine lv_iadd hx hb dX6_openFrameTold_23 ?_
    refine lv_topi (fun v2_3 e_v2_3 => ?_)
    replace hf := bnd_at e_v2_3 hf
    refine lv_istore_n (lv' := [(2, .int v2_3), (0, .ref h0), (1, .int h0_at)]) hx hb dX6_openFrameTold_24 rfl hl (by decide) rfl (fun ls hl => ?_)
    refine lv_iload_n hx hb dX6_openFrameTold_25 rfl (lv_at hl 0 rfl) ?_
    refine lv_aload_n hx hb dX6_openFrameTold_26 rfl (lv_at hl 1 rfl) ?_
    refine lv_iconst (v := 1) hx hb dX6_openFrameTold_27 (by decide) ?_
    obtain ⟨r4, hc, hf⟩ := bind_some hf
    refine nx_i (rn_V (As := [.int (1 : Int32)]) (rest := [.int v2_3]) (n := 1) (ci := 5) (q0 := 0) ⟨hx, hb, hml, hown, hts⟩ (c_Opener_isFlag (l := l) (dC := dC) (dI := dI) (cB := cB) (cI := cI) (h0 := h0) (a1 := (1 : Int32)) (w_h0_input := (.ref h0_input)) (w_h0_words := (w_h0_words)) (w_h0_settings := (.ref h0_settings)) (w_h0_to := (w_h0_to)) (w_h0_blocks := (w_h0_blocks)) (w_h0_broken := (.int h0_broken)) (w_h0_brokenAt := (.int h0_brokenAt)) (w_h0_at := (.int h0_at)) (w_h0_end := (.int h0_end)) (w_h0_begin := (w_h0_begin)) (w_h0_copies := (w_h0_copies)) (w_h0_literals := (w_h0_literals)) (w_h0_parts := (w_h0_parts)) (w_h0_frameBegin := (w_h0_frameBegin)) (h0_flags := h0_flags) (w_h0_width := (w_h0_width)) (w_h0_size := (.long h0_size))  (o_r := r4) hc) (wV kw_928 kw_930 kw_35 kw_92 kw_931) (by decide +kernel) ⟨Nat.le_of_ble_eq_true rfl, Nat.le_of_ble_eq_true rfl⟩ hK hP hD hN hT hS (va_free (wc := [(h0, .inr (5, [.ref h0_input, w_h0_words, .ref h0_settings, w_h0_to, w_h0_blocks, .int h0_broken, .int h0_brokenAt, .int h0_at, .int h0_end, w_h0_begin, w_h0_copies, w_h0_literals, w_h0_parts, w_h0_frameBegin, .int h0_flags, w_h0_width, .long h0_size]))]) hD hS hA [0] rfl) [0] rfl (by decide) rfl rfl rfl hl.1 rfl (lv_room (Nat.le_of_ble_eq_true rfl)) dX6_openFrameTold_28 ⟨Nat.le_of_ble_eq_true rfl, Nat.le_of_ble_eq_true rfl⟩) hP hD hS hA (wr := [(h0_input, .inr (2, [.ref h0_input_held, .int h0_input_count])), (h0_input_held, .inl (cB, h0_input_held_n, .inl h0_input_held_f)), (h0_settings, .inl (cI, h0_settings_n, .inl h0_settings_f))]) (w1 := [(h0, .inr (5, [.ref h0_input, w_h0_words, .ref h0_settings, w_h0_to, w_h0_blocks, .int h0_broken, .int h0_brokenAt, .int h0_at, .int h0_end, w_h0_begin, w_h0_copies, w_h0_literals, w_h0_parts, w_h0_frameBegin, .int h0_flags, w_h0_width, .long h0_size]))]) (ws' := [(h0, .inr (5, [.ref h0_input, w_h0_words, .ref h0_settings, w_h0_to, w_h0_blocks, .int h0_broken, .int h0_brokenAt, .int h0_at, .int h0_end, w_h0_begin, w_h0_copies, w_h0_literals, w_h0_parts, w_h0_frameBegin, .int h0_flags, w_h0_width, .long h0_size])), (h0_input, .inr (2, [.ref h0_input_held, .int h0_input_count])), (h0_input_held, .inl (cB, h0_input_held_n, .inl h0_input_held_f)), (h0_settings, .inl (cI, h0_settings_n, .inl h0_settings_f))]) [0] [1, 2, 3] [3, 0, 1, 2] rfl rfl (by decide) (by decide) rfl (by decide) (fun H locs hP hD hS => ?_)
    have hJ_39 : ∀ (s5 : Int32) (H : Heap) (locs : List Loc) (ls : Array Slot), m_Opener_openFrameTold_J39 h0_broken h0_brokenAt h0_at h0_end h0_flags h0_size h0_input_count h0_input_held_n h0_input_held_f h0_settings_n h0_settings_f v2_3 s5 = some (o_r, o_h0_broken, o_h0_brokenAt, o_h0_at, o_h0_size) → va_P (dC, dI) vwCl [(h0, .inr (5, [.ref h0_input, w_h0_words, .ref h0_settings, w_h0_to, w_h0_blocks, .int h0_broken, .int h0_brokenAt, .int h0_at, .int h0_end, w_h0_begin, w_h0_copies, w_h0_literals, w_h0_parts, w_h0_frameBegin, .int h0_flags, w_h0_width, .long h0_size])), (h0_input, .inr (2, [.ref h0_input_held, .int h0_input_count])), (h0_input_held, .inl (cB, h0_input_held_n, .inl h0_input_held_f)), (h0_settings, .inl (cI, h0_settings_n, .inl h0_settings_f))] H → va_D A [(h0, .inr (5, [.ref h0_input, w_h0_words, .ref h0_settings, w_h0_to, w_h0_blocks, .int h0_broken, .int h0_brokenAt, .int h0_at, .int h0_end, w_h0_begin, w_h0_copies, w_h0_literals, w_h0_parts, w_h0_frameBegin, .int h0_flags, w_h0_width, .long h0_size])), (h0_input, .inr (2, [.ref h0_input_held, .int h0_input_count])), (h0_input_held, .inl (cB, h0_input_held_n, .inl h0_input_held_f)), (h0_settings, .inl (cI, h0_settings_n, .inl h0_settings_f))] → va_S A s.heap H locs → lv_has ls 5 [(0, .ref h0), (1, .int h0_at), (2, .int v2_3)] → W p l e (rm_Opener_openFrameTold) s m ([.ref h0] : List Value).toArray below meth c H locs 0 0 Q (F0 m 39 ls [.int s5, .int v2_3]) := by
      intro s5 H locs ls hf hP hD hS hl
      unfold m_Opener_openFrameTold_J39 at hf
      refine lv_iadd hx hb dX6_openFrameTold_39 ?_
      refine lv_topi (fun v3_6 e_v3_6 => ?_)
      replace hf := bnd_at e_v3_6 hf
      refine lv_istore_n (lv' := [(3, .int v3_6), (0, .ref h0), (1, .int h0_at), (2, .int v2_3)]) hx hb dX6_openFrameTold_40 rfl hl (by decide) rfl (fun ls hl => ?_)
      refine lv_iload_n hx hb dX6_openFrameTold_41 rfl (lv_at hl 0 rfl) ?_
      refine lv_aload_n hx hb dX6_openFrameTold_42 rfl (lv_at hl 1 rfl) ?_
      refine va_get (D := (dC, dI)) (ci := 5) (v := .int h0_end) (C := RX6) (T := TX6) (N := 17) hx hb hts inG_X6 hown hK hP 0 rfl rfl 8 (by decide) (hts _ kw_297) (fun _ h9 => h9) rfl dX6_openFrameTold_43 ?_
      refine lv_icmp_lt (tgt := 59) hx hb dX6_openFrameTold_46 (by decide) (fun c_46 => ?_) (fun c_46 => ?_)
      · replace hf := if_t c_46 hf
        refine lv_aload_n hx hb dX6_openFrameTold_59 rfl (lv_at hl 1 rfl) ?_
        refine lv_aload_n hx hb dX6_openFrameTold_60 rfl (lv_at hl 1 rfl) ?_
        refine va_get (D := (dC, dI)) (ci := 5) (v := .ref h0_input) (C := RX6) (T := TX6) (N := 17) hx hb hts inG_X6 hown hK hP 0 rfl rfl 0 (by decide) (hts _ kw_289) (fun _ h9 => h9) rfl dX6_openFrameTold_61 ?_
        refine lv_iload_n hx hb dX6_openFrameTold_64 rfl (lv_at hl 2 rfl) ?_
        refine lv_iconst (v := 2) hx hb dX6_openFrameTold_65 (by decide) ?_
        refine lv_iadd hx hb dX6_openFrameTold_66 ?_
        refine lv_bipush (v := 8) hx hb dX6_openFrameTold_67 (by decide) ?_
        obtain ⟨r7, hc, hf⟩ := bind_some hf
        refine nx_l (rn_V (As := [.int (h0_at + (2 : Int32)), .int (8 : Int32)]) (rest := [.ref h0]) (n := 2) (ci := 2) (q0 := 0) ⟨hx, hb, hml, hown, hts⟩ (c_Bytes_number (l := l) (dC := dC) (dI := dI) (cB := cB) (cI := cI) (h0 := h0_input) (a1 := (h0_at + (2 : Int32))) (a2 := (8 : Int32)) (h0_held := h0_input_held) (h0_count := h0_input_count) (h0_held_n := h0_input_held_n) (h0_held_f := h0_input_held_f)  (o_r := r7) hc) (wV kw_889 kw_890 kw_891 kw_83 kw_892) (by decide +kernel) ⟨Nat.le_of_ble_eq_true rfl, Nat.le_of_ble_eq_true rfl⟩ hK hP hD hN hT hS (va_free (wc := [(h0_input, .inr (2, [.ref h0_input_held, .int h0_input_count])), (h0_input_held, .inl (cB, h0_input_held_n, .inl h0_input_held_f))]) hD hS hA [1, 2] rfl) [1, 2] rfl (by decide) rfl rfl rfl hl.1 rfl (lv_room (Nat.le_of_ble_eq_true rfl)) dX6_openFrameTold_69 ⟨Nat.le_of_ble_eq_true rfl, Nat.le_of_ble_eq_true rfl⟩) hP hD hS hA (wr := [(h0, .inr (5, [.ref h0_input, w_h0_words, .ref h0_settings, w_h0_to, w_h0_blocks, .int h0_broken, .int h0_brokenAt, .int h0_at, .int h0_end, w_h0_begin, w_h0_copies, w_h0_literals, w_h0_parts, w_h0_frameBegin, .int h0_flags, w_h0_width, .long h0_size])), (h0_settings, .inl (cI, h0_settings_n, .inl h0_settings_f))]) (w1 := [(h0_input, .inr (2, [.ref h0_input_held, .int h0_input_count])), (h0_input_held, .inl (cB, h0_input_held_n, .inl h0_input_held_f))]) (ws' := [(h0, .inr (5, [.ref h0_input, w_h0_words, .ref h0_settings, w_h0_to, w_h0_blocks, .int h0_broken, .int h0_brokenAt, .int h0_at, .int h0_end, w_h0_begin, w_h0_copies, w_h0_literals, w_h0_parts, w_h0_frameBegin, .int h0_flags, w_h0_width, .long h0_size])), (h0_input, .inr (2, [.ref h0_input_held, .int h0_input_count])), (h0_input_held, .inl (cB, h0_input_held_n, .inl h0_input_held_f)), (h0_settings, .inl (cI, h0_settings_n, .inl h0_settings_f))]) [1, 2] [0, 3] [0, 2, 3, 1] rfl rfl (by decide) (by decide) rfl (by decide) (fun H locs hP hD hS => ?_)
        refine va_put (D := (dC, dI)) (ci := 5) (v := .long r7) (ty := .long) (C := RX6) (T := TX6) (N := 17) hx hb hts inG_X6 tyX6 tyX6_ok nmX6 hown hK hP hD hS 0 rfl rfl 16 (by decide) (hts _ kw_305) (fun _ h9 => h9) rfl (by decide +kernel) rfl rfl (Nat.le_of_ble_eq_true rfl) dX6_openFrameTold_72 (fun H locs hP hD hS => ?_)
        have hP : va_P (dC, dI) vwCl [(h0, .inr (5, [.ref h0_input, w_h0_words, .ref h0_settings, w_h0_to, w_h0_blocks, .int h0_broken, .int h0_brokenAt, .int h0_at, .int h0_end, w_h0_begin, w_h0_copies, w_h0_literals, w_h0_parts, w_h0_frameBegin, .int h0_flags, w_h0_width, .long r7])), (h0_input, .inr (2, [.ref h0_input_held, .int h0_input_count])), (h0_input_held, .inl (cB, h0_input_held_n, .inl h0_input_held_f)), (h0_settings, .inl (cI, h0_settings_n, .inl h0_settings_f))] H := hP
        have hD : va_D A [(h0, .inr (5, [.ref h0_input, w_h0_words, .ref h0_settings, w_h0_to, w_h0_blocks, .int h0_broken, .int h0_brokenAt, .int h0_at, .int h0_end, w_h0_begin, w_h0_copies, w_h0_literals, w_h0_parts, w_h0_frameBegin, .int h0_flags, w_h0_width, .long r7])), (h0_input, .inr (2, [.ref h0_input_held, .int h0_input_count])), (h0_input_held, .inl (cB, h0_input_held_n, .inl h0_input_held_f)), (h0_settings, .inl (cI, h0_settings_n, .inl h0_settings_f))] := hD
        refine lv_aload_n hx hb dX6_openFrameTold_75 rfl (lv_at hl 1 rfl) ?_
        refine va_get (D := (dC, dI)) (ci := 5) (v := .ref h0_input) (C := RX6) (T := TX6) (N := 17) hx hb hts inG_X6 hown hK hP 0 rfl rfl 0 (by decide) (hts _ kw_289) (fun _ h9 => h9) rfl dX6_openFrameTold_76 ?_
        refine lv_iload_n hx hb dX6_openFrameTold_79 rfl (lv_at hl 2 rfl) ?_
        refine lv_iload_n hx hb dX6_openFrameTold_80 rfl (lv_at hl 0 rfl) ?_
        refine lv_iload_n hx hb dX6_openFrameTold_81 rfl (lv_at hl 2 rfl) ?_
        refine lv_isub hx hb dX6_openFrameTold_82 ?_
        obtain ⟨r8, hc, hf⟩ := bind_some hf
        refine nx_i (rn_S (As := [.ref h0_input, .int h0_at, .int (v3_6 - h0_at)]) (rest := []) (n := 3) ⟨hx, hb, hml, hown, hts⟩ (c_Sums_sumOf (l := l) (dC := dC) (dI := dI) (cB := cB) (cI := cI) (h0 := h0_input) (a1 := h0_at) (a2 := (v3_6 - h0_at)) (h0_held := h0_input_held) (h0_count := h0_input_count) (h0_held_n := h0_input_held_n) (h0_held_f := h0_input_held_f)  (o_r := r8) hc) (wS kw_936 kw_748 kw_97 kw_749) (by decide +kernel) ⟨Nat.le_of_ble_eq_true rfl, Nat.le_of_ble_eq_true rfl⟩ hK hP hD hN hT hS (va_free (wc := [(h0_input, .inr (2, [.ref h0_input_held, .int h0_input_count])), (h0_input_held, .inl (cB, h0_input_held_n, .inl h0_input_held_f))]) hD hS hA [1, 2] rfl) [1, 2] rfl (by decide) rfl hl.1 rfl (lv_room (Nat.le_of_ble_eq_true rfl)) dX6_openFrameTold_83 ⟨Nat.le_of_ble_eq_true rfl, Nat.le_of_ble_eq_true rfl⟩) hP hD hS hA (wr := [(h0, .inr (5, [.ref h0_input, w_h0_words, .ref h0_settings, w_h0_to, w_h0_blocks, .int h0_broken, .int h0_brokenAt, .int h0_at, .int h0_end, w_h0_begin, w_h0_copies, w_h0_literals, w_h0_parts, w_h0_frameBegin, .int h0_flags, w_h0_width, .long r7])), (h0_settings, .inl (cI, h0_settings_n, .inl h0_settings_f))]) (w1 := [(h0_input, .inr (2, [.ref h0_input_held, .int h0_input_count])), (h0_input_held, .inl (cB, h0_input_held_n, .inl h0_input_held_f))]) (ws' := [(h0, .inr (5, [.ref h0_input, w_h0_words, .ref h0_settings, w_h0_to, w_h0_blocks, .int h0_broken, .int h0_brokenAt, .int h0_at, .int h0_end, w_h0_begin, w_h0_copies, w_h0_literals, w_h0_parts, w_h0_frameBegin, .int h0_flags, w_h0_width, .long r7])), (h0_input, .inr (2, [.ref h0_input_held, .int h0_input_count])), (h0_input_held, .inl (cB, h0_input_held_n, .inl h0_input_held_f)), (h0_settings, .inl (cI, h0_settings_n, .inl h0_settings_f))]) [1, 2] [0, 3] [0, 2, 3, 1] rfl rfl (by decide) (by decide) rfl (by decide) (fun H locs hP hD hS => ?_)
        refine lv_bipush (v := 8) hx hb dX6_openFrameTold_86 (by decide) ?_
        refine lv_iushr (v := (iushr r8 (8 : Int32))) hx hb dX6_openFrameTold_88 rfl ?_
        refine lv_sipush (v := 255) hx hb dX6_openFrameTold_89 (by decide) ?_
        refine lv_iand hx hb dX6_openFrameTold_92 ?_
        refine lv_topi (fun v4_9 e_v4_9 => ?_)
        replace hf := bnd_at e_v4_9 hf
        refine lv_istore (lv' := [(4, .int v4_9), (3, .int v3_6), (0, .ref h0), (1, .int h0_at), (2, .int v2_3)]) hx hb dX6_openFrameTold_93 hl (by decide) rfl (fun ls hl => ?_)
        refine lv_aload_n hx hb dX6_openFrameTold_95 rfl (lv_at hl 2 rfl) ?_
        refine va_get (D := (dC, dI)) (ci := 5) (v := .ref h0_input) (C := RX6) (T := TX6) (N := 17) hx hb hts inG_X6 hown hK hP 0 rfl rfl 0 (by decide) (hts _ kw_289) (fun _ h9 => h9) rfl dX6_openFrameTold_96 ?_
        refine lv_iload_n hx hb dX6_openFrameTold_99 rfl (lv_at hl 1 rfl) ?_
        obtain ⟨r10, hc, hf⟩ := bind_some hf
        refine nx_i (rn_V (As := [.int v3_6]) (rest := []) (n := 1) (ci := 2) (q0 := 0) ⟨hx, hb, hml, hown, hts⟩ (c_Bytes_at (l := l) (dC := dC) (dI := dI) (cB := cB) (cI := cI) (h0 := h0_input) (a1 := v3_6) (h0_held := h0_input_held) (h0_count := h0_input_count) (h0_held_n := h0_input_held_n) (h0_held_f := h0_input_held_f)  (o_r := r10) hc) (wV kw_862 kw_418 kw_419 kw_83 kw_420) (by decide +kernel) ⟨Nat.le_of_ble_eq_true rfl, Nat.le_of_ble_eq_true rfl⟩ hK hP hD hN hT hS (va_free (wc := [(h0_input, .inr (2, [.ref h0_input_held, .int h0_input_count])), (h0_input_held, .inl (cB, h0_input_held_n, .inl h0_input_held_f))]) hD hS hA [1, 2] rfl) [1, 2] rfl (by decide) rfl rfl rfl hl.1 rfl (lv_room (Nat.le_of_ble_eq_true rfl)) dX6_openFrameTold_100 ⟨Nat.le_of_ble_eq_true rfl, Nat.le_of_ble_eq_true rfl⟩) hP hD hS hA (wr := [(h0, .inr (5, [.ref h0_input, w_h0_words, .ref h0_settings, w_h0_to, w_h0_blocks, .int h0_broken, .int h0_brokenAt, .int h0_at, .int h0_end, w_h0_begin, w_h0_copies, w_h0_literals, w_h0_parts, w_h0_frameBegin, .int h0_flags, w_h0_width, .long r7])), (h0_settings, .inl (cI, h0_settings_n, .inl h0_settings_f))]) (w1 := [(h0_input, .inr (2, [.ref h0_input_held, .int h0_input_count])), (h0_input_held, .inl (cB, h0_input_held_n, .inl h0_input_held_f))]) (ws' := [(h0, .inr (5, [.ref h0_input, w_h0_words, .ref h0_settings, w_h0_to, w_h0_blocks, .int h0_broken, .int h0_brokenAt, .int h0_at, .int h0_end, w_h0_begin, w_h0_copies, w_h0_literals, w_h0_parts, w_h0_frameBegin, .int h0_flags, w_h0_width, .long r7])), (h0_input, .inr (2, [.ref h0_input_held, .int h0_input_count])), (h0_input_held, .inl (cB, h0_input_held_n, .inl h0_input_held_f)), (h0_settings, .inl (cI, h0_settings_n, .inl h0_settings_f))]) [1, 2] [0, 3] [0, 2, 3, 1] rfl rfl (by decide) (by decide) rfl (by decide) (fun H locs hP hD hS => ?_)
        refine lv_iload hx hb dX6_openFrameTold_103 (lv_at hl 0 rfl) ?_
        refine lv_icmp_eq (tgt := 116) hx hb dX6_openFrameTold_105 (by decide) (fun c_105 => ?_) (fun c_105 => ?_)
        · replace hf := if_t c_105 hf
          refine lv_aload_n hx hb dX6_openFrameTold_116 rfl (lv_at hl 2 rfl) ?_
          refine lv_iconst (v := 1) hx hb dX6_openFrameTold_117 (by decide) ?_
          obtain ⟨r11, hc, hf⟩ := bind_some hf
          refine nx_i (rn_V (As := [.int (1 : Int32)]) (rest := []) (n := 1) (ci := 5) (q0 := 0) ⟨hx, hb, hml, hown, hts⟩ (c_Opener_isFlag (l := l) (dC := dC) (dI := dI) (cB := cB) (cI := cI) (h0 := h0) (a1 := (1 : Int32)) (w_h0_input := (.ref h0_input)) (w_h0_words := (w_h0_words)) (w_h0_settings := (.ref h0_settings)) (w_h0_to := (w_h0_to)) (w_h0_blocks := (w_h0_blocks)) (w_h0_broken := (.int h0_broken)) (w_h0_brokenAt := (.int h0_brokenAt)) (w_h0_at := (.int h0_at)) (w_h0_end := (.int h0_end)) (w_h0_begin := (w_h0_begin)) (w_h0_copies := (w_h0_copies)) (w_h0_literals := (w_h0_literals)) (w_h0_parts := (w_h0_parts)) (w_h0_frameBegin := (w_h0_frameBegin)) (h0_flags := h0_flags) (w_h0_width := (w_h0_width)) (w_h0_size := (.long r7))  (o_r := r11) hc) (wV kw_928 kw_930 kw_35 kw_92 kw_931) (by decide +kernel) ⟨Nat.le_of_ble_eq_true rfl, Nat.le_of_ble_eq_true rfl⟩ hK hP hD hN hT hS (va_free (wc := [(h0, .inr (5, [.ref h0_input, w_h0_words, .ref h0_settings, w_h0_to, w_h0_blocks, .int h0_broken, .int h0_brokenAt, .int h0_at, .int h0_end, w_h0_begin, w_h0_copies, w_h0_literals, w_h0_parts, w_h0_frameBegin, .int h0_flags, w_h0_width, .long r7]))]) hD hS hA [0] rfl) [0] rfl (by decide) rfl rfl rfl hl.1 rfl (lv_room (Nat.le_of_ble_eq_true rfl)) dX6_openFrameTold_118 ⟨Nat.le_of_ble_eq_true rfl, Nat.le_of_ble_eq_true rfl⟩) hP hD hS hA (wr := [(h0_input, .inr (2, [.ref h0_input_held, .int h0_input_count])), (h0_input_held, .inl (cB, h0_input_held_n, .inl h0_input_held_f)), (h0_settings, .inl (cI, h0_settings_n, .inl h0_settings_f))]) (w1 := [(h0, .inr (5, [.ref h0_input, w_h0_words, .ref h0_settings, w_h0_to, w_h0_blocks, .int h0_broken, .int h0_brokenAt, .int h0_at, .int h0_end, w_h0_begin, w_h0_copies, w_h0_literals, w_h0_parts, w_h0_frameBegin, .int h0_flags, w_h0_width, .long r7]))]) (ws' := [(h0, .inr (5, [.ref h0_input, w_h0_words, .ref h0_settings, w_h0_to, w_h0_blocks, .int h0_broken, .int h0_brokenAt, .int h0_at, .int h0_end, w_h0_begin, w_h0_copies, w_h0_literals, w_h0_parts, w_h0_frameBegin, .int h0_flags, w_h0_width, .long r7])), (h0_input, .inr (2, [.ref h0_input_held, .int h0_input_count])), (h0_input_held, .inl (cB, h0_input_held_n, .inl h0_input_held_f)), (h0_settings, .inl (cI, h0_settings_n, .inl h0_settings_f))]) [0] [1, 2, 3] [3, 0, 1, 2] rfl rfl (by decide) (by decide) rfl (by decide) (fun H locs hP hD hS => ?_)
          have hJ_149 : ∀ (H : Heap) (locs : List Loc) (ls : Array Slot), m_Opener_openFrameTold_J149 h0_broken h0_brokenAt v3_6 r7 = some (o_r, o_h0_broken, o_h0_brokenAt, o_h0_at, o_h0_size) → va_P (dC, dI) vwCl [(h0, .inr (5, [.ref h0_input, w_h0_words, .ref h0_settings, w_h0_to, w_h0_blocks, .int h0_broken, .int h0_brokenAt, .int h0_at, .int h0_end, w_h0_begin, w_h0_copies, w_h0_literals, w_h0_parts, w_h0_frameBegin, .int h0_flags, w_h0_width, .long r7])), (h0_input, .inr (2, [.ref h0_input_held, .int h0_input_count])), (h0_input_held, .inl (cB, h0_input_held_n, .inl h0_input_held_f)), (h0_settings, .inl (cI, h0_settings_n, .inl h0_settings_f))] H → va_D A [(h0, .inr (5, [.ref h0_input, w_h0_words, .ref h0_settings, w_h0_to, w_h0_blocks, .int h0_broken, .int h0_brokenAt, .int h0_at, .int h0_end, w_h0_begin, w_h0_copies, w_h0_literals, w_h0_parts, w_h0_frameBegin, .int h0_flags, w_h0_width, .long r7])), (h0_input, .inr (2, [.ref h0_input_held, .int h0_input_count])), (h0_input_held, .inl (cB, h0_input_held_n, .inl h0_input_held_f)), (h0_settings, .inl (cI, h0_settings_n, .inl h0_settings_f))] → va_S A s.heap H locs → lv_has ls 5 [(0, .ref h0), (3, .int v3_6)] → W p l e (rm_Opener_openFrameTold) s m ([.ref h0] : List Value).toArray below meth c H locs 0 0 Q (F0 m 149 ls []) := by
            intro  H locs ls hf hP hD hS hl
            unfold m_Opener_openFrameTold_J149 at hf
            refine lv_aload_n hx hb dX6_openFrameTold_149 rfl (lv_at hl 0 rfl) ?_
            refine lv_iload_n hx hb dX6_openFrameTold_150 rfl (lv_at hl 1 rfl) ?_
            refine lv_iconst (v := 1) hx hb dX6_openFrameTold_151 (by decide) ?_
            refine lv_iadd hx hb dX6_openFrameTold_152 ?_
            refine lv_topi (fun p_12 e_p_12 => ?_)
            replace hf := bnd_at e_p_12 hf
            refine va_put (D := (dC, dI)) (ci := 5) (v := .int p_12) (ty := .int) (C := RX6) (T := TX6) (N := 17) hx hb hts inG_X6 tyX6 tyX6_ok nmX6 hown hK hP hD hS 0 rfl rfl 7 (by decide) (hts _ kw_296) (fun _ h9 => h9) rfl (by decide +kernel) rfl rfl (Nat.le_of_ble_eq_true rfl) dX6_openFrameTold_153 (fun H locs hP hD hS => ?_)
            have hP : va_P (dC, dI) vwCl [(h0, .inr (5, [.ref h0_input, w_h0_words, .ref h0_settings, w_h0_to, w_h0_blocks, .int h0_broken, .int h0_brokenAt, .int p_12, .int h0_end, w_h0_begin, w_h0_copies, w_h0_literals, w_h0_parts, w_h0_frameBegin, .int h0_flags, w_h0_width, .long r7])), (h0_input, .inr (2, [.ref h0_input_held, .int h0_input_count])), (h0_input_held, .inl (cB, h0_input_held_n, .inl h0_input_held_f)), (h0_settings, .inl (cI, h0_settings_n, .inl h0_settings_f))] H := hP
            have hD : va_D A [(h0, .inr (5, [.ref h0_input, w_h0_words, .ref h0_settings, w_h0_to, w_h0_blocks, .int h0_broken, .int h0_brokenAt, .int p_12, .int h0_end, w_h0_begin, w_h0_copies, w_h0_literals, w_h0_parts, w_h0_frameBegin, .int h0_flags, w_h0_width, .long r7])), (h0_input, .inr (2, [.ref h0_input_held, .int h0_input_count])), (h0_input_held, .inl (cB, h0_input_held_n, .inl h0_input_held_f)), (h0_settings, .inl (cI, h0_settings_n, .inl h0_settings_f))] := hD
            refine lv_iconst (v := 1) hx hb dX6_openFrameTold_156 (by decide) ?_
            have hzb : narrow .boolean (.int (1 : Int32)) = .int (1 : Int32) := rfl
            obtain ⟨rfl, hq_1⟩ := Prod.mk.inj (Option.some.inj hf)
            obtain ⟨rfl, hq_2⟩ := Prod.mk.inj hq_1
            obtain ⟨rfl, hq_3⟩ := Prod.mk.inj hq_2
            obtain ⟨rfl, hq_4⟩ := Prod.mk.inj hq_3
            obtain rfl := hq_4
            exact rt_z hQ hx hb hr hzb hlocks hP hD hS dX6_openFrameTold_157
          refine lv_if_eq (tgt := 149) hx hb dX6_openFrameTold_121 (by decide) (fun c_121 => ?_) (fun c_121 => ?_)
          · replace hf := if_t c_121 hf
            exact hJ_149  _ _ _ hf hP hD hS (lv_sub hl [2, 1] rfl)
          · replace hf := if_f c_121 hf
            refine lv_aload_n hx hb dX6_openFrameTold_124 rfl (lv_at hl 2 rfl) ?_
            refine va_get (D := (dC, dI)) (ci := 5) (v := .ref h0_input) (C := RX6) (T := TX6) (N := 17) hx hb hts inG_X6 hown hK hP 0 rfl rfl 0 (by decide) (hts _ kw_289) (fun _ h9 => h9) rfl dX6_openFrameTold_125 ?_
            refine lv_iload_n hx hb dX6_openFrameTold_128 rfl (lv_at hl 4 rfl) ?_
            obtain ⟨r13, hc, hf⟩ := bind_some hf
            refine nx_i (rn_V (As := [.int v2_3]) (rest := []) (n := 1) (ci := 2) (q0 := 0) ⟨hx, hb, hml, hown, hts⟩ (c_Bytes_number32 (l := l) (dC := dC) (dI := dI) (cB := cB) (cI := cI) (h0 := h0_input) (a1 := v2_3) (h0_held := h0_input_held) (h0_count := h0_input_count) (h0_held_n := h0_input_held_n) (h0_held_f := h0_input_held_f)  (o_r := r13) hc) (wV kw_937 kw_757 kw_758 kw_83 kw_759) (by decide +kernel) ⟨Nat.le_of_ble_eq_true rfl, Nat.le_of_ble_eq_true rfl⟩ hK hP hD hN hT hS (va_free (wc := [(h0_input, .inr (2, [.ref h0_input_held, .int h0_input_count])), (h0_input_held, .inl (cB, h0_input_held_n, .inl h0_input_held_f))]) hD hS hA [1, 2] rfl) [1, 2] rfl (by decide) rfl rfl rfl hl.1 rfl (lv_room (Nat.le_of_ble_eq_true rfl)) dX6_openFrameTold_129 ⟨Nat.le_of_ble_eq_true rfl, Nat.le_of_ble_eq_true rfl⟩) hP hD hS hA (wr := [(h0, .inr (5, [.ref h0_input, w_h0_words, .ref h0_settings, w_h0_to, w_h0_blocks, .int h0_broken, .int h0_brokenAt, .int h0_at, .int h0_end, w_h0_begin, w_h0_copies, w_h0_literals, w_h0_parts, w_h0_frameBegin, .int h0_flags, w_h0_width, .long r7])), (h0_settings, .inl (cI, h0_settings_n, .inl h0_settings_f))]) (w1 := [(h0_input, .inr (2, [.ref h0_input_held, .int h0_input_count])), (h0_input_held, .inl (cB, h0_input_held_n, .inl h0_input_held_f))]) (ws' := [(h0, .inr (5, [.ref h0_input, w_h0_words, .ref h0_settings, w_h0_to, w_h0_blocks, .int h0_broken, .int h0_brokenAt, .int h0_at, .int h0_end, w_h0_begin, w_h0_copies, w_h0_literals, w_h0_parts, w_h0_frameBegin, .int h0_flags, w_h0_width, .long r7])), (h0_input, .inr (2, [.ref h0_input_held, .int h0_input_count])), (h0_input_held, .inl (cB, h0_input_held_n, .inl h0_input_held_f)), (h0_settings, .inl (cI, h0_settings_n, .inl h0_settings_f))]) [1, 2] [0, 3] [0, 2, 3, 1] rfl rfl (by decide) (by decide) rfl (by decide) (fun H locs hP hD hS => ?_)
            refine lv_aload_n hx hb dX6_openFrameTold_132 rfl (lv_at hl 2 rfl) ?_
            refine va_get (D := (dC, dI)) (ci := 5) (v := .ref h0_settings) (C := RX6) (T := TX6) (N := 17) hx hb hts inG_X6 hown hK hP 0 rfl rfl 2 (by decide) (hts _ kw_291) (fun _ h9 => h9) rfl dX6_openFrameTold_133 ?_
            refine lv_iconst (v := 5) hx hb dX6_openFrameTold_136 (by decide) ?_
            obtain ⟨hin, hf⟩ := chk_some hf
            refine va_iald hx hb hK hP 3 1 rfl rfl hin dX6_openFrameTold_137 ?_
            refine lv_icmp_eq (tgt := 149) hx hb dX6_openFrameTold_138 (by decide) (fun c_138 => ?_) (fun c_138 => ?_)
            · replace hf := if_t c_138 hf
              exact hJ_149  _ _ _ hf hP hD hS (lv_sub hl [2, 1] rfl)
            · replace hf := if_f c_138 hf
              refine lv_aload_n hx hb dX6_openFrameTold_141 rfl (lv_at hl 2 rfl) ?_
              refine lv_bipush (v := 11) hx hb dX6_openFrameTold_142 (by decide) ?_
              refine lv_iload_n hx hb dX6_openFrameTold_144 rfl (lv_at hl 4 rfl) ?_
              obtain ⟨x, hc, hf⟩ := bind_some hf
              obtain ⟨r14, u15, u16⟩ := x
              dsimp only at hf
              refine nx_i (rn_V (As := [.int (11 : Int32), .int v2_3]) (rest := []) (n := 2) (ci := 5) (q0 := 0) ⟨hx, hb, hml, hown, hts⟩ (c_Opener_breaks (l := l) (dC := dC) (dI := dI) (cB := cB) (cI := cI) (h0 := h0) (a1 := (11 : Int32)) (a2 := v2_3) (w_h0_input := (.ref h0_input)) (w_h0_words := (w_h0_words)) (w_h0_settings := (.ref h0_settings)) (w_h0_to := (w_h0_to)) (w_h0_blocks := (w_h0_blocks)) (h0_broken := h0_broken) (h0_brokenAt := h0_brokenAt) (w_h0_at := (.int h0_at)) (w_h0_end := (.int h0_end)) (w_h0_begin := (w_h0_begin)) (w_h0_copies := (w_h0_copies)) (w_h0_literals := (w_h0_literals)) (w_h0_parts := (w_h0_parts)) (w_h0_frameBegin := (w_h0_frameBegin)) (w_h0_flags := (.int h0_flags)) (w_h0_width := (w_h0_width)) (w_h0_size := (.long r7)) (o_h0_broken := u15) (o_h0_brokenAt := u16) (o_r := r14) hc) (wV kw_871 kw_873 kw_26 kw_92 kw_874) (by decide +kernel) ⟨Nat.le_of_ble_eq_true rfl, Nat.le_of_ble_eq_true rfl⟩ hK hP hD hN hT hS (va_free (wc := [(h0, .inr (5, [.ref h0_input, w_h0_words, .ref h0_settings, w_h0_to, w_h0_blocks, .int h0_broken, .int h0_brokenAt, .int h0_at, .int h0_end, w_h0_begin, w_h0_copies, w_h0_literals, w_h0_parts, w_h0_frameBegin, .int h0_flags, w_h0_width, .long r7]))]) hD hS hA [0] rfl) [0] rfl (by decide) rfl rfl rfl hl.1 rfl (lv_room (Nat.le_of_ble_eq_true rfl)) dX6_openFrameTold_145 ⟨Nat.le_of_ble_eq_true rfl, Nat.le_of_ble_eq_true rfl⟩) hP hD hS hA (wr := [(h0_input, .inr (2, [.ref h0_input_held, .int h0_input_count])), (h0_input_held, .inl (cB, h0_input_held_n, .inl h0_input_held_f)), (h0_settings, .inl (cI, h0_settings_n, .inl h0_settings_f))]) (w1 := [(h0, .inr (5, [.ref h0_input, w_h0_words, .ref h0_settings, w_h0_to, w_h0_blocks, .int u15, .int u16, .int h0_at, .int h0_end, w_h0_begin, w_h0_copies, w_h0_literals, w_h0_parts, w_h0_frameBegin, .int h0_flags, w_h0_width, .long r7]))]) (ws' := [(h0, .inr (5, [.ref h0_input, w_h0_words, .ref h0_settings, w_h0_to, w_h0_blocks, .int u15, .int u16, .int h0_at, .int h0_end, w_h0_begin, w_h0_copies, w_h0_literals, w_h0_parts, w_h0_frameBegin, .int h0_flags, w_h0_width, .long r7])), (h0_input, .inr (2, [.ref h0_input_held, .int h0_input_count])), (h0_input_held, .inl (cB, h0_input_held_n, .inl h0_input_held_f)), (h0_settings, .inl (cI, h0_settings_n, .inl h0_settings_f))]) [0] [1, 2, 3] [3, 0, 1, 2] rfl rfl (by decide) (by decide) rfl (by decide) (fun H locs hP hD hS => ?_)
              obtain ⟨hzb, hf⟩ := bch_some hf
              obtain ⟨rfl, hq_1⟩ := Prod.mk.inj (Option.some.inj hf)
              obtain ⟨rfl, hq_2⟩ := Prod.mk.inj hq_1
              obtain ⟨rfl, hq_3⟩ := Prod.mk.inj hq_2
              obtain ⟨rfl, hq_4⟩ := Prod.mk.inj hq_3
              obtain rfl := hq_4
              exact rt_z hQ hx hb hr hzb hlocks hP hD hS dX6_openFrameTold_148
        · replace hf := if_f c_105 hf
          refine lv_aload_n hx hb dX6_openFrameTold_108 rfl (lv_at hl 2 rfl) ?_
          refine lv_bipush (v := 6) hx hb dX6_openFrameTold_109 (by decide) ?_
          refine lv_iload_n hx hb dX6_openFrameTold_111 rfl (lv_at hl 1 rfl) ?_
          obtain ⟨x, hc, hf⟩ := bind_some hf
          obtain ⟨r17, u18, u19⟩ := x
          dsimp only at hf
          refine nx_i (rn_V (As := [.int (6 : Int32), .int v3_6]) (rest := []) (n := 2) (ci := 5) (q0 := 0) ⟨hx, hb, hml, hown, hts⟩ (c_Opener_breaks (l := l) (dC := dC) (dI := dI) (cB := cB) (cI := cI) (h0 := h0) (a1 := (6 : Int32)) (a2 := v3_6) (w_h0_input := (.ref h0_input)) (w_h0_words := (w_h0_words)) (w_h0_settings := (.ref h0_settings)) (w_h0_to := (w_h0_to)) (w_h0_blocks := (w_h0_blocks)) (h0_broken := h0_broken) (h0_brokenAt := h0_brokenAt) (w_h0_at := (.int h0_at)) (w_h0_end := (.int h0_end)) (w_h0_begin := (w_h0_begin)) (w_h0_copies := (w_h0_copies)) (w_h0_literals := (w_h0_literals)) (w_h0_parts := (w_h0_parts)) (w_h0_frameBegin := (w_h0_frameBegin)) (w_h0_flags := (.int h0_flags)) (w_h0_width := (w_h0_width)) (w_h0_size := (.long r7)) (o_h0_broken := u18) (o_h0_brokenAt := u19) (o_r := r17) hc) (wV kw_871 kw_873 kw_26 kw_92 kw_874) (by decide +kernel) ⟨Nat.le_of_ble_eq_true rfl, Nat.le_of_ble_eq_true rfl⟩ hK hP hD hN hT hS (va_free (wc := [(h0, .inr (5, [.ref h0_input, w_h0_words, .ref h0_settings, w_h0_to, w_h0_blocks, .int h0_broken, .int h0_brokenAt, .int h0_at, .int h0_end, w_h0_begin, w_h0_copies, w_h0_literals, w_h0_parts, w_h0_frameBegin, .int h0_flags, w_h0_width, .long r7]))]) hD hS hA [0] rfl) [0] rfl (by decide) rfl rfl rfl hl.1 rfl (lv_room (Nat.le_of_ble_eq_true rfl)) dX6_openFrameTold_112 ⟨Nat.le_of_ble_eq_true rfl, Nat.le_of_ble_eq_true rfl⟩) hP hD hS hA (wr := [(h0_input, .inr (2, [.ref h0_input_held, .int h0_input_count])), (h0_input_held, .inl (cB, h0_input_held_n, .inl h0_input_held_f)), (h0_settings, .inl (cI, h0_settings_n, .inl h0_settings_f))]) (w1 := [(h0, .inr (5, [.ref h0_input, w_h0_words, .ref h0_settings, w_h0_to, w_h0_blocks, .int u18, .int u19, .int h0_at, .int h0_end, w_h0_begin, w_h0_copies, w_h0_literals, w_h0_parts, w_h0_frameBegin, .int h0_flags, w_h0_width, .long r7]))]) (ws' := [(h0, .inr (5, [.ref h0_input, w_h0_words, .ref h0_settings, w_h0_to, w_h0_blocks, .int u18, .int u19, .int h0_at, .int h0_end, w_h0_begin, w_h0_copies, w_h0_literals, w_h0_parts, w_h0_frameBegin, .int h0_flags, w_h0_width, .long r7])), (h0_input, .inr (2, [.ref h0_input_held, .int h0_input_count])), (h0_input_held, .inl (cB, h0_input_held_n, .inl h0_input_held_f)), (h0_settings, .inl (cI, h0_settings_n, .inl h0_settings_f))]) [0] [1, 2, 3] [3, 0, 1, 2] rfl rfl (by decide) (by decide) rfl (by decide) (fun H locs hP hD hS => ?_)
          obtain ⟨hzb, hf⟩ := bch_some hf
          obtain ⟨rfl, hq_1⟩ := Prod.mk.inj (Option.some.inj hf)
          obtain ⟨rfl, hq_2⟩ := Prod.mk.inj hq_1
          obtain ⟨rfl, hq_3⟩ := Prod.mk.inj hq_2
          obtain ⟨rfl, hq_4⟩ := Prod.mk.inj hq_3
          obtain rfl := hq_4
          exact rt_z hQ hx hb hr hzb hlocks hP hD hS dX6_openFrameTold_115
      · replace hf := if_f c_46 hf
        refine lv_aload_n hx hb dX6_openFrameTold_49 rfl (lv_at hl 1 rfl) ?_
        refine lv_iconst (v := 1) hx hb dX6_openFrameTold_50 (by decide) ?_
        refine lv_aload_n hx hb dX6_openFrameTold_51 rfl (lv_at hl 1 rfl) ?_
        refine va_get (D := (dC, dI)) (ci := 5) (v := .int h0_end) (C := RX6) (T := TX6) (N := 17) hx hb hts inG_X6 hown hK hP 0 rfl rfl 8 (by decide) (hts _ kw_297) (fun _ h9 => h9) rfl dX6_openFrameTold_52 ?_
        obtain ⟨x, hc, hf⟩ := bind_some hf
        obtain ⟨r20, u21, u22⟩ := x
        dsimp only at hf
        refine nx_i (rn_V (As := [.int (1 : Int32), .int h0_end]) (rest := []) (n := 2) (ci := 5) (q0 := 0) ⟨hx, hb, hml, hown, hts⟩ (c_Opener_breaks (l := l) (dC := dC) (dI := dI) (cB := cB) (cI := cI) (h0 := h0) (a1 := (1 : Int32)) (a2 := h0_end) (w_h0_input := (.ref h0_input)) (w_h0_words := (w_h0_words)) (w_h0_settings := (.ref h0_settings)) (w_h0_to := (w_h0_to)) (w_h0_blocks := (w_h0_blocks)) (h0_broken := h0_broken) (h0_brokenAt := h0_brokenAt) (w_h0_at := (.int h0_at)) (w_h0_end := (.int h0_end)) (w_h0_begin := (w_h0_begin)) (w_h0_copies := (w_h0_copies)) (w_h0_literals := (w_h0_literals)) (w_h0_parts := (w_h0_parts)) (w_h0_frameBegin := (w_h0_frameBegin)) (w_h0_flags := (.int h0_flags)) (w_h0_width := (w_h0_width)) (w_h0_size := (.long h0_size)) (o_h0_broken := u21) (o_h0_brokenAt := u22) (o_r := r20) hc) (wV kw_871 kw_873 kw_26 kw_92 kw_874) (by decide +kernel) ⟨Nat.le_of_ble_eq_true rfl, Nat.le_of_ble_eq_true rfl⟩ hK hP hD hN hT hS (va_free (wc := [(h0, .inr (5, [.ref h0_input, w_h0_words, .ref h0_settings, w_h0_to, w_h0_blocks, .int h0_broken, .int h0_brokenAt, .int h0_at, .int h0_end, w_h0_begin, w_h0_copies, w_h0_literals, w_h0_parts, w_h0_frameBegin, .int h0_flags, w_h0_width, .long h0_size]))]) hD hS hA [0] rfl) [0] rfl (by decide) rfl rfl rfl hl.1 rfl (lv_room (Nat.le_of_ble_eq_true rfl)) dX6_openFrameTold_55 ⟨Nat.le_of_ble_eq_true rfl, Nat.le_of_ble_eq_true rfl⟩) hP hD hS hA (wr := [(h0_input, .inr (2, [.ref h0_input_held, .int h0_input_count])), (h0_input_held, .inl (cB, h0_input_held_n, .inl h0_input_held_f)), (h0_settings, .inl (cI, h0_settings_n, .inl h0_settings_f))]) (w1 := [(h0, .inr (5, [.ref h0_input, w_h0_words, .ref h0_settings, w_h0_to, w_h0_blocks, .int u21, .int u22, .int h0_at, .int h0_end, w_h0_begin, w_h0_copies, w_h0_literals, w_h0_parts, w_h0_frameBegin, .int h0_flags, w_h0_width, .long h0_size]))]) (ws' := [(h0, .inr (5, [.ref h0_input, w_h0_words, .ref h0_settings, w_h0_to, w_h0_blocks, .int u21, .int u22, .int h0_at, .int h0_end, w_h0_begin, w_h0_copies, w_h0_literals, w_h0_parts, w_h0_frameBegin, .int h0_flags, w_h0_width, .long h0_size])), (h0_input, .inr (2, [.ref h0_input_held, .int h0_input_count])), (h0_input_held, .inl (cB, h0_input_held_n, .inl h0_input_held_f)), (h0_settings, .inl (cI, h0_settings_n, .inl h0_settings_f))]) [0] [1, 2, 3] [3, 0, 1, 2] rfl rfl (by decide) (by decide) rfl (by decide) (fun H locs hP hD hS => ?_)
        obtain ⟨hzb, hf⟩ := bch_some hf
        obtain ⟨rfl, hq_1⟩ := Prod.mk.inj (Option.some.inj hf)
        obtain ⟨rfl, hq_2⟩ := Prod.mk.inj hq_1
        obtain ⟨rfl, hq_3⟩ := Prod.mk.inj hq_2
        obtain ⟨rfl, hq_4⟩ := Prod.mk.inj hq_3
        obtain rfl := hq_4
        exact rt_z hQ hx hb hr hzb hlocks hP hD hS dX6_openFrameTold_58
    refine lv_if_eq (tgt := 38) hx hb dX6_openFrameTold_31 (by decide) (fun c_31 => ?_) (fun c_31 => ?_)
    · replace hf := if_t c_31 hf
      refine lv_iconst (v := 0) hx hb dX6_openFrameTold_38 (by decide) ?_
      exact hJ_39 (0 : Int32) _ _ _ hf hP hD hS (lv_sub hl [1, 2, 0] rfl)
    · replace hf := if_f c_31 hf
      refine lv_iconst (v := 4) hx hb dX6_openFrameTold_34 (by decide) ?_
      refine lv_goto (tgt := 39) hx hb dX6_openFrameTold_35 (by decide) ?_
      exact hJ_39 (4 : Int32) _ _ _ hf hP hD hS (lv_sub hl [1, 2, 0] rfl)
  refine lv_if_eq (tgt := 22) hx hb dX6_openFrameTold_14 (by decide) (fun c_14 => ?_) (fun c_14 => ?_)
  · replace hf := if_t c_14 hf
    refine lv_iconst (v := 0) hx hb dX6_openFrameTold_22 (by decide) ?_
    exact hJ_23 (0 : Int32) _ _ _ hf hP hD hS (lv_sub hl [1, 0] rfl)
  · replace hf := if_f c_14 hf
    refine lv_bipush (v := 8) hx hb dX6_openFrameTold_17 (by decide) ?_
    refine lv_goto (tgt := 23) hx hb dX6_openFrameTold_19 (by decide) ?_
    exact hJ_23 (8 : Int32) _ _ _ hf hP hD hS (lv_sub hl [1, 0] rfl)

theorem dX6_openFrameHead_0 : decode cX6_openFrameHead 0 = .ok (.aload_n 0, 1) := by decide +kernel
theorem dX6_openFrameHead_1 : decode cX6_openFrameHead 1 = .ok (.iconst 1, 1) := by decide +kernel
theorem dX6_openFrameHead_2 : decode cX6_openFrameHead 2 = .ok (.invokevirtual 95, 3) := by decide +kernel
theorem dX6_openFrameHead_5 : decode cX6_openFrameHead 5 = .ok (.ifCond .eq 13, 3) := by decide +kernel
theorem dX6_openFrameHead_8 : decode cX6_openFrameHead 8 = .ok (.aload_n 0, 1) := by decide +kernel
theorem dX6_openFrameHead_9 : decode cX6_openFrameHead 9 = .ok (.iconst 1, 1) := by decide +kernel
theorem dX6_openFrameHead_10 : decode cX6_openFrameHead 10 = .ok (.aload_n 0, 1) := by decide +kernel
theorem dX6_openFrameHead_11 : decode cX6_openFrameHead 11 = .ok (.getfield 54, 3) := by decide +kernel
theorem dX6_openFrameHead_14 : decode cX6_openFrameHead 14 = .ok (.invokevirtual 98, 3) := by decide +kernel
theorem dX6_openFrameHead_17 : decode cX6_openFrameHead 17 = .ok (.ireturn, 1) := by decide +kernel
theorem dX6_openFrameHead_18 : decode cX6_openFrameHead 18 = .ok (.aload_n 0, 1) := by decide +kernel
theorem dX6_openFrameHead_19 : decode cX6_openFrameHead 19 = .ok (.aload_n 0, 1) := by decide +kernel
theorem dX6_openFrameHead_20 : decode cX6_openFrameHead 20 = .ok (.getfield 9, 3) := by decide +kernel
theorem dX6_openFrameHead_23 : decode cX6_openFrameHead 23 = .ok (.aload_n 0, 1) := by decide +kernel
theorem dX6_openFrameHead_24 : decode cX6_openFrameHead 24 = .ok (.getfield 47, 3) := by decide +kernel
theorem dX6_openFrameHead_27 : decode cX6_openFrameHead 27 = .ok (.invokevirtual 89, 3) := by decide +kernel
theorem dX6_openFrameHead_30 : decode cX6_openFrameHead 30 = .ok (.putfield 162, 3) := by decide +kernel
theorem dX6_openFrameHead_33 : decode cX6_openFrameHead 33 = .ok (.aload_n 0, 1) := by decide +kernel
theorem dX6_openFrameHead_34 : decode cX6_openFrameHead 34 = .ok (.getfield 162, 3) := by decide +kernel
theorem dX6_openFrameHead_37 : decode cX6_openFrameHead 37 = .ok (.sipush 192, 3) := by decide +kernel
theorem dX6_openFrameHead_40 : decode cX6_openFrameHead 40 = .ok (.iand, 1) := by decide +kernel
theorem dX6_openFrameHead_41 : decode cX6_openFrameHead 41 = .ok (.bipush 64, 2) := by decide +kernel
theorem dX6_openFrameHead_43 : decode cX6_openFrameHead 43 = .ok (.if_icmp .ne 11, 3) := by decide +kernel
theorem dX6_openFrameHead_46 : decode cX6_openFrameHead 46 = .ok (.aload_n 0, 1) := by decide +kernel
theorem dX6_openFrameHead_47 : decode cX6_openFrameHead 47 = .ok (.iconst 2, 1) := by decide +kernel
theorem dX6_openFrameHead_48 : decode cX6_openFrameHead 48 = .ok (.invokevirtual 165, 3) := by decide +kernel
theorem dX6_openFrameHead_51 : decode cX6_openFrameHead 51 = .ok (.ifCond .eq 13, 3) := by decide +kernel
theorem dX6_openFrameHead_54 : decode cX6_openFrameHead 54 = .ok (.aload_n 0, 1) := by decide +kernel
theorem dX6_openFrameHead_55 : decode cX6_openFrameHead 55 = .ok (.iconst 5, 1) := by decide +kernel
theorem dX6_openFrameHead_56 : decode cX6_openFrameHead 56 = .ok (.aload_n 0, 1) := by decide +kernel
theorem dX6_openFrameHead_57 : decode cX6_openFrameHead 57 = .ok (.getfield 47, 3) := by decide +kernel
theorem dX6_openFrameHead_60 : decode cX6_openFrameHead 60 = .ok (.invokevirtual 98, 3) := by decide +kernel
theorem dX6_openFrameHead_63 : decode cX6_openFrameHead 63 = .ok (.ireturn, 1) := by decide +kernel
theorem dX6_openFrameHead_64 : decode cX6_openFrameHead 64 = .ok (.aload_n 0, 1) := by decide +kernel
theorem dX6_openFrameHead_65 : decode cX6_openFrameHead 65 = .ok (.iconst 2, 1) := by decide +kernel
theorem dX6_openFrameHead_66 : decode cX6_openFrameHead 66 = .ok (.invokevirtual 95, 3) := by decide +kernel
theorem dX6_openFrameHead_69 : decode cX6_openFrameHead 69 = .ok (.ifCond .eq 13, 3) := by decide +kernel
theorem dX6_openFrameHead_72 : decode cX6_openFrameHead 72 = .ok (.aload_n 0, 1) := by decide +kernel
theorem dX6_openFrameHead_73 : decode cX6_openFrameHead 73 = .ok (.iconst 1, 1) := by decide +kernel
theorem dX6_openFrameHead_74 : decode cX6_openFrameHead 74 = .ok (.aload_n 0, 1) := by decide +kernel
theorem dX6_openFrameHead_75 : decode cX6_openFrameHead 75 = .ok (.getfield 54, 3) := by decide +kernel
theorem dX6_openFrameHead_78 : decode cX6_openFrameHead 78 = .ok (.invokevirtual 98, 3) := by decide +kernel
theorem dX6_openFrameHead_81 : decode cX6_openFrameHead 81 = .ok (.ireturn, 1) := by decide +kernel
theorem dX6_openFrameHead_82 : decode cX6_openFrameHead 82 = .ok (.aload_n 0, 1) := by decide +kernel
theorem dX6_openFrameHead_83 : decode cX6_openFrameHead 83 = .ok (.aload_n 0, 1) := by decide +kernel
theorem dX6_openFrameHead_84 : decode cX6_openFrameHead 84 = .ok (.getfield 9, 3) := by decide +kernel
theorem dX6_openFrameHead_87 : decode cX6_openFrameHead 87 = .ok (.aload_n 0, 1) := by decide +kernel
theorem dX6_openFrameHead_88 : decode cX6_openFrameHead 88 = .ok (.getfield 47, 3) := by decide +kernel
theorem dX6_openFrameHead_91 : decode cX6_openFrameHead 91 = .ok (.iconst 1, 1) := by decide +kernel
theorem dX6_openFrameHead_92 : decode cX6_openFrameHead 92 = .ok (.iadd, 1) := by decide +kernel
theorem dX6_openFrameHead_93 : decode cX6_openFrameHead 93 = .ok (.invokevirtual 89, 3) := by decide +kernel
theorem dX6_openFrameHead_96 : decode cX6_openFrameHead 96 = .ok (.bipush 16, 2) := by decide +kernel
theorem dX6_openFrameHead_98 : decode cX6_openFrameHead 98 = .ok (.idiv, 1) := by decide +kernel
theorem dX6_openFrameHead_99 : decode cX6_openFrameHead 99 = .ok (.putfield 168, 3) := by decide +kernel
theorem dX6_openFrameHead_102 : decode cX6_openFrameHead 102 = .ok (.aload_n 0, 1) := by decide +kernel
theorem dX6_openFrameHead_103 : decode cX6_openFrameHead 103 = .ok (.getfield 168, 3) := by decide +kernel
theorem dX6_openFrameHead_106 : decode cX6_openFrameHead 106 = .ok (.iconst 4, 1) := by decide +kernel
theorem dX6_openFrameHead_107 : decode cX6_openFrameHead 107 = .ok (.if_icmp .lt 31, 3) := by decide +kernel
theorem dX6_openFrameHead_110 : decode cX6_openFrameHead 110 = .ok (.aload_n 0, 1) := by decide +kernel
theorem dX6_openFrameHead_111 : decode cX6_openFrameHead 111 = .ok (.getfield 168, 3) := by decide +kernel
theorem dX6_openFrameHead_114 : decode cX6_openFrameHead 114 = .ok (.bipush 7, 2) := by decide +kernel
theorem dX6_openFrameHead_116 : decode cX6_openFrameHead 116 = .ok (.if_icmp .gt 22, 3) := by decide +kernel
theorem dX6_openFrameHead_119 : decode cX6_openFrameHead 119 = .ok (.aload_n 0, 1) := by decide +kernel
theorem dX6_openFrameHead_120 : decode cX6_openFrameHead 120 = .ok (.getfield 9, 3) := by decide +kernel
theorem dX6_openFrameHead_123 : decode cX6_openFrameHead 123 = .ok (.aload_n 0, 1) := by decide +kernel
theorem dX6_openFrameHead_124 : decode cX6_openFrameHead 124 = .ok (.getfield 47, 3) := by decide +kernel
theorem dX6_openFrameHead_127 : decode cX6_openFrameHead 127 = .ok (.iconst 1, 1) := by decide +kernel
theorem dX6_openFrameHead_128 : decode cX6_openFrameHead 128 = .ok (.iadd, 1) := by decide +kernel
theorem dX6_openFrameHead_129 : decode cX6_openFrameHead 129 = .ok (.invokevirtual 89, 3) := by decide +kernel
theorem dX6_openFrameHead_132 : decode cX6_openFrameHead 132 = .ok (.bipush 16, 2) := by decide +kernel
theorem dX6_openFrameHead_134 : decode cX6_openFrameHead 134 = .ok (.irem, 1) := by decide +kernel
theorem dX6_openFrameHead_135 : decode cX6_openFrameHead 135 = .ok (.ifCond .eq 15, 3) := by decide +kernel
theorem dX6_openFrameHead_138 : decode cX6_openFrameHead 138 = .ok (.aload_n 0, 1) := by decide +kernel
theorem dX6_openFrameHead_139 : decode cX6_openFrameHead 139 = .ok (.iconst 5, 1) := by decide +kernel
theorem dX6_openFrameHead_140 : decode cX6_openFrameHead 140 = .ok (.aload_n 0, 1) := by decide +kernel
theorem dX6_openFrameHead_141 : decode cX6_openFrameHead 141 = .ok (.getfield 47, 3) := by decide +kernel
theorem dX6_openFrameHead_144 : decode cX6_openFrameHead 144 = .ok (.iconst 1, 1) := by decide +kernel
theorem dX6_openFrameHead_145 : decode cX6_openFrameHead 145 = .ok (.iadd, 1) := by decide +kernel
theorem dX6_openFrameHead_146 : decode cX6_openFrameHead 146 = .ok (.invokevirtual 98, 3) := by decide +kernel
theorem dX6_openFrameHead_149 : decode cX6_openFrameHead 149 = .ok (.ireturn, 1) := by decide +kernel
theorem dX6_openFrameHead_150 : decode cX6_openFrameHead 150 = .ok (.aload_n 0, 1) := by decide +kernel
theorem dX6_openFrameHead_151 : decode cX6_openFrameHead 151 = .ok (.invokevirtual 171, 3) := by decide +kernel
theorem dX6_openFrameHead_154 : decode cX6_openFrameHead 154 = .ok (.ireturn, 1) := by decide +kernel
def m_Opener_openFrameHead_J54 (h0_at : Int32) (h0_width : Int32) (h0_size : Int64) (r2 : Int32) : Option (Int32 × Int32 × Int32 × Int32 × Int32 × Int32 × Int64) :=
  (m_Opener_breaks (5 : Int32) h0_at).bind fun (r3, u4, u5) =>
  bch r3 <|
  some (r3, u4, u5, h0_at, r2, h0_width, h0_size)
def m_Opener_openFrameHead_J138 (h0_at : Int32) (h0_size : Int64) (r2 : Int32) (p_9 : Int32) : Option (Int32 × Int32 × Int32 × Int32 × Int32 × Int32 × Int64) :=
  (m_Opener_breaks (5 : Int32) (h0_at + (1 : Int32))).bind fun (r10, u11, u12) =>
  bch r10 <|
  some (r10, u11, u12, h0_at, r2, p_9, h0_size)
def m_Opener_openFrameHead (h0_broken : Int32) (h0_brokenAt : Int32) (h0_at : Int32) (h0_end : Int32) (h0_flags : Int32) (h0_width : Int32) (h0_size : Int64) (h0_input_count : Int32) (h0_input_held_n : Nat) (h0_input_held_f : Nat → Int32) (h0_settings_n : Nat) (h0_settings_f : Nat → Int32) : Option (Int32 × Int32 × Int32 × Int32 × Int32 × Int32 × Int64) :=
  (m_Opener_lacks (1 : Int32) h0_at h0_end).bind fun r1 =>
  if r1 = 0 then
    (m_Bytes_at h0_at h0_input_count h0_input_held_n h0_input_held_f).bind fun r2 =>
    if (r2 &&& (192 : Int32)) = (64 : Int32) then
      (m_Opener_isFlag (2 : Int32) r2).bind fun r6 =>
      if r6 = 0 then
        (m_Opener_lacks (2 : Int32) h0_at h0_end).bind fun r7 =>
        if r7 = 0 then
          (m_Bytes_at (h0_at + (1 : Int32)) h0_input_count h0_input_held_n h0_input_held_f).bind fun r8 =>
          bnd (r8 / (16 : Int32)) fun p_9 =>
          if p_9 < (4 : Int32) then
            m_Opener_openFrameHead_J138 h0_at h0_size r2 p_9
          else
            if (7 : Int32) < p_9 then
              m_Opener_openFrameHead_J138 h0_at h0_size r2 p_9
            else
              (m_Bytes_at (h0_at + (1 : Int32)) h0_input_count h0_input_held_n h0_input_held_f).bind fun r13 =>
              if (irem r13 (16 : Int32)) = 0 then
                (m_Opener_openFrameTold h0_broken h0_brokenAt h0_at h0_end r2 h0_size h0_input_count h0_input_held_n h0_input_held_f h0_settings_n h0_settings_f).bind fun (r14, u15, u16, u17, u18) =>
                bch r14 <|
                some (r14, u15, u16, u17, r2, p_9, u18)
              else
                m_Opener_openFrameHead_J138 h0_at h0_size r2 p_9
        else
          (m_Opener_breaks (1 : Int32) h0_end).bind fun (r19, u20, u21) =>
          bch r19 <|
          some (r19, u20, u21, h0_at, r2, h0_width, h0_size)
      else
        m_Opener_openFrameHead_J54 h0_at h0_width h0_size r2
    else
      m_Opener_openFrameHead_J54 h0_at h0_width h0_size r2
  else
    (m_Opener_breaks (1 : Int32) h0_end).bind fun (r22, u23, u24) =>
    bch r22 <|
    some (r22, u23, u24, h0_at, h0_flags, h0_width, h0_size)
def rm_Opener_openFrameHead : Room := { frames := 4, cells := 0, slots := 0, locals := 99 }
set_option maxHeartbeats 4000000 in
set_option maxRecDepth 100000 in
theorem c_Opener_openFrameHead {l : Launch} {dC : Nat → ClassId} {dI : Nat → Nat → Nat} {cB cI : ClassId} {sz : Nat} {h0 : Nat} {h0_input : Nat} {h0_input_held : Nat} {h0_settings : Nat} {w_h0_words : Value} {w_h0_to : Value} {w_h0_blocks : Value} {h0_broken : Int32} {h0_brokenAt : Int32} {h0_at : Int32} {h0_end : Int32} {w_h0_begin : Value} {w_h0_copies : Value} {w_h0_literals : Value} {w_h0_parts : Value} {w_h0_frameBegin : Value} {h0_flags : Int32} {h0_width : Int32} {h0_size : Int64} {h0_input_count : Int32} {h0_input_held_n : Nat} {h0_input_held_f : Nat → Int32} {h0_settings_n : Nat} {h0_settings_f : Nat → Int32} {o_r : Int32} {o_h0_broken : Int32} {o_h0_brokenAt : Int32} {o_h0_at : Int32} {o_h0_flags : Int32} {o_h0_width : Int32} {o_h0_size : Int64} (hf : m_Opener_openFrameHead h0_broken h0_brokenAt h0_at h0_end h0_flags h0_width h0_size h0_input_count h0_input_held_n h0_input_held_f h0_settings_n h0_settings_f = some (o_r, o_h0_broken, o_h0_brokenAt, o_h0_at, o_h0_flags, o_h0_width, o_h0_size)) : Met l yX6_openFrameHead (Cond.code yX6_openFrameHead cX6_openFrameHead 1 (some .boolean) :: lw_G) rm_Opener_openFrameHead (PreC (dC, dI) [(cB, .byte), (cI, .int)] [.ref h0] sz [(h0, .inr (5, [.ref h0_input, w_h0_words, .ref h0_settings, w_h0_to, w_h0_blocks, .int h0_broken, .int h0_brokenAt, .int h0_at, .int h0_end, w_h0_begin, w_h0_copies, w_h0_literals, w_h0_parts, w_h0_frameBegin, .int h0_flags, .int h0_width, .long h0_size])), (h0_input, .inr (2, [.ref h0_input_held, .int h0_input_count])), (h0_input_held, .inl (cB, h0_input_held_n, .inl h0_input_held_f)), (h0_settings, .inl (cI, h0_settings_n, .inl h0_settings_f))]) (QcI o_r (dC, dI) [(h0, .inr (5, [.ref h0_input, w_h0_words, .ref h0_settings, w_h0_to, w_h0_blocks, .int o_h0_broken, .int o_h0_brokenAt, .int o_h0_at, .int h0_end, w_h0_begin, w_h0_copies, w_h0_literals, w_h0_parts, w_h0_frameBegin, .int o_h0_flags, .int o_h0_width, .long o_h0_size])), (h0_input, .inr (2, [.ref h0_input_held, .int h0_input_count])), (h0_input_held, .inl (cB, h0_input_held_n, .inl h0_input_held_f)), (h0_settings, .inl (cI, h0_settings_n, .inl h0_settings_f))] (va_A [(h0, .inr (5, [.ref h0_input, w_h0_words, .ref h0_settings, w_h0_to, w_h0_blocks, .int h0_broken, .int h0_brokenAt, .int h0_at, .int h0_end, w_h0_begin, w_h0_copies, w_h0_literals, w_h0_parts, w_h0_frameBegin, .int h0_flags, .int h0_width, .long h0_size])), (h0_input, .inr (2, [.ref h0_input_held, .int h0_input_count])), (h0_input_held, .inl (cB, h0_input_held_n, .inl h0_input_held_f)), (h0_settings, .inl (cI, h0_settings_n, .inl h0_settings_f))] sz)) 0 0 (va_A [(h0, .inr (5, [.ref h0_input, w_h0_words, .ref h0_settings, w_h0_to, w_h0_blocks, .int h0_broken, .int h0_brokenAt, .int h0_at, .int h0_end, w_h0_begin, w_h0_copies, w_h0_literals, w_h0_parts, w_h0_frameBegin, .int h0_flags, .int h0_width, .long h0_size])), (h0_input, .inr (2, [.ref h0_input_held, .int h0_input_count])), (h0_input_held, .inl (cB, h0_input_held_n, .inl h0_input_held_f)), (h0_settings, .inl (cI, h0_settings_n, .inl h0_settings_f))] sz) := by
  refine met_of (Qf := fun A => QcI o_r (dC, dI) [(h0, .inr (5, [.ref h0_input, w_h0_words, .ref h0_settings, w_h0_to, w_h0_blocks, .int o_h0_broken, .int o_h0_brokenAt, .int o_h0_at, .int h0_end, w_h0_begin, w_h0_copies, w_h0_literals, w_h0_parts, w_h0_frameBegin, .int o_h0_flags, .int o_h0_width, .long o_h0_size])), (h0_input, .inr (2, [.ref h0_input_held, .int h0_input_count])), (h0_input_held, .inl (cB, h0_input_held_n, .inl h0_input_held_f)), (h0_settings, .inl (cI, h0_settings_n, .inl h0_settings_f))] A) (by decide) (Nat.le_of_ble_eq_true rfl) ?_
  intro p e s m below meth c A ls Q hx hb hr hml hown hts hlocks hnm hP hK hD hN hT hA hl hQ
  have hown : s.vm.findClass RX6 = some m.cls := hown
  have hS : va_S A s.heap s.heap [] := va_S.rf
  have hl : lv_has ls 1 [(0, .ref h0)] := hl
  unfold m_Opener_openFrameHead at hf
  refine lv_aload_n hx hb dX6_openFrameHead_0 rfl (lv_at hl 0 rfl) ?_
  refine lv_iconst (v := 1) hx hb dX6_openFrameHead_1 (by decide) ?_
  obtain ⟨r1, hc, hf⟩ := bind_some hf
  refine nx_i (rn_V (As := [.int (1 : Int32)]) (rest := []) (n := 1) (ci := 5) (q0 := 0) ⟨hx, hb, hml, hown, hts⟩ (c_Opener_lacks (l := l) (dC := dC) (dI := dI) (cB := cB) (cI := cI) (h0 := h0) (a1 := (1 : Int32)) (w_h0_input := (.ref h0_input)) (w_h0_words := (w_h0_words)) (w_h0_settings := (.ref h0_settings)) (w_h0_to := (w_h0_to)) (w_h0_blocks := (w_h0_blocks)) (w_h0_broken := (.int h0_broken)) (w_h0_brokenAt := (.int h0_brokenAt)) (h0_at := h0_at) (h0_end := h0_end) (w_h0_begin := (w_h0_begin)) (w_h0_copies := (w_h0_copies)) (w_h0_literals := (w_h0_literals)) (w_h0_parts := (w_h0_parts)) (w_h0_frameBegin := (w_h0_frameBegin)) (w_h0_flags := (.int h0_flags)) (w_h0_width := (.int h0_width)) (w_h0_size := (.long h0_size))  (o_r := r1) hc) (wV kw_867 kw_869 kw_25 kw_92 kw_870) (by decide +kernel) ⟨Nat.le_of_ble_eq_true rfl, Nat.le_of_ble_eq_true rfl⟩ hK hP hD hN hT hS (va_free (wc := [(h0, .inr (5, [.ref h0_input, w_h0_words, .ref h0_settings, w_h0_to, w_h0_blocks, .int h0_broken, .int h0_brokenAt, .int h0_at, .int h0_end, w_h0_begin, w_h0_copies, w_h0_literals, w_h0_parts, w_h0_frameBegin, .int h0_flags, .int h0_width, .long h0_size]))]) hD hS hA [0] rfl) [0] rfl (by decide) rfl rfl rfl hl.1 rfl (lv_room (Nat.le_of_ble_eq_true rfl)) dX6_openFrameHead_2 ⟨Nat.le_of_ble_eq_true rfl, Nat.le_of_ble_eq_true rfl⟩) hP hD hS hA (wr := [(h0_input, .inr (2, [.ref h0_input_held, .int h0_input_count])), (h0_input_held, .inl (cB, h0_input_held_n, .inl h0_input_held_f)), (h0_settings, .inl (cI, h0_settings_n, .inl h0_settings_f))]) (w1 := [(h0, .inr (5, [.ref h0_input, w_h0_words, .ref h0_settings, w_h0_to, w_h0_blocks, .int h0_broken, .int h0_brokenAt, .int h0_at, .int h0_end, w_h0_begin, w_h0_copies, w_h0_literals, w_h0_parts, w_h0_frameBegin, .int h0_flags, .int h0_width, .long h0_size]))]) (ws' := [(h0, .inr (5, [.ref h0_input, w_h0_words, .ref h0_settings, w_h0_to, w_h0_blocks, .int h0_broken, .int h0_brokenAt, .int h0_at, .int h0_end, w_h0_begin, w_h0_copies, w_h0_literals, w_h0_parts, w_h0_frameBegin, .int h0_flags, .int h0_width, .long h0_size])), (h0_input, .inr (2, [.ref h0_input_held, .int h0_input_count])), (h0_input_held, .inl (cB, h0_input_held_n, .inl h0_input_held_f)), (h0_settings, .inl (cI, h0_settings_n, .inl h0_settings_f))]) [0] [1, 2, 3] [3, 0, 1, 2] rfl rfl (by decide) (by decide) rfl (by decide) (fun H locs hP hD hS => ?_)
  refine lv_if_eq (tgt := 18) hx hb dX6_openFrameHead_5 (by decide) (fun c_5 => ?_) (fun c_5 => ?_)
  · replace hf := if_t c_5 hf
    refine lv_aload_n hx hb dX6_openFrameHead_18 rfl (lv_at hl 0 rfl) ?_
    refine lv_aload_n hx hb dX6_openFrameHead_19 rfl (lv_at hl 0 rfl) ?_
    refine va_get (D := (dC, dI)) (ci := 5) (v := .ref h0_input) (C := RX6) (T := TX6) (N := 17) hx hb hts inG_X6 hown hK hP 0 rfl rfl 0 (by decide) (hts _ kw_289) (fun _ h9 => h9) rfl dX6_openFrameHead_20 ?_
    refine lv_aload_n hx hb dX6_openFrameHead_23 rfl (lv_at hl 0 rfl) ?_
    refine va_get (D := (dC, dI)) (ci := 5) (v := .int h0_at) (C := RX6) (T := TX6) (N := 17) hx hb hts inG_X6 hown hK hP 0 rfl rfl 7 (by decide) (hts _ kw_296) (fun _ h9 => h9) rfl dX6_openFrameHead_24 ?_
    obtain ⟨r2, hc, hf⟩ := bind_some hf
    refine nx_i (rn_V (As := [.int h0_at]) (rest := [.ref h0]) (n := 1) (ci := 2) (q0 := 0) ⟨hx, hb, hml, hown, hts⟩ (c_Bytes_at (l := l) (dC := dC) (dI := dI) (cB := cB) (cI := cI) (h0 := h0_input) (a1 := h0_at) (h0_held := h0_input_held) (h0_count := h0_input_count) (h0_held_n := h0_input_held_n) (h0_held_f := h0_input_held_f)  (o_r := r2) hc) (wV kw_862 kw_418 kw_419 kw_83 kw_420) (by decide +kernel) ⟨Nat.le_of_ble_eq_true rfl, Nat.le_of_ble_eq_true rfl⟩ hK hP hD hN hT hS (va_free (wc := [(h0_input, .inr (2, [.ref h0_input_held, .int h0_input_count])), (h0_input_held, .inl (cB, h0_input_held_n, .inl h0_input_held_f))]) hD hS hA [1, 2] rfl) [1, 2] rfl (by decide) rfl rfl rfl hl.1 rfl (lv_room (Nat.le_of_ble_eq_true rfl)) dX6_openFrameHead_27 ⟨Nat.le_of_ble_eq_true rfl, Nat.le_of_ble_eq_true rfl⟩) hP hD hS hA (wr := [(h0, .inr (5, [.ref h0_input, w_h0_words, .ref h0_settings, w_h0_to, w_h0_blocks, .int h0_broken, .int h0_brokenAt, .int h0_at, .int h0_end, w_h0_begin, w_h0_copies, w_h0_literals, w_h0_parts, w_h0_frameBegin, .int h0_flags, .int h0_width, .long h0_size])), (h0_settings, .inl (cI, h0_settings_n, .inl h0_settings_f))]) (w1 := [(h0_input, .inr (2, [.ref h0_input_held, .int h0_input_count])), (h0_input_held, .inl (cB, h0_input_held_n, .inl h0_input_held_f))]) (ws' := [(h0, .inr (5, [.ref h0_input, w_h0_words, .ref h0_settings, w_h0_to, w_h0_blocks, .int h0_broken, .int h0_brokenAt, .int h0_at, .int h0_end, w_h0_begin, w_h0_copies, w_h0_literals, w_h0_parts, w_h0_frameBegin, .int h0_flags, .int h0_width, .long h0_size])), (h0_input, .inr (2, [.ref h0_input_held, .int h0_input_count])), (h0_input_held, .inl (cB, h0_input_held_n, .inl h0_input_held_f)), (h0_settings, .inl (cI, h0_settings_n, .inl h0_settings_f))]) [1, 2] [0, 3] [0, 2, 3, 1] rfl rfl (by decide) (by decide) rfl (by decide) (fun H locs hP hD hS => ?_)
    refine va_put (D := (dC, dI)) (ci := 5) (v := .int r2) (ty := .int) (C := RX6) (T := TX6) (N := 17) hx hb hts inG_X6 tyX6 tyX6_ok nmX6 hown hK hP hD hS 0 rfl rfl 14 (by decide) (hts _ kw_303) (fun _ h9 => h9) rfl (by decide +kernel) rfl rfl (Nat.le_of_ble_eq_true rfl) dX6_openFrameHead_30 (fun H locs hP hD hS => ?_)
    have hP : va_P (dC, dI) vwCl [(h0, .inr (5, [.ref h0_input, w_h0_words, .ref h0_settings, w_h0_to, w_h0_blocks, .int h0_broken, .int h0_brokenAt, .int h0_at, .int h0_end, w_h0_begin, w_h0_copies, w_h0_literals, w_h0_parts, w_h0_frameBegin, .int r2, .int h0_width, .long h0_size])), (h0_input, .inr (2, [.ref h0_input_held, .int h0_input_count])), (h0_input_held, .inl (cB, h0_input_held_n, .inl h0_input_held_f)), (h0_settings, .inl (cI, h0_settings_n, .inl h0_settings_f))] H := hP
    have hD : va_D A [(h0, .inr (5, [.ref h0_input, w_h0_words, .ref h0_settings, w_h0_to, w_h0_blocks, .int h0_broken, .int h0_brokenAt, .int h0_at, .int h0_end, w_h0_begin, w_h0_copies, w_h0_literals, w_h0_parts, w_h0_frameBegin, .int r2, .int h0_width, .long h0_size])), (h0_input, .inr (2, [.ref h0_input_held, .int h0_input_count])), (h0_input_held, .inl (cB, h0_input_held_n, .inl h0_input_held_f)), (h0_settings, .inl (cI, h0_settings_n, .inl h0_settings_f))] := hD
    refine lv_aload_n hx hb dX6_openFrameHead_33 rfl (lv_at hl 0 rfl) ?_
    refine va_get (D := (dC, dI)) (ci := 5) (v := .int r2) (C := RX6) (T := TX6) (N := 17) hx hb hts inG_X6 hown hK hP 0 rfl rfl 14 (by decide) (hts _ kw_303) (fun _ h9 => h9) rfl dX6_openFrameHead_34 ?_
    refine lv_sipush (v := 192) hx hb dX6_openFrameHead_37 (by decide) ?_
    refine lv_iand hx hb dX6_openFrameHead_40 ?_
    refine lv_bipush (v := 64) hx hb dX6_openFrameHead_41 (by decide) ?_
    have hJ_54 : ∀ (H : Heap) (locs : List Loc) (ls : Array Slot), m_Opener_openFrameHead_J54 h0_at h0_width h0_size r2 = some (o_r, o_h0_broken, o_h0_brokenAt, o_h0_at, o_h0_flags, o_h0_width, o_h0_size) → va_P (dC, dI) vwCl [(h0, .inr (5, [.ref h0_input, w_h0_words, .ref h0_settings, w_h0_to, w_h0_blocks, .int h0_broken, .int h0_brokenAt, .int h0_at, .int h0_end, w_h0_begin, w_h0_copies, w_h0_literals, w_h0_parts, w_h0_frameBegin, .int r2, .int h0_width, .long h0_size])), (h0_input, .inr (2, [.ref h0_input_held, .int h0_input_count])), (h0_input_held, .inl (cB, h0_input_held_n, .inl h0_input_held_f)), (h0_settings, .inl (cI, h0_settings_n, .inl h0_settings_f))] H → va_D A [(h0, .inr (5, [.ref h0_input, w_h0_words, .ref h0_settings, w_h0_to, w_h0_blocks, .int h0_broken, .int h0_brokenAt, .int h0_at, .int h0_end, w_h0_begin, w_h0_copies, w_h0_literals, w_h0_parts, w_h0_frameBegin, .int r2, .int h0_width, .long h0_size])), (h0_input, .inr (2, [.ref h0_input_held, .int h0_input_count])), (h0_input_held, .inl (cB, h0_input_held_n, .inl h0_input_held_f)), (h0_settings, .inl (cI, h0_settings_n, .inl h0_settings_f))] → va_S A s.heap H locs → lv_has ls 1 [(0, .ref h0)] → W p l e (rm_Opener_openFrameHead) s m ([.ref h0] : List Value).toArray below meth c H locs 0 0 Q (F0 m 54 ls []) := by
      intro  H locs ls hf hP hD hS hl
      unfold m_Opener_openFrameHead_J54 at hf
      refine lv_aload_n hx hb dX6_openFrameHead_54 rfl (lv_at hl 0 rfl) ?_
      refine lv_iconst (v := 5) hx hb dX6_openFrameHead_55 (by decide) ?_
      refine lv_aload_n hx hb dX6_openFrameHead_56 rfl (lv_at hl 0 rfl) ?_
      refine va_get (D := (dC, dI)) (ci := 5) (v := .int h0_at) (C := RX6) (T := TX6) (N := 17) hx hb hts inG_X6 hown hK hP 0 rfl rfl 7 (by decide) (hts _ kw_296) (fun _ h9 => h9) rfl dX6_openFrameHead_57 ?_
      obtain ⟨x, hc, hf⟩ := bind_some hf
      obtain ⟨r3, u4, u5⟩ := x
      dsimp only at hf
      refine nx_i (rn_V (As := [.int (5 : Int32), .int h0_at]) (rest := []) (n := 2) (ci := 5) (q0 := 0) ⟨hx, hb, hml, hown, hts⟩ (c_Opener_breaks (l := l) (dC := dC) (dI := dI) (cB := cB) (cI := cI) (h0 := h0) (a1 := (5 : Int32)) (a2 := h0_at) (w_h0_input := (.ref h0_input)) (w_h0_words := (w_h0_words)) (w_h0_settings := (.ref h0_settings)) (w_h0_to := (w_h0_to)) (w_h0_blocks := (w_h0_blocks)) (h0_broken := h0_broken) (h0_brokenAt := h0_brokenAt) (w_h0_at := (.int h0_at)) (w_h0_end := (.int h0_end)) (w_h0_begin := (w_h0_begin)) (w_h0_copies := (w_h0_copies)) (w_h0_literals := (w_h0_literals)) (w_h0_parts := (w_h0_parts)) (w_h0_frameBegin := (w_h0_frameBegin)) (w_h0_flags := (.int r2)) (w_h0_width := (.int h0_width)) (w_h0_size := (.long h0_size)) (o_h0_broken := u4) (o_h0_brokenAt := u5) (o_r := r3) hc) (wV kw_871 kw_873 kw_26 kw_92 kw_874) (by decide +kernel) ⟨Nat.le_of_ble_eq_true rfl, Nat.le_of_ble_eq_true rfl⟩ hK hP hD hN hT hS (va_free (wc := [(h0, .inr (5, [.ref h0_input, w_h0_words, .ref h0_settings, w_h0_to, w_h0_blocks, .int h0_broken, .int h0_brokenAt, .int h0_at, .int h0_end, w_h0_begin, w_h0_copies, w_h0_literals, w_h0_parts, w_h0_frameBegin, .int r2, .int h0_width, .long h0_size]))]) hD hS hA [0] rfl) [0] rfl (by decide) rfl rfl rfl hl.1 rfl (lv_room (Nat.le_of_ble_eq_true rfl)) dX6_openFrameHead_60 ⟨Nat.le_of_ble_eq_true rfl, Nat.le_of_ble_eq_true rfl⟩) hP hD hS hA (wr := [(h0_input, .inr (2, [.ref h0_input_held, .int h0_input_count])), (h0_input_held, .inl (cB, h0_input_held_n, .inl h0_input_held_f)), (h0_settings, .inl (cI, h0_settings_n, .inl h0_settings_f))]) (w1 := [(h0, .inr (5, [.ref h0_input, w_h0_words, .ref h0_settings, w_h0_to, w_h0_blocks, .int u4, .int u5, .int h0_at, .int h0_end, w_h0_begin, w_h0_copies, w_h0_literals, w_h0_parts, w_h0_frameBegin, .int r2, .int h0_width, .long h0_size]))]) (ws' := [(h0, .inr (5, [.ref h0_input, w_h0_words, .ref h0_settings, w_h0_to, w_h0_blocks, .int u4, .int u5, .int h0_at, .int h0_end, w_h0_begin, w_h0_copies, w_h0_literals, w_h0_parts, w_h0_frameBegin, .int r2, .int h0_width, .long h0_size])), (h0_input, .inr (2, [.ref h0_input_held, .int h0_input_count])), (h0_input_held, .inl (cB, h0_input_held_n, .inl h0_input_held_f)), (h0_settings, .inl (cI, h0_settings_n, .inl h0_settings_f))]) [0] [1, 2, 3] [3, 0, 1, 2] rfl rfl (by decide) (by decide) rfl (by decide) (fun H locs hP hD hS => ?_)
      obtain ⟨hzb, hf⟩ := bch_some hf
      obtain ⟨rfl, hq_1⟩ := Prod.mk.inj (Option.some.inj hf)
      obtain ⟨rfl, hq_2⟩ := Prod.mk.inj hq_1
      obtain ⟨rfl, hq_3⟩ := Prod.mk.inj hq_2
      obtain ⟨rfl, hq_4⟩ := Prod.mk.inj hq_3
      obtain ⟨rfl, hq_5⟩ := Prod.mk.inj hq_4
      obtain ⟨rfl, hq_6⟩ := Prod.mk.inj hq_5
      obtain rfl := hq_6
      exact rt_z hQ hx hb hr hzb hlocks hP hD hS dX6_openFrameHead_63
    refine lv_icmp_ne (tgt := 54) hx hb dX6_openFrameHead_43 (by decide) (fun c_43 => ?_) (fun c_43 => ?_)
    · replace hf := if_f c_43 hf
      exact hJ_54  _ _ _ hf hP hD hS (lv_sub hl [0] rfl)
    · replace hf := if_t c_43 hf
      refine lv_aload_n hx hb dX6_openFrameHead_46 rfl (lv_at hl 0 rfl) ?_
      refine lv_iconst (v := 2) hx hb dX6_openFrameHead_47 (by decide) ?_
      obtain ⟨r6, hc, hf⟩ := bind_some hf
      refine nx_i (rn_V (As := [.int (2 : Int32)]) (rest := []) (n := 1) (ci := 5) (q0 := 0) ⟨hx, hb, hml, hown, hts⟩ (c_Opener_isFlag (l := l) (dC := dC) (dI := dI) (cB := cB) (cI := cI) (h0 := h0) (a1 := (2 : Int32)) (w_h0_input := (.ref h0_input)) (w_h0_words := (w_h0_words)) (w_h0_settings := (.ref h0_settings)) (w_h0_to := (w_h0_to)) (w_h0_blocks := (w_h0_blocks)) (w_h0_broken := (.int h0_broken)) (w_h0_brokenAt := (.int h0_brokenAt)) (w_h0_at := (.int h0_at)) (w_h0_end := (.int h0_end)) (w_h0_begin := (w_h0_begin)) (w_h0_copies := (w_h0_copies)) (w_h0_literals := (w_h0_literals)) (w_h0_parts := (w_h0_parts)) (w_h0_frameBegin := (w_h0_frameBegin)) (h0_flags := r2) (w_h0_width := (.int h0_width)) (w_h0_size := (.long h0_size))  (o_r := r6) hc) (wV kw_928 kw_930 kw_35 kw_92 kw_931) (by decide +kernel) ⟨Nat.le_of_ble_eq_true rfl, Nat.le_of_ble_eq_true rfl⟩ hK hP hD hN hT hS (va_free (wc := [(h0, .inr (5, [.ref h0_input, w_h0_words, .ref h0_settings, w_h0_to, w_h0_blocks, .int h0_broken, .int h0_brokenAt, .int h0_at, .int h0_end, w_h0_begin, w_h0_copies, w_h0_literals, w_h0_parts, w_h0_frameBegin, .int r2, .int h0_width, .long h0_size]))]) hD hS hA [0] rfl) [0] rfl (by decide) rfl rfl rfl hl.1 rfl (lv_room (Nat.le_of_ble_eq_true rfl)) dX6_openFrameHead_48 ⟨Nat.le_of_ble_eq_true rfl, Nat.le_of_ble_eq_true rfl⟩) hP hD hS hA (wr := [(h0_input, .inr (2, [.ref h0_input_held, .int h0_input_count])), (h0_input_held, .inl (cB, h0_input_held_n, .inl h0_input_held_f)), (h0_settings, .inl (cI, h0_settings_n, .inl h0_settings_f))]) (w1 := [(h0, .inr (5, [.ref h0_input, w_h0_words, .ref h0_settings, w_h0_to, w_h0_blocks, .int h0_broken, .int h0_brokenAt, .int h0_at, .int h0_end, w_h0_begin, w_h0_copies, w_h0_literals, w_h0_parts, w_h0_frameBegin, .int r2, .int h0_width, .long h0_size]))]) (ws' := [(h0, .inr (5, [.ref h0_input, w_h0_words, .ref h0_settings, w_h0_to, w_h0_blocks, .int h0_broken, .int h0_brokenAt, .int h0_at, .int h0_end, w_h0_begin, w_h0_copies, w_h0_literals, w_h0_parts, w_h0_frameBegin, .int r2, .int h0_width, .long h0_size])), (h0_input, .inr (2, [.ref h0_input_held, .int h0_input_count])), (h0_input_held, .inl (cB, h0_input_held_n, .inl h0_input_held_f)), (h0_settings, .inl (cI, h0_settings_n, .inl h0_settings_f))]) [0] [1, 2, 3] [3, 0, 1, 2] rfl rfl (by decide) (by decide) rfl (by decide) (fun H locs hP hD hS => ?_)
      refine lv_if_eq (tgt := 64) hx hb dX6_openFrameHead_51 (by decide) (fun c_51 => ?_) (fun c_51 => ?_)
      · replace hf := if_t c_51 hf
        refine lv_aload_n hx hb dX6_openFrameHead_64 rfl (lv_at hl 0 rfl) ?_
        refine lv_iconst (v := 2) hx hb dX6_openFrameHead_65 (by decide) ?_
        obtain ⟨r7, hc, hf⟩ := bind_some hf
        refine nx_i (rn_V (As := [.int (2 : Int32)]) (rest := []) (n := 1) (ci := 5) (q0 := 0) ⟨hx, hb, hml, hown, hts⟩ (c_Opener_lacks (l := l) (dC := dC) (dI := dI) (cB := cB) (cI := cI) (h0 := h0) (a1 := (2 : Int32)) (w_h0_input := (.ref h0_input)) (w_h0_words := (w_h0_words)) (w_h0_settings := (.ref h0_settings)) (w_h0_to := (w_h0_to)) (w_h0_blocks := (w_h0_blocks)) (w_h0_broken := (.int h0_broken)) (w_h0_brokenAt := (.int h0_brokenAt)) (h0_at := h0_at) (h0_end := h0_end) (w_h0_begin := (w_h0_begin)) (w_h0_copies := (w_h0_copies)) (w_h0_literals := (w_h0_literals)) (w_h0_parts := (w_h0_parts)) (w_h0_frameBegin := (w_h0_frameBegin)) (w_h0_flags := (.int r2)) (w_h0_width := (.int h0_width)) (w_h0_size := (.long h0_size))  (o_r := r7) hc) (wV kw_867 kw_869 kw_25 kw_92 kw_870) (by decide +kernel) ⟨Nat.le_of_ble_eq_true rfl, Nat.le_of_ble_eq_true rfl⟩ hK hP hD hN hT hS (va_free (wc := [(h0, .inr (5, [.ref h0_input, w_h0_words, .ref h0_settings, w_h0_to, w_h0_blocks, .int h0_broken, .int h0_brokenAt, .int h0_at, .int h0_end, w_h0_begin, w_h0_copies, w_h0_literals, w_h0_parts, w_h0_frameBegin, .int r2, .int h0_width, .long h0_size]))]) hD hS hA [0] rfl) [0] rfl (by decide) rfl rfl rfl hl.1 rfl (lv_room (Nat.le_of_ble_eq_true rfl)) dX6_openFrameHead_66 ⟨Nat.le_of_ble_eq_true rfl, Nat.le_of_ble_eq_true rfl⟩) hP hD hS hA (wr := [(h0_input, .inr (2, [.ref h0_input_held, .int h0_input_count])), (h0_input_held, .inl (cB, h0_input_held_n, .inl h0_input_held_f)), (h0_settings, .inl (cI, h0_settings_n, .inl h0_settings_f))]) (w1 := [(h0, .inr (5, [.ref h0_input, w_h0_words, .ref h0_settings, w_h0_to, w_h0_blocks, .int h0_broken, .int h0_brokenAt, .int h0_at, .int h0_end, w_h0_begin, w_h0_copies, w_h0_literals, w_h0_parts, w_h0_frameBegin, .int r2, .int h0_width, .long h0_size]))]) (ws' := [(h0, .inr (5, [.ref h0_input, w_h0_words, .ref h0_settings, w_h0_to, w_h0_blocks, .int h0_broken, .int h0_brokenAt, .int h0_at, .int h0_end, w_h0_begin, w_h0_copies, w_h0_literals, w_h0_parts, w_h0_frameBegin, .int r2, .int h0_width, .long h0_size])), (h0_input, .inr (2, [.ref h0_input_held, .int h0_input_count])), (h0_input_held, .inl (cB, h0_input_held_n, .inl h0_input_held_f)), (h0_settings, .inl (cI, h0_settings_n, .inl h0_settings_f))]) [0] [1, 2, 3] [3, 0, 1, 2] rfl rfl (by decide) (by decide) rfl (by decide) (fun H locs hP hD hS => ?_)
        refine lv_if_eq (tgt := 82) hx hb dX6_openFrameHead_69 (by decide) (fun c_69 => ?_) (fun c_69 => ?_)
        · replace hf := if_t c_69 hf
          refine lv_aload_n hx hb dX6_openFrameHead_82 rfl (lv_at hl 0 rfl) ?_
          refine lv_aload_n hx hb dX6_openFrameHead_83 rfl (lv_at hl 0 rfl) ?_
          refine va_get (D := (dC, dI)) (ci := 5) (v := .ref h0_input) (C := RX6) (T := TX6) (N := 17) hx hb hts inG_X6 hown hK hP 0 rfl rfl 0 (by decide) (hts _ kw_289) (fun _ h9 => h9) rfl dX6_openFrameHead_84 ?_
          refine lv_aload_n hx hb dX6_openFrameHead_87 rfl (lv_at hl 0 rfl) ?_
          refine va_get (D := (dC, dI)) (ci := 5) (v := .int h0_at) (C := RX6) (T := TX6) (N := 17) hx hb hts inG_X6 hown hK hP 0 rfl rfl 7 (by decide) (hts _ kw_296) (fun _ h9 => h9) rfl dX6_openFrameHead_88 ?_
          refine lv_iconst (v := 1) hx hb dX6_openFrameHead_91 (by decide) ?_
          refine lv_iadd hx hb dX6_openFrameHead_92 ?_
          obtain ⟨r8, hc, hf⟩ := bind_some hf
          refine nx_i (rn_V (As := [.int (h0_at + (1 : Int32))]) (rest := [.ref h0]) (n := 1) (ci := 2) (q0 := 0) ⟨hx, hb, hml, hown, hts⟩ (c_Bytes_at (l := l) (dC := dC) (dI := dI) (cB := cB) (cI := cI) (h0 := h0_input) (a1 := (h0_at + (1 : Int32))) (h0_held := h0_input_held) (h0_count := h0_input_count) (h0_held_n := h0_input_held_n) (h0_held_f := h0_input_held_f)  (o_r := r8) hc) (wV kw_862 kw_418 kw_419 kw_83 kw_420) (by decide +kernel) ⟨Nat.le_of_ble_eq_true rfl, Nat.le_of_ble_eq_true rfl⟩ hK hP hD hN hT hS (va_free (wc := [(h0_input, .inr (2, [.ref h0_input_held, .int h0_input_count])), (h0_input_held, .inl (cB, h0_input_held_n, .inl h0_input_held_f))]) hD hS hA [1, 2] rfl) [1, 2] rfl (by decide) rfl rfl rfl hl.1 rfl (lv_room (Nat.le_of_ble_eq_true rfl)) dX6_openFrameHead_93 ⟨Nat.le_of_ble_eq_true rfl, Nat.le_of_ble_eq_true rfl⟩) hP hD hS hA (wr := [(h0, .inr (5, [.ref h0_input, w_h0_words, .ref h0_settings, w_h0_to, w_h0_blocks, .int h0_broken, .int h0_brokenAt, .int h0_at, .int h0_end, w_h0_begin, w_h0_copies, w_h0_literals, w_h0_parts, w_h0_frameBegin, .int r2, .int h0_width, .long h0_size])), (h0_settings, .inl (cI, h0_settings_n, .inl h0_settings_f))]) (w1 := [(h0_input, .inr (2, [.ref h0_input_held, .int h0_input_count])), (h0_input_held, .inl (cB, h0_input_held_n, .inl h0_input_held_f))]) (ws' := [(h0, .inr (5, [.ref h0_input, w_h0_words, .ref h0_settings, w_h0_to, w_h0_blocks, .int h0_broken, .int h0_brokenAt, .int h0_at, .int h0_end, w_h0_begin, w_h0_copies, w_h0_literals, w_h0_parts, w_h0_frameBegin, .int r2, .int h0_width, .long h0_size])), (h0_input, .inr (2, [.ref h0_input_held, .int h0_input_count])), (h0_input_held, .inl (cB, h0_input_held_n, .inl h0_input_held_f)), (h0_settings, .inl (cI, h0_settings_n, .inl h0_settings_f))]) [1, 2] [0, 3] [0, 2, 3, 1] rfl rfl (by decide) (by decide) rfl (by decide) (fun H locs hP hD hS => ?_)
          refine lv_bipush (v := 16) hx hb dX6_openFrameHead_96 (by decide) ?_
          refine lv_idiv hx hb dX6_openFrameHead_98 (by decide) ?_
          refine lv_topi (fun p_9 e_p_9 => ?_)
          replace hf := bnd_at e_p_9 hf
          refine va_put (D := (dC, dI)) (ci := 5) (v := .int p_9) (ty := .int) (C := RX6) (T := TX6) (N := 17) hx hb hts inG_X6 tyX6 tyX6_ok nmX6 hown hK hP hD hS 0 rfl rfl 15 (by decide) (hts _ kw_304) (fun _ h9 => h9) rfl (by decide +kernel) rfl rfl (Nat.le_of_ble_eq_true rfl) dX6_openFrameHead_99 (fun H locs hP hD hS => ?_)
          have hP : va_P (dC, dI) vwCl [(h0, .inr (5, [.ref h0_input, w_h0_words, .ref h0_settings, w_h0_to, w_h0_blocks, .int h0_broken, .int h0_brokenAt, .int h0_at, .int h0_end, w_h0_begin, w_h0_copies, w_h0_literals, w_h0_parts, w_h0_frameBegin, .int r2, .int p_9, .long h0_size])), (h0_input, .inr (2, [.ref h0_input_held, .int h0_input_count])), (h0_input_held, .inl (cB, h0_input_held_n, .inl h0_input_held_f)), (h0_settings, .inl (cI, h0_settings_n, .inl h0_settings_f))] H := hP
          have hD : va_D A [(h0, .inr (5, [.ref h0_input, w_h0_words, .ref h0_settings, w_h0_to, w_h0_blocks, .int h0_broken, .int h0_brokenAt, .int h0_at, .int h0_end, w_h0_begin, w_h0_copies, w_h0_literals, w_h0_parts, w_h0_frameBegin, .int r2, .int p_9, .long h0_size])), (h0_input, .inr (2, [.ref h0_input_held, .int h0_input_count])), (h0_input_held, .inl (cB, h0_input_held_n, .inl h0_input_held_f)), (h0_settings, .inl (cI, h0_settings_n, .inl h0_settings_f))] := hD
          refine lv_aload_n hx hb dX6_openFrameHead_102 rfl (lv_at hl 0 rfl) ?_
          refine va_get (D := (dC, dI)) (ci := 5) (v := .int p_9) (C := RX6) (T := TX6) (N := 17) hx hb hts inG_X6 hown hK hP 0 rfl rfl 15 (by decide) (hts _ kw_304) (fun _ h9 => h9) rfl dX6_openFrameHead_103 ?_
          refine lv_iconst (v := 4) hx hb dX6_openFrameHead_106 (by decide) ?_
          have hJ_138 : ∀ (H : Heap) (locs : List Loc) (ls : Array Slot), m_Opener_openFrameHead_J138 h0_at h0_size r2 p_9 = some (o_r, o_h0_broken, o_h0_brokenAt, o_h0_at, o_h0_flags, o_h0_width, o_h0_size) → va_P (dC, dI) vwCl [(h0, .inr (5, [.ref h0_input, w_h0_words, .ref h0_settings, w_h0_to, w_h0_blocks, .int h0_broken, .int h0_brokenAt, .int h0_at, .int h0_end, w_h0_begin, w_h0_copies, w_h0_literals, w_h0_parts, w_h0_frameBegin, .int r2, .int p_9, .long h0_size])), (h0_input, .inr (2, [.ref h0_input_held, .int h0_input_count])), (h0_input_held, .inl (cB, h0_input_held_n, .inl h0_input_held_f)), (h0_settings, .inl (cI, h0_settings_n, .inl h0_settings_f))] H → va_D A [(h0, .inr (5, [.ref h0_input, w_h0_words, .ref h0_settings, w_h0_to, w_h0_blocks, .int h0_broken, .int h0_brokenAt, .int h0_at, .int h0_end, w_h0_begin, w_h0_copies, w_h0_literals, w_h0_parts, w_h0_frameBegin, .int r2, .int p_9, .long h0_size])), (h0_input, .inr (2, [.ref h0_input_held, .int h0_input_count])), (h0_input_held, .inl (cB, h0_input_held_n, .inl h0_input_held_f)), (h0_settings, .inl (cI, h0_settings_n, .inl h0_settings_f))] → va_S A s.heap H locs → lv_has ls 1 [(0, .ref h0)] → W p l e (rm_Opener_openFrameHead) s m ([.ref h0] : List Value).toArray below meth c H locs 0 0 Q (F0 m 138 ls []) := by
            intro  H locs ls hf hP hD hS hl
            unfold m_Opener_openFrameHead_J138 at hf
            refine lv_aload_n hx hb dX6_openFrameHead_138 rfl (lv_at hl 0 rfl) ?_
            refine lv_iconst (v := 5) hx hb dX6_openFrameHead_139 (by decide) ?_
            refine lv_aload_n hx hb dX6_openFrameHead_140 rfl (lv_at hl 0 rfl) ?_
            refine va_get (D := (dC, dI)) (ci := 5) (v := .int h0_at) (C := RX6) (T := TX6) (N := 17) hx hb hts inG_X6 hown hK hP 0 rfl rfl 7 (by decide) (hts _ kw_296) (fun _ h9 => h9) rfl dX6_openFrameHead_141 ?_
            refine lv_iconst (v := 1) hx hb dX6_openFrameHead_144 (by decide) ?_
            refine lv_iadd hx hb dX6_openFrameHead_145 ?_
            obtain ⟨x, hc, hf⟩ := bind_some hf
            obtain ⟨r10, u11, u12⟩ := x
            dsimp only at hf
            refine nx_i (rn_V (As := [.int (5 : Int32), .int (h0_at + (1 : Int32))]) (rest := []) (n := 2) (ci := 5) (q0 := 0) ⟨hx, hb, hml, hown, hts⟩ (c_Opener_breaks (l := l) (dC := dC) (dI := dI) (cB := cB) (cI := cI) (h0 := h0) (a1 := (5 : Int32)) (a2 := (h0_at + (1 : Int32))) (w_h0_input := (.ref h0_input)) (w_h0_words := (w_h0_words)) (w_h0_settings := (.ref h0_settings)) (w_h0_to := (w_h0_to)) (w_h0_blocks := (w_h0_blocks)) (h0_broken := h0_broken) (h0_brokenAt := h0_brokenAt) (w_h0_at := (.int h0_at)) (w_h0_end := (.int h0_end)) (w_h0_begin := (w_h0_begin)) (w_h0_copies := (w_h0_copies)) (w_h0_literals := (w_h0_literals)) (w_h0_parts := (w_h0_parts)) (w_h0_frameBegin := (w_h0_frameBegin)) (w_h0_flags := (.int r2)) (w_h0_width := (.int p_9)) (w_h0_size := (.long h0_size)) (o_h0_broken := u11) (o_h0_brokenAt := u12) (o_r := r10) hc) (wV kw_871 kw_873 kw_26 kw_92 kw_874) (by decide +kernel) ⟨Nat.le_of_ble_eq_true rfl, Nat.le_of_ble_eq_true rfl⟩ hK hP hD hN hT hS (va_free (wc := [(h0, .inr (5, [.ref h0_input, w_h0_words, .ref h0_settings, w_h0_to, w_h0_blocks, .int h0_broken, .int h0_brokenAt, .int h0_at, .int h0_end, w_h0_begin, w_h0_copies, w_h0_literals, w_h0_parts, w_h0_frameBegin, .int r2, .int p_9, .long h0_size]))]) hD hS hA [0] rfl) [0] rfl (by decide) rfl rfl rfl hl.1 rfl (lv_room (Nat.le_of_ble_eq_true rfl)) dX6_openFrameHead_146 ⟨Nat.le_of_ble_eq_true rfl, Nat.le_of_ble_eq_true rfl⟩) hP hD hS hA (wr := [(h0_input, .inr (2, [.ref h0_input_held, .int h0_input_count])), (h0_input_held, .inl (cB, h0_input_held_n, .inl h0_input_held_f)), (h0_settings, .inl (cI, h0_settings_n, .inl h0_settings_f))]) (w1 := [(h0, .inr (5, [.ref h0_input, w_h0_words, .ref h0_settings, w_h0_to, w_h0_blocks, .int u11, .int u12, .int h0_at, .int h0_end, w_h0_begin, w_h0_copies, w_h0_literals, w_h0_parts, w_h0_frameBegin, .int r2, .int p_9, .long h0_size]))]) (ws' := [(h0, .inr (5, [.ref h0_input, w_h0_words, .ref h0_settings, w_h0_to, w_h0_blocks, .int u11, .int u12, .int h0_at, .int h0_end, w_h0_begin, w_h0_copies, w_h0_literals, w_h0_parts, w_h0_frameBegin, .int r2, .int p_9, .long h0_size])), (h0_input, .inr (2, [.ref h0_input_held, .int h0_input_count])), (h0_input_held, .inl (cB, h0_input_held_n, .inl h0_input_held_f)), (h0_settings, .inl (cI, h0_settings_n, .inl h0_settings_f))]) [0] [1, 2, 3] [3, 0, 1, 2] rfl rfl (by decide) (by decide) rfl (by decide) (fun H locs hP hD hS => ?_)
            obtain ⟨hzb, hf⟩ := bch_some hf
            obtain ⟨rfl, hq_1⟩ := Prod.mk.inj (Option.some.inj hf)
            obtain ⟨rfl, hq_2⟩ := Prod.mk.inj hq_1
            obtain ⟨rfl, hq_3⟩ := Prod.mk.inj hq_2
            obtain ⟨rfl, hq_4⟩ := Prod.mk.inj hq_3
            obtain ⟨rfl, hq_5⟩ := Prod.mk.inj hq_4
            obtain ⟨rfl, hq_6⟩ := Prod.mk.inj hq_5
            obtain rfl := hq_6
            exact rt_z hQ hx hb hr hzb hlocks hP hD hS dX6_openFrameHead_149
          refine lv_icmp_lt (tgt := 138) hx hb dX6_openFrameHead_107 (by decide) (fun c_107 => ?_) (fun c_107 => ?_)
          · replace hf := if_t c_107 hf
            exact hJ_138  _ _ _ hf hP hD hS (lv_sub hl [0] rfl)
          · replace hf := if_f c_107 hf
            refine lv_aload_n hx hb dX6_openFrameHead_110 rfl (lv_at hl 0 rfl) ?_
            refine va_get (D := (dC, dI)) (ci := 5) (v := .int p_9) (C := RX6) (T := TX6) (N := 17) hx hb hts inG_X6 hown hK hP 0 rfl rfl 15 (by decide) (hts _ kw_304) (fun _ h9 => h9) rfl dX6_openFrameHead_111 ?_
            refine lv_bipush (v := 7) hx hb dX6_openFrameHead_114 (by decide) ?_
            refine lv_icmp_gt (tgt := 138) hx hb dX6_openFrameHead_116 (by decide) (fun c_116 => ?_) (fun c_116 => ?_)
            · replace hf := if_t c_116 hf
              exact hJ_138  _ _ _ hf hP hD hS (lv_sub hl [0] rfl)
            · replace hf := if_f c_116 hf
              refine lv_aload_n hx hb dX6_openFrameHead_119 rfl (lv_at hl 0 rfl) ?_
              refine va_get (D := (dC, dI)) (ci := 5) (v := .ref h0_input) (C := RX6) (T := TX6) (N := 17) hx hb hts inG_X6 hown hK hP 0 rfl rfl 0 (by decide) (hts _ kw_289) (fun _ h9 => h9) rfl dX6_openFrameHead_120 ?_
              refine lv_aload_n hx hb dX6_openFrameHead_123 rfl (lv_at hl 0 rfl) ?_
              refine va_get (D := (dC, dI)) (ci := 5) (v := .int h0_at) (C := RX6) (T := TX6) (N := 17) hx hb hts inG_X6 hown hK hP 0 rfl rfl 7 (by decide) (hts _ kw_296) (fun _ h9 => h9) rfl dX6_openFrameHead_124 ?_
              refine lv_iconst (v := 1) hx hb dX6_openFrameHead_127 (by decide) ?_
              refine lv_iadd hx hb dX6_openFrameHead_128 ?_
              obtain ⟨r13, hc, hf⟩ := bind_some hf
              refine nx_i (rn_V (As := [.int (h0_at + (1 : Int32))]) (rest := []) (n := 1) (ci := 2) (q0 := 0) ⟨hx, hb, hml, hown, hts⟩ (c_Bytes_at (l := l) (dC := dC) (dI := dI) (cB := cB) (cI := cI) (h0 := h0_input) (a1 := (h0_at + (1 : Int32))) (h0_held := h0_input_held) (h0_count := h0_input_count) (h0_held_n := h0_input_held_n) (h0_held_f := h0_input_held_f)  (o_r := r13) hc) (wV kw_862 kw_418 kw_419 kw_83 kw_420) (by decide +kernel) ⟨Nat.le_of_ble_eq_true rfl, Nat.le_of_ble_eq_true rfl⟩ hK hP hD hN hT hS (va_free (wc := [(h0_input, .inr (2, [.ref h0_input_held, .int h0_input_count])), (h0_input_held, .inl (cB, h0_input_held_n, .inl h0_input_held_f))]) hD hS hA [1, 2] rfl) [1, 2] rfl (by decide) rfl rfl rfl hl.1 rfl (lv_room (Nat.le_of_ble_eq_true rfl)) dX6_openFrameHead_129 ⟨Nat.le_of_ble_eq_true rfl, Nat.le_of_ble_eq_true rfl⟩) hP hD hS hA (wr := [(h0, .inr (5, [.ref h0_input, w_h0_words, .ref h0_settings, w_h0_to, w_h0_blocks, .int h0_broken, .int h0_brokenAt, .int h0_at, .int h0_end, w_h0_begin, w_h0_copies, w_h0_literals, w_h0_parts, w_h0_frameBegin, .int r2, .int p_9, .long h0_size])), (h0_settings, .inl (cI, h0_settings_n, .inl h0_settings_f))]) (w1 := [(h0_input, .inr (2, [.ref h0_input_held, .int h0_input_count])), (h0_input_held, .inl (cB, h0_input_held_n, .inl h0_input_held_f))]) (ws' := [(h0, .inr (5, [.ref h0_input, w_h0_words, .ref h0_settings, w_h0_to, w_h0_blocks, .int h0_broken, .int h0_brokenAt, .int h0_at, .int h0_end, w_h0_begin, w_h0_copies, w_h0_literals, w_h0_parts, w_h0_frameBegin, .int r2, .int p_9, .long h0_size])), (h0_input, .inr (2, [.ref h0_input_held, .int h0_input_count])), (h0_input_held, .inl (cB, h0_input_held_n, .inl h0_input_held_f)), (h0_settings, .inl (cI, h0_settings_n, .inl h0_settings_f))]) [1, 2] [0, 3] [0, 2, 3, 1] rfl rfl (by decide) (by decide) rfl (by decide) (fun H locs hP hD hS => ?_)
              refine lv_bipush (v := 16) hx hb dX6_openFrameHead_132 (by decide) ?_
              refine lv_irem hx hb dX6_openFrameHead_134 (by decide) ?_
              refine lv_if_eq (tgt := 150) hx hb dX6_openFrameHead_135 (by decide) (fun c_135 => ?_) (fun c_135 => ?_)
              · replace hf := if_t c_135 hf
                refine lv_aload_n hx hb dX6_openFrameHead_150 rfl (lv_at hl 0 rfl) ?_
                obtain ⟨x, hc, hf⟩ := bind_some hf
                obtain ⟨r14, u15, u16, u17, u18⟩ := x
                dsimp only at hf
                refine nx_i (rn_V (As := []) (rest := []) (n := 0) (ci := 5) (q0 := 0) ⟨hx, hb, hml, hown, hts⟩ (c_Opener_openFrameTold (l := l) (dC := dC) (dI := dI) (cB := cB) (cI := cI) (h0 := h0) (h0_input := h0_input) (h0_input_held := h0_input_held) (h0_settings := h0_settings) (w_h0_words := (w_h0_words)) (w_h0_to := (w_h0_to)) (w_h0_blocks := (w_h0_blocks)) (h0_broken := h0_broken) (h0_brokenAt := h0_brokenAt) (h0_at := h0_at) (h0_end := h0_end) (w_h0_begin := (w_h0_begin)) (w_h0_copies := (w_h0_copies)) (w_h0_literals := (w_h0_literals)) (w_h0_parts := (w_h0_parts)) (w_h0_frameBegin := (w_h0_frameBegin)) (h0_flags := r2) (w_h0_width := (.int p_9)) (h0_size := h0_size) (h0_input_count := h0_input_count) (h0_input_held_n := h0_input_held_n) (h0_input_held_f := h0_input_held_f) (h0_settings_n := h0_settings_n) (h0_settings_f := h0_settings_f) (o_h0_broken := u15) (o_h0_brokenAt := u16) (o_h0_at := u17) (o_h0_size := u18) (o_r := r14) hc) (wV kw_932 kw_934 kw_36 kw_92 kw_935) (by decide +kernel) ⟨Nat.le_of_ble_eq_true rfl, Nat.le_of_ble_eq_true rfl⟩ hK hP hD hN hT hS (va_free (wc := [(h0, .inr (5, [.ref h0_input, w_h0_words, .ref h0_settings, w_h0_to, w_h0_blocks, .int h0_broken, .int h0_brokenAt, .int h0_at, .int h0_end, w_h0_begin, w_h0_copies, w_h0_literals, w_h0_parts, w_h0_frameBegin, .int r2, .int p_9, .long h0_size])), (h0_input, .inr (2, [.ref h0_input_held, .int h0_input_count])), (h0_input_held, .inl (cB, h0_input_held_n, .inl h0_input_held_f)), (h0_settings, .inl (cI, h0_settings_n, .inl h0_settings_f))]) hD hS hA [0, 1, 2, 3] rfl) [0, 1, 2, 3] rfl (by decide) rfl rfl rfl hl.1 rfl (lv_room (Nat.le_of_ble_eq_true rfl)) dX6_openFrameHead_151 ⟨Nat.le_of_ble_eq_true rfl, Nat.le_of_ble_eq_true rfl⟩) hP hD hS hA (wr := []) (w1 := [(h0, .inr (5, [.ref h0_input, w_h0_words, .ref h0_settings, w_h0_to, w_h0_blocks, .int u15, .int u16, .int u17, .int h0_end, w_h0_begin, w_h0_copies, w_h0_literals, w_h0_parts, w_h0_frameBegin, .int r2, .int p_9, .long u18])), (h0_input, .inr (2, [.ref h0_input_held, .int h0_input_count])), (h0_input_held, .inl (cB, h0_input_held_n, .inl h0_input_held_f)), (h0_settings, .inl (cI, h0_settings_n, .inl h0_settings_f))]) (ws' := [(h0, .inr (5, [.ref h0_input, w_h0_words, .ref h0_settings, w_h0_to, w_h0_blocks, .int u15, .int u16, .int u17, .int h0_end, w_h0_begin, w_h0_copies, w_h0_literals, w_h0_parts, w_h0_frameBegin, .int r2, .int p_9, .long u18])), (h0_input, .inr (2, [.ref h0_input_held, .int h0_input_count])), (h0_input_held, .inl (cB, h0_input_held_n, .inl h0_input_held_f)), (h0_settings, .inl (cI, h0_settings_n, .inl h0_settings_f))]) [0, 1, 2, 3] [] [0, 1, 2, 3] rfl rfl (by decide) (by decide) rfl (by decide) (fun H locs hP hD hS => ?_)
                obtain ⟨hzb, hf⟩ := bch_some hf
                obtain ⟨rfl, hq_1⟩ := Prod.mk.inj (Option.some.inj hf)
                obtain ⟨rfl, hq_2⟩ := Prod.mk.inj hq_1
                obtain ⟨rfl, hq_3⟩ := Prod.mk.inj hq_2
                obtain ⟨rfl, hq_4⟩ := Prod.mk.inj hq_3
                obtain ⟨rfl, hq_5⟩ := Prod.mk.inj hq_4
                obtain ⟨rfl, hq_6⟩ := Prod.mk.inj hq_5
                obtain rfl := hq_6
                exact rt_z hQ hx hb hr hzb hlocks hP hD hS dX6_openFrameHead_154
              · replace hf := if_f c_135 hf
                exact hJ_138  _ _ _ hf hP hD hS (lv_sub hl [0] rfl)
        · replace hf := if_f c_69 hf
          refine lv_aload_n hx hb dX6_openFrameHead_72 rfl (lv_at hl 0 rfl) ?_
          refine lv_iconst (v := 1) hx hb dX6_openFrameHead_73 (by decide) ?_
          refine lv_aload_n hx hb dX6_openFrameHead_74 rfl (lv_at hl 0 rfl) ?_
          refine va_get (D := (dC, dI)) (ci := 5) (v := .int h0_end) (C := RX6) (T := TX6) (N := 17) hx hb hts inG_X6 hown hK hP 0 rfl rfl 8 (by decide) (hts _ kw_297) (fun _ h9 => h9) rfl dX6_openFrameHead_75 ?_
          obtain ⟨x, hc, hf⟩ := bind_some hf
          obtain ⟨r19, u20, u21⟩ := x
          dsimp only at hf
          refine nx_i (rn_V (As := [.int (1 : Int32), .int h0_end]) (rest := []) (n := 2) (ci := 5) (q0 := 0) ⟨hx, hb, hml, hown, hts⟩ (c_Opener_breaks (l := l) (dC := dC) (dI := dI) (cB := cB) (cI := cI) (h0 := h0) (a1 := (1 : Int32)) (a2 := h0_end) (w_h0_input := (.ref h0_input)) (w_h0_words := (w_h0_words)) (w_h0_settings := (.ref h0_settings)) (w_h0_to := (w_h0_to)) (w_h0_blocks := (w_h0_blocks)) (h0_broken := h0_broken) (h0_brokenAt := h0_brokenAt) (w_h0_at := (.int h0_at)) (w_h0_end := (.int h0_end)) (w_h0_begin := (w_h0_begin)) (w_h0_copies := (w_h0_copies)) (w_h0_literals := (w_h0_literals)) (w_h0_parts := (w_h0_parts)) (w_h0_frameBegin := (w_h0_frameBegin)) (w_h0_flags := (.int r2)) (w_h0_width := (.int h0_width)) (w_h0_size := (.long h0_size)) (o_h0_broken := u20) (o_h0_brokenAt := u21) (o_r := r19) hc) (wV kw_871 kw_873 kw_26 kw_92 kw_874) (by decide +kernel) ⟨Nat.le_of_ble_eq_true rfl, Nat.le_of_ble_eq_true rfl⟩ hK hP hD hN hT hS (va_free (wc := [(h0, .inr (5, [.ref h0_input, w_h0_words, .ref h0_settings, w_h0_to, w_h0_blocks, .int h0_broken, .int h0_brokenAt, .int h0_at, .int h0_end, w_h0_begin, w_h0_copies, w_h0_literals, w_h0_parts, w_h0_frameBegin, .int r2, .int h0_width, .long h0_size]))]) hD hS hA [0] rfl) [0] rfl (by decide) rfl rfl rfl hl.1 rfl (lv_room (Nat.le_of_ble_eq_true rfl)) dX6_openFrameHead_78 ⟨Nat.le_of_ble_eq_true rfl, Nat.le_of_ble_eq_true rfl⟩) hP hD hS hA (wr := [(h0_input, .inr (2, [.ref h0_input_held, .int h0_input_count])), (h0_input_held, .inl (cB, h0_input_held_n, .inl h0_input_held_f)), (h0_settings, .inl (cI, h0_settings_n, .inl h0_settings_f))]) (w1 := [(h0, .inr (5, [.ref h0_input, w_h0_words, .ref h0_settings, w_h0_to, w_h0_blocks, .int u20, .int u21, .int h0_at, .int h0_end, w_h0_begin, w_h0_copies, w_h0_literals, w_h0_parts, w_h0_frameBegin, .int r2, .int h0_width, .long h0_size]))]) (ws' := [(h0, .inr (5, [.ref h0_input, w_h0_words, .ref h0_settings, w_h0_to, w_h0_blocks, .int u20, .int u21, .int h0_at, .int h0_end, w_h0_begin, w_h0_copies, w_h0_literals, w_h0_parts, w_h0_frameBegin, .int r2, .int h0_width, .long h0_size])), (h0_input, .inr (2, [.ref h0_input_held, .int h0_input_count])), (h0_input_held, .inl (cB, h0_input_held_n, .inl h0_input_held_f)), (h0_settings, .inl (cI, h0_settings_n, .inl h0_settings_f))]) [0] [1, 2, 3] [3, 0, 1, 2] rfl rfl (by decide) (by decide) rfl (by decide) (fun H locs hP hD hS => ?_)
          obtain ⟨hzb, hf⟩ := bch_some hf
          obtain ⟨rfl, hq_1⟩ := Prod.mk.inj (Option.some.inj hf)
          obtain ⟨rfl, hq_2⟩ := Prod.mk.inj hq_1
          obtain ⟨rfl, hq_3⟩ := Prod.mk.inj hq_2
          obtain ⟨rfl, hq_4⟩ := Prod.mk.inj hq_3
          obtain ⟨rfl, hq_5⟩ := Prod.mk.inj hq_4
          obtain ⟨rfl, hq_6⟩ := Prod.mk.inj hq_5
          obtain rfl := hq_6
          exact rt_z hQ hx hb hr hzb hlocks hP hD hS dX6_openFrameHead_81
      · replace hf := if_f c_51 hf
        exact hJ_54  _ _ _ hf hP hD hS (lv_sub hl [0] rfl)
  · replace hf := if_f c_5 hf
    refine lv_aload_n hx hb dX6_openFrameHead_8 rfl (lv_at hl 0 rfl) ?_
    refine lv_iconst (v := 1) hx hb dX6_openFrameHead_9 (by decide) ?_
    refine lv_aload_n hx hb dX6_openFrameHead_10 rfl (lv_at hl 0 rfl) ?_
    refine va_get (D := (dC, dI)) (ci := 5) (v := .int h0_end) (C := RX6) (T := TX6) (N := 17) hx hb hts inG_X6 hown hK hP 0 rfl rfl 8 (by decide) (hts _ kw_297) (fun _ h9 => h9) rfl dX6_openFrameHead_11 ?_
    obtain ⟨x, hc, hf⟩ := bind_some hf
    obtain ⟨r22, u23, u24⟩ := x
    dsimp only at hf
    refine nx_i (rn_V (As := [.int (1 : Int32), .int h0_end]) (rest := []) (n := 2) (ci := 5) (q0 := 0) ⟨hx, hb, hml, hown, hts⟩ (c_Opener_breaks (l := l) (dC := dC) (dI := dI) (cB := cB) (cI := cI) (h0 := h0) (a1 := (1 : Int32)) (a2 := h0_end) (w_h0_input := (.ref h0_input)) (w_h0_words := (w_h0_words)) (w_h0_settings := (.ref h0_settings)) (w_h0_to := (w_h0_to)) (w_h0_blocks := (w_h0_blocks)) (h0_broken := h0_broken) (h0_brokenAt := h0_brokenAt) (w_h0_at := (.int h0_at)) (w_h0_end := (.int h0_end)) (w_h0_begin := (w_h0_begin)) (w_h0_copies := (w_h0_copies)) (w_h0_literals := (w_h0_literals)) (w_h0_parts := (w_h0_parts)) (w_h0_frameBegin := (w_h0_frameBegin)) (w_h0_flags := (.int h0_flags)) (w_h0_width := (.int h0_width)) (w_h0_size := (.long h0_size)) (o_h0_broken := u23) (o_h0_brokenAt := u24) (o_r := r22) hc) (wV kw_871 kw_873 kw_26 kw_92 kw_874) (by decide +kernel) ⟨Nat.le_of_ble_eq_true rfl, Nat.le_of_ble_eq_true rfl⟩ hK hP hD hN hT hS (va_free (wc := [(h0, .inr (5, [.ref h0_input, w_h0_words, .ref h0_settings, w_h0_to, w_h0_blocks, .int h0_broken, .int h0_brokenAt, .int h0_at, .int h0_end, w_h0_begin, w_h0_copies, w_h0_literals, w_h0_parts, w_h0_frameBegin, .int h0_flags, .int h0_width, .long h0_size]))]) hD hS hA [0] rfl) [0] rfl (by decide) rfl rfl rfl hl.1 rfl (lv_room (Nat.le_of_ble_eq_true rfl)) dX6_openFrameHead_14 ⟨Nat.le_of_ble_eq_true rfl, Nat.le_of_ble_eq_true rfl⟩) hP hD hS hA (wr := [(h0_input, .inr (2, [.ref h0_input_held, .int h0_input_count])), (h0_input_held, .inl (cB, h0_input_held_n, .inl h0_input_held_f)), (h0_settings, .inl (cI, h0_settings_n, .inl h0_settings_f))]) (w1 := [(h0, .inr (5, [.ref h0_input, w_h0_words, .ref h0_settings, w_h0_to, w_h0_blocks, .int u23, .int u24, .int h0_at, .int h0_end, w_h0_begin, w_h0_copies, w_h0_literals, w_h0_parts, w_h0_frameBegin, .int h0_flags, .int h0_width, .long h0_size]))]) (ws' := [(h0, .inr (5, [.ref h0_input, w_h0_words, .ref h0_settings, w_h0_to, w_h0_blocks, .int u23, .int u24, .int h0_at, .int h0_end, w_h0_begin, w_h0_copies, w_h0_literals, w_h0_parts, w_h0_frameBegin, .int h0_flags, .int h0_width, .long h0_size])), (h0_input, .inr (2, [.ref h0_input_held, .int h0_input_count])), (h0_input_held, .inl (cB, h0_input_held_n, .inl h0_input_held_f)), (h0_settings, .inl (cI, h0_settings_n, .inl h0_settings_f))]) [0] [1, 2, 3] [3, 0, 1, 2] rfl rfl (by decide) (by decide) rfl (by decide) (fun H locs hP hD hS => ?_)
    obtain ⟨hzb, hf⟩ := bch_some hf
    obtain ⟨rfl, hq_1⟩ := Prod.mk.inj (Option.some.inj hf)
    obtain ⟨rfl, hq_2⟩ := Prod.mk.inj hq_1
    obtain ⟨rfl, hq_3⟩ := Prod.mk.inj hq_2
    obtain ⟨rfl, hq_4⟩ := Prod.mk.inj hq_3
    obtain ⟨rfl, hq_5⟩ := Prod.mk.inj hq_4
    obtain ⟨rfl, hq_6⟩ := Prod.mk.inj hq_5
    obtain rfl := hq_6
    exact rt_z hQ hx hb hr hzb hlocks hP hD hS dX6_openFrameHead_17

theorem dX6_openFrameEnd_0 : decode cX6_openFrameEnd 0 = .ok (.aload_n 0, 1) := by decide +kernel
theorem dX6_openFrameEnd_1 : decode cX6_openFrameEnd 1 = .ok (.getfield 29, 3) := by decide +kernel
theorem dX6_openFrameEnd_4 : decode cX6_openFrameEnd 4 = .ok (.invokevirtual 50, 3) := by decide +kernel
theorem dX6_openFrameEnd_7 : decode cX6_openFrameEnd 7 = .ok (.aload_n 0, 1) := by decide +kernel
theorem dX6_openFrameEnd_8 : decode cX6_openFrameEnd 8 = .ok (.getfield 150, 3) := by decide +kernel
theorem dX6_openFrameEnd_11 : decode cX6_openFrameEnd 11 = .ok (.isub, 1) := by decide +kernel
theorem dX6_openFrameEnd_12 : decode cX6_openFrameEnd 12 = .ok (.istore_n 1, 1) := by decide +kernel
theorem dX6_openFrameEnd_13 : decode cX6_openFrameEnd 13 = .ok (.aload_n 0, 1) := by decide +kernel
theorem dX6_openFrameEnd_14 : decode cX6_openFrameEnd 14 = .ok (.bipush 8, 2) := by decide +kernel
theorem dX6_openFrameEnd_16 : decode cX6_openFrameEnd 16 = .ok (.invokevirtual 165, 3) := by decide +kernel
theorem dX6_openFrameEnd_19 : decode cX6_openFrameEnd 19 = .ok (.ifCond .eq 24, 3) := by decide +kernel
theorem dX6_openFrameEnd_22 : decode cX6_openFrameEnd 22 = .ok (.aload_n 0, 1) := by decide +kernel
theorem dX6_openFrameEnd_23 : decode cX6_openFrameEnd 23 = .ok (.getfield 174, 3) := by decide +kernel
theorem dX6_openFrameEnd_26 : decode cX6_openFrameEnd 26 = .ok (.iload_n 1, 1) := by decide +kernel
theorem dX6_openFrameEnd_27 : decode cX6_openFrameEnd 27 = .ok (.i2l, 1) := by decide +kernel
theorem dX6_openFrameEnd_28 : decode cX6_openFrameEnd 28 = .ok (.lcmp, 1) := by decide +kernel
theorem dX6_openFrameEnd_29 : decode cX6_openFrameEnd 29 = .ok (.ifCond .eq 14, 3) := by decide +kernel
theorem dX6_openFrameEnd_32 : decode cX6_openFrameEnd 32 = .ok (.aload_n 0, 1) := by decide +kernel
theorem dX6_openFrameEnd_33 : decode cX6_openFrameEnd 33 = .ok (.bipush 9, 2) := by decide +kernel
theorem dX6_openFrameEnd_35 : decode cX6_openFrameEnd 35 = .ok (.aload_n 0, 1) := by decide +kernel
theorem dX6_openFrameEnd_36 : decode cX6_openFrameEnd 36 = .ok (.getfield 47, 3) := by decide +kernel
theorem dX6_openFrameEnd_39 : decode cX6_openFrameEnd 39 = .ok (.invokevirtual 98, 3) := by decide +kernel
theorem dX6_openFrameEnd_42 : decode cX6_openFrameEnd 42 = .ok (.ireturn, 1) := by decide +kernel
theorem dX6_openFrameEnd_43 : decode cX6_openFrameEnd 43 = .ok (.aload_n 0, 1) := by decide +kernel
theorem dX6_openFrameEnd_44 : decode cX6_openFrameEnd 44 = .ok (.dup, 1) := by decide +kernel
theorem dX6_openFrameEnd_45 : decode cX6_openFrameEnd 45 = .ok (.getfield 47, 3) := by decide +kernel
theorem dX6_openFrameEnd_48 : decode cX6_openFrameEnd 48 = .ok (.iconst 4, 1) := by decide +kernel
theorem dX6_openFrameEnd_49 : decode cX6_openFrameEnd 49 = .ok (.iadd, 1) := by decide +kernel
theorem dX6_openFrameEnd_50 : decode cX6_openFrameEnd 50 = .ok (.putfield 47, 3) := by decide +kernel
theorem dX6_openFrameEnd_53 : decode cX6_openFrameEnd 53 = .ok (.aload_n 0, 1) := by decide +kernel
theorem dX6_openFrameEnd_54 : decode cX6_openFrameEnd 54 = .ok (.iconst 4, 1) := by decide +kernel
theorem dX6_openFrameEnd_55 : decode cX6_openFrameEnd 55 = .ok (.invokevirtual 165, 3) := by decide +kernel
theorem dX6_openFrameEnd_58 : decode cX6_openFrameEnd 58 = .ok (.ifCond .ne 5, 3) := by decide +kernel
theorem dX6_openFrameEnd_61 : decode cX6_openFrameEnd 61 = .ok (.iconst 1, 1) := by decide +kernel
theorem dX6_openFrameEnd_62 : decode cX6_openFrameEnd 62 = .ok (.ireturn, 1) := by decide +kernel
theorem dX6_openFrameEnd_63 : decode cX6_openFrameEnd 63 = .ok (.aload_n 0, 1) := by decide +kernel
theorem dX6_openFrameEnd_64 : decode cX6_openFrameEnd 64 = .ok (.iconst 4, 1) := by decide +kernel
theorem dX6_openFrameEnd_65 : decode cX6_openFrameEnd 65 = .ok (.invokevirtual 95, 3) := by decide +kernel
theorem dX6_openFrameEnd_68 : decode cX6_openFrameEnd 68 = .ok (.ifCond .eq 13, 3) := by decide +kernel
theorem dX6_openFrameEnd_71 : decode cX6_openFrameEnd 71 = .ok (.aload_n 0, 1) := by decide +kernel
theorem dX6_openFrameEnd_72 : decode cX6_openFrameEnd 72 = .ok (.iconst 1, 1) := by decide +kernel
theorem dX6_openFrameEnd_73 : decode cX6_openFrameEnd 73 = .ok (.aload_n 0, 1) := by decide +kernel
theorem dX6_openFrameEnd_74 : decode cX6_openFrameEnd 74 = .ok (.getfield 54, 3) := by decide +kernel
theorem dX6_openFrameEnd_77 : decode cX6_openFrameEnd 77 = .ok (.invokevirtual 98, 3) := by decide +kernel
theorem dX6_openFrameEnd_80 : decode cX6_openFrameEnd 80 = .ok (.ireturn, 1) := by decide +kernel
theorem dX6_openFrameEnd_81 : decode cX6_openFrameEnd 81 = .ok (.aload_n 0, 1) := by decide +kernel
theorem dX6_openFrameEnd_82 : decode cX6_openFrameEnd 82 = .ok (.getfield 9, 3) := by decide +kernel
theorem dX6_openFrameEnd_85 : decode cX6_openFrameEnd 85 = .ok (.aload_n 0, 1) := by decide +kernel
theorem dX6_openFrameEnd_86 : decode cX6_openFrameEnd 86 = .ok (.getfield 47, 3) := by decide +kernel
theorem dX6_openFrameEnd_89 : decode cX6_openFrameEnd 89 = .ok (.invokevirtual 183, 3) := by decide +kernel
theorem dX6_openFrameEnd_92 : decode cX6_openFrameEnd 92 = .ok (.aload_n 0, 1) := by decide +kernel
theorem dX6_openFrameEnd_93 : decode cX6_openFrameEnd 93 = .ok (.getfield 29, 3) := by decide +kernel
theorem dX6_openFrameEnd_96 : decode cX6_openFrameEnd 96 = .ok (.aload_n 0, 1) := by decide +kernel
theorem dX6_openFrameEnd_97 : decode cX6_openFrameEnd 97 = .ok (.getfield 150, 3) := by decide +kernel
theorem dX6_openFrameEnd_100 : decode cX6_openFrameEnd 100 = .ok (.iload_n 1, 1) := by decide +kernel
theorem dX6_openFrameEnd_101 : decode cX6_openFrameEnd 101 = .ok (.invokestatic 177, 3) := by decide +kernel
theorem dX6_openFrameEnd_104 : decode cX6_openFrameEnd 104 = .ok (.if_icmp .eq 14, 3) := by decide +kernel
theorem dX6_openFrameEnd_107 : decode cX6_openFrameEnd 107 = .ok (.aload_n 0, 1) := by decide +kernel
theorem dX6_openFrameEnd_108 : decode cX6_openFrameEnd 108 = .ok (.bipush 10, 2) := by decide +kernel
theorem dX6_openFrameEnd_110 : decode cX6_openFrameEnd 110 = .ok (.aload_n 0, 1) := by decide +kernel
theorem dX6_openFrameEnd_111 : decode cX6_openFrameEnd 111 = .ok (.getfield 47, 3) := by decide +kernel
theorem dX6_openFrameEnd_114 : decode cX6_openFrameEnd 114 = .ok (.invokevirtual 98, 3) := by decide +kernel
theorem dX6_openFrameEnd_117 : decode cX6_openFrameEnd 117 = .ok (.ireturn, 1) := by decide +kernel
theorem dX6_openFrameEnd_118 : decode cX6_openFrameEnd 118 = .ok (.aload_n 0, 1) := by decide +kernel
theorem dX6_openFrameEnd_119 : decode cX6_openFrameEnd 119 = .ok (.dup, 1) := by decide +kernel
theorem dX6_openFrameEnd_120 : decode cX6_openFrameEnd 120 = .ok (.getfield 47, 3) := by decide +kernel
theorem dX6_openFrameEnd_123 : decode cX6_openFrameEnd 123 = .ok (.iconst 4, 1) := by decide +kernel
theorem dX6_openFrameEnd_124 : decode cX6_openFrameEnd 124 = .ok (.iadd, 1) := by decide +kernel
theorem dX6_openFrameEnd_125 : decode cX6_openFrameEnd 125 = .ok (.putfield 47, 3) := by decide +kernel
theorem dX6_openFrameEnd_128 : decode cX6_openFrameEnd 128 = .ok (.iconst 1, 1) := by decide +kernel
theorem dX6_openFrameEnd_129 : decode cX6_openFrameEnd 129 = .ok (.ireturn, 1) := by decide +kernel
def m_Opener_openFrameEnd_J43 (h0_broken : Int32) (h0_brokenAt : Int32) (h0_at : Int32) (h0_end : Int32) (h0_frameBegin : Int32) (h0_flags : Int32) (h0_to_count : Int32) (h0_input_count : Int32) (h0_input_held_n : Nat) (h0_input_held_f : Nat → Int32) (h0_to_held_n : Nat) (h0_to_held_f : Nat → Int32) (v1_2 : Int32) : Option (Int32 × Int32 × Int32 × Int32) :=
  bnd (h0_at + (4 : Int32)) fun p_4 =>
  (m_Opener_isFlag (4 : Int32) h0_flags).bind fun r5 =>
  if r5 = 0 then
    some ((1 : Int32), h0_broken, h0_brokenAt, p_4)
  else
    (m_Opener_lacks (4 : Int32) p_4 h0_end).bind fun r6 =>
    if r6 = 0 then
      (m_Bytes_number32 p_4 h0_input_count h0_input_held_n h0_input_held_f).bind fun r7 =>
      (m_Sums_sumOf h0_frameBegin v1_2 h0_to_count h0_to_held_n h0_to_held_f).bind fun r8 =>
      if r7 = r8 then
        bnd (p_4 + (4 : Int32)) fun p_9 =>
        some ((1 : Int32), h0_broken, h0_brokenAt, p_9)
      else
        (m_Opener_breaks (10 : Int32) p_4).bind fun (r10, u11, u12) =>
        bch r10 <|
        some (r10, u11, u12, p_4)
    else
      (m_Opener_breaks (1 : Int32) h0_end).bind fun (r13, u14, u15) =>
      bch r13 <|
      some (r13, u14, u15, p_4)
def m_Opener_openFrameEnd (h0_broken : Int32) (h0_brokenAt : Int32) (h0_at : Int32) (h0_end : Int32) (h0_frameBegin : Int32) (h0_flags : Int32) (h0_size : Int64) (h0_to_count : Int32) (h0_input_count : Int32) (h0_input_held_n : Nat) (h0_input_held_f : Nat → Int32) (h0_to_held_n : Nat) (h0_to_held_f : Nat → Int32) : Option (Int32 × Int32 × Int32 × Int32) :=
  (m_Bytes_size h0_to_count).bind fun r1 =>
  bnd (r1 - h0_frameBegin) fun v1_2 =>
  (m_Opener_isFlag (8 : Int32) h0_flags).bind fun r3 =>
  if r3 = 0 then
    m_Opener_openFrameEnd_J43 h0_broken h0_brokenAt h0_at h0_end h0_frameBegin h0_flags h0_to_count h0_input_count h0_input_held_n h0_input_held_f h0_to_held_n h0_to_held_f v1_2
  else
    if (lg_cmp h0_size (v1_2.toInt64)) = 0 then
      m_Opener_openFrameEnd_J43 h0_broken h0_brokenAt h0_at h0_end h0_frameBegin h0_flags h0_to_count h0_input_count h0_input_held_n h0_input_held_f h0_to_held_n h0_to_held_f v1_2
    else
      (m_Opener_breaks (9 : Int32) h0_at).bind fun (r16, u17, u18) =>
      bch r16 <|
      some (r16, u17, u18, h0_at)
def rm_Opener_openFrameEnd : Room := { frames := 3, cells := 0, slots := 0, locals := 75 }
set_option maxHeartbeats 4000000 in
set_option maxRecDepth 100000 in
theorem c_Opener_openFrameEnd {l : Launch} {dC : Nat → ClassId} {dI : Nat → Nat → Nat} {cB cI : ClassId} {sz : Nat} {h0 : Nat} {h0_to : Nat} {h0_input : Nat} {h0_input_held : Nat} {h0_to_held : Nat} {w_h0_words : Value} {w_h0_settings : Value} {w_h0_blocks : Value} {h0_broken : Int32} {h0_brokenAt : Int32} {h0_at : Int32} {h0_end : Int32} {w_h0_begin : Value} {w_h0_copies : Value} {w_h0_literals : Value} {w_h0_parts : Value} {h0_frameBegin : Int32} {h0_flags : Int32} {w_h0_width : Value} {h0_size : Int64} {h0_to_count : Int32} {h0_input_count : Int32} {h0_input_held_n : Nat} {h0_input_held_f : Nat → Int32} {h0_to_held_n : Nat} {h0_to_held_f : Nat → Int32} {o_r : Int32} {o_h0_broken : Int32} {o_h0_brokenAt : Int32} {o_h0_at : Int32} (hf : m_Opener_openFrameEnd h0_broken h0_brokenAt h0_at h0_end h0_frameBegin h0_flags h0_size h0_to_count h0_input_count h0_input_held_n h0_input_held_f h0_to_held_n h0_to_held_f = some (o_r, o_h0_broken, o_h0_brokenAt, o_h0_at)) : Met l yX6_openFrameEnd (Cond.code yX6_openFrameEnd cX6_openFrameEnd 2 (some .boolean) :: lw_G) rm_Opener_openFrameEnd (PreC (dC, dI) [(cB, .byte), (cI, .int)] [.ref h0] sz [(h0, .inr (5, [.ref h0_input, w_h0_words, w_h0_settings, .ref h0_to, w_h0_blocks, .int h0_broken, .int h0_brokenAt, .int h0_at, .int h0_end, w_h0_begin, w_h0_copies, w_h0_literals, w_h0_parts, .int h0_frameBegin, .int h0_flags, w_h0_width, .long h0_size])), (h0_to, .inr (2, [.ref h0_to_held, .int h0_to_count])), (h0_input, .inr (2, [.ref h0_input_held, .int h0_input_count])), (h0_input_held, .inl (cB, h0_input_held_n, .inl h0_input_held_f)), (h0_to_held, .inl (cB, h0_to_held_n, .inl h0_to_held_f))]) (QcI o_r (dC, dI) [(h0, .inr (5, [.ref h0_input, w_h0_words, w_h0_settings, .ref h0_to, w_h0_blocks, .int o_h0_broken, .int o_h0_brokenAt, .int o_h0_at, .int h0_end, w_h0_begin, w_h0_copies, w_h0_literals, w_h0_parts, .int h0_frameBegin, .int h0_flags, w_h0_width, .long h0_size])), (h0_to, .inr (2, [.ref h0_to_held, .int h0_to_count])), (h0_input, .inr (2, [.ref h0_input_held, .int h0_input_count])), (h0_input_held, .inl (cB, h0_input_held_n, .inl h0_input_held_f)), (h0_to_held, .inl (cB, h0_to_held_n, .inl h0_to_held_f))] (va_A [(h0, .inr (5, [.ref h0_input, w_h0_words, w_h0_settings, .ref h0_to, w_h0_blocks, .int h0_broken, .int h0_brokenAt, .int h0_at, .int h0_end, w_h0_begin, w_h0_copies, w_h0_literals, w_h0_parts, .int h0_frameBegin, .int h0_flags, w_h0_width, .long h0_size])), (h0_to, .inr (2, [.ref h0_to_held, .int h0_to_count])), (h0_input, .inr (2, [.ref h0_input_held, .int h0_input_count])), (h0_input_held, .inl (cB, h0_input_held_n, .inl h0_input_held_f)), (h0_to_held, .inl (cB, h0_to_held_n, .inl h0_to_held_f))] sz)) 0 0 (va_A [(h0, .inr (5, [.ref h0_input, w_h0_words, w_h0_settings, .ref h0_to, w_h0_blocks, .int h0_broken, .int h0_brokenAt, .int h0_at, .int h0_end, w_h0_begin, w_h0_copies, w_h0_literals, w_h0_parts, .int h0_frameBegin, .int h0_flags, w_h0_width, .long h0_size])), (h0_to, .inr (2, [.ref h0_to_held, .int h0_to_count])), (h0_input, .inr (2, [.ref h0_input_held, .int h0_input_count])), (h0_input_held, .inl (cB, h0_input_held_n, .inl h0_input_held_f)), (h0_to_held, .inl (cB, h0_to_held_n, .inl h0_to_held_f))] sz) := by
  refine met_of (Qf := fun A => QcI o_r (dC, dI) [(h0, .inr (5, [.ref h0_input, w_h0_words, w_h0_settings, .ref h0_to, w_h0_blocks, .int o_h0_broken, .int o_h0_brokenAt, .int o_h0_at, .int h0_end, w_h0_begin, w_h0_copies, w_h0_literals, w_h0_parts, .int h0_frameBegin, .int h0_flags, w_h0_width, .long h0_size])), (h0_to, .inr (2, [.ref h0_to_held, .int h0_to_count])), (h0_input, .inr (2, [.ref h0_input_held, .int h0_input_count])), (h0_input_held, .inl (cB, h0_input_held_n, .inl h0_input_held_f)), (h0_to_held, .inl (cB, h0_to_held_n, .inl h0_to_held_f))] A) (by decide) (Nat.le_of_ble_eq_true rfl) ?_
  intro p e s m below meth c A ls Q hx hb hr hml hown hts hlocks hnm hP hK hD hN hT hA hl hQ
  have hown : s.vm.findClass RX6 = some m.cls := hown
  have hS : va_S A s.heap s.heap [] := va_S.rf
  have hl : lv_has ls 2 [(0, .ref h0)] := hl
  unfold m_Opener_openFrameEnd at hf
  refine lv_aload_n hx hb dX6_openFrameEnd_0 rfl (lv_at hl 0 rfl) ?_
  refine va_get (D := (dC, dI)) (ci := 5) (v := .ref h0_to) (C := RX6) (T := TX6) (N := 17) hx hb hts inG_X6 hown hK hP 0 rfl rfl 3 (by decide) (hts _ kw_292) (fun _ h9 => h9) rfl dX6_openFrameEnd_1 ?_
  obtain ⟨r1, hc, hf⟩ := bind_some hf
  refine nx_i (rn_V (As := []) (rest := []) (n := 0) (ci := 2) (q0 := 0) ⟨hx, hb, hml, hown, hts⟩ (c_Bytes_size (l := l) (dC := dC) (dI := dI) (cB := cB) (cI := cI) (h0 := h0_to) (w_h0_held := (.ref h0_to_held)) (h0_count := h0_to_count)  (o_r := r1) hc) (wV kw_849 kw_402 kw_403 kw_83 kw_404) (by decide +kernel) ⟨Nat.le_of_ble_eq_true rfl, Nat.le_of_ble_eq_true rfl⟩ hK hP hD hN hT hS (va_free (wc := [(h0_to, .inr (2, [.ref h0_to_held, .int h0_to_count]))]) hD hS hA [1] rfl) [1] rfl (by decide) rfl rfl rfl hl.1 rfl (lv_room (Nat.le_of_ble_eq_true rfl)) dX6_openFrameEnd_4 ⟨Nat.le_of_ble_eq_true rfl, Nat.le_of_ble_eq_true rfl⟩) hP hD hS hA (wr := [(h0, .inr (5, [.ref h0_input, w_h0_words, w_h0_settings, .ref h0_to, w_h0_blocks, .int h0_broken, .int h0_brokenAt, .int h0_at, .int h0_end, w_h0_begin, w_h0_copies, w_h0_literals, w_h0_parts, .int h0_frameBegin, .int h0_flags, w_h0_width, .long h0_size])), (h0_input, .inr (2, [.ref h0_input_held, .int h0_input_count])), (h0_input_held, .inl (cB, h0_input_held_n, .inl h0_input_held_f)), (h0_to_held, .inl (cB, h0_to_held_n, .inl h0_to_held_f))]) (w1 := [(h0_to, .inr (2, [.ref h0_to_held, .int h0_to_count]))]) (ws' := [(h0, .inr (5, [.ref h0_input, w_h0_words, w_h0_settings, .ref h0_to, w_h0_blocks, .int h0_broken, .int h0_brokenAt, .int h0_at, .int h0_end, w_h0_begin, w_h0_copies, w_h0_literals, w_h0_parts, .int h0_frameBegin, .int h0_flags, w_h0_width, .long h0_size])), (h0_to, .inr (2, [.ref h0_to_held, .int h0_to_count])), (h0_input, .inr (2, [.ref h0_input_held, .int h0_input_count])), (h0_input_held, .inl (cB, h0_input_held_n, .inl h0_input_held_f)), (h0_to_held, .inl (cB, h0_to_held_n, .inl h0_to_held_f))]) [1] [0, 2, 3, 4] [0, 4, 1, 2, 3] rfl rfl (by decide) (by decide) rfl (by decide) (fun H locs hP hD hS => ?_)
  refine lv_aload_n hx hb dX6_openFrameEnd_7 rfl (lv_at hl 0 rfl) ?_
  refine va_get (D := (dC, dI)) (ci := 5) (v := .int h0_frameBegin) (C := RX6) (T := TX6) (N := 17) hx hb hts inG_X6 hown hK hP 0 rfl rfl 13 (by decide) (hts _ kw_302) (fun _ h9 => h9) rfl dX6_openFrameEnd_8 ?_
  refine lv_isub hx hb dX6_openFrameEnd_11 ?_
  refine lv_topi (fun v1_2 e_v1_2 => ?_)
  replace hf := bnd_at e_v1_2 hf
  refine lv_istore_n (lv' := [(1, .int v1_2), (0, .ref h0)]) hx hb dX6_openFrameEnd_12 rfl hl (by decide) rfl (fun ls hl => ?_)
  refine lv_aload_n hx hb dX6_openFrameEnd_13 rfl (lv_at hl 1 rfl) ?_
  refine lv_bipush (v := 8) hx hb dX6_openFrameEnd_14 (by decide) ?_
  obtain ⟨r3, hc, hf⟩ := bind_some hf
  refine nx_i (rn_V (As := [.int (8 : Int32)]) (rest := []) (n := 1) (ci := 5) (q0 := 0) ⟨hx, hb, hml, hown, hts⟩ (c_Opener_isFlag (l := l) (dC := dC) (dI := dI) (cB := cB) (cI := cI) (h0 := h0) (a1 := (8 : Int32)) (w_h0_input := (.ref h0_input)) (w_h0_words := (w_h0_words)) (w_h0_settings := (w_h0_settings)) (w_h0_to := (.ref h0_to)) (w_h0_blocks := (w_h0_blocks)) (w_h0_broken := (.int h0_broken)) (w_h0_brokenAt := (.int h0_brokenAt)) (w_h0_at := (.int h0_at)) (w_h0_end := (.int h0_end)) (w_h0_begin := (w_h0_begin)) (w_h0_copies := (w_h0_copies)) (w_h0_literals := (w_h0_literals)) (w_h0_parts := (w_h0_parts)) (w_h0_frameBegin := (.int h0_frameBegin)) (h0_flags := h0_flags) (w_h0_width := (w_h0_width)) (w_h0_size := (.long h0_size))  (o_r := r3) hc) (wV kw_928 kw_930 kw_35 kw_92 kw_931) (by decide +kernel) ⟨Nat.le_of_ble_eq_true rfl, Nat.le_of_ble_eq_true rfl⟩ hK hP hD hN hT hS (va_free (wc := [(h0, .inr (5, [.ref h0_input, w_h0_words, w_h0_settings, .ref h0_to, w_h0_blocks, .int h0_broken, .int h0_brokenAt, .int h0_at, .int h0_end, w_h0_begin, w_h0_copies, w_h0_literals, w_h0_parts, .int h0_frameBegin, .int h0_flags, w_h0_width, .long h0_size]))]) hD hS hA [0] rfl) [0] rfl (by decide) rfl rfl rfl hl.1 rfl (lv_room (Nat.le_of_ble_eq_true rfl)) dX6_openFrameEnd_16 ⟨Nat.le_of_ble_eq_true rfl, Nat.le_of_ble_eq_true rfl⟩) hP hD hS hA (wr := [(h0_to, .inr (2, [.ref h0_to_held, .int h0_to_count])), (h0_input, .inr (2, [.ref h0_input_held, .int h0_input_count])), (h0_input_held, .inl (cB, h0_input_held_n, .inl h0_input_held_f)), (h0_to_held, .inl (cB, h0_to_held_n, .inl h0_to_held_f))]) (w1 := [(h0, .inr (5, [.ref h0_input, w_h0_words, w_h0_settings, .ref h0_to, w_h0_blocks, .int h0_broken, .int h0_brokenAt, .int h0_at, .int h0_end, w_h0_begin, w_h0_copies, w_h0_literals, w_h0_parts, .int h0_frameBegin, .int h0_flags, w_h0_width, .long h0_size]))]) (ws' := [(h0, .inr (5, [.ref h0_input, w_h0_words, w_h0_settings, .ref h0_to, w_h0_blocks, .int h0_broken, .int h0_brokenAt, .int h0_at, .int h0_end, w_h0_begin, w_h0_copies, w_h0_literals, w_h0_parts, .int h0_frameBegin, .int h0_flags, w_h0_width, .long h0_size])), (h0_to, .inr (2, [.ref h0_to_held, .int h0_to_count])), (h0_input, .inr (2, [.ref h0_input_held, .int h0_input_count])), (h0_input_held, .inl (cB, h0_input_held_n, .inl h0_input_held_f)), (h0_to_held, .inl (cB, h0_to_held_n, .inl h0_to_held_f))]) [0] [1, 2, 3, 4] [4, 0, 1, 2, 3] rfl rfl (by decide) (by decide) rfl (by decide) (fun H locs hP hD hS => ?_)
  have hJ_43 : ∀ (H : Heap) (locs : List Loc) (ls : Array Slot), m_Opener_openFrameEnd_J43 h0_broken h0_brokenAt h0_at h0_end h0_frameBegin h0_flags h0_to_count h0_input_count h0_input_held_n h0_input_held_f h0_to_held_n h0_to_held_f v1_2 = some (o_r, o_h0_broken, o_h0_brokenAt, o_h0_at) → va_P (dC, dI) vwCl [(h0, .inr (5, [.ref h0_input, w_h0_words, w_h0_settings, .ref h0_to, w_h0_blocks, .int h0_broken, .int h0_brokenAt, .int h0_at, .int h0_end, w_h0_begin, w_h0_copies, w_h0_literals, w_h0_parts, .int h0_frameBegin, .int h0_flags, w_h0_width, .long h0_size])), (h0_to, .inr (2, [.ref h0_to_held, .int h0_to_count])), (h0_input, .inr (2, [.ref h0_input_held, .int h0_input_count])), (h0_input_held, .inl (cB, h0_input_held_n, .inl h0_input_held_f)), (h0_to_held, .inl (cB, h0_to_held_n, .inl h0_to_held_f))] H → va_D A [(h0, .inr (5, [.ref h0_input, w_h0_words, w_h0_settings, .ref h0_to, w_h0_blocks, .int h0_broken, .int h0_brokenAt, .int h0_at, .int h0_end, w_h0_begin, w_h0_copies, w_h0_literals, w_h0_parts, .int h0_frameBegin, .int h0_flags, w_h0_width, .long h0_size])), (h0_to, .inr (2, [.ref h0_to_held, .int h0_to_count])), (h0_input, .inr (2, [.ref h0_input_held, .int h0_input_count])), (h0_input_held, .inl (cB, h0_input_held_n, .inl h0_input_held_f)), (h0_to_held, .inl (cB, h0_to_held_n, .inl h0_to_held_f))] → va_S A s.heap H locs → lv_has ls 2 [(0, .ref h0), (1, .int v1_2)] → W p l e (rm_Opener_openFrameEnd) s m ([.ref h0] : List Value).toArray below meth c H locs 0 0 Q (F0 m 43 ls []) := by
    intro  H locs ls hf hP hD hS hl
    unfold m_Opener_openFrameEnd_J43 at hf
    refine lv_aload_n hx hb dX6_openFrameEnd_43 rfl (lv_at hl 0 rfl) ?_
    refine lv_dup hx hb dX6_openFrameEnd_44 rfl ?_
    refine va_get (D := (dC, dI)) (ci := 5) (v := .int h0_at) (C := RX6) (T := TX6) (N := 17) hx hb hts inG_X6 hown hK hP 0 rfl rfl 7 (by decide) (hts _ kw_296) (fun _ h9 => h9) rfl dX6_openFrameEnd_45 ?_
    refine lv_iconst (v := 4) hx hb dX6_openFrameEnd_48 (by decide) ?_
    refine lv_iadd hx hb dX6_openFrameEnd_49 ?_
    refine lv_topi (fun p_4 e_p_4 => ?_)
    replace hf := bnd_at e_p_4 hf
    refine va_put (D := (dC, dI)) (ci := 5) (v := .int p_4) (ty := .int) (C := RX6) (T := TX6) (N := 17) hx hb hts inG_X6 tyX6 tyX6_ok nmX6 hown hK hP hD hS 0 rfl rfl 7 (by decide) (hts _ kw_296) (fun _ h9 => h9) rfl (by decide +kernel) rfl rfl (Nat.le_of_ble_eq_true rfl) dX6_openFrameEnd_50 (fun H locs hP hD hS => ?_)
    have hP : va_P (dC, dI) vwCl [(h0, .inr (5, [.ref h0_input, w_h0_words, w_h0_settings, .ref h0_to, w_h0_blocks, .int h0_broken, .int h0_brokenAt, .int p_4, .int h0_end, w_h0_begin, w_h0_copies, w_h0_literals, w_h0_parts, .int h0_frameBegin, .int h0_flags, w_h0_width, .long h0_size])), (h0_to, .inr (2, [.ref h0_to_held, .int h0_to_count])), (h0_input, .inr (2, [.ref h0_input_held, .int h0_input_count])), (h0_input_held, .inl (cB, h0_input_held_n, .inl h0_input_held_f)), (h0_to_held, .inl (cB, h0_to_held_n, .inl h0_to_held_f))] H := hP
    have hD : va_D A [(h0, .inr (5, [.ref h0_input, w_h0_words, w_h0_settings, .ref h0_to, w_h0_blocks, .int h0_broken, .int h0_brokenAt, .int p_4, .int h0_end, w_h0_begin, w_h0_copies, w_h0_literals, w_h0_parts, .int h0_frameBegin, .int h0_flags, w_h0_width, .long h0_size])), (h0_to, .inr (2, [.ref h0_to_held, .int h0_to_count])), (h0_input, .inr (2, [.ref h0_input_held, .int h0_input_count])), (h0_input_held, .inl (cB, h0_input_held_n, .inl h0_input_held_f)), (h0_to_held, .inl (cB, h0_to_held_n, .inl h0_to_held_f))] := hD
    refine lv_aload_n hx hb dX6_openFrameEnd_53 rfl (lv_at hl 0 rfl) ?_
    refine lv_iconst (v := 4) hx hb dX6_openFrameEnd_54 (by decide) ?_
    obtain ⟨r5, hc, hf⟩ := bind_some hf
    refine nx_i (rn_V (As := [.int (4 : Int32)]) (rest := []) (n := 1) (ci := 5) (q0 := 0) ⟨hx, hb, hml, hown, hts⟩ (c_Opener_isFlag (l := l) (dC := dC) (dI := dI) (cB := cB) (cI := cI) (h0 := h0) (a1 := (4 : Int32)) (w_h0_input := (.ref h0_input)) (w_h0_words := (w_h0_words)) (w_h0_settings := (w_h0_settings)) (w_h0_to := (.ref h0_to)) (w_h0_blocks := (w_h0_blocks)) (w_h0_broken := (.int h0_broken)) (w_h0_brokenAt := (.int h0_brokenAt)) (w_h0_at := (.int p_4)) (w_h0_end := (.int h0_end)) (w_h0_begin := (w_h0_begin)) (w_h0_copies := (w_h0_copies)) (w_h0_literals := (w_h0_literals)) (w_h0_parts := (w_h0_parts)) (w_h0_frameBegin := (.int h0_frameBegin)) (h0_flags := h0_flags) (w_h0_width := (w_h0_width)) (w_h0_size := (.long h0_size))  (o_r := r5) hc) (wV kw_928 kw_930 kw_35 kw_92 kw_931) (by decide +kernel) ⟨Nat.le_of_ble_eq_true rfl, Nat.le_of_ble_eq_true rfl⟩ hK hP hD hN hT hS (va_free (wc := [(h0, .inr (5, [.ref h0_input, w_h0_words, w_h0_settings, .ref h0_to, w_h0_blocks, .int h0_broken, .int h0_brokenAt, .int p_4, .int h0_end, w_h0_begin, w_h0_copies, w_h0_literals, w_h0_parts, .int h0_frameBegin, .int h0_flags, w_h0_width, .long h0_size]))]) hD hS hA [0] rfl) [0] rfl (by decide) rfl rfl rfl hl.1 rfl (lv_room (Nat.le_of_ble_eq_true rfl)) dX6_openFrameEnd_55 ⟨Nat.le_of_ble_eq_true rfl, Nat.le_of_ble_eq_true rfl⟩) hP hD hS hA (wr := [(h0_to, .inr (2, [.ref h0_to_held, .int h0_to_count])), (h0_input, .inr (2, [.ref h0_input_held, .int h0_input_count])), (h0_input_held, .inl (cB, h0_input_held_n, .inl h0_input_held_f)), (h0_to_held, .inl (cB, h0_to_held_n, .inl h0_to_held_f))]) (w1 := [(h0, .inr (5, [.ref h0_input, w_h0_words, w_h0_settings, .ref h0_to, w_h0_blocks, .int h0_broken, .int h0_brokenAt, .int p_4, .int h0_end, w_h0_begin, w_h0_copies, w_h0_literals, w_h0_parts, .int h0_frameBegin, .int h0_flags, w_h0_width, .long h0_size]))]) (ws' := [(h0, .inr (5, [.ref h0_input, w_h0_words, w_h0_settings, .ref h0_to, w_h0_blocks, .int h0_broken, .int h0_brokenAt, .int p_4, .int h0_end, w_h0_begin, w_h0_copies, w_h0_literals, w_h0_parts, .int h0_frameBegin, .int h0_flags, w_h0_width, .long h0_size])), (h0_to, .inr (2, [.ref h0_to_held, .int h0_to_count])), (h0_input, .inr (2, [.ref h0_input_held, .int h0_input_count])), (h0_input_held, .inl (cB, h0_input_held_n, .inl h0_input_held_f)), (h0_to_held, .inl (cB, h0_to_held_n, .inl h0_to_held_f))]) [0] [1, 2, 3, 4] [4, 0, 1, 2, 3] rfl rfl (by decide) (by decide) rfl (by decide) (fun H locs hP hD hS => ?_)
    refine lv_if_ne (tgt := 63) hx hb dX6_openFrameEnd_58 (by decide) (fun c_58 => ?_) (fun c_58 => ?_)
    · replace hf := if_f c_58 hf
      refine lv_aload_n hx hb dX6_openFrameEnd_63 rfl (lv_at hl 0 rfl) ?_
      refine lv_iconst (v := 4) hx hb dX6_openFrameEnd_64 (by decide) ?_
      obtain ⟨r6, hc, hf⟩ := bind_some hf
      refine nx_i (rn_V (As := [.int (4 : Int32)]) (rest := []) (n := 1) (ci := 5) (q0 := 0) ⟨hx, hb, hml, hown, hts⟩ (c_Opener_lacks (l := l) (dC := dC) (dI := dI) (cB := cB) (cI := cI) (h0 := h0) (a1 := (4 : Int32)) (w_h0_input := (.ref h0_input)) (w_h0_words := (w_h0_words)) (w_h0_settings := (w_h0_settings)) (w_h0_to := (.ref h0_to)) (w_h0_blocks := (w_h0_blocks)) (w_h0_broken := (.int h0_broken)) (w_h0_brokenAt := (.int h0_brokenAt)) (h0_at := p_4) (h0_end := h0_end) (w_h0_begin := (w_h0_begin)) (w_h0_copies := (w_h0_copies)) (w_h0_literals := (w_h0_literals)) (w_h0_parts := (w_h0_parts)) (w_h0_frameBegin := (.int h0_frameBegin)) (w_h0_flags := (.int h0_flags)) (w_h0_width := (w_h0_width)) (w_h0_size := (.long h0_size))  (o_r := r6) hc) (wV kw_867 kw_869 kw_25 kw_92 kw_870) (by decide +kernel) ⟨Nat.le_of_ble_eq_true rfl, Nat.le_of_ble_eq_true rfl⟩ hK hP hD hN hT hS (va_free (wc := [(h0, .inr (5, [.ref h0_input, w_h0_words, w_h0_settings, .ref h0_to, w_h0_blocks, .int h0_broken, .int h0_brokenAt, .int p_4, .int h0_end, w_h0_begin, w_h0_copies, w_h0_literals, w_h0_parts, .int h0_frameBegin, .int h0_flags, w_h0_width, .long h0_size]))]) hD hS hA [0] rfl) [0] rfl (by decide) rfl rfl rfl hl.1 rfl (lv_room (Nat.le_of_ble_eq_true rfl)) dX6_openFrameEnd_65 ⟨Nat.le_of_ble_eq_true rfl, Nat.le_of_ble_eq_true rfl⟩) hP hD hS hA (wr := [(h0_to, .inr (2, [.ref h0_to_held, .int h0_to_count])), (h0_input, .inr (2, [.ref h0_input_held, .int h0_input_count])), (h0_input_held, .inl (cB, h0_input_held_n, .inl h0_input_held_f)), (h0_to_held, .inl (cB, h0_to_held_n, .inl h0_to_held_f))]) (w1 := [(h0, .inr (5, [.ref h0_input, w_h0_words, w_h0_settings, .ref h0_to, w_h0_blocks, .int h0_broken, .int h0_brokenAt, .int p_4, .int h0_end, w_h0_begin, w_h0_copies, w_h0_literals, w_h0_parts, .int h0_frameBegin, .int h0_flags, w_h0_width, .long h0_size]))]) (ws' := [(h0, .inr (5, [.ref h0_input, w_h0_words, w_h0_settings, .ref h0_to, w_h0_blocks, .int h0_broken, .int h0_brokenAt, .int p_4, .int h0_end, w_h0_begin, w_h0_copies, w_h0_literals, w_h0_parts, .int h0_frameBegin, .int h0_flags, w_h0_width, .long h0_size])), (h0_to, .inr (2, [.ref h0_to_held, .int h0_to_count])), (h0_input, .inr (2, [.ref h0_input_held, .int h0_input_count])), (h0_input_held, .inl (cB, h0_input_held_n, .inl h0_input_held_f)), (h0_to_held, .inl (cB, h0_to_held_n, .inl h0_to_held_f))]) [0] [1, 2, 3, 4] [4, 0, 1, 2, 3] rfl rfl (by decide) (by decide) rfl (by decide) (fun H locs hP hD hS => ?_)
      refine lv_if_eq (tgt := 81) hx hb dX6_openFrameEnd_68 (by decide) (fun c_68 => ?_) (fun c_68 => ?_)
      · replace hf := if_t c_68 hf
        refine lv_aload_n hx hb dX6_openFrameEnd_81 rfl (lv_at hl 0 rfl) ?_
        refine va_get (D := (dC, dI)) (ci := 5) (v := .ref h0_input) (C := RX6) (T := TX6) (N := 17) hx hb hts inG_X6 hown hK hP 0 rfl rfl 0 (by decide) (hts _ kw_289) (fun _ h9 => h9) rfl dX6_openFrameEnd_82 ?_
        refine lv_aload_n hx hb dX6_openFrameEnd_85 rfl (lv_at hl 0 rfl) ?_
        refine va_get (D := (dC, dI)) (ci := 5) (v := .int p_4) (C := RX6) (T := TX6) (N := 17) hx hb hts inG_X6 hown hK hP 0 rfl rfl 7 (by decide) (hts _ kw_296) (fun _ h9 => h9) rfl dX6_openFrameEnd_86 ?_
        obtain ⟨r7, hc, hf⟩ := bind_some hf
        refine nx_i (rn_V (As := [.int p_4]) (rest := []) (n := 1) (ci := 2) (q0 := 0) ⟨hx, hb, hml, hown, hts⟩ (c_Bytes_number32 (l := l) (dC := dC) (dI := dI) (cB := cB) (cI := cI) (h0 := h0_input) (a1 := p_4) (h0_held := h0_input_held) (h0_count := h0_input_count) (h0_held_n := h0_input_held_n) (h0_held_f := h0_input_held_f)  (o_r := r7) hc) (wV kw_937 kw_757 kw_758 kw_83 kw_759) (by decide +kernel) ⟨Nat.le_of_ble_eq_true rfl, Nat.le_of_ble_eq_true rfl⟩ hK hP hD hN hT hS (va_free (wc := [(h0_input, .inr (2, [.ref h0_input_held, .int h0_input_count])), (h0_input_held, .inl (cB, h0_input_held_n, .inl h0_input_held_f))]) hD hS hA [2, 3] rfl) [2, 3] rfl (by decide) rfl rfl rfl hl.1 rfl (lv_room (Nat.le_of_ble_eq_true rfl)) dX6_openFrameEnd_89 ⟨Nat.le_of_ble_eq_true rfl, Nat.le_of_ble_eq_true rfl⟩) hP hD hS hA (wr := [(h0, .inr (5, [.ref h0_input, w_h0_words, w_h0_settings, .ref h0_to, w_h0_blocks, .int h0_broken, .int h0_brokenAt, .int p_4, .int h0_end, w_h0_begin, w_h0_copies, w_h0_literals, w_h0_parts, .int h0_frameBegin, .int h0_flags, w_h0_width, .long h0_size])), (h0_to, .inr (2, [.ref h0_to_held, .int h0_to_count])), (h0_to_held, .inl (cB, h0_to_held_n, .inl h0_to_held_f))]) (w1 := [(h0_input, .inr (2, [.ref h0_input_held, .int h0_input_count])), (h0_input_held, .inl (cB, h0_input_held_n, .inl h0_input_held_f))]) (ws' := [(h0, .inr (5, [.ref h0_input, w_h0_words, w_h0_settings, .ref h0_to, w_h0_blocks, .int h0_broken, .int h0_brokenAt, .int p_4, .int h0_end, w_h0_begin, w_h0_copies, w_h0_literals, w_h0_parts, .int h0_frameBegin, .int h0_flags, w_h0_width, .long h0_size])), (h0_to, .inr (2, [.ref h0_to_held, .int h0_to_count])), (h0_input, .inr (2, [.ref h0_input_held, .int h0_input_count])), (h0_input_held, .inl (cB, h0_input_held_n, .inl h0_input_held_f)), (h0_to_held, .inl (cB, h0_to_held_n, .inl h0_to_held_f))]) [2, 3] [0, 1, 4] [0, 1, 3, 4, 2] rfl rfl (by decide) (by decide) rfl (by decide) (fun H locs hP hD hS => ?_)
        refine lv_aload_n hx hb dX6_openFrameEnd_92 rfl (lv_at hl 0 rfl) ?_
        refine va_get (D := (dC, dI)) (ci := 5) (v := .ref h0_to) (C := RX6) (T := TX6) (N := 17) hx hb hts inG_X6 hown hK hP 0 rfl rfl 3 (by decide) (hts _ kw_292) (fun _ h9 => h9) rfl dX6_openFrameEnd_93 ?_
        refine lv_aload_n hx hb dX6_openFrameEnd_96 rfl (lv_at hl 0 rfl) ?_
        refine va_get (D := (dC, dI)) (ci := 5) (v := .int h0_frameBegin) (C := RX6) (T := TX6) (N := 17) hx hb hts inG_X6 hown hK hP 0 rfl rfl 13 (by decide) (hts _ kw_302) (fun _ h9 => h9) rfl dX6_openFrameEnd_97 ?_
        refine lv_iload_n hx hb dX6_openFrameEnd_100 rfl (lv_at hl 1 rfl) ?_
        obtain ⟨r8, hc, hf⟩ := bind_some hf
        refine nx_i (rn_S (As := [.ref h0_to, .int h0_frameBegin, .int v1_2]) (rest := [.int r7]) (n := 3) ⟨hx, hb, hml, hown, hts⟩ (c_Sums_sumOf (l := l) (dC := dC) (dI := dI) (cB := cB) (cI := cI) (h0 := h0_to) (a1 := h0_frameBegin) (a2 := v1_2) (h0_held := h0_to_held) (h0_count := h0_to_count) (h0_held_n := h0_to_held_n) (h0_held_f := h0_to_held_f)  (o_r := r8) hc) (wS kw_936 kw_748 kw_97 kw_749) (by decide +kernel) ⟨Nat.le_of_ble_eq_true rfl, Nat.le_of_ble_eq_true rfl⟩ hK hP hD hN hT hS (va_free (wc := [(h0_to, .inr (2, [.ref h0_to_held, .int h0_to_count])), (h0_to_held, .inl (cB, h0_to_held_n, .inl h0_to_held_f))]) hD hS hA [1, 4] rfl) [1, 4] rfl (by decide) rfl hl.1 rfl (lv_room (Nat.le_of_ble_eq_true rfl)) dX6_openFrameEnd_101 ⟨Nat.le_of_ble_eq_true rfl, Nat.le_of_ble_eq_true rfl⟩) hP hD hS hA (wr := [(h0, .inr (5, [.ref h0_input, w_h0_words, w_h0_settings, .ref h0_to, w_h0_blocks, .int h0_broken, .int h0_brokenAt, .int p_4, .int h0_end, w_h0_begin, w_h0_copies, w_h0_literals, w_h0_parts, .int h0_frameBegin, .int h0_flags, w_h0_width, .long h0_size])), (h0_input, .inr (2, [.ref h0_input_held, .int h0_input_count])), (h0_input_held, .inl (cB, h0_input_held_n, .inl h0_input_held_f))]) (w1 := [(h0_to, .inr (2, [.ref h0_to_held, .int h0_to_count])), (h0_to_held, .inl (cB, h0_to_held_n, .inl h0_to_held_f))]) (ws' := [(h0, .inr (5, [.ref h0_input, w_h0_words, w_h0_settings, .ref h0_to, w_h0_blocks, .int h0_broken, .int h0_brokenAt, .int p_4, .int h0_end, w_h0_begin, w_h0_copies, w_h0_literals, w_h0_parts, .int h0_frameBegin, .int h0_flags, w_h0_width, .long h0_size])), (h0_to, .inr (2, [.ref h0_to_held, .int h0_to_count])), (h0_input, .inr (2, [.ref h0_input_held, .int h0_input_count])), (h0_input_held, .inl (cB, h0_input_held_n, .inl h0_input_held_f)), (h0_to_held, .inl (cB, h0_to_held_n, .inl h0_to_held_f))]) [1, 4] [0, 2, 3] [0, 3, 1, 2, 4] rfl rfl (by decide) (by decide) rfl (by decide) (fun H locs hP hD hS => ?_)
        refine lv_icmp_eq (tgt := 118) hx hb dX6_openFrameEnd_104 (by decide) (fun c_104 => ?_) (fun c_104 => ?_)
        · replace hf := if_t c_104 hf
          refine lv_aload_n hx hb dX6_openFrameEnd_118 rfl (lv_at hl 0 rfl) ?_
          refine lv_dup hx hb dX6_openFrameEnd_119 rfl ?_
          refine va_get (D := (dC, dI)) (ci := 5) (v := .int p_4) (C := RX6) (T := TX6) (N := 17) hx hb hts inG_X6 hown hK hP 0 rfl rfl 7 (by decide) (hts _ kw_296) (fun _ h9 => h9) rfl dX6_openFrameEnd_120 ?_
          refine lv_iconst (v := 4) hx hb dX6_openFrameEnd_123 (by decide) ?_
          refine lv_iadd hx hb dX6_openFrameEnd_124 ?_
          refine lv_topi (fun p_9 e_p_9 => ?_)
          replace hf := bnd_at e_p_9 hf
          refine va_put (D := (dC, dI)) (ci := 5) (v := .int p_9) (ty := .int) (C := RX6) (T := TX6) (N := 17) hx hb hts inG_X6 tyX6 tyX6_ok nmX6 hown hK hP hD hS 0 rfl rfl 7 (by decide) (hts _ kw_296) (fun _ h9 => h9) rfl (by decide +kernel) rfl rfl (Nat.le_of_ble_eq_true rfl) dX6_openFrameEnd_125 (fun H locs hP hD hS => ?_)
          have hP : va_P (dC, dI) vwCl [(h0, .inr (5, [.ref h0_input, w_h0_words, w_h0_settings, .ref h0_to, w_h0_blocks, .int h0_broken, .int h0_brokenAt, .int p_9, .int h0_end, w_h0_begin, w_h0_copies, w_h0_literals, w_h0_parts, .int h0_frameBegin, .int h0_flags, w_h0_width, .long h0_size])), (h0_to, .inr (2, [.ref h0_to_held, .int h0_to_count])), (h0_input, .inr (2, [.ref h0_input_held, .int h0_input_count])), (h0_input_held, .inl (cB, h0_input_held_n, .inl h0_input_held_f)), (h0_to_held, .inl (cB, h0_to_held_n, .inl h0_to_held_f))] H := hP
          have hD : va_D A [(h0, .inr (5, [.ref h0_input, w_h0_words, w_h0_settings, .ref h0_to, w_h0_blocks, .int h0_broken, .int h0_brokenAt, .int p_9, .int h0_end, w_h0_begin, w_h0_copies, w_h0_literals, w_h0_parts, .int h0_frameBegin, .int h0_flags, w_h0_width, .long h0_size])), (h0_to, .inr (2, [.ref h0_to_held, .int h0_to_count])), (h0_input, .inr (2, [.ref h0_input_held, .int h0_input_count])), (h0_input_held, .inl (cB, h0_input_held_n, .inl h0_input_held_f)), (h0_to_held, .inl (cB, h0_to_held_n, .inl h0_to_held_f))] := hD
          refine lv_iconst (v := 1) hx hb dX6_openFrameEnd_128 (by decide) ?_
          have hzb : narrow .boolean (.int (1 : Int32)) = .int (1 : Int32) := rfl
          obtain ⟨rfl, hq_1⟩ := Prod.mk.inj (Option.some.inj hf)
          obtain ⟨rfl, hq_2⟩ := Prod.mk.inj hq_1
          obtain ⟨rfl, hq_3⟩ := Prod.mk.inj hq_2
          obtain rfl := hq_3
          exact rt_z hQ hx hb hr hzb hlocks hP hD hS dX6_openFrameEnd_129
        · replace hf := if_f c_104 hf
          refine lv_aload_n hx hb dX6_openFrameEnd_107 rfl (lv_at hl 0 rfl) ?_
          refine lv_bipush (v := 10) hx hb dX6_openFrameEnd_108 (by decide) ?_
          refine lv_aload_n hx hb dX6_openFrameEnd_110 rfl (lv_at hl 0 rfl) ?_
          refine va_get (D := (dC, dI)) (ci := 5) (v := .int p_4) (C := RX6) (T := TX6) (N := 17) hx hb hts inG_X6 hown hK hP 0 rfl rfl 7 (by decide) (hts _ kw_296) (fun _ h9 => h9) rfl dX6_openFrameEnd_111 ?_
          obtain ⟨x, hc, hf⟩ := bind_some hf
          obtain ⟨r10, u11, u12⟩ := x
          dsimp only at hf
          refine nx_i (rn_V (As := [.int (10 : Int32), .int p_4]) (rest := []) (n := 2) (ci := 5) (q0 := 0) ⟨hx, hb, hml, hown, hts⟩ (c_Opener_breaks (l := l) (dC := dC) (dI := dI) (cB := cB) (cI := cI) (h0 := h0) (a1 := (10 : Int32)) (a2 := p_4) (w_h0_input := (.ref h0_input)) (w_h0_words := (w_h0_words)) (w_h0_settings := (w_h0_settings)) (w_h0_to := (.ref h0_to)) (w_h0_blocks := (w_h0_blocks)) (h0_broken := h0_broken) (h0_brokenAt := h0_brokenAt) (w_h0_at := (.int p_4)) (w_h0_end := (.int h0_end)) (w_h0_begin := (w_h0_begin)) (w_h0_copies := (w_h0_copies)) (w_h0_literals := (w_h0_literals)) (w_h0_parts := (w_h0_parts)) (w_h0_frameBegin := (.int h0_frameBegin)) (w_h0_flags := (.int h0_flags)) (w_h0_width := (w_h0_width)) (w_h0_size := (.long h0_size)) (o_h0_broken := u11) (o_h0_brokenAt := u12) (o_r := r10) hc) (wV kw_871 kw_873 kw_26 kw_92 kw_874) (by decide +kernel) ⟨Nat.le_of_ble_eq_true rfl, Nat.le_of_ble_eq_true rfl⟩ hK hP hD hN hT hS (va_free (wc := [(h0, .inr (5, [.ref h0_input, w_h0_words, w_h0_settings, .ref h0_to, w_h0_blocks, .int h0_broken, .int h0_brokenAt, .int p_4, .int h0_end, w_h0_begin, w_h0_copies, w_h0_literals, w_h0_parts, .int h0_frameBegin, .int h0_flags, w_h0_width, .long h0_size]))]) hD hS hA [0] rfl) [0] rfl (by decide) rfl rfl rfl hl.1 rfl (lv_room (Nat.le_of_ble_eq_true rfl)) dX6_openFrameEnd_114 ⟨Nat.le_of_ble_eq_true rfl, Nat.le_of_ble_eq_true rfl⟩) hP hD hS hA (wr := [(h0_to, .inr (2, [.ref h0_to_held, .int h0_to_count])), (h0_input, .inr (2, [.ref h0_input_held, .int h0_input_count])), (h0_input_held, .inl (cB, h0_input_held_n, .inl h0_input_held_f)), (h0_to_held, .inl (cB, h0_to_held_n, .inl h0_to_held_f))]) (w1 := [(h0, .inr (5, [.ref h0_input, w_h0_words, w_h0_settings, .ref h0_to, w_h0_blocks, .int u11, .int u12, .int p_4, .int h0_end, w_h0_begin, w_h0_copies, w_h0_literals, w_h0_parts, .int h0_frameBegin, .int h0_flags, w_h0_width, .long h0_size]))]) (ws' := [(h0, .inr (5, [.ref h0_input, w_h0_words, w_h0_settings, .ref h0_to, w_h0_blocks, .int u11, .int u12, .int p_4, .int h0_end, w_h0_begin, w_h0_copies, w_h0_literals, w_h0_parts, .int h0_frameBegin, .int h0_flags, w_h0_width, .long h0_size])), (h0_to, .inr (2, [.ref h0_to_held, .int h0_to_count])), (h0_input, .inr (2, [.ref h0_input_held, .int h0_input_count])), (h0_input_held, .inl (cB, h0_input_held_n, .inl h0_input_held_f)), (h0_to_held, .inl (cB, h0_to_held_n, .inl h0_to_held_f))]) [0] [1, 2, 3, 4] [4, 0, 1, 2, 3] rfl rfl (by decide) (by decide) rfl (by decide) (fun H locs hP hD hS => ?_)
          obtain ⟨hzb, hf⟩ := bch_some hf
          obtain ⟨rfl, hq_1⟩ := Prod.mk.inj (Option.some.inj hf)
          obtain ⟨rfl, hq_2⟩ := Prod.mk.inj hq_1
          obtain ⟨rfl, hq_3⟩ := Prod.mk.inj hq_2
          obtain rfl := hq_3
          exact rt_z hQ hx hb hr hzb hlocks hP hD hS dX6_openFrameEnd_117
      · replace hf := if_f c_68 hf
        refine lv_aload_n hx hb dX6_openFrameEnd_71 rfl (lv_at hl 0 rfl) ?_
        refine lv_iconst (v := 1) hx hb dX6_openFrameEnd_72 (by decide) ?_
        refine lv_aload_n hx hb dX6_openFrameEnd_73 rfl (lv_at hl 0 rfl) ?_
        refine va_get (D := (dC, dI)) (ci := 5) (v := .int h0_end) (C := RX6) (T := TX6) (N := 17) hx hb hts inG_X6 hown hK hP 0 rfl rfl 8 (by decide) (hts _ kw_297) (fun _ h9 => h9) rfl dX6_openFrameEnd_74 ?_
        obtain ⟨x, hc, hf⟩ := bind_some hf
        obtain ⟨r13, u14, u15⟩ := x
        dsimp only at hf
        refine nx_i (rn_V (As := [.int (1 : Int32), .int h0_end]) (rest := []) (n := 2) (ci := 5) (q0 := 0) ⟨hx, hb, hml, hown, hts⟩ (c_Opener_breaks (l := l) (dC := dC) (dI := dI) (cB := cB) (cI := cI) (h0 := h0) (a1 := (1 : Int32)) (a2 := h0_end) (w_h0_input := (.ref h0_input)) (w_h0_words := (w_h0_words)) (w_h0_settings := (w_h0_settings)) (w_h0_to := (.ref h0_to)) (w_h0_blocks := (w_h0_blocks)) (h0_broken := h0_broken) (h0_brokenAt := h0_brokenAt) (w_h0_at := (.int p_4)) (w_h0_end := (.int h0_end)) (w_h0_begin := (w_h0_begin)) (w_h0_copies := (w_h0_copies)) (w_h0_literals := (w_h0_literals)) (w_h0_parts := (w_h0_parts)) (w_h0_frameBegin := (.int h0_frameBegin)) (w_h0_flags := (.int h0_flags)) (w_h0_width := (w_h0_width)) (w_h0_size := (.long h0_size)) (o_h0_broken := u14) (o_h0_brokenAt := u15) (o_r := r13) hc) (wV kw_871 kw_873 kw_26 kw_92 kw_874) (by decide +kernel) ⟨Nat.le_of_ble_eq_true rfl, Nat.le_of_ble_eq_true rfl⟩ hK hP hD hN hT hS (va_free (wc := [(h0, .inr (5, [.ref h0_input, w_h0_words, w_h0_settings, .ref h0_to, w_h0_blocks, .int h0_broken, .int h0_brokenAt, .int p_4, .int h0_end, w_h0_begin, w_h0_copies, w_h0_literals, w_h0_parts, .int h0_frameBegin, .int h0_flags, w_h0_width, .long h0_size]))]) hD hS hA [0] rfl) [0] rfl (by decide) rfl rfl rfl hl.1 rfl (lv_room (Nat.le_of_ble_eq_true rfl)) dX6_openFrameEnd_77 ⟨Nat.le_of_ble_eq_true rfl, Nat.le_of_ble_eq_true rfl⟩) hP hD hS hA (wr := [(h0_to, .inr (2, [.ref h0_to_held, .int h0_to_count])), (h0_input, .inr (2, [.ref h0_input_held, .int h0_input_count])), (h0_input_held, .inl (cB, h0_input_held_n, .inl h0_input_held_f)), (h0_to_held, .inl (cB, h0_to_held_n, .inl h0_to_held_f))]) (w1 := [(h0, .inr (5, [.ref h0_input, w_h0_words, w_h0_settings, .ref h0_to, w_h0_blocks, .int u14, .int u15, .int p_4, .int h0_end, w_h0_begin, w_h0_copies, w_h0_literals, w_h0_parts, .int h0_frameBegin, .int h0_flags, w_h0_width, .long h0_size]))]) (ws' := [(h0, .inr (5, [.ref h0_input, w_h0_words, w_h0_settings, .ref h0_to, w_h0_blocks, .int u14, .int u15, .int p_4, .int h0_end, w_h0_begin, w_h0_copies, w_h0_literals, w_h0_parts, .int h0_frameBegin, .int h0_flags, w_h0_width, .long h0_size])), (h0_to, .inr (2, [.ref h0_to_held, .int h0_to_count])), (h0_input, .inr (2, [.ref h0_input_held, .int h0_input_count])), (h0_input_held, .inl (cB, h0_input_held_n, .inl h0_input_held_f)), (h0_to_held, .inl (cB, h0_to_held_n, .inl h0_to_held_f))]) [0] [1, 2, 3, 4] [4, 0, 1, 2, 3] rfl rfl (by decide) (by decide) rfl (by decide) (fun H locs hP hD hS => ?_)
        obtain ⟨hzb, hf⟩ := bch_some hf
        obtain ⟨rfl, hq_1⟩ := Prod.mk.inj (Option.some.inj hf)
        obtain ⟨rfl, hq_2⟩ := Prod.mk.inj hq_1
        obtain ⟨rfl, hq_3⟩ := Prod.mk.inj hq_2
        obtain rfl := hq_3
        exact rt_z hQ hx hb hr hzb hlocks hP hD hS dX6_openFrameEnd_80
    · replace hf := if_t c_58 hf
      refine lv_iconst (v := 1) hx hb dX6_openFrameEnd_61 (by decide) ?_
      have hzb : narrow .boolean (.int (1 : Int32)) = .int (1 : Int32) := rfl
      obtain ⟨rfl, hq_1⟩ := Prod.mk.inj (Option.some.inj hf)
      obtain ⟨rfl, hq_2⟩ := Prod.mk.inj hq_1
      obtain ⟨rfl, hq_3⟩ := Prod.mk.inj hq_2
      obtain rfl := hq_3
      exact rt_z hQ hx hb hr hzb hlocks hP hD hS dX6_openFrameEnd_62
  refine lv_if_eq (tgt := 43) hx hb dX6_openFrameEnd_19 (by decide) (fun c_19 => ?_) (fun c_19 => ?_)
  · replace hf := if_t c_19 hf
    exact hJ_43  _ _ _ hf hP hD hS (lv_sub hl [1, 0] rfl)
  · replace hf := if_f c_19 hf
    refine lv_aload_n hx hb dX6_openFrameEnd_22 rfl (lv_at hl 1 rfl) ?_
    refine va_get (D := (dC, dI)) (ci := 5) (v := .long h0_size) (C := RX6) (T := TX6) (N := 17) hx hb hts inG_X6 hown hK hP 0 rfl rfl 16 (by decide) (hts _ kw_305) (fun _ h9 => h9) rfl dX6_openFrameEnd_23 ?_
    refine lv_iload_n hx hb dX6_openFrameEnd_26 rfl (lv_at hl 0 rfl) ?_
    refine lv_i2l (v := (v1_2.toInt64)) hx hb dX6_openFrameEnd_27 rfl ?_
    refine W.lcmp hx hb dX6_openFrameEnd_28 ?_
    refine lv_if_eq (tgt := 43) hx hb dX6_openFrameEnd_29 (by decide) (fun c_29 => ?_) (fun c_29 => ?_)
    · replace hf := if_t c_29 hf
      exact hJ_43  _ _ _ hf hP hD hS (lv_sub hl [1, 0] rfl)
    · replace hf := if_f c_29 hf
      refine lv_aload_n hx hb dX6_openFrameEnd_32 rfl (lv_at hl 1 rfl) ?_
      refine lv_bipush (v := 9) hx hb dX6_openFrameEnd_33 (by decide) ?_
      refine lv_aload_n hx hb dX6_openFrameEnd_35 rfl (lv_at hl 1 rfl) ?_
      refine va_get (D := (dC, dI)) (ci := 5) (v := .int h0_at) (C := RX6) (T := TX6) (N := 17) hx hb hts inG_X6 hown hK hP 0 rfl rfl 7 (by decide) (hts _ kw_296) (fun _ h9 => h9) rfl dX6_openFrameEnd_36 ?_
      obtain ⟨x, hc, hf⟩ := bind_some hf
      obtain ⟨r16, u17, u18⟩ := x
      dsimp only at hf
      refine nx_i (rn_V (As := [.int (9 : Int32), .int h0_at]) (rest := []) (n := 2) (ci := 5) (q0 := 0) ⟨hx, hb, hml, hown, hts⟩ (c_Opener_breaks (l := l) (dC := dC) (dI := dI) (cB := cB) (cI := cI) (h0 := h0) (a1 := (9 : Int32)) (a2 := h0_at) (w_h0_input := (.ref h0_input)) (w_h0_words := (w_h0_words)) (w_h0_settings := (w_h0_settings)) (w_h0_to := (.ref h0_to)) (w_h0_blocks := (w_h0_blocks)) (h0_broken := h0_broken) (h0_brokenAt := h0_brokenAt) (w_h0_at := (.int h0_at)) (w_h0_end := (.int h0_end)) (w_h0_begin := (w_h0_begin)) (w_h0_copies := (w_h0_copies)) (w_h0_literals := (w_h0_literals)) (w_h0_parts := (w_h0_parts)) (w_h0_frameBegin := (.int h0_frameBegin)) (w_h0_flags := (.int h0_flags)) (w_h0_width := (w_h0_width)) (w_h0_size := (.long h0_size)) (o_h0_broken := u17) (o_h0_brokenAt := u18) (o_r := r16) hc) (wV kw_871 kw_873 kw_26 kw_92 kw_874) (by decide +kernel) ⟨Nat.le_of_ble_eq_true rfl, Nat.le_of_ble_eq_true rfl⟩ hK hP hD hN hT hS (va_free (wc := [(h0, .inr (5, [.ref h0_input, w_h0_words, w_h0_settings, .ref h0_to, w_h0_blocks, .int h0_broken, .int h0_brokenAt, .int h0_at, .int h0_end, w_h0_begin, w_h0_copies, w_h0_literals, w_h0_parts, .int h0_frameBegin, .int h0_flags, w_h0_width, .long h0_size]))]) hD hS hA [0] rfl) [0] rfl (by decide) rfl rfl rfl hl.1 rfl (lv_room (Nat.le_of_ble_eq_true rfl)) dX6_openFrameEnd_39 ⟨Nat.le_of_ble_eq_true rfl, Nat.le_of_ble_eq_true rfl⟩) hP hD hS hA (wr := [(h0_to, .inr (2, [.ref h0_to_held, .int h0_to_count])), (h0_input, .inr (2, [.ref h0_input_held, .int h0_input_count])), (h0_input_held, .inl (cB, h0_input_held_n, .inl h0_input_held_f)), (h0_to_held, .inl (cB, h0_to_held_n, .inl h0_to_held_f))]) (w1 := [(h0, .inr (5, [.ref h0_input, w_h0_words, w_h0_settings, .ref h0_to, w_h0_blocks, .int u17, .int u18, .int h0_at, .int h0_end, w_h0_begin, w_h0_copies, w_h0_literals, w_h0_parts, .int h0_frameBegin, .int h0_flags, w_h0_width, .long h0_size]))]) (ws' := [(h0, .inr (5, [.ref h0_input, w_h0_words, w_h0_settings, .ref h0_to, w_h0_blocks, .int u17, .int u18, .int h0_at, .int h0_end, w_h0_begin, w_h0_copies, w_h0_literals, w_h0_parts, .int h0_frameBegin, .int h0_flags, w_h0_width, .long h0_size])), (h0_to, .inr (2, [.ref h0_to_held, .int h0_to_count])), (h0_input, .inr (2, [.ref h0_input_held, .int h0_input_count])), (h0_input_held, .inl (cB, h0_input_held_n, .inl h0_input_held_f)), (h0_to_held, .inl (cB, h0_to_held_n, .inl h0_to_held_f))]) [0] [1, 2, 3, 4] [4, 0, 1, 2, 3] rfl rfl (by decide) (by decide) rfl (by decide) (fun H locs hP hD hS => ?_)
      obtain ⟨hzb, hf⟩ := bch_some hf
      obtain ⟨rfl, hq_1⟩ := Prod.mk.inj (Option.some.inj hf)
      obtain ⟨rfl, hq_2⟩ := Prod.mk.inj hq_1
      obtain ⟨rfl, hq_3⟩ := Prod.mk.inj hq_2
      obtain rfl := hq_3
      exact rt_z hQ hx hb hr hzb hlocks hP hD hS dX6_openFrameEnd_42

theorem dX6_openRaw_0 : decode cX6_openRaw 0 = .ok (.aload_n 0, 1) := by decide +kernel
theorem dX6_openRaw_1 : decode cX6_openRaw 1 = .ok (.iload_n 1, 1) := by decide +kernel
theorem dX6_openRaw_2 : decode cX6_openRaw 2 = .ok (.i2l, 1) := by decide +kernel
theorem dX6_openRaw_3 : decode cX6_openRaw 3 = .ok (.invokevirtual 102, 3) := by decide +kernel
theorem dX6_openRaw_6 : decode cX6_openRaw 6 = .ok (.ifCond .eq 11, 3) := by decide +kernel
theorem dX6_openRaw_9 : decode cX6_openRaw 9 = .ok (.aload_n 0, 1) := by decide +kernel
theorem dX6_openRaw_10 : decode cX6_openRaw 10 = .ok (.bipush 12, 2) := by decide +kernel
theorem dX6_openRaw_12 : decode cX6_openRaw 12 = .ok (.iload_n 2, 1) := by decide +kernel
theorem dX6_openRaw_13 : decode cX6_openRaw 13 = .ok (.invokevirtual 98, 3) := by decide +kernel
theorem dX6_openRaw_16 : decode cX6_openRaw 16 = .ok (.ireturn, 1) := by decide +kernel
theorem dX6_openRaw_17 : decode cX6_openRaw 17 = .ok (.aload_n 0, 1) := by decide +kernel
theorem dX6_openRaw_18 : decode cX6_openRaw 18 = .ok (.getfield 32, 3) := by decide +kernel
theorem dX6_openRaw_21 : decode cX6_openRaw 21 = .ok (.aload_n 0, 1) := by decide +kernel
theorem dX6_openRaw_22 : decode cX6_openRaw 22 = .ok (.getfield 47, 3) := by decide +kernel
theorem dX6_openRaw_25 : decode cX6_openRaw 25 = .ok (.iload_n 1, 1) := by decide +kernel
theorem dX6_openRaw_26 : decode cX6_openRaw 26 = .ok (.invokevirtual 191, 3) := by decide +kernel
theorem dX6_openRaw_29 : decode cX6_openRaw 29 = .ok (.aload_n 0, 1) := by decide +kernel
theorem dX6_openRaw_30 : decode cX6_openRaw 30 = .ok (.getfield 29, 3) := by decide +kernel
theorem dX6_openRaw_33 : decode cX6_openRaw 33 = .ok (.aload_n 0, 1) := by decide +kernel
theorem dX6_openRaw_34 : decode cX6_openRaw 34 = .ok (.getfield 9, 3) := by decide +kernel
theorem dX6_openRaw_37 : decode cX6_openRaw 37 = .ok (.aload_n 0, 1) := by decide +kernel
theorem dX6_openRaw_38 : decode cX6_openRaw 38 = .ok (.getfield 47, 3) := by decide +kernel
theorem dX6_openRaw_41 : decode cX6_openRaw 41 = .ok (.iload_n 1, 1) := by decide +kernel
theorem dX6_openRaw_42 : decode cX6_openRaw 42 = .ok (.invokevirtual 106, 3) := by decide +kernel
theorem dX6_openRaw_45 : decode cX6_openRaw 45 = .ok (.aload_n 0, 1) := by decide +kernel
theorem dX6_openRaw_46 : decode cX6_openRaw 46 = .ok (.dup, 1) := by decide +kernel
theorem dX6_openRaw_47 : decode cX6_openRaw 47 = .ok (.getfield 47, 3) := by decide +kernel
theorem dX6_openRaw_50 : decode cX6_openRaw 50 = .ok (.iload_n 1, 1) := by decide +kernel
theorem dX6_openRaw_51 : decode cX6_openRaw 51 = .ok (.iadd, 1) := by decide +kernel
theorem dX6_openRaw_52 : decode cX6_openRaw 52 = .ok (.putfield 47, 3) := by decide +kernel
theorem dX6_openRaw_55 : decode cX6_openRaw 55 = .ok (.iconst 1, 1) := by decide +kernel
theorem dX6_openRaw_56 : decode cX6_openRaw 56 = .ok (.ireturn, 1) := by decide +kernel
def m_Opener_openRaw (a1 : Int32) (a2 : Int32) (h0_broken : Int32) (h0_brokenAt : Int32) (h0_at : Int32) (h0_to_count : Int32) (h0_blocks_count : Int32) (h0_blocks_facts_n : Nat) (h0_blocks_facts_f : Nat → Int32) (h0_input_count : Int32) (h0_to_held_n : Nat) (h0_to_held_f : Nat → Int32) (h0_input_held_n : Nat) (h0_input_held_f : Nat → Int32) : Option (Int32 × Int32 × Int32 × Int32 × Int32 × Int32 × (Nat → Int32) × (Nat → Int32)) :=
  (m_Opener_isOver (a1.toInt64) h0_to_count).bind fun r1 =>
  if r1 = 0 then
    (m_Blocks_addRaw h0_at a1 h0_blocks_count h0_blocks_facts_n h0_blocks_facts_f).bind fun (u2, u3) =>
    (m_Bytes_addRange h0_at a1 h0_to_count h0_input_count h0_to_held_n h0_to_held_f h0_input_held_n h0_input_held_f).bind fun (u4, u5) =>
    bnd (h0_at + a1) fun p_6 =>
    some ((1 : Int32), h0_broken, h0_brokenAt, p_6, u4, u2, u3, u5)
  else
    (m_Opener_breaks (12 : Int32) a2).bind fun (r7, u8, u9) =>
    bch r7 <|
    some (r7, u8, u9, h0_at, h0_to_count, h0_blocks_count, h0_blocks_facts_f, h0_to_held_f)
def rm_Opener_openRaw : Room := { frames := 2, cells := 0, slots := 0, locals := 63 }
set_option maxHeartbeats 4000000 in
set_option maxRecDepth 100000 in
theorem c_Opener_openRaw {l : Launch} {dC : Nat → ClassId} {dI : Nat → Nat → Nat} {cB cI : ClassId} {sz : Nat} {h0 : Nat} {a1 : Int32} {a2 : Int32} {h0_to : Nat} {h0_blocks : Nat} {h0_blocks_facts : Nat} {h0_input : Nat} {h0_to_held : Nat} {h0_input_held : Nat} {w_h0_words : Value} {w_h0_settings : Value} {h0_broken : Int32} {h0_brokenAt : Int32} {h0_at : Int32} {w_h0_end : Value} {w_h0_begin : Value} {w_h0_copies : Value} {w_h0_literals : Value} {w_h0_parts : Value} {w_h0_frameBegin : Value} {w_h0_flags : Value} {w_h0_width : Value} {w_h0_size : Value} {h0_to_count : Int32} {h0_blocks_count : Int32} {h0_blocks_facts_n : Nat} {h0_blocks_facts_f : Nat → Int32} {h0_input_count : Int32} {h0_to_held_n : Nat} {h0_to_held_f : Nat → Int32} {h0_input_held_n : Nat} {h0_input_held_f : Nat → Int32} {o_r : Int32} {o_h0_broken : Int32} {o_h0_brokenAt : Int32} {o_h0_at : Int32} {o_h0_to_count : Int32} {o_h0_blocks_count : Int32} {o_h0_blocks_facts_f : Nat → Int32} {o_h0_to_held_f : Nat → Int32} (hf : m_Opener_openRaw a1 a2 h0_broken h0_brokenAt h0_at h0_to_count h0_blocks_count h0_blocks_facts_n h0_blocks_facts_f h0_input_count h0_to_held_n h0_to_held_f h0_input_held_n h0_input_held_f = some (o_r, o_h0_broken, o_h0_brokenAt, o_h0_at, o_h0_to_count, o_h0_blocks_count, o_h0_blocks_facts_f, o_h0_to_held_f)) : Met l yX6_openRaw (Cond.code yX6_openRaw cX6_openRaw 3 (some .boolean) :: lw_G) rm_Opener_openRaw (PreC (dC, dI) [(cB, .byte), (cI, .int)] [.ref h0, .int a1, .int a2] sz [(h0, .inr (5, [.ref h0_input, w_h0_words, w_h0_settings, .ref h0_to, .ref h0_blocks, .int h0_broken, .int h0_brokenAt, .int h0_at, w_h0_end, w_h0_begin, w_h0_copies, w_h0_literals, w_h0_parts, w_h0_frameBegin, w_h0_flags, w_h0_width, w_h0_size])), (h0_to, .inr (2, [.ref h0_to_held, .int h0_to_count])), (h0_blocks, .inr (1, [.ref h0_blocks_facts, .int h0_blocks_count])), (h0_blocks_facts, .inl (cI, h0_blocks_facts_n, .inl h0_blocks_facts_f)), (h0_input, .inr (2, [.ref h0_input_held, .int h0_input_count])), (h0_to_held, .inl (cB, h0_to_held_n, .inl h0_to_held_f)), (h0_input_held, .inl (cB, h0_input_held_n, .inl h0_input_held_f))]) (QcI o_r (dC, dI) [(h0, .inr (5, [.ref h0_input, w_h0_words, w_h0_settings, .ref h0_to, .ref h0_blocks, .int o_h0_broken, .int o_h0_brokenAt, .int o_h0_at, w_h0_end, w_h0_begin, w_h0_copies, w_h0_literals, w_h0_parts, w_h0_frameBegin, w_h0_flags, w_h0_width, w_h0_size])), (h0_to, .inr (2, [.ref h0_to_held, .int o_h0_to_count])), (h0_blocks, .inr (1, [.ref h0_blocks_facts, .int o_h0_blocks_count])), (h0_blocks_facts, .inl (cI, h0_blocks_facts_n, .inl o_h0_blocks_facts_f)), (h0_input, .inr (2, [.ref h0_input_held, .int h0_input_count])), (h0_to_held, .inl (cB, h0_to_held_n, .inl o_h0_to_held_f)), (h0_input_held, .inl (cB, h0_input_held_n, .inl h0_input_held_f))] (va_A [(h0, .inr (5, [.ref h0_input, w_h0_words, w_h0_settings, .ref h0_to, .ref h0_blocks, .int h0_broken, .int h0_brokenAt, .int h0_at, w_h0_end, w_h0_begin, w_h0_copies, w_h0_literals, w_h0_parts, w_h0_frameBegin, w_h0_flags, w_h0_width, w_h0_size])), (h0_to, .inr (2, [.ref h0_to_held, .int h0_to_count])), (h0_blocks, .inr (1, [.ref h0_blocks_facts, .int h0_blocks_count])), (h0_blocks_facts, .inl (cI, h0_blocks_facts_n, .inl h0_blocks_facts_f)), (h0_input, .inr (2, [.ref h0_input_held, .int h0_input_count])), (h0_to_held, .inl (cB, h0_to_held_n, .inl h0_to_held_f)), (h0_input_held, .inl (cB, h0_input_held_n, .inl h0_input_held_f))] sz)) 0 0 (va_A [(h0, .inr (5, [.ref h0_input, w_h0_words, w_h0_settings, .ref h0_to, .ref h0_blocks, .int h0_broken, .int h0_brokenAt, .int h0_at, w_h0_end, w_h0_begin, w_h0_copies, w_h0_literals, w_h0_parts, w_h0_frameBegin, w_h0_flags, w_h0_width, w_h0_size])), (h0_to, .inr (2, [.ref h0_to_held, .int h0_to_count])), (h0_blocks, .inr (1, [.ref h0_blocks_facts, .int h0_blocks_count])), (h0_blocks_facts, .inl (cI, h0_blocks_facts_n, .inl h0_blocks_facts_f)), (h0_input, .inr (2, [.ref h0_input_held, .int h0_input_count])), (h0_to_held, .inl (cB, h0_to_held_n, .inl h0_to_held_f)), (h0_input_held, .inl (cB, h0_input_held_n, .inl h0_input_held_f))] sz) := by
  refine met_of (Qf := fun A => QcI o_r (dC, dI) [(h0, .inr (5, [.ref h0_input, w_h0_words, w_h0_settings, .ref h0_to, .ref h0_blocks, .int o_h0_broken, .int o_h0_brokenAt, .int o_h0_at, w_h0_end, w_h0_begin, w_h0_copies, w_h0_literals, w_h0_parts, w_h0_frameBegin, w_h0_flags, w_h0_width, w_h0_size])), (h0_to, .inr (2, [.ref h0_to_held, .int o_h0_to_count])), (h0_blocks, .inr (1, [.ref h0_blocks_facts, .int o_h0_blocks_count])), (h0_blocks_facts, .inl (cI, h0_blocks_facts_n, .inl o_h0_blocks_facts_f)), (h0_input, .inr (2, [.ref h0_input_held, .int h0_input_count])), (h0_to_held, .inl (cB, h0_to_held_n, .inl o_h0_to_held_f)), (h0_input_held, .inl (cB, h0_input_held_n, .inl h0_input_held_f))] A) (by decide) (Nat.le_of_ble_eq_true rfl) ?_
  intro p e s m below meth c A ls Q hx hb hr hml hown hts hlocks hnm hP hK hD hN hT hA hl hQ
  have hown : s.vm.findClass RX6 = some m.cls := hown
  have hS : va_S A s.heap s.heap [] := va_S.rf
  have hl : lv_has ls 3 [(0, .ref h0), (1, .int a1), (2, .int a2)] := hl
  unfold m_Opener_openRaw at hf
  refine lv_aload_n hx hb dX6_openRaw_0 rfl (lv_at hl 0 rfl) ?_
  refine lv_iload_n hx hb dX6_openRaw_1 rfl (lv_at hl 1 rfl) ?_
  refine lv_i2l (v := (a1.toInt64)) hx hb dX6_openRaw_2 rfl ?_
  obtain ⟨r1, hc, hf⟩ := bind_some hf
  refine nx_i (rn_V (As := [.long (a1.toInt64)]) (rest := []) (n := 1) (ci := 5) (q0 := 0) ⟨hx, hb, hml, hown, hts⟩ (c_Opener_isOver (l := l) (dC := dC) (dI := dI) (cB := cB) (cI := cI) (h0 := h0) (a1 := (a1.toInt64)) (h0_to := h0_to) (w_h0_input := (.ref h0_input)) (w_h0_words := (w_h0_words)) (w_h0_settings := (w_h0_settings)) (w_h0_blocks := (.ref h0_blocks)) (w_h0_broken := (.int h0_broken)) (w_h0_brokenAt := (.int h0_brokenAt)) (w_h0_at := (.int h0_at)) (w_h0_end := (w_h0_end)) (w_h0_begin := (w_h0_begin)) (w_h0_copies := (w_h0_copies)) (w_h0_literals := (w_h0_literals)) (w_h0_parts := (w_h0_parts)) (w_h0_frameBegin := (w_h0_frameBegin)) (w_h0_flags := (w_h0_flags)) (w_h0_width := (w_h0_width)) (w_h0_size := (w_h0_size)) (w_h0_to_held := (.ref h0_to_held)) (h0_to_count := h0_to_count)  (o_r := r1) hc) (wV kw_875 kw_877 kw_27 kw_92 kw_878) (by decide +kernel) ⟨Nat.le_of_ble_eq_true rfl, Nat.le_of_ble_eq_true rfl⟩ hK hP hD hN hT hS (va_free (wc := [(h0, .inr (5, [.ref h0_input, w_h0_words, w_h0_settings, .ref h0_to, .ref h0_blocks, .int h0_broken, .int h0_brokenAt, .int h0_at, w_h0_end, w_h0_begin, w_h0_copies, w_h0_literals, w_h0_parts, w_h0_frameBegin, w_h0_flags, w_h0_width, w_h0_size])), (h0_to, .inr (2, [.ref h0_to_held, .int h0_to_count]))]) hD hS hA [0, 1] rfl) [0, 1] rfl (by decide) rfl rfl rfl hl.1 rfl (lv_room (Nat.le_of_ble_eq_true rfl)) dX6_openRaw_3 ⟨Nat.le_of_ble_eq_true rfl, Nat.le_of_ble_eq_true rfl⟩) hP hD hS hA (wr := [(h0_blocks, .inr (1, [.ref h0_blocks_facts, .int h0_blocks_count])), (h0_blocks_facts, .inl (cI, h0_blocks_facts_n, .inl h0_blocks_facts_f)), (h0_input, .inr (2, [.ref h0_input_held, .int h0_input_count])), (h0_to_held, .inl (cB, h0_to_held_n, .inl h0_to_held_f)), (h0_input_held, .inl (cB, h0_input_held_n, .inl h0_input_held_f))]) (w1 := [(h0, .inr (5, [.ref h0_input, w_h0_words, w_h0_settings, .ref h0_to, .ref h0_blocks, .int h0_broken, .int h0_brokenAt, .int h0_at, w_h0_end, w_h0_begin, w_h0_copies, w_h0_literals, w_h0_parts, w_h0_frameBegin, w_h0_flags, w_h0_width, w_h0_size])), (h0_to, .inr (2, [.ref h0_to_held, .int h0_to_count]))]) (ws' := [(h0, .inr (5, [.ref h0_input, w_h0_words, w_h0_settings, .ref h0_to, .ref h0_blocks, .int h0_broken, .int h0_brokenAt, .int h0_at, w_h0_end, w_h0_begin, w_h0_copies, w_h0_literals, w_h0_parts, w_h0_frameBegin, w_h0_flags, w_h0_width, w_h0_size])), (h0_to, .inr (2, [.ref h0_to_held, .int h0_to_count])), (h0_blocks, .inr (1, [.ref h0_blocks_facts, .int h0_blocks_count])), (h0_blocks_facts, .inl (cI, h0_blocks_facts_n, .inl h0_blocks_facts_f)), (h0_input, .inr (2, [.ref h0_input_held, .int h0_input_count])), (h0_to_held, .inl (cB, h0_to_held_n, .inl h0_to_held_f)), (h0_input_held, .inl (cB, h0_input_held_n, .inl h0_input_held_f))]) [0, 1] [2, 3, 4, 5, 6] [5, 6, 0, 1, 2, 3, 4] rfl rfl (by decide) (by decide) rfl (by decide) (fun H locs hP hD hS => ?_)
  refine lv_if_eq (tgt := 17) hx hb dX6_openRaw_6 (by decide) (fun c_6 => ?_) (fun c_6 => ?_)
  · replace hf := if_t c_6 hf
    refine lv_aload_n hx hb dX6_openRaw_17 rfl (lv_at hl 0 rfl) ?_
    refine va_get (D := (dC, dI)) (ci := 5) (v := .ref h0_blocks) (C := RX6) (T := TX6) (N := 17) hx hb hts inG_X6 hown hK hP 0 rfl rfl 4 (by decide) (hts _ kw_293) (fun _ h9 => h9) rfl dX6_openRaw_18 ?_
    refine lv_aload_n hx hb dX6_openRaw_21 rfl (lv_at hl 0 rfl) ?_
    refine va_get (D := (dC, dI)) (ci := 5) (v := .int h0_at) (C := RX6) (T := TX6) (N := 17) hx hb hts inG_X6 hown hK hP 0 rfl rfl 7 (by decide) (hts _ kw_296) (fun _ h9 => h9) rfl dX6_openRaw_22 ?_
    refine lv_iload_n hx hb dX6_openRaw_25 rfl (lv_at hl 1 rfl) ?_
    obtain ⟨x, hc, hf⟩ := bind_some hf
    obtain ⟨u2, u3⟩ := x
    dsimp only at hf
    refine nx_v (rn_V (As := [.int h0_at, .int a1]) (rest := []) (n := 2) (ci := 1) (q0 := 0) ⟨hx, hb, hml, hown, hts⟩ (c_Blocks_addRaw (l := l) (dC := dC) (dI := dI) (cB := cB) (cI := cI) (h0 := h0_blocks) (a1 := h0_at) (a2 := a1) (h0_facts := h0_blocks_facts) (h0_count := h0_blocks_count) (h0_facts_n := h0_blocks_facts_n) (h0_facts_f := h0_blocks_facts_f) (o_h0_count := u2) (o_h0_facts_f := u3) hc) (wV kw_951 kw_785 kw_786 kw_93 kw_787) (by decide +kernel) ⟨Nat.le_of_ble_eq_true rfl, Nat.le_of_ble_eq_true rfl⟩ hK hP hD hN hT hS (va_free (wc := [(h0_blocks, .inr (1, [.ref h0_blocks_facts, .int h0_blocks_count])), (h0_blocks_facts, .inl (cI, h0_blocks_facts_n, .inl h0_blocks_facts_f))]) hD hS hA [2, 3] rfl) [2, 3] rfl (by decide) rfl rfl rfl hl.1 rfl (lv_room (Nat.le_of_ble_eq_true rfl)) dX6_openRaw_26 ⟨Nat.le_of_ble_eq_true rfl, Nat.le_of_ble_eq_true rfl⟩) hP hD hS hA (wr := [(h0, .inr (5, [.ref h0_input, w_h0_words, w_h0_settings, .ref h0_to, .ref h0_blocks, .int h0_broken, .int h0_brokenAt, .int h0_at, w_h0_end, w_h0_begin, w_h0_copies, w_h0_literals, w_h0_parts, w_h0_frameBegin, w_h0_flags, w_h0_width, w_h0_size])), (h0_to, .inr (2, [.ref h0_to_held, .int h0_to_count])), (h0_input, .inr (2, [.ref h0_input_held, .int h0_input_count])), (h0_to_held, .inl (cB, h0_to_held_n, .inl h0_to_held_f)), (h0_input_held, .inl (cB, h0_input_held_n, .inl h0_input_held_f))]) (w1 := [(h0_blocks, .inr (1, [.ref h0_blocks_facts, .int u2])), (h0_blocks_facts, .inl (cI, h0_blocks_facts_n, .inl u3))]) (ws' := [(h0, .inr (5, [.ref h0_input, w_h0_words, w_h0_settings, .ref h0_to, .ref h0_blocks, .int h0_broken, .int h0_brokenAt, .int h0_at, w_h0_end, w_h0_begin, w_h0_copies, w_h0_literals, w_h0_parts, w_h0_frameBegin, w_h0_flags, w_h0_width, w_h0_size])), (h0_to, .inr (2, [.ref h0_to_held, .int h0_to_count])), (h0_blocks, .inr (1, [.ref h0_blocks_facts, .int u2])), (h0_blocks_facts, .inl (cI, h0_blocks_facts_n, .inl u3)), (h0_input, .inr (2, [.ref h0_input_held, .int h0_input_count])), (h0_to_held, .inl (cB, h0_to_held_n, .inl h0_to_held_f)), (h0_input_held, .inl (cB, h0_input_held_n, .inl h0_input_held_f))]) [2, 3] [0, 1, 4, 5, 6] [0, 1, 5, 6, 2, 3, 4] rfl rfl (by decide) (by decide) rfl (by decide) (fun H locs hP hD hS => ?_)
    refine lv_aload_n hx hb dX6_openRaw_29 rfl (lv_at hl 0 rfl) ?_
    refine va_get (D := (dC, dI)) (ci := 5) (v := .ref h0_to) (C := RX6) (T := TX6) (N := 17) hx hb hts inG_X6 hown hK hP 0 rfl rfl 3 (by decide) (hts _ kw_292) (fun _ h9 => h9) rfl dX6_openRaw_30 ?_
    refine lv_aload_n hx hb dX6_openRaw_33 rfl (lv_at hl 0 rfl) ?_
    refine va_get (D := (dC, dI)) (ci := 5) (v := .ref h0_input) (C := RX6) (T := TX6) (N := 17) hx hb hts inG_X6 hown hK hP 0 rfl rfl 0 (by decide) (hts _ kw_289) (fun _ h9 => h9) rfl dX6_openRaw_34 ?_
    refine lv_aload_n hx hb dX6_openRaw_37 rfl (lv_at hl 0 rfl) ?_
    refine va_get (D := (dC, dI)) (ci := 5) (v := .int h0_at) (C := RX6) (T := TX6) (N := 17) hx hb hts inG_X6 hown hK hP 0 rfl rfl 7 (by decide) (hts _ kw_296) (fun _ h9 => h9) rfl dX6_openRaw_38 ?_
    refine lv_iload_n hx hb dX6_openRaw_41 rfl (lv_at hl 1 rfl) ?_
    obtain ⟨x, hc, hf⟩ := bind_some hf
    obtain ⟨u4, u5⟩ := x
    dsimp only at hf
    refine nx_v (rn_V (As := [.ref h0_input, .int h0_at, .int a1]) (rest := []) (n := 3) (ci := 2) (q0 := 0) ⟨hx, hb, hml, hown, hts⟩ (c_Bytes_addRange (l := l) (dC := dC) (dI := dI) (cB := cB) (cI := cI) (h0 := h0_to) (h1 := h0_input) (a2 := h0_at) (a3 := a1) (h0_held := h0_to_held) (h1_held := h0_input_held) (h0_count := h0_to_count) (h1_count := h0_input_count) (h0_held_n := h0_to_held_n) (h0_held_f := h0_to_held_f) (h1_held_n := h0_input_held_n) (h1_held_f := h0_input_held_f) (o_h0_count := u4) (o_h0_held_f := u5) hc) (wV kw_880 kw_431 kw_432 kw_83 kw_433) (by decide +kernel) ⟨Nat.le_of_ble_eq_true rfl, Nat.le_of_ble_eq_true rfl⟩ hK hP hD hN hT hS (va_free (wc := [(h0_to, .inr (2, [.ref h0_to_held, .int h0_to_count])), (h0_input, .inr (2, [.ref h0_input_held, .int h0_input_count])), (h0_to_held, .inl (cB, h0_to_held_n, .inl h0_to_held_f)), (h0_input_held, .inl (cB, h0_input_held_n, .inl h0_input_held_f))]) hD hS hA [1, 4, 5, 6] rfl) [1, 4, 5, 6] rfl (by decide) rfl rfl rfl hl.1 rfl (lv_room (Nat.le_of_ble_eq_true rfl)) dX6_openRaw_42 ⟨Nat.le_of_ble_eq_true rfl, Nat.le_of_ble_eq_true rfl⟩) hP hD hS hA (wr := [(h0, .inr (5, [.ref h0_input, w_h0_words, w_h0_settings, .ref h0_to, .ref h0_blocks, .int h0_broken, .int h0_brokenAt, .int h0_at, w_h0_end, w_h0_begin, w_h0_copies, w_h0_literals, w_h0_parts, w_h0_frameBegin, w_h0_flags, w_h0_width, w_h0_size])), (h0_blocks, .inr (1, [.ref h0_blocks_facts, .int u2])), (h0_blocks_facts, .inl (cI, h0_blocks_facts_n, .inl u3))]) (w1 := [(h0_to, .inr (2, [.ref h0_to_held, .int u4])), (h0_input, .inr (2, [.ref h0_input_held, .int h0_input_count])), (h0_to_held, .inl (cB, h0_to_held_n, .inl u5)), (h0_input_held, .inl (cB, h0_input_held_n, .inl h0_input_held_f))]) (ws' := [(h0, .inr (5, [.ref h0_input, w_h0_words, w_h0_settings, .ref h0_to, .ref h0_blocks, .int h0_broken, .int h0_brokenAt, .int h0_at, w_h0_end, w_h0_begin, w_h0_copies, w_h0_literals, w_h0_parts, w_h0_frameBegin, w_h0_flags, w_h0_width, w_h0_size])), (h0_to, .inr (2, [.ref h0_to_held, .int u4])), (h0_blocks, .inr (1, [.ref h0_blocks_facts, .int u2])), (h0_blocks_facts, .inl (cI, h0_blocks_facts_n, .inl u3)), (h0_input, .inr (2, [.ref h0_input_held, .int h0_input_count])), (h0_to_held, .inl (cB, h0_to_held_n, .inl u5)), (h0_input_held, .inl (cB, h0_input_held_n, .inl h0_input_held_f))]) [1, 4, 5, 6] [0, 2, 3] [0, 3, 1, 2, 4, 5, 6] rfl rfl (by decide) (by decide) rfl (by decide) (fun H locs hP hD hS => ?_)
    refine lv_aload_n hx hb dX6_openRaw_45 rfl (lv_at hl 0 rfl) ?_
    refine lv_dup hx hb dX6_openRaw_46 rfl ?_
    refine va_get (D := (dC, dI)) (ci := 5) (v := .int h0_at) (C := RX6) (T := TX6) (N := 17) hx hb hts inG_X6 hown hK hP 0 rfl rfl 7 (by decide) (hts _ kw_296) (fun _ h9 => h9) rfl dX6_openRaw_47 ?_
    refine lv_iload_n hx hb dX6_openRaw_50 rfl (lv_at hl 1 rfl) ?_
    refine lv_iadd hx hb dX6_openRaw_51 ?_
    refine lv_topi (fun p_6 e_p_6 => ?_)
    replace hf := bnd_at e_p_6 hf
    refine va_put (D := (dC, dI)) (ci := 5) (v := .int p_6) (ty := .int) (C := RX6) (T := TX6) (N := 17) hx hb hts inG_X6 tyX6 tyX6_ok nmX6 hown hK hP hD hS 0 rfl rfl 7 (by decide) (hts _ kw_296) (fun _ h9 => h9) rfl (by decide +kernel) rfl rfl (Nat.le_of_ble_eq_true rfl) dX6_openRaw_52 (fun H locs hP hD hS => ?_)
    have hP : va_P (dC, dI) vwCl [(h0, .inr (5, [.ref h0_input, w_h0_words, w_h0_settings, .ref h0_to, .ref h0_blocks, .int h0_broken, .int h0_brokenAt, .int p_6, w_h0_end, w_h0_begin, w_h0_copies, w_h0_literals, w_h0_parts, w_h0_frameBegin, w_h0_flags, w_h0_width, w_h0_size])), (h0_to, .inr (2, [.ref h0_to_held, .int u4])), (h0_blocks, .inr (1, [.ref h0_blocks_facts, .int u2])), (h0_blocks_facts, .inl (cI, h0_blocks_facts_n, .inl u3)), (h0_input, .inr (2, [.ref h0_input_held, .int h0_input_count])), (h0_to_held, .inl (cB, h0_to_held_n, .inl u5)), (h0_input_held, .inl (cB, h0_input_held_n, .inl h0_input_held_f))] H := hP
    have hD : va_D A [(h0, .inr (5, [.ref h0_input, w_h0_words, w_h0_settings, .ref h0_to, .ref h0_blocks, .int h0_broken, .int h0_brokenAt, .int p_6, w_h0_end, w_h0_begin, w_h0_copies, w_h0_literals, w_h0_parts, w_h0_frameBegin, w_h0_flags, w_h0_width, w_h0_size])), (h0_to, .inr (2, [.ref h0_to_held, .int u4])), (h0_blocks, .inr (1, [.ref h0_blocks_facts, .int u2])), (h0_blocks_facts, .inl (cI, h0_blocks_facts_n, .inl u3)), (h0_input, .inr (2, [.ref h0_input_held, .int h0_input_count])), (h0_to_held, .inl (cB, h0_to_held_n, .inl u5)), (h0_input_held, .inl (cB, h0_input_held_n, .inl h0_input_held_f))] := hD
    refine lv_iconst (v := 1) hx hb dX6_openRaw_55 (by decide) ?_
    have hzb : narrow .boolean (.int (1 : Int32)) = .int (1 : Int32) := rfl
    obtain ⟨rfl, hq_1⟩ := Prod.mk.inj (Option.some.inj hf)
    obtain ⟨rfl, hq_2⟩ := Prod.mk.inj hq_1
    obtain ⟨rfl, hq_3⟩ := Prod.mk.inj hq_2
    obtain ⟨rfl, hq_4⟩ := Prod.mk.inj hq_3
    obtain ⟨rfl, hq_5⟩ := Prod.mk.inj hq_4
    obtain ⟨rfl, hq_6⟩ := Prod.mk.inj hq_5
    obtain ⟨rfl, hq_7⟩ := Prod.mk.inj hq_6
    obtain rfl := hq_7
    exact rt_z hQ hx hb hr hzb hlocks hP hD hS dX6_openRaw_56
  · replace hf := if_f c_6 hf
    refine lv_aload_n hx hb dX6_openRaw_9 rfl (lv_at hl 0 rfl) ?_
    refine lv_bipush (v := 12) hx hb dX6_openRaw_10 (by decide) ?_
    refine lv_iload_n hx hb dX6_openRaw_12 rfl (lv_at hl 2 rfl) ?_
    obtain ⟨x, hc, hf⟩ := bind_some hf
    obtain ⟨r7, u8, u9⟩ := x
    dsimp only at hf
    refine nx_i (rn_V (As := [.int (12 : Int32), .int a2]) (rest := []) (n := 2) (ci := 5) (q0 := 0) ⟨hx, hb, hml, hown, hts⟩ (c_Opener_breaks (l := l) (dC := dC) (dI := dI) (cB := cB) (cI := cI) (h0 := h0) (a1 := (12 : Int32)) (a2 := a2) (w_h0_input := (.ref h0_input)) (w_h0_words := (w_h0_words)) (w_h0_settings := (w_h0_settings)) (w_h0_to := (.ref h0_to)) (w_h0_blocks := (.ref h0_blocks)) (h0_broken := h0_broken) (h0_brokenAt := h0_brokenAt) (w_h0_at := (.int h0_at)) (w_h0_end := (w_h0_end)) (w_h0_begin := (w_h0_begin)) (w_h0_copies := (w_h0_copies)) (w_h0_literals := (w_h0_literals)) (w_h0_parts := (w_h0_parts)) (w_h0_frameBegin := (w_h0_frameBegin)) (w_h0_flags := (w_h0_flags)) (w_h0_width := (w_h0_width)) (w_h0_size := (w_h0_size)) (o_h0_broken := u8) (o_h0_brokenAt := u9) (o_r := r7) hc) (wV kw_871 kw_873 kw_26 kw_92 kw_874) (by decide +kernel) ⟨Nat.le_of_ble_eq_true rfl, Nat.le_of_ble_eq_true rfl⟩ hK hP hD hN hT hS (va_free (wc := [(h0, .inr (5, [.ref h0_input, w_h0_words, w_h0_settings, .ref h0_to, .ref h0_blocks, .int h0_broken, .int h0_brokenAt, .int h0_at, w_h0_end, w_h0_begin, w_h0_copies, w_h0_literals, w_h0_parts, w_h0_frameBegin, w_h0_flags, w_h0_width, w_h0_size]))]) hD hS hA [0] rfl) [0] rfl (by decide) rfl rfl rfl hl.1 rfl (lv_room (Nat.le_of_ble_eq_true rfl)) dX6_openRaw_13 ⟨Nat.le_of_ble_eq_true rfl, Nat.le_of_ble_eq_true rfl⟩) hP hD hS hA (wr := [(h0_to, .inr (2, [.ref h0_to_held, .int h0_to_count])), (h0_blocks, .inr (1, [.ref h0_blocks_facts, .int h0_blocks_count])), (h0_blocks_facts, .inl (cI, h0_blocks_facts_n, .inl h0_blocks_facts_f)), (h0_input, .inr (2, [.ref h0_input_held, .int h0_input_count])), (h0_to_held, .inl (cB, h0_to_held_n, .inl h0_to_held_f)), (h0_input_held, .inl (cB, h0_input_held_n, .inl h0_input_held_f))]) (w1 := [(h0, .inr (5, [.ref h0_input, w_h0_words, w_h0_settings, .ref h0_to, .ref h0_blocks, .int u8, .int u9, .int h0_at, w_h0_end, w_h0_begin, w_h0_copies, w_h0_literals, w_h0_parts, w_h0_frameBegin, w_h0_flags, w_h0_width, w_h0_size]))]) (ws' := [(h0, .inr (5, [.ref h0_input, w_h0_words, w_h0_settings, .ref h0_to, .ref h0_blocks, .int u8, .int u9, .int h0_at, w_h0_end, w_h0_begin, w_h0_copies, w_h0_literals, w_h0_parts, w_h0_frameBegin, w_h0_flags, w_h0_width, w_h0_size])), (h0_to, .inr (2, [.ref h0_to_held, .int h0_to_count])), (h0_blocks, .inr (1, [.ref h0_blocks_facts, .int h0_blocks_count])), (h0_blocks_facts, .inl (cI, h0_blocks_facts_n, .inl h0_blocks_facts_f)), (h0_input, .inr (2, [.ref h0_input_held, .int h0_input_count])), (h0_to_held, .inl (cB, h0_to_held_n, .inl h0_to_held_f)), (h0_input_held, .inl (cB, h0_input_held_n, .inl h0_input_held_f))]) [0] [1, 2, 3, 4, 5, 6] [6, 0, 1, 2, 3, 4, 5] rfl rfl (by decide) (by decide) rfl (by decide) (fun H locs hP hD hS => ?_)
    obtain ⟨hzb, hf⟩ := bch_some hf
    obtain ⟨rfl, hq_1⟩ := Prod.mk.inj (Option.some.inj hf)
    obtain ⟨rfl, hq_2⟩ := Prod.mk.inj hq_1
    obtain ⟨rfl, hq_3⟩ := Prod.mk.inj hq_2
    obtain ⟨rfl, hq_4⟩ := Prod.mk.inj hq_3
    obtain ⟨rfl, hq_5⟩ := Prod.mk.inj hq_4
    obtain ⟨rfl, hq_6⟩ := Prod.mk.inj hq_5
    obtain ⟨rfl, hq_7⟩ := Prod.mk.inj hq_6
    obtain rfl := hq_7
    exact rt_z hQ hx hb hr hzb hlocks hP hD hS dX6_openRaw_16

theorem dX6_openFrameBlock_0 : decode cX6_openFrameBlock 0 = .ok (.aload_n 0, 1) := by decide +kernel
theorem dX6_openFrameBlock_1 : decode cX6_openFrameBlock 1 = .ok (.getfield 47, 3) := by decide +kernel
theorem dX6_openFrameBlock_4 : decode cX6_openFrameBlock 4 = .ok (.istore_n 1, 1) := by decide +kernel
theorem dX6_openFrameBlock_5 : decode cX6_openFrameBlock 5 = .ok (.aload_n 0, 1) := by decide +kernel
theorem dX6_openFrameBlock_6 : decode cX6_openFrameBlock 6 = .ok (.getfield 9, 3) := by decide +kernel
theorem dX6_openFrameBlock_9 : decode cX6_openFrameBlock 9 = .ok (.iload_n 1, 1) := by decide +kernel
theorem dX6_openFrameBlock_10 : decode cX6_openFrameBlock 10 = .ok (.iconst 4, 1) := by decide +kernel
theorem dX6_openFrameBlock_11 : decode cX6_openFrameBlock 11 = .ok (.invokevirtual 117, 3) := by decide +kernel
theorem dX6_openFrameBlock_14 : decode cX6_openFrameBlock 14 = .ok (.lstore_n 2, 1) := by decide +kernel
theorem dX6_openFrameBlock_15 : decode cX6_openFrameBlock 15 = .ok (.lload_n 2, 1) := by decide +kernel
theorem dX6_openFrameBlock_16 : decode cX6_openFrameBlock 16 = .ok (.ldc2_w 186, 3) := by decide +kernel
theorem dX6_openFrameBlock_19 : decode cX6_openFrameBlock 19 = .ok (.lrem, 1) := by decide +kernel
theorem dX6_openFrameBlock_20 : decode cX6_openFrameBlock 20 = .ok (.l2i, 1) := by decide +kernel
theorem dX6_openFrameBlock_21 : decode cX6_openFrameBlock 21 = .ok (.istore 4, 2) := by decide +kernel
theorem dX6_openFrameBlock_23 : decode cX6_openFrameBlock 23 = .ok (.iload 4, 2) := by decide +kernel
theorem dX6_openFrameBlock_25 : decode cX6_openFrameBlock 25 = .ok (.iconst 1, 1) := by decide +kernel
theorem dX6_openFrameBlock_26 : decode cX6_openFrameBlock 26 = .ok (.bipush 8, 2) := by decide +kernel
theorem dX6_openFrameBlock_28 : decode cX6_openFrameBlock 28 = .ok (.iconst 2, 1) := by decide +kernel
theorem dX6_openFrameBlock_29 : decode cX6_openFrameBlock 29 = .ok (.aload_n 0, 1) := by decide +kernel
theorem dX6_openFrameBlock_30 : decode cX6_openFrameBlock 30 = .ok (.getfield 168, 3) := by decide +kernel
theorem dX6_openFrameBlock_33 : decode cX6_openFrameBlock 33 = .ok (.imul, 1) := by decide +kernel
theorem dX6_openFrameBlock_34 : decode cX6_openFrameBlock 34 = .ok (.iadd, 1) := by decide +kernel
theorem dX6_openFrameBlock_35 : decode cX6_openFrameBlock 35 = .ok (.ishl, 1) := by decide +kernel
theorem dX6_openFrameBlock_36 : decode cX6_openFrameBlock 36 = .ok (.if_icmp .le 11, 3) := by decide +kernel
theorem dX6_openFrameBlock_39 : decode cX6_openFrameBlock 39 = .ok (.aload_n 0, 1) := by decide +kernel
theorem dX6_openFrameBlock_40 : decode cX6_openFrameBlock 40 = .ok (.bipush 7, 2) := by decide +kernel
theorem dX6_openFrameBlock_42 : decode cX6_openFrameBlock 42 = .ok (.iload_n 1, 1) := by decide +kernel
theorem dX6_openFrameBlock_43 : decode cX6_openFrameBlock 43 = .ok (.invokevirtual 98, 3) := by decide +kernel
theorem dX6_openFrameBlock_46 : decode cX6_openFrameBlock 46 = .ok (.ireturn, 1) := by decide +kernel
theorem dX6_openFrameBlock_47 : decode cX6_openFrameBlock 47 = .ok (.aload_n 0, 1) := by decide +kernel
theorem dX6_openFrameBlock_48 : decode cX6_openFrameBlock 48 = .ok (.dup, 1) := by decide +kernel
theorem dX6_openFrameBlock_49 : decode cX6_openFrameBlock 49 = .ok (.getfield 47, 3) := by decide +kernel
theorem dX6_openFrameBlock_52 : decode cX6_openFrameBlock 52 = .ok (.iconst 4, 1) := by decide +kernel
theorem dX6_openFrameBlock_53 : decode cX6_openFrameBlock 53 = .ok (.iadd, 1) := by decide +kernel
theorem dX6_openFrameBlock_54 : decode cX6_openFrameBlock 54 = .ok (.putfield 47, 3) := by decide +kernel
theorem dX6_openFrameBlock_57 : decode cX6_openFrameBlock 57 = .ok (.aload_n 0, 1) := by decide +kernel
theorem dX6_openFrameBlock_58 : decode cX6_openFrameBlock 58 = .ok (.bipush 16, 2) := by decide +kernel
theorem dX6_openFrameBlock_60 : decode cX6_openFrameBlock 60 = .ok (.invokevirtual 165, 3) := by decide +kernel
theorem dX6_openFrameBlock_63 : decode cX6_openFrameBlock 63 = .ok (.ifCond .eq 7, 3) := by decide +kernel
theorem dX6_openFrameBlock_66 : decode cX6_openFrameBlock 66 = .ok (.iconst 4, 1) := by decide +kernel
theorem dX6_openFrameBlock_67 : decode cX6_openFrameBlock 67 = .ok (.goto 4, 3) := by decide +kernel
theorem dX6_openFrameBlock_70 : decode cX6_openFrameBlock 70 = .ok (.iconst 0, 1) := by decide +kernel
theorem dX6_openFrameBlock_71 : decode cX6_openFrameBlock 71 = .ok (.istore 5, 2) := by decide +kernel
theorem dX6_openFrameBlock_73 : decode cX6_openFrameBlock 73 = .ok (.aload_n 0, 1) := by decide +kernel
theorem dX6_openFrameBlock_74 : decode cX6_openFrameBlock 74 = .ok (.iload 4, 2) := by decide +kernel
theorem dX6_openFrameBlock_76 : decode cX6_openFrameBlock 76 = .ok (.iload 5, 2) := by decide +kernel
theorem dX6_openFrameBlock_78 : decode cX6_openFrameBlock 78 = .ok (.iadd, 1) := by decide +kernel
theorem dX6_openFrameBlock_79 : decode cX6_openFrameBlock 79 = .ok (.invokevirtual 95, 3) := by decide +kernel
theorem dX6_openFrameBlock_82 : decode cX6_openFrameBlock 82 = .ok (.ifCond .eq 13, 3) := by decide +kernel
theorem dX6_openFrameBlock_85 : decode cX6_openFrameBlock 85 = .ok (.aload_n 0, 1) := by decide +kernel
theorem dX6_openFrameBlock_86 : decode cX6_openFrameBlock 86 = .ok (.iconst 1, 1) := by decide +kernel
theorem dX6_openFrameBlock_87 : decode cX6_openFrameBlock 87 = .ok (.aload_n 0, 1) := by decide +kernel
theorem dX6_openFrameBlock_88 : decode cX6_openFrameBlock 88 = .ok (.getfield 54, 3) := by decide +kernel
theorem dX6_openFrameBlock_91 : decode cX6_openFrameBlock 91 = .ok (.invokevirtual 98, 3) := by decide +kernel
theorem dX6_openFrameBlock_94 : decode cX6_openFrameBlock 94 = .ok (.ireturn, 1) := by decide +kernel
theorem dX6_openFrameBlock_95 : decode cX6_openFrameBlock 95 = .ok (.aload_n 0, 1) := by decide +kernel
theorem dX6_openFrameBlock_96 : decode cX6_openFrameBlock 96 = .ok (.getfield 47, 3) := by decide +kernel
theorem dX6_openFrameBlock_99 : decode cX6_openFrameBlock 99 = .ok (.iload 4, 2) := by decide +kernel
theorem dX6_openFrameBlock_101 : decode cX6_openFrameBlock 101 = .ok (.iadd, 1) := by decide +kernel
theorem dX6_openFrameBlock_102 : decode cX6_openFrameBlock 102 = .ok (.istore 6, 2) := by decide +kernel
theorem dX6_openFrameBlock_104 : decode cX6_openFrameBlock 104 = .ok (.iload 5, 2) := by decide +kernel
theorem dX6_openFrameBlock_106 : decode cX6_openFrameBlock 106 = .ok (.ifCond .le 37, 3) := by decide +kernel
theorem dX6_openFrameBlock_109 : decode cX6_openFrameBlock 109 = .ok (.aload_n 0, 1) := by decide +kernel
theorem dX6_openFrameBlock_110 : decode cX6_openFrameBlock 110 = .ok (.getfield 9, 3) := by decide +kernel
theorem dX6_openFrameBlock_113 : decode cX6_openFrameBlock 113 = .ok (.iload 6, 2) := by decide +kernel
theorem dX6_openFrameBlock_115 : decode cX6_openFrameBlock 115 = .ok (.invokevirtual 183, 3) := by decide +kernel
theorem dX6_openFrameBlock_118 : decode cX6_openFrameBlock 118 = .ok (.aload_n 0, 1) := by decide +kernel
theorem dX6_openFrameBlock_119 : decode cX6_openFrameBlock 119 = .ok (.getfield 9, 3) := by decide +kernel
theorem dX6_openFrameBlock_122 : decode cX6_openFrameBlock 122 = .ok (.aload_n 0, 1) := by decide +kernel
theorem dX6_openFrameBlock_123 : decode cX6_openFrameBlock 123 = .ok (.getfield 47, 3) := by decide +kernel
theorem dX6_openFrameBlock_126 : decode cX6_openFrameBlock 126 = .ok (.iload 4, 2) := by decide +kernel
theorem dX6_openFrameBlock_128 : decode cX6_openFrameBlock 128 = .ok (.invokestatic 177, 3) := by decide +kernel
theorem dX6_openFrameBlock_131 : decode cX6_openFrameBlock 131 = .ok (.if_icmp .eq 12, 3) := by decide +kernel
theorem dX6_openFrameBlock_134 : decode cX6_openFrameBlock 134 = .ok (.aload_n 0, 1) := by decide +kernel
theorem dX6_openFrameBlock_135 : decode cX6_openFrameBlock 135 = .ok (.bipush 8, 2) := by decide +kernel
theorem dX6_openFrameBlock_137 : decode cX6_openFrameBlock 137 = .ok (.iload 6, 2) := by decide +kernel
theorem dX6_openFrameBlock_139 : decode cX6_openFrameBlock 139 = .ok (.invokevirtual 98, 3) := by decide +kernel
theorem dX6_openFrameBlock_142 : decode cX6_openFrameBlock 142 = .ok (.ireturn, 1) := by decide +kernel
theorem dX6_openFrameBlock_143 : decode cX6_openFrameBlock 143 = .ok (.lload_n 2, 1) := by decide +kernel
theorem dX6_openFrameBlock_144 : decode cX6_openFrameBlock 144 = .ok (.ldc2_w 186, 3) := by decide +kernel
theorem dX6_openFrameBlock_147 : decode cX6_openFrameBlock 147 = .ok (.lcmp, 1) := by decide +kernel
theorem dX6_openFrameBlock_148 : decode cX6_openFrameBlock 148 = .ok (.ifCond .lt 15, 3) := by decide +kernel
theorem dX6_openFrameBlock_151 : decode cX6_openFrameBlock 151 = .ok (.aload_n 0, 1) := by decide +kernel
theorem dX6_openFrameBlock_152 : decode cX6_openFrameBlock 152 = .ok (.iload 4, 2) := by decide +kernel
theorem dX6_openFrameBlock_154 : decode cX6_openFrameBlock 154 = .ok (.iload_n 1, 1) := by decide +kernel
theorem dX6_openFrameBlock_155 : decode cX6_openFrameBlock 155 = .ok (.invokevirtual 188, 3) := by decide +kernel
theorem dX6_openFrameBlock_158 : decode cX6_openFrameBlock 158 = .ok (.ifCond .ne 61, 3) := by decide +kernel
theorem dX6_openFrameBlock_161 : decode cX6_openFrameBlock 161 = .ok (.iconst 0, 1) := by decide +kernel
theorem dX6_openFrameBlock_162 : decode cX6_openFrameBlock 162 = .ok (.ireturn, 1) := by decide +kernel
theorem dX6_openFrameBlock_163 : decode cX6_openFrameBlock 163 = .ok (.aload_n 0, 1) := by decide +kernel
theorem dX6_openFrameBlock_164 : decode cX6_openFrameBlock 164 = .ok (.iload 6, 2) := by decide +kernel
theorem dX6_openFrameBlock_166 : decode cX6_openFrameBlock 166 = .ok (.putfield 54, 3) := by decide +kernel
theorem dX6_openFrameBlock_169 : decode cX6_openFrameBlock 169 = .ok (.aload_n 0, 1) := by decide +kernel
theorem dX6_openFrameBlock_170 : decode cX6_openFrameBlock 170 = .ok (.aload_n 0, 1) := by decide +kernel
theorem dX6_openFrameBlock_171 : decode cX6_openFrameBlock 171 = .ok (.bipush 32, 2) := by decide +kernel
theorem dX6_openFrameBlock_173 : decode cX6_openFrameBlock 173 = .ok (.invokevirtual 165, 3) := by decide +kernel
theorem dX6_openFrameBlock_176 : decode cX6_openFrameBlock 176 = .ok (.ifCond .eq 13, 3) := by decide +kernel
theorem dX6_openFrameBlock_179 : decode cX6_openFrameBlock 179 = .ok (.aload_n 0, 1) := by decide +kernel
theorem dX6_openFrameBlock_180 : decode cX6_openFrameBlock 180 = .ok (.getfield 29, 3) := by decide +kernel
theorem dX6_openFrameBlock_183 : decode cX6_openFrameBlock 183 = .ok (.invokevirtual 50, 3) := by decide +kernel
theorem dX6_openFrameBlock_186 : decode cX6_openFrameBlock 186 = .ok (.goto 7, 3) := by decide +kernel
theorem dX6_openFrameBlock_189 : decode cX6_openFrameBlock 189 = .ok (.aload_n 0, 1) := by decide +kernel
theorem dX6_openFrameBlock_190 : decode cX6_openFrameBlock 190 = .ok (.getfield 150, 3) := by decide +kernel
theorem dX6_openFrameBlock_193 : decode cX6_openFrameBlock 193 = .ok (.invokevirtual 57, 3) := by decide +kernel
theorem dX6_openFrameBlock_196 : decode cX6_openFrameBlock 196 = .ok (.ifCond .ne 5, 3) := by decide +kernel
theorem dX6_openFrameBlock_199 : decode cX6_openFrameBlock 199 = .ok (.iconst 0, 1) := by decide +kernel
theorem dX6_openFrameBlock_200 : decode cX6_openFrameBlock 200 = .ok (.ireturn, 1) := by decide +kernel
theorem dX6_openFrameBlock_201 : decode cX6_openFrameBlock 201 = .ok (.aload_n 0, 1) := by decide +kernel
theorem dX6_openFrameBlock_202 : decode cX6_openFrameBlock 202 = .ok (.aload_n 0, 1) := by decide +kernel
theorem dX6_openFrameBlock_203 : decode cX6_openFrameBlock 203 = .ok (.getfield 9, 3) := by decide +kernel
theorem dX6_openFrameBlock_206 : decode cX6_openFrameBlock 206 = .ok (.invokevirtual 50, 3) := by decide +kernel
theorem dX6_openFrameBlock_209 : decode cX6_openFrameBlock 209 = .ok (.putfield 54, 3) := by decide +kernel
theorem dX6_openFrameBlock_212 : decode cX6_openFrameBlock 212 = .ok (.aload_n 0, 1) := by decide +kernel
theorem dX6_openFrameBlock_213 : decode cX6_openFrameBlock 213 = .ok (.iload_n 1, 1) := by decide +kernel
theorem dX6_openFrameBlock_214 : decode cX6_openFrameBlock 214 = .ok (.iconst 4, 1) := by decide +kernel
theorem dX6_openFrameBlock_215 : decode cX6_openFrameBlock 215 = .ok (.iadd, 1) := by decide +kernel
theorem dX6_openFrameBlock_216 : decode cX6_openFrameBlock 216 = .ok (.invokevirtual 61, 3) := by decide +kernel
theorem dX6_openFrameBlock_219 : decode cX6_openFrameBlock 219 = .ok (.aload_n 0, 1) := by decide +kernel
theorem dX6_openFrameBlock_220 : decode cX6_openFrameBlock 220 = .ok (.dup, 1) := by decide +kernel
theorem dX6_openFrameBlock_221 : decode cX6_openFrameBlock 221 = .ok (.getfield 47, 3) := by decide +kernel
theorem dX6_openFrameBlock_224 : decode cX6_openFrameBlock 224 = .ok (.iload 5, 2) := by decide +kernel
theorem dX6_openFrameBlock_226 : decode cX6_openFrameBlock 226 = .ok (.iadd, 1) := by decide +kernel
theorem dX6_openFrameBlock_227 : decode cX6_openFrameBlock 227 = .ok (.putfield 47, 3) := by decide +kernel
theorem dX6_openFrameBlock_230 : decode cX6_openFrameBlock 230 = .ok (.iconst 1, 1) := by decide +kernel
theorem dX6_openFrameBlock_231 : decode cX6_openFrameBlock 231 = .ok (.ireturn, 1) := by decide +kernel
def m_Opener_openFrameBlock_J219 (s5 : Int32) (f8 : Nat → Int32) (f9 : Nat → Int32) (g10 : Int32) (g11 : Int32) (g12 : Int32) (g13 : Int32) (g14 : Int32) (g15 : Int32) (g16 : Int32) (g17 : Int32) (g18 : Int32) (g19 : Int32) : Option (Int32 × Int32 × Int32 × Int32 × Int32 × Int32 × Int32 × Int32 × Int32 × Int32 × Int32 × (Nat → Int32) × (Nat → Int32)) :=
  bnd (g15 + s5) fun p_20 =>
  some ((1 : Int32), g13, g14, p_20, g16, g17, g10, g11, g12, g18, g19, f8, f9)
def m_Opener_openFrameBlock_J193 (h0_broken : Int32) (h0_brokenAt : Int32) (h0_at : Int32) (h0_input_count : Int32) (h0_input_held_n : Nat) (h0_input_held_f : Nat → Int32) (h0_blocks_count : Int32) (h0_to_count : Int32) (h0_blocks_facts_n : Nat) (h0_blocks_facts_f : Nat → Int32) (h0_to_held_n : Nat) (h0_to_held_f : Nat → Int32) (h0_words_count : Int32) (h0_words_held_n : Nat) (h0_words_held_f : Nat → Int32) (p_3 : Int32) (s5 : Int32) (v6_7 : Int32) (s22 : Int32) : Option (Int32 × Int32 × Int32 × Int32 × Int32 × Int32 × Int32 × Int32 × Int32 × Int32 × Int32 × (Nat → Int32) × (Nat → Int32)) :=
  (m_Opener_openSequences s22 h0_broken h0_brokenAt p_3 v6_7 h0_to_count h0_input_count h0_input_held_n h0_input_held_f h0_to_held_n h0_to_held_f h0_words_count h0_words_held_n h0_words_held_f).bind fun (r23, u24, u25, u26, u27, u28, u29, u30, u31, u32) =>
  if r23 = 0 then
    some ((0 : Int32), u24, u25, u26, v6_7, u27, u28, u29, u30, h0_blocks_count, u31, h0_blocks_facts_f, u32)
  else
    (m_Bytes_size h0_input_count).bind fun r33 =>
    (m_Opener_addPackedBlock (h0_at + (4 : Int32)) u26 u27 u28 u29 u30 u31 h0_blocks_count h0_blocks_facts_n h0_blocks_facts_f).bind fun (u34, u35) =>
    m_Opener_openFrameBlock_J219 s5 u35 u32 u28 u29 u30 u24 u25 u26 r33 u27 u34 u31
def m_Opener_openFrameBlock_J143 (h0_broken : Int32) (h0_brokenAt : Int32) (h0_at : Int32) (h0_end : Int32) (h0_begin : Int32) (h0_copies : Int32) (h0_literals : Int32) (h0_parts : Int32) (h0_frameBegin : Int32) (h0_flags : Int32) (h0_input_count : Int32) (h0_input_held_n : Nat) (h0_input_held_f : Nat → Int32) (h0_blocks_count : Int32) (h0_to_count : Int32) (h0_blocks_facts_n : Nat) (h0_blocks_facts_f : Nat → Int32) (h0_to_held_n : Nat) (h0_to_held_f : Nat → Int32) (h0_words_count : Int32) (h0_words_held_n : Nat) (h0_words_held_f : Nat → Int32) (r1 : Int64) (v4_2 : Int32) (p_3 : Int32) (s5 : Int32) (v6_7 : Int32) : Option (Int32 × Int32 × Int32 × Int32 × Int32 × Int32 × Int32 × Int32 × Int32 × Int32 × Int32 × (Nat → Int32) × (Nat → Int32)) :=
  if (lg_cmp r1 (2147483648 : Int64)) < 0 then
    (m_Opener_isFlag (32 : Int32) h0_flags).bind fun r21 =>
    if r21 = 0 then
      m_Opener_openFrameBlock_J193 h0_broken h0_brokenAt h0_at h0_input_count h0_input_held_n h0_input_held_f h0_blocks_count h0_to_count h0_blocks_facts_n h0_blocks_facts_f h0_to_held_n h0_to_held_f h0_words_count h0_words_held_n h0_words_held_f p_3 s5 v6_7 h0_frameBegin
    else
      (m_Bytes_size h0_to_count).bind fun r36 =>
      m_Opener_openFrameBlock_J193 h0_broken h0_brokenAt h0_at h0_input_count h0_input_held_n h0_input_held_f h0_blocks_count h0_to_count h0_blocks_facts_n h0_blocks_facts_f h0_to_held_n h0_to_held_f h0_words_count h0_words_held_n h0_words_held_f p_3 s5 v6_7 r36
  else
    (m_Opener_openRaw v4_2 h0_at h0_broken h0_brokenAt p_3 h0_to_count h0_blocks_count h0_blocks_facts_n h0_blocks_facts_f h0_input_count h0_to_held_n h0_to_held_f h0_input_held_n h0_input_held_f).bind fun (r37, u38, u39, u40, u41, u42, u43, u44) =>
    if r37 = 0 then
      some ((0 : Int32), u38, u39, u40, h0_end, h0_begin, h0_copies, h0_literals, h0_parts, u42, u41, u43, u44)
    else
      m_Opener_openFrameBlock_J219 s5 u43 u44 h0_copies h0_literals h0_parts u38 u39 u40 h0_end h0_begin u42 u41
def m_Opener_openFrameBlock_J71 (h0_broken : Int32) (h0_brokenAt : Int32) (h0_at : Int32) (h0_end : Int32) (h0_begin : Int32) (h0_copies : Int32) (h0_literals : Int32) (h0_parts : Int32) (h0_frameBegin : Int32) (h0_flags : Int32) (h0_input_count : Int32) (h0_input_held_n : Nat) (h0_input_held_f : Nat → Int32) (h0_blocks_count : Int32) (h0_to_count : Int32) (h0_blocks_facts_n : Nat) (h0_blocks_facts_f : Nat → Int32) (h0_to_held_n : Nat) (h0_to_held_f : Nat → Int32) (h0_words_count : Int32) (h0_words_held_n : Nat) (h0_words_held_f : Nat → Int32) (r1 : Int64) (v4_2 : Int32) (p_3 : Int32) (s5 : Int32) : Option (Int32 × Int32 × Int32 × Int32 × Int32 × Int32 × Int32 × Int32 × Int32 × Int32 × Int32 × (Nat → Int32) × (Nat → Int32)) :=
  (m_Opener_lacks (v4_2 + s5) p_3 h0_end).bind fun r6 =>
  if r6 = 0 then
    bnd (p_3 + v4_2) fun v6_7 =>
    if s5 ≤ 0 then
      m_Opener_openFrameBlock_J143 h0_broken h0_brokenAt h0_at h0_end h0_begin h0_copies h0_literals h0_parts h0_frameBegin h0_flags h0_input_count h0_input_held_n h0_input_held_f h0_blocks_count h0_to_count h0_blocks_facts_n h0_blocks_facts_f h0_to_held_n h0_to_held_f h0_words_count h0_words_held_n h0_words_held_f r1 v4_2 p_3 s5 v6_7
    else
      (m_Bytes_number32 v6_7 h0_input_count h0_input_held_n h0_input_held_f).bind fun r45 =>
      (m_Sums_sumOf p_3 v4_2 h0_input_count h0_input_held_n h0_input_held_f).bind fun r46 =>
      if r45 = r46 then
        m_Opener_openFrameBlock_J143 h0_broken h0_brokenAt h0_at h0_end h0_begin h0_copies h0_literals h0_parts h0_frameBegin h0_flags h0_input_count h0_input_held_n h0_input_held_f h0_blocks_count h0_to_count h0_blocks_facts_n h0_blocks_facts_f h0_to_held_n h0_to_held_f h0_words_count h0_words_held_n h0_words_held_f r1 v4_2 p_3 s5 v6_7
      else
        (m_Opener_breaks (8 : Int32) v6_7).bind fun (r47, u48, u49) =>
        bch r47 <|
        some (r47, u48, u49, p_3, h0_end, h0_begin, h0_copies, h0_literals, h0_parts, h0_blocks_count, h0_to_count, h0_blocks_facts_f, h0_to_held_f)
  else
    (m_Opener_breaks (1 : Int32) h0_end).bind fun (r50, u51, u52) =>
    bch r50 <|
    some (r50, u51, u52, p_3, h0_end, h0_begin, h0_copies, h0_literals, h0_parts, h0_blocks_count, h0_to_count, h0_blocks_facts_f, h0_to_held_f)
def m_Opener_openFrameBlock (h0_broken : Int32) (h0_brokenAt : Int32) (h0_at : Int32) (h0_end : Int32) (h0_begin : Int32) (h0_copies : Int32) (h0_literals : Int32) (h0_parts : Int32) (h0_frameBegin : Int32) (h0_flags : Int32) (h0_width : Int32) (h0_input_count : Int32) (h0_input_held_n : Nat) (h0_input_held_f : Nat → Int32) (h0_blocks_count : Int32) (h0_to_count : Int32) (h0_blocks_facts_n : Nat) (h0_blocks_facts_f : Nat → Int32) (h0_to_held_n : Nat) (h0_to_held_f : Nat → Int32) (h0_words_count : Int32) (h0_words_held_n : Nat) (h0_words_held_f : Nat → Int32) : Option (Int32 × Int32 × Int32 × Int32 × Int32 × Int32 × Int32 × Int32 × Int32 × Int32 × Int32 × (Nat → Int32) × (Nat → Int32)) :=
  (m_Bytes_number h0_at (4 : Int32) h0_input_count h0_input_held_n h0_input_held_f).bind fun r1 =>
  bnd ((lrem r1 (2147483648 : Int64)).toInt32) fun v4_2 =>
  if v4_2 ≤ (ishl (1 : Int32) ((8 : Int32) + ((2 : Int32) * h0_width))) then
    bnd (h0_at + (4 : Int32)) fun p_3 =>
    (m_Opener_isFlag (16 : Int32) h0_flags).bind fun r4 =>
    if r4 = 0 then
      m_Opener_openFrameBlock_J71 h0_broken h0_brokenAt h0_at h0_end h0_begin h0_copies h0_literals h0_parts h0_frameBegin h0_flags h0_input_count h0_input_held_n h0_input_held_f h0_blocks_count h0_to_count h0_blocks_facts_n h0_blocks_facts_f h0_to_held_n h0_to_held_f h0_words_count h0_words_held_n h0_words_held_f r1 v4_2 p_3 (0 : Int32)
    else
      m_Opener_openFrameBlock_J71 h0_broken h0_brokenAt h0_at h0_end h0_begin h0_copies h0_literals h0_parts h0_frameBegin h0_flags h0_input_count h0_input_held_n h0_input_held_f h0_blocks_count h0_to_count h0_blocks_facts_n h0_blocks_facts_f h0_to_held_n h0_to_held_f h0_words_count h0_words_held_n h0_words_held_f r1 v4_2 p_3 (4 : Int32)
  else
    (m_Opener_breaks (7 : Int32) h0_at).bind fun (r53, u54, u55) =>
    bch r53 <|
    some (r53, u54, u55, h0_at, h0_end, h0_begin, h0_copies, h0_literals, h0_parts, h0_blocks_count, h0_to_count, h0_blocks_facts_f, h0_to_held_f)
def rm_Opener_openFrameBlock : Room := { frames := 5, cells := 0, slots := 0, locals := 139 }
set_option maxHeartbeats 4000000 in
set_option maxRecDepth 100000 in
theorem c_Opener_openFrameBlock {l : Launch} {dC : Nat → ClassId} {dI : Nat → Nat → Nat} {cB cI : ClassId} {sz : Nat} {h0 : Nat} {h0_input : Nat} {h0_input_held : Nat} {h0_blocks : Nat} {h0_to : Nat} {h0_blocks_facts : Nat} {h0_to_held : Nat} {h0_words : Nat} {h0_words_held : Nat} {w_h0_settings : Value} {h0_broken : Int32} {h0_brokenAt : Int32} {h0_at : Int32} {h0_end : Int32} {h0_begin : Int32} {h0_copies : Int32} {h0_literals : Int32} {h0_parts : Int32} {h0_frameBegin : Int32} {h0_flags : Int32} {h0_width : Int32} {w_h0_size : Value} {h0_input_count : Int32} {h0_input_held_n : Nat} {h0_input_held_f : Nat → Int32} {h0_blocks_count : Int32} {h0_to_count : Int32} {h0_blocks_facts_n : Nat} {h0_blocks_facts_f : Nat → Int32} {h0_to_held_n : Nat} {h0_to_held_f : Nat → Int32} {h0_words_count : Int32} {h0_words_held_n : Nat} {h0_words_held_f : Nat → Int32} {o_r : Int32} {o_h0_broken : Int32} {o_h0_brokenAt : Int32} {o_h0_at : Int32} {o_h0_end : Int32} {o_h0_begin : Int32} {o_h0_copies : Int32} {o_h0_literals : Int32} {o_h0_parts : Int32} {o_h0_blocks_count : Int32} {o_h0_to_count : Int32} {o_h0_blocks_facts_f : Nat → Int32} {o_h0_to_held_f : Nat → Int32} (hf : m_Opener_openFrameBlock h0_broken h0_brokenAt h0_at h0_end h0_begin h0_copies h0_literals h0_parts h0_frameBegin h0_flags h0_width h0_input_count h0_input_held_n h0_input_held_f h0_blocks_count h0_to_count h0_blocks_facts_n h0_blocks_facts_f h0_to_held_n h0_to_held_f h0_words_count h0_words_held_n h0_words_held_f = some (o_r, o_h0_broken, o_h0_brokenAt, o_h0_at, o_h0_end, o_h0_begin, o_h0_copies, o_h0_literals, o_h0_parts, o_h0_blocks_count, o_h0_to_count, o_h0_blocks_facts_f, o_h0_to_held_f)) : Met l yX6_openFrameBlock (Cond.code yX6_openFrameBlock cX6_openFrameBlock 7 (some .boolean) :: lw_G) rm_Opener_openFrameBlock (PreC (dC, dI) [(cB, .byte), (cI, .int)] [.ref h0] sz [(h0, .inr (5, [.ref h0_input, .ref h0_words, w_h0_settings, .ref h0_to, .ref h0_blocks, .int h0_broken, .int h0_brokenAt, .int h0_at, .int h0_end, .int h0_begin, .int h0_copies, .int h0_literals, .int h0_parts, .int h0_frameBegin, .int h0_flags, .int h0_width, w_h0_size])), (h0_input, .inr (2, [.ref h0_input_held, .int h0_input_count])), (h0_input_held, .inl (cB, h0_input_held_n, .inl h0_input_held_f)), (h0_blocks, .inr (1, [.ref h0_blocks_facts, .int h0_blocks_count])), (h0_to, .inr (2, [.ref h0_to_held, .int h0_to_count])), (h0_blocks_facts, .inl (cI, h0_blocks_facts_n, .inl h0_blocks_facts_f)), (h0_to_held, .inl (cB, h0_to_held_n, .inl h0_to_held_f)), (h0_words, .inr (2, [.ref h0_words_held, .int h0_words_count])), (h0_words_held, .inl (cB, h0_words_held_n, .inl h0_words_held_f))]) (QcI o_r (dC, dI) [(h0, .inr (5, [.ref h0_input, .ref h0_words, w_h0_settings, .ref h0_to, .ref h0_blocks, .int o_h0_broken, .int o_h0_brokenAt, .int o_h0_at, .int o_h0_end, .int o_h0_begin, .int o_h0_copies, .int o_h0_literals, .int o_h0_parts, .int h0_frameBegin, .int h0_flags, .int h0_width, w_h0_size])), (h0_input, .inr (2, [.ref h0_input_held, .int h0_input_count])), (h0_input_held, .inl (cB, h0_input_held_n, .inl h0_input_held_f)), (h0_blocks, .inr (1, [.ref h0_blocks_facts, .int o_h0_blocks_count])), (h0_to, .inr (2, [.ref h0_to_held, .int o_h0_to_count])), (h0_blocks_facts, .inl (cI, h0_blocks_facts_n, .inl o_h0_blocks_facts_f)), (h0_to_held, .inl (cB, h0_to_held_n, .inl o_h0_to_held_f)), (h0_words, .inr (2, [.ref h0_words_held, .int h0_words_count])), (h0_words_held, .inl (cB, h0_words_held_n, .inl h0_words_held_f))] (va_A [(h0, .inr (5, [.ref h0_input, .ref h0_words, w_h0_settings, .ref h0_to, .ref h0_blocks, .int h0_broken, .int h0_brokenAt, .int h0_at, .int h0_end, .int h0_begin, .int h0_copies, .int h0_literals, .int h0_parts, .int h0_frameBegin, .int h0_flags, .int h0_width, w_h0_size])), (h0_input, .inr (2, [.ref h0_input_held, .int h0_input_count])), (h0_input_held, .inl (cB, h0_input_held_n, .inl h0_input_held_f)), (h0_blocks, .inr (1, [.ref h0_blocks_facts, .int h0_blocks_count])), (h0_to, .inr (2, [.ref h0_to_held, .int h0_to_count])), (h0_blocks_facts, .inl (cI, h0_blocks_facts_n, .inl h0_blocks_facts_f)), (h0_to_held, .inl (cB, h0_to_held_n, .inl h0_to_held_f)), (h0_words, .inr (2, [.ref h0_words_held, .int h0_words_count])), (h0_words_held, .inl (cB, h0_words_held_n, .inl h0_words_held_f))] sz)) 0 0 (va_A [(h0, .inr (5, [.ref h0_input, .ref h0_words, w_h0_settings, .ref h0_to, .ref h0_blocks, .int h0_broken, .int h0_brokenAt, .int h0_at, .int h0_end, .int h0_begin, .int h0_copies, .int h0_literals, .int h0_parts, .int h0_frameBegin, .int h0_flags, .int h0_width, w_h0_size])), (h0_input, .inr (2, [.ref h0_input_held, .int h0_input_count])), (h0_input_held, .inl (cB, h0_input_held_n, .inl h0_input_held_f)), (h0_blocks, .inr (1, [.ref h0_blocks_facts, .int h0_blocks_count])), (h0_to, .inr (2, [.ref h0_to_held, .int h0_to_count])), (h0_blocks_facts, .inl (cI, h0_blocks_facts_n, .inl h0_blocks_facts_f)), (h0_to_held, .inl (cB, h0_to_held_n, .inl h0_to_held_f)), (h0_words, .inr (2, [.ref h0_words_held, .int h0_words_count])), (h0_words_held, .inl (cB, h0_words_held_n, .inl h0_words_held_f))] sz) := by
  refine met_of (Qf := fun A => QcI o_r (dC, dI) [(h0, .inr (5, [.ref h0_input, .ref h0_words, w_h0_settings, .ref h0_to, .ref h0_blocks, .int o_h0_broken, .int o_h0_brokenAt, .int o_h0_at, .int o_h0_end, .int o_h0_begin, .int o_h0_copies, .int o_h0_literals, .int o_h0_parts, .int h0_frameBegin, .int h0_flags, .int h0_width, w_h0_size])), (h0_input, .inr (2, [.ref h0_input_held, .int h0_input_count])), (h0_input_held, .inl (cB, h0_input_held_n, .inl h0_input_held_f)), (h0_blocks, .inr (1, [.ref h0_blocks_facts, .int o_h0_blocks_count])), (h0_to, .inr (2, [.ref h0_to_held, .int o_h0_to_count])), (h0_blocks_facts, .inl (cI, h0_blocks_facts_n, .inl o_h0_blocks_facts_f)), (h0_to_held, .inl (cB, h0_to_held_n, .inl o_h0_to_held_f)), (h0_words, .inr (2, [.ref h0_words_held, .int h0_words_count])), (h0_words_held, .inl (cB, h0_words_held_n, .inl h0_words_held_f))] A) (by decide) (Nat.le_of_ble_eq_true rfl) ?_
  intro p e s m below meth c A ls Q hx hb hr hml hown hts hlocks hnm hP hK hD hN hT hA hl hQ
  have hown : s.vm.findClass RX6 = some m.cls := hown
  have hS : va_S A s.heap s.heap [] := va_S.rf
  have hl : lv_has ls 7 [(0, .ref h0)] := hl
  unfold m_Opener_openFrameBlock at hf
  refine lv_aload_n hx hb dX6_openFrameBlock_0 rfl (lv_at hl 0 rfl) ?_
  refine va_get (D := (dC, dI)) (ci := 5) (v := .int h0_at) (C := RX6) (T := TX6) (N := 17) hx hb hts inG_X6 hown hK hP 0 rfl rfl 7 (by decide) (hts _ kw_296) (fun _ h9 => h9) rfl dX6_openFrameBlock_1 ?_
  refine lv_istore_n (lv' := [(1, .int h0_at), (0, .ref h0)]) hx hb dX6_openFrameBlock_4 rfl hl (by decide) rfl (fun ls hl => ?_)
  refine lv_aload_n hx hb dX6_openFrameBlock_5 rfl (lv_at hl 1 rfl) ?_
  refine va_get (D := (dC, dI)) (ci := 5) (v := .ref h0_input) (C := RX6) (T := TX6) (N := 17) hx hb hts inG_X6 hown hK hP 0 rfl rfl 0 (by decide) (hts _ kw_289) (fun _ h9 => h9) rfl dX6_openFrameBlock_6 ?_
  refine lv_iload_n hx hb dX6_openFrameBlock_9 rfl (lv_at hl 0 rfl) ?_
  refine lv_iconst (v := 4) hx hb dX6_openFrameBlock_10 (by decide) ?_
  obtain ⟨r1, hc, hf⟩ := bind_some hf
  refine nx_l (rn_V (As := [.int h0_at, .int (4 : Int32)]) (rest := []) (n := 2) (ci := 2) (q0 := 0) ⟨hx, hb, hml, hown, hts⟩ (c_Bytes_number (l := l) (dC := dC) (dI := dI) (cB := cB) (cI := cI) (h0 := h0_input) (a1 := h0_at) (a2 := (4 : Int32)) (h0_held := h0_input_held) (h0_count := h0_input_count) (h0_held_n := h0_input_held_n) (h0_held_f := h0_input_held_f)  (o_r := r1) hc) (wV kw_889 kw_890 kw_891 kw_83 kw_892) (by decide +kernel) ⟨Nat.le_of_ble_eq_true rfl, Nat.le_of_ble_eq_true rfl⟩ hK hP hD hN hT hS (va_free (wc := [(h0_input, .inr (2, [.ref h0_input_held, .int h0_input_count])), (h0_input_held, .inl (cB, h0_input_held_n, .inl h0_input_held_f))]) hD hS hA [1, 2] rfl) [1, 2] rfl (by decide) rfl rfl rfl hl.1 rfl (lv_room (Nat.le_of_ble_eq_true rfl)) dX6_openFrameBlock_11 ⟨Nat.le_of_ble_eq_true rfl, Nat.le_of_ble_eq_true rfl⟩) hP hD hS hA (wr := [(h0, .inr (5, [.ref h0_input, .ref h0_words, w_h0_settings, .ref h0_to, .ref h0_blocks, .int h0_broken, .int h0_brokenAt, .int h0_at, .int h0_end, .int h0_begin, .int h0_copies, .int h0_literals, .int h0_parts, .int h0_frameBegin, .int h0_flags, .int h0_width, w_h0_size])), (h0_blocks, .inr (1, [.ref h0_blocks_facts, .int h0_blocks_count])), (h0_to, .inr (2, [.ref h0_to_held, .int h0_to_count])), (h0_blocks_facts, .inl (cI, h0_blocks_facts_n, .inl h0_blocks_facts_f)), (h0_to_held, .inl (cB, h0_to_held_n, .inl h0_to_held_f)), (h0_words, .inr (2, [.ref h0_words_held, .int h0_words_count])), (h0_words_held, .inl (cB, h0_words_held_n, .inl h0_words_held_f))]) (w1 := [(h0_input, .inr (2, [.ref h0_input_held, .int h0_input_count])), (h0_input_held, .inl (cB, h0_input_held_n, .inl h0_input_held_f))]) (ws' := [(h0, .inr (5, [.ref h0_input, .ref h0_words, w_h0_settings, .ref h0_to, .ref h0_blocks, .int h0_broken, .int h0_brokenAt, .int h0_at, .int h0_end, .int h0_begin, .int h0_copies, .int h0_literals, .int h0_parts, .int h0_frameBegin, .int h0_flags, .int h0_width, w_h0_size])), (h0_input, .inr (2, [.ref h0_input_held, .int h0_input_count])), (h0_input_held, .inl (cB, h0_input_held_n, .inl h0_input_held_f)), (h0_blocks, .inr (1, [.ref h0_blocks_facts, .int h0_blocks_count])), (h0_to, .inr (2, [.ref h0_to_held, .int h0_to_count])), (h0_blocks_facts, .inl (cI, h0_blocks_facts_n, .inl h0_blocks_facts_f)), (h0_to_held, .inl (cB, h0_to_held_n, .inl h0_to_held_f)), (h0_words, .inr (2, [.ref h0_words_held, .int h0_words_count])), (h0_words_held, .inl (cB, h0_words_held_n, .inl h0_words_held_f))]) [1, 2] [0, 3, 4, 5, 6, 7, 8] [0, 7, 8, 1, 2, 3, 4, 5, 6] rfl rfl (by decide) (by decide) rfl (by decide) (fun H locs hP hD hS => ?_)
  refine lv_lstore_n (lv' := [(2, .long r1), (1, .int h0_at), (0, .ref h0)]) hx hb dX6_openFrameBlock_14 rfl hl (by decide) rfl (fun ls hl => ?_)
  refine lv_lload_n hx hb dX6_openFrameBlock_15 rfl (lv_at hl 0 rfl) ?_
  refine lv_ldc2 hx hb hown (hts _ kw_946) dX6_openFrameBlock_16 ?_
  refine lv_lrem hx hb dX6_openFrameBlock_19 (by decide) ?_
  refine lv_l2i (v := ((lrem r1 (2147483648 : Int64)).toInt32)) hx hb dX6_openFrameBlock_20 rfl ?_
  refine lv_topi (fun v4_2 e_v4_2 => ?_)
  replace hf := bnd_at e_v4_2 hf
  refine lv_istore (lv' := [(4, .int v4_2), (2, .long r1), (1, .int h0_at), (0, .ref h0)]) hx hb dX6_openFrameBlock_21 hl (by decide) rfl (fun ls hl => ?_)
  refine lv_iload hx hb dX6_openFrameBlock_23 (lv_at hl 0 rfl) ?_
  refine lv_iconst (v := 1) hx hb dX6_openFrameBlock_25 (by decide) ?_
  refine lv_bipush (v := 8) hx hb dX6_openFrameBlock_26 (by decide) ?_
  refine lv_iconst (v := 2) hx hb dX6_openFrameBlock_28 (by decide) ?_
  refine lv_aload_n hx hb dX6_openFrameBlock_29 rfl (lv_at hl 3 rfl) ?_
  refine va_get (D := (dC, dI)) (ci := 5) (v := .int h0_width) (C := RX6) (T := TX6) (N := 17) hx hb hts inG_X6 hown hK hP 0 rfl rfl 15 (by decide) (hts _ kw_304) (fun _ h9 => h9) rfl dX6_openFrameBlock_30 ?_
  refine lv_imul hx hb dX6_openFrameBlock_33 ?_
  refine lv_iadd hx hb dX6_openFrameBlock_34 ?_
  refine lv_ishl hx hb dX6_openFrameBlock_35 ?_
  refine lv_icmp_le (tgt := 47) hx hb dX6_openFrameBlock_36 (by decide) (fun c_36 => ?_) (fun c_36 => ?_)
  · replace hf := if_t c_36 hf
    refine lv_aload_n hx hb dX6_openFrameBlock_47 rfl (lv_at hl 3 rfl) ?_
    refine lv_dup hx hb dX6_openFrameBlock_48 rfl ?_
    refine va_get (D := (dC, dI)) (ci := 5) (v := .int h0_at) (C := RX6) (T := TX6) (N := 17) hx hb hts inG_X6 hown hK hP 0 rfl rfl 7 (by decide) (hts _ kw_296) (fun _ h9 => h9) rfl dX6_openFrameBlock_49 ?_
    refine lv_iconst (v := 4) hx hb dX6_openFrameBlock_52 (by decide) ?_
    refine lv_iadd hx hb dX6_openFrameBlock_53 ?_
    refine lv_topi (fun p_3 e_p_3 => ?_)
    replace hf := bnd_at e_p_3 hf
    refine va_put (D := (dC, dI)) (ci := 5) (v := .int p_3) (ty := .int) (C := RX6) (T := TX6) (N := 17) hx hb hts inG_X6 tyX6 tyX6_ok nmX6 hown hK hP hD hS 0 rfl rfl 7 (by decide) (hts _ kw_296) (fun _ h9 => h9) rfl (by decide +kernel) rfl rfl (Nat.le_of_ble_eq_true rfl) dX6_openFrameBlock_54 (fun H locs hP hD hS => ?_)
    have hP : va_P (dC, dI) vwCl [(h0, .inr (5, [.ref h0_input, .ref h0_words, w_h0_settings, .ref h0_to, .ref h0_blocks, .int h0_broken, .int h0_brokenAt, .int p_3, .int h0_end, .int h0_begin, .int h0_copies, .int h0_literals, .int h0_parts, .int h0_frameBegin, .int h0_flags, .int h0_width, w_h0_size])), (h0_input, .inr (2, [.ref h0_input_held, .int h0_input_count])), (h0_input_held, .inl (cB, h0_input_held_n, .inl h0_input_held_f)), (h0_blocks, .inr (1, [.ref h0_blocks_facts, .int h0_blocks_count])), (h0_to, .inr (2, [.ref h0_to_held, .int h0_to_count])), (h0_blocks_facts, .inl (cI, h0_blocks_facts_n, .inl h0_blocks_facts_f)), (h0_to_held, .inl (cB, h0_to_held_n, .inl h0_to_held_f)), (h0_words, .inr (2, [.ref h0_words_held, .int h0_words_count])), (h0_words_held, .inl (cB, h0_words_held_n, .inl h0_words_held_f))] H := hP
    have hD : va_D A [(h0, .inr (5, [.ref h0_input, .ref h0_words, w_h0_settings, .ref h0_to, .ref h0_blocks, .int h0_broken, .int h0_brokenAt, .int p_3, .int h0_end, .int h0_begin, .int h0_copies, .int h0_literals, .int h0_parts, .int h0_frameBegin, .int h0_flags, .int h0_width, w_h0_size])), (h0_input, .inr (2, [.ref h0_input_held, .int h0_input_count])), (h0_input_held, .inl (cB, h0_input_held_n, .inl h0_input_held_f)), (h0_blocks, .inr (1, [.ref h0_blocks_facts, .int h0_blocks_count])), (h0_to, .inr (2, [.ref h0_to_held, .int h0_to_count])), (h0_blocks_facts, .inl (cI, h0_blocks_facts_n, .inl h0_blocks_facts_f)), (h0_to_held, .inl (cB, h0_to_held_n, .inl h0_to_held_f)), (h0_words, .inr (2, [.ref h0_words_held, .int h0_words_count])), (h0_words_held, .inl (cB, h0_words_held_n, .inl h0_words_held_f))] := hD
    refine lv_aload_n hx hb dX6_openFrameBlock_57 rfl (lv_at hl 3 rfl) ?_
    refine lv_bipush (v := 16) hx hb dX6_openFrameBlock_58 (by decide) ?_
    obtain ⟨r4, hc, hf⟩ := bind_some hf
    refine nx_i (rn_V (As := [.int (16 : Int32)]) (rest := []) (n := 1) (ci := 5) (q0 := 0) ⟨hx, hb, hml, hown, hts⟩ (c_Opener_isFlag (l := l) (dC := dC) (dI := dI) (cB := cB) (cI := cI) (h0 := h0) (a1 := (16 : Int32)) (w_h0_input := (.ref h0_input)) (w_h0_words := (.ref h0_words)) (w_h0_settings := (w_h0_settings)) (w_h0_to := (.ref h0_to)) (w_h0_blocks := (.ref h0_blocks)) (w_h0_broken := (.int h0_broken)) (w_h0_brokenAt := (.int h0_brokenAt)) (w_h0_at := (.int p_3)) (w_h0_end := (.int h0_end)) (w_h0_begin := (.int h0_begin)) (w_h0_copies := (.int h0_copies)) (w_h0_literals := (.int h0_literals)) (w_h0_parts := (.int h0_parts)) (w_h0_frameBegin := (.int h0_frameBegin)) (h0_flags := h0_flags) (w_h0_width := (.int h0_width)) (w_h0_size := (w_h0_size))  (o_r := r4) hc) (wV kw_928 kw_930 kw_35 kw_92 kw_931) (by decide +kernel) ⟨Nat.le_of_ble_eq_true rfl, Nat.le_of_ble_eq_true rfl⟩ hK hP hD hN hT hS (va_free (wc := [(h0, .inr (5, [.ref h0_input, .ref h0_words, w_h0_settings, .ref h0_to, .ref h0_blocks, .int h0_broken, .int h0_brokenAt, .int p_3, .int h0_end, .int h0_begin, .int h0_copies, .int h0_literals, .int h0_parts, .int h0_frameBegin, .int h0_flags, .int h0_width, w_h0_size]))]) hD hS hA [0] rfl) [0] rfl (by decide) rfl rfl rfl hl.1 rfl (lv_room (Nat.le_of_ble_eq_true rfl)) dX6_openFrameBlock_60 ⟨Nat.le_of_ble_eq_true rfl, Nat.le_of_ble_eq_true rfl⟩) hP hD hS hA (wr := [(h0_input, .inr (2, [.ref h0_input_held, .int h0_input_count])), (h0_input_held, .inl (cB, h0_input_held_n, .inl h0_input_held_f)), (h0_blocks, .inr (1, [.ref h0_blocks_facts, .int h0_blocks_count])), (h0_to, .inr (2, [.ref h0_to_held, .int h0_to_count])), (h0_blocks_facts, .inl (cI, h0_blocks_facts_n, .inl h0_blocks_facts_f)), (h0_to_held, .inl (cB, h0_to_held_n, .inl h0_to_held_f)), (h0_words, .inr (2, [.ref h0_words_held, .int h0_words_count])), (h0_words_held, .inl (cB, h0_words_held_n, .inl h0_words_held_f))]) (w1 := [(h0, .inr (5, [.ref h0_input, .ref h0_words, w_h0_settings, .ref h0_to, .ref h0_blocks, .int h0_broken, .int h0_brokenAt, .int p_3, .int h0_end, .int h0_begin, .int h0_copies, .int h0_literals, .int h0_parts, .int h0_frameBegin, .int h0_flags, .int h0_width, w_h0_size]))]) (ws' := [(h0, .inr (5, [.ref h0_input, .ref h0_words, w_h0_settings, .ref h0_to, .ref h0_blocks, .int h0_broken, .int h0_brokenAt, .int p_3, .int h0_end, .int h0_begin, .int h0_copies, .int h0_literals, .int h0_parts, .int h0_frameBegin, .int h0_flags, .int h0_width, w_h0_size])), (h0_input, .inr (2, [.ref h0_input_held, .int h0_input_count])), (h0_input_held, .inl (cB, h0_input_held_n, .inl h0_input_held_f)), (h0_blocks, .inr (1, [.ref h0_blocks_facts, .int h0_blocks_count])), (h0_to, .inr (2, [.ref h0_to_held, .int h0_to_count])), (h0_blocks_facts, .inl (cI, h0_blocks_facts_n, .inl h0_blocks_facts_f)), (h0_to_held, .inl (cB, h0_to_held_n, .inl h0_to_held_f)), (h0_words, .inr (2, [.ref h0_words_held, .int h0_words_count])), (h0_words_held, .inl (cB, h0_words_held_n, .inl h0_words_held_f))]) [0] [1, 2, 3, 4, 5, 6, 7, 8] [8, 0, 1, 2, 3, 4, 5, 6, 7] rfl rfl (by decide) (by decide) rfl (by decide) (fun H locs hP hD hS => ?_)
    have hJ_71 : ∀ (s5 : Int32) (H : Heap) (locs : List Loc) (ls : Array Slot), m_Opener_openFrameBlock_J71 h0_broken h0_brokenAt h0_at h0_end h0_begin h0_copies h0_literals h0_parts h0_frameBegin h0_flags h0_input_count h0_input_held_n h0_input_held_f h0_blocks_count h0_to_count h0_blocks_facts_n h0_blocks_facts_f h0_to_held_n h0_to_held_f h0_words_count h0_words_held_n h0_words_held_f r1 v4_2 p_3 s5 = some (o_r, o_h0_broken, o_h0_brokenAt, o_h0_at, o_h0_end, o_h0_begin, o_h0_copies, o_h0_literals, o_h0_parts, o_h0_blocks_count, o_h0_to_count, o_h0_blocks_facts_f, o_h0_to_held_f) → va_P (dC, dI) vwCl [(h0, .inr (5, [.ref h0_input, .ref h0_words, w_h0_settings, .ref h0_to, .ref h0_blocks, .int h0_broken, .int h0_brokenAt, .int p_3, .int h0_end, .int h0_begin, .int h0_copies, .int h0_literals, .int h0_parts, .int h0_frameBegin, .int h0_flags, .int h0_width, w_h0_size])), (h0_input, .inr (2, [.ref h0_input_held, .int h0_input_count])), (h0_input_held, .inl (cB, h0_input_held_n, .inl h0_input_held_f)), (h0_blocks, .inr (1, [.ref h0_blocks_facts, .int h0_blocks_count])), (h0_to, .inr (2, [.ref h0_to_held, .int h0_to_count])), (h0_blocks_facts, .inl (cI, h0_blocks_facts_n, .inl h0_blocks_facts_f)), (h0_to_held, .inl (cB, h0_to_held_n, .inl h0_to_held_f)), (h0_words, .inr (2, [.ref h0_words_held, .int h0_words_count])), (h0_words_held, .inl (cB, h0_words_held_n, .inl h0_words_held_f))] H → va_D A [(h0, .inr (5, [.ref h0_input, .ref h0_words, w_h0_settings, .ref h0_to, .ref h0_blocks, .int h0_broken, .int h0_brokenAt, .int p_3, .int h0_end, .int h0_begin, .int h0_copies, .int h0_literals, .int h0_parts, .int h0_frameBegin, .int h0_flags, .int h0_width, w_h0_size])), (h0_input, .inr (2, [.ref h0_input_held, .int h0_input_count])), (h0_input_held, .inl (cB, h0_input_held_n, .inl h0_input_held_f)), (h0_blocks, .inr (1, [.ref h0_blocks_facts, .int h0_blocks_count])), (h0_to, .inr (2, [.ref h0_to_held, .int h0_to_count])), (h0_blocks_facts, .inl (cI, h0_blocks_facts_n, .inl h0_blocks_facts_f)), (h0_to_held, .inl (cB, h0_to_held_n, .inl h0_to_held_f)), (h0_words, .inr (2, [.ref h0_words_held, .int h0_words_count])), (h0_words_held, .inl (cB, h0_words_held_n, .inl h0_words_held_f))] → va_S A s.heap H locs → lv_has ls 7 [(0, .ref h0), (1, .int h0_at), (2, .long r1), (4, .int v4_2)] → W p l e (rm_Opener_openFrameBlock) s m ([.ref h0] : List Value).toArray below meth c H locs 0 0 Q (F0 m 71 ls [.int s5]) := by
      intro s5 H locs ls hf hP hD hS hl
      unfold m_Opener_openFrameBlock_J71 at hf
      refine lv_istore (lv' := [(5, .int s5), (0, .ref h0), (1, .int h0_at), (2, .long r1), (4, .int v4_2)]) hx hb dX6_openFrameBlock_71 hl (by decide) rfl (fun ls hl => ?_)
      refine lv_aload_n hx hb dX6_openFrameBlock_73 rfl (lv_at hl 1 rfl) ?_
      refine lv_iload hx hb dX6_openFrameBlock_74 (lv_at hl 4 rfl) ?_
      refine lv_iload hx hb dX6_openFrameBlock_76 (lv_at hl 0 rfl) ?_
      refine lv_iadd hx hb dX6_openFrameBlock_78 ?_
      obtain ⟨r6, hc, hf⟩ := bind_some hf
      refine nx_i (rn_V (As := [.int (v4_2 + s5)]) (rest := []) (n := 1) (ci := 5) (q0 := 0) ⟨hx, hb, hml, hown, hts⟩ (c_Opener_lacks (l := l) (dC := dC) (dI := dI) (cB := cB) (cI := cI) (h0 := h0) (a1 := (v4_2 + s5)) (w_h0_input := (.ref h0_input)) (w_h0_words := (.ref h0_words)) (w_h0_settings := (w_h0_settings)) (w_h0_to := (.ref h0_to)) (w_h0_blocks := (.ref h0_blocks)) (w_h0_broken := (.int h0_broken)) (w_h0_brokenAt := (.int h0_brokenAt)) (h0_at := p_3) (h0_end := h0_end) (w_h0_begin := (.int h0_begin)) (w_h0_copies := (.int h0_copies)) (w_h0_literals := (.int h0_literals)) (w_h0_parts := (.int h0_parts)) (w_h0_frameBegin := (.int h0_frameBegin)) (w_h0_flags := (.int h0_flags)) (w_h0_width := (.int h0_width)) (w_h0_size := (w_h0_size))  (o_r := r6) hc) (wV kw_867 kw_869 kw_25 kw_92 kw_870) (by decide +kernel) ⟨Nat.le_of_ble_eq_true rfl, Nat.le_of_ble_eq_true rfl⟩ hK hP hD hN hT hS (va_free (wc := [(h0, .inr (5, [.ref h0_input, .ref h0_words, w_h0_settings, .ref h0_to, .ref h0_blocks, .int h0_broken, .int h0_brokenAt, .int p_3, .int h0_end, .int h0_begin, .int h0_copies, .int h0_literals, .int h0_parts, .int h0_frameBegin, .int h0_flags, .int h0_width, w_h0_size]))]) hD hS hA [0] rfl) [0] rfl (by decide) rfl rfl rfl hl.1 rfl (lv_room (Nat.le_of_ble_eq_true rfl)) dX6_openFrameBlock_79 ⟨Nat.le_of_ble_eq_true rfl, Nat.le_of_ble_eq_true rfl⟩) hP hD hS hA (wr := [(h0_input, .inr (2, [.ref h0_input_held, .int h0_input_count])), (h0_input_held, .inl (cB, h0_input_held_n, .inl h0_input_held_f)), (h0_blocks, .inr (1, [.ref h0_blocks_facts, .int h0_blocks_count])), (h0_to, .inr (2, [.ref h0_to_held, .int h0_to_count])), (h0_blocks_facts, .inl (cI, h0_blocks_facts_n, .inl h0_blocks_facts_f)), (h0_to_held, .inl (cB, h0_to_held_n, .inl h0_to_held_f)), (h0_words, .inr (2, [.ref h0_words_held, .int h0_words_count])), (h0_words_held, .inl (cB, h0_words_held_n, .inl h0_words_held_f))]) (w1 := [(h0, .inr (5, [.ref h0_input, .ref h0_words, w_h0_settings, .ref h0_to, .ref h0_blocks, .int h0_broken, .int h0_brokenAt, .int p_3, .int h0_end, .int h0_begin, .int h0_copies, .int h0_literals, .int h0_parts, .int h0_frameBegin, .int h0_flags, .int h0_width, w_h0_size]))]) (ws' := [(h0, .inr (5, [.ref h0_input, .ref h0_words, w_h0_settings, .ref h0_to, .ref h0_blocks, .int h0_broken, .int h0_brokenAt, .int p_3, .int h0_end, .int h0_begin, .int h0_copies, .int h0_literals, .int h0_parts, .int h0_frameBegin, .int h0_flags, .int h0_width, w_h0_size])), (h0_input, .inr (2, [.ref h0_input_held, .int h0_input_count])), (h0_input_held, .inl (cB, h0_input_held_n, .inl h0_input_held_f)), (h0_blocks, .inr (1, [.ref h0_blocks_facts, .int h0_blocks_count])), (h0_to, .inr (2, [.ref h0_to_held, .int h0_to_count])), (h0_blocks_facts, .inl (cI, h0_blocks_facts_n, .inl h0_blocks_facts_f)), (h0_to_held, .inl (cB, h0_to_held_n, .inl h0_to_held_f)), (h0_words, .inr (2, [.ref h0_words_held, .int h0_words_count])), (h0_words_held, .inl (cB, h0_words_held_n, .inl h0_words_held_f))]) [0] [1, 2, 3, 4, 5, 6, 7, 8] [8, 0, 1, 2, 3, 4, 5, 6, 7] rfl rfl (by decide) (by decide) rfl (by decide) (fun H locs hP hD hS => ?_)
      refine lv_if_eq (tgt := 95) hx hb dX6_openFrameBlock_82 (by decide) (fun c_82 => ?_) (fun c_82 => ?_)
      · replace hf := if_t c_82 hf
        refine lv_aload_n hx hb dX6_openFrameBlock_95 rfl (lv_at hl 1 rfl) ?_
        refine va_get (D := (dC, dI)) (ci := 5) (v := .int p_3) (C := RX6) (T := TX6) (N := 17) hx hb hts inG_X6 hown hK hP 0 rfl rfl 7 (by decide) (hts _ kw_296) (fun _ h9 => h9) rfl dX6_openFrameBlock_96 ?_
        refine lv_iload hx hb dX6_openFrameBlock_99 (lv_at hl 4 rfl) ?_
        refine lv_iadd hx hb dX6_openFrameBlock_101 ?_
        refine lv_topi (fun v6_7 e_v6_7 => ?_)
        replace hf := bnd_at e_v6_7 hf
        refine lv_istore (lv' := [(6, .int v6_7), (5, .int s5), (0, .ref h0), (1, .int h0_at), (2, .long r1), (4, .int v4_2)]) hx hb dX6_openFrameBlock_102 hl (by decide) rfl (fun ls hl => ?_)
        refine lv_iload hx hb dX6_openFrameBlock_104 (lv_at hl 1 rfl) ?_
        have hJ_143 : ∀ (H : Heap) (locs : List Loc) (ls : Array Slot), m_Opener_openFrameBlock_J143 h0_broken h0_brokenAt h0_at h0_end h0_begin h0_copies h0_literals h0_parts h0_frameBegin h0_flags h0_input_count h0_input_held_n h0_input_held_f h0_blocks_count h0_to_count h0_blocks_facts_n h0_blocks_facts_f h0_to_held_n h0_to_held_f h0_words_count h0_words_held_n h0_words_held_f r1 v4_2 p_3 s5 v6_7 = some (o_r, o_h0_broken, o_h0_brokenAt, o_h0_at, o_h0_end, o_h0_begin, o_h0_copies, o_h0_literals, o_h0_parts, o_h0_blocks_count, o_h0_to_count, o_h0_blocks_facts_f, o_h0_to_held_f) → va_P (dC, dI) vwCl [(h0, .inr (5, [.ref h0_input, .ref h0_words, w_h0_settings, .ref h0_to, .ref h0_blocks, .int h0_broken, .int h0_brokenAt, .int p_3, .int h0_end, .int h0_begin, .int h0_copies, .int h0_literals, .int h0_parts, .int h0_frameBegin, .int h0_flags, .int h0_width, w_h0_size])), (h0_input, .inr (2, [.ref h0_input_held, .int h0_input_count])), (h0_input_held, .inl (cB, h0_input_held_n, .inl h0_input_held_f)), (h0_blocks, .inr (1, [.ref h0_blocks_facts, .int h0_blocks_count])), (h0_to, .inr (2, [.ref h0_to_held, .int h0_to_count])), (h0_blocks_facts, .inl (cI, h0_blocks_facts_n, .inl h0_blocks_facts_f)), (h0_to_held, .inl (cB, h0_to_held_n, .inl h0_to_held_f)), (h0_words, .inr (2, [.ref h0_words_held, .int h0_words_count])), (h0_words_held, .inl (cB, h0_words_held_n, .inl h0_words_held_f))] H → va_D A [(h0, .inr (5, [.ref h0_input, .ref h0_words, w_h0_settings, .ref h0_to, .ref h0_blocks, .int h0_broken, .int h0_brokenAt, .int p_3, .int h0_end, .int h0_begin, .int h0_copies, .int h0_literals, .int h0_parts, .int h0_frameBegin, .int h0_flags, .int h0_width, w_h0_size])), (h0_input, .inr (2, [.ref h0_input_held, .int h0_input_count])), (h0_input_held, .inl (cB, h0_input_held_n, .inl h0_input_held_f)), (h0_blocks, .inr (1, [.ref h0_blocks_facts, .int h0_blocks_count])), (h0_to, .inr (2, [.ref h0_to_held, .int h0_to_count])), (h0_blocks_facts, .inl (cI, h0_blocks_facts_n, .inl h0_blocks_facts_f)), (h0_to_held, .inl (cB, h0_to_held_n, .inl h0_to_held_f)), (h0_words, .inr (2, [.ref h0_words_held, .int h0_words_count])), (h0_words_held, .inl (cB, h0_words_held_n, .inl h0_words_held_f))] → va_S A s.heap H locs → lv_has ls 7 [(0, .ref h0), (1, .int h0_at), (2, .long r1), (4, .int v4_2), (5, .int s5), (6, .int v6_7)] → W p l e (rm_Opener_openFrameBlock) s m ([.ref h0] : List Value).toArray below meth c H locs 0 0 Q (F0 m 143 ls []) := by
          intro  H locs ls hf hP hD hS hl
          unfold m_Opener_openFrameBlock_J143 at hf
          refine lv_lload_n hx hb dX6_openFrameBlock_143 rfl (lv_at hl 2 rfl) ?_
          refine lv_ldc2 hx hb hown (hts _ kw_946) dX6_openFrameBlock_144 ?_
          refine W.lcmp hx hb dX6_openFrameBlock_147 ?_
          have hJ_219 : ∀ (f8 : Nat → Int32) (f9 : Nat → Int32) (g10 : Int32) (g11 : Int32) (g12 : Int32) (g13 : Int32) (g14 : Int32) (g15 : Int32) (g16 : Int32) (g17 : Int32) (g18 : Int32) (g19 : Int32) (H : Heap) (locs : List Loc) (ls : Array Slot), m_Opener_openFrameBlock_J219 s5 f8 f9 g10 g11 g12 g13 g14 g15 g16 g17 g18 g19 = some (o_r, o_h0_broken, o_h0_brokenAt, o_h0_at, o_h0_end, o_h0_begin, o_h0_copies, o_h0_literals, o_h0_parts, o_h0_blocks_count, o_h0_to_count, o_h0_blocks_facts_f, o_h0_to_held_f) → va_P (dC, dI) vwCl [(h0, .inr (5, [.ref h0_input, .ref h0_words, w_h0_settings, .ref h0_to, .ref h0_blocks, .int g13, .int g14, .int g15, .int g16, .int g17, .int g10, .int g11, .int g12, .int h0_frameBegin, .int h0_flags, .int h0_width, w_h0_size])), (h0_input, .inr (2, [.ref h0_input_held, .int h0_input_count])), (h0_input_held, .inl (cB, h0_input_held_n, .inl h0_input_held_f)), (h0_blocks, .inr (1, [.ref h0_blocks_facts, .int g18])), (h0_to, .inr (2, [.ref h0_to_held, .int g19])), (h0_blocks_facts, .inl (cI, h0_blocks_facts_n, .inl f8)), (h0_to_held, .inl (cB, h0_to_held_n, .inl f9)), (h0_words, .inr (2, [.ref h0_words_held, .int h0_words_count])), (h0_words_held, .inl (cB, h0_words_held_n, .inl h0_words_held_f))] H → va_D A [(h0, .inr (5, [.ref h0_input, .ref h0_words, w_h0_settings, .ref h0_to, .ref h0_blocks, .int g13, .int g14, .int g15, .int g16, .int g17, .int g10, .int g11, .int g12, .int h0_frameBegin, .int h0_flags, .int h0_width, w_h0_size])), (h0_input, .inr (2, [.ref h0_input_held, .int h0_input_count])), (h0_input_held, .inl (cB, h0_input_held_n, .inl h0_input_held_f)), (h0_blocks, .inr (1, [.ref h0_blocks_facts, .int g18])), (h0_to, .inr (2, [.ref h0_to_held, .int g19])), (h0_blocks_facts, .inl (cI, h0_blocks_facts_n, .inl f8)), (h0_to_held, .inl (cB, h0_to_held_n, .inl f9)), (h0_words, .inr (2, [.ref h0_words_held, .int h0_words_count])), (h0_words_held, .inl (cB, h0_words_held_n, .inl h0_words_held_f))] → va_S A s.heap H locs → lv_has ls 7 [(0, .ref h0), (5, .int s5)] → W p l e (rm_Opener_openFrameBlock) s m ([.ref h0] : List Value).toArray below meth c H locs 0 0 Q (F0 m 219 ls []) := by
            intro f8 f9 g10 g11 g12 g13 g14 g15 g16 g17 g18 g19 H locs ls hf hP hD hS hl
            unfold m_Opener_openFrameBlock_J219 at hf
            refine lv_aload_n hx hb dX6_openFrameBlock_219 rfl (lv_at hl 0 rfl) ?_
            refine lv_dup hx hb dX6_openFrameBlock_220 rfl ?_
            refine va_get (D := (dC, dI)) (ci := 5) (v := .int g15) (C := RX6) (T := TX6) (N := 17) hx hb hts inG_X6 hown hK hP 0 rfl rfl 7 (by decide) (hts _ kw_296) (fun _ h9 => h9) rfl dX6_openFrameBlock_221 ?_
            refine lv_iload hx hb dX6_openFrameBlock_224 (lv_at hl 1 rfl) ?_
            refine lv_iadd hx hb dX6_openFrameBlock_226 ?_
            refine lv_topi (fun p_20 e_p_20 => ?_)
            replace hf := bnd_at e_p_20 hf
            refine va_put (D := (dC, dI)) (ci := 5) (v := .int p_20) (ty := .int) (C := RX6) (T := TX6) (N := 17) hx hb hts inG_X6 tyX6 tyX6_ok nmX6 hown hK hP hD hS 0 rfl rfl 7 (by decide) (hts _ kw_296) (fun _ h9 => h9) rfl (by decide +kernel) rfl rfl (Nat.le_of_ble_eq_true rfl) dX6_openFrameBlock_227 (fun H locs hP hD hS => ?_)
            have hP : va_P (dC, dI) vwCl [(h0, .inr (5, [.ref h0_input, .ref h0_words, w_h0_settings, .ref h0_to, .ref h0_blocks, .int g13, .int g14, .int p_20, .int g16, .int g17, .int g10, .int g11, .int g12, .int h0_frameBegin, .int h0_flags, .int h0_width, w_h0_size])), (h0_input, .inr (2, [.ref h0_input_held, .int h0_input_count])), (h0_input_held, .inl (cB, h0_input_held_n, .inl h0_input_held_f)), (h0_blocks, .inr (1, [.ref h0_blocks_facts, .int g18])), (h0_to, .inr (2, [.ref h0_to_held, .int g19])), (h0_blocks_facts, .inl (cI, h0_blocks_facts_n, .inl f8)), (h0_to_held, .inl (cB, h0_to_held_n, .inl f9)), (h0_words, .inr (2, [.ref h0_words_held, .int h0_words_count])), (h0_words_held, .inl (cB, h0_words_held_n, .inl h0_words_held_f))] H := hP
            have hD : va_D A [(h0, .inr (5, [.ref h0_input, .ref h0_words, w_h0_settings, .ref h0_to, .ref h0_blocks, .int g13, .int g14, .int p_20, .int g16, .int g17, .int g10, .int g11, .int g12, .int h0_frameBegin, .int h0_flags, .int h0_width, w_h0_size])), (h0_input, .inr (2, [.ref h0_input_held, .int h0_input_count])), (h0_input_held, .inl (cB, h0_input_held_n, .inl h0_input_held_f)), (h0_blocks, .inr (1, [.ref h0_blocks_facts, .int g18])), (h0_to, .inr (2, [.ref h0_to_held, .int g19])), (h0_blocks_facts, .inl (cI, h0_blocks_facts_n, .inl f8)), (h0_to_held, .inl (cB, h0_to_held_n, .inl f9)), (h0_words, .inr (2, [.ref h0_words_held, .int h0_words_count])), (h0_words_held, .inl (cB, h0_words_held_n, .inl h0_words_held_f))] := hD
            refine lv_iconst (v := 1) hx hb dX6_openFrameBlock_230 (by decide) ?_
            have hzb : narrow .boolean (.int (1 : Int32)) = .int (1 : Int32) := rfl
            obtain ⟨rfl, hq_1⟩ := Prod.mk.inj (Option.some.inj hf)
            obtain ⟨rfl, hq_2⟩ := Prod.mk.inj hq_1
            obtain ⟨rfl, hq_3⟩ := Prod.mk.inj hq_2
            obtain ⟨rfl, hq_4⟩ := Prod.mk.inj hq_3
            obtain ⟨rfl, hq_5⟩ := Prod.mk.inj hq_4
            obtain ⟨rfl, hq_6⟩ := Prod.mk.inj hq_5
            obtain ⟨rfl, hq_7⟩ := Prod.mk.inj hq_6
            obtain ⟨rfl, hq_8⟩ := Prod.mk.inj hq_7
            obtain ⟨rfl, hq_9⟩ := Prod.mk.inj hq_8
            obtain ⟨rfl, hq_10⟩ := Prod.mk.inj hq_9
            obtain ⟨rfl, hq_11⟩ := Prod.mk.inj hq_10
            obtain ⟨rfl, hq_12⟩ := Prod.mk.inj hq_11
            obtain rfl := hq_12
            exact rt_z hQ hx hb hr hzb hlocks hP hD hS dX6_openFrameBlock_231
          refine lv_if_lt (tgt := 163) hx hb dX6_openFrameBlock_148 (by decide) (fun c_148 => ?_) (fun c_148 => ?_)
          · replace hf := if_t c_148 hf
            refine lv_aload_n hx hb dX6_openFrameBlock_163 rfl (lv_at hl 0 rfl) ?_
            refine lv_iload hx hb dX6_openFrameBlock_164 (lv_at hl 5 rfl) ?_
            refine va_put (D := (dC, dI)) (ci := 5) (v := .int v6_7) (ty := .int) (C := RX6) (T := TX6) (N := 17) hx hb hts inG_X6 tyX6 tyX6_ok nmX6 hown hK hP hD hS 0 rfl rfl 8 (by decide) (hts _ kw_297) (fun _ h9 => h9) rfl (by decide +kernel) rfl rfl (Nat.le_of_ble_eq_true rfl) dX6_openFrameBlock_166 (fun H locs hP hD hS => ?_)
            have hP : va_P (dC, dI) vwCl [(h0, .inr (5, [.ref h0_input, .ref h0_words, w_h0_settings, .ref h0_to, .ref h0_blocks, .int h0_broken, .int h0_brokenAt, .int p_3, .int v6_7, .int h0_begin, .int h0_copies, .int h0_literals, .int h0_parts, .int h0_frameBegin, .int h0_flags, .int h0_width, w_h0_size])), (h0_input, .inr (2, [.ref h0_input_held, .int h0_input_count])), (h0_input_held, .inl (cB, h0_input_held_n, .inl h0_input_held_f)), (h0_blocks, .inr (1, [.ref h0_blocks_facts, .int h0_blocks_count])), (h0_to, .inr (2, [.ref h0_to_held, .int h0_to_count])), (h0_blocks_facts, .inl (cI, h0_blocks_facts_n, .inl h0_blocks_facts_f)), (h0_to_held, .inl (cB, h0_to_held_n, .inl h0_to_held_f)), (h0_words, .inr (2, [.ref h0_words_held, .int h0_words_count])), (h0_words_held, .inl (cB, h0_words_held_n, .inl h0_words_held_f))] H := hP
            have hD : va_D A [(h0, .inr (5, [.ref h0_input, .ref h0_words, w_h0_settings, .ref h0_to, .ref h0_blocks, .int h0_broken, .int h0_brokenAt, .int p_3, .int v6_7, .int h0_begin, .int h0_copies, .int h0_literals, .int h0_parts, .int h0_frameBegin, .int h0_flags, .int h0_width, w_h0_size])), (h0_input, .inr (2, [.ref h0_input_held, .int h0_input_count])), (h0_input_held, .inl (cB, h0_input_held_n, .inl h0_input_held_f)), (h0_blocks, .inr (1, [.ref h0_blocks_facts, .int h0_blocks_count])), (h0_to, .inr (2, [.ref h0_to_held, .int h0_to_count])), (h0_blocks_facts, .inl (cI, h0_blocks_facts_n, .inl h0_blocks_facts_f)), (h0_to_held, .inl (cB, h0_to_held_n, .inl h0_to_held_f)), (h0_words, .inr (2, [.ref h0_words_held, .int h0_words_count])), (h0_words_held, .inl (cB, h0_words_held_n, .inl h0_words_held_f))] := hD
            refine lv_aload_n hx hb dX6_openFrameBlock_169 rfl (lv_at hl 0 rfl) ?_
            refine lv_aload_n hx hb dX6_openFrameBlock_170 rfl (lv_at hl 0 rfl) ?_
            refine lv_bipush (v := 32) hx hb dX6_openFrameBlock_171 (by decide) ?_
            obtain ⟨r21, hc, hf⟩ := bind_some hf
            refine nx_i (rn_V (As := [.int (32 : Int32)]) (rest := [.ref h0]) (n := 1) (ci := 5) (q0 := 0) ⟨hx, hb, hml, hown, hts⟩ (c_Opener_isFlag (l := l) (dC := dC) (dI := dI) (cB := cB) (cI := cI) (h0 := h0) (a1 := (32 : Int32)) (w_h0_input := (.ref h0_input)) (w_h0_words := (.ref h0_words)) (w_h0_settings := (w_h0_settings)) (w_h0_to := (.ref h0_to)) (w_h0_blocks := (.ref h0_blocks)) (w_h0_broken := (.int h0_broken)) (w_h0_brokenAt := (.int h0_brokenAt)) (w_h0_at := (.int p_3)) (w_h0_end := (.int v6_7)) (w_h0_begin := (.int h0_begin)) (w_h0_copies := (.int h0_copies)) (w_h0_literals := (.int h0_literals)) (w_h0_parts := (.int h0_parts)) (w_h0_frameBegin := (.int h0_frameBegin)) (h0_flags := h0_flags) (w_h0_width := (.int h0_width)) (w_h0_size := (w_h0_size))  (o_r := r21) hc) (wV kw_928 kw_930 kw_35 kw_92 kw_931) (by decide +kernel) ⟨Nat.le_of_ble_eq_true rfl, Nat.le_of_ble_eq_true rfl⟩ hK hP hD hN hT hS (va_free (wc := [(h0, .inr (5, [.ref h0_input, .ref h0_words, w_h0_settings, .ref h0_to, .ref h0_blocks, .int h0_broken, .int h0_brokenAt, .int p_3, .int v6_7, .int h0_begin, .int h0_copies, .int h0_literals, .int h0_parts, .int h0_frameBegin, .int h0_flags, .int h0_width, w_h0_size]))]) hD hS hA [0] rfl) [0] rfl (by decide) rfl rfl rfl hl.1 rfl (lv_room (Nat.le_of_ble_eq_true rfl)) dX6_openFrameBlock_173 ⟨Nat.le_of_ble_eq_true rfl, Nat.le_of_ble_eq_true rfl⟩) hP hD hS hA (wr := [(h0_input, .inr (2, [.ref h0_input_held, .int h0_input_count])), (h0_input_held, .inl (cB, h0_input_held_n, .inl h0_input_held_f)), (h0_blocks, .inr (1, [.ref h0_blocks_facts, .int h0_blocks_count])), (h0_to, .inr (2, [.ref h0_to_held, .int h0_to_count])), (h0_blocks_facts, .inl (cI, h0_blocks_facts_n, .inl h0_blocks_facts_f)), (h0_to_held, .inl (cB, h0_to_held_n, .inl h0_to_held_f)), (h0_words, .inr (2, [.ref h0_words_held, .int h0_words_count])), (h0_words_held, .inl (cB, h0_words_held_n, .inl h0_words_held_f))]) (w1 := [(h0, .inr (5, [.ref h0_input, .ref h0_words, w_h0_settings, .ref h0_to, .ref h0_blocks, .int h0_broken, .int h0_brokenAt, .int p_3, .int v6_7, .int h0_begin, .int h0_copies, .int h0_literals, .int h0_parts, .int h0_frameBegin, .int h0_flags, .int h0_width, w_h0_size]))]) (ws' := [(h0, .inr (5, [.ref h0_input, .ref h0_words, w_h0_settings, .ref h0_to, .ref h0_blocks, .int h0_broken, .int h0_brokenAt, .int p_3, .int v6_7, .int h0_begin, .int h0_copies, .int h0_literals, .int h0_parts, .int h0_frameBegin, .int h0_flags, .int h0_width, w_h0_size])), (h0_input, .inr (2, [.ref h0_input_held, .int h0_input_count])), (h0_input_held, .inl (cB, h0_input_held_n, .inl h0_input_held_f)), (h0_blocks, .inr (1, [.ref h0_blocks_facts, .int h0_blocks_count])), (h0_to, .inr (2, [.ref h0_to_held, .int h0_to_count])), (h0_blocks_facts, .inl (cI, h0_blocks_facts_n, .inl h0_blocks_facts_f)), (h0_to_held, .inl (cB, h0_to_held_n, .inl h0_to_held_f)), (h0_words, .inr (2, [.ref h0_words_held, .int h0_words_count])), (h0_words_held, .inl (cB, h0_words_held_n, .inl h0_words_held_f))]) [0] [1, 2, 3, 4, 5, 6, 7, 8] [8, 0, 1, 2, 3, 4, 5, 6, 7] rfl rfl (by decide) (by decide) rfl (by decide) (fun H locs hP hD hS => ?_)
            have hJ_193 : ∀ (s22 : Int32) (H : Heap) (locs : List Loc) (ls : Array Slot), m_Opener_openFrameBlock_J193 h0_broken h0_brokenAt h0_at h0_input_count h0_input_held_n h0_input_held_f h0_blocks_count h0_to_count h0_blocks_facts_n h0_blocks_facts_f h0_to_held_n h0_to_held_f h0_words_count h0_words_held_n h0_words_held_f p_3 s5 v6_7 s22 = some (o_r, o_h0_broken, o_h0_brokenAt, o_h0_at, o_h0_end, o_h0_begin, o_h0_copies, o_h0_literals, o_h0_parts, o_h0_blocks_count, o_h0_to_count, o_h0_blocks_facts_f, o_h0_to_held_f) → va_P (dC, dI) vwCl [(h0, .inr (5, [.ref h0_input, .ref h0_words, w_h0_settings, .ref h0_to, .ref h0_blocks, .int h0_broken, .int h0_brokenAt, .int p_3, .int v6_7, .int h0_begin, .int h0_copies, .int h0_literals, .int h0_parts, .int h0_frameBegin, .int h0_flags, .int h0_width, w_h0_size])), (h0_input, .inr (2, [.ref h0_input_held, .int h0_input_count])), (h0_input_held, .inl (cB, h0_input_held_n, .inl h0_input_held_f)), (h0_blocks, .inr (1, [.ref h0_blocks_facts, .int h0_blocks_count])), (h0_to, .inr (2, [.ref h0_to_held, .int h0_to_count])), (h0_blocks_facts, .inl (cI, h0_blocks_facts_n, .inl h0_blocks_facts_f)), (h0_to_held, .inl (cB, h0_to_held_n, .inl h0_to_held_f)), (h0_words, .inr (2, [.ref h0_words_held, .int h0_words_count])), (h0_words_held, .inl (cB, h0_words_held_n, .inl h0_words_held_f))] H → va_D A [(h0, .inr (5, [.ref h0_input, .ref h0_words, w_h0_settings, .ref h0_to, .ref h0_blocks, .int h0_broken, .int h0_brokenAt, .int p_3, .int v6_7, .int h0_begin, .int h0_copies, .int h0_literals, .int h0_parts, .int h0_frameBegin, .int h0_flags, .int h0_width, w_h0_size])), (h0_input, .inr (2, [.ref h0_input_held, .int h0_input_count])), (h0_input_held, .inl (cB, h0_input_held_n, .inl h0_input_held_f)), (h0_blocks, .inr (1, [.ref h0_blocks_facts, .int h0_blocks_count])), (h0_to, .inr (2, [.ref h0_to_held, .int h0_to_count])), (h0_blocks_facts, .inl (cI, h0_blocks_facts_n, .inl h0_blocks_facts_f)), (h0_to_held, .inl (cB, h0_to_held_n, .inl h0_to_held_f)), (h0_words, .inr (2, [.ref h0_words_held, .int h0_words_count])), (h0_words_held, .inl (cB, h0_words_held_n, .inl h0_words_held_f))] → va_S A s.heap H locs → lv_has ls 7 [(0, .ref h0), (1, .int h0_at), (5, .int s5)] → W p l e (rm_Opener_openFrameBlock) s m ([.ref h0] : List Value).toArray below meth c H locs 0 0 Q (F0 m 193 ls [.int s22, .ref h0]) := by
              intro s22 H locs ls hf hP hD hS hl
              unfold m_Opener_openFrameBlock_J193 at hf
              obtain ⟨x, hc, hf⟩ := bind_some hf
              obtain ⟨r23, u24, u25, u26, u27, u28, u29, u30, u31, u32⟩ := x
              dsimp only at hf
              refine nx_i (rn_V (As := [.int s22]) (rest := []) (n := 1) (ci := 5) (q0 := 0) ⟨hx, hb, hml, hown, hts⟩ (c_Opener_openSequences (l := l) (dC := dC) (dI := dI) (cB := cB) (cI := cI) (h0 := h0) (a1 := s22) (h0_to := h0_to) (h0_input := h0_input) (h0_input_held := h0_input_held) (h0_to_held := h0_to_held) (h0_words := h0_words) (h0_words_held := h0_words_held) (w_h0_settings := (w_h0_settings)) (w_h0_blocks := (.ref h0_blocks)) (h0_broken := h0_broken) (h0_brokenAt := h0_brokenAt) (h0_at := p_3) (h0_end := v6_7) (h0_begin := h0_begin) (h0_copies := h0_copies) (h0_literals := h0_literals) (h0_parts := h0_parts) (w_h0_frameBegin := (.int h0_frameBegin)) (w_h0_flags := (.int h0_flags)) (w_h0_width := (.int h0_width)) (w_h0_size := (w_h0_size)) (h0_to_count := h0_to_count) (h0_input_count := h0_input_count) (h0_input_held_n := h0_input_held_n) (h0_input_held_f := h0_input_held_f) (h0_to_held_n := h0_to_held_n) (h0_to_held_f := h0_to_held_f) (h0_words_count := h0_words_count) (h0_words_held_n := h0_words_held_n) (h0_words_held_f := h0_words_held_f) (o_h0_broken := u24) (o_h0_brokenAt := u25) (o_h0_at := u26) (o_h0_begin := u27) (o_h0_copies := u28) (o_h0_literals := u29) (o_h0_parts := u30) (o_h0_to_count := u31) (o_h0_to_held_f := u32) (o_r := r23) hc) (wV kw_854 kw_856 kw_22 kw_92 kw_857) (by decide +kernel) ⟨Nat.le_of_ble_eq_true rfl, Nat.le_of_ble_eq_true rfl⟩ hK hP hD hN hT hS (va_free (wc := [(h0, .inr (5, [.ref h0_input, .ref h0_words, w_h0_settings, .ref h0_to, .ref h0_blocks, .int h0_broken, .int h0_brokenAt, .int p_3, .int v6_7, .int h0_begin, .int h0_copies, .int h0_literals, .int h0_parts, .int h0_frameBegin, .int h0_flags, .int h0_width, w_h0_size])), (h0_to, .inr (2, [.ref h0_to_held, .int h0_to_count])), (h0_input, .inr (2, [.ref h0_input_held, .int h0_input_count])), (h0_input_held, .inl (cB, h0_input_held_n, .inl h0_input_held_f)), (h0_to_held, .inl (cB, h0_to_held_n, .inl h0_to_held_f)), (h0_words, .inr (2, [.ref h0_words_held, .int h0_words_count])), (h0_words_held, .inl (cB, h0_words_held_n, .inl h0_words_held_f))]) hD hS hA [0, 4, 1, 2, 6, 7, 8] rfl) [0, 4, 1, 2, 6, 7, 8] rfl (by decide) rfl rfl rfl hl.1 rfl (lv_room (Nat.le_of_ble_eq_true rfl)) dX6_openFrameBlock_193 ⟨Nat.le_of_ble_eq_true rfl, Nat.le_of_ble_eq_true rfl⟩) hP hD hS hA (wr := [(h0_blocks, .inr (1, [.ref h0_blocks_facts, .int h0_blocks_count])), (h0_blocks_facts, .inl (cI, h0_blocks_facts_n, .inl h0_blocks_facts_f))]) (w1 := [(h0, .inr (5, [.ref h0_input, .ref h0_words, w_h0_settings, .ref h0_to, .ref h0_blocks, .int u24, .int u25, .int u26, .int v6_7, .int u27, .int u28, .int u29, .int u30, .int h0_frameBegin, .int h0_flags, .int h0_width, w_h0_size])), (h0_to, .inr (2, [.ref h0_to_held, .int u31])), (h0_input, .inr (2, [.ref h0_input_held, .int h0_input_count])), (h0_input_held, .inl (cB, h0_input_held_n, .inl h0_input_held_f)), (h0_to_held, .inl (cB, h0_to_held_n, .inl u32)), (h0_words, .inr (2, [.ref h0_words_held, .int h0_words_count])), (h0_words_held, .inl (cB, h0_words_held_n, .inl h0_words_held_f))]) (ws' := [(h0, .inr (5, [.ref h0_input, .ref h0_words, w_h0_settings, .ref h0_to, .ref h0_blocks, .int u24, .int u25, .int u26, .int v6_7, .int u27, .int u28, .int u29, .int u30, .int h0_frameBegin, .int h0_flags, .int h0_width, w_h0_size])), (h0_input, .inr (2, [.ref h0_input_held, .int h0_input_count])), (h0_input_held, .inl (cB, h0_input_held_n, .inl h0_input_held_f)), (h0_blocks, .inr (1, [.ref h0_blocks_facts, .int h0_blocks_count])), (h0_to, .inr (2, [.ref h0_to_held, .int u31])), (h0_blocks_facts, .inl (cI, h0_blocks_facts_n, .inl h0_blocks_facts_f)), (h0_to_held, .inl (cB, h0_to_held_n, .inl u32)), (h0_words, .inr (2, [.ref h0_words_held, .int h0_words_count])), (h0_words_held, .inl (cB, h0_words_held_n, .inl h0_words_held_f))]) [0, 4, 1, 2, 6, 7, 8] [3, 5] [2, 4, 5, 0, 3, 1, 6, 7, 8] rfl rfl (by decide) (by decide) rfl (by decide) (fun H locs hP hD hS => ?_)
              refine lv_if_ne (tgt := 201) hx hb dX6_openFrameBlock_196 (by decide) (fun c_196 => ?_) (fun c_196 => ?_)
              · replace hf := if_f c_196 hf
                refine lv_aload_n hx hb dX6_openFrameBlock_201 rfl (lv_at hl 0 rfl) ?_
                refine lv_aload_n hx hb dX6_openFrameBlock_202 rfl (lv_at hl 0 rfl) ?_
                refine va_get (D := (dC, dI)) (ci := 5) (v := .ref h0_input) (C := RX6) (T := TX6) (N := 17) hx hb hts inG_X6 hown hK hP 0 rfl rfl 0 (by decide) (hts _ kw_289) (fun _ h9 => h9) rfl dX6_openFrameBlock_203 ?_
                obtain ⟨r33, hc, hf⟩ := bind_some hf
                refine nx_i (rn_V (As := []) (rest := [.ref h0]) (n := 0) (ci := 2) (q0 := 0) ⟨hx, hb, hml, hown, hts⟩ (c_Bytes_size (l := l) (dC := dC) (dI := dI) (cB := cB) (cI := cI) (h0 := h0_input) (w_h0_held := (.ref h0_input_held)) (h0_count := h0_input_count)  (o_r := r33) hc) (wV kw_849 kw_402 kw_403 kw_83 kw_404) (by decide +kernel) ⟨Nat.le_of_ble_eq_true rfl, Nat.le_of_ble_eq_true rfl⟩ hK hP hD hN hT hS (va_free (wc := [(h0_input, .inr (2, [.ref h0_input_held, .int h0_input_count]))]) hD hS hA [1] rfl) [1] rfl (by decide) rfl rfl rfl hl.1 rfl (lv_room (Nat.le_of_ble_eq_true rfl)) dX6_openFrameBlock_206 ⟨Nat.le_of_ble_eq_true rfl, Nat.le_of_ble_eq_true rfl⟩) hP hD hS hA (wr := [(h0, .inr (5, [.ref h0_input, .ref h0_words, w_h0_settings, .ref h0_to, .ref h0_blocks, .int u24, .int u25, .int u26, .int v6_7, .int u27, .int u28, .int u29, .int u30, .int h0_frameBegin, .int h0_flags, .int h0_width, w_h0_size])), (h0_input_held, .inl (cB, h0_input_held_n, .inl h0_input_held_f)), (h0_blocks, .inr (1, [.ref h0_blocks_facts, .int h0_blocks_count])), (h0_to, .inr (2, [.ref h0_to_held, .int u31])), (h0_blocks_facts, .inl (cI, h0_blocks_facts_n, .inl h0_blocks_facts_f)), (h0_to_held, .inl (cB, h0_to_held_n, .inl u32)), (h0_words, .inr (2, [.ref h0_words_held, .int h0_words_count])), (h0_words_held, .inl (cB, h0_words_held_n, .inl h0_words_held_f))]) (w1 := [(h0_input, .inr (2, [.ref h0_input_held, .int h0_input_count]))]) (ws' := [(h0, .inr (5, [.ref h0_input, .ref h0_words, w_h0_settings, .ref h0_to, .ref h0_blocks, .int u24, .int u25, .int u26, .int v6_7, .int u27, .int u28, .int u29, .int u30, .int h0_frameBegin, .int h0_flags, .int h0_width, w_h0_size])), (h0_input, .inr (2, [.ref h0_input_held, .int h0_input_count])), (h0_input_held, .inl (cB, h0_input_held_n, .inl h0_input_held_f)), (h0_blocks, .inr (1, [.ref h0_blocks_facts, .int h0_blocks_count])), (h0_to, .inr (2, [.ref h0_to_held, .int u31])), (h0_blocks_facts, .inl (cI, h0_blocks_facts_n, .inl h0_blocks_facts_f)), (h0_to_held, .inl (cB, h0_to_held_n, .inl u32)), (h0_words, .inr (2, [.ref h0_words_held, .int h0_words_count])), (h0_words_held, .inl (cB, h0_words_held_n, .inl h0_words_held_f))]) [1] [0, 2, 3, 4, 5, 6, 7, 8] [0, 8, 1, 2, 3, 4, 5, 6, 7] rfl rfl (by decide) (by decide) rfl (by decide) (fun H locs hP hD hS => ?_)
                refine va_put (D := (dC, dI)) (ci := 5) (v := .int r33) (ty := .int) (C := RX6) (T := TX6) (N := 17) hx hb hts inG_X6 tyX6 tyX6_ok nmX6 hown hK hP hD hS 0 rfl rfl 8 (by decide) (hts _ kw_297) (fun _ h9 => h9) rfl (by decide +kernel) rfl rfl (Nat.le_of_ble_eq_true rfl) dX6_openFrameBlock_209 (fun H locs hP hD hS => ?_)
                have hP : va_P (dC, dI) vwCl [(h0, .inr (5, [.ref h0_input, .ref h0_words, w_h0_settings, .ref h0_to, .ref h0_blocks, .int u24, .int u25, .int u26, .int r33, .int u27, .int u28, .int u29, .int u30, .int h0_frameBegin, .int h0_flags, .int h0_width, w_h0_size])), (h0_input, .inr (2, [.ref h0_input_held, .int h0_input_count])), (h0_input_held, .inl (cB, h0_input_held_n, .inl h0_input_held_f)), (h0_blocks, .inr (1, [.ref h0_blocks_facts, .int h0_blocks_count])), (h0_to, .inr (2, [.ref h0_to_held, .int u31])), (h0_blocks_facts, .inl (cI, h0_blocks_facts_n, .inl h0_blocks_facts_f)), (h0_to_held, .inl (cB, h0_to_held_n, .inl u32)), (h0_words, .inr (2, [.ref h0_words_held, .int h0_words_count])), (h0_words_held, .inl (cB, h0_words_held_n, .inl h0_words_held_f))] H := hP
                have hD : va_D A [(h0, .inr (5, [.ref h0_input, .ref h0_words, w_h0_settings, .ref h0_to, .ref h0_blocks, .int u24, .int u25, .int u26, .int r33, .int u27, .int u28, .int u29, .int u30, .int h0_frameBegin, .int h0_flags, .int h0_width, w_h0_size])), (h0_input, .inr (2, [.ref h0_input_held, .int h0_input_count])), (h0_input_held, .inl (cB, h0_input_held_n, .inl h0_input_held_f)), (h0_blocks, .inr (1, [.ref h0_blocks_facts, .int h0_blocks_count])), (h0_to, .inr (2, [.ref h0_to_held, .int u31])), (h0_blocks_facts, .inl (cI, h0_blocks_facts_n, .inl h0_blocks_facts_f)), (h0_to_held, .inl (cB, h0_to_held_n, .inl u32)), (h0_words, .inr (2, [.ref h0_words_held, .int h0_words_count])), (h0_words_held, .inl (cB, h0_words_held_n, .inl h0_words_held_f))] := hD
                refine lv_aload_n hx hb dX6_openFrameBlock_212 rfl (lv_at hl 0 rfl) ?_
                refine lv_iload_n hx hb dX6_openFrameBlock_213 rfl (lv_at hl 1 rfl) ?_
                refine lv_iconst (v := 4) hx hb dX6_openFrameBlock_214 (by decide) ?_
                refine lv_iadd hx hb dX6_openFrameBlock_215 ?_
                obtain ⟨x, hc, hf⟩ := bind_some hf
                obtain ⟨u34, u35⟩ := x
                dsimp only at hf
                refine nx_v (rn_V (As := [.int (h0_at + (4 : Int32))]) (rest := []) (n := 1) (ci := 5) (q0 := 0) ⟨hx, hb, hml, hown, hts⟩ (c_Opener_addPackedBlock (l := l) (dC := dC) (dI := dI) (cB := cB) (cI := cI) (h0 := h0) (a1 := (h0_at + (4 : Int32))) (h0_to := h0_to) (h0_blocks := h0_blocks) (h0_blocks_facts := h0_blocks_facts) (w_h0_input := (.ref h0_input)) (w_h0_words := (.ref h0_words)) (w_h0_settings := (w_h0_settings)) (w_h0_broken := (.int u24)) (w_h0_brokenAt := (.int u25)) (h0_at := u26) (w_h0_end := (.int r33)) (h0_begin := u27) (h0_copies := u28) (h0_literals := u29) (h0_parts := u30) (w_h0_frameBegin := (.int h0_frameBegin)) (w_h0_flags := (.int h0_flags)) (w_h0_width := (.int h0_width)) (w_h0_size := (w_h0_size)) (w_h0_to_held := (.ref h0_to_held)) (h0_to_count := u31) (h0_blocks_count := h0_blocks_count) (h0_blocks_facts_n := h0_blocks_facts_n) (h0_blocks_facts_f := h0_blocks_facts_f) (o_h0_blocks_count := u34) (o_h0_blocks_facts_f := u35) hc) (wV kw_904 kw_906 kw_31 kw_92 kw_907) (by decide +kernel) ⟨Nat.le_of_ble_eq_true rfl, Nat.le_of_ble_eq_true rfl⟩ hK hP hD hN hT hS (va_free (wc := [(h0, .inr (5, [.ref h0_input, .ref h0_words, w_h0_settings, .ref h0_to, .ref h0_blocks, .int u24, .int u25, .int u26, .int r33, .int u27, .int u28, .int u29, .int u30, .int h0_frameBegin, .int h0_flags, .int h0_width, w_h0_size])), (h0_to, .inr (2, [.ref h0_to_held, .int u31])), (h0_blocks, .inr (1, [.ref h0_blocks_facts, .int h0_blocks_count])), (h0_blocks_facts, .inl (cI, h0_blocks_facts_n, .inl h0_blocks_facts_f))]) hD hS hA [0, 4, 3, 5] rfl) [0, 4, 3, 5] rfl (by decide) rfl rfl rfl hl.1 rfl (lv_room (Nat.le_of_ble_eq_true rfl)) dX6_openFrameBlock_216 ⟨Nat.le_of_ble_eq_true rfl, Nat.le_of_ble_eq_true rfl⟩) hP hD hS hA (wr := [(h0_input, .inr (2, [.ref h0_input_held, .int h0_input_count])), (h0_input_held, .inl (cB, h0_input_held_n, .inl h0_input_held_f)), (h0_to_held, .inl (cB, h0_to_held_n, .inl u32)), (h0_words, .inr (2, [.ref h0_words_held, .int h0_words_count])), (h0_words_held, .inl (cB, h0_words_held_n, .inl h0_words_held_f))]) (w1 := [(h0, .inr (5, [.ref h0_input, .ref h0_words, w_h0_settings, .ref h0_to, .ref h0_blocks, .int u24, .int u25, .int u26, .int r33, .int u27, .int u28, .int u29, .int u30, .int h0_frameBegin, .int h0_flags, .int h0_width, w_h0_size])), (h0_to, .inr (2, [.ref h0_to_held, .int u31])), (h0_blocks, .inr (1, [.ref h0_blocks_facts, .int u34])), (h0_blocks_facts, .inl (cI, h0_blocks_facts_n, .inl u35))]) (ws' := [(h0, .inr (5, [.ref h0_input, .ref h0_words, w_h0_settings, .ref h0_to, .ref h0_blocks, .int u24, .int u25, .int u26, .int r33, .int u27, .int u28, .int u29, .int u30, .int h0_frameBegin, .int h0_flags, .int h0_width, w_h0_size])), (h0_input, .inr (2, [.ref h0_input_held, .int h0_input_count])), (h0_input_held, .inl (cB, h0_input_held_n, .inl h0_input_held_f)), (h0_blocks, .inr (1, [.ref h0_blocks_facts, .int u34])), (h0_to, .inr (2, [.ref h0_to_held, .int u31])), (h0_blocks_facts, .inl (cI, h0_blocks_facts_n, .inl u35)), (h0_to_held, .inl (cB, h0_to_held_n, .inl u32)), (h0_words, .inr (2, [.ref h0_words_held, .int h0_words_count])), (h0_words_held, .inl (cB, h0_words_held_n, .inl h0_words_held_f))]) [0, 4, 3, 5] [1, 2, 6, 7, 8] [5, 0, 1, 7, 6, 8, 2, 3, 4] rfl rfl (by decide) (by decide) rfl (by decide) (fun H locs hP hD hS => ?_)
                exact hJ_219 u35 u32 u28 u29 u30 u24 u25 u26 r33 u27 u34 u31 _ _ _ hf hP hD hS (lv_sub hl [0, 2] rfl)
              · replace hf := if_t c_196 hf
                refine lv_iconst (v := 0) hx hb dX6_openFrameBlock_199 (by decide) ?_
                have hzb : narrow .boolean (.int (0 : Int32)) = .int (0 : Int32) := rfl
                obtain ⟨rfl, hq_1⟩ := Prod.mk.inj (Option.some.inj hf)
                obtain ⟨rfl, hq_2⟩ := Prod.mk.inj hq_1
                obtain ⟨rfl, hq_3⟩ := Prod.mk.inj hq_2
                obtain ⟨rfl, hq_4⟩ := Prod.mk.inj hq_3
                obtain ⟨rfl, hq_5⟩ := Prod.mk.inj hq_4
                obtain ⟨rfl, hq_6⟩ := Prod.mk.inj hq_5
                obtain ⟨rfl, hq_7⟩ := Prod.mk.inj hq_6
                obtain ⟨rfl, hq_8⟩ := Prod.mk.inj hq_7
                obtain ⟨rfl, hq_9⟩ := Prod.mk.inj hq_8
                obtain ⟨rfl, hq_10⟩ := Prod.mk.inj hq_9
                obtain ⟨rfl, hq_11⟩ := Prod.mk.inj hq_10
                obtain ⟨rfl, hq_12⟩ := Prod.mk.inj hq_11
                obtain rfl := hq_12
                exact rt_z hQ hx hb hr hzb hlocks hP hD hS dX6_openFrameBlock_200
            refine lv_if_eq (tgt := 189) hx hb dX6_openFrameBlock_176 (by decide) (fun c_176 => ?_) (fun c_176 => ?_)
            · replace hf := if_t c_176 hf
              refine lv_aload_n hx hb dX6_openFrameBlock_189 rfl (lv_at hl 0 rfl) ?_
              refine va_get (D := (dC, dI)) (ci := 5) (v := .int h0_frameBegin) (C := RX6) (T := TX6) (N := 17) hx hb hts inG_X6 hown hK hP 0 rfl rfl 13 (by decide) (hts _ kw_302) (fun _ h9 => h9) rfl dX6_openFrameBlock_190 ?_
              exact hJ_193 h0_frameBegin _ _ _ hf hP hD hS (lv_sub hl [0, 1, 4] rfl)
            · replace hf := if_f c_176 hf
              refine lv_aload_n hx hb dX6_openFrameBlock_179 rfl (lv_at hl 0 rfl) ?_
              refine va_get (D := (dC, dI)) (ci := 5) (v := .ref h0_to) (C := RX6) (T := TX6) (N := 17) hx hb hts inG_X6 hown hK hP 0 rfl rfl 3 (by decide) (hts _ kw_292) (fun _ h9 => h9) rfl dX6_openFrameBlock_180 ?_
              obtain ⟨r36, hc, hf⟩ := bind_some hf
              refine nx_i (rn_V (As := []) (rest := [.ref h0]) (n := 0) (ci := 2) (q0 := 0) ⟨hx, hb, hml, hown, hts⟩ (c_Bytes_size (l := l) (dC := dC) (dI := dI) (cB := cB) (cI := cI) (h0 := h0_to) (w_h0_held := (.ref h0_to_held)) (h0_count := h0_to_count)  (o_r := r36) hc) (wV kw_849 kw_402 kw_403 kw_83 kw_404) (by decide +kernel) ⟨Nat.le_of_ble_eq_true rfl, Nat.le_of_ble_eq_true rfl⟩ hK hP hD hN hT hS (va_free (wc := [(h0_to, .inr (2, [.ref h0_to_held, .int h0_to_count]))]) hD hS hA [4] rfl) [4] rfl (by decide) rfl rfl rfl hl.1 rfl (lv_room (Nat.le_of_ble_eq_true rfl)) dX6_openFrameBlock_183 ⟨Nat.le_of_ble_eq_true rfl, Nat.le_of_ble_eq_true rfl⟩) hP hD hS hA (wr := [(h0, .inr (5, [.ref h0_input, .ref h0_words, w_h0_settings, .ref h0_to, .ref h0_blocks, .int h0_broken, .int h0_brokenAt, .int p_3, .int v6_7, .int h0_begin, .int h0_copies, .int h0_literals, .int h0_parts, .int h0_frameBegin, .int h0_flags, .int h0_width, w_h0_size])), (h0_input, .inr (2, [.ref h0_input_held, .int h0_input_count])), (h0_input_held, .inl (cB, h0_input_held_n, .inl h0_input_held_f)), (h0_blocks, .inr (1, [.ref h0_blocks_facts, .int h0_blocks_count])), (h0_blocks_facts, .inl (cI, h0_blocks_facts_n, .inl h0_blocks_facts_f)), (h0_to_held, .inl (cB, h0_to_held_n, .inl h0_to_held_f)), (h0_words, .inr (2, [.ref h0_words_held, .int h0_words_count])), (h0_words_held, .inl (cB, h0_words_held_n, .inl h0_words_held_f))]) (w1 := [(h0_to, .inr (2, [.ref h0_to_held, .int h0_to_count]))]) (ws' := [(h0, .inr (5, [.ref h0_input, .ref h0_words, w_h0_settings, .ref h0_to, .ref h0_blocks, .int h0_broken, .int h0_brokenAt, .int p_3, .int v6_7, .int h0_begin, .int h0_copies, .int h0_literals, .int h0_parts, .int h0_frameBegin, .int h0_flags, .int h0_width, w_h0_size])), (h0_input, .inr (2, [.ref h0_input_held, .int h0_input_count])), (h0_input_held, .inl (cB, h0_input_held_n, .inl h0_input_held_f)), (h0_blocks, .inr (1, [.ref h0_blocks_facts, .int h0_blocks_count])), (h0_to, .inr (2, [.ref h0_to_held, .int h0_to_count])), (h0_blocks_facts, .inl (cI, h0_blocks_facts_n, .inl h0_blocks_facts_f)), (h0_to_held, .inl (cB, h0_to_held_n, .inl h0_to_held_f)), (h0_words, .inr (2, [.ref h0_words_held, .int h0_words_count])), (h0_words_held, .inl (cB, h0_words_held_n, .inl h0_words_held_f))]) [4] [0, 1, 2, 3, 5, 6, 7, 8] [0, 1, 2, 3, 8, 4, 5, 6, 7] rfl rfl (by decide) (by decide) rfl (by decide) (fun H locs hP hD hS => ?_)
              refine lv_goto (tgt := 193) hx hb dX6_openFrameBlock_186 (by decide) ?_
              exact hJ_193 r36 _ _ _ hf hP hD hS (lv_sub hl [0, 1, 4] rfl)
          · replace hf := if_f c_148 hf
            refine lv_aload_n hx hb dX6_openFrameBlock_151 rfl (lv_at hl 0 rfl) ?_
            refine lv_iload hx hb dX6_openFrameBlock_152 (lv_at hl 3 rfl) ?_
            refine lv_iload_n hx hb dX6_openFrameBlock_154 rfl (lv_at hl 1 rfl) ?_
            obtain ⟨x, hc, hf⟩ := bind_some hf
            obtain ⟨r37, u38, u39, u40, u41, u42, u43, u44⟩ := x
            dsimp only at hf
            refine nx_i (rn_V (As := [.int v4_2, .int h0_at]) (rest := []) (n := 2) (ci := 5) (q0 := 0) ⟨hx, hb, hml, hown, hts⟩ (c_Opener_openRaw (l := l) (dC := dC) (dI := dI) (cB := cB) (cI := cI) (h0 := h0) (a1 := v4_2) (a2 := h0_at) (h0_to := h0_to) (h0_blocks := h0_blocks) (h0_blocks_facts := h0_blocks_facts) (h0_input := h0_input) (h0_to_held := h0_to_held) (h0_input_held := h0_input_held) (w_h0_words := (.ref h0_words)) (w_h0_settings := (w_h0_settings)) (h0_broken := h0_broken) (h0_brokenAt := h0_brokenAt) (h0_at := p_3) (w_h0_end := (.int h0_end)) (w_h0_begin := (.int h0_begin)) (w_h0_copies := (.int h0_copies)) (w_h0_literals := (.int h0_literals)) (w_h0_parts := (.int h0_parts)) (w_h0_frameBegin := (.int h0_frameBegin)) (w_h0_flags := (.int h0_flags)) (w_h0_width := (.int h0_width)) (w_h0_size := (w_h0_size)) (h0_to_count := h0_to_count) (h0_blocks_count := h0_blocks_count) (h0_blocks_facts_n := h0_blocks_facts_n) (h0_blocks_facts_f := h0_blocks_facts_f) (h0_input_count := h0_input_count) (h0_to_held_n := h0_to_held_n) (h0_to_held_f := h0_to_held_f) (h0_input_held_n := h0_input_held_n) (h0_input_held_f := h0_input_held_f) (o_h0_broken := u38) (o_h0_brokenAt := u39) (o_h0_at := u40) (o_h0_to_count := u41) (o_h0_blocks_count := u42) (o_h0_blocks_facts_f := u43) (o_h0_to_held_f := u44) (o_r := r37) hc) (wV kw_947 kw_949 kw_39 kw_92 kw_950) (by decide +kernel) ⟨Nat.le_of_ble_eq_true rfl, Nat.le_of_ble_eq_true rfl⟩ hK hP hD hN hT hS (va_free (wc := [(h0, .inr (5, [.ref h0_input, .ref h0_words, w_h0_settings, .ref h0_to, .ref h0_blocks, .int h0_broken, .int h0_brokenAt, .int p_3, .int h0_end, .int h0_begin, .int h0_copies, .int h0_literals, .int h0_parts, .int h0_frameBegin, .int h0_flags, .int h0_width, w_h0_size])), (h0_to, .inr (2, [.ref h0_to_held, .int h0_to_count])), (h0_blocks, .inr (1, [.ref h0_blocks_facts, .int h0_blocks_count])), (h0_blocks_facts, .inl (cI, h0_blocks_facts_n, .inl h0_blocks_facts_f)), (h0_input, .inr (2, [.ref h0_input_held, .int h0_input_count])), (h0_to_held, .inl (cB, h0_to_held_n, .inl h0_to_held_f)), (h0_input_held, .inl (cB, h0_input_held_n, .inl h0_input_held_f))]) hD hS hA [0, 4, 3, 5, 1, 6, 2] rfl) [0, 4, 3, 5, 1, 6, 2] rfl (by decide) rfl rfl rfl hl.1 rfl (lv_room (Nat.le_of_ble_eq_true rfl)) dX6_openFrameBlock_155 ⟨Nat.le_of_ble_eq_true rfl, Nat.le_of_ble_eq_true rfl⟩) hP hD hS hA (wr := [(h0_words, .inr (2, [.ref h0_words_held, .int h0_words_count])), (h0_words_held, .inl (cB, h0_words_held_n, .inl h0_words_held_f))]) (w1 := [(h0, .inr (5, [.ref h0_input, .ref h0_words, w_h0_settings, .ref h0_to, .ref h0_blocks, .int u38, .int u39, .int u40, .int h0_end, .int h0_begin, .int h0_copies, .int h0_literals, .int h0_parts, .int h0_frameBegin, .int h0_flags, .int h0_width, w_h0_size])), (h0_to, .inr (2, [.ref h0_to_held, .int u41])), (h0_blocks, .inr (1, [.ref h0_blocks_facts, .int u42])), (h0_blocks_facts, .inl (cI, h0_blocks_facts_n, .inl u43)), (h0_input, .inr (2, [.ref h0_input_held, .int h0_input_count])), (h0_to_held, .inl (cB, h0_to_held_n, .inl u44)), (h0_input_held, .inl (cB, h0_input_held_n, .inl h0_input_held_f))]) (ws' := [(h0, .inr (5, [.ref h0_input, .ref h0_words, w_h0_settings, .ref h0_to, .ref h0_blocks, .int u38, .int u39, .int u40, .int h0_end, .int h0_begin, .int h0_copies, .int h0_literals, .int h0_parts, .int h0_frameBegin, .int h0_flags, .int h0_width, w_h0_size])), (h0_input, .inr (2, [.ref h0_input_held, .int h0_input_count])), (h0_input_held, .inl (cB, h0_input_held_n, .inl h0_input_held_f)), (h0_blocks, .inr (1, [.ref h0_blocks_facts, .int u42])), (h0_to, .inr (2, [.ref h0_to_held, .int u41])), (h0_blocks_facts, .inl (cI, h0_blocks_facts_n, .inl u43)), (h0_to_held, .inl (cB, h0_to_held_n, .inl u44)), (h0_words, .inr (2, [.ref h0_words_held, .int h0_words_count])), (h0_words_held, .inl (cB, h0_words_held_n, .inl h0_words_held_f))]) [0, 4, 3, 5, 1, 6, 2] [7, 8] [2, 6, 8, 4, 3, 5, 7, 0, 1] rfl rfl (by decide) (by decide) rfl (by decide) (fun H locs hP hD hS => ?_)
            refine lv_if_ne (tgt := 219) hx hb dX6_openFrameBlock_158 (by decide) (fun c_158 => ?_) (fun c_158 => ?_)
            · replace hf := if_f c_158 hf
              exact hJ_219 u43 u44 h0_copies h0_literals h0_parts u38 u39 u40 h0_end h0_begin u42 u41 _ _ _ hf hP hD hS (lv_sub hl [0, 4] rfl)
            · replace hf := if_t c_158 hf
              refine lv_iconst (v := 0) hx hb dX6_openFrameBlock_161 (by decide) ?_
              have hzb : narrow .boolean (.int (0 : Int32)) = .int (0 : Int32) := rfl
              obtain ⟨rfl, hq_1⟩ := Prod.mk.inj (Option.some.inj hf)
              obtain ⟨rfl, hq_2⟩ := Prod.mk.inj hq_1
              obtain ⟨rfl, hq_3⟩ := Prod.mk.inj hq_2
              obtain ⟨rfl, hq_4⟩ := Prod.mk.inj hq_3
              obtain ⟨rfl, hq_5⟩ := Prod.mk.inj hq_4
              obtain ⟨rfl, hq_6⟩ := Prod.mk.inj hq_5
              obtain ⟨rfl, hq_7⟩ := Prod.mk.inj hq_6
              obtain ⟨rfl, hq_8⟩ := Prod.mk.inj hq_7
              obtain ⟨rfl, hq_9⟩ := Prod.mk.inj hq_8
              obtain ⟨rfl, hq_10⟩ := Prod.mk.inj hq_9
              obtain ⟨rfl, hq_11⟩ := Prod.mk.inj hq_10
              obtain ⟨rfl, hq_12⟩ := Prod.mk.inj hq_11
              obtain rfl := hq_12
              exact rt_z hQ hx hb hr hzb hlocks hP hD hS dX6_openFrameBlock_162
        refine lv_if_le (tgt := 143) hx hb dX6_openFrameBlock_106 (by decide) (fun c_106 => ?_) (fun c_106 => ?_)
        · replace hf := if_t c_106 hf
          exact hJ_143  _ _ _ hf hP hD hS (lv_sub hl [2, 3, 4, 5, 1, 0] rfl)
        · replace hf := if_f c_106 hf
          refine lv_aload_n hx hb dX6_openFrameBlock_109 rfl (lv_at hl 2 rfl) ?_
          refine va_get (D := (dC, dI)) (ci := 5) (v := .ref h0_input) (C := RX6) (T := TX6) (N := 17) hx hb hts inG_X6 hown hK hP 0 rfl rfl 0 (by decide) (hts _ kw_289) (fun _ h9 => h9) rfl dX6_openFrameBlock_110 ?_
          refine lv_iload hx hb dX6_openFrameBlock_113 (lv_at hl 0 rfl) ?_
          obtain ⟨r45, hc, hf⟩ := bind_some hf
          refine nx_i (rn_V (As := [.int v6_7]) (rest := []) (n := 1) (ci := 2) (q0 := 0) ⟨hx, hb, hml, hown, hts⟩ (c_Bytes_number32 (l := l) (dC := dC) (dI := dI) (cB := cB) (cI := cI) (h0 := h0_input) (a1 := v6_7) (h0_held := h0_input_held) (h0_count := h0_input_count) (h0_held_n := h0_input_held_n) (h0_held_f := h0_input_held_f)  (o_r := r45) hc) (wV kw_937 kw_757 kw_758 kw_83 kw_759) (by decide +kernel) ⟨Nat.le_of_ble_eq_true rfl, Nat.le_of_ble_eq_true rfl⟩ hK hP hD hN hT hS (va_free (wc := [(h0_input, .inr (2, [.ref h0_input_held, .int h0_input_count])), (h0_input_held, .inl (cB, h0_input_held_n, .inl h0_input_held_f))]) hD hS hA [1, 2] rfl) [1, 2] rfl (by decide) rfl rfl rfl hl.1 rfl (lv_room (Nat.le_of_ble_eq_true rfl)) dX6_openFrameBlock_115 ⟨Nat.le_of_ble_eq_true rfl, Nat.le_of_ble_eq_true rfl⟩) hP hD hS hA (wr := [(h0, .inr (5, [.ref h0_input, .ref h0_words, w_h0_settings, .ref h0_to, .ref h0_blocks, .int h0_broken, .int h0_brokenAt, .int p_3, .int h0_end, .int h0_begin, .int h0_copies, .int h0_literals, .int h0_parts, .int h0_frameBegin, .int h0_flags, .int h0_width, w_h0_size])), (h0_blocks, .inr (1, [.ref h0_blocks_facts, .int h0_blocks_count])), (h0_to, .inr (2, [.ref h0_to_held, .int h0_to_count])), (h0_blocks_facts, .inl (cI, h0_blocks_facts_n, .inl h0_blocks_facts_f)), (h0_to_held, .inl (cB, h0_to_held_n, .inl h0_to_held_f)), (h0_words, .inr (2, [.ref h0_words_held, .int h0_words_count])), (h0_words_held, .inl (cB, h0_words_held_n, .inl h0_words_held_f))]) (w1 := [(h0_input, .inr (2, [.ref h0_input_held, .int h0_input_count])), (h0_input_held, .inl (cB, h0_input_held_n, .inl h0_input_held_f))]) (ws' := [(h0, .inr (5, [.ref h0_input, .ref h0_words, w_h0_settings, .ref h0_to, .ref h0_blocks, .int h0_broken, .int h0_brokenAt, .int p_3, .int h0_end, .int h0_begin, .int h0_copies, .int h0_literals, .int h0_parts, .int h0_frameBegin, .int h0_flags, .int h0_width, w_h0_size])), (h0_input, .inr (2, [.ref h0_input_held, .int h0_input_count])), (h0_input_held, .inl (cB, h0_input_held_n, .inl h0_input_held_f)), (h0_blocks, .inr (1, [.ref h0_blocks_facts, .int h0_blocks_count])), (h0_to, .inr (2, [.ref h0_to_held, .int h0_to_count])), (h0_blocks_facts, .inl (cI, h0_blocks_facts_n, .inl h0_blocks_facts_f)), (h0_to_held, .inl (cB, h0_to_held_n, .inl h0_to_held_f)), (h0_words, .inr (2, [.ref h0_words_held, .int h0_words_count])), (h0_words_held, .inl (cB, h0_words_held_n, .inl h0_words_held_f))]) [1, 2] [0, 3, 4, 5, 6, 7, 8] [0, 7, 8, 1, 2, 3, 4, 5, 6] rfl rfl (by decide) (by decide) rfl (by decide) (fun H locs hP hD hS => ?_)
          refine lv_aload_n hx hb dX6_openFrameBlock_118 rfl (lv_at hl 2 rfl) ?_
          refine va_get (D := (dC, dI)) (ci := 5) (v := .ref h0_input) (C := RX6) (T := TX6) (N := 17) hx hb hts inG_X6 hown hK hP 0 rfl rfl 0 (by decide) (hts _ kw_289) (fun _ h9 => h9) rfl dX6_openFrameBlock_119 ?_
          refine lv_aload_n hx hb dX6_openFrameBlock_122 rfl (lv_at hl 2 rfl) ?_
          refine va_get (D := (dC, dI)) (ci := 5) (v := .int p_3) (C := RX6) (T := TX6) (N := 17) hx hb hts inG_X6 hown hK hP 0 rfl rfl 7 (by decide) (hts _ kw_296) (fun _ h9 => h9) rfl dX6_openFrameBlock_123 ?_
          refine lv_iload hx hb dX6_openFrameBlock_126 (lv_at hl 5 rfl) ?_
          obtain ⟨r46, hc, hf⟩ := bind_some hf
          refine nx_i (rn_S (As := [.ref h0_input, .int p_3, .int v4_2]) (rest := [.int r45]) (n := 3) ⟨hx, hb, hml, hown, hts⟩ (c_Sums_sumOf (l := l) (dC := dC) (dI := dI) (cB := cB) (cI := cI) (h0 := h0_input) (a1 := p_3) (a2 := v4_2) (h0_held := h0_input_held) (h0_count := h0_input_count) (h0_held_n := h0_input_held_n) (h0_held_f := h0_input_held_f)  (o_r := r46) hc) (wS kw_936 kw_748 kw_97 kw_749) (by decide +kernel) ⟨Nat.le_of_ble_eq_true rfl, Nat.le_of_ble_eq_true rfl⟩ hK hP hD hN hT hS (va_free (wc := [(h0_input, .inr (2, [.ref h0_input_held, .int h0_input_count])), (h0_input_held, .inl (cB, h0_input_held_n, .inl h0_input_held_f))]) hD hS hA [1, 2] rfl) [1, 2] rfl (by decide) rfl hl.1 rfl (lv_room (Nat.le_of_ble_eq_true rfl)) dX6_openFrameBlock_128 ⟨Nat.le_of_ble_eq_true rfl, Nat.le_of_ble_eq_true rfl⟩) hP hD hS hA (wr := [(h0, .inr (5, [.ref h0_input, .ref h0_words, w_h0_settings, .ref h0_to, .ref h0_blocks, .int h0_broken, .int h0_brokenAt, .int p_3, .int h0_end, .int h0_begin, .int h0_copies, .int h0_literals, .int h0_parts, .int h0_frameBegin, .int h0_flags, .int h0_width, w_h0_size])), (h0_blocks, .inr (1, [.ref h0_blocks_facts, .int h0_blocks_count])), (h0_to, .inr (2, [.ref h0_to_held, .int h0_to_count])), (h0_blocks_facts, .inl (cI, h0_blocks_facts_n, .inl h0_blocks_facts_f)), (h0_to_held, .inl (cB, h0_to_held_n, .inl h0_to_held_f)), (h0_words, .inr (2, [.ref h0_words_held, .int h0_words_count])), (h0_words_held, .inl (cB, h0_words_held_n, .inl h0_words_held_f))]) (w1 := [(h0_input, .inr (2, [.ref h0_input_held, .int h0_input_count])), (h0_input_held, .inl (cB, h0_input_held_n, .inl h0_input_held_f))]) (ws' := [(h0, .inr (5, [.ref h0_input, .ref h0_words, w_h0_settings, .ref h0_to, .ref h0_blocks, .int h0_broken, .int h0_brokenAt, .int p_3, .int h0_end, .int h0_begin, .int h0_copies, .int h0_literals, .int h0_parts, .int h0_frameBegin, .int h0_flags, .int h0_width, w_h0_size])), (h0_input, .inr (2, [.ref h0_input_held, .int h0_input_count])), (h0_input_held, .inl (cB, h0_input_held_n, .inl h0_input_held_f)), (h0_blocks, .inr (1, [.ref h0_blocks_facts, .int h0_blocks_count])), (h0_to, .inr (2, [.ref h0_to_held, .int h0_to_count])), (h0_blocks_facts, .inl (cI, h0_blocks_facts_n, .inl h0_blocks_facts_f)), (h0_to_held, .inl (cB, h0_to_held_n, .inl h0_to_held_f)), (h0_words, .inr (2, [.ref h0_words_held, .int h0_words_count])), (h0_words_held, .inl (cB, h0_words_held_n, .inl h0_words_held_f))]) [1, 2] [0, 3, 4, 5, 6, 7, 8] [0, 7, 8, 1, 2, 3, 4, 5, 6] rfl rfl (by decide) (by decide) rfl (by decide) (fun H locs hP hD hS => ?_)
          refine lv_icmp_eq (tgt := 143) hx hb dX6_openFrameBlock_131 (by decide) (fun c_131 => ?_) (fun c_131 => ?_)
          · replace hf := if_t c_131 hf
            exact hJ_143  _ _ _ hf hP hD hS (lv_sub hl [2, 3, 4, 5, 1, 0] rfl)
          · replace hf := if_f c_131 hf
            refine lv_aload_n hx hb dX6_openFrameBlock_134 rfl (lv_at hl 2 rfl) ?_
            refine lv_bipush (v := 8) hx hb dX6_openFrameBlock_135 (by decide) ?_
            refine lv_iload hx hb dX6_openFrameBlock_137 (lv_at hl 0 rfl) ?_
            obtain ⟨x, hc, hf⟩ := bind_some hf
            obtain ⟨r47, u48, u49⟩ := x
            dsimp only at hf
            refine nx_i (rn_V (As := [.int (8 : Int32), .int v6_7]) (rest := []) (n := 2) (ci := 5) (q0 := 0) ⟨hx, hb, hml, hown, hts⟩ (c_Opener_breaks (l := l) (dC := dC) (dI := dI) (cB := cB) (cI := cI) (h0 := h0) (a1 := (8 : Int32)) (a2 := v6_7) (w_h0_input := (.ref h0_input)) (w_h0_words := (.ref h0_words)) (w_h0_settings := (w_h0_settings)) (w_h0_to := (.ref h0_to)) (w_h0_blocks := (.ref h0_blocks)) (h0_broken := h0_broken) (h0_brokenAt := h0_brokenAt) (w_h0_at := (.int p_3)) (w_h0_end := (.int h0_end)) (w_h0_begin := (.int h0_begin)) (w_h0_copies := (.int h0_copies)) (w_h0_literals := (.int h0_literals)) (w_h0_parts := (.int h0_parts)) (w_h0_frameBegin := (.int h0_frameBegin)) (w_h0_flags := (.int h0_flags)) (w_h0_width := (.int h0_width)) (w_h0_size := (w_h0_size)) (o_h0_broken := u48) (o_h0_brokenAt := u49) (o_r := r47) hc) (wV kw_871 kw_873 kw_26 kw_92 kw_874) (by decide +kernel) ⟨Nat.le_of_ble_eq_true rfl, Nat.le_of_ble_eq_true rfl⟩ hK hP hD hN hT hS (va_free (wc := [(h0, .inr (5, [.ref h0_input, .ref h0_words, w_h0_settings, .ref h0_to, .ref h0_blocks, .int h0_broken, .int h0_brokenAt, .int p_3, .int h0_end, .int h0_begin, .int h0_copies, .int h0_literals, .int h0_parts, .int h0_frameBegin, .int h0_flags, .int h0_width, w_h0_size]))]) hD hS hA [0] rfl) [0] rfl (by decide) rfl rfl rfl hl.1 rfl (lv_room (Nat.le_of_ble_eq_true rfl)) dX6_openFrameBlock_139 ⟨Nat.le_of_ble_eq_true rfl, Nat.le_of_ble_eq_true rfl⟩) hP hD hS hA (wr := [(h0_input, .inr (2, [.ref h0_input_held, .int h0_input_count])), (h0_input_held, .inl (cB, h0_input_held_n, .inl h0_input_held_f)), (h0_blocks, .inr (1, [.ref h0_blocks_facts, .int h0_blocks_count])), (h0_to, .inr (2, [.ref h0_to_held, .int h0_to_count])), (h0_blocks_facts, .inl (cI, h0_blocks_facts_n, .inl h0_blocks_facts_f)), (h0_to_held, .inl (cB, h0_to_held_n, .inl h0_to_held_f)), (h0_words, .inr (2, [.ref h0_words_held, .int h0_words_count])), (h0_words_held, .inl (cB, h0_words_held_n, .inl h0_words_held_f))]) (w1 := [(h0, .inr (5, [.ref h0_input, .ref h0_words, w_h0_settings, .ref h0_to, .ref h0_blocks, .int u48, .int u49, .int p_3, .int h0_end, .int h0_begin, .int h0_copies, .int h0_literals, .int h0_parts, .int h0_frameBegin, .int h0_flags, .int h0_width, w_h0_size]))]) (ws' := [(h0, .inr (5, [.ref h0_input, .ref h0_words, w_h0_settings, .ref h0_to, .ref h0_blocks, .int u48, .int u49, .int p_3, .int h0_end, .int h0_begin, .int h0_copies, .int h0_literals, .int h0_parts, .int h0_frameBegin, .int h0_flags, .int h0_width, w_h0_size])), (h0_input, .inr (2, [.ref h0_input_held, .int h0_input_count])), (h0_input_held, .inl (cB, h0_input_held_n, .inl h0_input_held_f)), (h0_blocks, .inr (1, [.ref h0_blocks_facts, .int h0_blocks_count])), (h0_to, .inr (2, [.ref h0_to_held, .int h0_to_count])), (h0_blocks_facts, .inl (cI, h0_blocks_facts_n, .inl h0_blocks_facts_f)), (h0_to_held, .inl (cB, h0_to_held_n, .inl h0_to_held_f)), (h0_words, .inr (2, [.ref h0_words_held, .int h0_words_count])), (h0_words_held, .inl (cB, h0_words_held_n, .inl h0_words_held_f))]) [0] [1, 2, 3, 4, 5, 6, 7, 8] [8, 0, 1, 2, 3, 4, 5, 6, 7] rfl rfl (by decide) (by decide) rfl (by decide) (fun H locs hP hD hS => ?_)
            obtain ⟨hzb, hf⟩ := bch_some hf
            obtain ⟨rfl, hq_1⟩ := Prod.mk.inj (Option.some.inj hf)
            obtain ⟨rfl, hq_2⟩ := Prod.mk.inj hq_1
            obtain ⟨rfl, hq_3⟩ := Prod.mk.inj hq_2
            obtain ⟨rfl, hq_4⟩ := Prod.mk.inj hq_3
            obtain ⟨rfl, hq_5⟩ := Prod.mk.inj hq_4
            obtain ⟨rfl, hq_6⟩ := Prod.mk.inj hq_5
            obtain ⟨rfl, hq_7⟩ := Prod.mk.inj hq_6
            obtain ⟨rfl, hq_8⟩ := Prod.mk.inj hq_7
            obtain ⟨rfl, hq_9⟩ := Prod.mk.inj hq_8
            obtain ⟨rfl, hq_10⟩ := Prod.mk.inj hq_9
            obtain ⟨rfl, hq_11⟩ := Prod.mk.inj hq_10
            obtain ⟨rfl, hq_12⟩ := Prod.mk.inj hq_11
            obtain rfl := hq_12
            exact rt_z hQ hx hb hr hzb hlocks hP hD hS dX6_openFrameBlock_142
      · replace hf := if_f c_82 hf
        refine lv_aload_n hx hb dX6_openFrameBlock_85 rfl (lv_at hl 1 rfl) ?_
        refine lv_iconst (v := 1) hx hb dX6_openFrameBlock_86 (by decide) ?_
        refine lv_aload_n hx hb dX6_openFrameBlock_87 rfl (lv_at hl 1 rfl) ?_
        refine va_get (D := (dC, dI)) (ci := 5) (v := .int h0_end) (C := RX6) (T := TX6) (N := 17) hx hb hts inG_X6 hown hK hP 0 rfl rfl 8 (by decide) (hts _ kw_297) (fun _ h9 => h9) rfl dX6_openFrameBlock_88 ?_
        obtain ⟨x, hc, hf⟩ := bind_some hf
        obtain ⟨r50, u51, u52⟩ := x
        dsimp only at hf
        refine nx_i (rn_V (As := [.int (1 : Int32), .int h0_end]) (rest := []) (n := 2) (ci := 5) (q0 := 0) ⟨hx, hb, hml, hown, hts⟩ (c_Opener_breaks (l := l) (dC := dC) (dI := dI) (cB := cB) (cI := cI) (h0 := h0) (a1 := (1 : Int32)) (a2 := h0_end) (w_h0_input := (.ref h0_input)) (w_h0_words := (.ref h0_words)) (w_h0_settings := (w_h0_settings)) (w_h0_to := (.ref h0_to)) (w_h0_blocks := (.ref h0_blocks)) (h0_broken := h0_broken) (h0_brokenAt := h0_brokenAt) (w_h0_at := (.int p_3)) (w_h0_end := (.int h0_end)) (w_h0_begin := (.int h0_begin)) (w_h0_copies := (.int h0_copies)) (w_h0_literals := (.int h0_literals)) (w_h0_parts := (.int h0_parts)) (w_h0_frameBegin := (.int h0_frameBegin)) (w_h0_flags := (.int h0_flags)) (w_h0_width := (.int h0_width)) (w_h0_size := (w_h0_size)) (o_h0_broken := u51) (o_h0_brokenAt := u52) (o_r := r50) hc) (wV kw_871 kw_873 kw_26 kw_92 kw_874) (by decide +kernel) ⟨Nat.le_of_ble_eq_true rfl, Nat.le_of_ble_eq_true rfl⟩ hK hP hD hN hT hS (va_free (wc := [(h0, .inr (5, [.ref h0_input, .ref h0_words, w_h0_settings, .ref h0_to, .ref h0_blocks, .int h0_broken, .int h0_brokenAt, .int p_3, .int h0_end, .int h0_begin, .int h0_copies, .int h0_literals, .int h0_parts, .int h0_frameBegin, .int h0_flags, .int h0_width, w_h0_size]))]) hD hS hA [0] rfl) [0] rfl (by decide) rfl rfl rfl hl.1 rfl (lv_room (Nat.le_of_ble_eq_true rfl)) dX6_openFrameBlock_91 ⟨Nat.le_of_ble_eq_true rfl, Nat.le_of_ble_eq_true rfl⟩) hP hD hS hA (wr := [(h0_input, .inr (2, [.ref h0_input_held, .int h0_input_count])), (h0_input_held, .inl (cB, h0_input_held_n, .inl h0_input_held_f)), (h0_blocks, .inr (1, [.ref h0_blocks_facts, .int h0_blocks_count])), (h0_to, .inr (2, [.ref h0_to_held, .int h0_to_count])), (h0_blocks_facts, .inl (cI, h0_blocks_facts_n, .inl h0_blocks_facts_f)), (h0_to_held, .inl (cB, h0_to_held_n, .inl h0_to_held_f)), (h0_words, .inr (2, [.ref h0_words_held, .int h0_words_count])), (h0_words_held, .inl (cB, h0_words_held_n, .inl h0_words_held_f))]) (w1 := [(h0, .inr (5, [.ref h0_input, .ref h0_words, w_h0_settings, .ref h0_to, .ref h0_blocks, .int u51, .int u52, .int p_3, .int h0_end, .int h0_begin, .int h0_copies, .int h0_literals, .int h0_parts, .int h0_frameBegin, .int h0_flags, .int h0_width, w_h0_size]))]) (ws' := [(h0, .inr (5, [.ref h0_input, .ref h0_words, w_h0_settings, .ref h0_to, .ref h0_blocks, .int u51, .int u52, .int p_3, .int h0_end, .int h0_begin, .int h0_copies, .int h0_literals, .int h0_parts, .int h0_frameBegin, .int h0_flags, .int h0_width, w_h0_size])), (h0_input, .inr (2, [.ref h0_input_held, .int h0_input_count])), (h0_input_held, .inl (cB, h0_input_held_n, .inl h0_input_held_f)), (h0_blocks, .inr (1, [.ref h0_blocks_facts, .int h0_blocks_count])), (h0_to, .inr (2, [.ref h0_to_held, .int h0_to_count])), (h0_blocks_facts, .inl (cI, h0_blocks_facts_n, .inl h0_blocks_facts_f)), (h0_to_held, .inl (cB, h0_to_held_n, .inl h0_to_held_f)), (h0_words, .inr (2, [.ref h0_words_held, .int h0_words_count])), (h0_words_held, .inl (cB, h0_words_held_n, .inl h0_words_held_f))]) [0] [1, 2, 3, 4, 5, 6, 7, 8] [8, 0, 1, 2, 3, 4, 5, 6, 7] rfl rfl (by decide) (by decide) rfl (by decide) (fun H locs hP hD hS => ?_)
        obtain ⟨hzb, hf⟩ := bch_some hf
        obtain ⟨rfl, hq_1⟩ := Prod.mk.inj (Option.some.inj hf)
        obtain ⟨rfl, hq_2⟩ := Prod.mk.inj hq_1
        obtain ⟨rfl, hq_3⟩ := Prod.mk.inj hq_2
        obtain ⟨rfl, hq_4⟩ := Prod.mk.inj hq_3
        obtain ⟨rfl, hq_5⟩ := Prod.mk.inj hq_4
        obtain ⟨rfl, hq_6⟩ := Prod.mk.inj hq_5
        obtain ⟨rfl, hq_7⟩ := Prod.mk.inj hq_6
        obtain ⟨rfl, hq_8⟩ := Prod.mk.inj hq_7
        obtain ⟨rfl, hq_9⟩ := Prod.mk.inj hq_8
        obtain ⟨rfl, hq_10⟩ := Prod.mk.inj hq_9
        obtain ⟨rfl, hq_11⟩ := Prod.mk.inj hq_10
        obtain ⟨rfl, hq_12⟩ := Prod.mk.inj hq_11
        obtain rfl := hq_12
        exact rt_z hQ hx hb hr hzb hlocks hP hD hS dX6_openFrameBlock_94
    refine lv_if_eq (tgt := 70) hx hb dX6_openFrameBlock_63 (by decide) (fun c_63 => ?_) (fun c_63 => ?_)
    · replace hf := if_t c_63 hf
      refine lv_iconst (v := 0) hx hb dX6_openFrameBlock_70 (by decide) ?_
      exact hJ_71 (0 : Int32) _ _ _ hf hP hD hS (lv_sub hl [3, 2, 1, 0] rfl)
    · replace hf := if_f c_63 hf
      refine lv_iconst (v := 4) hx hb dX6_openFrameBlock_66 (by decide) ?_
      refine lv_goto (tgt := 71) hx hb dX6_openFrameBlock_67 (by decide) ?_
      exact hJ_71 (4 : Int32) _ _ _ hf hP hD hS (lv_sub hl [3, 2, 1, 0] rfl)
  · replace hf := if_f c_36 hf
    refine lv_aload_n hx hb dX6_openFrameBlock_39 rfl (lv_at hl 3 rfl) ?_
    refine lv_bipush (v := 7) hx hb dX6_openFrameBlock_40 (by decide) ?_
    refine lv_iload_n hx hb dX6_openFrameBlock_42 rfl (lv_at hl 2 rfl) ?_
    obtain ⟨x, hc, hf⟩ := bind_some hf
    obtain ⟨r53, u54, u55⟩ := x
    dsimp only at hf
    refine nx_i (rn_V (As := [.int (7 : Int32), .int h0_at]) (rest := []) (n := 2) (ci := 5) (q0 := 0) ⟨hx, hb, hml, hown, hts⟩ (c_Opener_breaks (l := l) (dC := dC) (dI := dI) (cB := cB) (cI := cI) (h0 := h0) (a1 := (7 : Int32)) (a2 := h0_at) (w_h0_input := (.ref h0_input)) (w_h0_words := (.ref h0_words)) (w_h0_settings := (w_h0_settings)) (w_h0_to := (.ref h0_to)) (w_h0_blocks := (.ref h0_blocks)) (h0_broken := h0_broken) (h0_brokenAt := h0_brokenAt) (w_h0_at := (.int h0_at)) (w_h0_end := (.int h0_end)) (w_h0_begin := (.int h0_begin)) (w_h0_copies := (.int h0_copies)) (w_h0_literals := (.int h0_literals)) (w_h0_parts := (.int h0_parts)) (w_h0_frameBegin := (.int h0_frameBegin)) (w_h0_flags := (.int h0_flags)) (w_h0_width := (.int h0_width)) (w_h0_size := (w_h0_size)) (o_h0_broken := u54) (o_h0_brokenAt := u55) (o_r := r53) hc) (wV kw_871 kw_873 kw_26 kw_92 kw_874) (by decide +kernel) ⟨Nat.le_of_ble_eq_true rfl, Nat.le_of_ble_eq_true rfl⟩ hK hP hD hN hT hS (va_free (wc := [(h0, .inr (5, [.ref h0_input, .ref h0_words, w_h0_settings, .ref h0_to, .ref h0_blocks, .int h0_broken, .int h0_brokenAt, .int h0_at, .int h0_end, .int h0_begin, .int h0_copies, .int h0_literals, .int h0_parts, .int h0_frameBegin, .int h0_flags, .int h0_width, w_h0_size]))]) hD hS hA [0] rfl) [0] rfl (by decide) rfl rfl rfl hl.1 rfl (lv_room (Nat.le_of_ble_eq_true rfl)) dX6_openFrameBlock_43 ⟨Nat.le_of_ble_eq_true rfl, Nat.le_of_ble_eq_true rfl⟩) hP hD hS hA (wr := [(h0_input, .inr (2, [.ref h0_input_held, .int h0_input_count])), (h0_input_held, .inl (cB, h0_input_held_n, .inl h0_input_held_f)), (h0_blocks, .inr (1, [.ref h0_blocks_facts, .int h0_blocks_count])), (h0_to, .inr (2, [.ref h0_to_held, .int h0_to_count])), (h0_blocks_facts, .inl (cI, h0_blocks_facts_n, .inl h0_blocks_facts_f)), (h0_to_held, .inl (cB, h0_to_held_n, .inl h0_to_held_f)), (h0_words, .inr (2, [.ref h0_words_held, .int h0_words_count])), (h0_words_held, .inl (cB, h0_words_held_n, .inl h0_words_held_f))]) (w1 := [(h0, .inr (5, [.ref h0_input, .ref h0_words, w_h0_settings, .ref h0_to, .ref h0_blocks, .int u54, .int u55, .int h0_at, .int h0_end, .int h0_begin, .int h0_copies, .int h0_literals, .int h0_parts, .int h0_frameBegin, .int h0_flags, .int h0_width, w_h0_size]))]) (ws' := [(h0, .inr (5, [.ref h0_input, .ref h0_words, w_h0_settings, .ref h0_to, .ref h0_blocks, .int u54, .int u55, .int h0_at, .int h0_end, .int h0_begin, .int h0_copies, .int h0_literals, .int h0_parts, .int h0_frameBegin, .int h0_flags, .int h0_width, w_h0_size])), (h0_input, .inr (2, [.ref h0_input_held, .int h0_input_count])), (h0_input_held, .inl (cB, h0_input_held_n, .inl h0_input_held_f)), (h0_blocks, .inr (1, [.ref h0_blocks_facts, .int h0_blocks_count])), (h0_to, .inr (2, [.ref h0_to_held, .int h0_to_count])), (h0_blocks_facts, .inl (cI, h0_blocks_facts_n, .inl h0_blocks_facts_f)), (h0_to_held, .inl (cB, h0_to_held_n, .inl h0_to_held_f)), (h0_words, .inr (2, [.ref h0_words_held, .int h0_words_count])), (h0_words_held, .inl (cB, h0_words_held_n, .inl h0_words_held_f))]) [0] [1, 2, 3, 4, 5, 6, 7, 8] [8, 0, 1, 2, 3, 4, 5, 6, 7] rfl rfl (by decide) (by decide) rfl (by decide) (fun H locs hP hD hS => ?_)
    obtain ⟨hzb, hf⟩ := bch_some hf
    obtain ⟨rfl, hq_1⟩ := Prod.mk.inj (Option.some.inj hf)
    obtain ⟨rfl, hq_2⟩ := Prod.mk.inj hq_1
    obtain ⟨rfl, hq_3⟩ := Prod.mk.inj hq_2
    obtain ⟨rfl, hq_4⟩ := Prod.mk.inj hq_3
    obtain ⟨rfl, hq_5⟩ := Prod.mk.inj hq_4
    obtain ⟨rfl, hq_6⟩ := Prod.mk.inj hq_5
    obtain ⟨rfl, hq_7⟩ := Prod.mk.inj hq_6
    obtain ⟨rfl, hq_8⟩ := Prod.mk.inj hq_7
    obtain ⟨rfl, hq_9⟩ := Prod.mk.inj hq_8
    obtain ⟨rfl, hq_10⟩ := Prod.mk.inj hq_9
    obtain ⟨rfl, hq_11⟩ := Prod.mk.inj hq_10
    obtain ⟨rfl, hq_12⟩ := Prod.mk.inj hq_11
    obtain rfl := hq_12
    exact rt_z hQ hx hb hr hzb hlocks hP hD hS dX6_openFrameBlock_46

theorem dX6_openFrame_0 : decode cX6_openFrame 0 = .ok (.aload_n 0, 1) := by decide +kernel
theorem dX6_openFrame_1 : decode cX6_openFrame 1 = .ok (.aload_n 0, 1) := by decide +kernel
theorem dX6_openFrame_2 : decode cX6_openFrame 2 = .ok (.getfield 29, 3) := by decide +kernel
theorem dX6_openFrame_5 : decode cX6_openFrame 5 = .ok (.invokevirtual 50, 3) := by decide +kernel
theorem dX6_openFrame_8 : decode cX6_openFrame 8 = .ok (.putfield 150, 3) := by decide +kernel
theorem dX6_openFrame_11 : decode cX6_openFrame 11 = .ok (.aload_n 0, 1) := by decide +kernel
theorem dX6_openFrame_12 : decode cX6_openFrame 12 = .ok (.invokevirtual 153, 3) := by decide +kernel
theorem dX6_openFrame_15 : decode cX6_openFrame 15 = .ok (.ifCond .ne 5, 3) := by decide +kernel
theorem dX6_openFrame_18 : decode cX6_openFrame 18 = .ok (.iconst 0, 1) := by decide +kernel
theorem dX6_openFrame_19 : decode cX6_openFrame 19 = .ok (.ireturn, 1) := by decide +kernel
theorem dX6_openFrame_20 : decode cX6_openFrame 20 = .ok (.iconst 0, 1) := by decide +kernel
theorem dX6_openFrame_21 : decode cX6_openFrame 21 = .ok (.istore_n 1, 1) := by decide +kernel
theorem dX6_openFrame_22 : decode cX6_openFrame 22 = .ok (.iload_n 1, 1) := by decide +kernel
theorem dX6_openFrame_23 : decode cX6_openFrame 23 = .ok (.sipush 4000, 3) := by decide +kernel
theorem dX6_openFrame_26 : decode cX6_openFrame 26 = .ok (.if_icmp .ge 48, 3) := by decide +kernel
theorem dX6_openFrame_29 : decode cX6_openFrame 29 = .ok (.aload_n 0, 1) := by decide +kernel
theorem dX6_openFrame_30 : decode cX6_openFrame 30 = .ok (.iconst 4, 1) := by decide +kernel
theorem dX6_openFrame_31 : decode cX6_openFrame 31 = .ok (.invokevirtual 95, 3) := by decide +kernel
theorem dX6_openFrame_34 : decode cX6_openFrame 34 = .ok (.ifCond .ne 40, 3) := by decide +kernel
theorem dX6_openFrame_37 : decode cX6_openFrame 37 = .ok (.aload_n 0, 1) := by decide +kernel
theorem dX6_openFrame_38 : decode cX6_openFrame 38 = .ok (.getfield 9, 3) := by decide +kernel
theorem dX6_openFrame_41 : decode cX6_openFrame 41 = .ok (.aload_n 0, 1) := by decide +kernel
theorem dX6_openFrame_42 : decode cX6_openFrame 42 = .ok (.getfield 47, 3) := by decide +kernel
theorem dX6_openFrame_45 : decode cX6_openFrame 45 = .ok (.iconst 4, 1) := by decide +kernel
theorem dX6_openFrame_46 : decode cX6_openFrame 46 = .ok (.invokevirtual 117, 3) := by decide +kernel
theorem dX6_openFrame_49 : decode cX6_openFrame 49 = .ok (.lconst 0, 1) := by decide +kernel
theorem dX6_openFrame_50 : decode cX6_openFrame 50 = .ok (.lcmp, 1) := by decide +kernel
theorem dX6_openFrame_51 : decode cX6_openFrame 51 = .ok (.ifCond .ne 8, 3) := by decide +kernel
theorem dX6_openFrame_54 : decode cX6_openFrame 54 = .ok (.aload_n 0, 1) := by decide +kernel
theorem dX6_openFrame_55 : decode cX6_openFrame 55 = .ok (.invokevirtual 156, 3) := by decide +kernel
theorem dX6_openFrame_58 : decode cX6_openFrame 58 = .ok (.ireturn, 1) := by decide +kernel
theorem dX6_openFrame_59 : decode cX6_openFrame 59 = .ok (.aload_n 0, 1) := by decide +kernel
theorem dX6_openFrame_60 : decode cX6_openFrame 60 = .ok (.invokevirtual 159, 3) := by decide +kernel
theorem dX6_openFrame_63 : decode cX6_openFrame 63 = .ok (.ifCond .ne 5, 3) := by decide +kernel
theorem dX6_openFrame_66 : decode cX6_openFrame 66 = .ok (.iconst 0, 1) := by decide +kernel
theorem dX6_openFrame_67 : decode cX6_openFrame 67 = .ok (.ireturn, 1) := by decide +kernel
theorem dX6_openFrame_68 : decode cX6_openFrame 68 = .ok (.iinc 1 1, 3) := by decide +kernel
theorem dX6_openFrame_71 : decode cX6_openFrame 71 = .ok (.goto (-49), 3) := by decide +kernel
theorem dX6_openFrame_74 : decode cX6_openFrame 74 = .ok (.aload_n 0, 1) := by decide +kernel
theorem dX6_openFrame_75 : decode cX6_openFrame 75 = .ok (.iconst 1, 1) := by decide +kernel
theorem dX6_openFrame_76 : decode cX6_openFrame 76 = .ok (.aload_n 0, 1) := by decide +kernel
theorem dX6_openFrame_77 : decode cX6_openFrame 77 = .ok (.getfield 54, 3) := by decide +kernel
theorem dX6_openFrame_80 : decode cX6_openFrame 80 = .ok (.invokevirtual 98, 3) := by decide +kernel
theorem dX6_openFrame_83 : decode cX6_openFrame 83 = .ok (.ireturn, 1) := by decide +kernel
def m_Opener_openFrame_E74 (r1 : Int32) (u6 : Int32) (u7 : Int32) (u8 : Int64) (f9 : Nat → Int32) (f10 : Nat → Int32) (g11 : Int32) (g12 : Int32) (g13 : Int32) (g14 : Int32) (g15 : Int32) (g16 : Int32) (g17 : Int32) (g18 : Int32) (g19 : Int32) (g20 : Int32) : Option (Int32 × Int32 × Int32 × Int32 × Int32 × Int32 × Int32 × Int32 × Int32 × Int32 × Int32 × Int32 × Int64 × Int32 × (Nat → Int32) × Int32 × (Nat → Int32)) :=
  (m_Opener_breaks (1 : Int32) g17).bind fun (r21, u22, u23) =>
  bch r21 <|
  some (r21, u22, u23, g16, g17, g18, g11, g12, g13, r1, u6, u7, u8, g20, f10, g19, f9)
def m_Opener_openFrame_B22 (h0_input_count : Int32) (h0_input_held_n : Nat) (h0_input_held_f : Nat → Int32) (h0_to_held_n : Nat) (h0_words_count : Int32) (h0_blocks_facts_n : Nat) (h0_words_held_n : Nat) (h0_words_held_f : Nat → Int32) (r1 : Int32) (u6 : Int32) (u7 : Int32) (u8 : Int64) (f24 : Nat → Int32) (f25 : Nat → Int32) (g26 : Int32) (g27 : Int32) (g28 : Int32) (g29 : Int32) (g30 : Int32) (g31 : Int32) (g32 : Int32) (g33 : Int32) (g34 : Int32) (g35 : Int32) (j1_36 : Int32) : Option (((Nat → Int32) × (Nat → Int32) × Int32 × Int32 × Int32 × Int32 × Int32 × Int32 × Int32 × Int32 × Int32 × Int32 × Int32) ⊕ (((Nat → Int32) × (Nat → Int32) × Int32 × Int32 × Int32 × Int32 × Int32 × Int32 × Int32 × Int32 × Int32 × Int32) ⊕ (((Int32 × Int32 × Int32 × Int32 × Int32 × Int32 × Int32 × Int32 × Int32 × Int32 × Int32 × Int32 × Int64 × Int32 × (Nat → Int32) × Int32 × (Nat → Int32)))))) :=
  if (4000 : Int32) ≤ j1_36 then
    some (.inr (.inl (f24, f25, g26, g27, g28, g29, g30, g31, g32, g33, g34, g35)))
  else
    (m_Opener_lacks (4 : Int32) g31 g32).bind fun r37 =>
    if r37 = 0 then
      (m_Bytes_number g31 (4 : Int32) h0_input_count h0_input_held_n h0_input_held_f).bind fun r38 =>
      if (lg_cmp r38 (0 : Int64)) = 0 then
        (m_Opener_openFrameEnd g29 g30 g31 g32 r1 u6 u8 g35 h0_input_count h0_input_held_n h0_input_held_f h0_to_held_n f25).bind fun (r53, u54, u55, u56) =>
        bch r53 <|
        some (.inr (.inr (r53, u54, u55, u56, g32, g33, g26, g27, g28, r1, u6, u7, u8, g35, f25, g34, f24)))
      else
        (m_Opener_openFrameBlock g29 g30 g31 g32 g33 g26 g27 g28 r1 u6 u7 h0_input_count h0_input_held_n h0_input_held_f g34 g35 h0_blocks_facts_n f24 h0_to_held_n f25 h0_words_count h0_words_held_n h0_words_held_f).bind fun (r39, u40, u41, u42, u43, u44, u45, u46, u47, u48, u49, u50, u51) =>
        if r39 = 0 then
          some (.inr (.inr ((0 : Int32), u40, u41, u42, u43, u44, u45, u46, u47, r1, u6, u7, u8, u49, u51, u48, u50)))
        else
          bnd (j1_36 + (1 : Int32)) fun v1_52 =>
          some (.inl (u50, u51, u45, u46, u47, u40, u41, u42, u43, u44, u48, u49, v1_52))
    else
      some (.inr (.inl (f24, f25, g26, g27, g28, g29, g30, g31, g32, g33, g34, g35)))
def m_Opener_openFrame (h0_broken : Int32) (h0_brokenAt : Int32) (h0_at : Int32) (h0_end : Int32) (h0_begin : Int32) (h0_copies : Int32) (h0_literals : Int32) (h0_parts : Int32) (h0_flags : Int32) (h0_width : Int32) (h0_size : Int64) (h0_to_count : Int32) (h0_input_count : Int32) (h0_input_held_n : Nat) (h0_input_held_f : Nat → Int32) (h0_settings_n : Nat) (h0_settings_f : Nat → Int32) (h0_to_held_n : Nat) (h0_to_held_f : Nat → Int32) (h0_blocks_count : Int32) (h0_words_count : Int32) (h0_blocks_facts_n : Nat) (h0_blocks_facts_f : Nat → Int32) (h0_words_held_n : Nat) (h0_words_held_f : Nat → Int32) : Option (Int32 × Int32 × Int32 × Int32 × Int32 × Int32 × Int32 × Int32 × Int32 × Int32 × Int32 × Int32 × Int64 × Int32 × (Nat → Int32) × Int32 × (Nat → Int32)) :=
  (m_Bytes_size h0_to_count).bind fun r1 =>
  (m_Opener_openFrameHead h0_broken h0_brokenAt h0_at h0_end h0_flags h0_width h0_size h0_input_count h0_input_held_n h0_input_held_f h0_settings_n h0_settings_f).bind fun (r2, u3, u4, u5, u6, u7, u8) =>
  if r2 = 0 then
    some ((0 : Int32), u3, u4, u5, h0_end, h0_begin, h0_copies, h0_literals, h0_parts, r1, u6, u7, u8, h0_to_count, h0_to_held_f, h0_blocks_count, h0_blocks_facts_f)
  else
    (iter (fun st => m_Opener_openFrame_B22 h0_input_count h0_input_held_n h0_input_held_f h0_to_held_n h0_words_count h0_blocks_facts_n h0_words_held_n h0_words_held_f r1 u6 u7 u8 st.1 st.2.1 st.2.2.1 st.2.2.2.1 st.2.2.2.2.1 st.2.2.2.2.2.1 st.2.2.2.2.2.2.1 st.2.2.2.2.2.2.2.1 st.2.2.2.2.2.2.2.2.1 st.2.2.2.2.2.2.2.2.2.1 st.2.2.2.2.2.2.2.2.2.2.1 st.2.2.2.2.2.2.2.2.2.2.2.1 st.2.2.2.2.2.2.2.2.2.2.2.2) FU (h0_blocks_facts_f, h0_to_held_f, h0_copies, h0_literals, h0_parts, u3, u4, u5, h0_end, h0_begin, h0_blocks_count, h0_to_count, (0 : Int32))).bind fun o => match o with | (.inl y) => m_Opener_openFrame_E74 r1 u6 u7 u8 y.1 y.2.1 y.2.2.1 y.2.2.2.1 y.2.2.2.2.1 y.2.2.2.2.2.1 y.2.2.2.2.2.2.1 y.2.2.2.2.2.2.2.1 y.2.2.2.2.2.2.2.2.1 y.2.2.2.2.2.2.2.2.2.1 y.2.2.2.2.2.2.2.2.2.2.1 y.2.2.2.2.2.2.2.2.2.2.2 | (.inr y) => some y
def rm_Opener_openFrame : Room := { frames := 6, cells := 0, slots := 0, locals := 165 }
set_option maxHeartbeats 4000000 in
set_option maxRecDepth 100000 in
theorem c_Opener_openFrame {l : Launch} {dC : Nat → ClassId} {dI : Nat → Nat → Nat} {cB cI : ClassId} {sz : Nat} {h0 : Nat} {h0_to : Nat} {h0_input : Nat} {h0_input_held : Nat} {h0_settings : Nat} {h0_to_held : Nat} {h0_blocks : Nat} {h0_words : Nat} {h0_blocks_facts : Nat} {h0_words_held : Nat} {h0_broken : Int32} {h0_brokenAt : Int32} {h0_at : Int32} {h0_end : Int32} {h0_begin : Int32} {h0_copies : Int32} {h0_literals : Int32} {h0_parts : Int32} {h0_frameBegin : Int32} {h0_flags : Int32} {h0_width : Int32} {h0_size : Int64} {h0_to_count : Int32} {h0_input_count : Int32} {h0_input_held_n : Nat} {h0_input_held_f : Nat → Int32} {h0_settings_n : Nat} {h0_settings_f : Nat → Int32} {h0_to_held_n : Nat} {h0_to_held_f : Nat → Int32} {h0_blocks_count : Int32} {h0_words_count : Int32} {h0_blocks_facts_n : Nat} {h0_blocks_facts_f : Nat → Int32} {h0_words_held_n : Nat} {h0_words_held_f : Nat → Int32} {o_r : Int32} {o_h0_broken : Int32} {o_h0_brokenAt : Int32} {o_h0_at : Int32} {o_h0_end : Int32} {o_h0_begin : Int32} {o_h0_copies : Int32} {o_h0_literals : Int32} {o_h0_parts : Int32} {o_h0_frameBegin : Int32} {o_h0_flags : Int32} {o_h0_width : Int32} {o_h0_size : Int64} {o_h0_to_count : Int32} {o_h0_to_held_f : Nat → Int32} {o_h0_blocks_count : Int32} {o_h0_blocks_facts_f : Nat → Int32} (hf : m_Opener_openFrame h0_broken h0_brokenAt h0_at h0_end h0_begin h0_copies h0_literals h0_parts h0_flags h0_width h0_size h0_to_count h0_input_count h0_input_held_n h0_input_held_f h0_settings_n h0_settings_f h0_to_held_n h0_to_held_f h0_blocks_count h0_words_count h0_blocks_facts_n h0_blocks_facts_f h0_words_held_n h0_words_held_f = some (o_r, o_h0_broken, o_h0_brokenAt, o_h0_at, o_h0_end, o_h0_begin, o_h0_copies, o_h0_literals, o_h0_parts, o_h0_frameBegin, o_h0_flags, o_h0_width, o_h0_size, o_h0_to_count, o_h0_to_held_f, o_h0_blocks_count, o_h0_blocks_facts_f)) : Met l yX6_openFrame (Cond.code yX6_openFrame cX6_openFrame 2 (some .boolean) :: lw_G) rm_Opener_openFrame (PreC (dC, dI) [(cB, .byte), (cI, .int)] [.ref h0] sz [(h0, .inr (5, [.ref h0_input, .ref h0_words, .ref h0_settings, .ref h0_to, .ref h0_blocks, .int h0_broken, .int h0_brokenAt, .int h0_at, .int h0_end, .int h0_begin, .int h0_copies, .int h0_literals, .int h0_parts, .int h0_frameBegin, .int h0_flags, .int h0_width, .long h0_size])), (h0_to, .inr (2, [.ref h0_to_held, .int h0_to_count])), (h0_input, .inr (2, [.ref h0_input_held, .int h0_input_count])), (h0_input_held, .inl (cB, h0_input_held_n, .inl h0_input_held_f)), (h0_settings, .inl (cI, h0_settings_n, .inl h0_settings_f)), (h0_to_held, .inl (cB, h0_to_held_n, .inl h0_to_held_f)), (h0_blocks, .inr (1, [.ref h0_blocks_facts, .int h0_blocks_count])), (h0_words, .inr (2, [.ref h0_words_held, .int h0_words_count])), (h0_blocks_facts, .inl (cI, h0_blocks_facts_n, .inl h0_blocks_facts_f)), (h0_words_held, .inl (cB, h0_words_held_n, .inl h0_words_held_f))]) (QcI o_r (dC, dI) [(h0, .inr (5, [.ref h0_input, .ref h0_words, .ref h0_settings, .ref h0_to, .ref h0_blocks, .int o_h0_broken, .int o_h0_brokenAt, .int o_h0_at, .int o_h0_end, .int o_h0_begin, .int o_h0_copies, .int o_h0_literals, .int o_h0_parts, .int o_h0_frameBegin, .int o_h0_flags, .int o_h0_width, .long o_h0_size])), (h0_to, .inr (2, [.ref h0_to_held, .int o_h0_to_count])), (h0_input, .inr (2, [.ref h0_input_held, .int h0_input_count])), (h0_input_held, .inl (cB, h0_input_held_n, .inl h0_input_held_f)), (h0_settings, .inl (cI, h0_settings_n, .inl h0_settings_f)), (h0_to_held, .inl (cB, h0_to_held_n, .inl o_h0_to_held_f)), (h0_blocks, .inr (1, [.ref h0_blocks_facts, .int o_h0_blocks_count])), (h0_words, .inr (2, [.ref h0_words_held, .int h0_words_count])), (h0_blocks_facts, .inl (cI, h0_blocks_facts_n, .inl o_h0_blocks_facts_f)), (h0_words_held, .inl (cB, h0_words_held_n, .inl h0_words_held_f))] (va_A [(h0, .inr (5, [.ref h0_input, .ref h0_words, .ref h0_settings, .ref h0_to, .ref h0_blocks, .int h0_broken, .int h0_brokenAt, .int h0_at, .int h0_end, .int h0_begin, .int h0_copies, .int h0_literals, .int h0_parts, .int h0_frameBegin, .int h0_flags, .int h0_width, .long h0_size])), (h0_to, .inr (2, [.ref h0_to_held, .int h0_to_count])), (h0_input, .inr (2, [.ref h0_input_held, .int h0_input_count])), (h0_input_held, .inl (cB, h0_input_held_n, .inl h0_input_held_f)), (h0_settings, .inl (cI, h0_settings_n, .inl h0_settings_f)), (h0_to_held, .inl (cB, h0_to_held_n, .inl h0_to_held_f)), (h0_blocks, .inr (1, [.ref h0_blocks_facts, .int h0_blocks_count])), (h0_words, .inr (2, [.ref h0_words_held, .int h0_words_count])), (h0_blocks_facts, .inl (cI, h0_blocks_facts_n, .inl h0_blocks_facts_f)), (h0_words_held, .inl (cB, h0_words_held_n, .inl h0_words_held_f))] sz)) 0 0 (va_A [(h0, .inr (5, [.ref h0_input, .ref h0_words, .ref h0_settings, .ref h0_to, .ref h0_blocks, .int h0_broken, .int h0_brokenAt, .int h0_at, .int h0_end, .int h0_begin, .int h0_copies, .int h0_literals, .int h0_parts, .int h0_frameBegin, .int h0_flags, .int h0_width, .long h0_size])), (h0_to, .inr (2, [.ref h0_to_held, .int h0_to_count])), (h0_input, .inr (2, [.ref h0_input_held, .int h0_input_count])), (h0_input_held, .inl (cB, h0_input_held_n, .inl h0_input_held_f)), (h0_settings, .inl (cI, h0_settings_n, .inl h0_settings_f)), (h0_to_held, .inl (cB, h0_to_held_n, .inl h0_to_held_f)), (h0_blocks, .inr (1, [.ref h0_blocks_facts, .int h0_blocks_count])), (h0_words, .inr (2, [.ref h0_words_held, .int h0_words_count])), (h0_blocks_facts, .inl (cI, h0_blocks_facts_n, .inl h0_blocks_facts_f)), (h0_words_held, .inl (cB, h0_words_held_n, .inl h0_words_held_f))] sz) := by
  refine met_of (Qf := fun A => QcI o_r (dC, dI) [(h0, .inr (5, [.ref h0_input, .ref h0_words, .ref h0_settings, .ref h0_to, .ref h0_blocks, .int o_h0_broken, .int o_h0_brokenAt, .int o_h0_at, .int o_h0_end, .int o_h0_begin, .int o_h0_copies, .int o_h0_literals, .int o_h0_parts, .int o_h0_frameBegin, .int o_h0_flags, .int o_h0_width, .long o_h0_size])), (h0_to, .inr (2, [.ref h0_to_held, .int o_h0_to_count])), (h0_input, .inr (2, [.ref h0_input_held, .int h0_input_count])), (h0_input_held, .inl (cB, h0_input_held_n, .inl h0_input_held_f)), (h0_settings, .inl (cI, h0_settings_n, .inl h0_settings_f)), (h0_to_held, .inl (cB, h0_to_held_n, .inl o_h0_to_held_f)), (h0_blocks, .inr (1, [.ref h0_blocks_facts, .int o_h0_blocks_count])), (h0_words, .inr (2, [.ref h0_words_held, .int h0_words_count])), (h0_blocks_facts, .inl (cI, h0_blocks_facts_n, .inl o_h0_blocks_facts_f)), (h0_words_held, .inl (cB, h0_words_held_n, .inl h0_words_held_f))] A) (by decide) (Nat.le_of_ble_eq_true rfl) ?_
  intro p e s m below meth c A ls Q hx hb hr hml hown hts hlocks hnm hP hK hD hN hT hA hl hQ
  have hown : s.vm.findClass RX6 = some m.cls := hown
  have hS : va_S A s.heap s.heap [] := va_S.rf
  have hl : lv_has ls 2 [(0, .ref h0)] := hl
  unfold m_Opener_openFrame at hf
  refine lv_aload_n hx hb dX6_openFrame_0 rfl (lv_at hl 0 rfl) ?_
  refine lv_aload_n hx hb dX6_openFrame_1 rfl (lv_at hl 0 rfl) ?_
  refine va_get (D := (dC, dI)) (ci := 5) (v := .ref h0_to) (C := RX6) (T := TX6) (N := 17) hx hb hts inG_X6 hown hK hP 0 rfl rfl 3 (by decide) (hts _ kw_292) (fun _ h9 => h9) rfl dX6_openFrame_2 ?_
  obtain ⟨r1, hc, hf⟩ := bind_some hf
  refine nx_i (rn_V (As := []) (rest := [.ref h0]) (n := 0) (ci := 2) (q0 := 0) ⟨hx, hb, hml, hown, hts⟩ (c_Bytes_size (l := l) (dC := dC) (dI := dI) (cB := cB) (cI := cI) (h0 := h0_to) (w_h0_held := (.ref h0_to_held)) (h0_count := h0_to_count)  (o_r := r1) hc) (wV kw_849 kw_402 kw_403 kw_83 kw_404) (by decide +kernel) ⟨Nat.le_of_ble_eq_true rfl, Nat.le_of_ble_eq_true rfl⟩ hK hP hD hN hT hS (va_free (wc := [(h0_to, .inr (2, [.ref h0_to_held, .int h0_to_count]))]) hD hS hA [1] rfl) [1] rfl (by decide) rfl rfl rfl hl.1 rfl (lv_room (Nat.le_of_ble_eq_true rfl)) dX6_openFrame_5 ⟨Nat.le_of_ble_eq_true rfl, Nat.le_of_ble_eq_true rfl⟩) hP hD hS hA (wr := [(h0, .inr (5, [.ref h0_input, .ref h0_words, .ref h0_settings, .ref h0_to, .ref h0_blocks, .int h0_broken, .int h0_brokenAt, .int h0_at, .int h0_end, .int h0_begin, .int h0_copies, .int h0_literals, .int h0_parts, .int h0_frameBegin, .int h0_flags, .int h0_width, .long h0_size])), (h0_input, .inr (2, [.ref h0_input_held, .int h0_input_count])), (h0_input_held, .inl (cB, h0_input_held_n, .inl h0_input_held_f)), (h0_settings, .inl (cI, h0_settings_n, .inl h0_settings_f)), (h0_to_held, .inl (cB, h0_to_held_n, .inl h0_to_held_f)), (h0_blocks, .inr (1, [.ref h0_blocks_facts, .int h0_blocks_count])), (h0_words, .inr (2, [.ref h0_words_held, .int h0_words_count])), (h0_blocks_facts, .inl (cI, h0_blocks_facts_n, .inl h0_blocks_facts_f)), (h0_words_held, .inl (cB, h0_words_held_n, .inl h0_words_held_f))]) (w1 := [(h0_to, .inr (2, [.ref h0_to_held, .int h0_to_count]))]) (ws' := [(h0, .inr (5, [.ref h0_input, .ref h0_words, .ref h0_settings, .ref h0_to, .ref h0_blocks, .int h0_broken, .int h0_brokenAt, .int h0_at, .int h0_end, .int h0_begin, .int h0_copies, .int h0_literals, .int h0_parts, .int h0_frameBegin, .int h0_flags, .int h0_width, .long h0_size])), (h0_to, .inr (2, [.ref h0_to_held, .int h0_to_count])), (h0_input, .inr (2, [.ref h0_input_held, .int h0_input_count])), (h0_input_held, .inl (cB, h0_input_held_n, .inl h0_input_held_f)), (h0_settings, .inl (cI, h0_settings_n, .inl h0_settings_f)), (h0_to_held, .inl (cB, h0_to_held_n, .inl h0_to_held_f)), (h0_blocks, .inr (1, [.ref h0_blocks_facts, .int h0_blocks_count])), (h0_words, .inr (2, [.ref h0_words_held, .int h0_words_count])), (h0_blocks_facts, .inl (cI, h0_blocks_facts_n, .inl h0_blocks_facts_f)), (h0_words_held, .inl (cB, h0_words_held_n, .inl h0_words_held_f))]) [1] [0, 2, 3, 4, 5, 6, 7, 8, 9] [0, 9, 1, 2, 3, 4, 5, 6, 7, 8] rfl rfl (by decide) (by decide) rfl (by decide) (fun H locs hP hD hS => ?_)
  refine va_put (D := (dC, dI)) (ci := 5) (v := .int r1) (ty := .int) (C := RX6) (T := TX6) (N := 17) hx hb hts inG_X6 tyX6 tyX6_ok nmX6 hown hK hP hD hS 0 rfl rfl 13 (by decide) (hts _ kw_302) (fun _ h9 => h9) rfl (by decide +kernel) rfl rfl (Nat.le_of_ble_eq_true rfl) dX6_openFrame_8 (fun H locs hP hD hS => ?_)
  have hP : va_P (dC, dI) vwCl [(h0, .inr (5, [.ref h0_input, .ref h0_words, .ref h0_settings, .ref h0_to, .ref h0_blocks, .int h0_broken, .int h0_brokenAt, .int h0_at, .int h0_end, .int h0_begin, .int h0_copies, .int h0_literals, .int h0_parts, .int r1, .int h0_flags, .int h0_width, .long h0_size])), (h0_to, .inr (2, [.ref h0_to_held, .int h0_to_count])), (h0_input, .inr (2, [.ref h0_input_held, .int h0_input_count])), (h0_input_held, .inl (cB, h0_input_held_n, .inl h0_input_held_f)), (h0_settings, .inl (cI, h0_settings_n, .inl h0_settings_f)), (h0_to_held, .inl (cB, h0_to_held_n, .inl h0_to_held_f)), (h0_blocks, .inr (1, [.ref h0_blocks_facts, .int h0_blocks_count])), (h0_words, .inr (2, [.ref h0_words_held, .int h0_words_count])), (h0_blocks_facts, .inl (cI, h0_blocks_facts_n, .inl h0_blocks_facts_f)), (h0_words_held, .inl (cB, h0_words_held_n, .inl h0_words_held_f))] H := hP
  have hD : va_D A [(h0, .inr (5, [.ref h0_input, .ref h0_words, .ref h0_settings, .ref h0_to, .ref h0_blocks, .int h0_broken, .int h0_brokenAt, .int h0_at, .int h0_end, .int h0_begin, .int h0_copies, .int h0_literals, .int h0_parts, .int r1, .int h0_flags, .int h0_width, .long h0_size])), (h0_to, .inr (2, [.ref h0_to_held, .int h0_to_count])), (h0_input, .inr (2, [.ref h0_input_held, .int h0_input_count])), (h0_input_held, .inl (cB, h0_input_held_n, .inl h0_input_held_f)), (h0_settings, .inl (cI, h0_settings_n, .inl h0_settings_f)), (h0_to_held, .inl (cB, h0_to_held_n, .inl h0_to_held_f)), (h0_blocks, .inr (1, [.ref h0_blocks_facts, .int h0_blocks_count])), (h0_words, .inr (2, [.ref h0_words_held, .int h0_words_count])), (h0_blocks_facts, .inl (cI, h0_blocks_facts_n, .inl h0_blocks_facts_f)), (h0_words_held, .inl (cB, h0_words_held_n, .inl h0_words_held_f))] := hD
  refine lv_aload_n hx hb dX6_openFrame_11 rfl (lv_at hl 0 rfl) ?_
  obtain ⟨x, hc, hf⟩ := bind_some hf
  obtain ⟨r2, u3, u4, u5, u6, u7, u8⟩ := x
  dsimp only at hf
  refine nx_i (rn_V (As := []) (rest := []) (n := 0) (ci := 5) (q0 := 0) ⟨hx, hb, hml, hown, hts⟩ (c_Opener_openFrameHead (l := l) (dC := dC) (dI := dI) (cB := cB) (cI := cI) (h0 := h0) (h0_input := h0_input) (h0_input_held := h0_input_held) (h0_settings := h0_settings) (w_h0_words := (.ref h0_words)) (w_h0_to := (.ref h0_to)) (w_h0_blocks := (.ref h0_blocks)) (h0_broken := h0_broken) (h0_brokenAt := h0_brokenAt) (h0_at := h0_at) (h0_end := h0_end) (w_h0_begin := (.int h0_begin)) (w_h0_copies := (.int h0_copies)) (w_h0_literals := (.int h0_literals)) (w_h0_parts := (.int h0_parts)) (w_h0_frameBegin := (.int r1)) (h0_flags := h0_flags) (h0_width := h0_width) (h0_size := h0_size) (h0_input_count := h0_input_count) (h0_input_held_n := h0_input_held_n) (h0_input_held_f := h0_input_held_f) (h0_settings_n := h0_settings_n) (h0_settings_f := h0_settings_f) (o_h0_broken := u3) (o_h0_brokenAt := u4) (o_h0_at := u5) (o_h0_flags := u6) (o_h0_width := u7) (o_h0_size := u8) (o_r := r2) hc) (wV kw_924 kw_926 kw_34 kw_92 kw_927) (by decide +kernel) ⟨Nat.le_of_ble_eq_true rfl, Nat.le_of_ble_eq_true rfl⟩ hK hP hD hN hT hS (va_free (wc := [(h0, .inr (5, [.ref h0_input, .ref h0_words, .ref h0_settings, .ref h0_to, .ref h0_blocks, .int h0_broken, .int h0_brokenAt, .int h0_at, .int h0_end, .int h0_begin, .int h0_copies, .int h0_literals, .int h0_parts, .int r1, .int h0_flags, .int h0_width, .long h0_size])), (h0_input, .inr (2, [.ref h0_input_held, .int h0_input_count])), (h0_input_held, .inl (cB, h0_input_held_n, .inl h0_input_held_f)), (h0_settings, .inl (cI, h0_settings_n, .inl h0_settings_f))]) hD hS hA [0, 2, 3, 4] rfl) [0, 2, 3, 4] rfl (by decide) rfl rfl rfl hl.1 rfl (lv_room (Nat.le_of_ble_eq_true rfl)) dX6_openFrame_12 ⟨Nat.le_of_ble_eq_true rfl, Nat.le_of_ble_eq_true rfl⟩) hP hD hS hA (wr := [(h0_to, .inr (2, [.ref h0_to_held, .int h0_to_count])), (h0_to_held, .inl (cB, h0_to_held_n, .inl h0_to_held_f)), (h0_blocks, .inr (1, [.ref h0_blocks_facts, .int h0_blocks_count])), (h0_words, .inr (2, [.ref h0_words_held, .int h0_words_count])), (h0_blocks_facts, .inl (cI, h0_blocks_facts_n, .inl h0_blocks_facts_f)), (h0_words_held, .inl (cB, h0_words_held_n, .inl h0_words_held_f))]) (w1 := [(h0, .inr (5, [.ref h0_input, .ref h0_words, .ref h0_settings, .ref h0_to, .ref h0_blocks, .int u3, .int u4, .int u5, .int h0_end, .int h0_begin, .int h0_copies, .int h0_literals, .int h0_parts, .int r1, .int u6, .int u7, .long u8])), (h0_input, .inr (2, [.ref h0_input_held, .int h0_input_count])), (h0_input_held, .inl (cB, h0_input_held_n, .inl h0_input_held_f)), (h0_settings, .inl (cI, h0_settings_n, .inl h0_settings_f))]) (ws' := [(h0, .inr (5, [.ref h0_input, .ref h0_words, .ref h0_settings, .ref h0_to, .ref h0_blocks, .int u3, .int u4, .int u5, .int h0_end, .int h0_begin, .int h0_copies, .int h0_literals, .int h0_parts, .int r1, .int u6, .int u7, .long u8])), (h0_to, .inr (2, [.ref h0_to_held, .int h0_to_count])), (h0_input, .inr (2, [.ref h0_input_held, .int h0_input_count])), (h0_input_held, .inl (cB, h0_input_held_n, .inl h0_input_held_f)), (h0_settings, .inl (cI, h0_settings_n, .inl h0_settings_f)), (h0_to_held, .inl (cB, h0_to_held_n, .inl h0_to_held_f)), (h0_blocks, .inr (1, [.ref h0_blocks_facts, .int h0_blocks_count])), (h0_words, .inr (2, [.ref h0_words_held, .int h0_words_count])), (h0_blocks_facts, .inl (cI, h0_blocks_facts_n, .inl h0_blocks_facts_f)), (h0_words_held, .inl (cB, h0_words_held_n, .inl h0_words_held_f))]) [0, 2, 3, 4] [1, 5, 6, 7, 8, 9] [6, 0, 7, 8, 9, 1, 2, 3, 4, 5] rfl rfl (by decide) (by decide) rfl (by decide) (fun H locs hP hD hS => ?_)
  refine lv_if_ne (tgt := 20) hx hb dX6_openFrame_15 (by decide) (fun c_15 => ?_) (fun c_15 => ?_)
  · replace hf := if_f c_15 hf
    refine lv_iconst (v := 0) hx hb dX6_openFrame_20 (by decide) ?_
    refine lv_istore_n (lv' := [(1, .int (0 : Int32)), (0, .ref h0)]) hx hb dX6_openFrame_21 rfl hl (by decide) rfl (fun ls hl => ?_)
    have hJ_74 : ∀ (f9 : Nat → Int32) (f10 : Nat → Int32) (g11 : Int32) (g12 : Int32) (g13 : Int32) (g14 : Int32) (g15 : Int32) (g16 : Int32) (g17 : Int32) (g18 : Int32) (g19 : Int32) (g20 : Int32) (H : Heap) (locs : List Loc) (ls : Array Slot), m_Opener_openFrame_E74 r1 u6 u7 u8 f9 f10 g11 g12 g13 g14 g15 g16 g17 g18 g19 g20 = some (o_r, o_h0_broken, o_h0_brokenAt, o_h0_at, o_h0_end, o_h0_begin, o_h0_copies, o_h0_literals, o_h0_parts, o_h0_frameBegin, o_h0_flags, o_h0_width, o_h0_size, o_h0_to_count, o_h0_to_held_f, o_h0_blocks_count, o_h0_blocks_facts_f) → va_P (dC, dI) vwCl [(h0, .inr (5, [.ref h0_input, .ref h0_words, .ref h0_settings, .ref h0_to, .ref h0_blocks, .int g14, .int g15, .int g16, .int g17, .int g18, .int g11, .int g12, .int g13, .int r1, .int u6, .int u7, .long u8])), (h0_to, .inr (2, [.ref h0_to_held, .int g20])), (h0_input, .inr (2, [.ref h0_input_held, .int h0_input_count])), (h0_input_held, .inl (cB, h0_input_held_n, .inl h0_input_held_f)), (h0_settings, .inl (cI, h0_settings_n, .inl h0_settings_f)), (h0_to_held, .inl (cB, h0_to_held_n, .inl f10)), (h0_blocks, .inr (1, [.ref h0_blocks_facts, .int g19])), (h0_words, .inr (2, [.ref h0_words_held, .int h0_words_count])), (h0_blocks_facts, .inl (cI, h0_blocks_facts_n, .inl f9)), (h0_words_held, .inl (cB, h0_words_held_n, .inl h0_words_held_f))] H → va_D A [(h0, .inr (5, [.ref h0_input, .ref h0_words, .ref h0_settings, .ref h0_to, .ref h0_blocks, .int g14, .int g15, .int g16, .int g17, .int g18, .int g11, .int g12, .int g13, .int r1, .int u6, .int u7, .long u8])), (h0_to, .inr (2, [.ref h0_to_held, .int g20])), (h0_input, .inr (2, [.ref h0_input_held, .int h0_input_count])), (h0_input_held, .inl (cB, h0_input_held_n, .inl h0_input_held_f)), (h0_settings, .inl (cI, h0_settings_n, .inl h0_settings_f)), (h0_to_held, .inl (cB, h0_to_held_n, .inl f10)), (h0_blocks, .inr (1, [.ref h0_blocks_facts, .int g19])), (h0_words, .inr (2, [.ref h0_words_held, .int h0_words_count])), (h0_blocks_facts, .inl (cI, h0_blocks_facts_n, .inl f9)), (h0_words_held, .inl (cB, h0_words_held_n, .inl h0_words_held_f))] → va_S A s.heap H locs → lv_has ls 2 [(0, .ref h0)] → W p l e (rm_Opener_openFrame) s m ([.ref h0] : List Value).toArray below meth c H locs 0 0 Q (F0 m 74 ls []) := by
      intro f9 f10 g11 g12 g13 g14 g15 g16 g17 g18 g19 g20 H locs ls hf hP hD hS hl
      unfold m_Opener_openFrame_E74 at hf
      refine lv_aload_n hx hb dX6_openFrame_74 rfl (lv_at hl 0 rfl) ?_
      refine lv_iconst (v := 1) hx hb dX6_openFrame_75 (by decide) ?_
      refine lv_aload_n hx hb dX6_openFrame_76 rfl (lv_at hl 0 rfl) ?_
      refine va_get (D := (dC, dI)) (ci := 5) (v := .int g17) (C := RX6) (T := TX6) (N := 17) hx hb hts inG_X6 hown hK hP 0 rfl rfl 8 (by decide) (hts _ kw_297) (fun _ h9 => h9) rfl dX6_openFrame_77 ?_
      obtain ⟨x, hc, hf⟩ := bind_some hf
      obtain ⟨r21, u22, u23⟩ := x
      dsimp only at hf
      refine nx_i (rn_V (As := [.int (1 : Int32), .int g17]) (rest := []) (n := 2) (ci := 5) (q0 := 0) ⟨hx, hb, hml, hown, hts⟩ (c_Opener_breaks (l := l) (dC := dC) (dI := dI) (cB := cB) (cI := cI) (h0 := h0) (a1 := (1 : Int32)) (a2 := g17) (w_h0_input := (.ref h0_input)) (w_h0_words := (.ref h0_words)) (w_h0_settings := (.ref h0_settings)) (w_h0_to := (.ref h0_to)) (w_h0_blocks := (.ref h0_blocks)) (h0_broken := g14) (h0_brokenAt := g15) (w_h0_at := (.int g16)) (w_h0_end := (.int g17)) (w_h0_begin := (.int g18)) (w_h0_copies := (.int g11)) (w_h0_literals := (.int g12)) (w_h0_parts := (.int g13)) (w_h0_frameBegin := (.int r1)) (w_h0_flags := (.int u6)) (w_h0_width := (.int u7)) (w_h0_size := (.long u8)) (o_h0_broken := u22) (o_h0_brokenAt := u23) (o_r := r21) hc) (wV kw_871 kw_873 kw_26 kw_92 kw_874) (by decide +kernel) ⟨Nat.le_of_ble_eq_true rfl, Nat.le_of_ble_eq_true rfl⟩ hK hP hD hN hT hS (va_free (wc := [(h0, .inr (5, [.ref h0_input, .ref h0_words, .ref h0_settings, .ref h0_to, .ref h0_blocks, .int g14, .int g15, .int g16, .int g17, .int g18, .int g11, .int g12, .int g13, .int r1, .int u6, .int u7, .long u8]))]) hD hS hA [0] rfl) [0] rfl (by decide) rfl rfl rfl hl.1 rfl (lv_room (Nat.le_of_ble_eq_true rfl)) dX6_openFrame_80 ⟨Nat.le_of_ble_eq_true rfl, Nat.le_of_ble_eq_true rfl⟩) hP hD hS hA (wr := [(h0_to, .inr (2, [.ref h0_to_held, .int g20])), (h0_input, .inr (2, [.ref h0_input_held, .int h0_input_count])), (h0_input_held, .inl (cB, h0_input_held_n, .inl h0_input_held_f)), (h0_settings, .inl (cI, h0_settings_n, .inl h0_settings_f)), (h0_to_held, .inl (cB, h0_to_held_n, .inl f10)), (h0_blocks, .inr (1, [.ref h0_blocks_facts, .int g19])), (h0_words, .inr (2, [.ref h0_words_held, .int h0_words_count])), (h0_blocks_facts, .inl (cI, h0_blocks_facts_n, .inl f9)), (h0_words_held, .inl (cB, h0_words_held_n, .inl h0_words_held_f))]) (w1 := [(h0, .inr (5, [.ref h0_input, .ref h0_words, .ref h0_settings, .ref h0_to, .ref h0_blocks, .int u22, .int u23, .int g16, .int g17, .int g18, .int g11, .int g12, .int g13, .int r1, .int u6, .int u7, .long u8]))]) (ws' := [(h0, .inr (5, [.ref h0_input, .ref h0_words, .ref h0_settings, .ref h0_to, .ref h0_blocks, .int u22, .int u23, .int g16, .int g17, .int g18, .int g11, .int g12, .int g13, .int r1, .int u6, .int u7, .long u8])), (h0_to, .inr (2, [.ref h0_to_held, .int g20])), (h0_input, .inr (2, [.ref h0_input_held, .int h0_input_count])), (h0_input_held, .inl (cB, h0_input_held_n, .inl h0_input_held_f)), (h0_settings, .inl (cI, h0_settings_n, .inl h0_settings_f)), (h0_to_held, .inl (cB, h0_to_held_n, .inl f10)), (h0_blocks, .inr (1, [.ref h0_blocks_facts, .int g19])), (h0_words, .inr (2, [.ref h0_words_held, .int h0_words_count])), (h0_blocks_facts, .inl (cI, h0_blocks_facts_n, .inl f9)), (h0_words_held, .inl (cB, h0_words_held_n, .inl h0_words_held_f))]) [0] [1, 2, 3, 4, 5, 6, 7, 8, 9] [9, 0, 1, 2, 3, 4, 5, 6, 7, 8] rfl rfl (by decide) (by decide) rfl (by decide) (fun H locs hP hD hS => ?_)
      obtain ⟨hzb, hf⟩ := bch_some hf
      obtain ⟨rfl, hq_1⟩ := Prod.mk.inj (Option.some.inj hf)
      obtain ⟨rfl, hq_2⟩ := Prod.mk.inj hq_1
      obtain ⟨rfl, hq_3⟩ := Prod.mk.inj hq_2
      obtain ⟨rfl, hq_4⟩ := Prod.mk.inj hq_3
      obtain ⟨rfl, hq_5⟩ := Prod.mk.inj hq_4
      obtain ⟨rfl, hq_6⟩ := Prod.mk.inj hq_5
      obtain ⟨rfl, hq_7⟩ := Prod.mk.inj hq_6
      obtain ⟨rfl, hq_8⟩ := Prod.mk.inj hq_7
      obtain ⟨rfl, hq_9⟩ := Prod.mk.inj hq_8
      obtain ⟨rfl, hq_10⟩ := Prod.mk.inj hq_9
      obtain ⟨rfl, hq_11⟩ := Prod.mk.inj hq_10
      obtain ⟨rfl, hq_12⟩ := Prod.mk.inj hq_11
      obtain ⟨rfl, hq_13⟩ := Prod.mk.inj hq_12
      obtain ⟨rfl, hq_14⟩ := Prod.mk.inj hq_13
      obtain ⟨rfl, hq_15⟩ := Prod.mk.inj hq_14
      obtain ⟨rfl, hq_16⟩ := Prod.mk.inj hq_15
      obtain rfl := hq_16
      exact rt_z hQ hx hb hr hzb hlocks hP hD hS dX6_openFrame_83
    obtain ⟨o_22, hi_22, hk_22⟩ := bind_some hf
    have hL_22 : ∀ (n : Nat) (f24 : Nat → Int32) (f25 : Nat → Int32) (g26 : Int32) (g27 : Int32) (g28 : Int32) (g29 : Int32) (g30 : Int32) (g31 : Int32) (g32 : Int32) (g33 : Int32) (g34 : Int32) (g35 : Int32) (j1_36 : Int32) (H : Heap) (locs : List Loc) (ls : Array Slot), iter (fun st => m_Opener_openFrame_B22 h0_input_count h0_input_held_n h0_input_held_f h0_to_held_n h0_words_count h0_blocks_facts_n h0_words_held_n h0_words_held_f r1 u6 u7 u8 st.1 st.2.1 st.2.2.1 st.2.2.2.1 st.2.2.2.2.1 st.2.2.2.2.2.1 st.2.2.2.2.2.2.1 st.2.2.2.2.2.2.2.1 st.2.2.2.2.2.2.2.2.1 st.2.2.2.2.2.2.2.2.2.1 st.2.2.2.2.2.2.2.2.2.2.1 st.2.2.2.2.2.2.2.2.2.2.2.1 st.2.2.2.2.2.2.2.2.2.2.2.2) n (f24, f25, g26, g27, g28, g29, g30, g31, g32, g33, g34, g35, j1_36) = some o_22 → va_P (dC, dI) vwCl [(h0, .inr (5, [.ref h0_input, .ref h0_words, .ref h0_settings, .ref h0_to, .ref h0_blocks, .int g29, .int g30, .int g31, .int g32, .int g33, .int g26, .int g27, .int g28, .int r1, .int u6, .int u7, .long u8])), (h0_to, .inr (2, [.ref h0_to_held, .int g35])), (h0_input, .inr (2, [.ref h0_input_held, .int h0_input_count])), (h0_input_held, .inl (cB, h0_input_held_n, .inl h0_input_held_f)), (h0_settings, .inl (cI, h0_settings_n, .inl h0_settings_f)), (h0_to_held, .inl (cB, h0_to_held_n, .inl f25)), (h0_blocks, .inr (1, [.ref h0_blocks_facts, .int g34])), (h0_words, .inr (2, [.ref h0_words_held, .int h0_words_count])), (h0_blocks_facts, .inl (cI, h0_blocks_facts_n, .inl f24)), (h0_words_held, .inl (cB, h0_words_held_n, .inl h0_words_held_f))] H → va_D A [(h0, .inr (5, [.ref h0_input, .ref h0_words, .ref h0_settings, .ref h0_to, .ref h0_blocks, .int g29, .int g30, .int g31, .int g32, .int g33, .int g26, .int g27, .int g28, .int r1, .int u6, .int u7, .long u8])), (h0_to, .inr (2, [.ref h0_to_held, .int g35])), (h0_input, .inr (2, [.ref h0_input_held, .int h0_input_count])), (h0_input_held, .inl (cB, h0_input_held_n, .inl h0_input_held_f)), (h0_settings, .inl (cI, h0_settings_n, .inl h0_settings_f)), (h0_to_held, .inl (cB, h0_to_held_n, .inl f25)), (h0_blocks, .inr (1, [.ref h0_blocks_facts, .int g34])), (h0_words, .inr (2, [.ref h0_words_held, .int h0_words_count])), (h0_blocks_facts, .inl (cI, h0_blocks_facts_n, .inl f24)), (h0_words_held, .inl (cB, h0_words_held_n, .inl h0_words_held_f))] → va_S A s.heap H locs → lv_has ls 2 [(0, .ref h0), (1, .int j1_36)] → W p l e (rm_Opener_openFrame) s m ([.ref h0] : List Value).toArray below meth c H locs 0 0 Q (F0 m 22 ls []) := by
      intro n
      induction n with
      | zero => intro f24 f25 g26 g27 g28 g29 g30 g31 g32 g33 g34 g35 j1_36 H locs ls hf; exact absurd hf (fun z => by cases z)
      | succ n ih_22 =>
        intro f24 f25 g26 g27 g28 g29 g30 g31 g32 g33 g34 g35 j1_36 H locs ls hf hP hD hS hl
        obtain ⟨r_22, hf, hr_22⟩ := iter_succ hf
        have hf : m_Opener_openFrame_B22 h0_input_count h0_input_held_n h0_input_held_f h0_to_held_n h0_words_count h0_blocks_facts_n h0_words_held_n h0_words_held_f r1 u6 u7 u8 f24 f25 g26 g27 g28 g29 g30 g31 g32 g33 g34 g35 j1_36 = some r_22 := hf
        unfold m_Opener_openFrame_B22 at hf
        refine lv_iload_n hx hb dX6_openFrame_22 rfl (lv_at hl 1 rfl) ?_
        refine lv_sipush (v := 4000) hx hb dX6_openFrame_23 (by decide) ?_
        refine lv_icmp_ge (tgt := 74) hx hb dX6_openFrame_26 (by decide) (fun c_26 => ?_) (fun c_26 => ?_)
        · replace hf := if_t c_26 hf
          have hf : m_Opener_openFrame_E74 r1 u6 u7 u8 f24 f25 g26 g27 g28 g29 g30 g31 g32 g33 g34 g35 = some (o_r, o_h0_broken, o_h0_brokenAt, o_h0_at, o_h0_end, o_h0_begin, o_h0_copies, o_h0_literals, o_h0_parts, o_h0_frameBegin, o_h0_flags, o_h0_width, o_h0_size, o_h0_to_count, o_h0_to_held_f, o_h0_blocks_count, o_h0_blocks_facts_f) := by have hq := hk_22; rw [iter_exit hf hr_22] at hq; exact hq
          exact hJ_74 f24 f25 g26 g27 g28 g29 g30 g31 g32 g33 g34 g35 _ _ _ hf hP hD hS (lv_sub hl [0] rfl)
        · replace hf := if_f c_26 hf
          refine lv_aload_n hx hb dX6_openFrame_29 rfl (lv_at hl 0 rfl) ?_
          refine lv_iconst (v := 4) hx hb dX6_openFrame_30 (by decide) ?_
          obtain ⟨r37, hc, hf⟩ := bind_some hf
          refine nx_i (rn_V (As := [.int (4 : Int32)]) (rest := []) (n := 1) (ci := 5) (q0 := 0) ⟨hx, hb, hml, hown, hts⟩ (c_Opener_lacks (l := l) (dC := dC) (dI := dI) (cB := cB) (cI := cI) (h0 := h0) (a1 := (4 : Int32)) (w_h0_input := (.ref h0_input)) (w_h0_words := (.ref h0_words)) (w_h0_settings := (.ref h0_settings)) (w_h0_to := (.ref h0_to)) (w_h0_blocks := (.ref h0_blocks)) (w_h0_broken := (.int g29)) (w_h0_brokenAt := (.int g30)) (h0_at := g31) (h0_end := g32) (w_h0_begin := (.int g33)) (w_h0_copies := (.int g26)) (w_h0_literals := (.int g27)) (w_h0_parts := (.int g28)) (w_h0_frameBegin := (.int r1)) (w_h0_flags := (.int u6)) (w_h0_width := (.int u7)) (w_h0_size := (.long u8))  (o_r := r37) hc) (wV kw_867 kw_869 kw_25 kw_92 kw_870) (by decide +kernel) ⟨Nat.le_of_ble_eq_true rfl, Nat.le_of_ble_eq_true rfl⟩ hK hP hD hN hT hS (va_free (wc := [(h0, .inr (5, [.ref h0_input, .ref h0_words, .ref h0_settings, .ref h0_to, .ref h0_blocks, .int g29, .int g30, .int g31, .int g32, .int g33, .int g26, .int g27, .int g28, .int r1, .int u6, .int u7, .long u8]))]) hD hS hA [0] rfl) [0] rfl (by decide) rfl rfl rfl hl.1 rfl (lv_room (Nat.le_of_ble_eq_true rfl)) dX6_openFrame_31 ⟨Nat.le_of_ble_eq_true rfl, Nat.le_of_ble_eq_true rfl⟩) hP hD hS hA (wr := [(h0_to, .inr (2, [.ref h0_to_held, .int g35])), (h0_input, .inr (2, [.ref h0_input_held, .int h0_input_count])), (h0_input_held, .inl (cB, h0_input_held_n, .inl h0_input_held_f)), (h0_settings, .inl (cI, h0_settings_n, .inl h0_settings_f)), (h0_to_held, .inl (cB, h0_to_held_n, .inl f25)), (h0_blocks, .inr (1, [.ref h0_blocks_facts, .int g34])), (h0_words, .inr (2, [.ref h0_words_held, .int h0_words_count])), (h0_blocks_facts, .inl (cI, h0_blocks_facts_n, .inl f24)), (h0_words_held, .inl (cB, h0_words_held_n, .inl h0_words_held_f))]) (w1 := [(h0, .inr (5, [.ref h0_input, .ref h0_words, .ref h0_settings, .ref h0_to, .ref h0_blocks, .int g29, .int g30, .int g31, .int g32, .int g33, .int g26, .int g27, .int g28, .int r1, .int u6, .int u7, .long u8]))]) (ws' := [(h0, .inr (5, [.ref h0_input, .ref h0_words, .ref h0_settings, .ref h0_to, .ref h0_blocks, .int g29, .int g30, .int g31, .int g32, .int g33, .int g26, .int g27, .int g28, .int r1, .int u6, .int u7, .long u8])), (h0_to, .inr (2, [.ref h0_to_held, .int g35])), (h0_input, .inr (2, [.ref h0_input_held, .int h0_input_count])), (h0_input_held, .inl (cB, h0_input_held_n, .inl h0_input_held_f)), (h0_settings, .inl (cI, h0_settings_n, .inl h0_settings_f)), (h0_to_held, .inl (cB, h0_to_held_n, .inl f25)), (h0_blocks, .inr (1, [.ref h0_blocks_facts, .int g34])), (h0_words, .inr (2, [.ref h0_words_held, .int h0_words_count])), (h0_blocks_facts, .inl (cI, h0_blocks_facts_n, .inl f24)), (h0_words_held, .inl (cB, h0_words_held_n, .inl h0_words_held_f))]) [0] [1, 2, 3, 4, 5, 6, 7, 8, 9] [9, 0, 1, 2, 3, 4, 5, 6, 7, 8] rfl rfl (by decide) (by decide) rfl (by decide) (fun H locs hP hD hS => ?_)
          refine lv_if_ne (tgt := 74) hx hb dX6_openFrame_34 (by decide) (fun c_34 => ?_) (fun c_34 => ?_)
          · replace hf := if_f c_34 hf
            have hf : m_Opener_openFrame_E74 r1 u6 u7 u8 f24 f25 g26 g27 g28 g29 g30 g31 g32 g33 g34 g35 = some (o_r, o_h0_broken, o_h0_brokenAt, o_h0_at, o_h0_end, o_h0_begin, o_h0_copies, o_h0_literals, o_h0_parts, o_h0_frameBegin, o_h0_flags, o_h0_width, o_h0_size, o_h0_to_count, o_h0_to_held_f, o_h0_blocks_count, o_h0_blocks_facts_f) := by have hq := hk_22; rw [iter_exit hf hr_22] at hq; exact hq
            exact hJ_74 f24 f25 g26 g27 g28 g29 g30 g31 g32 g33 g34 g35 _ _ _ hf hP hD hS (lv_sub hl [0] rfl)
          · replace hf := if_t c_34 hf
            refine lv_aload_n hx hb dX6_openFrame_37 rfl (lv_at hl 0 rfl) ?_
            refine va_get (D := (dC, dI)) (ci := 5) (v := .ref h0_input) (C := RX6) (T := TX6) (N := 17) hx hb hts inG_X6 hown hK hP 0 rfl rfl 0 (by decide) (hts _ kw_289) (fun _ h9 => h9) rfl dX6_openFrame_38 ?_
            refine lv_aload_n hx hb dX6_openFrame_41 rfl (lv_at hl 0 rfl) ?_
            refine va_get (D := (dC, dI)) (ci := 5) (v := .int g31) (C := RX6) (T := TX6) (N := 17) hx hb hts inG_X6 hown hK hP 0 rfl rfl 7 (by decide) (hts _ kw_296) (fun _ h9 => h9) rfl dX6_openFrame_42 ?_
            refine lv_iconst (v := 4) hx hb dX6_openFrame_45 (by decide) ?_
            obtain ⟨r38, hc, hf⟩ := bind_some hf
            refine nx_l (rn_V (As := [.int g31, .int (4 : Int32)]) (rest := []) (n := 2) (ci := 2) (q0 := 0) ⟨hx, hb, hml, hown, hts⟩ (c_Bytes_number (l := l) (dC := dC) (dI := dI) (cB := cB) (cI := cI) (h0 := h0_input) (a1 := g31) (a2 := (4 : Int32)) (h0_held := h0_input_held) (h0_count := h0_input_count) (h0_held_n := h0_input_held_n) (h0_held_f := h0_input_held_f)  (o_r := r38) hc) (wV kw_889 kw_890 kw_891 kw_83 kw_892) (by decide +kernel) ⟨Nat.le_of_ble_eq_true rfl, Nat.le_of_ble_eq_true rfl⟩ hK hP hD hN hT hS (va_free (wc := [(h0_input, .inr (2, [.ref h0_input_held, .int h0_input_count])), (h0_input_held, .inl (cB, h0_input_held_n, .inl h0_input_held_f))]) hD hS hA [2, 3] rfl) [2, 3] rfl (by decide) rfl rfl rfl hl.1 rfl (lv_room (Nat.le_of_ble_eq_true rfl)) dX6_openFrame_46 ⟨Nat.le_of_ble_eq_true rfl, Nat.le_of_ble_eq_true rfl⟩) hP hD hS hA (wr := [(h0, .inr (5, [.ref h0_input, .ref h0_words, .ref h0_settings, .ref h0_to, .ref h0_blocks, .int g29, .int g30, .int g31, .int g32, .int g33, .int g26, .int g27, .int g28, .int r1, .int u6, .int u7, .long u8])), (h0_to, .inr (2, [.ref h0_to_held, .int g35])), (h0_settings, .inl (cI, h0_settings_n, .inl h0_settings_f)), (h0_to_held, .inl (cB, h0_to_held_n, .inl f25)), (h0_blocks, .inr (1, [.ref h0_blocks_facts, .int g34])), (h0_words, .inr (2, [.ref h0_words_held, .int h0_words_count])), (h0_blocks_facts, .inl (cI, h0_blocks_facts_n, .inl f24)), (h0_words_held, .inl (cB, h0_words_held_n, .inl h0_words_held_f))]) (w1 := [(h0_input, .inr (2, [.ref h0_input_held, .int h0_input_count])), (h0_input_held, .inl (cB, h0_input_held_n, .inl h0_input_held_f))]) (ws' := [(h0, .inr (5, [.ref h0_input, .ref h0_words, .ref h0_settings, .ref h0_to, .ref h0_blocks, .int g29, .int g30, .int g31, .int g32, .int g33, .int g26, .int g27, .int g28, .int r1, .int u6, .int u7, .long u8])), (h0_to, .inr (2, [.ref h0_to_held, .int g35])), (h0_input, .inr (2, [.ref h0_input_held, .int h0_input_count])), (h0_input_held, .inl (cB, h0_input_held_n, .inl h0_input_held_f)), (h0_settings, .inl (cI, h0_settings_n, .inl h0_settings_f)), (h0_to_held, .inl (cB, h0_to_held_n, .inl f25)), (h0_blocks, .inr (1, [.ref h0_blocks_facts, .int g34])), (h0_words, .inr (2, [.ref h0_words_held, .int h0_words_count])), (h0_blocks_facts, .inl (cI, h0_blocks_facts_n, .inl f24)), (h0_words_held, .inl (cB, h0_words_held_n, .inl h0_words_held_f))]) [2, 3] [0, 1, 4, 5, 6, 7, 8, 9] [0, 1, 8, 9, 2, 3, 4, 5, 6, 7] rfl rfl (by decide) (by decide) rfl (by decide) (fun H locs hP hD hS => ?_)
            refine lv_lconst (v := 0) hx hb dX6_openFrame_49 (by decide) ?_
            refine W.lcmp hx hb dX6_openFrame_50 ?_
            refine lv_if_ne (tgt := 59) hx hb dX6_openFrame_51 (by decide) (fun c_51 => ?_) (fun c_51 => ?_)
            · replace hf := if_f c_51 hf
              refine lv_aload_n hx hb dX6_openFrame_59 rfl (lv_at hl 0 rfl) ?_
              obtain ⟨x, hc, hf⟩ := bind_some hf
              obtain ⟨r39, u40, u41, u42, u43, u44, u45, u46, u47, u48, u49, u50, u51⟩ := x
              dsimp only at hf
              refine nx_i (rn_V (As := []) (rest := []) (n := 0) (ci := 5) (q0 := 0) ⟨hx, hb, hml, hown, hts⟩ (c_Opener_openFrameBlock (l := l) (dC := dC) (dI := dI) (cB := cB) (cI := cI) (h0 := h0) (h0_input := h0_input) (h0_input_held := h0_input_held) (h0_blocks := h0_blocks) (h0_to := h0_to) (h0_blocks_facts := h0_blocks_facts) (h0_to_held := h0_to_held) (h0_words := h0_words) (h0_words_held := h0_words_held) (w_h0_settings := (.ref h0_settings)) (h0_broken := g29) (h0_brokenAt := g30) (h0_at := g31) (h0_end := g32) (h0_begin := g33) (h0_copies := g26) (h0_literals := g27) (h0_parts := g28) (h0_frameBegin := r1) (h0_flags := u6) (h0_width := u7) (w_h0_size := (.long u8)) (h0_input_count := h0_input_count) (h0_input_held_n := h0_input_held_n) (h0_input_held_f := h0_input_held_f) (h0_blocks_count := g34) (h0_to_count := g35) (h0_blocks_facts_n := h0_blocks_facts_n) (h0_blocks_facts_f := f24) (h0_to_held_n := h0_to_held_n) (h0_to_held_f := f25) (h0_words_count := h0_words_count) (h0_words_held_n := h0_words_held_n) (h0_words_held_f := h0_words_held_f) (o_h0_broken := u40) (o_h0_brokenAt := u41) (o_h0_at := u42) (o_h0_end := u43) (o_h0_begin := u44) (o_h0_copies := u45) (o_h0_literals := u46) (o_h0_parts := u47) (o_h0_blocks_count := u48) (o_h0_to_count := u49) (o_h0_blocks_facts_f := u50) (o_h0_to_held_f := u51) (o_r := r39) hc) (wV kw_942 kw_944 kw_38 kw_92 kw_945) (by decide +kernel) ⟨Nat.le_of_ble_eq_true rfl, Nat.le_of_ble_eq_true rfl⟩ hK hP hD hN hT hS (va_free (wc := [(h0, .inr (5, [.ref h0_input, .ref h0_words, .ref h0_settings, .ref h0_to, .ref h0_blocks, .int g29, .int g30, .int g31, .int g32, .int g33, .int g26, .int g27, .int g28, .int r1, .int u6, .int u7, .long u8])), (h0_input, .inr (2, [.ref h0_input_held, .int h0_input_count])), (h0_input_held, .inl (cB, h0_input_held_n, .inl h0_input_held_f)), (h0_blocks, .inr (1, [.ref h0_blocks_facts, .int g34])), (h0_to, .inr (2, [.ref h0_to_held, .int g35])), (h0_blocks_facts, .inl (cI, h0_blocks_facts_n, .inl f24)), (h0_to_held, .inl (cB, h0_to_held_n, .inl f25)), (h0_words, .inr (2, [.ref h0_words_held, .int h0_words_count])), (h0_words_held, .inl (cB, h0_words_held_n, .inl h0_words_held_f))]) hD hS hA [0, 2, 3, 6, 1, 8, 5, 7, 9] rfl) [0, 2, 3, 6, 1, 8, 5, 7, 9] rfl (by decide) rfl rfl rfl hl.1 rfl (lv_room (Nat.le_of_ble_eq_true rfl)) dX6_openFrame_60 ⟨Nat.le_of_ble_eq_true rfl, Nat.le_of_ble_eq_true rfl⟩) hP hD hS hA (wr := [(h0_settings, .inl (cI, h0_settings_n, .inl h0_settings_f))]) (w1 := [(h0, .inr (5, [.ref h0_input, .ref h0_words, .ref h0_settings, .ref h0_to, .ref h0_blocks, .int u40, .int u41, .int u42, .int u43, .int u44, .int u45, .int u46, .int u47, .int r1, .int u6, .int u7, .long u8])), (h0_input, .inr (2, [.ref h0_input_held, .int h0_input_count])), (h0_input_held, .inl (cB, h0_input_held_n, .inl h0_input_held_f)), (h0_blocks, .inr (1, [.ref h0_blocks_facts, .int u48])), (h0_to, .inr (2, [.ref h0_to_held, .int u49])), (h0_blocks_facts, .inl (cI, h0_blocks_facts_n, .inl u50)), (h0_to_held, .inl (cB, h0_to_held_n, .inl u51)), (h0_words, .inr (2, [.ref h0_words_held, .int h0_words_count])), (h0_words_held, .inl (cB, h0_words_held_n, .inl h0_words_held_f))]) (ws' := [(h0, .inr (5, [.ref h0_input, .ref h0_words, .ref h0_settings, .ref h0_to, .ref h0_blocks, .int u40, .int u41, .int u42, .int u43, .int u44, .int u45, .int u46, .int u47, .int r1, .int u6, .int u7, .long u8])), (h0_to, .inr (2, [.ref h0_to_held, .int u49])), (h0_input, .inr (2, [.ref h0_input_held, .int h0_input_count])), (h0_input_held, .inl (cB, h0_input_held_n, .inl h0_input_held_f)), (h0_settings, .inl (cI, h0_settings_n, .inl h0_settings_f)), (h0_to_held, .inl (cB, h0_to_held_n, .inl u51)), (h0_blocks, .inr (1, [.ref h0_blocks_facts, .int u48])), (h0_words, .inr (2, [.ref h0_words_held, .int h0_words_count])), (h0_blocks_facts, .inl (cI, h0_blocks_facts_n, .inl u50)), (h0_words_held, .inl (cB, h0_words_held_n, .inl h0_words_held_f))]) [0, 2, 3, 6, 1, 8, 5, 7, 9] [4] [1, 5, 2, 3, 0, 7, 4, 8, 6, 9] rfl rfl (by decide) (by decide) rfl (by decide) (fun H locs hP hD hS => ?_)
              refine lv_if_ne (tgt := 68) hx hb dX6_openFrame_63 (by decide) (fun c_63 => ?_) (fun c_63 => ?_)
              · replace hf := if_f c_63 hf
                obtain ⟨v1_52, e_v1_52⟩ : ∃ y : Int32, y = (j1_36 + (1 : Int32)) := ⟨_, rfl⟩
                replace hf := bnd_at e_v1_52 hf
                refine lv_iinc (v := v1_52) (lv' := [(1, .int v1_52), (0, .ref h0)]) hx hb dX6_openFrame_68 hl (k := 1) rfl (by rw [e_v1_52]; rfl) (by decide) rfl (fun ls hl => ?_)
                refine lv_goto (tgt := 22) hx hb dX6_openFrame_71 (by decide) ?_
                exact ih_22 u50 u51 u45 u46 u47 u40 u41 u42 u43 u44 u48 u49 v1_52 _ _ _ (iter_back hf hr_22) hP hD hS (lv_sub hl [1, 0] rfl)
              · replace hf := if_t c_63 hf
                refine lv_iconst (v := 0) hx hb dX6_openFrame_66 (by decide) ?_
                have hzb : narrow .boolean (.int (0 : Int32)) = .int (0 : Int32) := rfl
                replace hf : some ((0 : Int32), u40, u41, u42, u43, u44, u45, u46, u47, r1, u6, u7, u8, u49, u51, u48, u50) = some (o_r, o_h0_broken, o_h0_brokenAt, o_h0_at, o_h0_end, o_h0_begin, o_h0_copies, o_h0_literals, o_h0_parts, o_h0_frameBegin, o_h0_flags, o_h0_width, o_h0_size, o_h0_to_count, o_h0_to_held_f, o_h0_blocks_count, o_h0_blocks_facts_f) := by have hq := hk_22; rw [iter_exit hf hr_22] at hq; exact hq
                obtain ⟨rfl, hq_1⟩ := Prod.mk.inj (Option.some.inj hf)
                obtain ⟨rfl, hq_2⟩ := Prod.mk.inj hq_1
                obtain ⟨rfl, hq_3⟩ := Prod.mk.inj hq_2
                obtain ⟨rfl, hq_4⟩ := Prod.mk.inj hq_3
                obtain ⟨rfl, hq_5⟩ := Prod.mk.inj hq_4
                obtain ⟨rfl, hq_6⟩ := Prod.mk.inj hq_5
                obtain ⟨rfl, hq_7⟩ := Prod.mk.inj hq_6
                obtain ⟨rfl, hq_8⟩ := Prod.mk.inj hq_7
                obtain ⟨rfl, hq_9⟩ := Prod.mk.inj hq_8
                obtain ⟨rfl, hq_10⟩ := Prod.mk.inj hq_9
                obtain ⟨rfl, hq_11⟩ := Prod.mk.inj hq_10
                obtain ⟨rfl, hq_12⟩ := Prod.mk.inj hq_11
                obtain ⟨rfl, hq_13⟩ := Prod.mk.inj hq_12
                obtain ⟨rfl, hq_14⟩ := Prod.mk.inj hq_13
                obtain ⟨rfl, hq_15⟩ := Prod.mk.inj hq_14
                obtain ⟨rfl, hq_16⟩ := Prod.mk.inj hq_15
                obtain rfl := hq_16
                exact rt_z hQ hx hb hr hzb hlocks hP hD hS dX6_openFrame_67
            · replace hf := if_t c_51 hf
              refine lv_aload_n hx hb dX6_openFrame_54 rfl (lv_at hl 0 rfl) ?_
              obtain ⟨x, hc, hf⟩ := bind_some hf
              obtain ⟨r53, u54, u55, u56⟩ := x
              dsimp only at hf
              refine nx_i (rn_V (As := []) (rest := []) (n := 0) (ci := 5) (q0 := 0) ⟨hx, hb, hml, hown, hts⟩ (c_Opener_openFrameEnd (l := l) (dC := dC) (dI := dI) (cB := cB) (cI := cI) (h0 := h0) (h0_to := h0_to) (h0_input := h0_input) (h0_input_held := h0_input_held) (h0_to_held := h0_to_held) (w_h0_words := (.ref h0_words)) (w_h0_settings := (.ref h0_settings)) (w_h0_blocks := (.ref h0_blocks)) (h0_broken := g29) (h0_brokenAt := g30) (h0_at := g31) (h0_end := g32) (w_h0_begin := (.int g33)) (w_h0_copies := (.int g26)) (w_h0_literals := (.int g27)) (w_h0_parts := (.int g28)) (h0_frameBegin := r1) (h0_flags := u6) (w_h0_width := (.int u7)) (h0_size := u8) (h0_to_count := g35) (h0_input_count := h0_input_count) (h0_input_held_n := h0_input_held_n) (h0_input_held_f := h0_input_held_f) (h0_to_held_n := h0_to_held_n) (h0_to_held_f := f25) (o_h0_broken := u54) (o_h0_brokenAt := u55) (o_h0_at := u56) (o_r := r53) hc) (wV kw_938 kw_940 kw_37 kw_92 kw_941) (by decide +kernel) ⟨Nat.le_of_ble_eq_true rfl, Nat.le_of_ble_eq_true rfl⟩ hK hP hD hN hT hS (va_free (wc := [(h0, .inr (5, [.ref h0_input, .ref h0_words, .ref h0_settings, .ref h0_to, .ref h0_blocks, .int g29, .int g30, .int g31, .int g32, .int g33, .int g26, .int g27, .int g28, .int r1, .int u6, .int u7, .long u8])), (h0_to, .inr (2, [.ref h0_to_held, .int g35])), (h0_input, .inr (2, [.ref h0_input_held, .int h0_input_count])), (h0_input_held, .inl (cB, h0_input_held_n, .inl h0_input_held_f)), (h0_to_held, .inl (cB, h0_to_held_n, .inl f25))]) hD hS hA [0, 1, 2, 3, 5] rfl) [0, 1, 2, 3, 5] rfl (by decide) rfl rfl rfl hl.1 rfl (lv_room (Nat.le_of_ble_eq_true rfl)) dX6_openFrame_55 ⟨Nat.le_of_ble_eq_true rfl, Nat.le_of_ble_eq_true rfl⟩) hP hD hS hA (wr := [(h0_settings, .inl (cI, h0_settings_n, .inl h0_settings_f)), (h0_blocks, .inr (1, [.ref h0_blocks_facts, .int g34])), (h0_words, .inr (2, [.ref h0_words_held, .int h0_words_count])), (h0_blocks_facts, .inl (cI, h0_blocks_facts_n, .inl f24)), (h0_words_held, .inl (cB, h0_words_held_n, .inl h0_words_held_f))]) (w1 := [(h0, .inr (5, [.ref h0_input, .ref h0_words, .ref h0_settings, .ref h0_to, .ref h0_blocks, .int u54, .int u55, .int u56, .int g32, .int g33, .int g26, .int g27, .int g28, .int r1, .int u6, .int u7, .long u8])), (h0_to, .inr (2, [.ref h0_to_held, .int g35])), (h0_input, .inr (2, [.ref h0_input_held, .int h0_input_count])), (h0_input_held, .inl (cB, h0_input_held_n, .inl h0_input_held_f)), (h0_to_held, .inl (cB, h0_to_held_n, .inl f25))]) (ws' := [(h0, .inr (5, [.ref h0_input, .ref h0_words, .ref h0_settings, .ref h0_to, .ref h0_blocks, .int u54, .int u55, .int u56, .int g32, .int g33, .int g26, .int g27, .int g28, .int r1, .int u6, .int u7, .long u8])), (h0_to, .inr (2, [.ref h0_to_held, .int g35])), (h0_input, .inr (2, [.ref h0_input_held, .int h0_input_count])), (h0_input_held, .inl (cB, h0_input_held_n, .inl h0_input_held_f)), (h0_settings, .inl (cI, h0_settings_n, .inl h0_settings_f)), (h0_to_held, .inl (cB, h0_to_held_n, .inl f25)), (h0_blocks, .inr (1, [.ref h0_blocks_facts, .int g34])), (h0_words, .inr (2, [.ref h0_words_held, .int h0_words_count])), (h0_blocks_facts, .inl (cI, h0_blocks_facts_n, .inl f24)), (h0_words_held, .inl (cB, h0_words_held_n, .inl h0_words_held_f))]) [0, 1, 2, 3, 5] [4, 6, 7, 8, 9] [5, 6, 7, 8, 0, 9, 1, 2, 3, 4] rfl rfl (by decide) (by decide) rfl (by decide) (fun H locs hP hD hS => ?_)
              obtain ⟨hzb, hf⟩ := bch_some hf
              replace hf : some (r53, u54, u55, u56, g32, g33, g26, g27, g28, r1, u6, u7, u8, g35, f25, g34, f24) = some (o_r, o_h0_broken, o_h0_brokenAt, o_h0_at, o_h0_end, o_h0_begin, o_h0_copies, o_h0_literals, o_h0_parts, o_h0_frameBegin, o_h0_flags, o_h0_width, o_h0_size, o_h0_to_count, o_h0_to_held_f, o_h0_blocks_count, o_h0_blocks_facts_f) := by have hq := hk_22; rw [iter_exit hf hr_22] at hq; exact hq
              obtain ⟨rfl, hq_1⟩ := Prod.mk.inj (Option.some.inj hf)
              obtain ⟨rfl, hq_2⟩ := Prod.mk.inj hq_1
              obtain ⟨rfl, hq_3⟩ := Prod.mk.inj hq_2
              obtain ⟨rfl, hq_4⟩ := Prod.mk.inj hq_3
              obtain ⟨rfl, hq_5⟩ := Prod.mk.inj hq_4
              obtain ⟨rfl, hq_6⟩ := Prod.mk.inj hq_5
              obtain ⟨rfl, hq_7⟩ := Prod.mk.inj hq_6
              obtain ⟨rfl, hq_8⟩ := Prod.mk.inj hq_7
              obtain ⟨rfl, hq_9⟩ := Prod.mk.inj hq_8
              obtain ⟨rfl, hq_10⟩ := Prod.mk.inj hq_9
              obtain ⟨rfl, hq_11⟩ := Prod.mk.inj hq_10
              obtain ⟨rfl, hq_12⟩ := Prod.mk.inj hq_11
              obtain ⟨rfl, hq_13⟩ := Prod.mk.inj hq_12
              obtain ⟨rfl, hq_14⟩ := Prod.mk.inj hq_13
              obtain ⟨rfl, hq_15⟩ := Prod.mk.inj hq_14
              obtain ⟨rfl, hq_16⟩ := Prod.mk.inj hq_15
              obtain rfl := hq_16
              exact rt_z hQ hx hb hr hzb hlocks hP hD hS dX6_openFrame_58
    exact hL_22 FU h0_blocks_facts_f h0_to_held_f h0_copies h0_literals h0_parts u3 u4 u5 h0_end h0_begin h0_blocks_count h0_to_count (0 : Int32) _ _ _ hi_22 hP hD hS (lv_sub hl [1, 0] rfl)
  · replace hf := if_t c_15 hf
    refine lv_iconst (v := 0) hx hb dX6_openFrame_18 (by decide) ?_
    have hzb : narrow .boolean (.int (0 : Int32)) = .int (0 : Int32) := rfl
    obtain ⟨rfl, hq_1⟩ := Prod.mk.inj (Option.some.inj hf)
    obtain ⟨rfl, hq_2⟩ := Prod.mk.inj hq_1
    obtain ⟨rfl, hq_3⟩ := Prod.mk.inj hq_2
    obtain ⟨rfl, hq_4⟩ := Prod.mk.inj hq_3
    obtain ⟨rfl, hq_5⟩ := Prod.mk.inj hq_4
    obtain ⟨rfl, hq_6⟩ := Prod.mk.inj hq_5
    obtain ⟨rfl, hq_7⟩ := Prod.mk.inj hq_6
    obtain ⟨rfl, hq_8⟩ := Prod.mk.inj hq_7
    obtain ⟨rfl, hq_9⟩ := Prod.mk.inj hq_8
    obtain ⟨rfl, hq_10⟩ := Prod.mk.inj hq_9
    obtain ⟨rfl, hq_11⟩ := Prod.mk.inj hq_10
    obtain ⟨rfl, hq_12⟩ := Prod.mk.inj hq_11
    obtain ⟨rfl, hq_13⟩ := Prod.mk.inj hq_12
    obtain ⟨rfl, hq_14⟩ := Prod.mk.inj hq_13
    obtain ⟨rfl, hq_15⟩ := Prod.mk.inj hq_14
    obtain ⟨rfl, hq_16⟩ := Prod.mk.inj hq_15
    obtain rfl := hq_16
    exact rt_z hQ hx hb hr hzb hlocks hP hD hS dX6_openFrame_19

theorem dX6_openFrames_0 : decode cX6_openFrames 0 = .ok (.iconst 0, 1) := by decide +kernel
theorem dX6_openFrames_1 : decode cX6_openFrames 1 = .ok (.istore_n 1, 1) := by decide +kernel
theorem dX6_openFrames_2 : decode cX6_openFrames 2 = .ok (.iload_n 1, 1) := by decide +kernel
theorem dX6_openFrames_3 : decode cX6_openFrames 3 = .ok (.sipush 4000, 3) := by decide +kernel
theorem dX6_openFrames_6 : decode cX6_openFrames 6 = .ok (.if_icmp .ge 131, 3) := by decide +kernel
theorem dX6_openFrames_9 : decode cX6_openFrames 9 = .ok (.aload_n 0, 1) := by decide +kernel
theorem dX6_openFrames_10 : decode cX6_openFrames 10 = .ok (.getfield 47, 3) := by decide +kernel
theorem dX6_openFrames_13 : decode cX6_openFrames 13 = .ok (.aload_n 0, 1) := by decide +kernel
theorem dX6_openFrames_14 : decode cX6_openFrames 14 = .ok (.getfield 54, 3) := by decide +kernel
theorem dX6_openFrames_17 : decode cX6_openFrames 17 = .ok (.if_icmp .ge 120, 3) := by decide +kernel
theorem dX6_openFrames_20 : decode cX6_openFrames 20 = .ok (.aload_n 0, 1) := by decide +kernel
theorem dX6_openFrames_21 : decode cX6_openFrames 21 = .ok (.iconst 4, 1) := by decide +kernel
theorem dX6_openFrames_22 : decode cX6_openFrames 22 = .ok (.invokevirtual 95, 3) := by decide +kernel
theorem dX6_openFrames_25 : decode cX6_openFrames 25 = .ok (.ifCond .eq 13, 3) := by decide +kernel
theorem dX6_openFrames_28 : decode cX6_openFrames 28 = .ok (.aload_n 0, 1) := by decide +kernel
theorem dX6_openFrames_29 : decode cX6_openFrames 29 = .ok (.iconst 1, 1) := by decide +kernel
theorem dX6_openFrames_30 : decode cX6_openFrames 30 = .ok (.aload_n 0, 1) := by decide +kernel
theorem dX6_openFrames_31 : decode cX6_openFrames 31 = .ok (.getfield 54, 3) := by decide +kernel
theorem dX6_openFrames_34 : decode cX6_openFrames 34 = .ok (.invokevirtual 98, 3) := by decide +kernel
theorem dX6_openFrames_37 : decode cX6_openFrames 37 = .ok (.ireturn, 1) := by decide +kernel
theorem dX6_openFrames_38 : decode cX6_openFrames 38 = .ok (.aload_n 0, 1) := by decide +kernel
theorem dX6_openFrames_39 : decode cX6_openFrames 39 = .ok (.getfield 9, 3) := by decide +kernel
theorem dX6_openFrames_42 : decode cX6_openFrames 42 = .ok (.aload_n 0, 1) := by decide +kernel
theorem dX6_openFrames_43 : decode cX6_openFrames 43 = .ok (.getfield 47, 3) := by decide +kernel
theorem dX6_openFrames_46 : decode cX6_openFrames 46 = .ok (.iconst 4, 1) := by decide +kernel
theorem dX6_openFrames_47 : decode cX6_openFrames 47 = .ok (.invokevirtual 117, 3) := by decide +kernel
theorem dX6_openFrames_50 : decode cX6_openFrames 50 = .ok (.lstore_n 2, 1) := by decide +kernel
theorem dX6_openFrames_51 : decode cX6_openFrames 51 = .ok (.lload_n 2, 1) := by decide +kernel
theorem dX6_openFrames_52 : decode cX6_openFrames 52 = .ok (.ldc2_w 138, 3) := by decide +kernel
theorem dX6_openFrames_55 : decode cX6_openFrames 55 = .ok (.lcmp, 1) := by decide +kernel
theorem dX6_openFrames_56 : decode cX6_openFrames 56 = .ok (.ifCond .lt 15, 3) := by decide +kernel
theorem dX6_openFrames_59 : decode cX6_openFrames 59 = .ok (.lload_n 2, 1) := by decide +kernel
theorem dX6_openFrames_60 : decode cX6_openFrames 60 = .ok (.ldc2_w 140, 3) := by decide +kernel
theorem dX6_openFrames_63 : decode cX6_openFrames 63 = .ok (.lcmp, 1) := by decide +kernel
theorem dX6_openFrames_64 : decode cX6_openFrames 64 = .ok (.ifCond .ge 7, 3) := by decide +kernel
theorem dX6_openFrames_67 : decode cX6_openFrames 67 = .ok (.iconst 1, 1) := by decide +kernel
theorem dX6_openFrames_68 : decode cX6_openFrames 68 = .ok (.goto 4, 3) := by decide +kernel
theorem dX6_openFrames_71 : decode cX6_openFrames 71 = .ok (.iconst 0, 1) := by decide +kernel
theorem dX6_openFrames_72 : decode cX6_openFrames 72 = .ok (.istore 4, 2) := by decide +kernel
theorem dX6_openFrames_74 : decode cX6_openFrames 74 = .ok (.iload 4, 2) := by decide +kernel
theorem dX6_openFrames_76 : decode cX6_openFrames 76 = .ok (.ifCond .ne 21, 3) := by decide +kernel
theorem dX6_openFrames_79 : decode cX6_openFrames 79 = .ok (.lload_n 2, 1) := by decide +kernel
theorem dX6_openFrames_80 : decode cX6_openFrames 80 = .ok (.ldc2_w 142, 3) := by decide +kernel
theorem dX6_openFrames_83 : decode cX6_openFrames 83 = .ok (.lcmp, 1) := by decide +kernel
theorem dX6_openFrames_84 : decode cX6_openFrames 84 = .ok (.ifCond .eq 13, 3) := by decide +kernel
theorem dX6_openFrames_87 : decode cX6_openFrames 87 = .ok (.aload_n 0, 1) := by decide +kernel
theorem dX6_openFrames_88 : decode cX6_openFrames 88 = .ok (.iconst 4, 1) := by decide +kernel
theorem dX6_openFrames_89 : decode cX6_openFrames 89 = .ok (.aload_n 0, 1) := by decide +kernel
theorem dX6_openFrames_90 : decode cX6_openFrames 90 = .ok (.getfield 47, 3) := by decide +kernel
theorem dX6_openFrames_93 : decode cX6_openFrames 93 = .ok (.invokevirtual 98, 3) := by decide +kernel
theorem dX6_openFrames_96 : decode cX6_openFrames 96 = .ok (.ireturn, 1) := by decide +kernel
theorem dX6_openFrames_97 : decode cX6_openFrames 97 = .ok (.aload_n 0, 1) := by decide +kernel
theorem dX6_openFrames_98 : decode cX6_openFrames 98 = .ok (.dup, 1) := by decide +kernel
theorem dX6_openFrames_99 : decode cX6_openFrames 99 = .ok (.getfield 47, 3) := by decide +kernel
theorem dX6_openFrames_102 : decode cX6_openFrames 102 = .ok (.iconst 4, 1) := by decide +kernel
theorem dX6_openFrames_103 : decode cX6_openFrames 103 = .ok (.iadd, 1) := by decide +kernel
theorem dX6_openFrames_104 : decode cX6_openFrames 104 = .ok (.putfield 47, 3) := by decide +kernel
theorem dX6_openFrames_107 : decode cX6_openFrames 107 = .ok (.iload 4, 2) := by decide +kernel
theorem dX6_openFrames_109 : decode cX6_openFrames 109 = .ok (.ifCond .eq 13, 3) := by decide +kernel
theorem dX6_openFrames_112 : decode cX6_openFrames 112 = .ok (.aload_n 0, 1) := by decide +kernel
theorem dX6_openFrames_113 : decode cX6_openFrames 113 = .ok (.invokevirtual 144, 3) := by decide +kernel
theorem dX6_openFrames_116 : decode cX6_openFrames 116 = .ok (.ifCond .eq 13, 3) := by decide +kernel
theorem dX6_openFrames_119 : decode cX6_openFrames 119 = .ok (.goto 12, 3) := by decide +kernel
theorem dX6_openFrames_122 : decode cX6_openFrames 122 = .ok (.aload_n 0, 1) := by decide +kernel
theorem dX6_openFrames_123 : decode cX6_openFrames 123 = .ok (.invokevirtual 147, 3) := by decide +kernel
theorem dX6_openFrames_126 : decode cX6_openFrames 126 = .ok (.ifCond .ne 5, 3) := by decide +kernel
theorem dX6_openFrames_129 : decode cX6_openFrames 129 = .ok (.iconst 0, 1) := by decide +kernel
theorem dX6_openFrames_130 : decode cX6_openFrames 130 = .ok (.ireturn, 1) := by decide +kernel
theorem dX6_openFrames_131 : decode cX6_openFrames 131 = .ok (.iinc 1 1, 3) := by decide +kernel
theorem dX6_openFrames_134 : decode cX6_openFrames 134 = .ok (.goto (-132), 3) := by decide +kernel
theorem dX6_openFrames_137 : decode cX6_openFrames 137 = .ok (.iconst 1, 1) := by decide +kernel
theorem dX6_openFrames_138 : decode cX6_openFrames 138 = .ok (.ireturn, 1) := by decide +kernel
def m_Opener_openFrames_E129 (f1 : Nat → Int32) (f2 : Nat → Int32) (g3 : Int32) (g4 : Int32) (g5 : Int32) (g6 : Int32) (g7 : Int32) (g8 : Int32) (g9 : Int64) (g10 : Int32) (g11 : Int32) (g12 : Int32) (g13 : Int32) (g14 : Int32) (g15 : Int32) (g16 : Int32) : Option (Int32 × Int32 × Int32 × Int32 × Int32 × Int32 × Int32 × Int32 × Int32 × Int32 × Int32 × Int32 × Int64 × Int32 × Int32 × (Nat → Int32) × (Nat → Int32)) :=
  some ((0 : Int32), g10, g11, g12, g13, g14, g3, g4, g5, g6, g7, g8, g9, g16, g15, f2, f1)
def m_Opener_openFrames_E137 (f17 : Nat → Int32) (f18 : Nat → Int32) (g19 : Int32) (g20 : Int32) (g21 : Int32) (g22 : Int32) (g23 : Int32) (g24 : Int32) (g25 : Int64) (g26 : Int32) (g27 : Int32) (g28 : Int32) (g29 : Int32) (g30 : Int32) (g31 : Int32) (g32 : Int32) : Option (Int32 × Int32 × Int32 × Int32 × Int32 × Int32 × Int32 × Int32 × Int32 × Int32 × Int32 × Int32 × Int64 × Int32 × Int32 × (Nat → Int32) × (Nat → Int32)) :=
  some ((1 : Int32), g26, g27, g28, g29, g30, g19, g20, g21, g22, g23, g24, g25, g32, g31, f18, f17)
def m_Opener_openFrames_J131 (j1_49 : Int32) (f54 : Nat → Int32) (f55 : Nat → Int32) (g56 : Int32) (g57 : Int32) (g58 : Int32) (g59 : Int32) (g60 : Int32) (g61 : Int32) (g62 : Int64) (g63 : Int32) (g64 : Int32) (g65 : Int32) (g66 : Int32) (g67 : Int32) (g68 : Int32) (g69 : Int32) : Option (((Nat → Int32) × (Nat → Int32) × Int32 × Int32 × Int32 × Int32 × Int32 × Int32 × Int64 × Int32 × Int32 × Int32 × Int32 × Int32 × Int32 × Int32 × Int32) ⊕ (((Nat → Int32) × (Nat → Int32) × Int32 × Int32 × Int32 × Int32 × Int32 × Int32 × Int64 × Int32 × Int32 × Int32 × Int32 × Int32 × Int32 × Int32) ⊕ ((Nat → Int32) × (Nat → Int32) × Int32 × Int32 × Int32 × Int32 × Int32 × Int32 × Int64 × Int32 × Int32 × Int32 × Int32 × Int32 × Int32 × Int32) ⊕ (((Int32 × Int32 × Int32 × Int32 × Int32 × Int32 × Int32 × Int32 × Int32 × Int32 × Int32 × Int32 × Int64 × Int32 × Int32 × (Nat → Int32) × (Nat → Int32)))))) :=
  bnd (j1_49 + (1 : Int32)) fun v1_70 =>
  some (.inl (f54, f55, g56, g57, g58, g59, g60, g61, g62, g63, g64, g65, g66, g67, g68, g69, v1_70))
def m_Opener_openFrames_J97 (h0_input_count : Int32) (h0_input_held_n : Nat) (h0_input_held_f : Nat → Int32) (h0_words_count : Int32) (h0_settings_n : Nat) (h0_settings_f : Nat → Int32) (h0_to_held_n : Nat) (h0_blocks_facts_n : Nat) (h0_words_held_n : Nat) (h0_words_held_f : Nat → Int32) (f33 : Nat → Int32) (f34 : Nat → Int32) (g35 : Int32) (g36 : Int32) (g37 : Int32) (g38 : Int32) (g39 : Int32) (g40 : Int32) (g41 : Int64) (g42 : Int32) (g43 : Int32) (g44 : Int32) (g45 : Int32) (g46 : Int32) (g47 : Int32) (g48 : Int32) (j1_49 : Int32) (s52 : Int32) : Option (((Nat → Int32) × (Nat → Int32) × Int32 × Int32 × Int32 × Int32 × Int32 × Int32 × Int64 × Int32 × Int32 × Int32 × Int32 × Int32 × Int32 × Int32 × Int32) ⊕ (((Nat → Int32) × (Nat → Int32) × Int32 × Int32 × Int32 × Int32 × Int32 × Int32 × Int64 × Int32 × Int32 × Int32 × Int32 × Int32 × Int32 × Int32) ⊕ ((Nat → Int32) × (Nat → Int32) × Int32 × Int32 × Int32 × Int32 × Int32 × Int32 × Int64 × Int32 × Int32 × Int32 × Int32 × Int32 × Int32 × Int32) ⊕ (((Int32 × Int32 × Int32 × Int32 × Int32 × Int32 × Int32 × Int32 × Int32 × Int32 × Int32 × Int32 × Int64 × Int32 × Int32 × (Nat → Int32) × (Nat → Int32)))))) :=
  bnd (g44 + (4 : Int32)) fun p_53 =>
  if s52 = 0 then
    (m_Opener_openFrame g42 g43 p_53 g45 g46 g35 g36 g37 g39 g40 g41 g48 h0_input_count h0_input_held_n h0_input_held_f h0_settings_n h0_settings_f h0_to_held_n f34 g47 h0_words_count h0_blocks_facts_n f33 h0_words_held_n h0_words_held_f).bind fun (r71, u72, u73, u74, u75, u76, u77, u78, u79, u80, u81, u82, u83, u84, u85, u86, u87) =>
    if r71 = 0 then
      some (.inr (.inl (u87, u85, u77, u78, u79, u80, u81, u82, u83, u72, u73, u74, u75, u76, u86, u84)))
    else
      m_Opener_openFrames_J131 j1_49 u87 u85 u77 u78 u79 u80 u81 u82 u83 u72 u73 u74 u75 u76 u86 u84
  else
    (m_Opener_passPiece g42 g43 p_53 g45 h0_input_count h0_input_held_n h0_input_held_f).bind fun (r88, u89, u90, u91) =>
    if r88 = 0 then
      some (.inr (.inl (f33, f34, g35, g36, g37, g38, g39, g40, g41, u89, u90, u91, g45, g46, g47, g48)))
    else
      m_Opener_openFrames_J131 j1_49 f33 f34 g35 g36 g37 g38 g39 g40 g41 u89 u90 u91 g45 g46 g47 g48
def m_Opener_openFrames_J72 (h0_input_count : Int32) (h0_input_held_n : Nat) (h0_input_held_f : Nat → Int32) (h0_words_count : Int32) (h0_settings_n : Nat) (h0_settings_f : Nat → Int32) (h0_to_held_n : Nat) (h0_blocks_facts_n : Nat) (h0_words_held_n : Nat) (h0_words_held_f : Nat → Int32) (f33 : Nat → Int32) (f34 : Nat → Int32) (g35 : Int32) (g36 : Int32) (g37 : Int32) (g38 : Int32) (g39 : Int32) (g40 : Int32) (g41 : Int64) (g42 : Int32) (g43 : Int32) (g44 : Int32) (g45 : Int32) (g46 : Int32) (g47 : Int32) (g48 : Int32) (j1_49 : Int32) (r51 : Int64) (s52 : Int32) : Option (((Nat → Int32) × (Nat → Int32) × Int32 × Int32 × Int32 × Int32 × Int32 × Int32 × Int64 × Int32 × Int32 × Int32 × Int32 × Int32 × Int32 × Int32 × Int32) ⊕ (((Nat → Int32) × (Nat → Int32) × Int32 × Int32 × Int32 × Int32 × Int32 × Int32 × Int64 × Int32 × Int32 × Int32 × Int32 × Int32 × Int32 × Int32) ⊕ ((Nat → Int32) × (Nat → Int32) × Int32 × Int32 × Int32 × Int32 × Int32 × Int32 × Int64 × Int32 × Int32 × Int32 × Int32 × Int32 × Int32 × Int32) ⊕ (((Int32 × Int32 × Int32 × Int32 × Int32 × Int32 × Int32 × Int32 × Int32 × Int32 × Int32 × Int32 × Int64 × Int32 × Int32 × (Nat → Int32) × (Nat → Int32)))))) :=
  if s52 = 0 then
    if (lg_cmp r51 (407708164 : Int64)) = 0 then
      m_Opener_openFrames_J97 h0_input_count h0_input_held_n h0_input_held_f h0_words_count h0_settings_n h0_settings_f h0_to_held_n h0_blocks_facts_n h0_words_held_n h0_words_held_f f33 f34 g35 g36 g37 g38 g39 g40 g41 g42 g43 g44 g45 g46 g47 g48 j1_49 s52
    else
      (m_Opener_breaks (4 : Int32) g44).bind fun (r92, u93, u94) =>
      bch r92 <|
      some (.inr (.inr (.inr (r92, u93, u94, g44, g45, g46, g35, g36, g37, g38, g39, g40, g41, g48, g47, f34, f33))))
  else
    m_Opener_openFrames_J97 h0_input_count h0_input_held_n h0_input_held_f h0_words_count h0_settings_n h0_settings_f h0_to_held_n h0_blocks_facts_n h0_words_held_n h0_words_held_f f33 f34 g35 g36 g37 g38 g39 g40 g41 g42 g43 g44 g45 g46 g47 g48 j1_49 s52
def m_Opener_openFrames_B2 (h0_input_count : Int32) (h0_input_held_n : Nat) (h0_input_held_f : Nat → Int32) (h0_words_count : Int32) (h0_settings_n : Nat) (h0_settings_f : Nat → Int32) (h0_to_held_n : Nat) (h0_blocks_facts_n : Nat) (h0_words_held_n : Nat) (h0_words_held_f : Nat → Int32) (f33 : Nat → Int32) (f34 : Nat → Int32) (g35 : Int32) (g36 : Int32) (g37 : Int32) (g38 : Int32) (g39 : Int32) (g40 : Int32) (g41 : Int64) (g42 : Int32) (g43 : Int32) (g44 : Int32) (g45 : Int32) (g46 : Int32) (g47 : Int32) (g48 : Int32) (j1_49 : Int32) : Option (((Nat → Int32) × (Nat → Int32) × Int32 × Int32 × Int32 × Int32 × Int32 × Int32 × Int64 × Int32 × Int32 × Int32 × Int32 × Int32 × Int32 × Int32 × Int32) ⊕ (((Nat → Int32) × (Nat → Int32) × Int32 × Int32 × Int32 × Int32 × Int32 × Int32 × Int64 × Int32 × Int32 × Int32 × Int32 × Int32 × Int32 × Int32) ⊕ ((Nat → Int32) × (Nat → Int32) × Int32 × Int32 × Int32 × Int32 × Int32 × Int32 × Int64 × Int32 × Int32 × Int32 × Int32 × Int32 × Int32 × Int32) ⊕ (((Int32 × Int32 × Int32 × Int32 × Int32 × Int32 × Int32 × Int32 × Int32 × Int32 × Int32 × Int32 × Int64 × Int32 × Int32 × (Nat → Int32) × (Nat → Int32)))))) :=
  if (4000 : Int32) ≤ j1_49 then
    some (.inr (.inr (.inl (f33, f34, g35, g36, g37, g38, g39, g40, g41, g42, g43, g44, g45, g46, g47, g48))))
  else
    if g45 ≤ g44 then
      some (.inr (.inr (.inl (f33, f34, g35, g36, g37, g38, g39, g40, g41, g42, g43, g44, g45, g46, g47, g48))))
    else
      (m_Opener_lacks (4 : Int32) g44 g45).bind fun r50 =>
      if r50 = 0 then
        (m_Bytes_number g44 (4 : Int32) h0_input_count h0_input_held_n h0_input_held_f).bind fun r51 =>
        if (lg_cmp r51 (407710288 : Int64)) < 0 then
          m_Opener_openFrames_J72 h0_input_count h0_input_held_n h0_input_held_f h0_words_count h0_settings_n h0_settings_f h0_to_held_n h0_blocks_facts_n h0_words_held_n h0_words_held_f f33 f34 g35 g36 g37 g38 g39 g40 g41 g42 g43 g44 g45 g46 g47 g48 j1_49 r51 (0 : Int32)
        else
          if 0 ≤ (lg_cmp r51 (407710304 : Int64)) then
            m_Opener_openFrames_J72 h0_input_count h0_input_held_n h0_input_held_f h0_words_count h0_settings_n h0_settings_f h0_to_held_n h0_blocks_facts_n h0_words_held_n h0_words_held_f f33 f34 g35 g36 g37 g38 g39 g40 g41 g42 g43 g44 g45 g46 g47 g48 j1_49 r51 (0 : Int32)
          else
            m_Opener_openFrames_J72 h0_input_count h0_input_held_n h0_input_held_f h0_words_count h0_settings_n h0_settings_f h0_to_held_n h0_blocks_facts_n h0_words_held_n h0_words_held_f f33 f34 g35 g36 g37 g38 g39 g40 g41 g42 g43 g44 g45 g46 g47 g48 j1_49 r51 (1 : Int32)
      else
        (m_Opener_breaks (1 : Int32) g45).bind fun (r95, u96, u97) =>
        bch r95 <|
        some (.inr (.inr (.inr (r95, u96, u97, g44, g45, g46, g35, g36, g37, g38, g39, g40, g41, g48, g47, f34, f33))))
def m_Opener_openFrames (h0_broken : Int32) (h0_brokenAt : Int32) (h0_at : Int32) (h0_end : Int32) (h0_begin : Int32) (h0_copies : Int32) (h0_literals : Int32) (h0_parts : Int32) (h0_frameBegin : Int32) (h0_flags : Int32) (h0_width : Int32) (h0_size : Int64) (h0_input_count : Int32) (h0_input_held_n : Nat) (h0_input_held_f : Nat → Int32) (h0_to_count : Int32) (h0_blocks_count : Int32) (h0_words_count : Int32) (h0_settings_n : Nat) (h0_settings_f : Nat → Int32) (h0_to_held_n : Nat) (h0_to_held_f : Nat → Int32) (h0_blocks_facts_n : Nat) (h0_blocks_facts_f : Nat → Int32) (h0_words_held_n : Nat) (h0_words_held_f : Nat → Int32) : Option (Int32 × Int32 × Int32 × Int32 × Int32 × Int32 × Int32 × Int32 × Int32 × Int32 × Int32 × Int32 × Int64 × Int32 × Int32 × (Nat → Int32) × (Nat → Int32)) :=
  (iter (fun st => m_Opener_openFrames_B2 h0_input_count h0_input_held_n h0_input_held_f h0_words_count h0_settings_n h0_settings_f h0_to_held_n h0_blocks_facts_n h0_words_held_n h0_words_held_f st.1 st.2.1 st.2.2.1 st.2.2.2.1 st.2.2.2.2.1 st.2.2.2.2.2.1 st.2.2.2.2.2.2.1 st.2.2.2.2.2.2.2.1 st.2.2.2.2.2.2.2.2.1 st.2.2.2.2.2.2.2.2.2.1 st.2.2.2.2.2.2.2.2.2.2.1 st.2.2.2.2.2.2.2.2.2.2.2.1 st.2.2.2.2.2.2.2.2.2.2.2.2.1 st.2.2.2.2.2.2.2.2.2.2.2.2.2.1 st.2.2.2.2.2.2.2.2.2.2.2.2.2.2.1 st.2.2.2.2.2.2.2.2.2.2.2.2.2.2.2.1 st.2.2.2.2.2.2.2.2.2.2.2.2.2.2.2.2) FU (h0_blocks_facts_f, h0_to_held_f, h0_copies, h0_literals, h0_parts, h0_frameBegin, h0_flags, h0_width, h0_size, h0_broken, h0_brokenAt, h0_at, h0_end, h0_begin, h0_blocks_count, h0_to_count, (0 : Int32))).bind fun o => match o with | (.inl y) => m_Opener_openFrames_E129 y.1 y.2.1 y.2.2.1 y.2.2.2.1 y.2.2.2.2.1 y.2.2.2.2.2.1 y.2.2.2.2.2.2.1 y.2.2.2.2.2.2.2.1 y.2.2.2.2.2.2.2.2.1 y.2.2.2.2.2.2.2.2.2.1 y.2.2.2.2.2.2.2.2.2.2.1 y.2.2.2.2.2.2.2.2.2.2.2.1 y.2.2.2.2.2.2.2.2.2.2.2.2.1 y.2.2.2.2.2.2.2.2.2.2.2.2.2.1 y.2.2.2.2.2.2.2.2.2.2.2.2.2.2.1 y.2.2.2.2.2.2.2.2.2.2.2.2.2.2.2 | (.inr (.inl y)) => m_Opener_openFrames_E137 y.1 y.2.1 y.2.2.1 y.2.2.2.1 y.2.2.2.2.1 y.2.2.2.2.2.1 y.2.2.2.2.2.2.1 y.2.2.2.2.2.2.2.1 y.2.2.2.2.2.2.2.2.1 y.2.2.2.2.2.2.2.2.2.1 y.2.2.2.2.2.2.2.2.2.2.1 y.2.2.2.2.2.2.2.2.2.2.2.1 y.2.2.2.2.2.2.2.2.2.2.2.2.1 y.2.2.2.2.2.2.2.2.2.2.2.2.2.1 y.2.2.2.2.2.2.2.2.2.2.2.2.2.2.1 y.2.2.2.2.2.2.2.2.2.2.2.2.2.2.2 | (.inr (.inr y)) => some y
def rm_Opener_openFrames : Room := { frames := 7, cells := 0, slots := 0, locals := 186 }
set_option maxHeartbeats 4000000 in
set_option maxRecDepth 100000 in
theorem c_Opener_openFrames {l : Launch} {dC : Nat → ClassId} {dI : Nat → Nat → Nat} {cB cI : ClassId} {sz : Nat} {h0 : Nat} {h0_input : Nat} {h0_input_held : Nat} {h0_to : Nat} {h0_blocks : Nat} {h0_words : Nat} {h0_settings : Nat} {h0_to_held : Nat} {h0_blocks_facts : Nat} {h0_words_held : Nat} {h0_broken : Int32} {h0_brokenAt : Int32} {h0_at : Int32} {h0_end : Int32} {h0_begin : Int32} {h0_copies : Int32} {h0_literals : Int32} {h0_parts : Int32} {h0_frameBegin : Int32} {h0_flags : Int32} {h0_width : Int32} {h0_size : Int64} {h0_input_count : Int32} {h0_input_held_n : Nat} {h0_input_held_f : Nat → Int32} {h0_to_count : Int32} {h0_blocks_count : Int32} {h0_words_count : Int32} {h0_settings_n : Nat} {h0_settings_f : Nat → Int32} {h0_to_held_n : Nat} {h0_to_held_f : Nat → Int32} {h0_blocks_facts_n : Nat} {h0_blocks_facts_f : Nat → Int32} {h0_words_held_n : Nat} {h0_words_held_f : Nat → Int32} {o_r : Int32} {o_h0_broken : Int32} {o_h0_brokenAt : Int32} {o_h0_at : Int32} {o_h0_end : Int32} {o_h0_begin : Int32} {o_h0_copies : Int32} {o_h0_literals : Int32} {o_h0_parts : Int32} {o_h0_frameBegin : Int32} {o_h0_flags : Int32} {o_h0_width : Int32} {o_h0_size : Int64} {o_h0_to_count : Int32} {o_h0_blocks_count : Int32} {o_h0_to_held_f : Nat → Int32} {o_h0_blocks_facts_f : Nat → Int32} (hf : m_Opener_openFrames h0_broken h0_brokenAt h0_at h0_end h0_begin h0_copies h0_literals h0_parts h0_frameBegin h0_flags h0_width h0_size h0_input_count h0_input_held_n h0_input_held_f h0_to_count h0_blocks_count h0_words_count h0_settings_n h0_settings_f h0_to_held_n h0_to_held_f h0_blocks_facts_n h0_blocks_facts_f h0_words_held_n h0_words_held_f = some (o_r, o_h0_broken, o_h0_brokenAt, o_h0_at, o_h0_end, o_h0_begin, o_h0_copies, o_h0_literals, o_h0_parts, o_h0_frameBegin, o_h0_flags, o_h0_width, o_h0_size, o_h0_to_count, o_h0_blocks_count, o_h0_to_held_f, o_h0_blocks_facts_f)) : Met l yX6_openFrames (Cond.code yX6_openFrames cX6_openFrames 5 (some .boolean) :: lw_G) rm_Opener_openFrames (PreC (dC, dI) [(cB, .byte), (cI, .int)] [.ref h0] sz [(h0, .inr (5, [.ref h0_input, .ref h0_words, .ref h0_settings, .ref h0_to, .ref h0_blocks, .int h0_broken, .int h0_brokenAt, .int h0_at, .int h0_end, .int h0_begin, .int h0_copies, .int h0_literals, .int h0_parts, .int h0_frameBegin, .int h0_flags, .int h0_width, .long h0_size])), (h0_input, .inr (2, [.ref h0_input_held, .int h0_input_count])), (h0_input_held, .inl (cB, h0_input_held_n, .inl h0_input_held_f)), (h0_to, .inr (2, [.ref h0_to_held, .int h0_to_count])), (h0_blocks, .inr (1, [.ref h0_blocks_facts, .int h0_blocks_count])), (h0_words, .inr (2, [.ref h0_words_held, .int h0_words_count])), (h0_settings, .inl (cI, h0_settings_n, .inl h0_settings_f)), (h0_to_held, .inl (cB, h0_to_held_n, .inl h0_to_held_f)), (h0_blocks_facts, .inl (cI, h0_blocks_facts_n, .inl h0_blocks_facts_f)), (h0_words_held, .inl (cB, h0_words_held_n, .inl h0_words_held_f))]) (QcI o_r (dC, dI) [(h0, .inr (5, [.ref h0_input, .ref h0_words, .ref h0_settings, .ref h0_to, .ref h0_blocks, .int o_h0_broken, .int o_h0_brokenAt, .int o_h0_at, .int o_h0_end, .int o_h0_begin, .int o_h0_copies, .int o_h0_literals, .int o_h0_parts, .int o_h0_frameBegin, .int o_h0_flags, .int o_h0_width, .long o_h0_size])), (h0_input, .inr (2, [.ref h0_input_held, .int h0_input_count])), (h0_input_held, .inl (cB, h0_input_held_n, .inl h0_input_held_f)), (h0_to, .inr (2, [.ref h0_to_held, .int o_h0_to_count])), (h0_blocks, .inr (1, [.ref h0_blocks_facts, .int o_h0_blocks_count])), (h0_words, .inr (2, [.ref h0_words_held, .int h0_words_count])), (h0_settings, .inl (cI, h0_settings_n, .inl h0_settings_f)), (h0_to_held, .inl (cB, h0_to_held_n, .inl o_h0_to_held_f)), (h0_blocks_facts, .inl (cI, h0_blocks_facts_n, .inl o_h0_blocks_facts_f)), (h0_words_held, .inl (cB, h0_words_held_n, .inl h0_words_held_f))] (va_A [(h0, .inr (5, [.ref h0_input, .ref h0_words, .ref h0_settings, .ref h0_to, .ref h0_blocks, .int h0_broken, .int h0_brokenAt, .int h0_at, .int h0_end, .int h0_begin, .int h0_copies, .int h0_literals, .int h0_parts, .int h0_frameBegin, .int h0_flags, .int h0_width, .long h0_size])), (h0_input, .inr (2, [.ref h0_input_held, .int h0_input_count])), (h0_input_held, .inl (cB, h0_input_held_n, .inl h0_input_held_f)), (h0_to, .inr (2, [.ref h0_to_held, .int h0_to_count])), (h0_blocks, .inr (1, [.ref h0_blocks_facts, .int h0_blocks_count])), (h0_words, .inr (2, [.ref h0_words_held, .int h0_words_count])), (h0_settings, .inl (cI, h0_settings_n, .inl h0_settings_f)), (h0_to_held, .inl (cB, h0_to_held_n, .inl h0_to_held_f)), (h0_blocks_facts, .inl (cI, h0_blocks_facts_n, .inl h0_blocks_facts_f)), (h0_words_held, .inl (cB, h0_words_held_n, .inl h0_words_held_f))] sz)) 0 0 (va_A [(h0, .inr (5, [.ref h0_input, .ref h0_words, .ref h0_settings, .ref h0_to, .ref h0_blocks, .int h0_broken, .int h0_brokenAt, .int h0_at, .int h0_end, .int h0_begin, .int h0_copies, .int h0_literals, .int h0_parts, .int h0_frameBegin, .int h0_flags, .int h0_width, .long h0_size])), (h0_input, .inr (2, [.ref h0_input_held, .int h0_input_count])), (h0_input_held, .inl (cB, h0_input_held_n, .inl h0_input_held_f)), (h0_to, .inr (2, [.ref h0_to_held, .int h0_to_count])), (h0_blocks, .inr (1, [.ref h0_blocks_facts, .int h0_blocks_count])), (h0_words, .inr (2, [.ref h0_words_held, .int h0_words_count])), (h0_settings, .inl (cI, h0_settings_n, .inl h0_settings_f)), (h0_to_held, .inl (cB, h0_to_held_n, .inl h0_to_held_f)), (h0_blocks_facts, .inl (cI, h0_blocks_facts_n, .inl h0_blocks_facts_f)), (h0_words_held, .inl (cB, h0_words_held_n, .inl h0_words_held_f))] sz) := by
  refine met_of (Qf := fun A => QcI o_r (dC, dI) [(h0, .inr (5, [.ref h0_input, .ref h0_words, .ref h0_settings, .ref h0_to, .ref h0_blocks, .int o_h0_broken, .int o_h0_brokenAt, .int o_h0_at, .int o_h0_end, .int o_h0_begin, .int o_h0_copies, .int o_h0_literals, .int o_h0_parts, .int o_h0_frameBegin, .int o_h0_flags, .int o_h0_width, .long o_h0_size])), (h0_input, .inr (2, [.ref h0_input_held, .int h0_input_count])), (h0_input_held, .inl (cB, h0_input_held_n, .inl h0_input_held_f)), (h0_to, .inr (2, [.ref h0_to_held, .int o_h0_to_count])), (h0_blocks, .inr (1, [.ref h0_blocks_facts, .int o_h0_blocks_count])), (h0_words, .inr (2, [.ref h0_words_held, .int h0_words_count])), (h0_settings, .inl (cI, h0_settings_n, .inl h0_settings_f)), (h0_to_held, .inl (cB, h0_to_held_n, .inl o_h0_to_held_f)), (h0_blocks_facts, .inl (cI, h0_blocks_facts_n, .inl o_h0_blocks_facts_f)), (h0_words_held, .inl (cB, h0_words_held_n, .inl h0_words_held_f))] A) (by decide) (Nat.le_of_ble_eq_true rfl) ?_
  intro p e s m below meth c A ls Q hx hb hr hml hown hts hlocks hnm hP hK hD hN hT hA hl hQ
  have hown : s.vm.findClass RX6 = some m.cls := hown
  have hS : va_S A s.heap s.heap [] := va_S.rf
  have hl : lv_has ls 5 [(0, .ref h0)] := hl
  unfold m_Opener_openFrames at hf
  refine lv_iconst (v := 0) hx hb dX6_openFrames_0 (by decide) ?_
  refine lv_istore_n (lv' := [(1, .int (0 : Int32)), (0, .ref h0)]) hx hb dX6_openFrames_1 rfl hl (by decide) rfl (fun ls hl => ?_)
  have hJ_129 : ∀ (f1 : Nat → Int32) (f2 : Nat → Int32) (g3 : Int32) (g4 : Int32) (g5 : Int32) (g6 : Int32) (g7 : Int32) (g8 : Int32) (g9 : Int64) (g10 : Int32) (g11 : Int32) (g12 : Int32) (g13 : Int32) (g14 : Int32) (g15 : Int32) (g16 : Int32) (H : Heap) (locs : List Loc) (ls : Array Slot), m_Opener_openFrames_E129 f1 f2 g3 g4 g5 g6 g7 g8 g9 g10 g11 g12 g13 g14 g15 g16 = some (o_r, o_h0_broken, o_h0_brokenAt, o_h0_at, o_h0_end, o_h0_begin, o_h0_copies, o_h0_literals, o_h0_parts, o_h0_frameBegin, o_h0_flags, o_h0_width, o_h0_size, o_h0_to_count, o_h0_blocks_count, o_h0_to_held_f, o_h0_blocks_facts_f) → va_P (dC, dI) vwCl [(h0, .inr (5, [.ref h0_input, .ref h0_words, .ref h0_settings, .ref h0_to, .ref h0_blocks, .int g10, .int g11, .int g12, .int g13, .int g14, .int g3, .int g4, .int g5, .int g6, .int g7, .int g8, .long g9])), (h0_input, .inr (2, [.ref h0_input_held, .int h0_input_count])), (h0_input_held, .inl (cB, h0_input_held_n, .inl h0_input_held_f)), (h0_to, .inr (2, [.ref h0_to_held, .int g16])), (h0_blocks, .inr (1, [.ref h0_blocks_facts, .int g15])), (h0_words, .inr (2, [.ref h0_words_held, .int h0_words_count])), (h0_settings, .inl (cI, h0_settings_n, .inl h0_settings_f)), (h0_to_held, .inl (cB, h0_to_held_n, .inl f2)), (h0_blocks_facts, .inl (cI, h0_blocks_facts_n, .inl f1)), (h0_words_held, .inl (cB, h0_words_held_n, .inl h0_words_held_f))] H → va_D A [(h0, .inr (5, [.ref h0_input, .ref h0_words, .ref h0_settings, .ref h0_to, .ref h0_blocks, .int g10, .int g11, .int g12, .int g13, .int g14, .int g3, .int g4, .int g5, .int g6, .int g7, .int g8, .long g9])), (h0_input, .inr (2, [.ref h0_input_held, .int h0_input_count])), (h0_input_held, .inl (cB, h0_input_held_n, .inl h0_input_held_f)), (h0_to, .inr (2, [.ref h0_to_held, .int g16])), (h0_blocks, .inr (1, [.ref h0_blocks_facts, .int g15])), (h0_words, .inr (2, [.ref h0_words_held, .int h0_words_count])), (h0_settings, .inl (cI, h0_settings_n, .inl h0_settings_f)), (h0_to_held, .inl (cB, h0_to_held_n, .inl f2)), (h0_blocks_facts, .inl (cI, h0_blocks_facts_n, .inl f1)), (h0_words_held, .inl (cB, h0_words_held_n, .inl h0_words_held_f))] → va_S A s.heap H locs → lv_has ls 5 [] → W p l e (rm_Opener_openFrames) s m ([.ref h0] : List Value).toArray below meth c H locs 0 0 Q (F0 m 129 ls []) := by
    intro f1 f2 g3 g4 g5 g6 g7 g8 g9 g10 g11 g12 g13 g14 g15 g16 H locs ls hf hP hD hS hl
    unfold m_Opener_openFrames_E129 at hf
    refine lv_iconst (v := 0) hx hb dX6_openFrames_129 (by decide) ?_
    have hzb : narrow .boolean (.int (0 : Int32)) = .int (0 : Int32) := rfl
    obtain ⟨rfl, hq_1⟩ := Prod.mk.inj (Option.some.inj hf)
    obtain ⟨rfl, hq_2⟩ := Prod.mk.inj hq_1
    obtain ⟨rfl, hq_3⟩ := Prod.mk.inj hq_2
    obtain ⟨rfl, hq_4⟩ := Prod.mk.inj hq_3
    obtain ⟨rfl, hq_5⟩ := Prod.mk.inj hq_4
    obtain ⟨rfl, hq_6⟩ := Prod.mk.inj hq_5
    obtain ⟨rfl, hq_7⟩ := Prod.mk.inj hq_6
    obtain ⟨rfl, hq_8⟩ := Prod.mk.inj hq_7
    obtain ⟨rfl, hq_9⟩ := Prod.mk.inj hq_8
    obtain ⟨rfl, hq_10⟩ := Prod.mk.inj hq_9
    obtain ⟨rfl, hq_11⟩ := Prod.mk.inj hq_10
    obtain ⟨rfl, hq_12⟩ := Prod.mk.inj hq_11
    obtain ⟨rfl, hq_13⟩ := Prod.mk.inj hq_12
    obtain ⟨rfl, hq_14⟩ := Prod.mk.inj hq_13
    obtain ⟨rfl, hq_15⟩ := Prod.mk.inj hq_14
    obtain ⟨rfl, hq_16⟩ := Prod.mk.inj hq_15
    obtain rfl := hq_16
    exact rt_z hQ hx hb hr hzb hlocks hP hD hS dX6_openFrames_130
  have hJ_137 : ∀ (f17 : Nat → Int32) (f18 : Nat → Int32) (g19 : Int32) (g20 : Int32) (g21 : Int32) (g22 : Int32) (g23 : Int32) (g24 : Int32) (g25 : Int64) (g26 : Int32) (g27 : Int32) (g28 : Int32) (g29 : Int32) (g30 : Int32) (g31 : Int32) (g32 : Int32) (H : Heap) (locs : List Loc) (ls : Array Slot), m_Opener_openFrames_E137 f17 f18 g19 g20 g21 g22 g23 g24 g25 g26 g27 g28 g29 g30 g31 g32 = some (o_r, o_h0_broken, o_h0_brokenAt, o_h0_at, o_h0_end, o_h0_begin, o_h0_copies, o_h0_literals, o_h0_parts, o_h0_frameBegin, o_h0_flags, o_h0_width, o_h0_size, o_h0_to_count, o_h0_blocks_count, o_h0_to_held_f, o_h0_blocks_facts_f) → va_P (dC, dI) vwCl [(h0, .inr (5, [.ref h0_input, .ref h0_words, .ref h0_settings, .ref h0_to, .ref h0_blocks, .int g26, .int g27, .int g28, .int g29, .int g30, .int g19, .int g20, .int g21, .int g22, .int g23, .int g24, .long g25])), (h0_input, .inr (2, [.ref h0_input_held, .int h0_input_count])), (h0_input_held, .inl (cB, h0_input_held_n, .inl h0_input_held_f)), (h0_to, .inr (2, [.ref h0_to_held, .int g32])), (h0_blocks, .inr (1, [.ref h0_blocks_facts, .int g31])), (h0_words, .inr (2, [.ref h0_words_held, .int h0_words_count])), (h0_settings, .inl (cI, h0_settings_n, .inl h0_settings_f)), (h0_to_held, .inl (cB, h0_to_held_n, .inl f18)), (h0_blocks_facts, .inl (cI, h0_blocks_facts_n, .inl f17)), (h0_words_held, .inl (cB, h0_words_held_n, .inl h0_words_held_f))] H → va_D A [(h0, .inr (5, [.ref h0_input, .ref h0_words, .ref h0_settings, .ref h0_to, .ref h0_blocks, .int g26, .int g27, .int g28, .int g29, .int g30, .int g19, .int g20, .int g21, .int g22, .int g23, .int g24, .long g25])), (h0_input, .inr (2, [.ref h0_input_held, .int h0_input_count])), (h0_input_held, .inl (cB, h0_input_held_n, .inl h0_input_held_f)), (h0_to, .inr (2, [.ref h0_to_held, .int g32])), (h0_blocks, .inr (1, [.ref h0_blocks_facts, .int g31])), (h0_words, .inr (2, [.ref h0_words_held, .int h0_words_count])), (h0_settings, .inl (cI, h0_settings_n, .inl h0_settings_f)), (h0_to_held, .inl (cB, h0_to_held_n, .inl f18)), (h0_blocks_facts, .inl (cI, h0_blocks_facts_n, .inl f17)), (h0_words_held, .inl (cB, h0_words_held_n, .inl h0_words_held_f))] → va_S A s.heap H locs → lv_has ls 5 [] → W p l e (rm_Opener_openFrames) s m ([.ref h0] : List Value).toArray below meth c H locs 0 0 Q (F0 m 137 ls []) := by
    intro f17 f18 g19 g20 g21 g22 g23 g24 g25 g26 g27 g28 g29 g30 g31 g32 H locs ls hf hP hD hS hl
    unfold m_Opener_openFrames_E137 at hf
    refine lv_iconst (v := 1) hx hb dX6_openFrames_137 (by decide) ?_
    have hzb : narrow .boolean (.int (1 : Int32)) = .int (1 : Int32) := rfl
    obtain ⟨rfl, hq_1⟩ := Prod.mk.inj (Option.some.inj hf)
    obtain ⟨rfl, hq_2⟩ := Prod.mk.inj hq_1
    obtain ⟨rfl, hq_3⟩ := Prod.mk.inj hq_2
    obtain ⟨rfl, hq_4⟩ := Prod.mk.inj hq_3
    obtain ⟨rfl, hq_5⟩ := Prod.mk.inj hq_4
    obtain ⟨rfl, hq_6⟩ := Prod.mk.inj hq_5
    obtain ⟨rfl, hq_7⟩ := Prod.mk.inj hq_6
    obtain ⟨rfl, hq_8⟩ := Prod.mk.inj hq_7
    obtain ⟨rfl, hq_9⟩ := Prod.mk.inj hq_8
    obtain ⟨rfl, hq_10⟩ := Prod.mk.inj hq_9
    obtain ⟨rfl, hq_11⟩ := Prod.mk.inj hq_10
    obtain ⟨rfl, hq_12⟩ := Prod.mk.inj hq_11
    obtain ⟨rfl, hq_13⟩ := Prod.mk.inj hq_12
    obtain ⟨rfl, hq_14⟩ := Prod.mk.inj hq_13
    obtain ⟨rfl, hq_15⟩ := Prod.mk.inj hq_14
    obtain ⟨rfl, hq_16⟩ := Prod.mk.inj hq_15
    obtain rfl := hq_16
    exact rt_z hQ hx hb hr hzb hlocks hP hD hS dX6_openFrames_138
  obtain ⟨o_2, hi_2, hk_2⟩ := bind_some hf
  have hL_2 : ∀ (n : Nat) (f33 : Nat → Int32) (f34 : Nat → Int32) (g35 : Int32) (g36 : Int32) (g37 : Int32) (g38 : Int32) (g39 : Int32) (g40 : Int32) (g41 : Int64) (g42 : Int32) (g43 : Int32) (g44 : Int32) (g45 : Int32) (g46 : Int32) (g47 : Int32) (g48 : Int32) (j1_49 : Int32) (H : Heap) (locs : List Loc) (ls : Array Slot), iter (fun st => m_Opener_openFrames_B2 h0_input_count h0_input_held_n h0_input_held_f h0_words_count h0_settings_n h0_settings_f h0_to_held_n h0_blocks_facts_n h0_words_held_n h0_words_held_f st.1 st.2.1 st.2.2.1 st.2.2.2.1 st.2.2.2.2.1 st.2.2.2.2.2.1 st.2.2.2.2.2.2.1 st.2.2.2.2.2.2.2.1 st.2.2.2.2.2.2.2.2.1 st.2.2.2.2.2.2.2.2.2.1 st.2.2.2.2.2.2.2.2.2.2.1 st.2.2.2.2.2.2.2.2.2.2.2.1 st.2.2.2.2.2.2.2.2.2.2.2.2.1 st.2.2.2.2.2.2.2.2.2.2.2.2.2.1 st.2.2.2.2.2.2.2.2.2.2.2.2.2.2.1 st.2.2.2.2.2.2.2.2.2.2.2.2.2.2.2.1 st.2.2.2.2.2.2.2.2.2.2.2.2.2.2.2.2) n (f33, f34, g35, g36, g37, g38, g39, g40, g41, g42, g43, g44, g45, g46, g47, g48, j1_49) = some o_2 → va_P (dC, dI) vwCl [(h0, .inr (5, [.ref h0_input, .ref h0_words, .ref h0_settings, .ref h0_to, .ref h0_blocks, .int g42, .int g43, .int g44, .int g45, .int g46, .int g35, .int g36, .int g37, .int g38, .int g39, .int g40, .long g41])), (h0_input, .inr (2, [.ref h0_input_held, .int h0_input_count])), (h0_input_held, .inl (cB, h0_input_held_n, .inl h0_input_held_f)), (h0_to, .inr (2, [.ref h0_to_held, .int g48])), (h0_blocks, .inr (1, [.ref h0_blocks_facts, .int g47])), (h0_words, .inr (2, [.ref h0_words_held, .int h0_words_count])), (h0_settings, .inl (cI, h0_settings_n, .inl h0_settings_f)), (h0_to_held, .inl (cB, h0_to_held_n, .inl f34)), (h0_blocks_facts, .inl (cI, h0_blocks_facts_n, .inl f33)), (h0_words_held, .inl (cB, h0_words_held_n, .inl h0_words_held_f))] H → va_D A [(h0, .inr (5, [.ref h0_input, .ref h0_words, .ref h0_settings, .ref h0_to, .ref h0_blocks, .int g42, .int g43, .int g44, .int g45, .int g46, .int g35, .int g36, .int g37, .int g38, .int g39, .int g40, .long g41])), (h0_input, .inr (2, [.ref h0_input_held, .int h0_input_count])), (h0_input_held, .inl (cB, h0_input_held_n, .inl h0_input_held_f)), (h0_to, .inr (2, [.ref h0_to_held, .int g48])), (h0_blocks, .inr (1, [.ref h0_blocks_facts, .int g47])), (h0_words, .inr (2, [.ref h0_words_held, .int h0_words_count])), (h0_settings, .inl (cI, h0_settings_n, .inl h0_settings_f)), (h0_to_held, .inl (cB, h0_to_held_n, .inl f34)), (h0_blocks_facts, .inl (cI, h0_blocks_facts_n, .inl f33)), (h0_words_held, .inl (cB, h0_words_held_n, .inl h0_words_held_f))] → va_S A s.heap H locs → lv_has ls 5 [(0, .ref h0), (1, .int j1_49)] → W p l e (rm_Opener_openFrames) s m ([.ref h0] : List Value).toArray below meth c H locs 0 0 Q (F0 m 2 ls []) := by
    intro n
    induction n with
    | zero => intro f33 f34 g35 g36 g37 g38 g39 g40 g41 g42 g43 g44 g45 g46 g47 g48 j1_49 H locs ls hf; exact absurd hf (fun z => by cases z)
    | succ n ih_2 =>
      intro f33 f34 g35 g36 g37 g38 g39 g40 g41 g42 g43 g44 g45 g46 g47 g48 j1_49 H locs ls hf hP hD hS hl
      obtain ⟨r_2, hf, hr_2⟩ := iter_succ hf
      have hf : m_Opener_openFrames_B2 h0_input_count h0_input_held_n h0_input_held_f h0_words_count h0_settings_n h0_settings_f h0_to_held_n h0_blocks_facts_n h0_words_held_n h0_words_held_f f33 f34 g35 g36 g37 g38 g39 g40 g41 g42 g43 g44 g45 g46 g47 g48 j1_49 = some r_2 := hf
      unfold m_Opener_openFrames_B2 at hf
      refine lv_iload_n hx hb dX6_openFrames_2 rfl (lv_at hl 1 rfl) ?_
      refine lv_sipush (v := 4000) hx hb dX6_openFrames_3 (by decide) ?_
      refine lv_icmp_ge (tgt := 137) hx hb dX6_openFrames_6 (by decide) (fun c_6 => ?_) (fun c_6 => ?_)
      · replace hf := if_t c_6 hf
        have hf : m_Opener_openFrames_E137 f33 f34 g35 g36 g37 g38 g39 g40 g41 g42 g43 g44 g45 g46 g47 g48 = some (o_r, o_h0_broken, o_h0_brokenAt, o_h0_at, o_h0_end, o_h0_begin, o_h0_copies, o_h0_literals, o_h0_parts, o_h0_frameBegin, o_h0_flags, o_h0_width, o_h0_size, o_h0_to_count, o_h0_blocks_count, o_h0_to_held_f, o_h0_blocks_facts_f) := by have hq := hk_2; rw [iter_exit hf hr_2] at hq; exact hq
        exact hJ_137 f33 f34 g35 g36 g37 g38 g39 g40 g41 g42 g43 g44 g45 g46 g47 g48 _ _ _ hf hP hD hS (lv_sub hl [] rfl)
      · replace hf := if_f c_6 hf
        refine lv_aload_n hx hb dX6_openFrames_9 rfl (lv_at hl 0 rfl) ?_
        refine va_get (D := (dC, dI)) (ci := 5) (v := .int g44) (C := RX6) (T := TX6) (N := 17) hx hb hts inG_X6 hown hK hP 0 rfl rfl 7 (by decide) (hts _ kw_296) (fun _ h9 => h9) rfl dX6_openFrames_10 ?_
        refine lv_aload_n hx hb dX6_openFrames_13 rfl (lv_at hl 0 rfl) ?_
        refine va_get (D := (dC, dI)) (ci := 5) (v := .int g45) (C := RX6) (T := TX6) (N := 17) hx hb hts inG_X6 hown hK hP 0 rfl rfl 8 (by decide) (hts _ kw_297) (fun _ h9 => h9) rfl dX6_openFrames_14 ?_
        refine lv_icmp_ge (tgt := 137) hx hb dX6_openFrames_17 (by decide) (fun c_17 => ?_) (fun c_17 => ?_)
        · replace hf := if_t c_17 hf
          have hf : m_Opener_openFrames_E137 f33 f34 g35 g36 g37 g38 g39 g40 g41 g42 g43 g44 g45 g46 g47 g48 = some (o_r, o_h0_broken, o_h0_brokenAt, o_h0_at, o_h0_end, o_h0_begin, o_h0_copies, o_h0_literals, o_h0_parts, o_h0_frameBegin, o_h0_flags, o_h0_width, o_h0_size, o_h0_to_count, o_h0_blocks_count, o_h0_to_held_f, o_h0_blocks_facts_f) := by have hq := hk_2; rw [iter_exit hf hr_2] at hq; exact hq
          exact hJ_137 f33 f34 g35 g36 g37 g38 g39 g40 g41 g42 g43 g44 g45 g46 g47 g48 _ _ _ hf hP hD hS (lv_sub hl [] rfl)
        · replace hf := if_f c_17 hf
          refine lv_aload_n hx hb dX6_openFrames_20 rfl (lv_at hl 0 rfl) ?_
          refine lv_iconst (v := 4) hx hb dX6_openFrames_21 (by decide) ?_
          obtain ⟨r50, hc, hf⟩ := bind_some hf
          refine nx_i (rn_V (As := [.int (4 : Int32)]) (rest := []) (n := 1) (ci := 5) (q0 := 0) ⟨hx, hb, hml, hown, hts⟩ (c_Opener_lacks (l := l) (dC := dC) (dI := dI) (cB := cB) (cI := cI) (h0 := h0) (a1 := (4 : Int32)) (w_h0_input := (.ref h0_input)) (w_h0_words := (.ref h0_words)) (w_h0_settings := (.ref h0_settings)) (w_h0_to := (.ref h0_to)) (w_h0_blocks := (.ref h0_blocks)) (w_h0_broken := (.int g42)) (w_h0_brokenAt := (.int g43)) (h0_at := g44) (h0_end := g45) (w_h0_begin := (.int g46)) (w_h0_copies := (.int g35)) (w_h0_literals := (.int g36)) (w_h0_parts := (.int g37)) (w_h0_frameBegin := (.int g38)) (w_h0_flags := (.int g39)) (w_h0_width := (.int g40)) (w_h0_size := (.long g41))  (o_r := r50) hc) (wV kw_867 kw_869 kw_25 kw_92 kw_870) (by decide +kernel) ⟨Nat.le_of_ble_eq_true rfl, Nat.le_of_ble_eq_true rfl⟩ hK hP hD hN hT hS (va_free (wc := [(h0, .inr (5, [.ref h0_input, .ref h0_words, .ref h0_settings, .ref h0_to, .ref h0_blocks, .int g42, .int g43, .int g44, .int g45, .int g46, .int g35, .int g36, .int g37, .int g38, .int g39, .int g40, .long g41]))]) hD hS hA [0] rfl) [0] rfl (by decide) rfl rfl rfl hl.1 rfl (lv_room (Nat.le_of_ble_eq_true rfl)) dX6_openFrames_22 ⟨Nat.le_of_ble_eq_true rfl, Nat.le_of_ble_eq_true rfl⟩) hP hD hS hA (wr := [(h0_input, .inr (2, [.ref h0_input_held, .int h0_input_count])), (h0_input_held, .inl (cB, h0_input_held_n, .inl h0_input_held_f)), (h0_to, .inr (2, [.ref h0_to_held, .int g48])), (h0_blocks, .inr (1, [.ref h0_blocks_facts, .int g47])), (h0_words, .inr (2, [.ref h0_words_held, .int h0_words_count])), (h0_settings, .inl (cI, h0_settings_n, .inl h0_settings_f)), (h0_to_held, .inl (cB, h0_to_held_n, .inl f34)), (h0_blocks_facts, .inl (cI, h0_blocks_facts_n, .inl f33)), (h0_words_held, .inl (cB, h0_words_held_n, .inl h0_words_held_f))]) (w1 := [(h0, .inr (5, [.ref h0_input, .ref h0_words, .ref h0_settings, .ref h0_to, .ref h0_blocks, .int g42, .int g43, .int g44, .int g45, .int g46, .int g35, .int g36, .int g37, .int g38, .int g39, .int g40, .long g41]))]) (ws' := [(h0, .inr (5, [.ref h0_input, .ref h0_words, .ref h0_settings, .ref h0_to, .ref h0_blocks, .int g42, .int g43, .int g44, .int g45, .int g46, .int g35, .int g36, .int g37, .int g38, .int g39, .int g40, .long g41])), (h0_input, .inr (2, [.ref h0_input_held, .int h0_input_count])), (h0_input_held, .inl (cB, h0_input_held_n, .inl h0_input_held_f)), (h0_to, .inr (2, [.ref h0_to_held, .int g48])), (h0_blocks, .inr (1, [.ref h0_blocks_facts, .int g47])), (h0_words, .inr (2, [.ref h0_words_held, .int h0_words_count])), (h0_settings, .inl (cI, h0_settings_n, .inl h0_settings_f)), (h0_to_held, .inl (cB, h0_to_held_n, .inl f34)), (h0_blocks_facts, .inl (cI, h0_blocks_facts_n, .inl f33)), (h0_words_held, .inl (cB, h0_words_held_n, .inl h0_words_held_f))]) [0] [1, 2, 3, 4, 5, 6, 7, 8, 9] [9, 0, 1, 2, 3, 4, 5, 6, 7, 8] rfl rfl (by decide) (by decide) rfl (by decide) (fun H locs hP hD hS => ?_)
          refine lv_if_eq (tgt := 38) hx hb dX6_openFrames_25 (by decide) (fun c_25 => ?_) (fun c_25 => ?_)
          · replace hf := if_t c_25 hf
            refine lv_aload_n hx hb dX6_openFrames_38 rfl (lv_at hl 0 rfl) ?_
            refine va_get (D := (dC, dI)) (ci := 5) (v := .ref h0_input) (C := RX6) (T := TX6) (N := 17) hx hb hts inG_X6 hown hK hP 0 rfl rfl 0 (by decide) (hts _ kw_289) (fun _ h9 => h9) rfl dX6_openFrames_39 ?_
            refine lv_aload_n hx hb dX6_openFrames_42 rfl (lv_at hl 0 rfl) ?_
            refine va_get (D := (dC, dI)) (ci := 5) (v := .int g44) (C := RX6) (T := TX6) (N := 17) hx hb hts inG_X6 hown hK hP 0 rfl rfl 7 (by decide) (hts _ kw_296) (fun _ h9 => h9) rfl dX6_openFrames_43 ?_
            refine lv_iconst (v := 4) hx hb dX6_openFrames_46 (by decide) ?_
            obtain ⟨r51, hc, hf⟩ := bind_some hf
            refine nx_l (rn_V (As := [.int g44, .int (4 : Int32)]) (rest := []) (n := 2) (ci := 2) (q0 := 0) ⟨hx, hb, hml, hown, hts⟩ (c_Bytes_number (l := l) (dC := dC) (dI := dI) (cB := cB) (cI := cI) (h0 := h0_input) (a1 := g44) (a2 := (4 : Int32)) (h0_held := h0_input_held) (h0_count := h0_input_count) (h0_held_n := h0_input_held_n) (h0_held_f := h0_input_held_f)  (o_r := r51) hc) (wV kw_889 kw_890 kw_891 kw_83 kw_892) (by decide +kernel) ⟨Nat.le_of_ble_eq_true rfl, Nat.le_of_ble_eq_true rfl⟩ hK hP hD hN hT hS (va_free (wc := [(h0_input, .inr (2, [.ref h0_input_held, .int h0_input_count])), (h0_input_held, .inl (cB, h0_input_held_n, .inl h0_input_held_f))]) hD hS hA [1, 2] rfl) [1, 2] rfl (by decide) rfl rfl rfl hl.1 rfl (lv_room (Nat.le_of_ble_eq_true rfl)) dX6_openFrames_47 ⟨Nat.le_of_ble_eq_true rfl, Nat.le_of_ble_eq_true rfl⟩) hP hD hS hA (wr := [(h0, .inr (5, [.ref h0_input, .ref h0_words, .ref h0_settings, .ref h0_to, .ref h0_blocks, .int g42, .int g43, .int g44, .int g45, .int g46, .int g35, .int g36, .int g37, .int g38, .int g39, .int g40, .long g41])), (h0_to, .inr (2, [.ref h0_to_held, .int g48])), (h0_blocks, .inr (1, [.ref h0_blocks_facts, .int g47])), (h0_words, .inr (2, [.ref h0_words_held, .int h0_words_count])), (h0_settings, .inl (cI, h0_settings_n, .inl h0_settings_f)), (h0_to_held, .inl (cB, h0_to_held_n, .inl f34)), (h0_blocks_facts, .inl (cI, h0_blocks_facts_n, .inl f33)), (h0_words_held, .inl (cB, h0_words_held_n, .inl h0_words_held_f))]) (w1 := [(h0_input, .inr (2, [.ref h0_input_held, .int h0_input_count])), (h0_input_held, .inl (cB, h0_input_held_n, .inl h0_input_held_f))]) (ws' := [(h0, .inr (5, [.ref h0_input, .ref h0_words, .ref h0_settings, .ref h0_to, .ref h0_blocks, .int g42, .int g43, .int g44, .int g45, .int g46, .int g35, .int g36, .int g37, .int g38, .int g39, .int g40, .long g41])), (h0_input, .inr (2, [.ref h0_input_held, .int h0_input_count])), (h0_input_held, .inl (cB, h0_input_held_n, .inl h0_input_held_f)), (h0_to, .inr (2, [.ref h0_to_held, .int g48])), (h0_blocks, .inr (1, [.ref h0_blocks_facts, .int g47])), (h0_words, .inr (2, [.ref h0_words_held, .int h0_words_count])), (h0_settings, .inl (cI, h0_settings_n, .inl h0_settings_f)), (h0_to_held, .inl (cB, h0_to_held_n, .inl f34)), (h0_blocks_facts, .inl (cI, h0_blocks_facts_n, .inl f33)), (h0_words_held, .inl (cB, h0_words_held_n, .inl h0_words_held_f))]) [1, 2] [0, 3, 4, 5, 6, 7, 8, 9] [0, 8, 9, 1, 2, 3, 4, 5, 6, 7] rfl rfl (by decide) (by decide) rfl (by decide) (fun H locs hP hD hS => ?_)
            refine lv_lstore_n (lv' := [(2, .long r51), (0, .ref h0), (1, .int j1_49)]) hx hb dX6_openFrames_50 rfl hl (by decide) rfl (fun ls hl => ?_)
            refine lv_lload_n hx hb dX6_openFrames_51 rfl (lv_at hl 0 rfl) ?_
            refine lv_ldc2 hx hb hown (hts _ kw_913) dX6_openFrames_52 ?_
            refine W.lcmp hx hb dX6_openFrames_55 ?_
            have hJ_72 : ∀ (s52 : Int32) (H : Heap) (locs : List Loc) (ls : Array Slot), m_Opener_openFrames_J72 h0_input_count h0_input_held_n h0_input_held_f h0_words_count h0_settings_n h0_settings_f h0_to_held_n h0_blocks_facts_n h0_words_held_n h0_words_held_f f33 f34 g35 g36 g37 g38 g39 g40 g41 g42 g43 g44 g45 g46 g47 g48 j1_49 r51 s52 = some r_2 → va_P (dC, dI) vwCl [(h0, .inr (5, [.ref h0_input, .ref h0_words, .ref h0_settings, .ref h0_to, .ref h0_blocks, .int g42, .int g43, .int g44, .int g45, .int g46, .int g35, .int g36, .int g37, .int g38, .int g39, .int g40, .long g41])), (h0_input, .inr (2, [.ref h0_input_held, .int h0_input_count])), (h0_input_held, .inl (cB, h0_input_held_n, .inl h0_input_held_f)), (h0_to, .inr (2, [.ref h0_to_held, .int g48])), (h0_blocks, .inr (1, [.ref h0_blocks_facts, .int g47])), (h0_words, .inr (2, [.ref h0_words_held, .int h0_words_count])), (h0_settings, .inl (cI, h0_settings_n, .inl h0_settings_f)), (h0_to_held, .inl (cB, h0_to_held_n, .inl f34)), (h0_blocks_facts, .inl (cI, h0_blocks_facts_n, .inl f33)), (h0_words_held, .inl (cB, h0_words_held_n, .inl h0_words_held_f))] H → va_D A [(h0, .inr (5, [.ref h0_input, .ref h0_words, .ref h0_settings, .ref h0_to, .ref h0_blocks, .int g42, .int g43, .int g44, .int g45, .int g46, .int g35, .int g36, .int g37, .int g38, .int g39, .int g40, .long g41])), (h0_input, .inr (2, [.ref h0_input_held, .int h0_input_count])), (h0_input_held, .inl (cB, h0_input_held_n, .inl h0_input_held_f)), (h0_to, .inr (2, [.ref h0_to_held, .int g48])), (h0_blocks, .inr (1, [.ref h0_blocks_facts, .int g47])), (h0_words, .inr (2, [.ref h0_words_held, .int h0_words_count])), (h0_settings, .inl (cI, h0_settings_n, .inl h0_settings_f)), (h0_to_held, .inl (cB, h0_to_held_n, .inl f34)), (h0_blocks_facts, .inl (cI, h0_blocks_facts_n, .inl f33)), (h0_words_held, .inl (cB, h0_words_held_n, .inl h0_words_held_f))] → va_S A s.heap H locs → lv_has ls 5 [(0, .ref h0), (1, .int j1_49), (2, .long r51)] → W p l e (rm_Opener_openFrames) s m ([.ref h0] : List Value).toArray below meth c H locs 0 0 Q (F0 m 72 ls [.int s52]) := by
              intro s52 H locs ls hf hP hD hS hl
              unfold m_Opener_openFrames_J72 at hf
              refine lv_istore (lv' := [(4, .int s52), (0, .ref h0), (1, .int j1_49), (2, .long r51)]) hx hb dX6_openFrames_72 hl (by decide) rfl (fun ls hl => ?_)
              refine lv_iload hx hb dX6_openFrames_74 (lv_at hl 0 rfl) ?_
              have hJ_97 : ∀ (H : Heap) (locs : List Loc) (ls : Array Slot), m_Opener_openFrames_J97 h0_input_count h0_input_held_n h0_input_held_f h0_words_count h0_settings_n h0_settings_f h0_to_held_n h0_blocks_facts_n h0_words_held_n h0_words_held_f f33 f34 g35 g36 g37 g38 g39 g40 g41 g42 g43 g44 g45 g46 g47 g48 j1_49 s52 = some r_2 → va_P (dC, dI) vwCl [(h0, .inr (5, [.ref h0_input, .ref h0_words, .ref h0_settings, .ref h0_to, .ref h0_blocks, .int g42, .int g43, .int g44, .int g45, .int g46, .int g35, .int g36, .int g37, .int g38, .int g39, .int g40, .long g41])), (h0_input, .inr (2, [.ref h0_input_held, .int h0_input_count])), (h0_input_held, .inl (cB, h0_input_held_n, .inl h0_input_held_f)), (h0_to, .inr (2, [.ref h0_to_held, .int g48])), (h0_blocks, .inr (1, [.ref h0_blocks_facts, .int g47])), (h0_words, .inr (2, [.ref h0_words_held, .int h0_words_count])), (h0_settings, .inl (cI, h0_settings_n, .inl h0_settings_f)), (h0_to_held, .inl (cB, h0_to_held_n, .inl f34)), (h0_blocks_facts, .inl (cI, h0_blocks_facts_n, .inl f33)), (h0_words_held, .inl (cB, h0_words_held_n, .inl h0_words_held_f))] H → va_D A [(h0, .inr (5, [.ref h0_input, .ref h0_words, .ref h0_settings, .ref h0_to, .ref h0_blocks, .int g42, .int g43, .int g44, .int g45, .int g46, .int g35, .int g36, .int g37, .int g38, .int g39, .int g40, .long g41])), (h0_input, .inr (2, [.ref h0_input_held, .int h0_input_count])), (h0_input_held, .inl (cB, h0_input_held_n, .inl h0_input_held_f)), (h0_to, .inr (2, [.ref h0_to_held, .int g48])), (h0_blocks, .inr (1, [.ref h0_blocks_facts, .int g47])), (h0_words, .inr (2, [.ref h0_words_held, .int h0_words_count])), (h0_settings, .inl (cI, h0_settings_n, .inl h0_settings_f)), (h0_to_held, .inl (cB, h0_to_held_n, .inl f34)), (h0_blocks_facts, .inl (cI, h0_blocks_facts_n, .inl f33)), (h0_words_held, .inl (cB, h0_words_held_n, .inl h0_words_held_f))] → va_S A s.heap H locs → lv_has ls 5 [(0, .ref h0), (1, .int j1_49), (4, .int s52)] → W p l e (rm_Opener_openFrames) s m ([.ref h0] : List Value).toArray below meth c H locs 0 0 Q (F0 m 97 ls []) := by
                intro  H locs ls hf hP hD hS hl
                unfold m_Opener_openFrames_J97 at hf
                refine lv_aload_n hx hb dX6_openFrames_97 rfl (lv_at hl 0 rfl) ?_
                refine lv_dup hx hb dX6_openFrames_98 rfl ?_
                refine va_get (D := (dC, dI)) (ci := 5) (v := .int g44) (C := RX6) (T := TX6) (N := 17) hx hb hts inG_X6 hown hK hP 0 rfl rfl 7 (by decide) (hts _ kw_296) (fun _ h9 => h9) rfl dX6_openFrames_99 ?_
                refine lv_iconst (v := 4) hx hb dX6_openFrames_102 (by decide) ?_
                refine lv_iadd hx hb dX6_openFrames_103 ?_
                refine lv_topi (fun p_53 e_p_53 => ?_)
                replace hf := bnd_at e_p_53 hf
                refine va_put (D := (dC, dI)) (ci := 5) (v := .int p_53) (ty := .int) (C := RX6) (T := TX6) (N := 17) hx hb hts inG_X6 tyX6 tyX6_ok nmX6 hown hK hP hD hS 0 rfl rfl 7 (by decide) (hts _ kw_296) (fun _ h9 => h9) rfl (by decide +kernel) rfl rfl (Nat.le_of_ble_eq_true rfl) dX6_openFrames_104 (fun H locs hP hD hS => ?_)
                have hP : va_P (dC, dI) vwCl [(h0, .inr (5, [.ref h0_input, .ref h0_words, .ref h0_settings, .ref h0_to, .ref h0_blocks, .int g42, .int g43, .int p_53, .int g45, .int g46, .int g35, .int g36, .int g37, .int g38, .int g39, .int g40, .long g41])), (h0_input, .inr (2, [.ref h0_input_held, .int h0_input_count])), (h0_input_held, .inl (cB, h0_input_held_n, .inl h0_input_held_f)), (h0_to, .inr (2, [.ref h0_to_held, .int g48])), (h0_blocks, .inr (1, [.ref h0_blocks_facts, .int g47])), (h0_words, .inr (2, [.ref h0_words_held, .int h0_words_count])), (h0_settings, .inl (cI, h0_settings_n, .inl h0_settings_f)), (h0_to_held, .inl (cB, h0_to_held_n, .inl f34)), (h0_blocks_facts, .inl (cI, h0_blocks_facts_n, .inl f33)), (h0_words_held, .inl (cB, h0_words_held_n, .inl h0_words_held_f))] H := hP
                have hD : va_D A [(h0, .inr (5, [.ref h0_input, .ref h0_words, .ref h0_settings, .ref h0_to, .ref h0_blocks, .int g42, .int g43, .int p_53, .int g45, .int g46, .int g35, .int g36, .int g37, .int g38, .int g39, .int g40, .long g41])), (h0_input, .inr (2, [.ref h0_input_held, .int h0_input_count])), (h0_input_held, .inl (cB, h0_input_held_n, .inl h0_input_held_f)), (h0_to, .inr (2, [.ref h0_to_held, .int g48])), (h0_blocks, .inr (1, [.ref h0_blocks_facts, .int g47])), (h0_words, .inr (2, [.ref h0_words_held, .int h0_words_count])), (h0_settings, .inl (cI, h0_settings_n, .inl h0_settings_f)), (h0_to_held, .inl (cB, h0_to_held_n, .inl f34)), (h0_blocks_facts, .inl (cI, h0_blocks_facts_n, .inl f33)), (h0_words_held, .inl (cB, h0_words_held_n, .inl h0_words_held_f))] := hD
                refine lv_iload hx hb dX6_openFrames_107 (lv_at hl 2 rfl) ?_
                have hJ_131 : ∀ (f54 : Nat → Int32) (f55 : Nat → Int32) (g56 : Int32) (g57 : Int32) (g58 : Int32) (g59 : Int32) (g60 : Int32) (g61 : Int32) (g62 : Int64) (g63 : Int32) (g64 : Int32) (g65 : Int32) (g66 : Int32) (g67 : Int32) (g68 : Int32) (g69 : Int32) (H : Heap) (locs : List Loc) (ls : Array Slot), m_Opener_openFrames_J131 j1_49 f54 f55 g56 g57 g58 g59 g60 g61 g62 g63 g64 g65 g66 g67 g68 g69 = some r_2 → va_P (dC, dI) vwCl [(h0, .inr (5, [.ref h0_input, .ref h0_words, .ref h0_settings, .ref h0_to, .ref h0_blocks, .int g63, .int g64, .int g65, .int g66, .int g67, .int g56, .int g57, .int g58, .int g59, .int g60, .int g61, .long g62])), (h0_input, .inr (2, [.ref h0_input_held, .int h0_input_count])), (h0_input_held, .inl (cB, h0_input_held_n, .inl h0_input_held_f)), (h0_to, .inr (2, [.ref h0_to_held, .int g69])), (h0_blocks, .inr (1, [.ref h0_blocks_facts, .int g68])), (h0_words, .inr (2, [.ref h0_words_held, .int h0_words_count])), (h0_settings, .inl (cI, h0_settings_n, .inl h0_settings_f)), (h0_to_held, .inl (cB, h0_to_held_n, .inl f55)), (h0_blocks_facts, .inl (cI, h0_blocks_facts_n, .inl f54)), (h0_words_held, .inl (cB, h0_words_held_n, .inl h0_words_held_f))] H → va_D A [(h0, .inr (5, [.ref h0_input, .ref h0_words, .ref h0_settings, .ref h0_to, .ref h0_blocks, .int g63, .int g64, .int g65, .int g66, .int g67, .int g56, .int g57, .int g58, .int g59, .int g60, .int g61, .long g62])), (h0_input, .inr (2, [.ref h0_input_held, .int h0_input_count])), (h0_input_held, .inl (cB, h0_input_held_n, .inl h0_input_held_f)), (h0_to, .inr (2, [.ref h0_to_held, .int g69])), (h0_blocks, .inr (1, [.ref h0_blocks_facts, .int g68])), (h0_words, .inr (2, [.ref h0_words_held, .int h0_words_count])), (h0_settings, .inl (cI, h0_settings_n, .inl h0_settings_f)), (h0_to_held, .inl (cB, h0_to_held_n, .inl f55)), (h0_blocks_facts, .inl (cI, h0_blocks_facts_n, .inl f54)), (h0_words_held, .inl (cB, h0_words_held_n, .inl h0_words_held_f))] → va_S A s.heap H locs → lv_has ls 5 [(0, .ref h0), (1, .int j1_49)] → W p l e (rm_Opener_openFrames) s m ([.ref h0] : List Value).toArray below meth c H locs 0 0 Q (F0 m 131 ls []) := by
                  intro f54 f55 g56 g57 g58 g59 g60 g61 g62 g63 g64 g65 g66 g67 g68 g69 H locs ls hf hP hD hS hl
                  unfold m_Opener_openFrames_J131 at hf
                  obtain ⟨v1_70, e_v1_70⟩ : ∃ y : Int32, y = (j1_49 + (1 : Int32)) := ⟨_, rfl⟩
                  replace hf := bnd_at e_v1_70 hf
                  refine lv_iinc (v := v1_70) (lv' := [(1, .int v1_70), (0, .ref h0)]) hx hb dX6_openFrames_131 hl (k := 1) rfl (by rw [e_v1_70]; rfl) (by decide) rfl (fun ls hl => ?_)
                  refine lv_goto (tgt := 2) hx hb dX6_openFrames_134 (by decide) ?_
                  exact ih_2 f54 f55 g56 g57 g58 g59 g60 g61 g62 g63 g64 g65 g66 g67 g68 g69 v1_70 _ _ _ (iter_back hf hr_2) hP hD hS (lv_sub hl [1, 0] rfl)
                refine lv_if_eq (tgt := 122) hx hb dX6_openFrames_109 (by decide) (fun c_109 => ?_) (fun c_109 => ?_)
                · replace hf := if_t c_109 hf
                  refine lv_aload_n hx hb dX6_openFrames_122 rfl (lv_at hl 0 rfl) ?_
                  obtain ⟨x, hc, hf⟩ := bind_some hf
                  obtain ⟨r71, u72, u73, u74, u75, u76, u77, u78, u79, u80, u81, u82, u83, u84, u85, u86, u87⟩ := x
                  dsimp only at hf
                  refine nx_i (rn_V (As := []) (rest := []) (n := 0) (ci := 5) (q0 := 0) ⟨hx, hb, hml, hown, hts⟩ (c_Opener_openFrame (l := l) (dC := dC) (dI := dI) (cB := cB) (cI := cI) (h0 := h0) (h0_to := h0_to) (h0_input := h0_input) (h0_input_held := h0_input_held) (h0_settings := h0_settings) (h0_to_held := h0_to_held) (h0_blocks := h0_blocks) (h0_words := h0_words) (h0_blocks_facts := h0_blocks_facts) (h0_words_held := h0_words_held) (h0_broken := g42) (h0_brokenAt := g43) (h0_at := p_53) (h0_end := g45) (h0_begin := g46) (h0_copies := g35) (h0_literals := g36) (h0_parts := g37) (h0_frameBegin := g38) (h0_flags := g39) (h0_width := g40) (h0_size := g41) (h0_to_count := g48) (h0_input_count := h0_input_count) (h0_input_held_n := h0_input_held_n) (h0_input_held_f := h0_input_held_f) (h0_settings_n := h0_settings_n) (h0_settings_f := h0_settings_f) (h0_to_held_n := h0_to_held_n) (h0_to_held_f := f34) (h0_blocks_count := g47) (h0_words_count := h0_words_count) (h0_blocks_facts_n := h0_blocks_facts_n) (h0_blocks_facts_f := f33) (h0_words_held_n := h0_words_held_n) (h0_words_held_f := h0_words_held_f) (o_h0_broken := u72) (o_h0_brokenAt := u73) (o_h0_at := u74) (o_h0_end := u75) (o_h0_begin := u76) (o_h0_copies := u77) (o_h0_literals := u78) (o_h0_parts := u79) (o_h0_frameBegin := u80) (o_h0_flags := u81) (o_h0_width := u82) (o_h0_size := u83) (o_h0_to_count := u84) (o_h0_to_held_f := u85) (o_h0_blocks_count := u86) (o_h0_blocks_facts_f := u87) (o_r := r71) hc) (wV kw_920 kw_922 kw_33 kw_92 kw_923) (by decide +kernel) ⟨Nat.le_of_ble_eq_true rfl, Nat.le_of_ble_eq_true rfl⟩ hK hP hD hN hT hS (va_free (wc := [(h0, .inr (5, [.ref h0_input, .ref h0_words, .ref h0_settings, .ref h0_to, .ref h0_blocks, .int g42, .int g43, .int p_53, .int g45, .int g46, .int g35, .int g36, .int g37, .int g38, .int g39, .int g40, .long g41])), (h0_to, .inr (2, [.ref h0_to_held, .int g48])), (h0_input, .inr (2, [.ref h0_input_held, .int h0_input_count])), (h0_input_held, .inl (cB, h0_input_held_n, .inl h0_input_held_f)), (h0_settings, .inl (cI, h0_settings_n, .inl h0_settings_f)), (h0_to_held, .inl (cB, h0_to_held_n, .inl f34)), (h0_blocks, .inr (1, [.ref h0_blocks_facts, .int g47])), (h0_words, .inr (2, [.ref h0_words_held, .int h0_words_count])), (h0_blocks_facts, .inl (cI, h0_blocks_facts_n, .inl f33)), (h0_words_held, .inl (cB, h0_words_held_n, .inl h0_words_held_f))]) hD hS hA [0, 3, 1, 2, 6, 7, 4, 5, 8, 9] rfl) [0, 3, 1, 2, 6, 7, 4, 5, 8, 9] rfl (by decide) rfl rfl rfl hl.1 rfl (lv_room (Nat.le_of_ble_eq_true rfl)) dX6_openFrames_123 ⟨Nat.le_of_ble_eq_true rfl, Nat.le_of_ble_eq_true rfl⟩) hP hD hS hA (wr := []) (w1 := [(h0, .inr (5, [.ref h0_input, .ref h0_words, .ref h0_settings, .ref h0_to, .ref h0_blocks, .int u72, .int u73, .int u74, .int u75, .int u76, .int u77, .int u78, .int u79, .int u80, .int u81, .int u82, .long u83])), (h0_to, .inr (2, [.ref h0_to_held, .int u84])), (h0_input, .inr (2, [.ref h0_input_held, .int h0_input_count])), (h0_input_held, .inl (cB, h0_input_held_n, .inl h0_input_held_f)), (h0_settings, .inl (cI, h0_settings_n, .inl h0_settings_f)), (h0_to_held, .inl (cB, h0_to_held_n, .inl u85)), (h0_blocks, .inr (1, [.ref h0_blocks_facts, .int u86])), (h0_words, .inr (2, [.ref h0_words_held, .int h0_words_count])), (h0_blocks_facts, .inl (cI, h0_blocks_facts_n, .inl u87)), (h0_words_held, .inl (cB, h0_words_held_n, .inl h0_words_held_f))]) (ws' := [(h0, .inr (5, [.ref h0_input, .ref h0_words, .ref h0_settings, .ref h0_to, .ref h0_blocks, .int u72, .int u73, .int u74, .int u75, .int u76, .int u77, .int u78, .int u79, .int u80, .int u81, .int u82, .long u83])), (h0_input, .inr (2, [.ref h0_input_held, .int h0_input_count])), (h0_input_held, .inl (cB, h0_input_held_n, .inl h0_input_held_f)), (h0_to, .inr (2, [.ref h0_to_held, .int u84])), (h0_blocks, .inr (1, [.ref h0_blocks_facts, .int u86])), (h0_words, .inr (2, [.ref h0_words_held, .int h0_words_count])), (h0_settings, .inl (cI, h0_settings_n, .inl h0_settings_f)), (h0_to_held, .inl (cB, h0_to_held_n, .inl u85)), (h0_blocks_facts, .inl (cI, h0_blocks_facts_n, .inl u87)), (h0_words_held, .inl (cB, h0_words_held_n, .inl h0_words_held_f))]) [0, 3, 1, 2, 6, 7, 4, 5, 8, 9] [] [0, 2, 3, 1, 6, 7, 4, 5, 8, 9] rfl rfl (by decide) (by decide) rfl (by decide) (fun H locs hP hD hS => ?_)
                  refine lv_if_ne (tgt := 131) hx hb dX6_openFrames_126 (by decide) (fun c_126 => ?_) (fun c_126 => ?_)
                  · replace hf := if_f c_126 hf
                    exact hJ_131 u87 u85 u77 u78 u79 u80 u81 u82 u83 u72 u73 u74 u75 u76 u86 u84 _ _ _ hf hP hD hS (lv_sub hl [0, 1] rfl)
                  · replace hf := if_t c_126 hf
                    have hf : m_Opener_openFrames_E129 u87 u85 u77 u78 u79 u80 u81 u82 u83 u72 u73 u74 u75 u76 u86 u84 = some (o_r, o_h0_broken, o_h0_brokenAt, o_h0_at, o_h0_end, o_h0_begin, o_h0_copies, o_h0_literals, o_h0_parts, o_h0_frameBegin, o_h0_flags, o_h0_width, o_h0_size, o_h0_to_count, o_h0_blocks_count, o_h0_to_held_f, o_h0_blocks_facts_f) := by have hq := hk_2; rw [iter_exit hf hr_2] at hq; exact hq
                    exact hJ_129 u87 u85 u77 u78 u79 u80 u81 u82 u83 u72 u73 u74 u75 u76 u86 u84 _ _ _ hf hP hD hS (lv_sub hl [] rfl)
                · replace hf := if_f c_109 hf
                  refine lv_aload_n hx hb dX6_openFrames_112 rfl (lv_at hl 0 rfl) ?_
                  obtain ⟨x, hc, hf⟩ := bind_some hf
                  obtain ⟨r88, u89, u90, u91⟩ := x
                  dsimp only at hf
                  refine nx_i (rn_V (As := []) (rest := []) (n := 0) (ci := 5) (q0 := 0) ⟨hx, hb, hml, hown, hts⟩ (c_Opener_passPiece (l := l) (dC := dC) (dI := dI) (cB := cB) (cI := cI) (h0 := h0) (h0_input := h0_input) (h0_input_held := h0_input_held) (w_h0_words := (.ref h0_words)) (w_h0_settings := (.ref h0_settings)) (w_h0_to := (.ref h0_to)) (w_h0_blocks := (.ref h0_blocks)) (h0_broken := g42) (h0_brokenAt := g43) (h0_at := p_53) (h0_end := g45) (w_h0_begin := (.int g46)) (w_h0_copies := (.int g35)) (w_h0_literals := (.int g36)) (w_h0_parts := (.int g37)) (w_h0_frameBegin := (.int g38)) (w_h0_flags := (.int g39)) (w_h0_width := (.int g40)) (w_h0_size := (.long g41)) (h0_input_count := h0_input_count) (h0_input_held_n := h0_input_held_n) (h0_input_held_f := h0_input_held_f) (o_h0_broken := u89) (o_h0_brokenAt := u90) (o_h0_at := u91) (o_r := r88) hc) (wV kw_916 kw_918 kw_32 kw_92 kw_919) (by decide +kernel) ⟨Nat.le_of_ble_eq_true rfl, Nat.le_of_ble_eq_true rfl⟩ hK hP hD hN hT hS (va_free (wc := [(h0, .inr (5, [.ref h0_input, .ref h0_words, .ref h0_settings, .ref h0_to, .ref h0_blocks, .int g42, .int g43, .int p_53, .int g45, .int g46, .int g35, .int g36, .int g37, .int g38, .int g39, .int g40, .long g41])), (h0_input, .inr (2, [.ref h0_input_held, .int h0_input_count])), (h0_input_held, .inl (cB, h0_input_held_n, .inl h0_input_held_f))]) hD hS hA [0, 1, 2] rfl) [0, 1, 2] rfl (by decide) rfl rfl rfl hl.1 rfl (lv_room (Nat.le_of_ble_eq_true rfl)) dX6_openFrames_113 ⟨Nat.le_of_ble_eq_true rfl, Nat.le_of_ble_eq_true rfl⟩) hP hD hS hA (wr := [(h0_to, .inr (2, [.ref h0_to_held, .int g48])), (h0_blocks, .inr (1, [.ref h0_blocks_facts, .int g47])), (h0_words, .inr (2, [.ref h0_words_held, .int h0_words_count])), (h0_settings, .inl (cI, h0_settings_n, .inl h0_settings_f)), (h0_to_held, .inl (cB, h0_to_held_n, .inl f34)), (h0_blocks_facts, .inl (cI, h0_blocks_facts_n, .inl f33)), (h0_words_held, .inl (cB, h0_words_held_n, .inl h0_words_held_f))]) (w1 := [(h0, .inr (5, [.ref h0_input, .ref h0_words, .ref h0_settings, .ref h0_to, .ref h0_blocks, .int u89, .int u90, .int u91, .int g45, .int g46, .int g35, .int g36, .int g37, .int g38, .int g39, .int g40, .long g41])), (h0_input, .inr (2, [.ref h0_input_held, .int h0_input_count])), (h0_input_held, .inl (cB, h0_input_held_n, .inl h0_input_held_f))]) (ws' := [(h0, .inr (5, [.ref h0_input, .ref h0_words, .ref h0_settings, .ref h0_to, .ref h0_blocks, .int u89, .int u90, .int u91, .int g45, .int g46, .int g35, .int g36, .int g37, .int g38, .int g39, .int g40, .long g41])), (h0_input, .inr (2, [.ref h0_input_held, .int h0_input_count])), (h0_input_held, .inl (cB, h0_input_held_n, .inl h0_input_held_f)), (h0_to, .inr (2, [.ref h0_to_held, .int g48])), (h0_blocks, .inr (1, [.ref h0_blocks_facts, .int g47])), (h0_words, .inr (2, [.ref h0_words_held, .int h0_words_count])), (h0_settings, .inl (cI, h0_settings_n, .inl h0_settings_f)), (h0_to_held, .inl (cB, h0_to_held_n, .inl f34)), (h0_blocks_facts, .inl (cI, h0_blocks_facts_n, .inl f33)), (h0_words_held, .inl (cB, h0_words_held_n, .inl h0_words_held_f))]) [0, 1, 2] [3, 4, 5, 6, 7, 8, 9] [7, 8, 9, 0, 1, 2, 3, 4, 5, 6] rfl rfl (by decide) (by decide) rfl (by decide) (fun H locs hP hD hS => ?_)
                  refine lv_if_eq (tgt := 129) hx hb dX6_openFrames_116 (by decide) (fun c_116 => ?_) (fun c_116 => ?_)
                  · replace hf := if_t c_116 hf
                    have hf : m_Opener_openFrames_E129 f33 f34 g35 g36 g37 g38 g39 g40 g41 u89 u90 u91 g45 g46 g47 g48 = some (o_r, o_h0_broken, o_h0_brokenAt, o_h0_at, o_h0_end, o_h0_begin, o_h0_copies, o_h0_literals, o_h0_parts, o_h0_frameBegin, o_h0_flags, o_h0_width, o_h0_size, o_h0_to_count, o_h0_blocks_count, o_h0_to_held_f, o_h0_blocks_facts_f) := by have hq := hk_2; rw [iter_exit hf hr_2] at hq; exact hq
                    exact hJ_129 f33 f34 g35 g36 g37 g38 g39 g40 g41 u89 u90 u91 g45 g46 g47 g48 _ _ _ hf hP hD hS (lv_sub hl [] rfl)
                  · replace hf := if_f c_116 hf
                    refine lv_goto (tgt := 131) hx hb dX6_openFrames_119 (by decide) ?_
                    exact hJ_131 f33 f34 g35 g36 g37 g38 g39 g40 g41 u89 u90 u91 g45 g46 g47 g48 _ _ _ hf hP hD hS (lv_sub hl [0, 1] rfl)
              refine lv_if_ne (tgt := 97) hx hb dX6_openFrames_76 (by decide) (fun c_76 => ?_) (fun c_76 => ?_)
              · replace hf := if_f c_76 hf
                exact hJ_97  _ _ _ hf hP hD hS (lv_sub hl [1, 2, 0] rfl)
              · replace hf := if_t c_76 hf
                refine lv_lload_n hx hb dX6_openFrames_79 rfl (lv_at hl 3 rfl) ?_
                refine lv_ldc2 hx hb hown (hts _ kw_915) dX6_openFrames_80 ?_
                refine W.lcmp hx hb dX6_openFrames_83 ?_
                refine lv_if_eq (tgt := 97) hx hb dX6_openFrames_84 (by decide) (fun c_84 => ?_) (fun c_84 => ?_)
                · replace hf := if_t c_84 hf
                  exact hJ_97  _ _ _ hf hP hD hS (lv_sub hl [1, 2, 0] rfl)
                · replace hf := if_f c_84 hf
                  refine lv_aload_n hx hb dX6_openFrames_87 rfl (lv_at hl 1 rfl) ?_
                  refine lv_iconst (v := 4) hx hb dX6_openFrames_88 (by decide) ?_
                  refine lv_aload_n hx hb dX6_openFrames_89 rfl (lv_at hl 1 rfl) ?_
                  refine va_get (D := (dC, dI)) (ci := 5) (v := .int g44) (C := RX6) (T := TX6) (N := 17) hx hb hts inG_X6 hown hK hP 0 rfl rfl 7 (by decide) (hts _ kw_296) (fun _ h9 => h9) rfl dX6_openFrames_90 ?_
                  obtain ⟨x, hc, hf⟩ := bind_some hf
                  obtain ⟨r92, u93, u94⟩ := x
                  dsimp only at hf
                  refine nx_i (rn_V (As := [.int (4 : Int32), .int g44]) (rest := []) (n := 2) (ci := 5) (q0 := 0) ⟨hx, hb, hml, hown, hts⟩ (c_Opener_breaks (l := l) (dC := dC) (dI := dI) (cB := cB) (cI := cI) (h0 := h0) (a1 := (4 : Int32)) (a2 := g44) (w_h0_input := (.ref h0_input)) (w_h0_words := (.ref h0_words)) (w_h0_settings := (.ref h0_settings)) (w_h0_to := (.ref h0_to)) (w_h0_blocks := (.ref h0_blocks)) (h0_broken := g42) (h0_brokenAt := g43) (w_h0_at := (.int g44)) (w_h0_end := (.int g45)) (w_h0_begin := (.int g46)) (w_h0_copies := (.int g35)) (w_h0_literals := (.int g36)) (w_h0_parts := (.int g37)) (w_h0_frameBegin := (.int g38)) (w_h0_flags := (.int g39)) (w_h0_width := (.int g40)) (w_h0_size := (.long g41)) (o_h0_broken := u93) (o_h0_brokenAt := u94) (o_r := r92) hc) (wV kw_871 kw_873 kw_26 kw_92 kw_874) (by decide +kernel) ⟨Nat.le_of_ble_eq_true rfl, Nat.le_of_ble_eq_true rfl⟩ hK hP hD hN hT hS (va_free (wc := [(h0, .inr (5, [.ref h0_input, .ref h0_words, .ref h0_settings, .ref h0_to, .ref h0_blocks, .int g42, .int g43, .int g44, .int g45, .int g46, .int g35, .int g36, .int g37, .int g38, .int g39, .int g40, .long g41]))]) hD hS hA [0] rfl) [0] rfl (by decide) rfl rfl rfl hl.1 rfl (lv_room (Nat.le_of_ble_eq_true rfl)) dX6_openFrames_93 ⟨Nat.le_of_ble_eq_true rfl, Nat.le_of_ble_eq_true rfl⟩) hP hD hS hA (wr := [(h0_input, .inr (2, [.ref h0_input_held, .int h0_input_count])), (h0_input_held, .inl (cB, h0_input_held_n, .inl h0_input_held_f)), (h0_to, .inr (2, [.ref h0_to_held, .int g48])), (h0_blocks, .inr (1, [.ref h0_blocks_facts, .int g47])), (h0_words, .inr (2, [.ref h0_words_held, .int h0_words_count])), (h0_settings, .inl (cI, h0_settings_n, .inl h0_settings_f)), (h0_to_held, .inl (cB, h0_to_held_n, .inl f34)), (h0_blocks_facts, .inl (cI, h0_blocks_facts_n, .inl f33)), (h0_words_held, .inl (cB, h0_words_held_n, .inl h0_words_held_f))]) (w1 := [(h0, .inr (5, [.ref h0_input, .ref h0_words, .ref h0_settings, .ref h0_to, .ref h0_blocks, .int u93, .int u94, .int g44, .int g45, .int g46, .int g35, .int g36, .int g37, .int g38, .int g39, .int g40, .long g41]))]) (ws' := [(h0, .inr (5, [.ref h0_input, .ref h0_words, .ref h0_settings, .ref h0_to, .ref h0_blocks, .int u93, .int u94, .int g44, .int g45, .int g46, .int g35, .int g36, .int g37, .int g38, .int g39, .int g40, .long g41])), (h0_input, .inr (2, [.ref h0_input_held, .int h0_input_count])), (h0_input_held, .inl (cB, h0_input_held_n, .inl h0_input_held_f)), (h0_to, .inr (2, [.ref h0_to_held, .int g48])), (h0_blocks, .inr (1, [.ref h0_blocks_facts, .int g47])), (h0_words, .inr (2, [.ref h0_words_held, .int h0_words_count])), (h0_settings, .inl (cI, h0_settings_n, .inl h0_settings_f)), (h0_to_held, .inl (cB, h0_to_held_n, .inl f34)), (h0_blocks_facts, .inl (cI, h0_blocks_facts_n, .inl f33)), (h0_words_held, .inl (cB, h0_words_held_n, .inl h0_words_held_f))]) [0] [1, 2, 3, 4, 5, 6, 7, 8, 9] [9, 0, 1, 2, 3, 4, 5, 6, 7, 8] rfl rfl (by decide) (by decide) rfl (by decide) (fun H locs hP hD hS => ?_)
                  obtain ⟨hzb, hf⟩ := bch_some hf
                  replace hf : some (r92, u93, u94, g44, g45, g46, g35, g36, g37, g38, g39, g40, g41, g48, g47, f34, f33) = some (o_r, o_h0_broken, o_h0_brokenAt, o_h0_at, o_h0_end, o_h0_begin, o_h0_copies, o_h0_literals, o_h0_parts, o_h0_frameBegin, o_h0_flags, o_h0_width, o_h0_size, o_h0_to_count, o_h0_blocks_count, o_h0_to_held_f, o_h0_blocks_facts_f) := by have hq := hk_2; rw [iter_exit hf hr_2] at hq; exact hq
                  obtain ⟨rfl, hq_1⟩ := Prod.mk.inj (Option.some.inj hf)
                  obtain ⟨rfl, hq_2⟩ := Prod.mk.inj hq_1
                  obtain ⟨rfl, hq_3⟩ := Prod.mk.inj hq_2
                  obtain ⟨rfl, hq_4⟩ := Prod.mk.inj hq_3
                  obtain ⟨rfl, hq_5⟩ := Prod.mk.inj hq_4
                  obtain ⟨rfl, hq_6⟩ := Prod.mk.inj hq_5
                  obtain ⟨rfl, hq_7⟩ := Prod.mk.inj hq_6
                  obtain ⟨rfl, hq_8⟩ := Prod.mk.inj hq_7
                  obtain ⟨rfl, hq_9⟩ := Prod.mk.inj hq_8
                  obtain ⟨rfl, hq_10⟩ := Prod.mk.inj hq_9
                  obtain ⟨rfl, hq_11⟩ := Prod.mk.inj hq_10
                  obtain ⟨rfl, hq_12⟩ := Prod.mk.inj hq_11
                  obtain ⟨rfl, hq_13⟩ := Prod.mk.inj hq_12
                  obtain ⟨rfl, hq_14⟩ := Prod.mk.inj hq_13
                  obtain ⟨rfl, hq_15⟩ := Prod.mk.inj hq_14
                  obtain ⟨rfl, hq_16⟩ := Prod.mk.inj hq_15
                  obtain rfl := hq_16
                  exact rt_z hQ hx hb hr hzb hlocks hP hD hS dX6_openFrames_96
            refine lv_if_lt (tgt := 71) hx hb dX6_openFrames_56 (by decide) (fun c_56 => ?_) (fun c_56 => ?_)
            · replace hf := if_t c_56 hf
              refine lv_iconst (v := 0) hx hb dX6_openFrames_71 (by decide) ?_
              exact hJ_72 (0 : Int32) _ _ _ hf hP hD hS (lv_sub hl [1, 2, 0] rfl)
            · replace hf := if_f c_56 hf
              refine lv_lload_n hx hb dX6_openFrames_59 rfl (lv_at hl 0 rfl) ?_
              refine lv_ldc2 hx hb hown (hts _ kw_914) dX6_openFrames_60 ?_
              refine W.lcmp hx hb dX6_openFrames_63 ?_
              refine lv_if_ge (tgt := 71) hx hb dX6_openFrames_64 (by decide) (fun c_64 => ?_) (fun c_64 => ?_)
              · replace hf := if_t c_64 hf
                refine lv_iconst (v := 0) hx hb dX6_openFrames_71 (by decide) ?_
                exact hJ_72 (0 : Int32) _ _ _ hf hP hD hS (lv_sub hl [1, 2, 0] rfl)
              · replace hf := if_f c_64 hf
                refine lv_iconst (v := 1) hx hb dX6_openFrames_67 (by decide) ?_
                refine lv_goto (tgt := 72) hx hb dX6_openFrames_68 (by decide) ?_
                exact hJ_72 (1 : Int32) _ _ _ hf hP hD hS (lv_sub hl [1, 2, 0] rfl)
          · replace hf := if_f c_25 hf
            refine lv_aload_n hx hb dX6_openFrames_28 rfl (lv_at hl 0 rfl) ?_
            refine lv_iconst (v := 1) hx hb dX6_openFrames_29 (by decide) ?_
            refine lv_aload_n hx hb dX6_openFrames_30 rfl (lv_at hl 0 rfl) ?_
            refine va_get (D := (dC, dI)) (ci := 5) (v := .int g45) (C := RX6) (T := TX6) (N := 17) hx hb hts inG_X6 hown hK hP 0 rfl rfl 8 (by decide) (hts _ kw_297) (fun _ h9 => h9) rfl dX6_openFrames_31 ?_
            obtain ⟨x, hc, hf⟩ := bind_some hf
            obtain ⟨r95, u96, u97⟩ := x
            dsimp only at hf
            refine nx_i (rn_V (As := [.int (1 : Int32), .int g45]) (rest := []) (n := 2) (ci := 5) (q0 := 0) ⟨hx, hb, hml, hown, hts⟩ (c_Opener_breaks (l := l) (dC := dC) (dI := dI) (cB := cB) (cI := cI) (h0 := h0) (a1 := (1 : Int32)) (a2 := g45) (w_h0_input := (.ref h0_input)) (w_h0_words := (.ref h0_words)) (w_h0_settings := (.ref h0_settings)) (w_h0_to := (.ref h0_to)) (w_h0_blocks := (.ref h0_blocks)) (h0_broken := g42) (h0_brokenAt := g43) (w_h0_at := (.int g44)) (w_h0_end := (.int g45)) (w_h0_begin := (.int g46)) (w_h0_copies := (.int g35)) (w_h0_literals := (.int g36)) (w_h0_parts := (.int g37)) (w_h0_frameBegin := (.int g38)) (w_h0_flags := (.int g39)) (w_h0_width := (.int g40)) (w_h0_size := (.long g41)) (o_h0_broken := u96) (o_h0_brokenAt := u97) (o_r := r95) hc) (wV kw_871 kw_873 kw_26 kw_92 kw_874) (by decide +kernel) ⟨Nat.le_of_ble_eq_true rfl, Nat.le_of_ble_eq_true rfl⟩ hK hP hD hN hT hS (va_free (wc := [(h0, .inr (5, [.ref h0_input, .ref h0_words, .ref h0_settings, .ref h0_to, .ref h0_blocks, .int g42, .int g43, .int g44, .int g45, .int g46, .int g35, .int g36, .int g37, .int g38, .int g39, .int g40, .long g41]))]) hD hS hA [0] rfl) [0] rfl (by decide) rfl rfl rfl hl.1 rfl (lv_room (Nat.le_of_ble_eq_true rfl)) dX6_openFrames_34 ⟨Nat.le_of_ble_eq_true rfl, Nat.le_of_ble_eq_true rfl⟩) hP hD hS hA (wr := [(h0_input, .inr (2, [.ref h0_input_held, .int h0_input_count])), (h0_input_held, .inl (cB, h0_input_held_n, .inl h0_input_held_f)), (h0_to, .inr (2, [.ref h0_to_held, .int g48])), (h0_blocks, .inr (1, [.ref h0_blocks_facts, .int g47])), (h0_words, .inr (2, [.ref h0_words_held, .int h0_words_count])), (h0_settings, .inl (cI, h0_settings_n, .inl h0_settings_f)), (h0_to_held, .inl (cB, h0_to_held_n, .inl f34)), (h0_blocks_facts, .inl (cI, h0_blocks_facts_n, .inl f33)), (h0_words_held, .inl (cB, h0_words_held_n, .inl h0_words_held_f))]) (w1 := [(h0, .inr (5, [.ref h0_input, .ref h0_words, .ref h0_settings, .ref h0_to, .ref h0_blocks, .int u96, .int u97, .int g44, .int g45, .int g46, .int g35, .int g36, .int g37, .int g38, .int g39, .int g40, .long g41]))]) (ws' := [(h0, .inr (5, [.ref h0_input, .ref h0_words, .ref h0_settings, .ref h0_to, .ref h0_blocks, .int u96, .int u97, .int g44, .int g45, .int g46, .int g35, .int g36, .int g37, .int g38, .int g39, .int g40, .long g41])), (h0_input, .inr (2, [.ref h0_input_held, .int h0_input_count])), (h0_input_held, .inl (cB, h0_input_held_n, .inl h0_input_held_f)), (h0_to, .inr (2, [.ref h0_to_held, .int g48])), (h0_blocks, .inr (1, [.ref h0_blocks_facts, .int g47])), (h0_words, .inr (2, [.ref h0_words_held, .int h0_words_count])), (h0_settings, .inl (cI, h0_settings_n, .inl h0_settings_f)), (h0_to_held, .inl (cB, h0_to_held_n, .inl f34)), (h0_blocks_facts, .inl (cI, h0_blocks_facts_n, .inl f33)), (h0_words_held, .inl (cB, h0_words_held_n, .inl h0_words_held_f))]) [0] [1, 2, 3, 4, 5, 6, 7, 8, 9] [9, 0, 1, 2, 3, 4, 5, 6, 7, 8] rfl rfl (by decide) (by decide) rfl (by decide) (fun H locs hP hD hS => ?_)
            obtain ⟨hzb, hf⟩ := bch_some hf
            replace hf : some (r95, u96, u97, g44, g45, g46, g35, g36, g37, g38, g39, g40, g41, g48, g47, f34, f33) = some (o_r, o_h0_broken, o_h0_brokenAt, o_h0_at, o_h0_end, o_h0_begin, o_h0_copies, o_h0_literals, o_h0_parts, o_h0_frameBegin, o_h0_flags, o_h0_width, o_h0_size, o_h0_to_count, o_h0_blocks_count, o_h0_to_held_f, o_h0_blocks_facts_f) := by have hq := hk_2; rw [iter_exit hf hr_2] at hq; exact hq
            obtain ⟨rfl, hq_1⟩ := Prod.mk.inj (Option.some.inj hf)
            obtain ⟨rfl, hq_2⟩ := Prod.mk.inj hq_1
            obtain ⟨rfl, hq_3⟩ := Prod.mk.inj hq_2
            obtain ⟨rfl, hq_4⟩ := Prod.mk.inj hq_3
            obtain ⟨rfl, hq_5⟩ := Prod.mk.inj hq_4
            obtain ⟨rfl, hq_6⟩ := Prod.mk.inj hq_5
            obtain ⟨rfl, hq_7⟩ := Prod.mk.inj hq_6
            obtain ⟨rfl, hq_8⟩ := Prod.mk.inj hq_7
            obtain ⟨rfl, hq_9⟩ := Prod.mk.inj hq_8
            obtain ⟨rfl, hq_10⟩ := Prod.mk.inj hq_9
            obtain ⟨rfl, hq_11⟩ := Prod.mk.inj hq_10
            obtain ⟨rfl, hq_12⟩ := Prod.mk.inj hq_11
            obtain ⟨rfl, hq_13⟩ := Prod.mk.inj hq_12
            obtain ⟨rfl, hq_14⟩ := Prod.mk.inj hq_13
            obtain ⟨rfl, hq_15⟩ := Prod.mk.inj hq_14
            obtain ⟨rfl, hq_16⟩ := Prod.mk.inj hq_15
            obtain rfl := hq_16
            exact rt_z hQ hx hb hr hzb hlocks hP hD hS dX6_openFrames_37
  exact hL_2 FU h0_blocks_facts_f h0_to_held_f h0_copies h0_literals h0_parts h0_frameBegin h0_flags h0_width h0_size h0_broken h0_brokenAt h0_at h0_end h0_begin h0_blocks_count h0_to_count (0 : Int32) _ _ _ hi_2 hP hD hS (lv_sub hl [1, 0] rfl)

