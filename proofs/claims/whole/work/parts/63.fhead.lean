/-! the head of a frame -/
theorem ck0 {β : Type} (k : Option β) : chk (0 : Int32) 6 k = k := by
  rw [show (0 : Int32) = iI 0 from rfl, chk_iI (by omega) (by omega)]
theorem tc0 : (0 : Int32).toNatClampNeg = 0 := by decide
theorem is0 (sF : Nat → Int32) : m_Packer_isSet (0 : Int32) 6 sF = some (if sF 0 = 0 then 0 else 1) := s_isSet (j := 0) (by omega)
theorem ck1 {β : Type} (k : Option β) : chk (1 : Int32) 6 k = k := by
  rw [show (1 : Int32) = iI 1 from rfl, chk_iI (by omega) (by omega)]
theorem tc1 : (1 : Int32).toNatClampNeg = 1 := by decide
theorem is1 (sF : Nat → Int32) : m_Packer_isSet (1 : Int32) 6 sF = some (if sF 1 = 0 then 0 else 1) := s_isSet (j := 1) (by omega)
theorem ck2 {β : Type} (k : Option β) : chk (2 : Int32) 6 k = k := by
  rw [show (2 : Int32) = iI 2 from rfl, chk_iI (by omega) (by omega)]
theorem tc2 : (2 : Int32).toNatClampNeg = 2 := by decide
theorem is2 (sF : Nat → Int32) : m_Packer_isSet (2 : Int32) 6 sF = some (if sF 2 = 0 then 0 else 1) := s_isSet (j := 2) (by omega)
theorem ck3 {β : Type} (k : Option β) : chk (3 : Int32) 6 k = k := by
  rw [show (3 : Int32) = iI 3 from rfl, chk_iI (by omega) (by omega)]
theorem tc3 : (3 : Int32).toNatClampNeg = 3 := by decide
theorem is3 (sF : Nat → Int32) : m_Packer_isSet (3 : Int32) 6 sF = some (if sF 3 = 0 then 0 else 1) := s_isSet (j := 3) (by omega)
theorem ck4 {β : Type} (k : Option β) : chk (4 : Int32) 6 k = k := by
  rw [show (4 : Int32) = iI 4 from rfl, chk_iI (by omega) (by omega)]
theorem tc4 : (4 : Int32).toNatClampNeg = 4 := by decide
theorem is4 (sF : Nat → Int32) : m_Packer_isSet (4 : Int32) 6 sF = some (if sF 4 = 0 then 0 else 1) := s_isSet (j := 4) (by omega)
theorem ck5 {β : Type} (k : Option β) : chk (5 : Int32) 6 k = k := by
  rw [show (5 : Int32) = iI 5 from rfl, chk_iI (by omega) (by omega)]
theorem tc5 : (5 : Int32).toNatClampNeg = 5 := by decide
theorem is5 (sF : Nat → Int32) : m_Packer_isSet (5 : Int32) 6 sF = some (if sF 5 = 0 then 0 else 1) := s_isSet (j := 5) (by omega)
theorem ite_01 {β : Type} {x : Int32} (A B : β) : (if (if x = 0 then (0 : Int32) else 1) = 0 then A else B) = if x = 0 then A else B := by
  by_cases c : x = 0
  · rw [if_pos c, if_pos rfl, if_pos c]
  · rw [if_neg c, if_neg (by decide), if_neg c]
def fx (sF : Nat → Int32) : Int32 := ((((64 + (if sF 1 = 0 then (32 : Int32) else 0)) + (if sF 2 = 0 then (0 : Int32) else 16)) + (if sF 3 = 0 then (0 : Int32) else 8)) + (if sF 4 = 0 then (0 : Int32) else 4)) + (if sF 5 = 0 then (0 : Int32) else 1)
def H0 (sF : Nat → Int32) (m : Nat) : List Int := le 407708164 4 ++ [(fx sF).toInt % 256] ++ [64] ++ (if sF 3 = 0 then [] else le m 8) ++ (if sF 5 = 0 then [] else le (sF 5).toInt 4)
theorem H0_len (sF : Nat → Int32) (m : Nat) : 6 ≤ (H0 sF m).length ∧ (H0 sF m).length ≤ 18 := by
  unfold H0
  rw [List.length_append, List.length_append, List.length_append, List.length_append, le_len, List.length_singleton, List.length_singleton]
  by_cases c1 : sF 3 = 0
  · rw [if_pos c1]
    by_cases c2 : sF 5 = 0
    · rw [if_pos c2]; simp
    · rw [if_neg c2, le_len]; simp
  · rw [if_neg c1, le_len]
    by_cases c2 : sF 5 = 0
    · rw [if_pos c2]; simp
    · rw [if_neg c2, le_len]; simp
def HF (sF : Nat → Int32) (m : Nat) : List Int := H0 sF m ++ [(sumS (rd (H0 sF m)) 4 ((H0 sF m).length - 4)).toInt / 256 % 256]
theorem HF_len (sF : Nat → Int32) (m : Nat) : (HF sF m).length ≤ 19 := by
  have := H0_len sF m
  unfold HF
  rw [List.length_append, List.length_singleton]
  omega
theorem j_mark : (407708164 : Int64) = jI 407708164 := by decide
theorem j_0 : (0 : Int64) = jI 0 := by decide
theorem i_nat4 : (4 : Int32) = iI ((4 : Nat) : Int) := by decide
theorem i_nat8 : (8 : Int32) = iI ((8 : Nat) : Int) := by decide
theorem i_nat3 : (3 : Int32) = iI ((3 : Nat) : Int) := by decide
theorem i32_j (x : Int32) : x.toInt64 = jI x.toInt := by
  conv => lhs; rw [iI_of x]
  exact iI_j ⟨Int32.le_toInt x, Int32.toInt_lt x⟩
theorem s_sumByte (x : Int32) : iushr x 8 = iI (x.toInt % 4294967296 / 256) := by
  conv => lhs; rw [iI_of x]
  exact iI_ushr x.toInt 8 8 (by decide)
theorem t_sumByte (x : Int32) : ishr x 8 = iI (x.toInt / 256) := by
  conv => lhs; rw [iI_of x]
  have := iI_shr ⟨Int32.le_toInt x, Int32.toInt_lt x⟩ 8 8 (by decide)
  exact this
theorem s_fhead {cnt : Int32} {f sF : Nat → Int32} {m : Nat} (h : BR 12000 cnt f []) (hm : m ≤ 4000) : ok (m_Packer_writeFrameHead cnt 12000 f 6 sF (iI m)) (fun o => BR 12000 o.1 o.2 (HF sF m)) := by
  have hl := H0_len sF m
  have hE : ∀ (c' : Int32) (f' : Nat → Int32), BR 12000 c' f' (H0 sF m) → ok (m_Packer_writeFrameHead_J158 12000 (iI 4) f' c') (fun o => BR 12000 o.1 o.2 (HF sF m)) := by
    intro c' f' hb
    unfold m_Packer_writeFrameHead_J158 m_Bytes_size
    have h1 := hb.1
    rw [Option.bind_some, h1, iI_sub, show ((H0 sF m).length : Int) - 4 = (((H0 sF m).length - 4 : Nat) : Int) by omega, ← h1]
    have hs := s_sumOf (p := 4) (n := (H0 sF m).length - 4) hb (by omega) (by omega)
    rw [show iI ((4 : Nat) : Int) = iI 4 from rfl] at hs
    rw [hs, Option.bind_some, s_sumByte]
    refine ok_bind (s_add _ hb (by omega) (by omega)) ?_
    rintro ⟨u1, u2⟩ hu
    refine ok_some ?_
    unfold HF
    rw [show (sumS (rd (H0 sF m)) 4 ((H0 sF m).length - 4)).toInt / 256 % 256 = (sumS (rd (H0 sF m)) 4 ((H0 sF m).length - 4)).toInt % 4294967296 / 256 % 256 by omega]
    exact hu
  have h135 : ∀ (c' : Int32) (f' : Nat → Int32), BR 12000 c' f' (le 407708164 4 ++ [(fx sF).toInt % 256] ++ [64] ++ (if sF 3 = 0 then [] else le m 8)) → (le 407708164 4 ++ [(fx sF).toInt % 256] ++ [64] ++ (if sF 3 = 0 then [] else le m 8)).length ≤ 14 → ok (m_Packer_writeFrameHead_J135 12000 6 sF (iI 4) f' c') (fun o => BR 12000 o.1 o.2 (HF sF m)) := by
    intro c' f' hb hll
    unfold m_Packer_writeFrameHead_J135
    rw [is5, Option.bind_some, ite_01]
    by_cases c : sF 5 = 0
    · rw [if_pos c]
      refine hE c' f' ?_
      unfold H0
      rw [if_pos c, List.append_nil]
      exact hb
    · rw [if_neg c, ck5, tc5, i32_j, i_nat4]
      refine ok_bind (s_addNumber _ (by omega) hb (by omega) (by omega)) ?_
      rintro ⟨u1, u2⟩ hu
      dsimp only at hu ⊢
      refine hE u1 u2 ?_
      unfold H0
      rw [if_neg c]
      exact hu
  have h97 : ∀ (c' s5 s7 s9 s11 s13 : Int32) (f' : Nat → Int32), BR 12000 c' f' (le 407708164 4) → ((((64 + s5) + s7) + s9) + s11) + s13 = fx sF → ok (m_Packer_writeFrameHead_J97 12000 6 sF (iI m) c' f' (iI 4) s5 s7 s9 s11 s13) (fun o => BR 12000 o.1 o.2 (HF sF m)) := by
    intro c' s5 s7 s9 s11 s13 f' hb hfx
    unfold m_Packer_writeFrameHead_J97 m_Bytes_size
    rw [hfx, iI_of (fx sF)]
    refine ok_bind (s_add _ hb (by rw [le_len]; omega) (by omega)) ?_
    rintro ⟨u1, u2⟩ hu
    dsimp only at hu ⊢
    rw [lit_64]
    refine ok_bind (s_add _ hu (by rw [List.length_append, le_len, List.length_singleton]; omega) (by omega)) ?_
    rintro ⟨u3, u4⟩ hu2
    dsimp only at hu2 ⊢
    rw [show (64 : Int) % 256 = 64 by decide] at hu2
    have l2 : (le 407708164 4 ++ [(fx sF).toInt % 256] ++ [64]).length = 6 := by rw [List.length_append, List.length_append, le_len, List.length_singleton, List.length_singleton]
    rw [is3, Option.bind_some, ite_01, Option.bind_some]
    by_cases c : sF 3 = 0
    · rw [if_pos c]
      refine h135 u3 u4 ?_ ?_
      · rw [if_pos c, List.append_nil]; exact hu2
      · rw [if_pos c, List.append_nil]; omega
    · rw [if_neg c, iI_j (by omega), i_nat8]
      refine ok_bind (s_addNumber _ (by omega) hu2 (by omega) (by omega)) ?_
      rintro ⟨u5, u6⟩ hu3
      dsimp only at hu3 ⊢
      refine h135 u5 u6 ?_ ?_
      · rw [if_neg c]; exact hu3
      · rw [if_neg c, List.length_append, l2, le_len]; omega
  unfold m_Packer_writeFrameHead m_Bytes_size
  rw [j_mark, i_nat4]
  refine ok_bind (s_addNumber _ (by omega) h (by simp) (by omega)) ?_
  rintro ⟨u1, u2⟩ hu
  dsimp only at hu ⊢
  rw [List.nil_append] at hu
  have h1 := hu.1
  rw [le_len] at h1
  have h1' : u1 = iI 4 := h1
  unfold fx at h97
  unfold m_Packer_writeFrameHead_J39 m_Packer_writeFrameHead_J54 m_Packer_writeFrameHead_J69 m_Packer_writeFrameHead_J83
  rw [Option.bind_some, is1, is2, is3, is4, is5]
  simp only [Option.bind_some, ite_01]
  have hu' := hu
  have key : ∀ s5 s7 s9 s11 s13 : Int32, ((((64 + s5) + s7) + s9) + s11) + s13 = ((((64 + (if sF 1 = 0 then (32 : Int32) else 0)) + (if sF 2 = 0 then (0 : Int32) else 16)) + (if sF 3 = 0 then (0 : Int32) else 8)) + (if sF 4 = 0 then (0 : Int32) else 4)) + (if sF 5 = 0 then (0 : Int32) else 1) → ok (m_Packer_writeFrameHead_J97 12000 6 sF (iI m) u1 u2 u1 s5 s7 s9 s11 s13) (fun o => BR 12000 o.1 o.2 (HF sF m)) := by
    intro s5 s7 s9 s11 s13 e
    have := h97 u1 s5 s7 s9 s11 s13 u2 hu' e
    rw [← h1'] at this
    exact this
  by_cases c1 : sF 1 = 0 <;> by_cases c2 : sF 2 = 0 <;> by_cases c3 : sF 3 = 0 <;> by_cases c4 : sF 4 = 0 <;> by_cases c5 : sF 5 = 0 <;> simp only [c1, c2, c3, c4, c5, if_true, if_false] at key ⊢ <;> exact key _ _ _ _ _ rfl
theorem or_fx (a b c d e : Prop) [Decidable a] [Decidable b] [Decidable c] [Decidable d] [Decidable e] : (((((64 : Int32) ||| (if a then (32 : Int32) else 0)) ||| (if b then (0 : Int32) else 16)) ||| (if c then (0 : Int32) else 8)) ||| (if d then (0 : Int32) else 4)) ||| (if e then (0 : Int32) else 1) = ((((64 + (if a then (32 : Int32) else 0)) + (if b then (0 : Int32) else 16)) + (if c then (0 : Int32) else 8)) + (if d then (0 : Int32) else 4)) + (if e then (0 : Int32) else 1) := by
  by_cases h1 : a <;> by_cases h2 : b <;> by_cases h3 : c <;> by_cases h4 : d <;> by_cases h5 : e <;> simp only [h1, h2, h3, h4, h5, if_true, if_false] <;> decide
theorem ite_10 {β : Type} {x : Int32} (h : x = 0 ∨ x = 1) (A B : β) : (if x = 1 then A else B) = if x = 0 then B else A := by
  rcases h with rfl | rfl
  · rw [if_neg (by decide), if_pos rfl]
  · rw [if_pos rfl, if_neg (by decide)]
theorem t_fhead {cnt : Int32} {f sF : Nat → Int32} {m : Nat} {pre : List Int} (h : MR cnt f pre) (hm : m ≤ 4000) (hpre : pre.length ≤ 12000) (hs : ∀ j, 1 ≤ j → j ≤ 4 → sF j = 0 ∨ sF j = 1) (a1 : Int32) (h0_dictSize : Int32) (h0_lean : Int32) (h0_size : Int32) (h0_copies : Int32) (h0_copiesOf : Int32) (h0_literalsOf : Int32) (h0_partsOf : Int32) (h0_newMany : Int32) (h0_dict_f : Nat → Int32) (h0_text_f : Nat → Int32) (h0_in_f : Nat → Int32) (h0_most_f : Nat → Int32) (h0_offset_f : Nat → Int32) (h0_withCopy_f : Nat → Int32) (h0_bestCopy_f : Nat → Int32) (h0_fromHere_f : Nat → Int32) (h0_bestLiterals_f : Nat → Int32) (h0_copyAt_f : Nat → Int32) (h0_copyLength_f : Nat → Int32) (h0_copyOffset_f : Nat → Int32) (h0_newBlocks_f : Nat → Int32) {α : Type} {X : Option α} {P : α → _ → Prop} (hQ : ∀ (f' : Nat → Int32) (c' : Int32), MR c' f' (pre ++ H0 sF m) → ok2 X (m_Mo_frame_J150 a1 (iI m) h0_dictSize h0_lean h0_size h0_copies h0_copiesOf h0_literalsOf h0_partsOf h0_newMany 28000 6 sF 1000 h0_dict_f 5000 h0_text_f 4000 h0_in_f 4000 h0_most_f 260000 h0_offset_f 4001 h0_withCopy_f 4001 h0_bestCopy_f 4001 h0_fromHere_f 4001 h0_bestLiterals_f 4000 h0_copyAt_f 4000 h0_copyLength_f 4000 h0_copyOffset_f 28070 h0_newBlocks_f (iI ((pre.length + 4 : Nat) : Int)) f' c') P) : ok2 X (m_Mo_frame a1 (iI m) h0_dictSize cnt h0_lean h0_size h0_copies h0_copiesOf h0_literalsOf h0_partsOf h0_newMany 28000 f 6 sF 1000 h0_dict_f 5000 h0_text_f 4000 h0_in_f 4000 h0_most_f 260000 h0_offset_f 4001 h0_withCopy_f 4001 h0_bestCopy_f 4001 h0_fromHere_f 4001 h0_bestLiterals_f 4000 h0_copyAt_f 4000 h0_copyLength_f 4000 h0_copyOffset_f 28070 h0_newBlocks_f) P := by
  have h129 : ∀ (f' : Nat → Int32) (c' : Int32), MR c' f' (pre ++ (le 407708164 4 ++ [(fx sF).toInt % 256] ++ [64] ++ (if sF 3 = 0 then [] else le m 8))) → (le 407708164 4 ++ [(fx sF).toInt % 256] ++ [64] ++ (if sF 3 = 0 then [] else le m 8)).length ≤ 14 → ok2 X (m_Mo_frame_J129 a1 (iI m) h0_dictSize h0_lean h0_size h0_copies h0_copiesOf h0_literalsOf h0_partsOf h0_newMany 28000 6 sF 1000 h0_dict_f 5000 h0_text_f 4000 h0_in_f 4000 h0_most_f 260000 h0_offset_f 4001 h0_withCopy_f 4001 h0_bestCopy_f 4001 h0_fromHere_f 4001 h0_bestLiterals_f 4000 h0_copyAt_f 4000 h0_copyLength_f 4000 h0_copyOffset_f 28070 h0_newBlocks_f (iI ((pre.length + 4 : Nat) : Int)) f' c') P := by
    intro f' c' hb hll
    unfold m_Mo_frame_J129
    rw [ck5, tc5]
    by_cases c : sF 5 = 0
    · rw [if_pos c]
      refine hQ f' c' ?_
      unfold H0
      rw [if_pos c, List.append_nil]
      exact hb
    · rw [if_neg c, ck5, i32_j, i_nat4]
      refine ok2_r (t_lowest ⟨by have := Int32.le_toInt (sF 5); omega, by have := Int32.toInt_lt (sF 5); omega⟩ (by omega) hb (by rw [List.length_append]; omega) (by omega)) ?_
      rintro ⟨u1, u2⟩ hu
      dsimp only at hu ⊢
      refine hQ u2 u1 ?_
      unfold H0
      rw [if_neg c, ← List.append_assoc]
      exact hu
  have h98 : ∀ (s4 s5 s6 s7 s8 : Int32) (f' : Nat → Int32) (c' : Int32), MR c' f' (pre ++ le 407708164 4) → ((((64 ||| s4) ||| s5) ||| s6) ||| s7) ||| s8 = fx sF → ok2 X (m_Mo_frame_J98 a1 (iI m) h0_dictSize h0_lean h0_size h0_copies h0_copiesOf h0_literalsOf h0_partsOf h0_newMany 28000 6 sF 1000 h0_dict_f 5000 h0_text_f 4000 h0_in_f 4000 h0_most_f 260000 h0_offset_f 4001 h0_withCopy_f 4001 h0_bestCopy_f 4001 h0_fromHere_f 4001 h0_bestLiterals_f 4000 h0_copyAt_f 4000 h0_copyLength_f 4000 h0_copyOffset_f 28070 h0_newBlocks_f (iI ((pre.length + 4 : Nat) : Int)) c' f' s4 s5 s6 s7 s8) P := by
    intro s4 s5 s6 s7 s8 f' c' hb hfx
    unfold m_Mo_frame_J98
    rw [hfx, iI_of (fx sF)]
    have l0 : (pre ++ le 407708164 4).length = pre.length + 4 := by rw [List.length_append, le_len]
    refine ok2_r (t_put _ hb (by omega) (by omega)) ?_
    rintro ⟨u1, u2⟩ hu
    dsimp only at hu ⊢
    rw [lit_64]
    have l1 : (pre ++ le 407708164 4 ++ [(fx sF).toInt % 256]).length = pre.length + 5 := by rw [List.length_append, l0, List.length_singleton]
    refine ok2_r (t_put _ hu (by omega) (by omega)) ?_
    rintro ⟨u3, u4⟩ hu2
    dsimp only at hu2 ⊢
    rw [show (64 : Int) % 256 = 64 by decide] at hu2
    have l2 : (pre ++ le 407708164 4 ++ [(fx sF).toInt % 256] ++ [64]).length = pre.length + 6 := by rw [List.length_append, l1, List.length_singleton]
    have l3 : (le 407708164 4 ++ [(fx sF).toInt % 256] ++ [64]).length = 6 := by rw [List.length_append, List.length_append, le_len, List.length_singleton, List.length_singleton]
    rw [ck3, tc3, ite_10 (hs 3 (by omega) (by omega))]
    by_cases c : sF 3 = 0
    · rw [if_pos c]
      refine h129 u4 u3 ?_ ?_
      · rw [if_pos c, List.append_nil, ← List.append_assoc, ← List.append_assoc]; exact hu2
      · rw [if_pos c, List.append_nil]; omega
    · rw [if_neg c, iI_j (by omega), i_nat8]
      refine ok2_r (t_lowest (by omega) (by omega) hu2 (by omega) (by omega)) ?_
      rintro ⟨u5, u6⟩ hu3
      dsimp only at hu3 ⊢
      refine h129 u6 u5 ?_ ?_
      · rw [if_neg c, ← List.append_assoc, ← List.append_assoc, ← List.append_assoc]; exact hu3
      · rw [if_neg c, List.length_append, l3, le_len]; omega
  unfold m_Mo_frame
  rw [bnd_eq, j_mark, i_nat4, h.1, iI_add, show (pre.length : Int) + ((4 : Nat) : Int) = ((pre.length + 4 : Nat) : Int) by omega, ← h.1]
  refine ok2_r (t_lowest (by omega) (by omega) h (by omega) (by omega)) ?_
  rintro ⟨c', f'⟩ hu
  dsimp only at hu ⊢
  unfold m_Mo_frame_J33 m_Mo_frame_J50 m_Mo_frame_J67 m_Mo_frame_J83
  simp only [ck1, ck2, ck3, ck4, ck5, tc1, tc2, tc3, tc4, tc5, ite_10 (hs 2 (by omega) (by omega)), ite_10 (hs 3 (by omega) (by omega)), ite_10 (hs 4 (by omega) (by omega))]
  have key : ∀ s4 s5 s6 s7 s8 : Int32, ((((64 ||| s4) ||| s5) ||| s6) ||| s7) ||| s8 = (((((64 : Int32) ||| (if sF 1 = 0 then (32 : Int32) else 0)) ||| (if sF 2 = 0 then (0 : Int32) else 16)) ||| (if sF 3 = 0 then (0 : Int32) else 8)) ||| (if sF 4 = 0 then (0 : Int32) else 4)) ||| (if sF 5 = 0 then (0 : Int32) else 1) → ok2 X (m_Mo_frame_J98 a1 (iI m) h0_dictSize h0_lean h0_size h0_copies h0_copiesOf h0_literalsOf h0_partsOf h0_newMany 28000 6 sF 1000 h0_dict_f 5000 h0_text_f 4000 h0_in_f 4000 h0_most_f 260000 h0_offset_f 4001 h0_withCopy_f 4001 h0_bestCopy_f 4001 h0_fromHere_f 4001 h0_bestLiterals_f 4000 h0_copyAt_f 4000 h0_copyLength_f 4000 h0_copyOffset_f 28070 h0_newBlocks_f (iI ((pre.length + 4 : Nat) : Int)) c' f' s4 s5 s6 s7 s8) P := by
    intro s4 s5 s6 s7 s8 e
    exact h98 s4 s5 s6 s7 s8 f' c' hu (e.trans (or_fx _ _ _ _ _))
  by_cases c1 : sF 1 = 0 <;> by_cases c2 : sF 2 = 0 <;> by_cases c3 : sF 3 = 0 <;> by_cases c4 : sF 4 = 0 <;> by_cases c5 : sF 5 = 0 <;> simp only [c1, c2, c3, c4, c5, if_true, if_false] at key ⊢ <;> exact key _ _ _ _ _ rfl
