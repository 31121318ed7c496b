/-! more -/
theorem p_7 : P_7 RV0 := by
  intro a1 a2 h0_spareOutput h0_blocks h0_spareBlocks h0_packer_sequences h0_packer_elements h0_input_count h0_words_count h0_settings_f h0_text_count h0_text_foundOffset h0_text_downPlace h0_text_downLimit h0_text_downMost h0_text_downOffset w_h0_packer_to w_h0_packer_blocks h0_packer_level h0_packer_shift w_h0_packer_form h0_packer_base h0_packer_count h0_packer_copies h0_packer_literals h0_packer_parts h0_opener_broken h0_opener_brokenAt h0_output_count h0_spareOutput_count h0_blocks_count h0_spareBlocks_count h0_input_held_f h0_words_held_f h0_text_held_f h0_text_before_f h0_text_latest_f w_h0_packer_bestRow_form h0_packer_bestRow_count h0_packer_copyAt_f h0_output_held_f h0_spareOutput_held_f h0_blocks_facts_f h0_spareBlocks_facts_f h0_packer_bestRow_copies_lastOfEquals h0_packer_bestRow_copies_last h0_packer_bestRow_rests_lastOfEquals h0_packer_bestRow_rests_last h0_packer_bestRow_placeOfCopy_f h0_packer_bestRow_lengthOfCopy_f h0_packer_bestRow_copies_value_f h0_packer_bestRow_copies_leastOnward_f h0_packer_bestRow_copies_leastSoFar_f h0_packer_bestRow_rests_value_f h0_packer_bestRow_rests_leastOnward_f h0_packer_bestRow_rests_leastSoFar_f g0_inSize g0_outSize g0_dictSize g0_freshSize g0_lean g0_size g0_copies g0_copiesOf g0_literalsOf g0_partsOf g0_blockMany g0_newMany g0_rule g0_place g0_in_f g0_out_f g0_dict_f g0_told_f g0_fresh_f g0_text_f g0_most_f g0_offset_f g0_copyAt_f g0_copyLength_f g0_copyOffset_f g0_fromHere_f g0_withCopy_f g0_bestCopy_f g0_bestLiterals_f g0_blocks_f g0_newBlocks_f h0_output h
  obtain ⟨inp, dic, out, b1, b2, b3, b4, b5, b6, b7, b8, b9, b10, c11, c12⟩ := id h
  have main : ok2 (m_FB_more a1 a2 h0_spareOutput h0_blocks h0_spareBlocks h0_output_count h0_packer_sequences h0_packer_elements (w_h0_packer_to) (w_h0_packer_blocks) h0_packer_level h0_packer_shift (w_h0_packer_form) h0_packer_base h0_packer_count h0_packer_copies h0_packer_literals h0_packer_parts h0_spareOutput_count h0_spareBlocks_count h0_text_count h0_text_foundOffset h0_text_downPlace h0_text_downLimit h0_text_downMost h0_text_downOffset h0_words_count h0_input_count (w_h0_packer_bestRow_form) h0_packer_bestRow_count h0_packer_bestRow_rests_lastOfEquals h0_packer_bestRow_rests_last h0_packer_bestRow_copies_lastOfEquals h0_packer_bestRow_copies_last 12000 h0_spareOutput_held_f 6 h0_settings_f 256 h0_text_latest_f 1000 h0_words_held_f 5000 h0_text_held_f 5000 h0_text_before_f 4000 h0_input_held_f 4000 h0_packer_copyAt_f 4001 h0_packer_bestRow_lengthOfCopy_f 4001 h0_packer_bestRow_rests_value_f 4001 h0_packer_bestRow_rests_leastOnward_f 4001 h0_packer_bestRow_rests_leastSoFar_f 4001 h0_packer_bestRow_copies_value_f 4001 h0_packer_bestRow_copies_leastOnward_f 4001 h0_packer_bestRow_copies_leastSoFar_f 4001 h0_packer_bestRow_placeOfCopy_f 7000 h0_spareBlocks_facts_f 12000 h0_output_held_f) (m_Mo_more a1 a2 g0_inSize g0_outSize g0_dictSize g0_freshSize g0_lean g0_size g0_copies g0_copiesOf g0_literalsOf g0_partsOf g0_blockMany g0_newMany 12000 g0_out_f 28000 g0_fresh_f 6 g0_told_f 1000 g0_dict_f 5000 g0_text_f 4000 g0_in_f 4000 g0_most_f 260000 g0_offset_f 4001 g0_withCopy_f 4001 g0_bestCopy_f 4001 g0_fromHere_f 4001 g0_bestLiterals_f 4000 g0_copyAt_f 4000 g0_copyLength_f 4000 g0_copyOffset_f 28070 g0_newBlocks_f 28070 g0_blocks_f) (fun x y => x.1 = y.1 ∧ ((((x.2.1) = Value.ref h0_blocks ∧ (x.2.2.1) = Value.ref h0_spareBlocks ∧ RV0 (x.2.2.2.2.2.2.2.2.2.2.2.2.2.2.2.2.2.2.2.2.2.2.1) h0_input_held_f h0_words_count h0_words_held_f h0_settings_f (x.2.2.2.1) (x.2.2.2.2.2.2.2.2.2.2.2.2.2.2.2.2.2.2.2.2.2.2.2.2.2.2.2.2.2.2.2.2.2.2.2.2.2.2.2.2.2) (x.2.2.2.2.2.2.2.2.2.2.2.2.2.2.1) h0_blocks_count h0_blocks_facts_f h0_opener_broken h0_opener_brokenAt h0_packer_bestRow_copies_lastOfEquals h0_packer_bestRow_rests_lastOfEquals (y.2.1) g0_in_f (y.2.2.1) (y.2.2.2.2.2.2.2.2.2.2.2.2.1) g0_dictSize g0_dict_f g0_told_f (y.2.2.2.2.2.2.2.2.2.2.1) (y.2.2.2.2.2.2.2.2.2.2.2.2.2.2.2.2.2.2.2.2.2.2.2.2.2) g0_rule g0_place) ∨ ((x.2.1) = Value.ref h0_spareBlocks ∧ (x.2.2.1) = Value.ref h0_blocks ∧ RV0 (x.2.2.2.2.2.2.2.2.2.2.2.2.2.2.2.2.2.2.2.2.2.2.1) h0_input_held_f h0_words_count h0_words_held_f h0_settings_f (x.2.2.2.1) (x.2.2.2.2.2.2.2.2.2.2.2.2.2.2.2.2.2.2.2.2.2.2.2.2.2.2.2.2.2.2.2.2.2.2.2.2.2.2.2.2.2) (x.2.2.2.2.2.2.2.2.2.2.2.2.2.2.1) (x.2.2.2.2.2.2.2.2.2.2.2.2.2.2.2.1) (x.2.2.2.2.2.2.2.2.2.2.2.2.2.2.2.2.2.2.2.2.2.2.2.2.2.2.2.2.2.2.2.2.2.2.2.2.2.2.2.2.1) h0_opener_broken h0_opener_brokenAt h0_packer_bestRow_copies_lastOfEquals h0_packer_bestRow_rests_lastOfEquals (y.2.1) g0_in_f (y.2.2.1) (y.2.2.2.2.2.2.2.2.2.2.2.2.1) g0_dictSize g0_dict_f g0_told_f (y.2.2.2.2.2.2.2.2.2.2.1) (y.2.2.2.2.2.2.2.2.2.2.2.2.2.2.2.2.2.2.2.2.2.2.2.2.2) g0_rule g0_place)))) := by
    subst c11 c12
    have e1 := b1.1
    have e2 := b2.1
    have e3 := b3.1
    have e4 := b4.1
    have e5 := b5.1
    have e6 := b6.1
    subst e1 e2 e3 e4 e5 e6
    have i4 := b1.2.1
    have d4 := b3.2.1
    have o4 := b5.2.1
    obtain ⟨z1, hz1, rfl⟩ := iI_ex a1
    obtain ⟨z2, hz2, rfl⟩ := iI_ex a2
    obtain ⟨sk, hsk, rfl⟩ := b8
    obtain ⟨hs, ⟨B, hB1, hB2, hB⟩, hs01⟩ := id b7
    obtain ⟨Bn, rfl⟩ : ∃ Bn : Nat, B = Bn := ⟨B.toNat, by omega⟩
    unfold m_FB_more m_Mo_more m_FB_more_J10 m_Mo_more_J10 m_Bytes_size
    by_cases g1 : z1 = 1 ∨ z1 = 3
    · by_cases g2 : 0 ≤ z2 ∧ z2 ≤ 2
      · have hn : m_FB_isNoLevel (iI z2) = some 0 := by rw [s_noLevel z2 hz2, if_pos g2]
        have hi : m_Mo_in ((iI z2).toInt64) 0 2 = some 1 := by rw [iI_j hz2, show (0 : Int64) = jI 0 from rfl, show (2 : Int64) = jI 2 from rfl, s_in (by omega) (by omega) (by omega), if_pos g2]
        obtain ⟨lvl, rfl⟩ : ∃ lvl : Nat, z2 = lvl := ⟨z2.toNat, by omega⟩
        rw [hn, hi]
        simp only [Option.bind_some, if_pos, s_start hsk, if_neg (show ¬ (1 : Int32) = 0 by decide)]
        rcases g1 with rfl | rfl
        · rw [if_pos (show iI 1 = (1 : Int32) from rfl), if_pos (show iI 1 = (1 : Int32) from rfl), if_pos (show iI 1 = (1 : Int32) from rfl)]
          refine ok2_r (t_layOut b6 (by omega) (by omega) (by omega) (by omega)) ?_
          rintro ⟨l1, l2⟩ hl
          dsimp only at hl ⊢
          refine ok2_bind (wr_1 (pre := out) (lvl := lvl) b1 b2 b3 b4 hs hB (by omega) (by omega) hs01 (by omega) o4 (BR.nil _ _) hl _ _ _ _ _ _ _ _ _ _ _ _ _ _ _ _ _ _ _ _ _ _ _ _ _ _ _ _ _ _ _ _ _ _ _ _ _ _ _ _ _ _ _ _ _) ?_
          rintro ⟨q0, q1, q2, q3, q4, q5, q6, q7, q8, q9, q10, q11, q12, q13, q14, q15, q16, q17, q18, q19, q20, q21, q22, q23, q24, q25, q26, q27, q28, q29, q30, q31⟩ ⟨r0, r1, r2, r3, r4, r5, r6, r7, r8, r9, r10, r11, r12, r13, r14, r15, r16, r17, r18, r19⟩ ⟨o, fl, k, k1, k2, k3, k4, k5, k6⟩
          dsimp only at k3 k4 k5 k6 ⊢
          have hlo : (out ++ o).length = out.length + o.length := List.length_append
          unfold m_FB_more_J64 m_Mo_more_J49 m_FB_exchangeBlocks m_Bytes_size m_Bytes_room
          have k31 := k3.1
          have k41 := k4.1
          rw [hlo] at k41
          simp only [Option.bind_some]
          rw [iI_nI, iI_sub, show (12000 : Int32) = iI 12000 from rfl, k31, k41]
          by_cases cf : out.length + o.length ≤ 12000
          · rw [if_leT (by omega) (by omega) (by omega), if_ltF (by omega) (by omega) (by omega), if_neg (show ¬ (1 : Int32) = 0 by decide), ← k31, ← k41]
            have hadd := s_addRange b5 k3 (by omega) (by omega) (p := 0) (n := o.length) (by omega) (by omega)
            rw [show iI ((0 : Nat) : Int) = (0 : Int32) from rfl, List.drop_zero, List.take_length, ← k31] at hadd
            refine ok2_l hadd ?_
            rintro ⟨a1, a2⟩ ha
            dsimp only at ha ⊢
            rw [s_keep0 _ (by omega), Option.bind_some]
            refine ok2_r (t_keep k6 (by omega)) ?_
            rintro ⟨w1, w2⟩ hw
            dsimp only at hw ⊢
            refine ok2_r (t_give k4 (by omega) (by omega) (by omega) (by omega)) ?_
            rintro ⟨w3, w4, w5⟩ ⟨v1, v2, v3⟩
            dsimp only at v1 v2 v3 ⊢
            subst v1 v2
            exact ok2_some ⟨by rw [ha.1, k4.1], Or.inr ⟨rfl, rfl, [], dic, out ++ o, BR.nil _ _, MR.nil _, b3, b4, ha, v3, b7, ⟨o.length, by omega, k31⟩, BLK.of k5 hw k1, b10, rfl, rfl⟩⟩
          · rw [if_leF (by omega) (by omega) (by omega), if_ltT (by omega) (by omega) (by omega)]
            exact ok2_some ⟨rfl, Or.inl ⟨rfl, rfl, inp, dic, out, b1, b2, b3, b4, b5, b6, b7, ⟨o.length, by omega, rfl⟩, b9, b10, rfl, rfl⟩⟩
        · rw [if_neg (show ¬ iI 3 = (1 : Int32) by decide), if_pos (show iI 3 = (3 : Int32) from rfl), if_neg (show ¬ iI 3 = (1 : Int32) by decide), if_neg (show ¬ iI 3 = (1 : Int32) by decide), if_pos (show iI 3 = (3 : Int32) from rfl)]
          refine ok2_r (t_layOut b6 (by omega) (by omega) (by omega) (by omega)) ?_
          rintro ⟨l1, l2⟩ hl
          dsimp only at hl ⊢
          refine ok2_bind (wr_3 (pre := out) (lvl := lvl) b1 b2 hs hB (by omega) (by omega) (by omega) o4 (BR.nil _ _) hl _ _ _ _ _ _ _ _ _ _ _ _ _ _ _ _ _ _ _ _ _ _ _ _ _ _ _ _ _ _ _ _ _ _ _ _ _ _ _ _ _ _ _ _ _) ?_
          rintro ⟨q0, q1, q2, q3, q4, q5, q6, q7, q8, q9, q10, q11, q12, q13, q14, q15, q16, q17, q18, q19, q20, q21, q22, q23, q24, q25, q26, q27, q28, q29, q30, q31⟩ ⟨r0, r1, r2, r3, r4, r5, r6, r7, r8, r9, r10, r11, r12, r13, r14, r15, r16, r17, r18, r19⟩ ⟨o, fl, k, k1, k2, k3, k4, k5, k6⟩
          dsimp only at k3 k4 k5 k6 ⊢
          have hlo : (out ++ o).length = out.length + o.length := List.length_append
          unfold m_FB_more_J64 m_Mo_more_J49 m_FB_exchangeBlocks m_Bytes_size m_Bytes_room
          have k31 := k3.1
          have k41 := k4.1
          rw [hlo] at k41
          simp only [Option.bind_some]
          rw [iI_nI, iI_sub, show (12000 : Int32) = iI 12000 from rfl, k31, k41]
          by_cases cf : out.length + o.length ≤ 12000
          · rw [if_leT (by omega) (by omega) (by omega), if_ltF (by omega) (by omega) (by omega), if_neg (show ¬ (1 : Int32) = 0 by decide), ← k31, ← k41]
            have hadd := s_addRange b5 k3 (by omega) (by omega) (p := 0) (n := o.length) (by omega) (by omega)
            rw [show iI ((0 : Nat) : Int) = (0 : Int32) from rfl, List.drop_zero, List.take_length, ← k31] at hadd
            refine ok2_l hadd ?_
            rintro ⟨a1, a2⟩ ha
            dsimp only at ha ⊢
            rw [s_keep0 _ (by omega), Option.bind_some]
            refine ok2_r (t_keep k6 (by omega)) ?_
            rintro ⟨w1, w2⟩ hw
            dsimp only at hw ⊢
            refine ok2_r (t_give k4 (by omega) (by omega) (by omega) (by omega)) ?_
            rintro ⟨w3, w4, w5⟩ ⟨v1, v2, v3⟩
            dsimp only at v1 v2 v3 ⊢
            subst v1 v2
            exact ok2_some ⟨by rw [ha.1, k4.1], Or.inr ⟨rfl, rfl, [], dic, out ++ o, BR.nil _ _, MR.nil _, b3, b4, ha, v3, b7, ⟨o.length, by omega, k31⟩, BLK.of k5 hw k1, b10, rfl, rfl⟩⟩
          · rw [if_leF (by omega) (by omega) (by omega), if_ltT (by omega) (by omega) (by omega)]
            exact ok2_some ⟨rfl, Or.inl ⟨rfl, rfl, inp, dic, out, b1, b2, b3, b4, b5, b6, b7, ⟨o.length, by omega, rfl⟩, b9, b10, rfl, rfl⟩⟩
      · have hn : m_FB_isNoLevel (iI z2) = some 1 := by rw [s_noLevel z2 hz2, if_neg g2]
        have hi : m_Mo_in ((iI z2).toInt64) 0 2 = some 0 := by rw [iI_j hz2, show (0 : Int64) = jI 0 from rfl, show (2 : Int64) = jI 2 from rfl, s_in (by omega) (by omega) (by omega), if_neg g2]
        rw [hn, hi, Option.bind_some, if_neg (show ¬ (1 : Int32) = 0 by decide), Option.bind_some, if_pos rfl]
        rcases g1 with rfl | rfl
        · rw [if_pos (show iI 1 = (1 : Int32) from rfl), if_pos (show iI 1 = (1 : Int32) from rfl)]
          exact ok2_some ⟨rfl, Or.inl ⟨rfl, rfl, h⟩⟩
        · rw [if_neg (show ¬ iI 3 = (1 : Int32) by decide), if_pos (show iI 3 = (3 : Int32) from rfl), if_neg (show ¬ iI 3 = (1 : Int32) by decide), if_pos (show iI 3 = (3 : Int32) from rfl)]
          exact ok2_some ⟨rfl, Or.inl ⟨rfl, rfl, h⟩⟩
    · have q1 : ¬ iI z1 = (1 : Int32) := by rw [lit_1, iI_eq hz1 (by omega)]; omega
      have q3 : ¬ iI z1 = (3 : Int32) := by rw [lit_3, iI_eq hz1 (by omega)]; omega
      rw [if_neg q1, if_neg q3, if_neg q1, if_neg q3]
      exact ok2_some ⟨rfl, Or.inl ⟨rfl, rfl, h⟩⟩
  obtain ⟨x, y, hx, hy, e, hd⟩ := main
  obtain ⟨x0, x1, x2, x3, x4, x5, x6, x7, x8, x9, x10, x11, x12, x13, x14, x15, x16, x17, x18, x19, x20, x21, x22, x23, x24, x25, x26, x27, x28, x29, x30, x31, x32, x33, x34, x35, x36, x37, x38, x39, x40, x41⟩ := x
  obtain ⟨y0, y1, y2, y3, y4, y5, y6, y7, y8, y9, y10, y11, y12, y13, y14, y15, y16, y17, y18, y19, y20, y21, y22, y23, y24, y25⟩ := y
  dsimp only at e hd
  subst e
  exact ⟨x0, x1, x2, x3, x4, x5, x6, x7, x8, x9, x10, x11, x12, x13, x14, x15, x16, x17, x18, x19, x20, x21, x22, x23, x24, x25, x26, x27, x28, x29, x30, x31, x32, x33, x34, x35, x36, x37, x38, x39, x40, x41, y1, y2, y3, y4, y5, y6, y7, y8, y9, y10, y11, y12, y13, y14, y15, y16, y17, y18, y19, y20, y21, y22, y23, y24, y25, hx, hy, hd⟩
