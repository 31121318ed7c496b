/-! open -/
theorem ok2_l' {α β γ : Type} {m : Option α} {k : α → Option γ} {m' : Option β} {Q : α → β → Prop} {P : γ → β → Prop} (h : ok2 m m' Q) (hk : ∀ a b, Q a b → ok2 (k a) (some b) P) : ok2 (m.bind k) m' P := by
  obtain ⟨a, b, e1, e2, h⟩ := h
  rw [e1, e2]
  exact hk a b h
theorem s_ostart {k : Int} (hk : 0 ≤ k ∧ k ≤ 12000) (c : Int32) : m_Opener_start (iI k) c = some (0, 0, c, 0, 0) := by
  have := s_keep (k := 0) (n := k) (by omega) (by omega)
  rw [show min (0 : Int) k = 0 by omega] at this
  unfold m_Opener_start m_Blocks_clear m_Bytes_size
  have e : m_Bytes_keep 0 (iI k) = some 0 := this
  rw [e]
  rfl
theorem BR.spr {tc : Int32} {tf : Nat → Int32} {o : List Int} (h : BR 12000 tc tf o) : SPR tc := ⟨o.length, ⟨by omega, by have := h.2.1; omega⟩, h.1⟩
theorem BADR.rul {b ba r pl : Int32} (h : BADR b ba r pl) : RUL b ba r pl := ⟨h.1, fun q => absurd q h.2.2, fun _ => h.2.1⟩
theorem ow_seq {inp dic : List Int} {iF wF mif mdf tf ff bf : Nat → Int32} {b0 ba0 r0 pl0 : Int32} (b1 : BR 4000 (iI inp.length) iF inp) (b2 : MR (iI inp.length) mif inp) (b3 : BR 1000 (iI dic.length) wF dic) (b4 : MR (iI dic.length) mdf dic) : ok2 (m_Opener_openWholeSequences b0 ba0 0 (iI inp.length) (iI inp.length) 0 (iI dic.length) 4000 iF 12000 tf 1000 wF 0 7000 bf) (m_Mo_readSequences (iI inp.length) 0 (iI dic.length) 0 r0 pl0 0 4000 mif 28000 ff 1000 mdf) (fun x y => (x.1 = 1 ∧ y.1 = 1 ∧ (∃ o : List Int, BR 12000 x.2.2.2.2.2.2.2.2.1 x.2.2.2.2.2.2.2.2.2.1 o ∧ MR y.2.1 y.2.2.2.2.2.2.2.2 o) ∧ FC 1 x.2.2.2.2.2.2.2.2.2.2.1 x.2.2.2.2.2.2.2.2.2.2.2 [0, iI inp.length, y.2.1, 0, y.2.2.1, y.2.2.2.1, y.2.2.2.2.1] ∧ x.2.1 = b0 ∧ y.2.2.2.2.2.1 = r0 ∧ y.2.2.2.2.2.2.1 = pl0) ∨ (x.1 = 0 ∧ y.1 = 0 ∧ BADR x.2.1 x.2.2.1 y.2.2.2.2.2.1 y.2.2.2.2.2.2.1 ∧ ∃ o : List Int, BR 12000 x.2.2.2.2.2.2.2.2.1 x.2.2.2.2.2.2.2.2.2.1 o)) := by
  unfold m_Opener_openWholeSequences
  refine ok2_l' (op_seq b1 b2 b3 b4 (BR.nil _ tf) (MR.nil ff) (p0 := 0) (e := inp.length) (lo := 0) (by omega) (by omega) (by omega)) ?_
  rintro ⟨x0, x1, x2, x3, x4, x5, x6, x7, x8, x9⟩ ⟨y0, y1, y2, y3, y4, y5, y6, y7, y8⟩ hR
  rcases hR with ⟨e0, f0, o', g1, g2, g3, g4, g5, g6, g7, g8, g9, g10, g11, g12, g13⟩ | ⟨e0, f0, hb, o', g1⟩
  · dsimp only at e0 f0 g1 g2 g4 g5 g6 g7 g8 g9 g10 g11 g12 g13 ⊢
    subst e0 f0 g4 g5 g6 g7 g8 g9 g10 g11 g12 g13
    rw [if_neg (show ¬ (1 : Int32) = 0 by decide)]
    refine ok2_l (s_addPB (FC.nil bf) (by omega) _ _ _ _ _ _ _) ?_
    rintro ⟨u1, u2⟩ hu
    dsimp only at hu ⊢
    rw [show iI (inp.length : Int) - 0 = iI inp.length by rw [lit_0, iI_sub, Int.sub_zero], show x8 - 0 = y1 by rw [g1.1, g2.1, lit_0, iI_sub, Int.sub_zero]] at hu
    exact ok2_some (Or.inl ⟨rfl, rfl, ⟨o', g1, g2⟩, hu, rfl, rfl, rfl⟩)
  · dsimp only at e0 f0 hb g1 ⊢
    subst e0 f0
    rw [if_pos rfl]
    exact ok2_some (Or.inr ⟨rfl, rfl, hb, o', g1⟩)
theorem ow_el {inp : List Int} {iF mif tf ff bf : Nat → Int32} {b0 ba0 r0 pl0 : Int32} (b1 : BR 4000 (iI inp.length) iF inp) (b2 : MR (iI inp.length) mif inp) : ok2 (m_Opener_openWholeElements b0 ba0 0 (iI inp.length) (iI inp.length) 0 4000 iF 12000 tf 0 7000 bf) (m_Mo_readElements (iI inp.length) 0 r0 pl0 0 4000 mif 28000 ff) (fun x y => (x.1 = 1 ∧ y.1 = 1 ∧ (∃ o : List Int, BR 12000 x.2.2.2.2.2.2.2.2.1 x.2.2.2.2.2.2.2.2.2.1 o ∧ MR y.2.1 y.2.2.2.2.2.2.2.2 o) ∧ FC 1 x.2.2.2.2.2.2.2.2.2.2.1 x.2.2.2.2.2.2.2.2.2.2.2 [0, iI inp.length, y.2.1, 0, y.2.2.1, y.2.2.2.1, y.2.2.2.2.1] ∧ x.2.1 = b0 ∧ y.2.2.2.2.2.1 = r0 ∧ y.2.2.2.2.2.2.1 = pl0) ∨ (x.1 = 0 ∧ y.1 = 0 ∧ BADR x.2.1 x.2.2.1 y.2.2.2.2.2.1 y.2.2.2.2.2.2.1 ∧ ∃ o : List Int, BR 12000 x.2.2.2.2.2.2.2.2.1 x.2.2.2.2.2.2.2.2.2.1 o)) := by
  unfold m_Opener_openWholeElements
  refine ok2_l' (op_el b1 b2 (BR.nil _ tf) (MR.nil ff) (p0 := 0) (e := inp.length) (by omega) (by omega)) ?_
  rintro ⟨x0, x1, x2, x3, x4, x5, x6, x7, x8, x9⟩ ⟨y0, y1, y2, y3, y4, y5, y6, y7, y8⟩ hR
  rcases hR with ⟨e0, f0, o', g1, g2, g3, g4, g5, g6, g7, g8, g9, g10, g11, g12, g13⟩ | ⟨e0, f0, hb, o', g1⟩
  · dsimp only at e0 f0 g1 g2 g4 g5 g6 g7 g8 g9 g10 g11 g12 g13 ⊢
    subst e0 f0 g4 g5 g6 g7 g8 g9 g10 g11 g12 g13
    rw [if_neg (show ¬ (1 : Int32) = 0 by decide)]
    refine ok2_l (s_addPB (FC.nil bf) (by omega) _ _ _ _ _ _ _) ?_
    rintro ⟨u1, u2⟩ hu
    dsimp only at hu ⊢
    rw [show iI (inp.length : Int) - 0 = iI inp.length by rw [lit_0, iI_sub, Int.sub_zero], show x8 - 0 = y1 by rw [g1.1, g2.1, lit_0, iI_sub, Int.sub_zero]] at hu
    exact ok2_some (Or.inl ⟨rfl, rfl, ⟨o', g1, g2⟩, hu, rfl, rfl, rfl⟩)
  · dsimp only at e0 f0 hb g1 ⊢
    subst e0 f0
    rw [if_pos rfl]
    exact ok2_some (Or.inr ⟨rfl, rfl, hb, o', g1⟩)
theorem p_9 : P_9 RV0 := by
  intro a1 h0_output h0_spareOutput h0_blocks h0_spareBlocks h0_input_count h0_words_count h0_settings_f w_h0_opener_to w_h0_opener_blocks h0_opener_broken h0_opener_brokenAt h0_opener_at h0_opener_end h0_opener_begin h0_opener_copies h0_opener_literals h0_opener_parts h0_opener_frameBegin h0_opener_flags h0_opener_width h0_opener_size h0_output_count h0_spareOutput_count h0_blocks_count h0_spareBlocks_count h0_input_held_f h0_words_held_f h0_output_held_f h0_spareOutput_held_f h0_blocks_facts_f h0_spareBlocks_facts_f h0_packer_bestRow_copies_lastOfEquals h0_packer_bestRow_rests_lastOfEquals g0_inSize g0_outSize g0_dictSize g0_freshSize g0_copiesOf g0_literalsOf g0_partsOf g0_blockMany g0_newMany g0_rule g0_place g0_at g0_in_f g0_out_f g0_dict_f g0_told_f g0_fresh_f g0_blocks_f g0_newBlocks_f h
  obtain ⟨inp, dic, out, b1, b2, b3, b4, b5, b6, b7, b8, b9, b10, c11, c12⟩ := id h
  have main : ok2 (m_FB_open a1 h0_output h0_spareOutput h0_blocks h0_spareBlocks (w_h0_opener_to) (w_h0_opener_blocks) h0_opener_broken h0_opener_brokenAt h0_opener_at h0_opener_end h0_opener_begin h0_opener_copies h0_opener_literals h0_opener_parts h0_opener_frameBegin h0_opener_flags h0_opener_width h0_opener_size h0_spareOutput_count h0_spareBlocks_count h0_input_count 4000 h0_input_held_f 7000 h0_spareBlocks_facts_f 12000 h0_spareOutput_held_f h0_words_count 6 h0_settings_f 1000 h0_words_held_f) (m_Mo_open a1 g0_inSize g0_outSize g0_dictSize g0_freshSize g0_copiesOf g0_literalsOf g0_partsOf g0_blockMany g0_newMany g0_rule g0_place g0_at 4000 g0_in_f 6 g0_told_f 28000 g0_fresh_f 28070 g0_newBlocks_f 1000 g0_dict_f 28070 g0_blocks_f 12000 g0_out_f) (fun x y => x.1 = y.1 ∧ ((((x.2.1) = Value.ref h0_output ∧ (x.2.2.1) = Value.ref h0_spareOutput ∧ (x.2.2.2.1) = Value.ref h0_blocks ∧ (x.2.2.2.2.1) = Value.ref h0_spareBlocks ∧ RV0 (x.2.2.2.2.2.2.2.2.2.2.2.2.2.2.2.2.2.2.2.2.2.1) h0_input_held_f h0_words_count h0_words_held_f h0_settings_f h0_output_count h0_output_held_f (x.2.2.2.2.2.2.2.2.2.2.2.2.2.2.2.2.2.2.2.1) h0_blocks_count h0_blocks_facts_f (x.2.2.2.2.2.2.2.1) (x.2.2.2.2.2.2.2.2.1) h0_packer_bestRow_copies_lastOfEquals h0_packer_bestRow_rests_lastOfEquals (y.2.1) g0_in_f (y.2.2.1) (y.2.2.2.2.2.2.2.2.2.2.2.2.2.2.2) g0_dictSize g0_dict_f g0_told_f (y.2.2.2.2.2.2.2.1) (y.2.2.2.2.2.2.2.2.2.2.2.2.2.2.1) (y.2.2.2.2.2.2.2.2.2.1) (y.2.2.2.2.2.2.2.2.2.2.1)) ∨ ((x.2.1) = Value.ref h0_spareOutput ∧ (x.2.2.1) = Value.ref h0_output ∧ (x.2.2.2.1) = Value.ref h0_spareBlocks ∧ (x.2.2.2.2.1) = Value.ref h0_blocks ∧ RV0 (x.2.2.2.2.2.2.2.2.2.2.2.2.2.2.2.2.2.2.2.2.2.1) h0_input_held_f h0_words_count h0_words_held_f h0_settings_f (x.2.2.2.2.2.2.2.2.2.2.2.2.2.2.2.2.2.2.2.1) (x.2.2.2.2.2.2.2.2.2.2.2.2.2.2.2.2.2.2.2.2.2.2.2) h0_output_count (x.2.2.2.2.2.2.2.2.2.2.2.2.2.2.2.2.2.2.2.2.1) (x.2.2.2.2.2.2.2.2.2.2.2.2.2.2.2.2.2.2.2.2.2.2.1) (x.2.2.2.2.2.2.2.1) (x.2.2.2.2.2.2.2.2.1) h0_packer_bestRow_copies_lastOfEquals h0_packer_bestRow_rests_lastOfEquals (y.2.1) g0_in_f (y.2.2.1) (y.2.2.2.2.2.2.2.2.2.2.2.2.2.2.2) g0_dictSize g0_dict_f g0_told_f (y.2.2.2.2.2.2.2.1) (y.2.2.2.2.2.2.2.2.2.2.2.2.2.2.1) (y.2.2.2.2.2.2.2.2.2.1) (y.2.2.2.2.2.2.2.2.2.2.1))))) := by
    subst c11 c12
    have e1 := b1.1
    have e2 := b2.1
    have e3 := b3.1
    have e4 := b4.1
    subst e1 e2 e3 e4
    have i4 := b1.2.1
    have d4 := b3.2.1
    have o4 := b5.2.1
    obtain ⟨z1, hz1, rfl⟩ := iI_ex a1
    obtain ⟨sk, hsk, rfl⟩ := b8
    obtain ⟨hs, ⟨B, hB1, hB2, hB⟩, hs01⟩ := id b7
    unfold m_FB_open m_Mo_open
    rw [iI_j hz1, show (0 : Int64) = jI 0 from rfl, show (3 : Int64) = jI 3 from rfl, s_in (by omega) (by omega) (by omega), Option.bind_some, s_ostart hsk]
    by_cases g1 : 0 ≤ z1 ∧ z1 ≤ 3
    · rw [if_pos g1, if_neg (show ¬ (1 : Int32) = 0 by decide), if_lt0F hz1 (by omega), if_pos (show iI z1 ≤ (3 : Int32) by rw [lit_3, iI_le hz1 (by omega)]; omega), Option.bind_some]
      dsimp only
      rcases (show z1 = 0 ∨ z1 = 1 ∨ z1 = 2 ∨ z1 = 3 by omega) with rfl | rfl | rfl | rfl
      · rw [if_pos (show iI 0 = (0 : Int32) from rfl), if_neg (show ¬ iI 0 = (1 : Int32) by decide), if_neg (show ¬ iI 0 = (3 : Int32) by decide), if_pos (show iI 0 = (0 : Int32) from rfl)]
        refine ok2_bind (ow_seq b1 b2 b3 b4) ?_
        rintro ⟨q0, q1, q2, q3, q4, q5, q6, q7, q8, q9, q10, q11⟩ ⟨y0, y1, y2, y3, y4, y5, y6, y7, y8⟩ hR
        unfold m_FB_open_J93 m_Mo_open_J90 m_Opener_brokenRule m_FB_exchangeOutputs m_FB_exchangeBlocks m_Bytes_size
        rcases hR with ⟨d0, d1, ⟨g, g1, g2⟩, hu, d4, d5, d6⟩ | ⟨d0, d1, hb, g, g1⟩
        · dsimp only at d0 d1 g1 g2 hu d4 d5 d6 ⊢
          subst d0 d1 d4 d5 d6
          have gl := g1.2.1
          rw [s_keep0 _ (by omega), Option.bind_some, if_neg (show ¬ (1 : Int32) = 0 by decide), Option.bind_some, Option.bind_some, Option.bind_some]
          refine ok2_r (t_note0 (FC.nil _) (by omega) _ _ _ _ _ _) ?_
          rintro ⟨v1', v2'⟩ hv
          dsimp only at hv ⊢
          rw [List.nil_append] at hv
          unfold m_Mo_open_J105
          rw [if_neg (show ¬ (1 : Int32) = 0 by decide)]
          refine ok2_r (t_keep hv (by omega)) ?_
          rintro ⟨w1, w2⟩ hw
          dsimp only at hw ⊢
          refine ok2_r (t_give g2 (by omega) (by omega) (by omega) (by omega)) ?_
          rintro ⟨w3, w4, w5⟩ ⟨v1, v2, v3⟩
          dsimp only at v1 v2 v3 ⊢
          subst v1 v2
          exact ok2_some ⟨by rw [g1.1, g2.1], Or.inr ⟨rfl, rfl, rfl, rfl, [], dic, g, BR.nil _ _, MR.nil _, b3, b4, g1, v3, b7, ⟨out.length, by omega, b5.1⟩, BLK.of hu hw (by omega), ⟨rfl, fun _ => rfl, fun q => absurd rfl q⟩, rfl, rfl⟩⟩
        · dsimp only at d0 d1 hb g1 ⊢
          subst d0 d1
          rw [s_keep0 _ (by omega), Option.bind_some, if_pos rfl, Option.bind_some]
          refine ok2_r (t_note0 (FC.nil _) (by omega) _ _ _ _ _ _) ?_
          rintro ⟨v1', v2'⟩ hv
          dsimp only at hv ⊢
          unfold m_Mo_open_J105
          rw [if_pos rfl]
          exact ok2_some ⟨by rw [hb.1], Or.inl ⟨rfl, rfl, rfl, rfl, [], dic, out, BR.nil _ _, MR.nil _, b3, b4, b5, b6, b7, g1.spr, b9, hb.rul, rfl, rfl⟩⟩
      · rw [if_neg (show ¬ iI 1 = (0 : Int32) by decide), if_pos (show iI 1 = (1 : Int32) from rfl), if_pos (show iI 1 = (1 : Int32) from rfl)]
        refine ok2_bind (op_frames b1 b2 b3 b4 (hs 5 (by omega)) _ _ _ _ _ _ _ _ _ _ _) ?_
        rintro ⟨q0, q1, q2, q3, q4, q5, q6, q7, q8, q9, q10, q11, q12, q13, q14, q15, q16⟩ ⟨r0, r1, r2, r3, r4, r5, r6, r7, r8, r9, r10⟩ hR
        unfold m_FB_open_J93 m_Mo_open_J105 m_Opener_brokenRule m_FB_exchangeOutputs m_FB_exchangeBlocks m_Bytes_size
        rcases hR with ⟨d0, d1, g, fl, k, p, g1, g2, d4, hu, hv, d7, d8, d9, d10, d11, d12, d13, d14, d15, d16⟩ | ⟨d0, d1, hb, g, g1⟩
        · dsimp only at d0 d1 g1 g2 hu hv d8 d9 d12 d13 d14 d15 d16 ⊢
          subst d0 d1 d13 d15 d16
          have gl := g1.2.1
          rw [s_keep0 _ (by omega), Option.bind_some, if_neg (show ¬ (1 : Int32) = 0 by decide), if_neg (show ¬ (1 : Int32) = 0 by decide), Option.bind_some, Option.bind_some, Option.bind_some]
          refine ok2_r (t_keep hv (by omega)) ?_
          rintro ⟨w1, w2⟩ hw
          dsimp only at hw ⊢
          refine ok2_r (t_give g2 (by omega) (by omega) (by omega) (by omega)) ?_
          rintro ⟨w3, w4, w5⟩ ⟨v1, v2, v3⟩
          dsimp only at v1 v2 v3 ⊢
          subst v1 v2
          exact ok2_some ⟨by rw [g1.1, g2.1], Or.inr ⟨rfl, rfl, rfl, rfl, [], dic, g, BR.nil _ _, MR.nil _, b3, b4, g1, v3, b7, ⟨out.length, by omega, b5.1⟩, BLK.of hu hw (by omega), ⟨rfl, fun _ => rfl, fun q => absurd rfl q⟩, rfl, rfl⟩⟩
        · dsimp only at d0 d1 hb g1 ⊢
          subst d0 d1
          rw [s_keep0 _ (by omega), Option.bind_some, if_pos rfl, if_pos rfl, Option.bind_some]
          exact ok2_some ⟨by rw [hb.1], Or.inl ⟨rfl, rfl, rfl, rfl, [], dic, out, BR.nil _ _, MR.nil _, b3, b4, b5, b6, b7, g1.spr, b9, hb.rul, rfl, rfl⟩⟩
      · rw [if_neg (show ¬ iI 2 = (0 : Int32) by decide), if_neg (show ¬ iI 2 = (1 : Int32) by decide), if_pos (show iI 2 = (2 : Int32) from rfl), if_neg (show ¬ iI 2 = (1 : Int32) by decide), if_neg (show ¬ iI 2 = (3 : Int32) by decide), if_neg (show ¬ iI 2 = (0 : Int32) by decide)]
        refine ok2_bind (ow_el b1 b2) ?_
        rintro ⟨q0, q1, q2, q3, q4, q5, q6, q7, q8, q9, q10, q11⟩ ⟨y0, y1, y2, y3, y4, y5, y6, y7, y8⟩ hR
        unfold m_FB_open_J93 m_Mo_open_J90 m_Opener_brokenRule m_FB_exchangeOutputs m_FB_exchangeBlocks m_Bytes_size
        rcases hR with ⟨d0, d1, ⟨g, g1, g2⟩, hu, d4, d5, d6⟩ | ⟨d0, d1, hb, g, g1⟩
        · dsimp only at d0 d1 g1 g2 hu d4 d5 d6 ⊢
          subst d0 d1 d4 d5 d6
          have gl := g1.2.1
          rw [s_keep0 _ (by omega), Option.bind_some, if_neg (show ¬ (1 : Int32) = 0 by decide), Option.bind_some, Option.bind_some, Option.bind_some]
          refine ok2_r (t_note0 (FC.nil _) (by omega) _ _ _ _ _ _) ?_
          rintro ⟨v1', v2'⟩ hv
          dsimp only at hv ⊢
          rw [List.nil_append] at hv
          unfold m_Mo_open_J105
          rw [if_neg (show ¬ (1 : Int32) = 0 by decide)]
          refine ok2_r (t_keep hv (by omega)) ?_
          rintro ⟨w1, w2⟩ hw
          dsimp only at hw ⊢
          refine ok2_r (t_give g2 (by omega) (by omega) (by omega) (by omega)) ?_
          rintro ⟨w3, w4, w5⟩ ⟨v1, v2, v3⟩
          dsimp only at v1 v2 v3 ⊢
          subst v1 v2
          exact ok2_some ⟨by rw [g1.1, g2.1], Or.inr ⟨rfl, rfl, rfl, rfl, [], dic, g, BR.nil _ _, MR.nil _, b3, b4, g1, v3, b7, ⟨out.length, by omega, b5.1⟩, BLK.of hu hw (by omega), ⟨rfl, fun _ => rfl, fun q => absurd rfl q⟩, rfl, rfl⟩⟩
        · dsimp only at d0 d1 hb g1 ⊢
          subst d0 d1
          rw [s_keep0 _ (by omega), Option.bind_some, if_pos rfl, Option.bind_some]
          refine ok2_r (t_note0 (FC.nil _) (by omega) _ _ _ _ _ _) ?_
          rintro ⟨v1', v2'⟩ hv
          dsimp only at hv ⊢
          unfold m_Mo_open_J105
          rw [if_pos rfl]
          exact ok2_some ⟨by rw [hb.1], Or.inl ⟨rfl, rfl, rfl, rfl, [], dic, out, BR.nil _ _, MR.nil _, b3, b4, b5, b6, b7, g1.spr, b9, hb.rul, rfl, rfl⟩⟩
      · rw [if_neg (show ¬ iI 3 = (0 : Int32) by decide), if_neg (show ¬ iI 3 = (1 : Int32) by decide), if_neg (show ¬ iI 3 = (2 : Int32) by decide), if_neg (show ¬ iI 3 = (1 : Int32) by decide), if_pos (show iI 3 = (3 : Int32) from rfl)]
        refine ok2_bind (op_chunks b1 b2 _ _ _ _ _ _ _) ?_
        rintro ⟨q0, q1, q2, q3, q4, q5, q6, q7, q8, q9, q10, q11, q12⟩ ⟨r0, r1, r2, r3, r4, r5, r6, r7, r8, r9, r10⟩ hR
        unfold m_FB_open_J93 m_Mo_open_J105 m_Opener_brokenRule m_FB_exchangeOutputs m_FB_exchangeBlocks m_Bytes_size
        rcases hR with ⟨d0, d1, g, fl, k, p, g1, g2, d4, hu, hv, d7, d8, d9, d10, d11, d12, d13, d14, d15, d16⟩ | ⟨d0, d1, hb, g, g1⟩
        · dsimp only at d0 d1 g1 g2 hu hv d8 d9 d12 d13 d14 d15 d16 ⊢
          subst d0 d1 d13 d15 d16
          have gl := g1.2.1
          rw [s_keep0 _ (by omega), Option.bind_some, if_neg (show ¬ (1 : Int32) = 0 by decide), if_neg (show ¬ (1 : Int32) = 0 by decide), Option.bind_some, Option.bind_some, Option.bind_some]
          refine ok2_r (t_keep hv (by omega)) ?_
          rintro ⟨w1, w2⟩ hw
          dsimp only at hw ⊢
          refine ok2_r (t_give g2 (by omega) (by omega) (by omega) (by omega)) ?_
          rintro ⟨w3, w4, w5⟩ ⟨v1, v2, v3⟩
          dsimp only at v1 v2 v3 ⊢
          subst v1 v2
          exact ok2_some ⟨by rw [g1.1, g2.1], Or.inr ⟨rfl, rfl, rfl, rfl, [], dic, g, BR.nil _ _, MR.nil _, b3, b4, g1, v3, b7, ⟨out.length, by omega, b5.1⟩, BLK.of hu hw (by omega), ⟨rfl, fun _ => rfl, fun q => absurd rfl q⟩, rfl, rfl⟩⟩
        · dsimp only at d0 d1 hb g1 ⊢
          subst d0 d1
          rw [s_keep0 _ (by omega), Option.bind_some, if_pos rfl, if_pos rfl, Option.bind_some]
          exact ok2_some ⟨by rw [hb.1], Or.inl ⟨rfl, rfl, rfl, rfl, [], dic, out, BR.nil _ _, MR.nil _, b3, b4, b5, b6, b7, g1.spr, b9, hb.rul, rfl, rfl⟩⟩
    · rw [if_neg g1, if_pos rfl]
      by_cases c1 : z1 < 0
      · rw [if_lt0T hz1 c1]
        exact ok2_some ⟨rfl, Or.inl ⟨rfl, rfl, rfl, rfl, h⟩⟩
      · rw [if_lt0F hz1 c1, if_neg (show ¬ iI z1 ≤ (3 : Int32) by rw [lit_3, iI_le hz1 (by omega)]; omega)]
        exact ok2_some ⟨rfl, Or.inl ⟨rfl, rfl, rfl, rfl, h⟩⟩
  obtain ⟨x, y, hx, hy, e, hd⟩ := main
  obtain ⟨x0, x1, x2, x3, x4, x5, x6, x7, x8, x9, x10, x11, x12, x13, x14, x15, x16, x17, x18, x19, x20, x21, x22, x23⟩ := x
  obtain ⟨y0, y1, y2, y3, y4, y5, y6, y7, y8, y9, y10, y11, y12, y13, y14, y15⟩ := y
  dsimp only at e hd
  subst e
  exact ⟨x0, x1, x2, x3, x4, x5, x6, x7, x8, x9, x10, x11, x12, x13, x14, x15, x16, x17, x18, x19, x20, x21, x22, x23, y1, y2, y3, y4, y5, y6, y7, y8, y9, y10, y11, y12, y13, y14, y15, hx, hy, hd⟩
