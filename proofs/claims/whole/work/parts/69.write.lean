/-! what is written in each form -/
def PW (pre : List Int) (tc : Int32) (tf : Nat → Int32) (bc : Int32) (bf : Nat → Int32) (y : Int32 × Int32 × Int32 × Int32 × Int32 × Int32 × Int32 × Int32 × (Nat → Int32) × (Nat → Int32) × (Nat → Int32) × (Nat → Int32) × (Nat → Int32) × (Nat → Int32) × (Nat → Int32) × (Nat → Int32) × (Nat → Int32) × (Nat → Int32) × (Nat → Int32) × (Nat → Int32)) : Prop := ∃ (o : List Int) (fl : List Int32) (k : Nat), k ≤ 1000 ∧ o.length ≤ 8108 ∧ BR 12000 tc tf o ∧ MR y.1 y.2.2.2.2.2.2.2.2.1 (pre ++ o) ∧ FC k bc bf fl ∧ FC k y.2.2.2.2.2.2.2.1 y.2.2.2.2.2.2.2.2.2.2.2.2.2.2.2.2.2.2.2 fl
theorem wr_1 {dic inp pre : List Int} {B lvl : Nat} {sF mt iF wF mif mdf f bF mf nbF : Nat → Int32} {cnt mc : Int32} (b1 : BR 4000 (iI inp.length) iF inp) (b2 : MR (iI inp.length) mif inp) (b3 : BR 1000 (iI dic.length) wF dic) (b4 : MR (iI dic.length) mdf dic) (hs : ∀ j, j < 6 → sF j = mt j) (hB : sF 0 = iI B) (hB1 : 16 ≤ B) (hB2 : B ≤ 4000) (hs01 : ∀ j, 1 ≤ j → j ≤ 4 → sF j = 0 ∨ sF j = 1) (hlvl : lvl ≤ 2) (hpre : pre.length ≤ 12000) (h : BR 12000 cnt f []) (hm : MR mc mf pre) (h0_sequences : Nat) (w_h0_form : Value) (h0_base : Int32) (h0_count : Int32) (h0_copies : Int32) (h0_literals : Int32) (h0_parts : Int32) (h0_text_count : Int32) (h0_text_foundOffset : Int32) (h0_text_downPlace : Int32) (h0_text_downLimit : Int32) (h0_text_downMost : Int32) (h0_text_downOffset : Int32) (h0_text_latest_f : Nat → Int32) (h0_text_held_f : Nat → Int32) (h0_text_before_f : Nat → Int32) (w_h0_bestRow_form : Value) (h0_bestRow_count : Int32) (h0_bestRow_rests_last : Int32) (h0_bestRow_copies_last : Int32) (h0_copyAt_f : Nat → Int32) (h0_bestRow_lengthOfCopy_f : Nat → Int32) (h0_bestRow_rests_value_f : Nat → Int32) (h0_bestRow_rests_leastOnward_f : Nat → Int32) (h0_bestRow_rests_leastSoFar_f : Nat → Int32) (h0_bestRow_copies_value_f : Nat → Int32) (h0_bestRow_copies_leastOnward_f : Nat → Int32) (h0_bestRow_copies_leastSoFar_f : Nat → Int32) (h0_bestRow_placeOfCopy_f : Nat → Int32) (mtf mmf mof mca mcl mco mwc mbc mfh mbl : Nat → Int32) (mcp mle msz mc1 mc2 mc3 : Int32) : ok2 (m_Packer_packFrame h0_sequences (iI lvl) (iI pre.length) w_h0_form h0_base h0_count h0_copies h0_literals h0_parts cnt 12000 f 6 sF (iI inp.length) h0_text_count h0_text_foundOffset h0_text_downPlace h0_text_downLimit h0_text_downMost h0_text_downOffset (iI dic.length) 256 h0_text_latest_f 1000 wF 5000 h0_text_held_f 5000 h0_text_before_f 4000 iF w_h0_bestRow_form h0_bestRow_count 1 h0_bestRow_rests_last 0 h0_bestRow_copies_last 0 4000 h0_copyAt_f 4001 h0_bestRow_lengthOfCopy_f 4001 h0_bestRow_rests_value_f 4001 h0_bestRow_rests_leastOnward_f 4001 h0_bestRow_rests_leastSoFar_f 4001 h0_bestRow_copies_value_f 4001 h0_bestRow_copies_leastOnward_f 4001 h0_bestRow_copies_leastSoFar_f 4001 h0_bestRow_placeOfCopy_f 7000 bF) (m_Mo_write (iI 1) (iI lvl) (iI inp.length) (iI dic.length) mc mle msz mcp mc1 mc2 mc3 28000 mf 6 mt 1000 mdf 5000 mtf 4000 mif 4000 mmf 260000 mof 4001 mwc 4001 mbc 4001 mfh 4001 mbl 4000 mca 4000 mcl 4000 mco 28070 nbF) (fun x y => PW pre x.2.2.2.2.2.2.1 x.2.2.2.2.2.2.2.1 x.2.2.2.2.2.2.2.2.2.2.2.2.2.2.2.2.2.2.2.2.2.1 x.2.2.2.2.2.2.2.2.2.2.2.2.2.2.2.2.2.2.2.2.2.2.2.2.2.2.2.2.2.2.2 y) := by
  unfold m_Mo_write
  rw [if_pos (show iI 1 = (1 : Int32) from rfl)]
  obtain ⟨x, y, hx, hy, q⟩ := fr_frame b1 b2 b3 b4 hs hB hB1 hB2 hs01 hlvl hpre h hm h0_sequences w_h0_form h0_base h0_count h0_copies h0_literals h0_parts h0_text_count h0_text_foundOffset h0_text_downPlace h0_text_downLimit h0_text_downMost h0_text_downOffset h0_text_latest_f h0_text_held_f h0_text_before_f w_h0_bestRow_form h0_bestRow_count h0_bestRow_rests_last h0_bestRow_copies_last h0_copyAt_f h0_bestRow_lengthOfCopy_f h0_bestRow_rests_value_f h0_bestRow_rests_leastOnward_f h0_bestRow_rests_leastSoFar_f h0_bestRow_copies_value_f h0_bestRow_copies_leastOnward_f h0_bestRow_copies_leastSoFar_f h0_bestRow_placeOfCopy_f mtf mmf mof mca mcl mco mwc mbc mfh mbl mcp mle msz mc1 mc2 mc3
  rw [hx, hy]
  exact ok2_some q
theorem wr_3 {inp pre : List Int} {B lvl : Nat} {sF mt iF mif mdf f bF mf nbF : Nat → Int32} {cnt mc md : Int32} (b1 : BR 4000 (iI inp.length) iF inp) (b2 : MR (iI inp.length) mif inp) (hs : ∀ j, j < 6 → sF j = mt j) (hB : sF 0 = iI B) (hB1 : 16 ≤ B) (hB2 : B ≤ 4000) (hlvl : lvl ≤ 2) (hpre : pre.length ≤ 12000) (h : BR 12000 cnt f []) (hm : MR mc mf pre) (h0_elements : Nat) (w_h0_form : Value) (h0_base : Int32) (h0_count : Int32) (h0_copies : Int32) (h0_literals : Int32) (h0_parts : Int32) (h0_text_count : Int32) (h0_text_foundOffset : Int32) (h0_text_downPlace : Int32) (h0_text_downLimit : Int32) (h0_text_downMost : Int32) (h0_text_downOffset : Int32) (w_h0_bestRow_form : Value) (h0_bestRow_count : Int32) (h0_bestRow_rests_last : Int32) (h0_bestRow_copies_last : Int32) (h0_text_latest_f : Nat → Int32) (h0_text_held_f : Nat → Int32) (h0_text_before_f : Nat → Int32) (h0_copyAt_f : Nat → Int32) (h0_bestRow_lengthOfCopy_f : Nat → Int32) (h0_bestRow_rests_value_f : Nat → Int32) (h0_bestRow_rests_leastOnward_f : Nat → Int32) (h0_bestRow_rests_leastSoFar_f : Nat → Int32) (h0_bestRow_copies_value_f : Nat → Int32) (h0_bestRow_copies_leastOnward_f : Nat → Int32) (h0_bestRow_copies_leastSoFar_f : Nat → Int32) (h0_bestRow_placeOfCopy_f : Nat → Int32) (mtf mmf mof mca mcl mco mwc mbc mfh mbl : Nat → Int32) (mcp mle msz mc1 mc2 mc3 : Int32) : ok2 (m_Packer_packChunks h0_elements (iI lvl) (iI pre.length) w_h0_form h0_base h0_count h0_copies h0_literals h0_parts cnt 12000 f 6 sF (iI inp.length) h0_text_count h0_text_foundOffset h0_text_downPlace h0_text_downLimit h0_text_downMost h0_text_downOffset w_h0_bestRow_form h0_bestRow_count 1 h0_bestRow_rests_last 0 h0_bestRow_copies_last 0 4000 iF 256 h0_text_latest_f 5000 h0_text_held_f 5000 h0_text_before_f 4000 h0_copyAt_f 4001 h0_bestRow_lengthOfCopy_f 4001 h0_bestRow_rests_value_f 4001 h0_bestRow_rests_leastOnward_f 4001 h0_bestRow_rests_leastSoFar_f 4001 h0_bestRow_copies_value_f 4001 h0_bestRow_copies_leastOnward_f 4001 h0_bestRow_copies_leastSoFar_f 4001 h0_bestRow_placeOfCopy_f 7000 bF) (m_Mo_write (iI 3) (iI lvl) (iI inp.length) md mc mle msz mcp mc1 mc2 mc3 28000 mf 6 mt 1000 mdf 5000 mtf 4000 mif 4000 mmf 260000 mof 4001 mwc 4001 mbc 4001 mfh 4001 mbl 4000 mca 4000 mcl 4000 mco 28070 nbF) (fun x y => PW pre x.2.2.2.2.2.2.1 x.2.2.2.2.2.2.2.1 x.2.2.2.2.2.2.2.2.2.2.2.2.2.2.2.2.2.2.1 x.2.2.2.2.2.2.2.2.2.2.2.2.2.2.2.2.2.2.2.2.2.2.2.2.2.2.2.2.2.2.2 y) := by
  unfold m_Mo_write
  rw [if_neg (show ¬ iI 3 = (1 : Int32) by decide), if_pos (show iI 3 = (3 : Int32) from rfl)]
  obtain ⟨x, y, hx, hy, q⟩ := ch_chunks (md := md) (mdf := mdf) b1 b2 hs hB hB1 hB2 hlvl hpre h hm h0_elements w_h0_form h0_base h0_count h0_copies h0_literals h0_parts h0_text_count h0_text_foundOffset h0_text_downPlace h0_text_downLimit h0_text_downMost h0_text_downOffset w_h0_bestRow_form h0_bestRow_count h0_bestRow_rests_last h0_bestRow_copies_last h0_text_latest_f h0_text_held_f h0_text_before_f h0_copyAt_f h0_bestRow_lengthOfCopy_f h0_bestRow_rests_value_f h0_bestRow_rests_leastOnward_f h0_bestRow_rests_leastSoFar_f h0_bestRow_copies_value_f h0_bestRow_copies_leastOnward_f h0_bestRow_copies_leastSoFar_f h0_bestRow_placeOfCopy_f mtf mmf mof mca mcl mco mwc mbc mfh mbl mcp mle msz mc1 mc2 mc3
  rw [hx, hy]
  exact ok2_some q
theorem wr_0 {dic inp : List Int} {lvl : Nat} {mt iF wF mif mdf f bF mf nbF : Nat → Int32} {cnt mc : Int32} (b1 : BR 4000 (iI inp.length) iF inp) (b2 : MR (iI inp.length) mif inp) (b3 : BR 1000 (iI dic.length) wF dic) (b4 : MR (iI dic.length) mdf dic) (hlvl : lvl ≤ 2) (h : BR 12000 cnt f []) (hm : MR mc mf []) (h0_sequences : Nat) (h0_text_foundOffset : Int32) (h0_text_downLimit : Int32) (h0_text_downMost : Int32) (h0_text_downOffset : Int32) (h0_text_latest_f : Nat → Int32) (h0_text_held_f : Nat → Int32) (h0_text_before_f : Nat → Int32) (w_h0_bestRow_form : Value) (h0_bestRow_count : Int32) (h0_bestRow_rests_last : Int32) (h0_bestRow_copies_last : Int32) (h0_copyAt_f : Nat → Int32) (h0_bestRow_lengthOfCopy_f : Nat → Int32) (h0_bestRow_rests_value_f : Nat → Int32) (h0_bestRow_rests_leastOnward_f : Nat → Int32) (h0_bestRow_rests_leastSoFar_f : Nat → Int32) (h0_bestRow_copies_value_f : Nat → Int32) (h0_bestRow_copies_leastOnward_f : Nat → Int32) (h0_bestRow_copies_leastSoFar_f : Nat → Int32) (h0_bestRow_placeOfCopy_f : Nat → Int32) (mtf mmf mof mca mcl mco mwc mbc mfh mbl : Nat → Int32) (mcp mle msz mc1 mc2 mc3 : Int32) : ok2 (m_Packer_packSequences h0_sequences (iI lvl) (iI 0) (iI inp.length) h0_text_foundOffset h0_text_downLimit h0_text_downMost h0_text_downOffset (iI dic.length) 256 h0_text_latest_f 1000 wF 5000 h0_text_held_f 5000 h0_text_before_f 4000 iF w_h0_bestRow_form h0_bestRow_count 1 h0_bestRow_rests_last 0 h0_bestRow_copies_last cnt 4000 h0_copyAt_f 4001 h0_bestRow_lengthOfCopy_f 4001 h0_bestRow_rests_value_f 4001 h0_bestRow_rests_leastOnward_f 4001 h0_bestRow_rests_leastSoFar_f 4001 h0_bestRow_copies_value_f 4001 h0_bestRow_copies_leastOnward_f 4001 h0_bestRow_copies_leastSoFar_f 4001 h0_bestRow_placeOfCopy_f 12000 f 0 7000 bF) (m_Mo_write (iI 0) (iI lvl) (iI inp.length) (iI dic.length) mc mle msz mcp mc1 mc2 mc3 28000 mf 6 mt 1000 mdf 5000 mtf 4000 mif 4000 mmf 260000 mof 4001 mwc 4001 mbc 4001 mfh 4001 mbl 4000 mca 4000 mcl 4000 mco 28070 nbF) (fun x y => PW [] x.2.2.2.2.2.2.2.2.2.2.2.2.2.2.2.2.2.2.1 x.2.2.2.2.2.2.2.2.2.2.2.2.2.2.2.2.2.2.2.2.2.2.2.2.2.2.2.2.1 x.2.2.2.2.2.2.2.2.2.2.2.2.2.2.2.2.2.2.2.2.2.2.2.2.2.2.2.2.2.1 x.2.2.2.2.2.2.2.2.2.2.2.2.2.2.2.2.2.2.2.2.2.2.2.2.2.2.2.2.2.2 y) := by
  have i4 := b1.2.1
  have d4 := b3.2.1
  unfold m_Mo_write m_Mo_write_J52 m_Packer_packSequences m_Bytes_size
  rw [if_neg (show ¬ iI 0 = (1 : Int32) by decide), if_neg (show ¬ iI 0 = (3 : Int32) by decide), if_pos (show iI 0 = (0 : Int32) from rfl), Option.bind_some]
  have hly := t_lay1 b4 b2 d4 i4 mtf (p := 0) (n := inp.length) (b := 0) (by omega) (by omega)
  rw [show iI ((0 : Nat) : Int) = (0 : Int32) from rfl, List.drop_zero] at hly
  refine ok2_r hly ?_
  rintro ⟨w1, w2, w3⟩ ⟨e1, e2, e3⟩
  dsimp only at e1 e2 e3 ⊢
  subst e1 e2
  rw [if_pos (show iI 0 = (0 : Int32) from rfl)]
  refine ok2_r (t_sequences e3 (by omega) (by omega) i4 hlvl hm (by simp; omega) _ _ _ _ _ _ _ _ _) ?_
  rintro ⟨v0, v1, v2, v3, v4, v5, v6, v7, v8, v9, v10, v11, v12, v13, v14⟩ ⟨xs, hpl, y1, y2, y3, y4⟩
  dsimp only at y1 y2 y3 y4 ⊢
  subst y2 y3 y4
  rw [List.nil_append, Nat.add_zero] at y1
  rw [Nat.add_zero] at hpl
  have hem := em_len (sq := true) hpl.1
  have hec := hpl.2.2.1
  have hld := s_load (lF := h0_text_latest_f) (hF := h0_text_held_f) (bF := h0_text_before_f) b3 b1 (p := 0) (n := inp.length) (by omega)
  rw [show iI ((0 : Nat) : Int) = (0 : Int32) from rfl, List.drop_zero, List.take_length] at hld
  refine ok2_l hld ?_
  rintro ⟨u2, u3, u4, u5, u6⟩ ⟨ht, hdn⟩
  dsimp only at ht hdn ⊢
  simp only [Option.bind_some]
  refine ok2_l (s_block_S (lvl := lvl) (base := dic.length) h ht i4 (by rw [List.length_append]; omega) hpl (by simp; omega) _ _ _ _ _ _ _ _ _ _ _ _ _ _ _ _ _ _ _ (Or.inl hdn)) ?_
  rintro ⟨vv0, vv1, vv2, vv3, vv4, vv5, vv6, vv7, vv8, vv9, vv10, vv11, vv12, vv13, vv14, vv15, vv16, vv17, vv18, vv19, vv20, vv21, vv22, vv23, vv24⟩ ⟨z1, z2, z3, z4, z5⟩
  dsimp only at z1 z2 z3 z4 z5 ⊢
  subst z1 z2 z3
  rw [List.nil_append] at z5
  refine ok2_l (s_addPacked (FC.nil bF) (by omega) _ _ _ _ _ _) ?_
  rintro ⟨u36, u37⟩ hu
  dsimp only at hu ⊢
  unfold m_Mo_write_J72
  rw [hm.1, y1.1, List.length_nil, iI_sub]
  refine ok2_r (t_note (FC.nil nbF) (by omega) _ _ _ _ _ _ false) ?_
  rintro ⟨w4, w5⟩ hw
  refine ok2_some ⟨em true (gx (dic ++ inp)) dic.length inp.length 0 xs, _, 1, by omega, by omega, z5, ?_, hu, ?_⟩
  · rw [List.nil_append, ← y1.1]
    exact y1
  · rw [if_neg (show ¬ (false = true) by decide)] at hw
    rw [z5.1]
    rw [show ((em true (gx (dic ++ inp)) dic.length inp.length 0 xs).length : Int) - ((0 : Nat) : Int) = ((em true (gx (dic ++ inp)) dic.length inp.length 0 xs).length : Int) by omega] at hw
    exact hw
theorem wr_2 {inp : List Int} {lvl : Nat} {mt iF mif mdf f bF mf nbF : Nat → Int32} {cnt mc md : Int32} (b1 : BR 4000 (iI inp.length) iF inp) (b2 : MR (iI inp.length) mif inp) (hlvl : lvl ≤ 2) (h : BR 12000 cnt f []) (hm : MR mc mf []) (h0_elements : Nat) (h0_text_foundOffset : Int32) (h0_text_downLimit : Int32) (h0_text_downMost : Int32) (h0_text_downOffset : Int32) (h0_text_latest_f : Nat → Int32) (h0_text_held_f : Nat → Int32) (h0_text_before_f : Nat → Int32) (w_h0_bestRow_form : Value) (h0_bestRow_count : Int32) (h0_bestRow_rests_last : Int32) (h0_bestRow_copies_last : Int32) (h0_copyAt_f : Nat → Int32) (h0_bestRow_lengthOfCopy_f : Nat → Int32) (h0_bestRow_rests_value_f : Nat → Int32) (h0_bestRow_rests_leastOnward_f : Nat → Int32) (h0_bestRow_rests_leastSoFar_f : Nat → Int32) (h0_bestRow_copies_value_f : Nat → Int32) (h0_bestRow_copies_leastOnward_f : Nat → Int32) (h0_bestRow_copies_leastSoFar_f : Nat → Int32) (h0_bestRow_placeOfCopy_f : Nat → Int32) (mtf mmf mof mca mcl mco mwc mbc mfh mbl : Nat → Int32) (mcp mle msz mc1 mc2 mc3 : Int32) : ok2 (m_Packer_packElements h0_elements (iI lvl) (iI 0) (iI inp.length) h0_text_foundOffset h0_text_downLimit h0_text_downMost h0_text_downOffset 256 h0_text_latest_f 4000 iF 5000 h0_text_held_f 5000 h0_text_before_f w_h0_bestRow_form h0_bestRow_count 1 h0_bestRow_rests_last 0 h0_bestRow_copies_last cnt 4000 h0_copyAt_f 4001 h0_bestRow_lengthOfCopy_f 4001 h0_bestRow_rests_value_f 4001 h0_bestRow_rests_leastOnward_f 4001 h0_bestRow_rests_leastSoFar_f 4001 h0_bestRow_copies_value_f 4001 h0_bestRow_copies_leastOnward_f 4001 h0_bestRow_copies_leastSoFar_f 4001 h0_bestRow_placeOfCopy_f 12000 f 0 7000 bF) (m_Mo_write (iI 2) (iI lvl) (iI inp.length) md mc mle msz mcp mc1 mc2 mc3 28000 mf 6 mt 1000 mdf 5000 mtf 4000 mif 4000 mmf 260000 mof 4001 mwc 4001 mbc 4001 mfh 4001 mbl 4000 mca 4000 mcl 4000 mco 28070 nbF) (fun x y => PW [] x.2.2.2.2.2.2.2.2.2.2.2.2.2.2.2.2.2.2.1 x.2.2.2.2.2.2.2.2.2.2.2.2.2.2.2.2.2.2.2.2.2.2.2.2.2.2.2.2.1 x.2.2.2.2.2.2.2.2.2.2.2.2.2.2.2.2.2.2.2.2.2.2.2.2.2.2.2.2.2.1 x.2.2.2.2.2.2.2.2.2.2.2.2.2.2.2.2.2.2.2.2.2.2.2.2.2.2.2.2.2.2 y) := by
  have i4 := b1.2.1
  unfold m_Mo_write m_Mo_write_J52 m_Packer_packElements m_Bytes_size
  rw [if_neg (show ¬ iI 2 = (1 : Int32) by decide), if_neg (show ¬ iI 2 = (3 : Int32) by decide), if_neg (show ¬ iI 2 = (0 : Int32) by decide), Option.bind_some]
  have hly := t_lay0 b2 i4 md mdf mtf (p := 0) (n := inp.length) (by omega)
  rw [show iI ((0 : Nat) : Int) = (0 : Int32) from rfl, List.drop_zero] at hly
  refine ok2_r hly ?_
  rintro ⟨w1, w2, w3⟩ ⟨e1, e2, e3⟩
  dsimp only at e1 e2 e3 ⊢
  have e1' : w1 = iI ((0 : Nat) : Int) := e1
  subst e1' e2
  rw [if_neg (show ¬ iI 2 = (0 : Int32) by decide)]
  refine ok2_r (t_elements e3 (by omega) (lean := 0) (by omega) i4 hlvl hm (by simp; omega) _ _ _ _ _ _ _ _ _) ?_
  rintro ⟨v0, v1, v2, v3, v4, v5, v6, v7, v8, v9, v10, v11, v12, v13, v14⟩ ⟨xs, hpl, y1, y2, y3, y4⟩
  dsimp only at y1 y2 y3 y4 ⊢
  subst y2 y3 y4
  rw [List.nil_append] at y1
  have hem := em_len (sq := false) hpl.1
  have hec := hpl.2.2.1
  have hvh := vh_len inp.length
  have hld := s_loadAlone (lF := h0_text_latest_f) (hF := h0_text_held_f) (bF := h0_text_before_f) b1 (p := 0) (n := inp.length) (by omega)
  rw [show iI ((0 : Nat) : Int) = (0 : Int32) from rfl, List.drop_zero, List.take_length] at hld
  refine ok2_l hld ?_
  rintro ⟨u2, u3, u4, u5, u6⟩ ⟨ht, hdn⟩
  dsimp only at ht hdn ⊢
  simp only [Option.bind_some]
  refine ok2_l (s_block_E (lvl := lvl) (base := 0) h ht i4 (by omega) hpl (by simp; omega) _ _ _ _ _ _ _ _ _ _ _ _ _ _ _ _ _ _ _ (Or.inl hdn)) ?_
  rintro ⟨vv0, vv1, vv2, vv3, vv4, vv5, vv6, vv7, vv8, vv9, vv10, vv11, vv12, vv13, vv14, vv15, vv16, vv17, vv18, vv19, vv20, vv21, vv22, vv23, vv24⟩ ⟨z1, z2, z3, z4, z5⟩
  dsimp only at z1 z2 z3 z4 z5 ⊢
  subst z1 z2 z3
  rw [List.nil_append] at z5
  refine ok2_l (s_addPacked (FC.nil bF) (by omega) _ _ _ _ _ _) ?_
  rintro ⟨u36, u37⟩ hu
  dsimp only at hu ⊢
  unfold m_Mo_write_J72
  rw [hm.1, y1.1, List.length_nil, iI_sub]
  refine ok2_r (t_note (FC.nil nbF) (by omega) _ _ _ _ _ _ false) ?_
  rintro ⟨w4, w5⟩ hw
  refine ok2_some ⟨vh inp.length ++ em false (gx inp) 0 inp.length 0 xs, _, 1, by omega, by rw [List.length_append]; omega, z5, ?_, hu, ?_⟩
  · rw [List.nil_append, ← y1.1]
    exact y1
  · rw [if_neg (show ¬ (false = true) by decide)] at hw
    rw [z5.1]
    rw [show ((vh inp.length ++ em false (gx inp) 0 inp.length 0 xs).length : Int) - ((0 : Nat) : Int) = ((vh inp.length ++ em false (gx inp) 0 inp.length 0 xs).length : Int) by omega] at hw
    exact hw
theorem t_keep {k : Nat} {cnt : Int32} {nf bf : Nat → Int32} {fl : List Int32} (h : FC k cnt nf fl) (hk : k ≤ 4000) : ok (m_Mo_keepBlocks cnt 28070 nf 28070 bf) (fun o => FC k o.1 o.2 fl) := by
  obtain ⟨h1, h2, h3⟩ := h
  unfold m_Mo_keepBlocks
  rw [h1, lit_7, iI_mul, show (7 : Int) * (k : Int) = ((7 * k : Nat) : Int) by omega, show (0 : Int32) = iI ((0 : Nat) : Int) from rfl]
  refine ok_bind (s_carry (by omega) (by omega) (by omega) (by omega) (by omega)) ?_
  intro f' hf'
  subst hf'
  refine ok_some ⟨rfl, h2, fun j hj => ?_⟩
  dsimp only
  rw [pk_cpy_in (by omega) (by omega)]
  have := h3 j hj
  rw [← this]
  congr 1
  omega
theorem BLK.of {k : Nat} {bN mb : Int32} {bF mbf : Nat → Int32} {fl : List Int32} (h : FC k bN bF fl) (h' : FC k mb mbf fl) (hk : k ≤ 1000) : BLK bN bF mb mbf := ⟨k, hk, h.1, h'.1, fun j hj => by rw [h.2.2 j hj, h'.2.2 j hj]⟩
