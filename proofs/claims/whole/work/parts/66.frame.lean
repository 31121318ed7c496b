/-! the frame -/
theorem sm_cg {sF mt : Nat → Int32} (h : sF 2 = mt 2) (b : List Int) : sm_ mt b = sm_ sF b := by
  unfold sm_
  rw [h]
theorem fx_cg {sF mt : Nat → Int32} (h : ∀ j, j < 6 → sF j = mt j) : fx mt = fx sF := by
  unfold fx
  rw [h 1 (by omega), h 2 (by omega), h 3 (by omega), h 4 (by omega), h 5 (by omega)]
theorem H0_cg {sF mt : Nat → Int32} (h : ∀ j, j < 6 → sF j = mt j) (m : Nat) : H0 mt m = H0 sF m := by
  unfold H0
  rw [fx_cg h, h 3 (by omega), h 5 (by omega)]
def Ifm (sF : Nat → Int32) (dic inp pre : List Int) (i : Nat) (s : (Nat → Int32) × (Nat → Int32) × (Nat → Int32) × (Nat → Int32) × (Nat → Int32) × (Nat → Int32) × (Nat → Int32) × (Nat → Int32) × (Nat → Int32) × (Nat → Int32) × (Nat → Int32) × (Nat → Int32) × (Nat → Int32) × (Nat → Int32) × Value × Int32 × Int32 × Int32 × Int32 × Int32 × Value × Int32 × Int32 × Int32 × Int32 × Int32 × Int32 × Int32 × Int32 × Int32 × Int32 × Int32 × Int32) (t : (Nat → Int32) × (Nat → Int32) × (Nat → Int32) × (Nat → Int32) × (Nat → Int32) × (Nat → Int32) × (Nat → Int32) × (Nat → Int32) × (Nat → Int32) × (Nat → Int32) × (Nat → Int32) × (Nat → Int32) × Int32 × Int32 × Int32 × Int32 × Int32 × Int32 × Int32 × Int32 × Int32) : Prop := ∃ (o : List Int) (fl : List Int32) (from' : Nat), s.2.2.2.2.2.2.2.2.2.2.2.2.2.2.2.2.2.2.2.2.2.2.2.2.2.2.2.2.2.2.2.2 = iI from' ∧ t.2.2.2.2.2.2.2.2.2.2.2.2.2.2.2.2.2.2.2.2 = iI from' ∧ 16 * i ≤ from' ∧ from' ≤ 8000 ∧ o.length ≤ 19 + min from' inp.length + 8 * i ∧ BR 12000 s.2.2.2.2.2.2.2.2.2.2.2.2.2.2.2.2.2.2.2.2.2.2.2.2.2.2.2.2.2.2.2.1 s.2.2.2.2.2.2.2.2.2.2.2.2.2.1 o ∧ MR t.2.2.2.2.2.2.2.2.2.2.2.2.2.2.2.2.2.2.2.1 t.2.2.2.2.2.1 (pre ++ o) ∧ FC i s.2.2.2.2.2.2.2.2.2.2.2.2.2.2.2.2.2.2.2.2.2.2.2.2.1 s.2.2.2.2.2.2.2.2.1 fl ∧ FC i t.2.2.2.2.2.2.2.2.2.2.2.2.2.2.2.2.2.2.1 t.2.2.2.2.2.2.2.2.1 fl ∧ TX sF (dic ++ inp) s.2.2.2.2.2.2.2.2.2.2.2.2.2.2.2.2.2.2.2.2.2.2.2.2.2.1 s.2.2.2.2.2.2.2.2.2.2.2.1 s.2.2.2.2.2.2.2.2.2.2.1 s.2.2.2.2.2.2.2.2.2.2.2.2.1 s.2.2.2.2.2.2.2.2.2.2.2.2.2.2.2.2.2.2.2.2.2.2.2.2.2.2.2.1 s.2.2.2.2.2.2.2.2.2.2.2.2.2.2.2.2.2.2.2.2.2.2.2.2.2.2.2.2.1 s.2.2.2.2.2.2.2.2.2.2.2.2.2.2.2.2.2.2.2.2.2.2.2.2.2.2.2.2.2.1 s.2.2.2.2.2.2.2.2.2.2.2.2.2.2.2.2.2.2.2.2.2.2.2.2.2.2.2.2.2.2.1
def Pfm (pre : List Int) (s : (Nat → Int32) × (Nat → Int32) × (Nat → Int32) × (Nat → Int32) × (Nat → Int32) × (Nat → Int32) × (Nat → Int32) × (Nat → Int32) × (Nat → Int32) × (Nat → Int32) × (Nat → Int32) × (Nat → Int32) × (Nat → Int32) × (Nat → Int32) × Value × Int32 × Int32 × Int32 × Int32 × Int32 × Value × Int32 × Int32 × Int32 × Int32 × Int32 × Int32 × Int32 × Int32 × Int32 × Int32 × Int32) (t : (Nat → Int32) × (Nat → Int32) × (Nat → Int32) × (Nat → Int32) × (Nat → Int32) × (Nat → Int32) × (Nat → Int32) × (Nat → Int32) × (Nat → Int32) × (Nat → Int32) × (Nat → Int32) × (Nat → Int32) × Int32 × Int32 × Int32 × Int32 × Int32 × Int32 × Int32 × Int32) : Prop := ∃ (o : List Int) (fl : List Int32) (k : Nat), k ≤ 1000 ∧ o.length ≤ 8100 ∧ BR 12000 s.2.2.2.2.2.2.2.2.2.2.2.2.2.2.2.2.2.2.2.2.2.2.2.2.2.2.2.2.2.2.2 s.2.2.2.2.2.2.2.2.2.2.2.2.2.1 o ∧ MR t.2.2.2.2.2.2.2.2.2.2.2.2.2.2.2.2.2.2.2 t.2.2.2.2.2.1 (pre ++ o) ∧ FC k s.2.2.2.2.2.2.2.2.2.2.2.2.2.2.2.2.2.2.2.2.2.2.2.2.1 s.2.2.2.2.2.2.2.2.1 fl ∧ FC k t.2.2.2.2.2.2.2.2.2.2.2.2.2.2.2.2.2.2.1 t.2.2.2.2.2.2.2.2.1 fl
theorem fr_loop {dic inp pre : List Int} {B lvl : Nat} {sF mt iF wF mif mdf : Nat → Int32} (b1 : BR 4000 (iI inp.length) iF inp) (b2 : MR (iI inp.length) mif inp) (b3 : BR 1000 (iI dic.length) wF dic) (b4 : MR (iI dic.length) mdf dic) (hs : ∀ j, j < 6 → sF j = mt j) (hB : sF 0 = iI B) (hB1 : 16 ≤ B) (hB2 : B ≤ 4000) (hs01 : ∀ j, 1 ≤ j → j ≤ 4 → sF j = 0 ∨ sF j = 1) (hlvl : lvl ≤ 2) (hpre : pre.length ≤ 12000) (h0_sequences : Nat) {s0 : (Nat → Int32) × (Nat → Int32) × (Nat → Int32) × (Nat → Int32) × (Nat → Int32) × (Nat → Int32) × (Nat → Int32) × (Nat → Int32) × (Nat → Int32) × (Nat → Int32) × (Nat → Int32) × (Nat → Int32) × (Nat → Int32) × (Nat → Int32) × Value × Int32 × Int32 × Int32 × Int32 × Int32 × Value × Int32 × Int32 × Int32 × Int32 × Int32 × Int32 × Int32 × Int32 × Int32 × Int32 × Int32 × Int32} {t0 : (Nat → Int32) × (Nat → Int32) × (Nat → Int32) × (Nat → Int32) × (Nat → Int32) × (Nat → Int32) × (Nat → Int32) × (Nat → Int32) × (Nat → Int32) × (Nat → Int32) × (Nat → Int32) × (Nat → Int32) × Int32 × Int32 × Int32 × Int32 × Int32 × Int32 × Int32 × Int32 × Int32} (h0 : Ifm sF dic inp pre 0 s0 t0) : ok2 (iter (fun st => (m_Packer_packFrame_B42 h0_sequences (iI lvl) (iI pre.length) 12000 6 sF (iI inp.length) (iI dic.length) 256 1000 wF 5000 5000 4000 iF 1 0 4000 4001 4001 4001 4001 4001 4001 4001 4001 7000 (iI B) st.1 st.2.1 st.2.2.1 st.2.2.2.1 st.2.2.2.2.1 st.2.2.2.2.2.1 st.2.2.2.2.2.2.1 st.2.2.2.2.2.2.2.1 st.2.2.2.2.2.2.2.2.1 st.2.2.2.2.2.2.2.2.2.1 st.2.2.2.2.2.2.2.2.2.2.1 st.2.2.2.2.2.2.2.2.2.2.2.1 st.2.2.2.2.2.2.2.2.2.2.2.2.1 st.2.2.2.2.2.2.2.2.2.2.2.2.2.1 st.2.2.2.2.2.2.2.2.2.2.2.2.2.2.1 st.2.2.2.2.2.2.2.2.2.2.2.2.2.2.2.1 st.2.2.2.2.2.2.2.2.2.2.2.2.2.2.2.2.1 st.2.2.2.2.2.2.2.2.2.2.2.2.2.2.2.2.2.1 st.2.2.2.2.2.2.2.2.2.2.2.2.2.2.2.2.2.2.1 st.2.2.2.2.2.2.2.2.2.2.2.2.2.2.2.2.2.2.2.1 st.2.2.2.2.2.2.2.2.2.2.2.2.2.2.2.2.2.2.2.2.1 st.2.2.2.2.2.2.2.2.2.2.2.2.2.2.2.2.2.2.2.2.2.1 st.2.2.2.2.2.2.2.2.2.2.2.2.2.2.2.2.2.2.2.2.2.2.1 st.2.2.2.2.2.2.2.2.2.2.2.2.2.2.2.2.2.2.2.2.2.2.2.1 st.2.2.2.2.2.2.2.2.2.2.2.2.2.2.2.2.2.2.2.2.2.2.2.2.1 st.2.2.2.2.2.2.2.2.2.2.2.2.2.2.2.2.2.2.2.2.2.2.2.2.2.1 st.2.2.2.2.2.2.2.2.2.2.2.2.2.2.2.2.2.2.2.2.2.2.2.2.2.2.1 st.2.2.2.2.2.2.2.2.2.2.2.2.2.2.2.2.2.2.2.2.2.2.2.2.2.2.2.1 st.2.2.2.2.2.2.2.2.2.2.2.2.2.2.2.2.2.2.2.2.2.2.2.2.2.2.2.2.1 st.2.2.2.2.2.2.2.2.2.2.2.2.2.2.2.2.2.2.2.2.2.2.2.2.2.2.2.2.2.1 st.2.2.2.2.2.2.2.2.2.2.2.2.2.2.2.2.2.2.2.2.2.2.2.2.2.2.2.2.2.2.1 st.2.2.2.2.2.2.2.2.2.2.2.2.2.2.2.2.2.2.2.2.2.2.2.2.2.2.2.2.2.2.2.1 st.2.2.2.2.2.2.2.2.2.2.2.2.2.2.2.2.2.2.2.2.2.2.2.2.2.2.2.2.2.2.2.2)) FU s0) (iter (fun st => (m_Mo_frame_B173 (iI lvl) (iI inp.length) (iI dic.length) 28000 6 mt 1000 mdf 5000 4000 mif 4000 260000 4001 4001 4001 4001 4000 4000 4000 28070 st.1 st.2.1 st.2.2.1 st.2.2.2.1 st.2.2.2.2.1 st.2.2.2.2.2.1 st.2.2.2.2.2.2.1 st.2.2.2.2.2.2.2.1 st.2.2.2.2.2.2.2.2.1 st.2.2.2.2.2.2.2.2.2.1 st.2.2.2.2.2.2.2.2.2.2.1 st.2.2.2.2.2.2.2.2.2.2.2.1 st.2.2.2.2.2.2.2.2.2.2.2.2.1 st.2.2.2.2.2.2.2.2.2.2.2.2.2.1 st.2.2.2.2.2.2.2.2.2.2.2.2.2.2.1 st.2.2.2.2.2.2.2.2.2.2.2.2.2.2.2.1 st.2.2.2.2.2.2.2.2.2.2.2.2.2.2.2.2.1 st.2.2.2.2.2.2.2.2.2.2.2.2.2.2.2.2.2.1 st.2.2.2.2.2.2.2.2.2.2.2.2.2.2.2.2.2.2.1 st.2.2.2.2.2.2.2.2.2.2.2.2.2.2.2.2.2.2.2.1 st.2.2.2.2.2.2.2.2.2.2.2.2.2.2.2.2.2.2.2.2)) FU t0) (Pfm pre) := by
  have i4 := b1.2.1
  have d4 := b3.2.1
  refine ok2_loop (Ifm sF dic inp pre) 1000 (by omega) h0 ?_
  rintro i ⟨s0, s1, s2, s3, s4, s5, s6, s7, s8, s9, s10, s11, s12, s13, s14, s15, s16, s17, s18, s19, s20, s21, s22, s23, s24, s25, s26, s27, s28, s29, s30, s31, s32⟩ ⟨t0, t1, t2, t3, t4, t5, t6, t7, t8, t9, t10, t11, t12, t13, t14, t15, t16, t17, t18, t19, t20⟩ hi ⟨o, fl, from', e1, e2, e3, e4, e5, e6, e7, e8, e9, e10⟩
  dsimp only at e1 e2 e6 e7 e8 e9 e10
  subst e1 e2
  unfold m_Packer_packFrame_B42 m_Mo_frame_B173 m_Bytes_size
  dsimp only
  rw [Option.bind_some]
  by_cases c : inp.length ≤ from'
  · rw [if_leT (by omega) (by omega) (by omega), if_leT (by omega) (by omega) (by omega)]
    exact ok2_end ⟨o, fl, i, by omega, by omega, e6, e7, e8, e9⟩
  · rw [if_leF (by omega) (by omega) (by omega), if_leF (by omega) (by omega) (by omega), Option.bind_some, ck0, tc0, ← hs 0 (by omega), hB, iI_sub, t_small (by omega) (by omega), Option.bind_some, ck1, tc1, iI_min (by omega) (by omega), ← hs 1 (by omega)]
    obtain ⟨n, hn, n1, n2, n3⟩ : ∃ n : Nat, min (B : Int) ((inp.length : Int) - (from' : Int)) = (n : Int) ∧ from' + n ≤ inp.length ∧ min (from' + B) inp.length = from' + n ∧ n ≤ B := ⟨min B (inp.length - from'), by omega, by omega, by omega, by omega⟩
    rw [hn]
    have hlen : (pre ++ o).length = pre.length + o.length := List.length_append
    have hmin : min from' inp.length = from' := by omega
    rw [hmin] at e5
    obtain ⟨t, base, bf, ht1, ht2, ht3⟩ : ∃ (t : List Int) (base bf : Nat), ((sF 1 = 0 ∧ t = dic ++ (inp.drop from').take n ∧ base = dic.length) ∨ (sF 1 ≠ 0 ∧ t = dic ++ inp ∧ base = dic.length + from')) ∧ ((bf = 0 ∧ t = dic ++ (inp.drop from').take n ∧ base = dic.length) ∨ (bf = from' ∧ t = dic ++ inp ∧ base = dic.length + from')) ∧ (if sF 1 = 0 then (0 : Int32) else iI from') = iI bf := by
      by_cases z : sF 1 = 0
      · exact ⟨_, _, 0, Or.inl ⟨z, rfl, rfl⟩, Or.inl ⟨rfl, rfl, rfl⟩, by rw [if_pos z]; rfl⟩
      · exact ⟨_, _, from', Or.inr ⟨z, rfl, rfl⟩, Or.inr ⟨rfl, rfl, rfl⟩, by rw [if_neg z]⟩
    have hT := t_fblock (lvl := lvl) (B := (B : Int)) (sF := mt) t0 t1 t2 t3 t4 t6 t7 t9 t10 t11 e7 b2 b4 i4 d4 n1 (by rw [← hs 0 (by omega)]; exact hB) (by omega) hlvl e9 (by omega) (by rw [← hs 2 (by omega)]; exact hs01 2 (by omega) (by omega)) ht2
    obtain ⟨r, hr, xs, hpl, s', rfl, z1, z2, z3⟩ := hT
    have hS := s_fblock (lvl := lvl) (sh := pre.length) h0_sequences s20 s21 s25 s26 s27 s28 s29 s30 s23 s22 s9 s11 s10 s3 s7 s5 s6 s2 s0 s1 s4 s12 e6 b1 b3 n1 (by omega) (by omega) hpre e8 e10 ht1 hpl
    obtain ⟨q, hq, y1, y2, y3⟩ := hS
    obtain ⟨q0, q1, q2, q3, q4, q5, q6, q7, q8, q9, q10, q11, q12, q13, q14, q15, q16, q17, q18, q19, q20, q21, q22, q23, q24, q25, q26, q27, q28, q29, q30, q31⟩ := q
    dsimp only at y1 y2 y3
    have hif : ∀ {β : Type} (A : Int32 → Option β), (if sF 1 = 1 then A (iI from') else A 0) = A (iI bf) := by
      intro β A
      rw [ite_10 (hs01 1 (by omega) (by omega)), ← ht3]
      by_cases z : sF 1 = 0
      · rw [if_pos z, if_pos z]
      · rw [if_neg z, if_neg z]
    rw [hq, Option.bind_some, hif (fun x => m_Mo_frame_J217 (iI lvl) (iI dic.length) 28000 6 mt 1000 mdf 5000 4000 mif 4000 260000 4001 4001 4001 4001 4000 4000 4000 28070 t0 t1 t2 t3 t4 t5 t6 t7 t8 t9 t10 t11 t18 t19 (iI from') (iI n) x), hr, bnd_eq, iI_add]
    refine ok2_go ⟨i + 1, by omega, by omega, _, _, from' + B, rfl, z1, by omega, by omega, ?_, y1, ?_, y2, ?_, y3⟩
    · rw [n2, List.length_append, List.length_append, List.length_append, le_len]
      have a1 := sm_len sF (fb (em true (gx t) base n 0 xs) (List.take n (List.drop from' inp)) n)
      have a2 := (fb_len (e := em true (gx t) base n 0 xs) (r := List.take n (List.drop from' inp)) (n := n) (by rw [List.length_take, List.length_drop]; omega)).1
      omega
    · rw [sm_cg (hs 2 (by omega)), List.append_assoc] at z2
      exact z2
    · rw [hlen, Nat.add_assoc] at z3
      exact z3
theorem fr_frame {dic inp pre : List Int} {B lvl : Nat} {sF mt iF wF mif mdf f bF mf nbF : Nat → Int32} {cnt mc : Int32} (b1 : BR 4000 (iI inp.length) iF inp) (b2 : MR (iI inp.length) mif inp) (b3 : BR 1000 (iI dic.length) wF dic) (b4 : MR (iI dic.length) mdf dic) (hs : ∀ j, j < 6 → sF j = mt j) (hB : sF 0 = iI B) (hB1 : 16 ≤ B) (hB2 : B ≤ 4000) (hs01 : ∀ j, 1 ≤ j → j ≤ 4 → sF j = 0 ∨ sF j = 1) (hlvl : lvl ≤ 2) (hpre : pre.length ≤ 12000) (h : BR 12000 cnt f []) (hm : MR mc mf pre) (h0_sequences : Nat) (w_h0_form : Value) (h0_base : Int32) (h0_count : Int32) (h0_copies : Int32) (h0_literals : Int32) (h0_parts : Int32) (h0_text_count : Int32) (h0_text_foundOffset : Int32) (h0_text_downPlace : Int32) (h0_text_downLimit : Int32) (h0_text_downMost : Int32) (h0_text_downOffset : Int32) (h0_text_latest_f : Nat → Int32) (h0_text_held_f : Nat → Int32) (h0_text_before_f : Nat → Int32) (w_h0_bestRow_form : Value) (h0_bestRow_count : Int32) (h0_bestRow_rests_last : Int32) (h0_bestRow_copies_last : Int32) (h0_copyAt_f : Nat → Int32) (h0_bestRow_lengthOfCopy_f : Nat → Int32) (h0_bestRow_rests_value_f : Nat → Int32) (h0_bestRow_rests_leastOnward_f : Nat → Int32) (h0_bestRow_rests_leastSoFar_f : Nat → Int32) (h0_bestRow_copies_value_f : Nat → Int32) (h0_bestRow_copies_leastOnward_f : Nat → Int32) (h0_bestRow_copies_leastSoFar_f : Nat → Int32) (h0_bestRow_placeOfCopy_f : Nat → Int32)  (mtf mmf mof mca mcl mco mwc mbc mfh mbl : Nat → Int32) (mcp mle msz mc1 mc2 mc3 : Int32) : ok2 (m_Packer_packFrame h0_sequences (iI lvl) (iI pre.length) w_h0_form h0_base h0_count h0_copies h0_literals h0_parts cnt 12000 f 6 sF (iI inp.length) h0_text_count h0_text_foundOffset h0_text_downPlace h0_text_downLimit h0_text_downMost h0_text_downOffset (iI dic.length) 256 h0_text_latest_f 1000 wF 5000 h0_text_held_f 5000 h0_text_before_f 4000 iF w_h0_bestRow_form h0_bestRow_count 1 h0_bestRow_rests_last 0 h0_bestRow_copies_last 0 4000 h0_copyAt_f 4001 h0_bestRow_lengthOfCopy_f 4001 h0_bestRow_rests_value_f 4001 h0_bestRow_rests_leastOnward_f 4001 h0_bestRow_rests_leastSoFar_f 4001 h0_bestRow_copies_value_f 4001 h0_bestRow_copies_leastOnward_f 4001 h0_bestRow_copies_leastSoFar_f 4001 h0_bestRow_placeOfCopy_f 7000 bF) (m_Mo_frame (iI lvl) (iI inp.length) (iI dic.length) mc mle msz mcp mc1 mc2 mc3 0 28000 mf 6 mt 1000 mdf 5000 mtf 4000 mif 4000 mmf 260000 mof 4001 mwc 4001 mbc 4001 mfh 4001 mbl 4000 mca 4000 mcl 4000 mco 28070 nbF) (fun x y => ∃ (o : List Int) (fl : List Int32) (k : Nat), k ≤ 1000 ∧ o.length ≤ 8108 ∧ BR 12000 x.2.2.2.2.2.2.1 x.2.2.2.2.2.2.2.1 o ∧ MR y.1 y.2.2.2.2.2.2.2.2.1 (pre ++ o) ∧ FC k x.2.2.2.2.2.2.2.2.2.2.2.2.2.2.2.2.2.2.2.2.2.1 x.2.2.2.2.2.2.2.2.2.2.2.2.2.2.2.2.2.2.2.2.2.2.2.2.2.2.2.2.2.2.2 fl ∧ FC k y.2.2.2.2.2.2.2.1 y.2.2.2.2.2.2.2.2.2.2.2.2.2.2.2.2.2.2.2 fl) := by
  have i4 := b1.2.1
  have d4 := b3.2.1
  have hmt01 : ∀ j, 1 ≤ j → j ≤ 4 → mt j = 0 ∨ mt j = 1 := fun j x1 x2 => by rw [← hs j (by omega)]; exact hs01 j x1 x2
  have hHl := H0_len sF inp.length
  have hlen0 : (pre ++ H0 sF inp.length).length = pre.length + (H0 sF inp.length).length := List.length_append
  unfold m_Packer_packFrame
  refine ok2_l (s_fhead h i4) ?_
  rintro ⟨u1, u2⟩ hu
  dsimp only at hu ⊢
  refine t_fhead (sF := mt) hm i4 hpre hmt01 _ _ _ _ _ _ _ _ _ _ _ _ _ _ _ _ _ _ _ _ _ _ ?_
  intro f' c' hf'
  rw [H0_cg hs] at hf'
  unfold m_Mo_frame_J150
  rw [hf'.1, iI_sub, hlen0, show ((pre.length + (H0 sF inp.length).length : Nat) : Int) - ((pre.length + 4 : Nat) : Int) = (((H0 sF inp.length).length - 4 : Nat) : Int) by omega, t_sumOf hf' (by omega) (by omega) (by omega), Option.bind_some, sumS_app, t_sumByte]
  have hf0 := hf'.1
  rw [hlen0] at hf0
  rw [← hf0]
  refine ok2_r (t_put _ hf' (by omega) (by omega)) ?_
  rintro ⟨v1, v2⟩ hv
  dsimp only at hv ⊢
  rw [List.append_assoc] at hv
  have hv' : MR v1 v2 (pre ++ HF sF inp.length) := hv
  have hFl := HF_len sF inp.length
  have hfin : ∀ (ct dp dl dm dO : Int32) (bf hF lF : Nat → Int32), TX sF (dic ++ inp) ct hF bf lF dp dl dm dO → dl = h0_text_downLimit → dm = h0_text_downMost → dO = h0_text_downOffset → ok2 (m_Packer_packFrame_J35 h0_sequences (iI lvl) (iI pre.length) w_h0_form h0_base h0_count h0_copies h0_literals h0_parts 12000 6 sF (iI inp.length) h0_text_foundOffset h0_text_downLimit h0_text_downMost h0_text_downOffset (iI dic.length) 256 1000 wF 5000 5000 4000 iF w_h0_bestRow_form h0_bestRow_count 1 h0_bestRow_rests_last 0 h0_bestRow_copies_last 0 4000 h0_copyAt_f 4001 h0_bestRow_lengthOfCopy_f 4001 h0_bestRow_rests_value_f 4001 h0_bestRow_rests_leastOnward_f 4001 h0_bestRow_rests_leastSoFar_f 4001 h0_bestRow_copies_value_f 4001 h0_bestRow_copies_leastOnward_f 4001 h0_bestRow_copies_leastSoFar_f 4001 h0_bestRow_placeOfCopy_f 7000 bF u1 u2 bf hF lF ct dp) ((iter (fun st => m_Mo_frame_B173 (iI lvl) (iI inp.length) (iI dic.length) 28000 6 mt 1000 mdf 5000 4000 mif 4000 260000 4001 4001 4001 4001 4000 4000 4000 28070 st.1 st.2.1 st.2.2.1 st.2.2.2.1 st.2.2.2.2.1 st.2.2.2.2.2.1 st.2.2.2.2.2.2.1 st.2.2.2.2.2.2.2.1 st.2.2.2.2.2.2.2.2.1 st.2.2.2.2.2.2.2.2.2.1 st.2.2.2.2.2.2.2.2.2.2.1 st.2.2.2.2.2.2.2.2.2.2.2.1 st.2.2.2.2.2.2.2.2.2.2.2.2.1 st.2.2.2.2.2.2.2.2.2.2.2.2.2.1 st.2.2.2.2.2.2.2.2.2.2.2.2.2.2.1 st.2.2.2.2.2.2.2.2.2.2.2.2.2.2.2.1 st.2.2.2.2.2.2.2.2.2.2.2.2.2.2.2.2.1 st.2.2.2.2.2.2.2.2.2.2.2.2.2.2.2.2.2.1 st.2.2.2.2.2.2.2.2.2.2.2.2.2.2.2.2.2.2.1 st.2.2.2.2.2.2.2.2.2.2.2.2.2.2.2.2.2.2.2.1 st.2.2.2.2.2.2.2.2.2.2.2.2.2.2.2.2.2.2.2.2) FU (mbc, mbl, mca, mcl, mco, v2, mfh, mmf, nbF, mof, mtf, mwc, mle, msz, mcp, mc1, mc2, mc3, 0, v1, (0 : Int32))).bind fun o => m_Mo_frame_E420 (iI inp.length) 28000 6 mt 4000 mif o.1 o.2.1 o.2.2.1 o.2.2.2.1 o.2.2.2.2.1 o.2.2.2.2.2.1 o.2.2.2.2.2.2.1 o.2.2.2.2.2.2.2.1 o.2.2.2.2.2.2.2.2.1 o.2.2.2.2.2.2.2.2.2.1 o.2.2.2.2.2.2.2.2.2.2.1 o.2.2.2.2.2.2.2.2.2.2.2.1 o.2.2.2.2.2.2.2.2.2.2.2.2.1 o.2.2.2.2.2.2.2.2.2.2.2.2.2.1 o.2.2.2.2.2.2.2.2.2.2.2.2.2.2.1 o.2.2.2.2.2.2.2.2.2.2.2.2.2.2.2.1 o.2.2.2.2.2.2.2.2.2.2.2.2.2.2.2.2.1 o.2.2.2.2.2.2.2.2.2.2.2.2.2.2.2.2.2.1 o.2.2.2.2.2.2.2.2.2.2.2.2.2.2.2.2.2.2.1 o.2.2.2.2.2.2.2.2.2.2.2.2.2.2.2.2.2.2.2) (fun x y => ∃ (o : List Int) (fl : List Int32) (k : Nat), k ≤ 1000 ∧ o.length ≤ 8108 ∧ BR 12000 x.2.2.2.2.2.2.1 x.2.2.2.2.2.2.2.1 o ∧ MR y.1 y.2.2.2.2.2.2.2.2.1 (pre ++ o) ∧ FC k x.2.2.2.2.2.2.2.2.2.2.2.2.2.2.2.2.2.2.2.2.2.1 x.2.2.2.2.2.2.2.2.2.2.2.2.2.2.2.2.2.2.2.2.2.2.2.2.2.2.2.2.2.2.2 fl ∧ FC k y.2.2.2.2.2.2.2.1 y.2.2.2.2.2.2.2.2.2.2.2.2.2.2.2.2.2.2.2 fl) := by
    intro ct dp dl dm dO bf hF lF tx e1 e2 e3
    subst e1 e2 e3
    unfold m_Packer_packFrame_J35 m_Packer_blockBytes
    rw [ck0, tc0, hB, lit_16, iI_max (by omega) (by omega), Option.bind_some, show max (16 : Int) (B : Int) = ((B : Nat) : Int) by omega]
    refine ok2_bind (fr_loop b1 b2 b3 b4 hs hB hB1 hB2 hs01 hlvl hpre h0_sequences ⟨HF sF inp.length, [], 0, rfl, rfl, by omega, by omega, by omega, hu, hv', FC.nil _, FC.nil _, tx⟩) ?_
    rintro ⟨x0, x1, x2, x3, x4, x5, x6, x7, x8, x9, x10, x11, x12, x13, x14, x15, x16, x17, x18, x19, x20, x21, x22, x23, x24, x25, x26, x27, x28, x29, x30, x31⟩ ⟨y0, y1, y2, y3, y4, y5, y6, y7, y8, y9, y10, y11, y12, y13, y14, y15, y16, y17, y18, y19⟩ ⟨o, fl, k, a1, a2, a3, a4, a5, a6⟩
    dsimp only at a3 a4 a5 a6 ⊢
    unfold m_Packer_packFrame_E78 m_Mo_frame_E420 m_Bytes_size
    have hlo : (pre ++ o).length = pre.length + o.length := List.length_append
    rw [j_0, i_nat4]
    refine ok2_l (s_addNumber 0 (by omega) a3 (by omega) (by omega)) ?_
    rintro ⟨w1, w2⟩ hw
    dsimp only at hw ⊢
    refine ok2_r (t_lowest (by omega) (by omega) a4 (by omega) (by omega)) ?_
    rintro ⟨w3, w4⟩ hw2
    dsimp only at hw2 ⊢
    rw [List.append_assoc] at hw2
    rw [show iI ((4 : Nat) : Int) = (4 : Int32) from rfl, is4, Option.bind_some, ite_01, ck4, tc4, ite_10 (hmt01 4 (by omega) (by omega)), ← hs 4 (by omega)]
    have hl1 : (o ++ le 0 4).length = o.length + 4 := by rw [List.length_append, le_len]
    by_cases c : sF 4 = 0
    · rw [if_pos c, if_pos c]
      exact ok2_some ⟨o ++ le 0 4, fl, k, a1, by omega, hw, hw2, a5, a6⟩
    · have hss := s_sumOf (p := 0) (n := inp.length) b1 (by omega) (by omega)
      have hts := t_sumOf (N := 4000) (p := 0) (n := inp.length) b2 (by omega) (by omega) (by omega)
      rw [show iI ((0 : Nat) : Int) = (0 : Int32) from rfl] at hss hts
      rw [if_neg c, if_neg c, Option.bind_some, hss, hts, Option.bind_some, Option.bind_some]
      clear hss hts
      generalize sumS (rd inp) 0 inp.length = S
      have S1 := Int32.le_toInt S
      have S2 := Int32.toInt_lt S
      rw [i32_j, i_nat4]
      refine ok2_l (s_addNumber _ (by omega) hw (by omega) (by omega)) ?_
      rintro ⟨w5, w6⟩ hw3
      dsimp only at hw3 ⊢
      refine ok2_r (t_lowest ⟨by omega, by omega⟩ (by omega) hw2 (by rw [List.length_append]; omega) (by omega)) ?_
      rintro ⟨w7, w8⟩ hw4
      dsimp only at hw4 ⊢
      rw [List.append_assoc] at hw4
      exact ok2_some ⟨o ++ le 0 4 ++ le S.toInt 4, fl, k, a1, by rw [List.length_append, le_len]; omega, hw3, hw4, a5, a6⟩
  rw [is1, Option.bind_some, ite_01]
  by_cases c : sF 1 = 0
  · rw [if_pos c]
    exact hfin _ _ _ _ _ _ _ _ (fun q => absurd c q) rfl rfl rfl
  · rw [if_neg c]
    unfold m_Bytes_size
    rw [Option.bind_some]
    have hld := s_load (lF := h0_text_latest_f) (hF := h0_text_held_f) (bF := h0_text_before_f) b3 b1 (p := 0) (n := inp.length) (by omega)
    rw [show iI ((0 : Nat) : Int) = (0 : Int32) from rfl, List.drop_zero, List.take_length] at hld
    refine ok2_l hld ?_
    rintro ⟨u118, u119, u120, u121, u122⟩ ⟨ht, hdn⟩
    exact hfin _ _ _ _ _ _ _ _ (fun _ => ⟨ht, Or.inl hdn⟩) rfl rfl rfl
