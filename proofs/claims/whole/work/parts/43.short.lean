/-! calls that are short -/
theorem p_16 : P_16 RV0 := by
  intro a1 iN wN sF ob oa oN xN bN iF wF oF bF l1 l2 mi mo md mb mr mp mif mof mdf mtf mbf h
  obtain ⟨inp, dic, out, b1, b2, b3, b4, b5, b6, b7, b8, ⟨k, b9, b10, b11, b12⟩, b13⟩ := id h
  obtain rfl : mi = iN := b2.1.trans b1.1.symm
  obtain rfl : mo = oN := b6.1.trans b5.1.symm
  obtain rfl : md = wN := b4.1.trans b3.1.symm
  obtain rfl : mb = bN := b11.trans b10.symm
  unfold m_FB_told m_Mo_told m_Bytes_size m_Blocks_size
  simp only [Option.bind_some]
  by_cases c0 : a1 = 0
  · exact ⟨_, by rw [if_pos c0], by rw [if_pos c0], h⟩
  · rw [if_neg c0]
    by_cases c1 : a1 = 1
    · exact ⟨_, by rw [if_pos c1], by rw [if_pos c1], h⟩
    · rw [if_neg c1]
      by_cases c2 : a1 = 2
      · exact ⟨_, by rw [if_pos c2], by rw [if_pos c2], h⟩
      · rw [if_neg c2]
        by_cases c3 : a1 = 3
        · exact ⟨_, by rw [if_pos c3], by rw [if_pos c3], h⟩
        · exact ⟨_, by rw [if_neg c3], by rw [if_neg c3], h⟩
theorem p_15 : P_15 RV0 := by
  intro a1 a2 iN wN sF ob oa oN xN bN iF wF oF bF l1 l2 mi mo md mb mr mp mif mof mdf mtf mbf h
  unfold m_FB_bound m_Mo_bound m_Mo_bound_J9
  by_cases c0 : 0 ≤ a2
  · by_cases c1 : a1 = 0
    · exact ⟨_, by rw [if_pos c0, if_pos c1], by rw [if_pos c1, if_pos c0, if_pos c1], h⟩
    · by_cases c2 : a1 = 2
      · exact ⟨_, by rw [if_pos c0, if_neg c1, if_pos c2], by rw [if_neg c1, if_pos c2, if_pos c0, if_neg c1], h⟩
      · exact ⟨_, by rw [if_pos c0, if_neg c1, if_neg c2], by rw [if_neg c1, if_neg c2], h⟩
  · by_cases c1 : a1 = 0
    · exact ⟨_, by rw [if_neg c0], by rw [if_pos c1, if_neg c0], h⟩
    · by_cases c2 : a1 = 2
      · exact ⟨_, by rw [if_neg c0], by rw [if_neg c1, if_pos c2, if_neg c0], h⟩
      · exact ⟨_, by rw [if_neg c0], by rw [if_neg c1, if_neg c2], h⟩
theorem p_10 : P_10 RV0 := by
  intro a1 iN wN sF ob oa oN xN bN iF wF oF bF l1 l2 mi mo md mb mr mp mif mof mdf mtf mbf h
  obtain ⟨inp, dic, out, b1, b2, b3, b4, b5, b6, b7, b8, b9, ⟨r1, r2, r3⟩, b13⟩ := id h
  subst r1
  unfold m_FB_rule m_Mo_rule m_Opener_brokenRule m_Opener_brokenPlace
  simp only [Option.bind_some]
  by_cases c0 : a1 = 0
  · exact ⟨_, by rw [if_pos c0], by rw [if_pos c0], h⟩
  · rw [if_neg c0, if_neg c0]
    by_cases c1 : a1 = 1
    · rw [if_pos c1, if_pos c1]
      by_cases c2 : ob = 0
      · exact ⟨_, by rw [if_pos c2], by rw [r2 c2], h⟩
      · exact ⟨_, by rw [if_neg c2], by rw [r3 c2], h⟩
    · exact ⟨_, by rw [if_neg c1], by rw [if_neg c1], h⟩
theorem p_1 : P_1 RV0 := by
  intro a1 iN wN sF ob oa oN xN bN iF wF oF bF l1 l2 mi mo md mb mr mp mif mof mdf mtf mbf h
  obtain ⟨inp, dic, out, b1, b2, b3⟩ := id h
  obtain ⟨z, hz, rfl⟩ := iI_ex a1
  have hl := b1.2.1
  unfold m_FB_cut m_Mo_cut m_Bytes_size m_Bytes_keep
  rw [b1.1, b2.1]
  simp only [Option.bind_some, bnd]
  rw [iI_j hz, iI_j (by omega), show (0 : Int64) = jI 0 from rfl, s_in (by omega) (by omega) (by omega), show (0 : Int32) = iI 0 from rfl]
  simp only [Option.bind_some]
  by_cases c0 : z < 0
  · refine ⟨-1, iI inp.length, iI inp.length, ?_, ?_, ?_⟩
    · rw [if_pos (by rw [iI_lt (by omega) (by omega)]; exact c0)]
    · rw [if_neg (show ¬ (0 ≤ z ∧ z ≤ (inp.length : Int)) by omega), if_pos rfl]
    · exact ⟨inp, dic, out, ⟨rfl, b1.2⟩, ⟨rfl, b2.2⟩, b3⟩
  · rw [if_neg (show ¬ iI z < iI 0 by rw [iI_lt (by omega) (by omega)]; exact c0)]
    by_cases c1 : z ≤ inp.length
    · refine ⟨iI (inp.length - z), iI z, iI z, ?_, ?_, ?_⟩
      · rw [if_pos (by rw [iI_le (by omega) (by omega)]; exact c1), if_neg (show ¬ iI z < iI 0 by rw [iI_lt (by omega) (by omega)]; exact c0), iI_sub]
        by_cases c2 : iI (inp.length : Int) ≤ iI z
        · rw [if_pos c2]
          rw [iI_le (by omega) (by omega)] at c2
          rw [show z = (inp.length : Int) by omega]
          rfl
        · rw [if_neg c2]
          rfl
      · rw [if_pos (show 0 ≤ z ∧ z ≤ (inp.length : Int) from ⟨by omega, c1⟩), if_neg (by decide), iI_sub]
      · have e : z = ((z.toNat : Nat) : Int) := by omega
        rw [e]
        exact ⟨inp.take z.toNat, dic, out, b1.take (by omega), b2.take (by omega), b3⟩
    · refine ⟨-1, iI inp.length, iI inp.length, ?_, ?_, ?_⟩
      · rw [if_neg (by rw [iI_le (by omega) (by omega)]; exact c1)]
      · rw [if_neg (show ¬ (0 ≤ z ∧ z ≤ (inp.length : Int)) by omega), if_pos rfl]
      · exact ⟨inp, dic, out, ⟨rfl, b1.2⟩, ⟨rfl, b2.2⟩, b3⟩
theorem s_at {N : Nat} {cnt : Int32} {f : Nat → Int32} {xs : List Int} (h : BR N cnt f xs) (hN : N < 1073741824) {z : Int} (hz : -2147483648 ≤ z ∧ z < 2147483648) : m_Bytes_at (iI z) cnt N f = some (iI (if 0 ≤ z ∧ z < xs.length then xs.getD z.toNat 0 else 0)) := by
  obtain ⟨h1, h2, h3⟩ := h
  unfold m_Bytes_at
  rw [h1, show (0 : Int32) = iI 0 from rfl]
  by_cases c0 : z < 0
  · rw [if_pos (by rw [iI_lt (by omega) (by omega)]; exact c0), if_neg (by omega)]
  · rw [if_neg (by rw [iI_lt (by omega) (by omega)]; exact c0)]
    by_cases c1 : z < xs.length
    · rw [if_pos (by rw [iI_lt (by omega) (by omega)]; exact c1), chk_iI (by omega) (by omega), iI_clamp (by omega) (by omega), if_pos (by omega)]
      have h4 := h3 z.toNat (by omega)
      rw [h4.2, hb_and h4.1]
    · rw [if_neg (by rw [iI_lt (by omega) (by omega)]; exact c1), if_neg (by omega)]
theorem p_2 : P_2 RV0 := by
  intro a1 iN wN sF ob oa oN xN bN iF wF oF bF l1 l2 mi mo md mb mr mp mif mof mdf mtf mbf h
  obtain ⟨inp, dic, out, b1, b2, b3, b4, b5, b6, b7⟩ := id h
  obtain ⟨z, hz, rfl⟩ := iI_ex a1
  have hl := b5.2.1
  unfold m_FB_out m_Mo_out m_Bytes_size
  rw [s_at b5 (by omega) hz, b6.1, show (1 : Int32) = iI 1 from rfl, iI_sub, iI_j hz, iI_j (by omega), show (0 : Int64) = jI 0 from rfl, s_in (by omega) (by omega) (by omega)]
  simp only [Option.bind_some]
  rw [b5.1, show (0 : Int32) = iI 0 from rfl]
  rw [b5.1, b6.1] at h
  by_cases c0 : 0 ≤ z ∧ z < out.length
  · refine ⟨iI (out.getD z.toNat 0), ?_, ?_, h⟩
    · rw [if_neg (by rw [iI_lt (by omega) (by omega)]; omega), if_pos (by rw [iI_lt (by omega) (by omega)]; omega), if_pos c0]
    · rw [if_pos (show 0 ≤ z ∧ z ≤ (out.length : Int) - 1 by omega), if_neg (by decide), chk_iI (by omega) (by omega), iI_clamp (by omega) (by omega), (b6.2 z.toNat (by omega)).2]
  · refine ⟨-1, ?_, ?_, h⟩
    · by_cases c1 : z < 0
      · rw [if_pos (by rw [iI_lt (by omega) (by omega)]; omega)]; rfl
      · rw [if_neg (by rw [iI_lt (by omega) (by omega)]; omega), if_neg (by rw [iI_lt (by omega) (by omega)]; omega)]; rfl
    · rw [if_neg (show ¬ (0 ≤ z ∧ z ≤ (out.length : Int) - 1) by omega), if_pos rfl]; rfl
theorem s_keep {k n : Int} (hk : 0 ≤ k ∧ k < 2147483648) (hn : 0 ≤ n ∧ n < 2147483648) : m_Bytes_keep (iI k) (iI n) = some (iI (min k n)) := by
  unfold m_Bytes_keep
  rw [show (0 : Int32) = iI 0 from rfl, if_neg (by rw [iI_lt (by omega) (by omega)]; omega)]
  by_cases c : n ≤ k
  · rw [if_pos (by rw [iI_le (by omega) (by omega)]; exact c), Int.min_eq_right c]
  · rw [if_neg (by rw [iI_le (by omega) (by omega)]; exact c), Int.min_eq_left (by omega)]
/-- a stretch of a row goes behind another -/
theorem s_addRange {N N2 : Nat} {cnt cnt2 : Int32} {f g : Nat → Int32} {xs ys : List Int} (h : BR N cnt f xs) (h2 : BR N2 cnt2 g ys) (hN : N < 1073741824) (hN2 : N2 < 1073741824) {p n : Nat} (hp : p + n ≤ ys.length) (hl : xs.length + n ≤ N) : ok (m_Bytes_addRange (iI p) (iI n) cnt cnt2 N f N2 g) (fun o => BR N o.1 o.2 (xs ++ (ys.drop p).take n)) := by
  obtain ⟨h3, h4, h5⟩ := h
  obtain ⟨g3, g4, g5⟩ := h2
  unfold m_Bytes_addRange
  rw [h3, g3, iI_nI, iI_sub, iI_sub, show (0 : Int32) = iI 0 from rfl, if_neg (by rw [iI_lt (by omega) (by omega)]; omega), if_neg (by rw [iI_lt (by omega) (by omega)]; omega), if_neg (by rw [iI_lt (by omega) (by omega)]; omega), if_neg (by rw [iI_lt (by omega) (by omega)]; omega)]
  unfold acb
  rw [iI_clamp (by omega) (by omega), iI_clamp (by omega) (by omega), iI_clamp (by omega) (by omega)]
  simp only [Int.toNat_natCast]
  rw [if_pos]
  · refine ok_bnd (ok_some ?_)
    show BR N (iI xs.length + iI n) (va_cpy g f p xs.length n) _
    have hlen : (xs ++ (ys.drop p).take n).length = xs.length + n := by
      rw [List.length_append, List.length_take, List.length_drop]; omega
    refine ⟨by rw [iI_add, hlen]; simp, by omega, fun j hj => ?_⟩
    rw [hlen] at hj
    by_cases c : j < xs.length
    · rw [gd_l c]
      exact ⟨(h5 j c).1, by rw [pk_cpy_out (Or.inl c)]; exact (h5 j c).2⟩
    · rw [gd_r (by omega), pk_cpy_in (by omega) hj]
      have e : ((ys.drop p).take n).getD (j - xs.length) 0 = ys.getD (p + (j - xs.length)) 0 := by
        simp only [List.getD_eq_getElem?_getD]
        rw [List.getElem?_take_of_lt (by omega), List.getElem?_drop]
      rw [e]
      exact g5 _ (by omega)
  · refine ⟨by rw [iI_lt0 (by omega)]; omega, by rw [iI_lt0 (by omega)]; omega, by rw [iI_lt0 (by omega)]; omega, by omega, by omega, fun i hi => ?_⟩
    rw [(g5 (p + i) (by omega)).2]
    exact fit_hb _
theorem s_become {N N2 : Nat} {cnt cnt2 : Int32} {f g : Nat → Int32} {xs ys : List Int} (h : BR N cnt f xs) (h2 : BR N2 cnt2 g ys) (hN : N < 1073741824) (hN2 : N2 < 1073741824) (hl : ys.length ≤ N) : ok (m_Bytes_become cnt cnt2 N f N2 g) (fun o => BR N o.1 o.2 ys) := by
  unfold m_Bytes_become
  have h3 := h.1
  have h4 := h.2.1
  rw [h3, show (0 : Int32) = iI 0 from rfl, s_keep (by omega) (by omega), Int.min_eq_left (by omega)]
  simp only [Option.bind_some]
  refine ok_bind (Q := fun o => BR N o.1 o.2 ys) ?_ (fun o ho => ok_some ho)
  have h5 := s_addRange (p := 0) (n := ys.length) (BR.nil N f) h2 hN hN2 (by omega) (by simpa using hl)
  rw [show ([] : List Int) ++ (ys.drop 0).take ys.length = ys by simp] at h5
  rw [← h2.1] at h5
  exact h5
/-- the reference's copying -/
theorem s_carry {n0 n2 : Nat} {f g : Nat → Int32} (hn0 : n0 < 1073741824) (hn2 : n2 < 1073741824) {p q n : Nat} (hp : p + n ≤ n0) (hq : q + n ≤ n2) (hnn : n < 1048576) : ok (m_Mo_carry (iI p) (iI q) (iI n) n0 f n2 g) (fun o => o = va_cpy f g p q n) := by
  unfold m_Mo_carry
  refine ok_bind (Q := fun o => o = va_cpy f g p q n) ?_ (fun o ho => ok_some ho)
  refine ok_iter (I := fun s => ∃ k : Nat, k ≤ n ∧ s.2 = iI k ∧ s.1 = va_cpy f g p q k) (μ := fun s => n - s.2.toNatClampNeg) ?_ FU _ ⟨0, by omega, rfl, ?_⟩ ?_
  · rintro ⟨a, b⟩ ⟨k, hk, rfl, rfl⟩
    unfold m_Mo_carry_B3
    dsimp only
    by_cases c : n ≤ k
    · rw [if_pos (by rw [iI_le (by omega) (by omega)]; omega)]
      exact ok_some (by rw [show k = n by omega])
    · rw [if_neg (by rw [iI_le (by omega) (by omega)]; omega), iI_add, iI_add, chk_iI (by omega) (by omega), chk_iI (by omega) (by omega)]
      refine ok_bnd (ok_some ⟨⟨k + 1, by omega, ?_, ?_⟩, ?_⟩)
      · show iI k + 1 = _
        rw [show (1 : Int32) = iI 1 from rfl, iI_add]; rfl
      · show upd _ _ _ = _
        rw [iI_clamp (by omega) (by omega), iI_clamp (by omega) (by omega)]
        funext j
        rw [show ((q : Int) + (k : Int)).toNat = q + k by omega, show ((p : Int) + (k : Int)).toNat = p + k by omega]
        by_cases e : j = q + k
        · subst e
          rw [pk_us, pk_cpy_in (by omega) (by omega)]
          congr 1
          omega
        · rw [pk_un e]
          by_cases e2 : q ≤ j ∧ j < q + k
          · rw [pk_cpy_in e2.1 e2.2, pk_cpy_in e2.1 (by omega)]
          · rw [pk_cpy_out (by omega), pk_cpy_out (by omega)]
      · show n - (iI k + 1).toNatClampNeg < n - (iI k).toNatClampNeg
        rw [show (1 : Int32) = iI 1 from rfl, iI_add, iI_clamp (by omega) (by omega), iI_clamp (by omega) (by omega)]
        omega
  · funext j
    rw [pk_cpy_out (by omega)]
  · show n - (0 : Int32).toNatClampNeg < FU
    unfold FU
    omega
theorem MR.carry {c1 : Int32} {f g : Nat → Int32} {ys : List Int} (h : MR c1 f ys) : MR c1 (va_cpy f g 0 0 ys.length) ys := by
  refine ⟨h.1, fun j hj => ⟨(h.2 j hj).1, ?_⟩⟩
  rw [pk_cpy_in (by omega) (by omega)]
  simpa using (h.2 j hj).2
theorem p_3 : P_3 RV0 := by
  intro iN wN sF ob oa oN xN bN iF wF oF bF l1 l2 mi mo md mb mr mp mif mof mdf mtf mbf h
  obtain ⟨inp, dic, out, b1, b2, b3, b4, b5, b6, b7⟩ := id h
  have hl := b5.2.1
  obtain rfl := b5.1
  obtain rfl := b6.1
  unfold m_FB_back m_Mo_back m_Bytes_size
  simp only [Option.bind_some]
  by_cases c : (out.length : Int) ≤ 4000
  · have c1 : iI out.length ≤ (4000 : Int32) := by rw [show (4000 : Int32) = iI 4000 from rfl, iI_le (by omega) (by omega)]; exact c
    rw [if_pos c1, if_pos c1]
    obtain ⟨⟨o1, o2⟩, e1, e2⟩ := s_become b1 b5 (by omega) (by omega) (by omega)
    obtain ⟨o3, e3, e4⟩ := s_carry (f := mof) (g := mif) (n0 := 12000) (n2 := 4000) (p := 0) (q := 0) (n := out.length) (by omega) (by omega) (by omega) (by omega) (by omega)
    obtain rfl := e2.1
    subst e4
    rw [e1, show (0 : Int32) = iI (0 : Nat) from rfl, e3]
    simp only [Option.bind_some]
    exact ⟨_, _, _, _, _, rfl, rfl, out, dic, out, e2, b6.carry, b3, b4, b5, b6, b7⟩
  · have c1 : ¬ iI out.length ≤ (4000 : Int32) := by rw [show (4000 : Int32) = iI 4000 from rfl, iI_le (by omega) (by omega)]; exact c
    rw [if_neg c1, if_neg c1]
    exact ⟨_, _, _, _, _, rfl, rfl, h⟩
theorem p_4 : P_4 RV0 := by
  intro iN wN sF ob oa oN xN bN iF wF oF bF l1 l2 mi mo md mb mr mp mif mof mdf mtf mbf h
  obtain ⟨inp, dic, out, b1, b2, b3, b4, b5⟩ := id h
  have hl := b1.2.1
  obtain rfl := b1.1
  obtain rfl := b2.1
  unfold m_FB_dictionary m_Mo_dictionary m_Bytes_size
  simp only [Option.bind_some]
  by_cases c : (inp.length : Int) ≤ 1000
  · have c1 : iI inp.length ≤ (1000 : Int32) := by rw [show (1000 : Int32) = iI 1000 from rfl, iI_le (by omega) (by omega)]; exact c
    rw [if_pos c1, if_pos c1]
    obtain ⟨⟨o1, o2⟩, e1, e2⟩ := s_become b3 b1 (by omega) (by omega) (by omega)
    obtain ⟨o3, e3, e4⟩ := s_carry (f := mif) (g := mdf) (n0 := 4000) (n2 := 1000) (p := 0) (q := 0) (n := inp.length) (by omega) (by omega) (by omega) (by omega) (by omega)
    obtain rfl := e2.1
    subst e4
    have e5 := s_keep (k := 0) (n := inp.length) (by omega) (by omega)
    rw [Int.min_eq_left (by omega)] at e5
    rw [e1, show (0 : Int32) = iI (0 : Nat) from rfl, e3]
    simp only [Option.bind_some]
    rw [show iI ((0 : Nat) : Int) = iI 0 from rfl, e5]
    simp only [Option.bind_some]
    exact ⟨_, _, _, _, _, _, _, rfl, rfl, [], inp, out, BR.nil _ _, MR.nil _, e2, b2.carry, b5⟩
  · have c1 : ¬ iI inp.length ≤ (1000 : Int32) := by rw [show (1000 : Int32) = iI 1000 from rfl, iI_le (by omega) (by omega)]; exact c
    rw [if_neg c1, if_neg c1]
    exact ⟨_, _, _, _, _, _, _, rfl, rfl, h⟩
theorem s_ahf {N : Nat} {cnt : Int32} {f : Nat → Int32} {xs : List Int} (z : Int) (h : BR N cnt f xs) (hl : xs.length + 4 ≤ N) (hN : N < 1073741824) : ok (m_Bytes_addHighestFirst (iI z) cnt N f) (fun o => BR N o.1 o.2 (xs ++ be4 z)) := by
  unfold m_Bytes_addHighestFirst
  refine ok_bind (Q := fun o => BR N o.1 o.2 (xs ++ be4 z)) ?_ (fun o ho => ok_some ho)
  rw [show FU = 1048571 + 1 + 1 + 1 + 1 + 1 from rfl]
  refine ok_step ?_
  unfold m_Bytes_addHighestFirst_B3
  dsimp only
  rw [if_neg (by decide), iI_ushr z 24 24 (by decide)]
  refine ok_bind (s_add _ h (by omega) hN) ?_
  rintro ⟨c1, f1⟩ h1
  refine ok_bnd (ok_some (ok_step ?_))
  dsimp only
  rw [if_neg (by decide), iI_ushr z _ 16 (by decide)]
  refine ok_bind (s_add _ h1 (by simp; omega) hN) ?_
  rintro ⟨c2, f2⟩ h2
  refine ok_bnd (ok_some (ok_step ?_))
  dsimp only
  rw [if_neg (by decide), iI_ushr z _ 8 (by decide)]
  refine ok_bind (s_add _ h2 (by simp; omega) hN) ?_
  rintro ⟨c3, f3⟩ h3
  refine ok_bnd (ok_some (ok_step ?_))
  dsimp only
  rw [if_neg (by decide), iI_ushr z _ 0 (by decide)]
  refine ok_bind (s_add _ h3 (by simp; omega) hN) ?_
  rintro ⟨c4, f4⟩ h4
  refine ok_bnd (ok_some (ok_step ?_))
  dsimp only
  rw [if_pos (by decide)]
  refine ok_some ?_
  have e : xs ++ be4 z = xs ++ [z % 4294967296 / 2 ^ 24 % 256] ++ [z % 4294967296 / 2 ^ 16 % 256] ++ [z % 4294967296 / 2 ^ 8 % 256] ++ [z % 4294967296 / 2 ^ 0 % 256] := by
    unfold be4
    simp only [List.append_assoc, List.cons_append, List.nil_append]
    rw [show z % 4294967296 / 2 ^ 24 % 256 = z / 16777216 % 256 by omega, show z % 4294967296 / 2 ^ 16 % 256 = z / 65536 % 256 by omega, show z % 4294967296 / 2 ^ 8 % 256 = z / 256 % 256 by omega, show z % 4294967296 / 2 ^ 0 % 256 = z % 256 by omega]
  rw [e]
  exact h4
theorem s_put4 {cnt : Int32} {f : Nat → Int32} {xs : List Int} {z : Int} (hz : -2147483648 ≤ z ∧ z < 2147483648) (h : MR cnt f xs) (s : Int32) (k : Nat) (hs : ((s &&& 31).toBitVec.smod 32).toNat = k) : MR (cnt + 1) (upd f cnt.toNatClampNeg (ishr (iI z) s &&& 255)) (xs ++ [z / 2 ^ k % 256]) ∨ ¬ xs.length < 2147483647 := by
  by_cases hx : xs.length < 2147483647
  · refine Or.inl ?_
    have e1 := h.1
    rw [e1, show (1 : Int32) = iI 1 from rfl, iI_add, iI_clamp (by omega) (by omega), show ishr (iI z) s = iI (z / 2 ^ k) from iI_shr hz _ k hs, and255]
    exact h.push (by omega) rfl
  · exact Or.inr hx
theorem s_word {N : Nat} {cnt : Int32} {f : Nat → Int32} {xs : List Int} {z : Int} (hz : -2147483648 ≤ z ∧ z < 2147483648) (h : MR cnt f xs) (hl : xs.length + 4 ≤ N) (hN : N < 1073741824) : ok (m_Mo_word (iI z) cnt N f) (fun o => MR o.1 o.2 (xs ++ be4 z)) := by
  have ck : ∀ {β : Type} {c : Int32} {g : Nat → Int32} {ys : List Int} {k : Option β}, MR c g ys → ys.length < N → chk c N k = k := by
    intro β c g ys k hm hy
    rw [hm.1]
    exact chk_iI (by omega) (by omega)
  unfold m_Mo_word
  refine ok_bind (Q := fun o => MR o.1 o.2 (xs ++ be4 z)) ?_ (fun o ho => ok_some ho)
  rw [show FU = 1048571 + 1 + 1 + 1 + 1 + 1 from rfl]
  refine ok_step ?_
  unfold m_Mo_word_B3
  dsimp only
  rw [if_neg (by decide), ck h (by omega)]
  have h1 := (s_put4 hz h 24 24 (by decide)).resolve_right (by omega)
  refine ok_bnd (ok_bnd (ok_some (ok_step ?_)))
  dsimp only
  rw [if_neg (by decide), ck h1 (by simp; omega)]
  have h2 := (s_put4 hz h1 (24 + -8) 16 (by decide)).resolve_right (by simp; omega)
  refine ok_bnd (ok_bnd (ok_some (ok_step ?_)))
  dsimp only
  rw [if_neg (by decide), ck h2 (by simp; omega)]
  have h3 := (s_put4 hz h2 (24 + -8 + -8) 8 (by decide)).resolve_right (by simp; omega)
  refine ok_bnd (ok_bnd (ok_some (ok_step ?_)))
  dsimp only
  rw [if_neg (by decide), ck h3 (by simp; omega)]
  have h4 := (s_put4 hz h3 (24 + -8 + -8 + -8) 0 (by decide)).resolve_right (by simp; omega)
  refine ok_bnd (ok_bnd (ok_some (ok_step ?_)))
  dsimp only
  rw [if_pos (by decide)]
  refine ok_some ?_
  have e : xs ++ be4 z = xs ++ [z / 2 ^ 24 % 256] ++ [z / 2 ^ 16 % 256] ++ [z / 2 ^ 8 % 256] ++ [z / 2 ^ 0 % 256] := by
    unfold be4
    simp only [List.append_assoc, List.cons_append, List.nil_append]
    rw [show z / 2 ^ 0 = z by omega]
    rfl
  rw [e]
  exact h4
theorem p_0 : P_0 RV0 := by
  intro a1 a2 a3 a4 a5 iN wN sF ob oa oN xN bN iF wF oF bF l1 l2 mi mo md mb mr mp mif mof mdf mtf mbf h
  obtain ⟨inp, dic, out, b1, b2, b3⟩ := id h
  obtain ⟨z1, y1, rfl⟩ := iI_ex a1
  obtain ⟨z2, y2, rfl⟩ := iI_ex a2
  obtain ⟨z3, y3, rfl⟩ := iI_ex a3
  obtain ⟨z4, y4, rfl⟩ := iI_ex a4
  obtain ⟨z5, y5, rfl⟩ := iI_ex a5
  have hl := b1.2.1
  obtain rfl := b1.1
  obtain rfl := b2.1
  unfold m_FB_feed m_Mo_feed m_Bytes_size m_Bytes_room
  simp only [Option.bind_some]
  rw [iI_nI, iI_sub, show (20 : Int32) = iI 20 from rfl, iI_add, show (4000 : Int32) = iI 4000 from rfl]
  by_cases c : (inp.length : Int) + 20 ≤ 4000
  · rw [if_pos (by rw [iI_le (by omega) (by omega)]; omega), if_pos (by rw [iI_le (by omega) (by omega)]; omega)]
    have l4 : ∀ z, (be4 z).length = 4 := fun _ => rfl
    obtain ⟨⟨c1, f1⟩, e1, d1⟩ := s_ahf z1 b1 (by omega) (by omega)
    obtain ⟨⟨c2, f2⟩, e2, d2⟩ := s_ahf z2 d1 (by simp only [List.length_append, l4]; omega) (by omega)
    obtain ⟨⟨c3, f3⟩, e3, d3⟩ := s_ahf z3 d2 (by simp only [List.length_append, l4]; omega) (by omega)
    obtain ⟨⟨c4, f4⟩, e4, d4⟩ := s_ahf z4 d3 (by simp only [List.length_append, l4]; omega) (by omega)
    obtain ⟨⟨c5, f5⟩, e5, d5⟩ := s_ahf z5 d4 (by simp only [List.length_append, l4]; omega) (by omega)
    obtain ⟨⟨k1, g1⟩, q1, t1⟩ := s_word y1 b2 (N := 4000) (by omega) (by omega)
    obtain ⟨⟨k2, g2⟩, q2, t2⟩ := s_word y2 t1 (N := 4000) (by simp only [List.length_append, l4]; omega) (by omega)
    obtain ⟨⟨k3, g3⟩, q3, t3⟩ := s_word y3 t2 (N := 4000) (by simp only [List.length_append, l4]; omega) (by omega)
    obtain ⟨⟨k4, g4⟩, q4, t4⟩ := s_word y4 t3 (N := 4000) (by simp only [List.length_append, l4]; omega) (by omega)
    obtain ⟨⟨k5, g5⟩, q5, t5⟩ := s_word y5 t4 (N := 4000) (by simp only [List.length_append, l4]; omega) (by omega)
    rw [e1, q1]
    simp only [Option.bind_some]
    rw [e2, q2]
    simp only [Option.bind_some]
    rw [e3, q3]
    simp only [Option.bind_some]
    rw [e4, q4]
    simp only [Option.bind_some]
    rw [e5, q5]
    simp only [Option.bind_some]
    obtain rfl : c5 = k5 := d5.1.trans t5.1.symm
    exact ⟨_, _, _, _, _, rfl, rfl, _, dic, out, d5, t5, b3⟩
  · rw [if_neg (by rw [iI_le (by omega) (by omega)]; omega), if_neg (by rw [iI_le (by omega) (by omega)]; omega)]
    exact ⟨_, _, _, _, _, rfl, rfl, h⟩
theorem i10 : ((1 : Int32) = 0) = False := eq_false (by decide)
theorem p_5 : P_5 RV0 := by
  intro a1 a2 iN wN sF ob oa oN xN bN iF wF oF bF l1 l2 mi mo md mb mr mp mif mof mdf mtf mbf h
  obtain ⟨inp, dic, out, b1, b2, b3, b4, b5, b6, ⟨s1, ⟨B, s2, s3, s4⟩, s5⟩, b7⟩ := id h
  obtain ⟨z, hz, rfl⟩ := iI_ex a1
  obtain ⟨v, hv, rfl⟩ := iI_ex a2
  have lit : ∀ n : Nat, (OfNat.ofNat n : Int32) = iI (OfNat.ofNat n) := fun _ => rfl
  have bad : ∃ (r : Int32) (u w : Nat → Int32), some ((-1 : Int32), sF) = some (r, u) ∧ some ((-1 : Int32), mtf) = some (r, w) ∧ RV0 iN iF wN wF u oN oF xN bN bF ob oa l1 l2 mi mif mo mof md mdf w mb mbf mr mp := ⟨_, _, _, rfl, rfl, h⟩
  have good : ∀ j : Nat, j ≤ 5 → z = (j : Int) → (j = 0 → 16 ≤ v ∧ v ≤ 4000) → (1 ≤ j → j ≤ 4 → v = 0 ∨ v = 1) → ∃ (r : Int32) (u w : Nat → Int32), m_FB_set_J51 (iI z) (iI v) 6 sF = some (r, u) ∧ m_Mo_set_J50 (iI z) (iI v) 6 mtf 1 = some (r, w) ∧ RV0 iN iF wN wF u oN oF xN bN bF ob oa l1 l2 mi mif mo mof md mdf w mb mbf mr mp := by
    intro j hj hzj hv0 hv1
    unfold m_FB_set_J51 m_Mo_set_J50
    rw [if_neg (by decide), chk_iI (by omega) (by omega), chk_iI (by omega) (by omega)]
    simp only [bnd]
    rw [chk_iI (by omega) (by omega), chk_iI (by omega) (by omega), iI_clamp (by omega) (by omega), hzj, Int.toNat_natCast, s1 j (by omega)]
    refine ⟨_, _, _, rfl, rfl, inp, dic, out, b1, b2, b3, b4, b5, b6, ⟨fun q hq => ?_, ?_, fun q h1 h2 => ?_⟩, b7⟩
    · by_cases e : q = j
      · rw [e, pk_us, pk_us]
      · rw [pk_un e, pk_un e]; exact s1 q hq
    · by_cases e : j = 0
      · exact ⟨v, (hv0 e).1, (hv0 e).2, by rw [e, pk_us]⟩
      · exact ⟨B, s2, s3, by rw [pk_un (by omega)]; exact s4⟩
    · by_cases e : q = j
      · rw [e, pk_us]
        rcases hv1 (by omega) (by omega) with e1 | e1
        · exact Or.inl (by rw [e1]; rfl)
        · exact Or.inr (by rw [e1]; rfl)
      · rw [pk_un e]; exact s5 q h1 h2
  unfold m_FB_set m_FB_set_J30 m_Mo_set
  rw [iI_j hz, iI_j hv, show (16 : Int64) = jI 16 from rfl, show (4000 : Int64) = jI 4000 from rfl, show (1 : Int64) = jI 1 from rfl, show (4 : Int64) = jI 4 from rfl, show (0 : Int64) = jI 0 from rfl, s_in (by omega) (by omega) (by omega), s_in (by omega) (by omega) (by omega), s_in (by omega) (by omega) (by omega)]
  simp only [Option.bind_some]
  rw [show (5 : Int32) = iI 5 from rfl, show (16 : Int32) = iI 16 from rfl, show (4000 : Int32) = iI 4000 from rfl, show (4 : Int32) = iI 4 from rfl]
  simp only [iI_lt0 hz, iI_eq0 hz, iI_eq0 hv, iI_le hz (show -2147483648 ≤ (5 : Int) ∧ (5 : Int) < 2147483648 by omega), iI_lt hv (show -2147483648 ≤ (16 : Int) ∧ (16 : Int) < 2147483648 by omega), iI_le hv (show -2147483648 ≤ (4000 : Int) ∧ (4000 : Int) < 2147483648 by omega), iI_eq hz (show -2147483648 ≤ (5 : Int) ∧ (5 : Int) < 2147483648 by omega), iI_lt (show -2147483648 ≤ (4 : Int) ∧ (4 : Int) < 2147483648 by omega) hz, show (iI z < (1 : Int32)) = (z < 1) from iI_lt hz (b := 1) (by omega), show (iI v = (1 : Int32)) = (v = 1) from iI_eq hv (b := 1) (by omega)]
  have J0 : m_Mo_set_J50 (iI z) (iI v) 6 mtf 0 = some ((-1 : Int32), mtf) := by
    unfold m_Mo_set_J50
    rw [if_pos rfl]
  by_cases c0 : z = 0
  · rw [if_neg (by omega), if_pos (by omega), if_pos c0, if_pos c0]
    by_cases c1 : 16 ≤ v ∧ v ≤ 4000
    · rw [if_neg (by omega), if_pos c1.2, if_pos (by omega), if_pos c1]
      exact good 0 (by omega) c0 (fun _ => c1) (fun h => absurd h (by omega))
    · rw [if_neg c1, J0]
      by_cases c2 : v < 16
      · rw [if_pos c2]; exact bad
      · rw [if_neg c2, if_neg (by omega)]; exact bad
  · rw [if_neg c0, if_neg c0]
    by_cases c5 : z = 5
    · rw [if_neg (by omega), if_pos (by omega), if_pos c5, if_neg (by omega), if_pos (by omega)]
      exact good 5 (by omega) c5 (fun h => absurd h (by omega)) (fun h1 h2 => absurd h2 (by omega))
    · rw [if_neg c5]
      by_cases c1 : 1 ≤ z ∧ z ≤ 4
      · have n1 : ¬ z < 0 := by omega
        have n2 : z ≤ 5 := by omega
        have n3 : ¬ z < 1 := by omega
        have n4 : ¬ 4 < z := by omega
        by_cases c2 : v = 0
        · have n5 : 0 ≤ v ∧ v ≤ 1 := by omega
          simp only [n1, n2, n3, n4, c1, n5, eq_true c2, and_self, i10, ↓reduceIte]
          exact good z.toNat (by omega) (by omega) (fun h => absurd h (by omega)) (fun _ _ => Or.inl c2)
        · by_cases c3 : v = 1
          · have n5 : 0 ≤ v ∧ v ≤ 1 := by omega
            simp only [n1, n2, n3, n4, c1, n5, c2, eq_true c3, and_self, i10, ↓reduceIte]
            exact good z.toNat (by omega) (by omega) (fun h => absurd h (by omega)) (fun _ _ => Or.inr c3)
          · have n5 : ¬ (0 ≤ v ∧ v ≤ 1) := by omega
            simp only [n1, n2, n3, n4, c1, n5, c2, c3, and_self, i10, ↓reduceIte, J0]
            exact bad
      · rw [if_neg c1, if_pos rfl, J0]
        by_cases c2 : z < 0
        · rw [if_pos c2]; exact bad
        · rw [if_neg c2, if_neg (by omega)]; exact bad
theorem p_11 : P_11 RV0 := by
  intro a1 a2 iN wN sF ob oa oN xN bN iF wF oF bF l1 l2 mi mo md mb mr mp mif mof mdf mtf mbf h
  obtain ⟨inp, dic, out, b1, b2, b3, b4, b5, b6, b7, b8, ⟨k, k1, k2, k3, k4⟩, b9⟩ := id h
  obtain ⟨z, hz, rfl⟩ := iI_ex a1
  obtain ⟨v, hv, rfl⟩ := iI_ex a2
  subst k2
  subst k3
  unfold m_FB_block m_Mo_block m_Blocks_size m_Blocks_fact
  rw [show (1 : Int32) = iI 1 from rfl, iI_sub, iI_j hz, iI_j hv, iI_j (by omega), show (0 : Int64) = jI 0 from rfl, show (6 : Int64) = jI 6 from rfl, s_in (by omega) (by omega) (by omega), s_in (by omega) (by omega) (by omega)]
  simp only [Option.bind_some]
  simp only [iI_lt0 hz, iI_lt0 hv, show (iI v < (7 : Int32)) = (v < 7) from iI_lt hv (b := 7) (by omega), iI_lt hz (show -2147483648 ≤ (k : Int) ∧ (k : Int) < 2147483648 by omega), iI_le (show -2147483648 ≤ (k : Int) ∧ (k : Int) < 2147483648 by omega) hz]
  by_cases c0 : 0 ≤ v ∧ v ≤ 6
  · have n1 : ¬ v < 0 := by omega
    have n2 : v < 7 := by omega
    by_cases c1 : 0 ≤ z ∧ z < k
    · have n3 : ¬ z < 0 := by omega
      have n4 : z < k := by omega
      have n5 : ¬ (k : Int) ≤ z := by omega
      have n6 : 0 ≤ z ∧ z ≤ (k : Int) - 1 := by omega
      simp only [n1, n2, n3, n4, n5, n6, c0, and_self, i10, ↓reduceIte]
      rw [show (7 : Int32) = iI 7 from rfl, iI_mul, iI_mul, iI_add, iI_add, chk_iI (by omega) (by omega), chk_iI (by omega) (by omega), iI_clamp (by omega) (by omega), iI_clamp (by omega) (by omega)]
      refine ⟨_, rfl, ?_, h⟩
      rw [show (7 * z + v).toNat = (z * 7 + v).toNat by omega, k4 _ (by omega)]
    · have n6 : ¬ (0 ≤ z ∧ z ≤ (k : Int) - 1) := by omega
      by_cases c2 : z < 0
      · simp only [n1, n2, n6, c0, c2, and_self, i10, ↓reduceIte]
        exact ⟨_, rfl, rfl, h⟩
      · have n4 : ¬ z < k := by omega
        simp only [n1, n2, n4, n6, c0, c2, and_self, i10, ↓reduceIte]
        exact ⟨_, rfl, rfl, h⟩
  · by_cases c2 : v < 0
    · simp only [c0, c2, and_self, i10, ↓reduceIte]
      exact ⟨_, rfl, rfl, h⟩
    · have n2 : ¬ v < 7 := by omega
      simp only [c0, c2, n2, and_self, i10, ↓reduceIte]
      exact ⟨_, rfl, rfl, h⟩
