/-! calls that are short -/
theorem p_16 : P_16 RV0 := by
  intro a1 iN wN sF ob oa oN xN bN iF wF oF bF l1 l2 mi mo md mb mr mp mif mof mdf mtf mbf h
  obtain ⟨inp, dic, out, b1, b2, b3, b4, b5, b6, b7, b8, ⟨k, b9, b10, b11, b12⟩, b13⟩ := id h
  obtain rfl : mi = iN := b2.1.trans b1.1.symm
  obtain rfl : mo = oN := b6.1.trans b5.1.symm
  obtain rfl : md = wN := b4.1.trans b3.1.symm
  obtain rfl : mb = bN := b11.trans b10.symm
  unfold m_FB_told m_Mo_told m_Bytes_size m_Blocks_size
  simp only [Option.bind_some]
  by_cases c0 : a1 = 0
  · exact ⟨_, by rw [if_pos c0], by rw [if_pos c0], h⟩
  · rw [if_neg c0]
    by_cases c1 : a1 = 1
    · exact ⟨_, by rw [if_pos c1], by rw [if_pos c1], h⟩
    · rw [if_neg c1]
      by_cases c2 : a1 = 2
      · exact ⟨_, by rw [if_pos c2], by rw [if_pos c2], h⟩
      · rw [if_neg c2]
        by_cases c3 : a1 = 3
        · exact ⟨_, by rw [if_pos c3], by rw [if_pos c3], h⟩
        · exact ⟨_, by rw [if_neg c3], by rw [if_neg c3], h⟩
theorem p_15 : P_15 RV0 := by
  intro a1 a2 iN wN sF ob oa oN xN bN iF wF oF bF l1 l2 mi mo md mb mr mp mif mof mdf mtf mbf h
  unfold m_FB_bound m_Mo_bound m_Mo_bound_J9
  by_cases c0 : 0 ≤ a2
  · by_cases c1 : a1 = 0
    · exact ⟨_, by rw [if_pos c0, if_pos c1], by rw [if_pos c1, if_pos c0, if_pos c1], h⟩
    · by_cases c2 : a1 = 2
      · exact ⟨_, by rw [if_pos c0, if_neg c1, if_pos c2], by rw [if_neg c1, if_pos c2, if_pos c0, if_neg c1], h⟩
      · exact ⟨_, by rw [if_pos c0, if_neg c1, if_neg c2], by rw [if_neg c1, if_neg c2], h⟩
  · by_cases c1 : a1 = 0
    · exact ⟨_, by rw [if_neg c0], by rw [if_pos c1, if_neg c0], h⟩
    · by_cases c2 : a1 = 2
      · exact ⟨_, by rw [if_neg c0], by rw [if_neg c1, if_pos c2, if_neg c0], h⟩
      · exact ⟨_, by rw [if_neg c0], by rw [if_neg c1, if_neg c2], h⟩
theorem p_10 : P_10 RV0 := by
  intro a1 iN wN sF ob oa oN xN bN iF wF oF bF l1 l2 mi mo md mb mr mp mif mof mdf mtf mbf h
  obtain ⟨inp, dic, out, b1, b2, b3, b4, b5, b6, b7, b8, b9, ⟨r1, r2, r3⟩, b13⟩ := id h
  subst r1
  unfold m_FB_rule m_Mo_rule m_Opener_brokenRule m_Opener_brokenPlace
  simp only [Option.bind_some]
  by_cases c0 : a1 = 0
  · exact ⟨_, by rw [if_pos c0], by rw [if_pos c0], h⟩
  · rw [if_neg c0, if_neg c0]
    by_cases c1 : a1 = 1
    · rw [if_pos c1, if_pos c1]
      by_cases c2 : ob = 0
      · exact ⟨_, by rw [if_pos c2], by rw [r2 c2], h⟩
      · exact ⟨_, by rw [if_neg c2], by rw [r3 c2], h⟩
    · exact ⟨_, by rw [if_neg c1], by rw [if_neg c1], h⟩
theorem p_1 : P_1 RV0 := by
  intro a1 iN wN sF ob oa oN xN bN iF wF oF bF l1 l2 mi mo md mb mr mp mif mof mdf mtf mbf h
  obtain ⟨inp, dic, out, b1, b2, b3⟩ := id h
  obtain ⟨z, hz, rfl⟩ := iI_ex a1
  have hl := b1.2.1
  unfold m_FB_cut m_Mo_cut m_Bytes_size m_Bytes_keep
  rw [b1.1, b2.1]
  simp only [Option.bind_some, bnd]
  rw [iI_j hz, iI_j (by omega), show (0 : Int64) = jI 0 from rfl, s_in (by omega) (by omega) (by omega), show (0 : Int32) = iI 0 from rfl]
  simp only [Option.bind_some]
  by_cases c0 : z < 0
  · refine ⟨-1, iI inp.length, iI inp.length, ?_, ?_, ?_⟩
    · rw [if_pos (by rw [iI_lt (by omega) (by omega)]; exact c0)]
    · rw [if_neg (show ¬ (0 ≤ z ∧ z ≤ (inp.length : Int)) by omega), if_pos rfl]
    · exact ⟨inp, dic, out, ⟨rfl, b1.2⟩, ⟨rfl, b2.2⟩, b3⟩
  · rw [if_neg (show ¬ iI z < iI 0 by rw [iI_lt (by omega) (by omega)]; exact c0)]
    by_cases c1 : z ≤ inp.length
    · refine ⟨iI (inp.length - z), iI z, iI z, ?_, ?_, ?_⟩
      · rw [if_pos (by rw [iI_le (by omega) (by omega)]; exact c1), if_neg (show ¬ iI z < iI 0 by rw [iI_lt (by omega) (by omega)]; exact c0), iI_sub]
        by_cases c2 : iI (inp.length : Int) ≤ iI z
        · rw [if_pos c2]
          rw [iI_le (by omega) (by omega)] at c2
          rw [show z = (inp.length : Int) by omega]
          rfl
        · rw [if_neg c2]
          rfl
      · rw [if_pos (show 0 ≤ z ∧ z ≤ (inp.length : Int) from ⟨by omega, c1⟩), if_neg (by decide), iI_sub]
      · have e : z = ((z.toNat : Nat) : Int) := by omega
        rw [e]
        exact ⟨inp.take z.toNat, dic, out, b1.take (by omega), b2.take (by omega), b3⟩
    · refine ⟨-1, iI inp.length, iI inp.length, ?_, ?_, ?_⟩
      · rw [if_neg (by rw [iI_le (by omega) (by omega)]; exact c1)]
      · rw [if_neg (show ¬ (0 ≤ z ∧ z ≤ (inp.length : Int)) by omega), if_pos rfl]
      · exact ⟨inp, dic, out, ⟨rfl, b1.2⟩, ⟨rfl, b2.2⟩, b3⟩
theorem s_at {N : Nat} {cnt : Int32} {f : Nat → Int32} {xs : List Int} (h : BR N cnt f xs) (hN : N < 1073741824) {z : Int} (hz : -2147483648 ≤ z ∧ z < 2147483648) : m_Bytes_at (iI z) cnt N f = some (iI (if 0 ≤ z ∧ z < xs.length then xs.getD z.toNat 0 else 0)) := by
  obtain ⟨h1, h2, h3⟩ := h
  unfold m_Bytes_at
  rw [h1, show (0 : Int32) = iI 0 from rfl]
  by_cases c0 : z < 0
  · rw [if_pos (by rw [iI_lt (by omega) (by omega)]; exact c0), if_neg (by omega)]
  · rw [if_neg (by rw [iI_lt (by omega) (by omega)]; exact c0)]
    by_cases c1 : z < xs.length
    · rw [if_pos (by rw [iI_lt (by omega) (by omega)]; exact c1), chk_iI (by omega) (by omega), iI_clamp (by omega) (by omega), if_pos (by omega)]
      have h4 := h3 z.toNat (by omega)
      rw [h4.2, hb_and h4.1]
    · rw [if_neg (by rw [iI_lt (by omega) (by omega)]; exact c1), if_neg (by omega)]
theorem p_2 : P_2 RV0 := by
  intro a1 iN wN sF ob oa oN xN bN iF wF oF bF l1 l2 mi mo md mb mr mp mif mof mdf mtf mbf h
  obtain ⟨inp, dic, out, b1, b2, b3, b4, b5, b6, b7⟩ := id h
  obtain ⟨z, hz, rfl⟩ := iI_ex a1
  have hl := b5.2.1
  unfold m_FB_out m_Mo_out m_Bytes_size
  rw [s_at b5 (by omega) hz, b6.1, show (1 : Int32) = iI 1 from rfl, iI_sub, iI_j hz, iI_j (by omega), show (0 : Int64) = jI 0 from rfl, s_in (by omega) (by omega) (by omega)]
  simp only [Option.bind_some]
  rw [b5.1, show (0 : Int32) = iI 0 from rfl]
  rw [b5.1, b6.1] at h
  by_cases c0 : 0 ≤ z ∧ z < out.length
  · refine ⟨iI (out.getD z.toNat 0), ?_, ?_, h⟩
    · rw [if_neg (by rw [iI_lt (by omega) (by omega)]; omega), if_pos (by rw [iI_lt (by omega) (by omega)]; omega), if_pos c0]
    · rw [if_pos (show 0 ≤ z ∧ z ≤ (out.length : Int) - 1 by omega), if_neg (by decide), chk_iI (by omega) (by omega), iI_clamp (by omega) (by omega), (b6.2 z.toNat (by omega)).2]
  · refine ⟨-1, ?_, ?_, h⟩
    · by_cases c1 : z < 0
      · rw [if_pos (by rw [iI_lt (by omega) (by omega)]; omega)]; rfl
      · rw [if_neg (by rw [iI_lt (by omega) (by omega)]; omega), if_neg (by rw [iI_lt (by omega) (by omega)]; omega)]; rfl
    · rw [if_neg (show ¬ (0 ≤ z ∧ z ≤ (out.length : Int) - 1) by omega), if_pos rfl]; rfl
theorem s_keep {k n : Int} (hk : 0 ≤ k ∧ k < 2147483648) (hn : 0 ≤ n ∧ n < 2147483648) : m_Bytes_keep (iI k) (iI n) = some (iI (min k n)) := by
  unfold m_Bytes_keep
  rw [show (0 : Int32) = iI 0 from rfl, if_neg (by rw [iI_lt (by omega) (by omega)]; omega)]
  by_cases c : n ≤ k
  · rw [if_pos (by rw [iI_le (by omega) (by omega)]; exact c), Int.min_eq_right c]
  · rw [if_neg (by rw [iI_le (by omega) (by omega)]; exact c), Int.min_eq_left (by omega)]
/-- a stretch of a row goes behind another -/
theorem s_addRange {N N2 : Nat} {cnt cnt2 : Int32} {f g : Nat → Int32} {xs ys : List Int} (h : BR N cnt f xs) (h2 : BR N2 cnt2 g ys) (hN : N < 1073741824) (hN2 : N2 < 1073741824) {p n : Nat} (hp : p + n ≤ ys.length) (hl : xs.length + n ≤ N) : ok (m_Bytes_addRange (iI p) (iI n) cnt cnt2 N f N2 g) (fun o => BR N o.1 o.2 (xs ++ (ys.drop p).take n)) := by
  obtain ⟨h3, h4, h5⟩ := h
  obtain ⟨g3, g4, g5⟩ := h2
  unfold m_Bytes_addRange
  rw [h3, g3, iI_nI, iI_sub, iI_sub, show (0 : Int32) = iI 0 from rfl, if_neg (by rw [iI_lt (by omega) (by omega)]; omega), if_neg (by rw [iI_lt (by omega) (by omega)]; omega), if_neg (by rw [iI_lt (by omega) (by omega)]; omega), if_neg (by rw [iI_lt (by omega) (by omega)]; omega)]
  unfold acb
  rw [iI_clamp (by omega) (by omega), iI_clamp (by omega) (by omega), iI_clamp (by omega) (by omega)]
  simp only [Int.toNat_natCast]
  rw [if_pos]
  · refine ok_bnd (ok_some ?_)
    show BR N (iI xs.length + iI n) (va_cpy g f p xs.length n) _
    have hlen : (xs ++ (ys.drop p).take n).length = xs.length + n := by
      rw [List.length_append, List.length_take, List.length_drop]; omega
    refine ⟨by rw [iI_add, hlen]; simp, by omega, fun j hj => ?_⟩
    rw [hlen] at hj
    by_cases c : j < xs.length
    · rw [gd_l c]
      exact ⟨(h5 j c).1, by rw [pk_cpy_out (Or.inl c)]; exact (h5 j c).2⟩
    · rw [gd_r (by omega), pk_cpy_in (by omega) hj]
      have e : ((ys.drop p).take n).getD (j - xs.length) 0 = ys.getD (p + (j - xs.length)) 0 := by
        simp only [List.getD_eq_getElem?_getD]
        rw [List.getElem?_take_of_lt (by omega), List.getElem?_drop]
      rw [e]
      exact g5 _ (by omega)
  · refine ⟨by rw [iI_lt0 (by omega)]; omega, by rw [iI_lt0 (by omega)]; omega, by rw [iI_lt0 (by omega)]; omega, by omega, by omega, fun i hi => ?_⟩
    rw [(g5 (p + i) (by omega)).2]
    exact fit_hb _
theorem s_become {N N2 : Nat} {cnt cnt2 : Int32} {f g : Nat → Int32} {xs ys : List Int} (h : BR N cnt f xs) (h2 : BR N2 cnt2 g ys) (hN : N < 1073741824) (hN2 : N2 < 1073741824) (hl : ys.length ≤ N) : ok (m_Bytes_become cnt cnt2 N f N2 g) (fun o => BR N o.1 o.2 ys) := by
  unfold m_Bytes_become
  have h3 := h.1
  have h4 := h.2.1
  rw [h3, show (0 : Int32) = iI 0 from rfl, s_keep (by omega) (by omega), Int.min_eq_left (by omega)]
  simp only [Option.bind_some]
  refine ok_bind (Q := fun o => BR N o.1 o.2 ys) ?_ (fun o ho => ok_some ho)
  have h5 := s_addRange (p := 0) (n := ys.length) (BR.nil N f) h2 hN hN2 (by omega) (by simpa using hl)
  rw [show ([] : List Int) ++ (ys.drop 0).take ys.length = ys by simp] at h5
  rw [← h2.1] at h5
  exact h5
/-- the reference's copying -/
theorem s_carry {n0 n2 : Nat} {f g : Nat → Int32} (hn0 : n0 < 1073741824) (hn2 : n2 < 1073741824) {p q n : Nat} (hp : p + n ≤ n0) (hq : q + n ≤ n2) (hnn : n < 1048576) : ok (m_Mo_carry (iI p) (iI q) (iI n) n0 f n2 g) (fun o => o = va_cpy f g p q n) := by
  unfold m_Mo_carry
  refine ok_bind (Q := fun o => o = va_cpy f g p q n) ?_ (fun o ho => ok_some ho)
  refine ok_iter (I := fun s => ∃ k : Nat, k ≤ n ∧ s.2 = iI k ∧ s.1 = va_cpy f g p q k) (μ := fun s => n - s.2.toNatClampNeg) ?_ FU _ ⟨0, by omega, rfl, ?_⟩ ?_
  · rintro ⟨a, b⟩ ⟨k, hk, rfl, rfl⟩
    unfold m_Mo_carry_B3
    dsimp only
    by_cases c : n ≤ k
    · rw [if_pos (by rw [iI_le (by omega) (by omega)]; omega)]
      exact ok_some (by rw [show k = n by omega])
    · rw [if_neg (by rw [iI_le (by omega) (by omega)]; omega), iI_add, iI_add, chk_iI (by omega) (by omega), chk_iI (by omega) (by omega)]
      refine ok_bnd (ok_some ⟨⟨k + 1, by omega, ?_, ?_⟩, ?_⟩)
      · show iI k + 1 = _
        rw [show (1 : Int32) = iI 1 from rfl, iI_add]; rfl
      · show upd _ _ _ = _
        rw [iI_clamp (by omega) (by omega), iI_clamp (by omega) (by omega)]
        funext j
        rw [show ((q : Int) + (k : Int)).toNat = q + k by omega, show ((p : Int) + (k : Int)).toNat = p + k by omega]
        by_cases e : j = q + k
        · subst e
          rw [pk_us, pk_cpy_in (by omega) (by omega)]
          congr 1
          omega
        · rw [pk_un e]
          by_cases e2 : q ≤ j ∧ j < q + k
          · rw [pk_cpy_in e2.1 e2.2, pk_cpy_in e2.1 (by omega)]
          · rw [pk_cpy_out (by omega), pk_cpy_out (by omega)]
      · show n - (iI k + 1).toNatClampNeg < n - (iI k).toNatClampNeg
        rw [show (1 : Int32) = iI 1 from rfl, iI_add, iI_clamp (by omega) (by omega), iI_clamp (by omega) (by omega)]
        omega
  · funext j
    rw [pk_cpy_out (by omega)]
  · show n - (0 : Int32).toNatClampNeg < FU
    unfold FU
    omega
theorem MR.carry {c1 : Int32} {f g : Nat → Int32} {ys : List Int} (h : MR c1 f ys) : MR c1 (va_cpy f g 0 0 ys.length) ys := by
  refine ⟨h.1, fun j hj => ⟨(h.2 j hj).1, ?_⟩⟩
  rw [pk_cpy_in (by omega) (by omega)]
  simpa using (h.2 j hj).2
theorem p_3 : P_3 RV0 := by
  intro iN wN sF ob oa oN xN bN iF wF oF bF l1 l2 mi mo md mb mr mp mif mof mdf mtf mbf h
  obtain ⟨inp, dic, out, b1, b2, b3, b4, b5, b6, b7⟩ := id h
  have hl := b5.2.1
  obtain rfl := b5.1
  obtain rfl := b6.1
  unfold m_FB_back m_Mo_back m_Bytes_size
  simp only [Option.bind_some]
  by_cases c : (out.length : Int) ≤ 4000
  · have c1 : iI out.length ≤ (4000 : Int32) := by rw [show (4000 : Int32) = iI 4000 from rfl, iI_le (by omega) (by omega)]; exact c
    rw [if_pos c1, if_pos c1]
    obtain ⟨⟨o1, o2⟩, e1, e2⟩ := s_become b1 b5 (by omega) (by omega) (by omega)
    obtain ⟨o3, e3, e4⟩ := s_carry (f := mof) (g := mif) (n0 := 12000) (n2 := 4000) (p := 0) (q := 0) (n := out.length) (by omega) (by omega) (by omega) (by omega) (by omega)
    obtain rfl := e2.1
    subst e4
    rw [e1, show (0 : Int32) = iI (0 : Nat) from rfl, e3]
    simp only [Option.bind_some]
    exact ⟨_, _, _, _, _, rfl, rfl, out, dic, out, e2, b6.carry, b3, b4, b5, b6, b7⟩
  · have c1 : ¬ iI out.length ≤ (4000 : Int32) := by rw [show (4000 : Int32) = iI 4000 from rfl, iI_le (by omega) (by omega)]; exact c
    rw [if_neg c1, if_neg c1]
    exact ⟨_, _, _, _, _, rfl, rfl, h⟩
theorem p_4 : P_4 RV0 := by
  intro iN wN sF ob oa oN xN bN iF wF oF bF l1 l2 mi mo md mb mr mp mif mof mdf mtf mbf h
  obtain ⟨inp, dic, out, b1, b2, b3, b4, b5⟩ := id h
  have hl := b1.2.1
  obtain rfl := b1.1
  obtain rfl := b2.1
  unfold m_FB_dictionary m_Mo_dictionary m_Bytes_size
  simp only [Option.bind_some]
  by_cases c : (inp.length : Int) ≤ 1000
  · have c1 : iI inp.length ≤ (1000 : Int32) := by rw [show (1000 : Int32) = iI 1000 from rfl, iI_le (by omega) (by omega)]; exact c
    rw [if_pos c1, if_pos c1]
    obtain ⟨⟨o1, o2⟩, e1, e2⟩ := s_become b3 b1 (by omega) (by omega) (by omega)
    obtain ⟨o3, e3, e4⟩ := s_carry (f := mif) (g := mdf) (n0 := 4000) (n2 := 1000) (p := 0) (q := 0) (n := inp.length) (by omega) (by omega) (by omega) (by omega) (by omega)
    obtain rfl := e2.1
    subst e4
    have e5 := s_keep (k := 0) (n := inp.length) (by omega) (by omega)
    rw [Int.min_eq_left (by omega)] at e5
    rw [e1, show (0 : Int32) = iI (0 : Nat) from rfl, e3]
    simp only [Option.bind_some]
    rw [show iI ((0 : Nat) : Int) = iI 0 from rfl, e5]
    simp only [Option.bind_some]
    exact ⟨_, _, _, _, _, _, _, rfl, rfl, [], inp, out, BR.nil _ _, MR.nil _, e2, b2.carry, b5⟩
  · have c1 : ¬ iI inp.length ≤ (1000 : Int32) := by rw [show (1000 : Int32) = iI 1000 from rfl, iI_le (by omega) (by omega)]; exact c
    rw [if_neg c1, if_neg c1]
    exact ⟨_, _, _, _, _, _, _, rfl, rfl, h⟩
theorem s_ahf {N : Nat} {cnt : Int32} {f : Nat → Int32} {xs : List Int} (z : Int) (h : BR N cnt f xs) (hl : xs.length + 4 ≤ N) (hN : N < 1073741824) : ok (m_Bytes_addHighestFirst (iI z) cnt N f) (fun o => BR N o.1 o.2 (xs ++ be4 z)) := by
  unfold m_Bytes_addHighestFirst
  refine ok_bind (Q := fun o => BR N o.1 o.2 (xs ++ be4 z)) ?_ (fun o ho => ok_some ho)
  rw [show FU = 1048571 + 1 + 1 + 1 + 1 + 1 from rfl]
  refine ok_step ?_
  unfold m_Bytes_addHighestFirst_B3
  rw [if_neg (by decide), iI_ushr z 24 24 (by decide)]
  refine ok_bind (s_add _ h (by omega) hN) ?_
  rintro ⟨c1, f1⟩ h1
  refine ok_bnd (ok_some (ok_step ?_))
  dsimp only
  rw [if_neg (by decide), iI_ushr z _ 16 (by decide)]
  refine ok_bind (s_add _ h1 (by simp; omega) hN) ?_
  rintro ⟨c2, f2⟩ h2
  refine ok_bnd (ok_some (ok_step ?_))
  dsimp only
  rw [if_neg (by decide), iI_ushr z _ 8 (by decide)]
  refine ok_bind (s_add _ h2 (by simp; omega) hN) ?_
  rintro ⟨c3, f3⟩ h3
  refine ok_bnd (ok_some (ok_step ?_))
  dsimp only
  rw [if_neg (by decide), iI_ushr z _ 0 (by decide)]
  refine ok_bind (s_add _ h3 (by simp; omega) hN) ?_
  rintro ⟨c4, f4⟩ h4
  refine ok_bnd (ok_some (ok_step ?_))
  dsimp only
  rw [if_pos (by decide)]
  refine ok_some ?_
  have e : xs ++ be4 z = xs ++ [z % 4294967296 / 2 ^ 24 % 256] ++ [z % 4294967296 / 2 ^ 16 % 256] ++ [z % 4294967296 / 2 ^ 8 % 256] ++ [z % 4294967296 / 2 ^ 0 % 256] := by
    unfold be4
    simp only [List.append_assoc, List.cons_append, List.nil_append]
    rw [show z % 4294967296 / 2 ^ 24 % 256 = z / 16777216 % 256 by omega, show z % 4294967296 / 2 ^ 16 % 256 = z / 65536 % 256 by omega, show z % 4294967296 / 2 ^ 8 % 256 = z / 256 % 256 by omega, show z % 4294967296 / 2 ^ 0 % 256 = z % 256 by omega]
  rw [e]
  exact h4
