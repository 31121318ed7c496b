/-! calls that are short -/
theorem p_16 : P_16 RV0 := by
  intro a1 iN wN sF ob oa oN xN bN iF wF oF bF l1 l2 mi mo md mb mr mp mif mof mdf mtf mbf h
  obtain ⟨inp, dic, out, b1, b2, b3, b4, b5, b6, b7, b8, ⟨k, b9, b10, b11, b12⟩, b13⟩ := id h
  unfold m_FB_told m_Mo_told m_Bytes_size m_Blocks_size
  rw [b2.1, b6.1, b4.1, b11, b1.1, b5.1, b3.1, b10]
  simp only [Option.bind_some]
  rw [b2.1, b6.1, b4.1, b11, b1.1, b5.1, b3.1, b10] at h
  by_cases c0 : a1 = 0
  · exact ⟨_, by rw [if_pos c0], by rw [if_pos c0], h⟩
  · rw [if_neg c0, if_neg c0]
    by_cases c1 : a1 = 1
    · exact ⟨_, by rw [if_pos c1], by rw [if_pos c1], h⟩
    · rw [if_neg c1, if_neg c1]
      by_cases c2 : a1 = 2
      · exact ⟨_, by rw [if_pos c2], by rw [if_pos c2], h⟩
      · rw [if_neg c2, if_neg c2]
        by_cases c3 : a1 = 3
        · exact ⟨_, by rw [if_pos c3], by rw [if_pos c3], h⟩
        · exact ⟨_, by rw [if_neg c3], by rw [if_neg c3], h⟩
theorem p_15 : P_15 RV0 := by
  intro a1 a2 iN wN sF ob oa oN xN bN iF wF oF bF l1 l2 mi mo md mb mr mp mif mof mdf mtf mbf h
  unfold m_FB_bound m_Mo_bound m_Mo_bound_J9
  by_cases c0 : 0 ≤ a2
  · by_cases c1 : a1 = 0
    · exact ⟨_, by rw [if_pos c0, if_pos c1], by rw [if_pos c1, if_pos c0, if_pos c1], h⟩
    · by_cases c2 : a1 = 2
      · exact ⟨_, by rw [if_pos c0, if_neg c1, if_pos c2], by rw [if_neg c1, if_pos c2, if_pos c0, if_neg c1], h⟩
      · exact ⟨_, by rw [if_pos c0, if_neg c1, if_neg c2], by rw [if_neg c1, if_neg c2], h⟩
  · by_cases c1 : a1 = 0
    · exact ⟨_, by rw [if_neg c0], by rw [if_pos c1, if_neg c0], h⟩
    · by_cases c2 : a1 = 2
      · exact ⟨_, by rw [if_neg c0], by rw [if_neg c1, if_pos c2, if_neg c0], h⟩
      · exact ⟨_, by rw [if_neg c0], by rw [if_neg c1, if_neg c2], h⟩
theorem p_10 : P_10 RV0 := by
  intro a1 iN wN sF ob oa oN xN bN iF wF oF bF l1 l2 mi mo md mb mr mp mif mof mdf mtf mbf h
  obtain ⟨inp, dic, out, b1, b2, b3, b4, b5, b6, b7, b8, b9, ⟨r1, r2, r3⟩, b13⟩ := id h
  subst r1
  unfold m_FB_rule m_Mo_rule m_Opener_brokenRule m_Opener_brokenPlace
  simp only [Option.bind_some]
  by_cases c0 : a1 = 0
  · exact ⟨_, by rw [if_pos c0], by rw [if_pos c0], h⟩
  · rw [if_neg c0, if_neg c0]
    by_cases c1 : a1 = 1
    · rw [if_pos c1, if_pos c1]
      by_cases c2 : ob = 0
      · exact ⟨_, by rw [if_pos c2], by rw [r2 c2], h⟩
      · exact ⟨_, by rw [if_neg c2], by rw [r3 c2], h⟩
    · exact ⟨_, by rw [if_neg c1], by rw [if_neg c1], h⟩
theorem p_1 : P_1 RV0 := by
  intro a1 iN wN sF ob oa oN xN bN iF wF oF bF l1 l2 mi mo md mb mr mp mif mof mdf mtf mbf h
  obtain ⟨inp, dic, out, b1, b2, b3⟩ := id h
  obtain ⟨z, hz, rfl⟩ := iI_ex a1
  have hl := b1.2.1
  unfold m_FB_cut m_Mo_cut m_Bytes_size m_Bytes_keep
  rw [b1.1, b2.1]
  simp only [Option.bind_some, bnd]
  rw [iI_j hz, iI_j (by omega), show (0 : Int64) = jI 0 from rfl, s_in (by omega) (by omega) (by omega), show (0 : Int32) = iI 0 from rfl]
  simp only [Option.bind_some]
  by_cases c0 : z < 0
  · refine ⟨-1, iI inp.length, iI inp.length, ?_, ?_, ?_⟩
    · rw [if_pos (by rw [iI_lt (by omega) (by omega)]; exact c0)]
    · rw [if_neg (show ¬ (0 ≤ z ∧ z ≤ (inp.length : Int)) by omega), if_pos rfl]
    · exact ⟨inp, dic, out, ⟨rfl, b1.2⟩, ⟨rfl, b2.2⟩, b3⟩
  · rw [if_neg (show ¬ iI z < iI 0 by rw [iI_lt (by omega) (by omega)]; exact c0)]
    by_cases c1 : z ≤ inp.length
    · refine ⟨iI (inp.length - z), iI z, iI z, ?_, ?_, ?_⟩
      · rw [if_pos (by rw [iI_le (by omega) (by omega)]; exact c1), if_neg (show ¬ iI z < iI 0 by rw [iI_lt (by omega) (by omega)]; exact c0), iI_sub]
        by_cases c2 : iI (inp.length : Int) ≤ iI z
        · rw [if_pos c2]
          rw [iI_le (by omega) (by omega)] at c2
          rw [show z = (inp.length : Int) by omega]
          rfl
        · rw [if_neg c2]
          rfl
      · rw [if_pos (show 0 ≤ z ∧ z ≤ (inp.length : Int) from ⟨by omega, c1⟩), if_neg (by decide), iI_sub]
      · have e : z = ((z.toNat : Nat) : Int) := by omega
        rw [e]
        exact ⟨inp.take z.toNat, dic, out, b1.take (by omega), b2.take (by omega), b3⟩
    · refine ⟨-1, iI inp.length, iI inp.length, ?_, ?_, ?_⟩
      · rw [if_neg (by rw [iI_le (by omega) (by omega)]; exact c1)]
      · rw [if_neg (show ¬ (0 ≤ z ∧ z ≤ (inp.length : Int)) by omega), if_pos rfl]
      · exact ⟨inp, dic, out, ⟨rfl, b1.2⟩, ⟨rfl, b2.2⟩, b3⟩
theorem s_at {N : Nat} {cnt : Int32} {f : Nat → Int32} {xs : List Int} (h : BR N cnt f xs) (hN : N < 1073741824) {z : Int} (hz : -2147483648 ≤ z ∧ z < 2147483648) : m_Bytes_at (iI z) cnt N f = some (iI (if 0 ≤ z ∧ z < xs.length then xs.getD z.toNat 0 else 0)) := by
  obtain ⟨h1, h2, h3⟩ := h
  unfold m_Bytes_at
  rw [h1, show (0 : Int32) = iI 0 from rfl]
  by_cases c0 : z < 0
  · rw [if_pos (by rw [iI_lt (by omega) (by omega)]; exact c0), if_neg (by omega)]
  · rw [if_neg (by rw [iI_lt (by omega) (by omega)]; exact c0)]
    by_cases c1 : z < xs.length
    · rw [if_pos (by rw [iI_lt (by omega) (by omega)]; exact c1), chk_iI (by omega) (by omega), iI_clamp (by omega) (by omega), if_pos (by omega)]
      have h4 := h3 z.toNat (by omega)
      rw [h4.2, hb_and h4.1]
    · rw [if_neg (by rw [iI_lt (by omega) (by omega)]; exact c1), if_neg (by omega)]
theorem p_2 : P_2 RV0 := by
  intro a1 iN wN sF ob oa oN xN bN iF wF oF bF l1 l2 mi mo md mb mr mp mif mof mdf mtf mbf h
  obtain ⟨inp, dic, out, b1, b2, b3, b4, b5, b6, b7⟩ := id h
  obtain ⟨z, hz, rfl⟩ := iI_ex a1
  have hl := b5.2.1
  unfold m_FB_out m_Mo_out m_Bytes_size
  rw [s_at b5 (by omega) hz, b6.1, show (1 : Int32) = iI 1 from rfl, iI_sub, iI_j hz, iI_j (by omega), show (0 : Int64) = jI 0 from rfl, s_in (by omega) (by omega) (by omega)]
  simp only [Option.bind_some]
  rw [b5.1, show (0 : Int32) = iI 0 from rfl]
  rw [b5.1, b6.1] at h
  by_cases c0 : 0 ≤ z ∧ z < out.length
  · refine ⟨iI (out.getD z.toNat 0), ?_, ?_, h⟩
    · rw [if_neg (by rw [iI_lt (by omega) (by omega)]; omega), if_pos (by rw [iI_lt (by omega) (by omega)]; omega), if_pos c0]
    · rw [if_pos (show 0 ≤ z ∧ z ≤ (out.length : Int) - 1 by omega), if_neg (by decide), chk_iI (by omega) (by omega), iI_clamp (by omega) (by omega), (b6.2 z.toNat (by omega)).2]
  · refine ⟨-1, ?_, ?_, h⟩
    · by_cases c1 : z < 0
      · rw [if_pos (by rw [iI_lt (by omega) (by omega)]; omega)]
      · rw [if_neg (by rw [iI_lt (by omega) (by omega)]; omega), if_neg (by rw [iI_lt (by omega) (by omega)]; omega)]
    · rw [if_neg (show ¬ (0 ≤ z ∧ z ≤ (out.length : Int) - 1) by omega), if_pos rfl]
