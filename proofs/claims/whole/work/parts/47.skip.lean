/-! skip -/
theorem le1 (z : Int) : le z 1 = [z % 256] := by
  show [z / 2 ^ (8 * 0) % 256] = _
  rw [show (2 : Int) ^ (8 * 0) = 1 from rfl, Int.ediv_one]
theorem le4 (z : Int) : le z 4 = [z % 256] ++ [z / 256 % 256] ++ [z / 65536 % 256] ++ [z / 16777216 % 256] := by
  rw [le_s, le_s, le_s, le1]
  rfl
theorem t_give {N N2 : Nat} {cnt : Int32} {f g : Nat → Int32} {xs : List Int} (h : MR cnt f xs) (hl : xs.length ≤ N) (hl2 : xs.length ≤ N2) (hN : N < 1048576) (hN2 : N2 < 1048576) : ok (m_Mo_give cnt N f N2 g) (fun o => o.1 = cnt ∧ o.2.1 = cnt ∧ MR cnt o.2.2 xs) := by
  unfold m_Mo_give
  have e1 := h.1
  have e := s_carry (f := f) (g := g) (n0 := N) (n2 := N2) (p := 0) (q := 0) (n := xs.length) (by omega) (by omega) (by omega) (by omega) (by omega)
  rw [show iI ((0 : Nat) : Int) = (0 : Int32) from rfl, ← e1] at e
  refine ok_bind e ?_
  rintro o rfl
  exact ok_some ⟨rfl, rfl, h.carry⟩
theorem t_layOut {N N2 : Nat} {cnt : Int32} {f g : Nat → Int32} {xs : List Int} (h : MR cnt f xs) (hl : xs.length ≤ N) (hl2 : xs.length ≤ N2) (hN : N < 1048576) (hN2 : N2 < 1048576) : ok (m_Mo_layOut cnt N f N2 g) (fun o => MR o.1 o.2 xs) := by
  unfold m_Mo_layOut
  have e1 := h.1
  have e := s_carry (f := f) (g := g) (n0 := N) (n2 := N2) (p := 0) (q := 0) (n := xs.length) (by omega) (by omega) (by omega) (by omega) (by omega)
  rw [show iI ((0 : Nat) : Int) = (0 : Int32) from rfl, ← e1] at e
  refine ok_bind e ?_
  rintro o rfl
  exact ok_some h.carry
theorem take_s {xs : List Int} {j : Nat} (h : j < xs.length) : xs.take (j + 1) = xs.take j ++ [xs.getD j 0] := by
  rw [List.take_succ, List.getD_eq_getElem?_getD, List.getElem?_eq_getElem h]
  rfl
theorem t_skip_tail {inp ys : List Int} {mi cnt : Int32} {mif mof f : Nat → Int32} (b2 : MR mi mif inp) (hi : inp.length ≤ 4000) (h : MR cnt f ys) (hl : ys.length + inp.length ≤ 12000) : ok (m_Mo_skip_J135 mi 12000 mof 28000 4000 mif f cnt) (fun o => o.1 = iI ((ys ++ inp).length : Nat) ∧ o.2.1 = 0 ∧ o.2.2.1 = iI ((ys ++ inp).length : Nat) ∧ MR (iI ((ys ++ inp).length : Nat)) o.2.2.2.2.1 (ys ++ inp)) := by
  unfold m_Mo_skip_J135
  refine ok_bind (Q := fun o => o.1 = iI ((ys ++ inp).length : Nat) ∧ o.2.1 = 0 ∧ o.2.2.1 = iI ((ys ++ inp).length : Nat) ∧ MR (iI ((ys ++ inp).length : Nat)) o.2.2.2.2.1 (ys ++ inp)) ?_ (fun o ho => ok_some ho)
  obtain rfl := b2.1
  refine ok_iter (I := fun s => ∃ j : Nat, j ≤ inp.length ∧ s.2.2 = iI j ∧ MR s.2.1 s.1 (ys ++ inp.take j)) (μ := fun s => inp.length - s.2.2.toNatClampNeg) ?_ FU _ ⟨0, by omega, rfl, ?_⟩ ?_
  · rintro ⟨a, b, c⟩ ⟨j, hj, e0, hb'⟩
    dsimp only at e0 hb'
    subst e0
    have e2 : (ys ++ inp.take j).length = ys.length + j := by rw [List.length_append, List.length_take]; omega
    unfold m_Mo_skip_B138
    dsimp only
    by_cases q : inp.length ≤ j
    · rw [if_leT (by omega) (by omega) (by omega)]
      have e3 : inp.take j = inp := List.take_of_length_le q
      rw [e3] at hb' e2
      refine ok_bind (t_give (N := 28000) (N2 := 12000) (g := mof) hb' (by omega) (by omega) (by omega) (by omega)) ?_
      rintro ⟨o1, o2, o3⟩ ⟨h1, h2, h3⟩
      dsimp only at h1 h2 h3
      subst h1
      subst h2
      have e4 := hb'.1
      refine ok_some ⟨e4, rfl, e4, ?_⟩
      rw [← e4]
      exact h3
    · rw [if_leF (by omega) (by omega) (by omega), chk_iI (by omega) (by omega), iI_clamp (by omega) (by omega), Int.toNat_natCast, (b2.2 j (by omega)).2]
      have hb2 := (b2.2 j (by omega)).1
      refine ok_bind (t_put (inp.getD j 0) hb' (N := 28000) (by omega) (by omega)) ?_
      rintro ⟨o1, o2⟩ ho
      rw [bnd_eq, show (1 : Int32) = iI 1 from rfl, iI_add]
      refine ok_some ⟨⟨j + 1, by omega, by simp, ?_⟩, ?_⟩
      · rw [take_s (by omega), ← List.append_assoc]
        rw [show inp.getD j 0 % 256 = inp.getD j 0 by omega] at ho
        exact ho
      · show inp.length - (iI ((j : Int) + 1)).toNatClampNeg < inp.length - j
        rw [iI_clamp (by omega) (by omega)]
        omega
  · show MR cnt f (ys ++ [])
    rw [List.append_nil]
    exact h
  · show inp.length - (0 : Int32).toNatClampNeg < FU
    unfold FU
    omega
theorem s_skip_tail {inp ys : List Int} {iN cnt : Int32} {iF f : Nat → Int32} (b1 : BR 4000 iN iF inp) (h : BR 12000 cnt f ys) (hl : ys.length + inp.length ≤ 12000) : ok (m_FB_skip_J152 iN 12000 4000 iF iN f cnt) (fun o => o.1 = iI ((ys ++ inp).length : Nat) ∧ o.2.1 = 0 ∧ o.2.2.1 = iI ((ys ++ inp).length : Nat) ∧ BR 12000 (iI ((ys ++ inp).length : Nat)) o.2.2.2 (ys ++ inp)) := by
  unfold m_FB_skip_J152 m_Bytes_size
  have hi := b1.2.1
  have e := s_addRange (p := 0) (n := inp.length) h b1 (by omega) (by omega) (by omega) (by omega)
  rw [show iI ((0 : Nat) : Int) = (0 : Int32) from rfl, ← b1.1, show (inp.drop 0).take inp.length = inp by simp] at e
  refine ok_bind e ?_
  rintro ⟨o1, o2⟩ ho
  have e2 := s_keep (k := 0) (n := inp.length) (by omega) (by omega)
  rw [Int.min_eq_left (by omega), ← b1.1, show iI 0 = (0 : Int32) from rfl] at e2
  dsimp only at ho ⊢
  rw [e2, Option.bind_some, Option.bind_some]
  have e4 := ho.1
  refine ok_some ⟨e4, rfl, e4, ?_⟩
  rw [← e4]
  exact ho
theorem J60_eq (a2 iN oN : Int32) (N : Nat) (f : Nat → Int32) (N2 : Nat) (g : Nat → Int32) (s1 : Int32) : m_FB_skip_J60 a2 iN oN N f N2 g s1 = if s1 = 0 then m_FB_skip_J81 a2 iN oN N f N2 g s1 iN 4 else m_FB_skip_J81 a2 iN oN N f N2 g s1 iN 8 := by
  unfold m_FB_skip_J60 m_Bytes_size
  rw [Option.bind_some]
theorem skF {z v : Int} (hz : -2147483648 ≤ z ∧ z < 2147483648) (hv : -2147483648 ≤ v ∧ v < 2147483648) (iN oN : Int32) (N : Nat) (f : Nat → Int32) (N2 : Nat) (g : Nat → Int32) : m_FB_skip (iI z) (iI v) iN oN N f N2 g = if z = 1 ∧ 80 ≤ v ∧ v ≤ 95 then m_FB_skip_J81 (iI v) iN oN N f N2 g 1 iN 8 else if z = 3 ∧ 128 ≤ v ∧ v ≤ 254 then m_FB_skip_J81 (iI v) iN oN N f N2 g 0 iN 4 else some (-1, iN, oN, f) := by
  have J22 : ¬ z = 1 ∨ ¬ (80 ≤ v ∧ v ≤ 95) → m_FB_skip_J22 (iI z) (iI v) iN oN N f N2 g 0 = if z = 3 ∧ 128 ≤ v ∧ v ≤ 254 then m_FB_skip_J81 (iI v) iN oN N f N2 g 0 iN 4 else some (-1, iN, oN, f) := by
    intro _
    have n0 : m_FB_skip_J47 (iI v) iN oN N f N2 g 0 0 = some (-1, iN, oN, f) := by
      unfold m_FB_skip_J47
      rw [if_pos rfl, if_pos rfl]
    unfold m_FB_skip_J22
    rw [n0]
    by_cases c3 : z = 3
    · rw [if_pos (show iI z = (3 : Int32) by rw [c3]; rfl)]
      by_cases c : 128 ≤ v ∧ v ≤ 254
      · rw [show (128 : Int32) = iI 128 from rfl, show (255 : Int32) = iI 255 from rfl, if_ltF hv (by omega) (by omega), if_leF (by omega) hv (by omega), if_pos ⟨c3, c⟩]
        unfold m_FB_skip_J47
        rw [if_pos rfl, if_neg (by decide), J60_eq, if_pos rfl]
      · rw [if_neg (show ¬ (z = 3 ∧ 128 ≤ v ∧ v ≤ 254) from fun q => c q.2), show (128 : Int32) = iI 128 from rfl, show (255 : Int32) = iI 255 from rfl]
        by_cases c5 : v < 128
        · rw [if_ltT hv (by omega) c5]
        · rw [if_ltF hv (by omega) c5, if_leT (by omega) hv (by omega)]
    · rw [if_neg (show ¬ iI z = (3 : Int32) from fun q => c3 (by rw [show (3 : Int32) = iI 3 from rfl, iI_eq hz (by omega)] at q; exact q)), if_neg (fun q => c3 q.1)]
  unfold m_FB_skip
  by_cases c1 : z = 1
  · rw [if_pos (show iI z = (1 : Int32) by rw [c1]; rfl), show (80 : Int32) = iI 80 from rfl, show (95 : Int32) = iI 95 from rfl]
    by_cases c : 80 ≤ v ∧ v ≤ 95
    · rw [if_ltF hv (by omega) (by omega), if_ltF (by omega) hv (by omega), if_pos ⟨c1, c⟩]
      unfold m_FB_skip_J22
      rw [if_neg (show ¬ iI z = (3 : Int32) by rw [c1]; decide)]
      unfold m_FB_skip_J47
      rw [if_neg (by decide), J60_eq, if_neg (by decide)]
    · rw [if_neg (show ¬ (z = 1 ∧ 80 ≤ v ∧ v ≤ 95) from fun q => c q.2)]
      by_cases c5 : v < 80
      · rw [if_ltT hv (by omega) c5, J22 (Or.inr c)]
      · rw [if_ltF hv (by omega) c5, if_ltT (by omega) hv (by omega), J22 (Or.inr c)]
  · rw [if_neg (show ¬ iI z = (1 : Int32) from fun q => c1 (by rw [show (1 : Int32) = iI 1 from rfl, iI_eq hz (by omega)] at q; exact q)), if_neg (fun q => c1 q.1), J22 (Or.inl c1)]
theorem skM {z v : Int} (hz : -2147483648 ≤ z ∧ z < 2147483648) (hv : -2147483648 ≤ v ∧ v < 2147483648) (mi mo mz : Int32) (N : Nat) (f : Nat → Int32) (N2 : Nat) (g : Nat → Int32) (N3 : Nat) (k : Nat → Int32) : m_Mo_skip (iI z) (iI v) mi mo mz N f N2 g N3 k = if z = 1 ∧ 80 ≤ v ∧ v ≤ 95 then m_Mo_skip_J59 (iI z) (iI v) mi mo mz N f N2 g N3 k 8 else if z = 3 ∧ 128 ≤ v ∧ v ≤ 254 then m_Mo_skip_J59 (iI z) (iI v) mi mo mz N f N2 g N3 k 4 else some (-1, mi, mo, mz, f, g) := by
  unfold m_Mo_skip
  by_cases c1 : z = 1
  · have e1 : iI z = (1 : Int32) := by rw [c1]; rfl
    rw [if_pos e1]
    unfold m_Mo_skip_J10
    rw [if_pos e1, iI_j hv, show (80 : Int64) = jI 80 from rfl, show (95 : Int64) = jI 95 from rfl, s_in (by omega) (by omega) (by omega), Option.bind_some]
    by_cases c : 80 ≤ v ∧ v ≤ 95
    · rw [if_pos c, if_neg (by decide), if_pos ⟨c1, c⟩]
      unfold m_Mo_skip_J48
      rw [if_pos e1]
    · rw [if_neg c, if_pos rfl, if_neg (show ¬ (z = 1 ∧ 80 ≤ v ∧ v ≤ 95) from fun q => c q.2), if_neg (show ¬ (z = 3 ∧ 128 ≤ v ∧ v ≤ 254) by omega)]
  · have e1 : ¬ iI z = (1 : Int32) := fun q => c1 (by rw [show (1 : Int32) = iI 1 from rfl, iI_eq hz (by omega)] at q; exact q)
    rw [if_neg e1, if_neg (show ¬ (z = 1 ∧ 80 ≤ v ∧ v ≤ 95) from fun q => c1 q.1)]
    by_cases c3 : z = 3
    · rw [if_pos (show iI z = (3 : Int32) by rw [c3]; rfl)]
      unfold m_Mo_skip_J10
      rw [if_neg e1, iI_j hv, show (128 : Int64) = jI 128 from rfl, show (254 : Int64) = jI 254 from rfl, s_in (by omega) (by omega) (by omega), Option.bind_some]
      by_cases c : 128 ≤ v ∧ v ≤ 254
      · rw [if_pos c, if_neg (by decide), if_pos ⟨c3, c⟩]
        unfold m_Mo_skip_J48
        rw [if_neg e1]
      · rw [if_neg c, if_pos rfl, if_neg (show ¬ (z = 3 ∧ 128 ≤ v ∧ v ≤ 254) from fun q => c q.2)]
    · rw [if_neg (show ¬ iI z = (3 : Int32) from fun q => c3 (by rw [show (3 : Int32) = iI 3 from rfl, iI_eq hz (by omega)] at q; exact q)), if_neg (show ¬ (z = 3 ∧ 128 ≤ v ∧ v ≤ 254) from fun q => c3 q.1)]
theorem j407 : (407710288 : Int64) = jI 407710288 := by decide
theorem p_8 : P_8 RV0 := by
  intro a1 a2 iN wN sF ob oa oN xN bN iF wF oF bF l1 l2 mi mo md mfz mb mr mp mif mof mdf mtf mff mbf h
  obtain ⟨inp, dic, out, b1, b2, b3, b4, b5, b6, b7⟩ := id h
  obtain ⟨z, hz, rfl⟩ := iI_ex a1
  obtain ⟨v, hv, rfl⟩ := iI_ex a2
  have hi := b1.2.1
  have ho := b5.2.1
  obtain rfl : mi = iN := b2.1.trans b1.1.symm
  obtain rfl : mo = oN := b6.1.trans b5.1.symm
  have bad : ∀ r : Int32, ∃ (r' : Int32) (u1 u2 : Int32) (u3 : Nat → Int32) (w1 w2 w3 : Int32) (w4 w5 : Nat → Int32), some (r, mi, mo, oF) = some (r', u1, u2, u3) ∧ some (r, mi, mo, mfz, mof, mff) = some (r', w1, w2, w3, w4, w5) ∧ RV0 u1 iF wN wF sF u2 u3 xN bN bF ob oa l1 l2 w1 mif w2 w4 md mdf mtf mb mbf mr mp := fun r => ⟨_, _, _, _, _, _, _, _, _, rfl, rfl, h⟩
  have fin : ∀ {ys : List Int} {F : Option (Int32 × Int32 × Int32 × (Nat → Int32))} {M : Option (Int32 × Int32 × Int32 × Int32 × (Nat → Int32) × (Nat → Int32))}, ok F (fun o => o.1 = iI ((ys ++ inp).length : Nat) ∧ o.2.1 = 0 ∧ o.2.2.1 = iI ((ys ++ inp).length : Nat) ∧ BR 12000 (iI ((ys ++ inp).length : Nat)) o.2.2.2 (ys ++ inp)) → ok M (fun o => o.1 = iI ((ys ++ inp).length : Nat) ∧ o.2.1 = 0 ∧ o.2.2.1 = iI ((ys ++ inp).length : Nat) ∧ MR (iI ((ys ++ inp).length : Nat)) o.2.2.2.2.1 (ys ++ inp)) → ∃ (r' : Int32) (u1 u2 : Int32) (u3 : Nat → Int32) (w1 w2 w3 : Int32) (w4 w5 : Nat → Int32), F = some (r', u1, u2, u3) ∧ M = some (r', w1, w2, w3, w4, w5) ∧ RV0 u1 iF wN wF sF u2 u3 xN bN bF ob oa l1 l2 w1 mif w2 w4 md mdf mtf mb mbf mr mp := by
    intro ys F M hF hM
    obtain ⟨⟨f1, f2, f3, f4⟩, e1, g1, g2, g3, g4⟩ := hF
    obtain ⟨⟨m1, m2, m3, m4, m5, m6⟩, e2, k1, k2, k3, k4⟩ := hM
    dsimp only at g1 g2 g3 g4 k1 k2 k3 k4
    subst g1
    subst g2
    subst g3
    subst k1
    subst k2
    subst k3
    exact ⟨_, _, _, _, _, _, _, _, _, e1, e2, [], dic, ys ++ inp, BR.nil _ _, MR.nil _, b3, b4, g4, k4, b7⟩
  rw [skF hz hv, skM hz hv]
  by_cases c : z = 1 ∧ 80 ≤ v ∧ v ≤ 95
  · rw [if_pos c, if_pos c]
    obtain ⟨c1, c⟩ := c
    · have e1 : iI z = (1 : Int32) := by rw [c1]; rfl
      unfold m_FB_skip_J81 m_Mo_skip_J59 m_Bytes_room
      rw [Option.bind_some, iI_nI, if_neg (show ¬ (1 : Int32) = 0 by decide), b1.1, b5.1, show (8 : Int32) = iI 8 from rfl, iI_add, iI_add, iI_add, iI_sub, show (12000 : Int32) = iI 12000 from rfl]
      by_cases cr : (out.length : Int) + 8 + inp.length ≤ 12000
      · rw [if_leT (by omega) (by omega) (by omega), if_leT (by omega) (by omega) (by omega)]
        rw [← b1.1, ← b5.1]
        refine fin (ys := out ++ le (407710208 + v) 4 ++ le inp.length 4) ?_ ?_
        · rw [iI_j hv, j407, show (80 : Int64) = jI 80 from rfl, jI_add, jI_sub, show (407710288 + v - 80) = 407710208 + v by omega, show (4 : Int32) = iI ((4 : Nat) : Int) from rfl]
          refine ok_bind (s_addNumber (407710208 + v) (k := 4) (by omega) b5 (by omega) (by omega)) ?_
          rintro ⟨o1, o2⟩ h1
          dsimp only at h1 ⊢
          rw [b1.1, iI_j (by omega), ← b1.1]
          refine ok_bind (s_addNumber inp.length (k := 4) (by omega) h1 (by rw [List.length_append, le_len]; omega) (by omega)) ?_
          rintro ⟨o3, o4⟩ h2
          exact s_skip_tail b1 h2 (by rw [List.length_append, List.length_append, le_len, le_len]; omega)
        · refine ok_bind (t_layOut (N := 12000) (N2 := 28000) (g := mff) b6 (by omega) (by omega) (by omega) (by omega)) ?_
          rintro ⟨o1, o2⟩ h1
          dsimp only at h1 ⊢
          refine ok_bind (t_put v h1 (N := 28000) (by omega) (by omega)) ?_
          rintro ⟨o3, o4⟩ h2
          dsimp only at h2 ⊢
          rw [if_pos e1]
          refine ok_bind (t_put 42 h2 (N := 28000) (by simp; omega) (by omega)) ?_
          rintro ⟨o5, o6⟩ h3
          dsimp only at h3 ⊢
          refine ok_bind (t_put 77 h3 (N := 28000) (by simp; omega) (by omega)) ?_
          rintro ⟨o7, o8⟩ h4
          dsimp only at h4 ⊢
          refine ok_bind (t_put 24 h4 (N := 28000) (by simp; omega) (by omega)) ?_
          rintro ⟨o9, o10⟩ h5
          dsimp only at h5 ⊢
          have e5 : out ++ [v % 256] ++ [42 % 256] ++ [77 % 256] ++ [24 % 256] = out ++ le (407710208 + v) 4 := by
            rw [le4, show (407710208 + v) % 256 = v % 256 by omega, show (407710208 + v) / 256 % 256 = 42 % 256 by omega, show (407710208 + v) / 65536 % 256 = 77 % 256 by omega, show (407710208 + v) / 16777216 % 256 = 24 % 256 by omega]
            simp only [List.append_assoc]
          rw [e5] at h5
          rw [b2.1, iI_j (by omega), ← b2.1, show (4 : Int32) = iI ((4 : Nat) : Int) from rfl]
          refine ok_bind (t_lowest (z := inp.length) (by omega) (k := 4) (by omega) h5 (N := 28000) (by rw [List.length_append, le_len]; omega) (by omega)) ?_
          rintro ⟨o11, o12⟩ h6
          exact t_skip_tail b2 (by omega) h6 (by rw [List.length_append, List.length_append, le_len, le_len]; omega)
      · rw [if_leF (by omega) (by omega) (by omega), if_leF (by omega) (by omega) (by omega)]
        rw [← b1.1, ← b5.1]
        exact bad _
  · rw [if_neg c, if_neg c]
    by_cases c3 : z = 3 ∧ 128 ≤ v ∧ v ≤ 254
    · rw [if_pos c3, if_pos c3]
      obtain ⟨c3, c4⟩ := c3
      · have e1 : ¬ iI z = (1 : Int32) := by rw [c3]; decide
        unfold m_FB_skip_J81 m_Mo_skip_J59 m_Bytes_room
        rw [Option.bind_some, iI_nI, if_pos (show (0 : Int32) = 0 from rfl), b1.1, b5.1, show (4 : Int32) = iI 4 from rfl, iI_add, iI_add, iI_add, iI_sub, show (12000 : Int32) = iI 12000 from rfl]
        by_cases cr : (out.length : Int) + 4 + inp.length ≤ 12000
        · rw [if_leT (by omega) (by omega) (by omega), if_leT (by omega) (by omega) (by omega)]
          rw [← b1.1, ← b5.1]
          refine fin (ys := out ++ [v % 256] ++ le inp.length 3) ?_ ?_
          · rw [iI_j hv, show (1 : Int32) = iI ((1 : Nat) : Int) from rfl, show (3 : Int32) = iI ((3 : Nat) : Int) from rfl]
            refine ok_bind (s_addNumber v (k := 1) (by omega) b5 (by omega) (by omega)) ?_
            rintro ⟨o1, o2⟩ h1
            dsimp only at h1 ⊢
            rw [le1] at h1
            rw [b1.1, iI_j (by omega), ← b1.1]
            refine ok_bind (s_addNumber inp.length (k := 3) (by omega) h1 (by simp; omega) (by omega)) ?_
            rintro ⟨o3, o4⟩ h2
            exact s_skip_tail b1 h2 (by rw [List.length_append, le_len]; simp; omega)
          · refine ok_bind (t_layOut (N := 12000) (N2 := 28000) (g := mff) b6 (by omega) (by omega) (by omega) (by omega)) ?_
            rintro ⟨o1, o2⟩ h1
            dsimp only at h1 ⊢
            refine ok_bind (t_put v h1 (N := 28000) (by omega) (by omega)) ?_
            rintro ⟨o3, o4⟩ h2
            dsimp only at h2 ⊢
            rw [if_neg e1, b2.1, iI_j (by omega), ← b2.1, show (3 : Int32) = iI ((3 : Nat) : Int) from rfl]
            refine ok_bind (t_lowest (z := inp.length) (by omega) (k := 3) (by omega) h2 (N := 28000) (by simp; omega) (by omega)) ?_
            rintro ⟨o11, o12⟩ h6
            exact t_skip_tail b2 (by omega) h6 (by rw [List.length_append, le_len]; simp; omega)
        · rw [if_leF (by omega) (by omega) (by omega), if_leF (by omega) (by omega) (by omega)]
          rw [← b1.1, ← b5.1]
          exact bad _
    · rw [if_neg c3, if_neg c3]
      exact bad _
