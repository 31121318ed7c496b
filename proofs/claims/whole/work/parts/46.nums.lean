/-! numbers of several bytes, lowest first -/
theorem jI_u (z : Int) : ((jI z).toBitVec.toNat : Int) = z % 18446744073709551616 := by
  show ((BitVec.ofInt 64 z).toNat : Int) = _
  rw [BitVec.toNat_ofInt]
  have h := Int.emod_nonneg z (show (2 ^ 64 : Int) ≠ 0 by decide)
  rw [show ((2 ^ 64 : Nat) : Int) = 18446744073709551616 from rfl]
  omega
theorem jI_ofu (x : Int64) : x = jI (x.toBitVec.toNat : Int) := by
  apply Int64.toBitVec.inj
  show x.toBitVec = BitVec.ofInt 64 _
  rw [BitVec.ofInt_natCast, BitVec.ofNat_toNat, BitVec.setWidth_eq]
theorem jI_ushr (z : Int) (s : Int32) (k : Nat) (hs : (s.toInt64.toUInt64 &&& Int64.toUInt64 63).toNat % 64 = k) : lushr (jI z) s = jI (z % 18446744073709551616 / 2 ^ k) := by
  have h2 := jI_ofu (lushr (jI z) s)
  rw [h2]
  congr 1
  have h3 : (lushr (jI z) s).toBitVec.toNat = (jI z).toBitVec.toNat / 2 ^ k := by
    show ((jI z).toUInt64 >>> (s.toInt64.toUInt64 &&& Int64.toUInt64 63)).toNat = _
    rw [UInt64.toNat_shiftRight, hs, Nat.shiftRight_eq_div_pow]
    rfl
  rw [h3, Int.natCast_ediv, jI_u z, Int.natCast_pow]
  rfl
theorem jI_shr {z : Int} (h : -9223372036854775808 ≤ z ∧ z < 9223372036854775808) (s : Int32) (k : Nat) (hs : ((s.toInt64 &&& 63).toBitVec.smod 64).toNat = k) : lshr (jI z) s = jI (z / 2 ^ k) := by
  have h1 : (lshr (jI z) s).toInt = z / 2 ^ k := by
    show ((jI z).toBitVec.sshiftRight' ((s.toInt64 &&& 63).toBitVec.smod 64)).toInt = _
    rw [BitVec.toInt_sshiftRight', hs, show (jI z).toBitVec.toInt = z from jI_toInt h.1 h.2, Int.shiftRight_eq_div_pow, Int.natCast_pow]
    rfl
  have h3 := Int64.le_toInt (lshr (jI z) s)
  have h4 := Int64.toInt_lt (lshr (jI z) s)
  rw [h1] at h3 h4
  apply Int64.toInt_inj.mp
  rw [h1, jI_toInt (by omega) (by omega)]
/-- the byte at place j -/
def lb (z : Int) (j : Nat) : Int := z / 2 ^ (8 * j) % 256
theorem lb_in (z : Int) (j : Nat) : 0 ≤ lb z j ∧ lb z j < 256 := by
  unfold lb
  omega
def le (z : Int) (k : Nat) : List Int := (List.range k).map (lb z)
theorem le_s (z : Int) (k : Nat) : le z (k + 1) = le z k ++ [lb z k] := by
  unfold le
  rw [List.range_succ, List.map_append]
  rfl
theorem le_len (z : Int) (k : Nat) : (le z k).length = k := by
  unfold le
  rw [List.length_map, List.length_range]
theorem u_byte (z : Int) (j : Nat) (hj : j < 8) : vp_nar .byte (((lushr (jI z) ((8 : Int32) * iI (j : Nat))).toInt32).toInt8.toInt32) = hb (lb z j) := by
  rcases (show j = 0 ∨ j = 1 ∨ j = 2 ∨ j = 3 ∨ j = 4 ∨ j = 5 ∨ j = 6 ∨ j = 7 by omega) with rfl | rfl | rfl | rfl | rfl | rfl | rfl | rfl
  · rw [jI_ushr z _ 0 (by decide), jI_i, nar_hb]; unfold lb; congr 1; omega
  · rw [jI_ushr z _ 8 (by decide), jI_i, nar_hb]; unfold lb; congr 1; omega
  · rw [jI_ushr z _ 16 (by decide), jI_i, nar_hb]; unfold lb; congr 1; omega
  · rw [jI_ushr z _ 24 (by decide), jI_i, nar_hb]; unfold lb; congr 1; omega
  · rw [jI_ushr z _ 32 (by decide), jI_i, nar_hb]; unfold lb; congr 1; omega
  · rw [jI_ushr z _ 40 (by decide), jI_i, nar_hb]; unfold lb; congr 1; omega
  · rw [jI_ushr z _ 48 (by decide), jI_i, nar_hb]; unfold lb; congr 1; omega
  · rw [jI_ushr z _ 56 (by decide), jI_i, nar_hb]; unfold lb; congr 1; omega
theorem s_byte {z : Int} (h : -9223372036854775808 ≤ z ∧ z < 9223372036854775808) (j : Nat) (hj : j < 8) : ((lshr (jI z) ((8 : Int32) * iI (j : Nat))).toInt32) &&& 255 = iI (lb z j) := by
  rcases (show j = 0 ∨ j = 1 ∨ j = 2 ∨ j = 3 ∨ j = 4 ∨ j = 5 ∨ j = 6 ∨ j = 7 by omega) with rfl | rfl | rfl | rfl | rfl | rfl | rfl | rfl
  · rw [jI_shr h _ 0 (by decide), jI_i, and255]; rfl
  · rw [jI_shr h _ 8 (by decide), jI_i, and255]; rfl
  · rw [jI_shr h _ 16 (by decide), jI_i, and255]; rfl
  · rw [jI_shr h _ 24 (by decide), jI_i, and255]; rfl
  · rw [jI_shr h _ 32 (by decide), jI_i, and255]; rfl
  · rw [jI_shr h _ 40 (by decide), jI_i, and255]; rfl
  · rw [jI_shr h _ 48 (by decide), jI_i, and255]; rfl
  · rw [jI_shr h _ 56 (by decide), jI_i, and255]; rfl
theorem s_addNumber {N : Nat} {cnt : Int32} {f : Nat → Int32} {xs : List Int} (z : Int) {k : Nat} (hk : k ≤ 8) (h : BR N cnt f xs) (hl : xs.length + k ≤ N) (hN : N < 1073741824) : ok (m_Bytes_addNumber (jI z) (iI k) cnt N f) (fun o => BR N o.1 o.2 (xs ++ le z k)) := by
  unfold m_Bytes_addNumber m_Bytes_addNumber_E55
  refine ok_bind (Q := fun o => BR N o.2 o.1 (xs ++ le z k)) ?_ (fun o ho => ok_some ho)
  refine ok_iter (I := fun s => ∃ j : Nat, j ≤ k ∧ s.2.2 = iI j ∧ BR N s.2.1 s.1 (xs ++ le z j)) (μ := fun s => k - s.2.2.toNatClampNeg) ?_ FU _ ⟨0, by omega, rfl, ?_⟩ ?_
  · rintro ⟨a, b, c⟩ ⟨j, hj, rfl, hb'⟩
    have e1 := hb'.1
    have e2 : (xs ++ le z j).length = xs.length + j := by rw [List.length_append, le_len]
    dsimp only at e1
    subst e1
    rw [e2]
    unfold m_Bytes_addNumber_B3
    dsimp only
    by_cases c : k ≤ j
    · rw [if_leT (by omega) (by omega) (by omega)]
      refine ok_some ?_
      rw [show k = j by omega, ← e2]
      exact hb'
    · rw [if_leF (by omega) (by omega) (by omega), iI_nI, if_leF (by omega) (by omega) (by omega), chk_iI (by omega) (by omega), u_byte z j (by omega), iI_clamp (by omega) (by omega), show (1 : Int32) = iI 1 from rfl, iI_add, iI_add]
      refine ok_bnd (ok_bnd (ok_some ⟨⟨j + 1, by omega, by simp, ?_⟩, ?_⟩))
      · have e3 := hb'.push (b := lb z j) (by omega) (lb_in z j) rfl
        rw [e2, List.append_assoc, ← le_s] at e3
        exact e3
      · show k - (iI ((j : Int) + 1)).toNatClampNeg < k - (iI (j : Int)).toNatClampNeg
        rw [iI_clamp (by omega) (by omega), iI_clamp (by omega) (by omega)]
        omega
  · show BR N cnt f (xs ++ [])
    rw [List.append_nil]
    exact h
  · show k - (0 : Int32).toNatClampNeg < FU
    unfold FU
    omega
theorem t_put {N : Nat} {cnt : Int32} {f : Nat → Int32} {xs : List Int} (z : Int) (h : MR cnt f xs) (hl : xs.length < N) (hN : N < 1073741824) : ok (m_Mo_put (iI z) cnt N f) (fun o => MR o.1 o.2 (xs ++ [z % 256])) := by
  unfold m_Mo_put
  refine ok_bnd ?_
  have e1 := h.1
  subst e1
  rw [chk_iI (by omega) (by omega), and255, iI_clamp (by omega) (by omega), show (1 : Int32) = iI 1 from rfl, iI_add]
  exact ok_some (h.push (by omega) rfl)
theorem t_lowest {N : Nat} {cnt : Int32} {f : Nat → Int32} {xs : List Int} {z : Int} (hz : -9223372036854775808 ≤ z ∧ z < 9223372036854775808) {k : Nat} (hk : k ≤ 8) (h : MR cnt f xs) (hl : xs.length + k ≤ N) (hN : N < 1073741824) : ok (m_Mo_lowest (jI z) (iI k) cnt N f) (fun o => MR o.1 o.2 (xs ++ le z k)) := by
  unfold m_Mo_lowest
  refine ok_bind (Q := fun o => MR o.1 o.2 (xs ++ le z k)) ?_ (fun o ho => ok_some ho)
  refine ok_iter (I := fun s => ∃ j : Nat, j ≤ k ∧ s.2.2 = iI j ∧ MR s.2.1 s.1 (xs ++ le z j)) (μ := fun s => k - s.2.2.toNatClampNeg) ?_ FU _ ⟨0, by omega, rfl, ?_⟩ ?_
  · rintro ⟨a, b, c⟩ ⟨j, hj, rfl, hb'⟩
    have e1 := hb'.1
    have e2 : (xs ++ le z j).length = xs.length + j := by rw [List.length_append, le_len]
    dsimp only at e1
    subst e1
    rw [e2]
    unfold m_Mo_lowest_B3 m_Mo_put
    dsimp only
    by_cases c : k ≤ j
    · rw [if_leT (by omega) (by omega) (by omega)]
      refine ok_some ?_
      rw [show k = j by omega, ← e2]
      exact hb'
    · rw [if_leF (by omega) (by omega) (by omega), bnd_eq, chk_iI (by omega) (by omega), s_byte hz j (by omega), iI_clamp (by omega) (by omega), show (1 : Int32) = iI 1 from rfl, iI_add, iI_add, Option.bind_some]
      refine ok_bnd (ok_some ⟨⟨j + 1, by omega, by simp, ?_⟩, ?_⟩)
      · have e3 := hb'.push (b := lb z j) (lb_in z j) rfl
        rw [e2, List.append_assoc, ← le_s] at e3
        exact e3
      · show k - (iI ((j : Int) + 1)).toNatClampNeg < k - (iI (j : Int)).toNatClampNeg
        rw [iI_clamp (by omega) (by omega), iI_clamp (by omega) (by omega)]
        omega
  · show MR cnt f (xs ++ [])
    rw [List.append_nil]
    exact h
  · show k - (0 : Int32).toNatClampNeg < FU
    unfold FU
    omega
