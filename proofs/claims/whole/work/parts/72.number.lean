/-! numbers that are read -/
theorem jI_mod (z : Int) : jI z = jI (z % 18446744073709551616) := by
  rw [← jI_u z]
  exact jI_ofu (jI z)
theorem jI_shl (z : Int) (s : Int32) (k : Nat) (hs : ((s.toInt64 &&& 63).toBitVec.smod 64).toNat = k) : lshl (jI z) s = jI (z * 2 ^ k) := by
  have h2 := jI_ofu (lshl (jI z) s)
  have h3 : (lshl (jI z) s).toBitVec.toNat = (jI z).toBitVec.toNat * 2 ^ k % 18446744073709551616 := by
    show ((jI z).toBitVec <<< ((s.toInt64 &&& 63).toBitVec.smod 64)).toNat = _
    rw [BitVec.shiftLeft_eq', BitVec.toNat_shiftLeft, hs, Nat.shiftLeft_eq]
  rw [h2, h3, jI_mod (z * 2 ^ k)]
  congr 1
  rw [Int.natCast_emod, Int.natCast_mul, jI_u z, Int.natCast_pow]
  show z % 18446744073709551616 * 2 ^ k % 18446744073709551616 = _
  rw [Int.mul_emod, Int.emod_emod_of_dvd _ (Int.dvd_refl _), ← Int.mul_emod]
theorem iI_shl (z : Int) (s : Int32) (k : Nat) (hs : ((s &&& 31).toBitVec.smod 32).toNat = k) : ishl (iI z) s = iI (z * 2 ^ k) := by
  have h2 := iI_ofu (ishl (iI z) s)
  have h3 : (ishl (iI z) s).toBitVec.toNat = (iI z).toBitVec.toNat * 2 ^ k % 4294967296 := by
    show ((iI z).toBitVec <<< ((s &&& 31).toBitVec.smod 32)).toNat = _
    rw [BitVec.shiftLeft_eq', BitVec.toNat_shiftLeft, hs, Nat.shiftLeft_eq]
  rw [h2, h3, iI_mod (z * 2 ^ k)]
  congr 1
  rw [Int.natCast_emod, Int.natCast_mul, iI_u z, Int.natCast_pow]
  show z % 4294967296 * 2 ^ k % 4294967296 = _
  rw [Int.mul_emod, Int.emod_emod_of_dvd _ (Int.dvd_refl _), ← Int.mul_emod]
theorem or_nat {a c k : Nat} (ha : a < 2 ^ k) : c * 2 ^ k ||| a = a + c * 2 ^ k := by
  rw [← Nat.shiftLeft_eq, ← Nat.shiftLeft_add_eq_or_of_lt ha, Nat.add_comm]
theorem jI_nat {a : Nat} (h : a < 18446744073709551616) : (jI (a : Int)).toBitVec.toNat = a := by
  have := jI_u (a : Int)
  omega
theorem iI_nat {a : Nat} (h : a < 4294967296) : (iI (a : Int)).toBitVec.toNat = a := by
  have := iI_u (a : Int)
  omega
theorem jI_or {a c k : Nat} (ha : a < 2 ^ k) (h : a + c * 2 ^ k < 18446744073709551616) : jI ((c * 2 ^ k : Nat) : Int) ||| jI (a : Int) = jI ((a + c * 2 ^ k : Nat) : Int) := by
  apply Int64.toBitVec_inj.mp
  apply BitVec.eq_of_toNat_eq
  show ((jI ((c * 2 ^ k : Nat) : Int)).toBitVec ||| (jI (a : Int)).toBitVec).toNat = _
  rw [BitVec.toNat_or, jI_nat (by omega), jI_nat (by omega), jI_nat h, or_nat ha]
theorem jI_orc {a c k : Nat} (ha : a < 2 ^ k) (h : a + c * 2 ^ k < 18446744073709551616) : jI (a : Int) ||| jI ((c * 2 ^ k : Nat) : Int) = jI ((a + c * 2 ^ k : Nat) : Int) := by
  apply Int64.toBitVec_inj.mp
  apply BitVec.eq_of_toNat_eq
  show ((jI (a : Int)).toBitVec ||| (jI ((c * 2 ^ k : Nat) : Int)).toBitVec).toNat = _
  rw [BitVec.toNat_or, jI_nat (by omega), jI_nat (by omega), jI_nat h, Nat.or_comm, or_nat ha]
theorem iI_orc {a c k : Nat} (ha : a < 2 ^ k) (h : a + c * 2 ^ k < 4294967296) : iI (a : Int) ||| iI ((c * 2 ^ k : Nat) : Int) = iI ((a + c * 2 ^ k : Nat) : Int) := by
  apply Int32.toBitVec_inj.mp
  apply BitVec.eq_of_toNat_eq
  show ((iI (a : Int)).toBitVec ||| (iI ((c * 2 ^ k : Nat) : Int)).toBitVec).toNat = _
  rw [BitVec.toNat_or, iI_nat (by omega), iI_nat (by omega), iI_nat h, Nat.or_comm, or_nat ha]
/-- a byte of a row, as a number -/
def by_ (xs : List Int) (p : Nat) : Nat := (xs.getD p 0).toNat
def BY (xs : List Int) : Prop := ∀ j, 0 ≤ xs.getD j 0 ∧ xs.getD j 0 < 256
theorem BR.by {N : Nat} {cnt : Int32} {f : Nat → Int32} {xs : List Int} (h : BR N cnt f xs) : BY xs := fun j => by
  by_cases c : j < xs.length
  · exact (h.2.2 j c).1
  · rw [List.getD_eq_getElem?_getD, List.getElem?_eq_none (by omega)]
    exact ⟨by decide, by decide⟩
theorem BY.lt {xs : List Int} (h : BY xs) (p : Nat) : by_ xs p < 256 := by
  have := h p
  unfold by_
  omega
theorem BY.eq {xs : List Int} (h : BY xs) (p : Nat) : xs.getD p 0 = (by_ xs p : Int) := by
  have := h p
  unfold by_
  omega
theorem s_byteAt {N : Nat} {cnt : Int32} {f : Nat → Int32} {xs : List Int} (h : BR N cnt f xs) (hN : N < 1048576) {p : Nat} (hp : p < 2147483648) : m_Bytes_at (iI p) cnt N f = some (iI (by_ xs p)) := by
  rw [s_at h (by omega) (by omega)]
  congr 2
  have hy := h.by
  by_cases c : p < xs.length
  · rw [if_pos (by omega), Int.toNat_natCast, hy.eq]
  · rw [if_neg (by omega)]
    unfold by_
    rw [List.getD_eq_getElem?_getD, List.getElem?_eq_none (by omega)]
    rfl
theorem t_byteAt {cnt : Int32} {f : Nat → Int32} {xs : List Int} (h : MR cnt f xs) {p : Nat} (hp : p < xs.length) : f p = iI (by_ xs p) := by
  have := h.2 p hp
  rw [this.2]
  congr 1
  unfold by_
  omega
def nv (xs : List Int) (p : Nat) : Nat → Nat
  | 0 => 0
  | k + 1 => nv xs p k + by_ xs (p + k) * 2 ^ (8 * k)
theorem nv_lt {xs : List Int} (h : BY xs) (p : Nat) : ∀ k, nv xs p k < 2 ^ (8 * k)
  | 0 => by rw [nv]; decide
  | k + 1 => by
    have h1 := nv_lt h p k
    have h2 := h.lt (p + k)
    rw [nv, show 2 ^ (8 * (k + 1)) = 256 * 2 ^ (8 * k) by rw [show 8 * (k + 1) = 8 * k + 8 by omega, Nat.pow_add]; omega]
    have h3 : by_ xs (p + k) * 2 ^ (8 * k) ≤ 255 * 2 ^ (8 * k) := Nat.mul_le_mul_right _ (by omega)
    omega
theorem nv_cons (xs : List Int) (p : Nat) : ∀ k, nv xs p (k + 1) = by_ xs p + nv xs (p + 1) k * 2 ^ 8
  | 0 => by rw [nv, nv, nv]; simp
  | k + 1 => by
    rw [nv, nv_cons xs p k, nv, show p + 1 + k = p + (k + 1) by omega, Nat.add_mul, show 2 ^ (8 * (k + 1)) = 2 ^ (8 * k) * 2 ^ 8 by rw [show 8 * (k + 1) = 8 * k + 8 by omega, Nat.pow_add], Nat.mul_assoc]
    omega
theorem p64 {k : Nat} (h : k ≤ 8) : 2 ^ (8 * k) ≤ 18446744073709551616 := by
  have : 2 ^ (8 * k) ≤ 2 ^ 64 := Nat.pow_le_pow_right (by decide) (by omega)
  exact this
theorem sh8 : ∀ j : Nat, j < 8 → ((((8 : Int32) * iI j).toInt64 &&& 63).toBitVec.smod 64).toNat = 8 * j := by decide +kernel
theorem s_number {N : Nat} {cnt : Int32} {f : Nat → Int32} {xs : List Int} (h : BR N cnt f xs) (hN : N < 1048576) {p k : Nat} (hp : p < 1000000) (hk : k ≤ 8) : m_Bytes_number (iI p) (iI k) cnt N f = some (jI (nv xs p k)) := by
  apply ok_eq
  have hy := h.by
  unfold m_Bytes_number
  refine ok_bind (Q := fun x => x = jI (nv xs p k)) ?_ (fun o ho => ok_some ho)
  refine ok_loop (fun j s => s.2 = iI j ∧ s.1 = jI (nv xs p j)) k (by omega) ⟨rfl, rfl⟩ ?_
  rintro j ⟨s1, s2⟩ hj ⟨e1, e2⟩
  dsimp only at e1 e2
  subst e1 e2
  unfold m_Bytes_number_B5
  dsimp only
  by_cases c : k ≤ j
  · rw [if_leT (by omega) (by omega) (by omega)]
    exact ok_end (by rw [show k = j by omega])
  · have hlt := hy.lt (p + j)
    have h1 := nv_lt hy p (j + 1)
    have h2 := p64 (k := j + 1) (by omega)
    rw [nv] at h1
    rw [if_leF (by omega) (by omega) (by omega), iI_add, show (p : Int) + (j : Int) = ((p + j : Nat) : Int) by omega, s_byteAt h hN (by omega), Option.bind_some, iI_j (by omega), jI_shl _ _ _ (sh8 j (by omega)), bnd_eq, show (by_ xs (p + j) : Int) * 2 ^ (8 * j) = ((by_ xs (p + j) * 2 ^ (8 * j) : Nat) : Int) by rw [Int.natCast_mul, Int.natCast_pow]; rfl, jI_orc (nv_lt hy p j) (by omega), bnd_eq, lit_1, iI_add]
    exact ok_go ⟨j + 1, by omega, by omega, rfl, rfl⟩
theorem t_number {cnt : Int32} {f : Nat → Int32} {xs : List Int} (h : MR cnt f xs) (hy : BY xs) {N p k : Nat} (hN : N < 1048576) (hl : xs.length ≤ N) (hp : p + k ≤ xs.length) (hk : k ≤ 8) : m_Mo_number (iI p) (iI k) N f = some (jI (nv xs p k)) := by
  apply ok_eq
  unfold m_Mo_number
  rw [lit_1, iI_sub, bnd_eq]
  refine ok_bind (Q := fun x => x = jI (nv xs p k)) ?_ (fun o ho => ok_some ho)
  refine ok_loop (fun j s => j ≤ k ∧ s.2 = iI ((k : Int) - 1 - j) ∧ s.1 = jI (nv xs (p + (k - j)) j)) k (by omega) ⟨by omega, by simp, rfl⟩ ?_
  rintro j ⟨s1, s2⟩ hj ⟨e0, e1, e2⟩
  dsimp only at e1 e2
  subst e1 e2
  unfold m_Mo_number_B7
  dsimp only
  by_cases c : k ≤ j
  · rw [if_lt0T (by omega) (by omega)]
    exact ok_end (by rw [show k - j = 0 by omega, Nat.add_zero, show j = k by omega])
  · obtain ⟨i, hi⟩ : ∃ i, i + 1 + j = k := ⟨k - 1 - j, by omega⟩
    have hlt := hy.lt (p + i)
    have h1 := nv_lt hy (p + i) (j + 1)
    have h2 := p64 (k := j + 1) (by omega)
    rw [nv_cons] at h1
    rw [if_lt0F (by omega) (by omega), iI_add, chk_iI (by omega) (by omega), bnd_eq, iI_clamp (by omega) (by omega), show ((p : Int) + ((k : Int) - 1 - (j : Int))).toNat = p + i by omega, t_byteAt h (by omega), iI_j (by omega), show p + (k - j) = p + i + 1 by omega, jI_shl _ 8 8 (by decide), show (nv xs (p + i + 1) j : Int) * 2 ^ 8 = ((nv xs (p + i + 1) j * 2 ^ 8 : Nat) : Int) by rw [Int.natCast_mul]; rfl, jI_or (show by_ xs (p + i) < 2 ^ 8 from hlt) (by omega), bnd_eq, lit_m1, iI_add]
    refine ok_go ⟨j + 1, by omega, by omega, by omega, ?_, ?_⟩
    · dsimp only
      congr 1
      omega
    · dsimp only
      rw [show p + (k - (j + 1)) = p + i by omega, nv_cons]
theorem n4_nv {xs : List Int} (hy : BY xs) (p : Nat) : n4 (rd xs) p = iI (nv xs p 4) := by
  have a0 := hy.lt p
  have a1 := hy.lt (p + 1)
  have a2 := hy.lt (p + 2)
  have a3 := hy.lt (p + 3)
  have e : ∀ j, rd xs j = iI (by_ xs j) := fun j => by unfold rd; rw [hy.eq]
  unfold n4
  rw [e, e, e, e, iI_shl _ 8 8 (by decide), iI_shl _ 16 16 (by decide), iI_shl _ 24 24 (by decide)]
  rw [show (by_ xs (p + 1) : Int) * 2 ^ 8 = ((by_ xs (p + 1) * 2 ^ 8 : Nat) : Int) by rw [Int.natCast_mul]; rfl, iI_orc a0 (by omega), show (by_ xs (p + 2) : Int) * 2 ^ 16 = ((by_ xs (p + 2) * 2 ^ 16 : Nat) : Int) by rw [Int.natCast_mul]; rfl, iI_orc (show _ < 2 ^ 16 by omega) (by omega), show (by_ xs (p + 3) : Int) * 2 ^ 24 = ((by_ xs (p + 3) * 2 ^ 24 : Nat) : Int) by rw [Int.natCast_mul]; rfl, iI_orc (show _ < 2 ^ 24 by omega) (by omega)]
  congr 2
  rw [nv, nv, nv, nv, nv]
  simp
theorem s_num32 {N : Nat} {cnt : Int32} {f : Nat → Int32} {xs : List Int} (h : BR N cnt f xs) (hN : N < 1048576) {p : Nat} (hp : p + 4 ≤ xs.length) : m_Bytes_number32 (iI p) cnt N f = some (iI (nv xs p 4)) := by
  rw [s_n32 h (by omega) hp, n4_nv h.by]
