/-! bytes as whole numbers of 0 to 255, rows of them as lists -/
theorem iI_u (z : Int) : ((iI z).toBitVec.toNat : Int) = z % 4294967296 := by
  show ((BitVec.ofInt 32 z).toNat : Int) = _
  rw [BitVec.toNat_ofInt]
  have h := Int.emod_nonneg z (show (2 ^ 32 : Int) ≠ 0 by decide)
  rw [show ((2 ^ 32 : Nat) : Int) = 4294967296 from rfl]
  omega
theorem iI_ofu (x : Int32) : x = iI (x.toBitVec.toNat : Int) := by
  apply Int32.toBitVec.inj
  show x.toBitVec = BitVec.ofInt 32 _
  rw [BitVec.ofInt_natCast, BitVec.ofNat_toNat, BitVec.setWidth_eq]
theorem iI_mod (z : Int) : iI z = iI (z % 4294967296) := by
  rw [← iI_u z]
  exact iI_ofu (iI z)
theorem and255 (z : Int) : iI z &&& 255 = iI (z % 256) := by
  have h := pk_and (iI z) (m := 255) 8 (by decide)
  rw [h]
  have h1 := iI_u z
  rw [iI_nI]
  congr 1
  omega
theorem and15 (z : Int) : iI z &&& 15 = iI (z % 16) := by
  have h := pk_and (iI z) (m := 15) 4 (by decide)
  rw [h]
  have h1 := iI_u z
  rw [iI_nI]
  congr 1
  omega
/-- a byte as a row holds it -/
def hb (z : Int) : Int32 := (iI z).toInt8.toInt32
theorem hb_mod (z : Int) : hb (z % 256) = hb z := by
  unfold hb
  congr 1
  apply Int8.toInt_inj.mp
  have e : ∀ y : Int, (iI y).toInt = y.bmod 4294967296 := fun y => by
    show (Int32.ofInt y).toInt = _
    rw [Int32.toInt_ofInt]
  rw [Int32.toInt_toInt8, Int32.toInt_toInt8, e, e, Int.bmod_bmod_of_dvd (by decide), Int.bmod_bmod_of_dvd (by decide)]
  exact Int.emod_bmod z 256
theorem to_hb (z : Int) : (iI z).toInt8.toInt32 = hb (z % 256) := (hb_mod z).symm
theorem nar_hb (z : Int) : vp_nar .byte ((iI z).toInt8.toInt32) = hb (z % 256) := by
  rw [pk_vb]
  exact to_hb z
theorem nar_hb2 (z : Int) : vp_nar .byte (hb z) = hb z := pk_vb _
theorem fit_hb (z : Int) : fits .byte (.int (hb z)) = true := pk_fb _
theorem hb_toInt {z : Int} (h : 0 ≤ z ∧ z < 256) : (hb z).toInt = if z < 128 then z else z - 256 := by
  unfold hb
  rw [Int8.toInt_toInt32, Int32.toInt_toInt8, iI_toInt (by omega) (by omega), Int.bmod_def]
  simp only [show ((2 ^ 8 : Nat) : Int) = 256 from rfl]
  split <;> split <;> omega
theorem hb_and {z : Int} (h : 0 ≤ z ∧ z < 256) : hb z &&& 255 = iI z := by
  have e : hb z = iI (if z < 128 then z else z - 256) := by rw [← hb_toInt h]; exact iI_of _
  rw [e, and255]
  congr 1
  split <;> omega
theorem hb_eq {a b : Int} (ha : 0 ≤ a ∧ a < 256) (hb' : 0 ≤ b ∧ b < 256) : (hb a = hb b) = (a = b) := by
  apply propext
  refine ⟨fun h => ?_, fun h => by rw [h]⟩
  have h1 := congrArg Int32.toInt h
  rw [hb_toInt ha, hb_toInt hb'] at h1
  split at h1 <;> split at h1 <;> omega
/-- a row of bytes of the class; of the reference -/
def BR (N : Nat) (cnt : Int32) (f : Nat → Int32) (xs : List Int) : Prop := cnt = iI xs.length ∧ xs.length ≤ N ∧ ∀ j, j < xs.length → (0 ≤ xs.getD j 0 ∧ xs.getD j 0 < 256) ∧ f j = hb (xs.getD j 0)
def MR (cnt : Int32) (f : Nat → Int32) (xs : List Int) : Prop := cnt = iI xs.length ∧ ∀ j, j < xs.length → (0 ≤ xs.getD j 0 ∧ xs.getD j 0 < 256) ∧ f j = iI (xs.getD j 0)
theorem gd_l {xs ys : List Int} {j : Nat} (h : j < xs.length) : (xs ++ ys).getD j 0 = xs.getD j 0 := by
  simp only [List.getD_eq_getElem?_getD]
  rw [List.getElem?_append_left h]
theorem gd_r {xs ys : List Int} {j : Nat} (h : xs.length ≤ j) : (xs ++ ys).getD j 0 = ys.getD (j - xs.length) 0 := by
  simp only [List.getD_eq_getElem?_getD]
  rw [List.getElem?_append_right h]
theorem BR.push {N : Nat} {cnt : Int32} {f : Nat → Int32} {xs : List Int} {b : Int} {v : Int32} (h : BR N cnt f xs) (hl : xs.length < N) (hb' : 0 ≤ b ∧ b < 256) (hv : v = hb b) : BR N (iI (xs.length + 1)) (upd f xs.length v) (xs ++ [b]) := by
  obtain ⟨h1, h2, h3⟩ := h
  refine ⟨by simp, by simp; omega, fun j hj => ?_⟩
  simp only [List.length_append, List.length_cons, List.length_nil] at hj
  by_cases e : j < xs.length
  · rw [gd_l e]
    exact ⟨(h3 j e).1, by rw [pk_un (by omega)]; exact (h3 j e).2⟩
  · have e2 : j = xs.length := by omega
    subst e2
    rw [gd_r (Nat.le_refl _), Nat.sub_self]
    exact ⟨hb', by rw [pk_us, hv]; rfl⟩
theorem MR.push {cnt : Int32} {f : Nat → Int32} {xs : List Int} {b : Int} {v : Int32} (h : MR cnt f xs) (hb' : 0 ≤ b ∧ b < 256) (hv : v = iI b) : MR (iI (xs.length + 1)) (upd f xs.length v) (xs ++ [b]) := by
  obtain ⟨h1, h3⟩ := h
  refine ⟨by simp, fun j hj => ?_⟩
  simp only [List.length_append, List.length_cons, List.length_nil] at hj
  by_cases e : j < xs.length
  · rw [gd_l e]
    exact ⟨(h3 j e).1, by rw [pk_un (by omega)]; exact (h3 j e).2⟩
  · have e2 : j = xs.length := by omega
    subst e2
    rw [gd_r (Nat.le_refl _), Nat.sub_self]
    exact ⟨hb', by rw [pk_us, hv]; rfl⟩
theorem ok_step {S X : Type} {f : S → Option (S ⊕ X)} {n : Nat} {s : S} {P : X → Prop} (h : ok (f s) (fun r => match r with | .inl s' => ok (iter f n s') P | .inr x => P x)) : ok (iter f (n + 1) s) P := by
  obtain ⟨r, e, h⟩ := h
  unfold iter
  rw [e]
  cases r with
  | inl s' => exact h
  | inr x => exact ok_some h
theorem s_add {N : Nat} {cnt : Int32} {f : Nat → Int32} {xs : List Int} (z : Int) (h : BR N cnt f xs) (hl : xs.length < N) (hN : N < 1073741824) : ok (m_Bytes_add (iI z) cnt N f) (fun o => BR N o.1 o.2 (xs ++ [z % 256])) := by
  have h1 := h.1
  subst h1
  unfold m_Bytes_add
  rw [if_neg (by rw [iI_nI, iI_le (by omega) (by omega)]; omega), chk_iI (by omega) (by omega)]
  refine ok_bnd (ok_some ?_)
  rw [show iI (xs.length : Int) + (1 : Int32) = iI (xs.length + 1) from iI_add _ 1, iI_clamp (by omega) (by omega), nar_hb]
  exact h.push hl (by omega) rfl
/-! feed, both sides -/
def be4 (z : Int) : List Int := [z / 16777216 % 256, z / 65536 % 256, z / 256 % 256, z % 256]
theorem iI_ushr (z : Int) (s : Int32) (k : Nat) (hs : ((s.toUInt32 &&& Int32.toUInt32 31).toBitVec % 32).toNat = k) : iushr (iI z) s = iI (z % 4294967296 / 2 ^ k) := by
  have h := pk_ushr (iI z) s k hs
  have h2 := iI_ofu (iushr (iI z) s)
  rw [h2]
  congr 1
  show (((iushr (iI z) s).toBitVec.toNat : Nat) : Int) = _
  rw [show (iushr (iI z) s).toBitVec.toNat = (iI z).toBitVec.toNat / 2 ^ k from h, Int.natCast_ediv, iI_u z, Int.natCast_pow]
  rfl
theorem iI_shr {z : Int} (h : -2147483648 ≤ z ∧ z < 2147483648) (s : Int32) (k : Nat) (hs : (s.toBitVec.smod 32).toNat = k) : iI z >>> s = iI (z / 2 ^ k) := by
  apply Int32.toInt_inj.mp
  have h1 := pk_shr (iI z) s k hs
  have h2 : (iI z >>> s).toInt = z / 2 ^ k := by
    rw [h1, iI_toInt h.1 h.2, Int.shiftRight_eq_div_pow]
    norm_cast
  have h3 := Int32.le_toInt (iI z >>> s)
  have h4 := Int32.toInt_lt (iI z >>> s)
  rw [h2] at h3 h4
  rw [h2, iI_toInt (by omega) (by omega)]
