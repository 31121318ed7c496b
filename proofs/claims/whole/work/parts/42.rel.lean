/-! the relation of what both hold, and the calls that are short -/
theorem iI_ex (x : Int32) : ∃ z : Int, (-2147483648 ≤ z ∧ z < 2147483648) ∧ x = iI z := ⟨x.toInt, ⟨Int32.le_toInt x, Int32.toInt_lt x⟩, iI_of x⟩
def SETS (sF mt : Nat → Int32) : Prop := (∀ j, j < 6 → sF j = mt j) ∧ (∃ B : Int, 16 ≤ B ∧ B ≤ 4000 ∧ sF 0 = iI B) ∧ ∀ j, 1 ≤ j → j ≤ 4 → sF j = 0 ∨ sF j = 1
def SPR (xN : Int32) : Prop := ∃ k : Int, (0 ≤ k ∧ k ≤ 12000) ∧ xN = iI k
def BLK (bN : Int32) (bF : Nat → Int32) (mb : Int32) (mbf : Nat → Int32) : Prop := ∃ k : Nat, k ≤ 1000 ∧ bN = iI k ∧ mb = iI k ∧ ∀ j, j < 7 * k → bF j = mbf j
def RUL (rb ra mr mp : Int32) : Prop := rb = mr ∧ (mr = 0 → mp = -2) ∧ (mr ≠ 0 → ra = mp)
def RV0 : RI := fun iN iF wN wF sF oN oF xN bN bF ob oa l1 l2 mi mif mo mof md mdf mt mb mbf mr mp => ∃ inp dic out : List Int, BR 4000 iN iF inp ∧ MR mi mif inp ∧ BR 1000 wN wF dic ∧ MR md mdf dic ∧ BR 12000 oN oF out ∧ MR mo mof out ∧ SETS sF mt ∧ SPR xN ∧ BLK bN bF mb mbf ∧ RUL ob oa mr mp ∧ l1 = 0 ∧ l2 = 1
theorem BR.nil (N : Nat) (f : Nat → Int32) : BR N 0 f [] := ⟨rfl, Nat.zero_le _, fun j h => absurd h (Nat.not_lt_zero _)⟩
theorem MR.nil (f : Nat → Int32) : MR 0 f [] := ⟨rfl, fun j h => absurd h (Nat.not_lt_zero _)⟩
theorem rv_ini : RV_ini RV0 := by
  refine ⟨[], [], [], BR.nil _ _, MR.nil _, BR.nil _ _, MR.nil _, BR.nil _ _, MR.nil _, ⟨fun _ _ => rfl, ⟨4000, by omega, by omega, rfl⟩, fun j h1 h2 => Or.inl ?_⟩, ⟨0, by omega, rfl⟩, ⟨0, by omega, rfl, rfl, fun j h => absurd h (by omega)⟩, ⟨rfl, fun _ => rfl, fun h => absurd rfl h⟩, rfl, rfl⟩
  rw [pk_un (by omega)]
theorem BR.take {N : Nat} {cnt : Int32} {f : Nat → Int32} {xs : List Int} (h : BR N cnt f xs) {k : Nat} (hk : k ≤ xs.length) : BR N (iI k) f (xs.take k) := by
  obtain ⟨h1, h2, h3⟩ := h
  have hl : (xs.take k).length = k := by rw [List.length_take]; omega
  refine ⟨by rw [hl], by omega, fun j hj => ?_⟩
  rw [hl] at hj
  rw [show (xs.take k).getD j 0 = xs.getD j 0 by simp [List.getD_eq_getElem?_getD, List.getElem?_take, hj]]
  exact h3 j (by omega)
theorem MR.take {cnt : Int32} {f : Nat → Int32} {xs : List Int} (h : MR cnt f xs) {k : Nat} (hk : k ≤ xs.length) : MR (iI k) f (xs.take k) := by
  obtain ⟨h1, h3⟩ := h
  have hl : (xs.take k).length = k := by rw [List.length_take]; omega
  refine ⟨by rw [hl], fun j hj => ?_⟩
  rw [hl] at hj
  rw [show (xs.take k).getD j 0 = xs.getD j 0 by simp [List.getD_eq_getElem?_getD, List.getElem?_take, hj]]
  exact h3 j (by omega)
theorem s_in {a b c : Int} (ha : -9223372036854775808 ≤ a ∧ a < 9223372036854775808) (hb : -9223372036854775808 ≤ b ∧ b < 9223372036854775808) (hc : -9223372036854775808 ≤ c ∧ c < 9223372036854775808) : m_Mo_in (jI a) (jI b) (jI c) = some (if b ≤ a ∧ a ≤ c then 1 else 0) := by
  unfold m_Mo_in
  rw [lg_jI ha hb, lg_jI ha hc, show (0 : Int32) = iI 0 from rfl]
  by_cases h1 : a < b
  · rw [if_pos h1, if_pos (by decide), if_neg (by omega)]
  · rw [if_neg h1]
    have e1 : ¬ iI (if b < a then 1 else 0) < iI 0 := by split <;> decide
    rw [if_neg e1]
    by_cases h2 : a < c
    · rw [if_pos h2, if_neg (by decide), if_pos (by omega)]
    · rw [if_neg h2]
      by_cases h3 : c < a
      · rw [if_pos h3, if_pos (by decide), if_neg (by omega)]
      · rw [if_neg h3, if_neg (by decide), if_pos (by omega)]
