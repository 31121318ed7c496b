/-! numbers: an Int32 by its whole number -/
def iI (z : Int) : Int32 := Int32.ofInt z
def jI (z : Int) : Int64 := Int64.ofInt z
theorem iI_add (a b : Int) : iI a + iI b = iI (a + b) := (Int32.ofInt_add a b).symm
theorem iI_sub (a b : Int) : iI a - iI b = iI (a - b) := (Int32.ofInt_sub a b).symm
theorem iI_mul (a b : Int) : iI a * iI b = iI (a * b) := (Int32.ofInt_mul a b).symm
theorem iI_neg (a : Int) : -iI a = iI (-a) := (Int32.ofInt_neg a).symm
theorem jI_add (a b : Int) : jI a + jI b = jI (a + b) := (Int64.ofInt_add a b).symm
theorem jI_sub (a b : Int) : jI a - jI b = jI (a - b) := (Int64.ofInt_sub a b).symm
theorem jI_mul (a b : Int) : jI a * jI b = jI (a * b) := (Int64.ofInt_mul a b).symm
theorem jI_neg (a : Int) : -jI a = jI (-a) := (Int64.ofInt_neg a).symm
theorem iI_lit (n : Nat) : (OfNat.ofNat n : Int32) = iI (OfNat.ofNat n) := rfl
theorem jI_lit (n : Nat) : (OfNat.ofNat n : Int64) = jI (OfNat.ofNat n) := rfl
theorem iI_nI (n : Nat) : nI n = iI n := rfl
theorem jI_lN (n : Nat) : lN n = jI n := rfl
theorem iI_toInt {z : Int} (h1 : -2147483648 ≤ z) (h2 : z < 2147483648) : (iI z).toInt = z := Int32.toInt_ofInt_of_le h1 h2
theorem jI_toInt {z : Int} (h1 : -9223372036854775808 ≤ z) (h2 : z < 9223372036854775808) : (jI z).toInt = z := Int64.toInt_ofInt_of_le h1 h2
theorem iI_of (x : Int32) : x = iI x.toInt := (Int32.ofInt_toInt x).symm
theorem jI_of (x : Int64) : x = jI x.toInt := (Int64.ofInt_toInt x).symm
theorem iI_lt {a b : Int} (h1 : -2147483648 ≤ a ∧ a < 2147483648) (h2 : -2147483648 ≤ b ∧ b < 2147483648) : (iI a < iI b) = (a < b) := by
  rw [Int32.lt_iff_toInt_lt, iI_toInt h1.1 h1.2, iI_toInt h2.1 h2.2]
theorem iI_le {a b : Int} (h1 : -2147483648 ≤ a ∧ a < 2147483648) (h2 : -2147483648 ≤ b ∧ b < 2147483648) : (iI a ≤ iI b) = (a ≤ b) := by
  rw [Int32.le_iff_toInt_le, iI_toInt h1.1 h1.2, iI_toInt h2.1 h2.2]
theorem iI_eq {a b : Int} (h1 : -2147483648 ≤ a ∧ a < 2147483648) (h2 : -2147483648 ≤ b ∧ b < 2147483648) : (iI a = iI b) = (a = b) := by
  rw [← Int32.toInt_inj, iI_toInt h1.1 h1.2, iI_toInt h2.1 h2.2]
theorem iI_lt0 {a : Int} (h1 : -2147483648 ≤ a ∧ a < 2147483648) : (iI a < (0 : Int32)) = (a < 0) := iI_lt (b := 0) h1 (by omega)
theorem iI_0lt {a : Int} (h1 : -2147483648 ≤ a ∧ a < 2147483648) : ((0 : Int32) < iI a) = (0 < a) := iI_lt (a := 0) (by omega) h1
theorem iI_0le {a : Int} (h1 : -2147483648 ≤ a ∧ a < 2147483648) : ((0 : Int32) ≤ iI a) = (0 ≤ a) := iI_le (a := 0) (by omega) h1
theorem iI_le0 {a : Int} (h1 : -2147483648 ≤ a ∧ a < 2147483648) : (iI a ≤ (0 : Int32)) = (a ≤ 0) := iI_le (b := 0) h1 (by omega)
theorem iI_eq0 {a : Int} (h1 : -2147483648 ≤ a ∧ a < 2147483648) : (iI a = (0 : Int32)) = (a = 0) := iI_eq (b := 0) h1 (by omega)
theorem if_ltT {β : Type} {a b : Int} {x y : β} (h1 : -2147483648 ≤ a ∧ a < 2147483648) (h2 : -2147483648 ≤ b ∧ b < 2147483648) (h : a < b) : (if iI a < iI b then x else y) = x := if_pos (by rw [iI_lt h1 h2]; exact h)
theorem if_ltF {β : Type} {a b : Int} {x y : β} (h1 : -2147483648 ≤ a ∧ a < 2147483648) (h2 : -2147483648 ≤ b ∧ b < 2147483648) (h : ¬ a < b) : (if iI a < iI b then x else y) = y := if_neg (by rw [iI_lt h1 h2]; exact h)
theorem if_leT {β : Type} {a b : Int} {x y : β} (h1 : -2147483648 ≤ a ∧ a < 2147483648) (h2 : -2147483648 ≤ b ∧ b < 2147483648) (h : a ≤ b) : (if iI a ≤ iI b then x else y) = x := if_pos (by rw [iI_le h1 h2]; exact h)
theorem if_leF {β : Type} {a b : Int} {x y : β} (h1 : -2147483648 ≤ a ∧ a < 2147483648) (h2 : -2147483648 ≤ b ∧ b < 2147483648) (h : ¬ a ≤ b) : (if iI a ≤ iI b then x else y) = y := if_neg (by rw [iI_le h1 h2]; exact h)
theorem if_eqT {β : Type} {a b : Int} {x y : β} (h1 : -2147483648 ≤ a ∧ a < 2147483648) (h2 : -2147483648 ≤ b ∧ b < 2147483648) (h : a = b) : (if iI a = iI b then x else y) = x := if_pos (by rw [iI_eq h1 h2]; exact h)
theorem if_eqF {β : Type} {a b : Int} {x y : β} (h1 : -2147483648 ≤ a ∧ a < 2147483648) (h2 : -2147483648 ≤ b ∧ b < 2147483648) (h : ¬ a = b) : (if iI a = iI b then x else y) = y := if_neg (by rw [iI_eq h1 h2]; exact h)
theorem if_lt0T {β : Type} {a : Int} {x y : β} (h1 : -2147483648 ≤ a ∧ a < 2147483648) (h : a < 0) : (if iI a < (0 : Int32) then x else y) = x := if_pos (by rw [iI_lt0 h1]; exact h)
theorem if_lt0F {β : Type} {a : Int} {x y : β} (h1 : -2147483648 ≤ a ∧ a < 2147483648) (h : ¬ a < 0) : (if iI a < (0 : Int32) then x else y) = y := if_neg (by rw [iI_lt0 h1]; exact h)
theorem if_0ltT {β : Type} {a : Int} {x y : β} (h1 : -2147483648 ≤ a ∧ a < 2147483648) (h : 0 < a) : (if (0 : Int32) < iI a then x else y) = x := if_pos (by rw [iI_0lt h1]; exact h)
theorem if_0ltF {β : Type} {a : Int} {x y : β} (h1 : -2147483648 ≤ a ∧ a < 2147483648) (h : ¬ 0 < a) : (if (0 : Int32) < iI a then x else y) = y := if_neg (by rw [iI_0lt h1]; exact h)
theorem if_0leT {β : Type} {a : Int} {x y : β} (h1 : -2147483648 ≤ a ∧ a < 2147483648) (h : 0 ≤ a) : (if (0 : Int32) ≤ iI a then x else y) = x := if_pos (by rw [iI_0le h1]; exact h)
theorem if_0leF {β : Type} {a : Int} {x y : β} (h1 : -2147483648 ≤ a ∧ a < 2147483648) (h : ¬ 0 ≤ a) : (if (0 : Int32) ≤ iI a then x else y) = y := if_neg (by rw [iI_0le h1]; exact h)
theorem if_le0T {β : Type} {a : Int} {x y : β} (h1 : -2147483648 ≤ a ∧ a < 2147483648) (h : a ≤ 0) : (if iI a ≤ (0 : Int32) then x else y) = x := if_pos (by rw [iI_le0 h1]; exact h)
theorem if_le0F {β : Type} {a : Int} {x y : β} (h1 : -2147483648 ≤ a ∧ a < 2147483648) (h : ¬ a ≤ 0) : (if iI a ≤ (0 : Int32) then x else y) = y := if_neg (by rw [iI_le0 h1]; exact h)
theorem if_eq0T {β : Type} {a : Int} {x y : β} (h1 : -2147483648 ≤ a ∧ a < 2147483648) (h : a = 0) : (if iI a = (0 : Int32) then x else y) = x := if_pos (by rw [iI_eq0 h1]; exact h)
theorem if_eq0F {β : Type} {a : Int} {x y : β} (h1 : -2147483648 ≤ a ∧ a < 2147483648) (h : ¬ a = 0) : (if iI a = (0 : Int32) then x else y) = y := if_neg (by rw [iI_eq0 h1]; exact h)
theorem jI_lt {a b : Int} (h1 : -9223372036854775808 ≤ a ∧ a < 9223372036854775808) (h2 : -9223372036854775808 ≤ b ∧ b < 9223372036854775808) : (jI a < jI b) = (a < b) := by
  rw [Int64.lt_iff_toInt_lt, jI_toInt h1.1 h1.2, jI_toInt h2.1 h2.2]
theorem jI_le {a b : Int} (h1 : -9223372036854775808 ≤ a ∧ a < 9223372036854775808) (h2 : -9223372036854775808 ≤ b ∧ b < 9223372036854775808) : (jI a ≤ jI b) = (a ≤ b) := by
  rw [Int64.le_iff_toInt_le, jI_toInt h1.1 h1.2, jI_toInt h2.1 h2.2]
theorem jI_eq {a b : Int} (h1 : -9223372036854775808 ≤ a ∧ a < 9223372036854775808) (h2 : -9223372036854775808 ≤ b ∧ b < 9223372036854775808) : (jI a = jI b) = (a = b) := by
  rw [← Int64.toInt_inj, jI_toInt h1.1 h1.2, jI_toInt h2.1 h2.2]
theorem iI_clamp {z : Int} (h : z < 2147483648) (h1 : -2147483648 ≤ z) : (iI z).toNatClampNeg = z.toNat := by
  show (iI z).toInt.toNat = z.toNat
  rw [iI_toInt h1 h]
theorem iI_div {a b : Int} (h1 : 0 ≤ a ∧ a < 2147483648) (h2 : 0 < b ∧ b < 2147483648) : iI a / iI b = iI (a / b) := by
  apply Int32.toInt_inj.mp
  have hb : iI b ≠ -1 := by
    intro h
    have := congrArg Int32.toInt h
    rw [iI_toInt (by omega) (by omega)] at this
    have e : ((-1 : Int32)).toInt = -1 := by decide
    omega
  have h3 : 0 ≤ a / b := Int.ediv_nonneg h1.1 (by omega)
  have h4 : a / b ≤ a := Int.ediv_le_self b h1.1
  rw [Int32.toInt_div_of_ne_right _ _ hb, iI_toInt (by omega) (by omega), iI_toInt (by omega) (by omega), iI_toInt (by omega) (by omega), Int.tdiv_eq_ediv_of_nonneg h1.1]
theorem iI_rem {a b : Int} (h1 : 0 ≤ a ∧ a < 2147483648) (h2 : 0 < b ∧ b < 2147483648) : irem (iI a) (iI b) = iI (a % b) := by
  show iI a - iI a / iI b * iI b = _
  rw [iI_div h1 h2, iI_mul, iI_sub, Int.emod_def, Int.mul_comm b]
theorem iI_max {a b : Int} (h1 : -2147483648 ≤ a ∧ a < 2147483648) (h2 : -2147483648 ≤ b ∧ b < 2147483648) : imax (iI a) (iI b) = iI (max a b) := by
  show (if iI a < iI b then iI b else iI a) = _
  by_cases h : a < b
  · rw [if_pos (by rw [iI_lt h1 h2]; exact h), Int.max_eq_right (by omega)]
  · rw [if_neg (by rw [iI_lt h1 h2]; exact h), Int.max_eq_left (by omega)]
theorem iI_min {a b : Int} (h1 : -2147483648 ≤ a ∧ a < 2147483648) (h2 : -2147483648 ≤ b ∧ b < 2147483648) : imin (iI a) (iI b) = iI (min a b) := by
  show (if iI b < iI a then iI b else iI a) = _
  by_cases h : b < a
  · rw [if_pos (by rw [iI_lt h2 h1]; exact h), Int.min_eq_right (by omega)]
  · rw [if_neg (by rw [iI_lt h2 h1]; exact h), Int.min_eq_left (by omega)]
theorem iI_j {z : Int} (h : -2147483648 ≤ z ∧ z < 2147483648) : (iI z).toInt64 = jI z := by
  apply Int64.toInt_inj.mp
  rw [Int32.toInt_toInt64, iI_toInt h.1 h.2, jI_toInt (by omega) (by omega)]
theorem jI_i (z : Int) : (jI z).toInt32 = iI z := by
  apply Int32.toInt_inj.mp
  show _ = (Int32.ofInt z).toInt
  rw [Int64.toInt_toInt32, Int32.toInt_ofInt]
  show ((Int64.ofInt z).toInt).bmod _ = _
  rw [Int64.toInt_ofInt]
  exact Int.bmod_bmod_of_dvd (by decide)
theorem chk_iI {β : Type} {z : Int} {n : Nat} {k : Option β} (h : 0 ≤ z ∧ z < n) (hn : n < 2147483648) : chk (iI z) n k = k := by
  unfold chk
  rw [if_neg]
  intro q
  rcases q with q | q
  · rw [show (0 : Int32) = iI 0 from rfl, iI_lt (by omega) (by omega)] at q; omega
  · rw [iI_clamp (by omega) (by omega)] at q; omega
theorem lg_jI {a b : Int} (h1 : -9223372036854775808 ≤ a ∧ a < 9223372036854775808) (h2 : -9223372036854775808 ≤ b ∧ b < 9223372036854775808) : lg_cmp (jI a) (jI b) = iI (if a < b then -1 else if b < a then 1 else 0) := by
  unfold lg_cmp
  by_cases h : b < a
  · have h' : ¬ a < b := by omega
    simp only [jI_lt h2 h1, jI_eq h1 h2, h, h', if_true, if_false]; rfl
  · by_cases h' : a < b
    · have h3 : ¬ a = b := by omega
      simp only [jI_lt h2 h1, jI_eq h1 h2, h, h', h3, if_true, if_false]; rfl
    · have h3 : a = b := by omega
      simp only [jI_lt h2 h1, jI_eq h1 h2, h, h', h3, if_true, if_false]
      subst h3
      simp
      rfl
/-! what an Option program comes to -/
def ok {α : Type} (m : Option α) (P : α → Prop) : Prop := ∃ a, m = some a ∧ P a
theorem ok_some {α : Type} {a : α} {P : α → Prop} (h : P a) : ok (some a) P := ⟨a, rfl, h⟩
theorem ok_bind {α β : Type} {m : Option α} {k : α → Option β} {Q : α → Prop} {P : β → Prop} (h : ok m Q) (hk : ∀ a, Q a → ok (k a) P) : ok (m.bind k) P := by
  obtain ⟨a, e, h⟩ := h
  rw [e]
  exact hk a h
theorem ok_bnd {α β : Type} {e : α} {k : α → Option β} {P : β → Prop} (h : ok (k e) P) : ok (bnd e k) P := h
theorem ok_if {β : Type} {c : Prop} [Decidable c] {a b : Option β} {P : β → Prop} (h1 : c → ok a P) (h2 : ¬ c → ok b P) : ok (if c then a else b) P := by
  by_cases h : c
  · rw [if_pos h]; exact h1 h
  · rw [if_neg h]; exact h2 h
theorem ok_mono {α : Type} {m : Option α} {P Q : α → Prop} (h : ok m Q) (hq : ∀ a, Q a → P a) : ok m P := by
  obtain ⟨a, e, h⟩ := h
  exact ⟨a, e, hq a h⟩
theorem ok_eq {α : Type} {m : Option α} {a : α} (h : ok m (fun x => x = a)) : m = some a := by
  obtain ⟨b, e, h⟩ := h
  rw [e, h]
theorem ok_of {α : Type} {m : Option α} {a : α} {P : α → Prop} (h : m = some a) (hp : P a) : ok m P := ⟨a, h, hp⟩
theorem ok_iter {S X : Type} {f : S → Option (S ⊕ X)} {P : X → Prop} (I : S → Prop) (μ : S → Nat) (hb : ∀ s, I s → ok (f s) (fun r => match r with | .inl s' => I s' ∧ μ s' < μ s | .inr x => P x)) : ∀ (n : Nat) (s : S), I s → μ s < n → ok (iter f n s) P
  | 0, s, _, h => absurd h (Nat.not_lt_zero _)
  | n + 1, s, hI, h => by
    unfold iter
    refine ok_bind (hb s hI) ?_
    intro r hr
    cases r with
    | inl s' => exact ok_iter I μ hb n s' hr.1 (by have := hr.2; omega)
    | inr x => exact ok_some hr
