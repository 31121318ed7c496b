/-! the class's rows of least values -/
theorem lit_2 : (2 : Int32) = iI 2 := by decide
theorem lit_3 : (3 : Int32) = iI 3 := by decide
theorem lit_63 : (63 : Int32) = iI 63 := by decide
def Lst (last : Bool) (v : Nat → Nat) (a b r : Nat) : Prop := a ≤ r ∧ r ≤ b ∧ (∀ j, a ≤ j → j ≤ b → v r ≤ v j) ∧ (∀ j, a ≤ j → j ≤ b → v j = v r → (last = true → j ≤ r) ∧ (last = false → r ≤ j))
def bt (last : Bool) (v : Nat → Nat) (r s : Nat) : Nat := if v r = v s then (if last = true then s else r) else if v s ≤ v r then s else r
theorem Lst.one (last : Bool) (v : Nat → Nat) (a : Nat) : Lst last v a a a := ⟨Nat.le_refl _, Nat.le_refl _, fun j h1 h2 => by rw [show j = a by omega]; exact Nat.le_refl _, fun j h1 h2 _ => ⟨fun _ => h2, fun _ => h1⟩⟩
theorem Lst.cat {last : Bool} {v : Nat → Nat} {a b c r s : Nat} (h1 : Lst last v a b r) (h2 : Lst last v (b + 1) c s) : Lst last v a c (bt last v r s) := by
  obtain ⟨a1, a2, a3, a4⟩ := h1
  obtain ⟨b1, b2, b3, b4⟩ := h2
  have key : ∀ x, (x = r ∨ x = s) → v x ≤ v r → v x ≤ v s → (v r = v s → (last = true → x = s) ∧ (last = false → x = r)) → Lst last v a c x := by
    intro x hx x1 x2 x3
    refine ⟨by omega, by omega, fun j y1 y2 => ?_, fun j y1 y2 y3 => ?_⟩
    · by_cases q : j ≤ b
      · exact Nat.le_trans x1 (a3 j y1 q)
      · exact Nat.le_trans x2 (b3 j (by omega) y2)
    · by_cases q : j ≤ b
      · have z1 := a3 j y1 q
        have z2 : v j = v r := by omega
        have z3 := a4 j y1 q z2
        by_cases e : v r = v s
        · have := x3 e
          exact ⟨fun l => by have := this.1 l; omega, fun l => by have := this.2 l; have := z3.2 l; omega⟩
        · have : x = r := by
            rcases hx with hx | hx
            · exact hx
            · subst hx; omega
          subst this
          exact z3
      · have z1 := b3 j (by omega) y2
        have z2 : v j = v s := by omega
        have z3 := b4 j (by omega) y2 z2
        by_cases e : v r = v s
        · have := x3 e
          exact ⟨fun l => by have := this.1 l; have := z3.1 l; omega, fun l => by have := this.2 l; omega⟩
        · have : x = s := by
            rcases hx with hx | hx
            · subst hx; omega
            · exact hx
          subst this
          exact z3
  unfold bt
  by_cases e : v r = v s
  · rw [if_pos e]
    cases last
    · rw [if_neg (by decide)]
      exact key r (Or.inl rfl) (Nat.le_refl _) (by omega) (fun _ => ⟨fun q => absurd q (by decide), fun _ => rfl⟩)
    · rw [if_pos rfl]
      exact key s (Or.inr rfl) (by omega) (Nat.le_refl _) (fun _ => ⟨fun _ => rfl, fun q => absurd q (by decide)⟩)
  · rw [if_neg e]
    by_cases e2 : v s ≤ v r
    · rw [if_pos e2]
      exact key s (Or.inr rfl) e2 (Nat.le_refl _) (fun q => absurd q e)
    · rw [if_neg e2]
      exact key r (Or.inl rfl) (Nat.le_refl _) (by omega) (fun q => absurd q e)
theorem Lst.sym {last : Bool} {v : Nat → Nat} {a b r s : Nat} (h1 : Lst last v a b r) (h2 : Lst last v a b s) : r = s := by
  have e1 := h1.2.2.1 s h2.1 h2.2.1
  have e2 := h2.2.2.1 r h1.1 h1.2.1
  have f1 := h1.2.2.2 s h2.1 h2.2.1 (by omega)
  have f2 := h2.2.2.2 r h1.1 h1.2.1 (by omega)
  cases last
  · have := f1.2 rfl
    have := f2.2 rfl
    omega
  · have := f1.1 rfl
    have := f2.1 rfl
    omega
def VB (n : Nat) (v : Nat → Nat) : Prop := ∀ j, j ≤ n → v j < 1073741824
def VF (n p : Nat) (v : Nat → Nat) (F : Nat → Int32) : Prop := ∀ j, p ≤ j → j ≤ n → F j = iI (v j)
theorem s_better {last : Bool} {v : Nat → Nat} {vF : Nat → Int32} {n p : Nat} (hv : VF n p v vF) (hb : VB n v) (hn : n ≤ 4000) {r s : Nat} (hr : p ≤ r ∧ r ≤ n) (hs : p ≤ s ∧ s ≤ n) : m_Lows_better (iI r) (iI s) (iI (if last = true then 1 else 0)) 4001 vF = some (iI (bt last v r s)) := by
  have br := hb r hr.2
  have bs := hb s hs.2
  unfold m_Lows_better bt
  simp (disch := omega) only [bnd_eq, Option.bind_some, lit_0, lit_1, lit_m1, lit_4, lit_5000, iI_nI, iI_add, iI_sub, iI_mul, iI_neg, chk_iI, iI_clamp, iI_lt, iI_le, iI_eq, if_pos, if_neg, if_true, if_false, Int.toNat_natCast]
  rw [hv r hr.1 hr.2, hv s hs.1 hs.2]
  by_cases e : v r = v s
  · rw [if_pos e]
    simp (disch := omega) only [bnd_eq, Option.bind_some, lit_0, lit_1, lit_m1, lit_4, lit_5000, iI_nI, iI_add, iI_sub, iI_mul, iI_neg, chk_iI, iI_clamp, iI_lt, iI_le, iI_eq, if_pos, if_neg, if_true, if_false, Int.toNat_natCast]
    cases last
    · rw [if_pos (by simp), if_neg (by decide)]
    · rw [if_neg (by decide), if_pos rfl]
  · rw [if_neg e]
    by_cases e2 : v s ≤ v r
    · rw [if_pos e2]
      simp (disch := omega) only [bnd_eq, Option.bind_some, lit_0, lit_1, lit_m1, lit_4, lit_5000, iI_nI, iI_add, iI_sub, iI_mul, iI_neg, chk_iI, iI_clamp, iI_lt, iI_le, iI_eq, if_pos, if_neg, if_true, if_false, Int.toNat_natCast]
    · rw [if_neg e2]
      simp (disch := omega) only [bnd_eq, Option.bind_some, lit_0, lit_1, lit_m1, lit_4, lit_5000, iI_nI, iI_add, iI_sub, iI_mul, iI_neg, chk_iI, iI_clamp, iI_lt, iI_le, iI_eq, if_pos, if_neg, if_true, if_false, Int.toNat_natCast]
def LW (last : Bool) (n : Nat) (v : Nat → Nat) (p : Nat) (vF oF sF : Nat → Int32) : Prop := VF n p v vF ∧ (∀ j, p ≤ j → j ≤ n → ∃ r : Nat, oF j = iI r ∧ Lst last v j (min n (j / 64 * 64 + 63)) r) ∧ (∀ j, p ≤ j / 64 * 64 → j ≤ n → ∃ r : Nat, sF j = iI r ∧ Lst last v (j / 64 * 64) j r)
theorem LW.start (last : Bool) (n : Nat) (v : Nat → Nat) (vF oF sF : Nat → Int32) : LW last n v (n + 1) vF oF sF := ⟨fun j h1 h2 => by omega, fun j h1 h2 => by omega, fun j h1 h2 => by omega⟩
theorem s_put {last : Bool} {v : Nat → Nat} {vF oF sF : Nat → Int32} {n p : Nat} (h : LW last n v (p + 1) vF oF sF) (hb : VB n v) (hn : n ≤ 4000) (hp : p ≤ n) : ok (m_Lows_put (iI p) (iI (v p)) (iI (if last = true then 1 else 0)) (iI n) 4001 vF 4001 oF 4001 sF) (fun o => LW last n v p o.1 o.2.1 o.2.2) := by
  obtain ⟨h1, h2, h3⟩ := h
  have hv : VF n p v (upd vF p (iI (v p))) := by
    intro j x1 x2
    by_cases c : j = p
    · rw [c, pk_us]
    · rw [pk_un c]
      exact h1 j (by omega) x2
  have hJ : ∀ r : Nat, Lst last v p (min n (p / 64 * 64 + 63)) r → ok (m_Lows_put_J69 (iI p) (iI (v p)) (iI (if last = true then 1 else 0)) (iI n) 4001 vF 4001 oF 4001 sF (iI r)) (fun o => LW last n v p o.1 o.2.1 o.2.2) := by
    intro r hr
    have ho : ∀ j, p ≤ j → j ≤ n → ∃ r' : Nat, upd oF p (iI r) j = iI r' ∧ Lst last v j (min n (j / 64 * 64 + 63)) r' := by
      intro j x1 x2
      by_cases c : j = p
      · subst c
        exact ⟨r, pk_us, hr⟩
      · rw [pk_un c]
        exact h2 j (by omega) x2
    unfold m_Lows_put_J69
    by_cases c0 : p % 64 = 0
    · simp (disch := omega) only [bnd_eq, Option.bind_some, lit_0, lit_1, lit_m1, lit_4, lit_5000, iI_nI, iI_add, iI_sub, iI_mul, iI_neg, chk_iI, iI_clamp, iI_lt, iI_le, iI_eq, if_pos, if_neg, if_true, if_false, Int.toNat_natCast, lit_64, iI_rem]
      unfold m_Lows_put_E135
      refine ok_bind (Q := fun F => ∀ j, p ≤ j / 64 * 64 → j ≤ n → ∃ r : Nat, F j = iI r ∧ Lst last v (j / 64 * 64) j r) ?_ ?_
      · refine ok_loop (fun k s => ∃ q : Nat, s.2 = iI q ∧ q = p + 1 + k ∧ q ≤ p + 64 ∧ (∀ j, p ≤ j → j < q → j ≤ n → ∃ r : Nat, s.1 j = iI r ∧ Lst last v p j r) ∧ (∀ j, p + 64 ≤ j / 64 * 64 → j ≤ n → ∃ r : Nat, s.1 j = iI r ∧ Lst last v (j / 64 * 64) j r)) 64 (by omega) ?_ ?_
        · refine ⟨p + 1, rfl, rfl, by omega, fun j x1 x2 x3 => ?_, fun j x1 x2 => ?_⟩
          · have : j = p := by omega
            subst this
            exact ⟨j, pk_us, Lst.one _ _ _⟩
          · dsimp only
            rw [pk_un (by omega)]
            exact h3 j (by omega) x2
        · rintro k ⟨s1, s2⟩ hk ⟨q, e1, e2, e3, e4, e5⟩
          dsimp only at e1 e4 e5
          subst e1
          unfold m_Lows_put_B89
          dsimp only
          have hend : (p + 64 ≤ q ∨ n < q) → ∀ j, p ≤ j / 64 * 64 → j ≤ n → ∃ r : Nat, s1 j = iI r ∧ Lst last v (j / 64 * 64) j r := by
            intro hq j x1 x2
            by_cases c : p + 64 ≤ j / 64 * 64
            · exact e5 j c x2
            · have : j / 64 * 64 = p := by omega
              rw [this]
              exact e4 j (by omega) (by omega) x2
          by_cases c1 : p + 64 ≤ q
          · simp (disch := omega) only [bnd_eq, Option.bind_some, lit_0, lit_1, lit_m1, lit_4, lit_5000, iI_nI, iI_add, iI_sub, iI_mul, iI_neg, chk_iI, iI_clamp, iI_lt, iI_le, iI_eq, if_pos, if_neg, if_true, if_false, Int.toNat_natCast, lit_64]
            exact ok_end (hend (Or.inl c1))
          · by_cases c2 : n < q
            · simp (disch := omega) only [bnd_eq, Option.bind_some, lit_0, lit_1, lit_m1, lit_4, lit_5000, iI_nI, iI_add, iI_sub, iI_mul, iI_neg, chk_iI, iI_clamp, iI_lt, iI_le, iI_eq, if_pos, if_neg, if_true, if_false, Int.toNat_natCast, lit_64]
              exact ok_end (hend (Or.inr c2))
            · simp (disch := omega) only [bnd_eq, Option.bind_some, lit_0, lit_1, lit_m1, lit_4, lit_5000, iI_nI, iI_add, iI_sub, iI_mul, iI_neg, chk_iI, iI_clamp, iI_lt, iI_le, iI_eq, if_pos, if_neg, if_true, if_false, Int.toNat_natCast, lit_64]
              rw [show ((q : Int) - 1).toNat = q - 1 by omega]
              obtain ⟨r1, y1, y2⟩ := e4 (q - 1) (by omega) (by omega) (by omega)
              rw [y1, s_better hv hb hn (by have := y2.1; have := y2.2.1; omega) (by omega)]
              simp (disch := omega) only [bnd_eq, Option.bind_some, lit_0, lit_1, lit_m1, lit_4, lit_5000, iI_nI, iI_add, iI_sub, iI_mul, iI_neg, chk_iI, iI_clamp, iI_lt, iI_le, iI_eq, if_pos, if_neg, if_true, if_false, Int.toNat_natCast]
              refine ok_go ⟨k + 1, by omega, by omega, q + 1, rfl, by omega, by omega, fun j x1 x2 x3 => ?_, fun j x1 x2 => ?_⟩
              · dsimp only
                by_cases c3 : j = q
                · subst c3
                  refine ⟨_, pk_us, ?_⟩
                  refine y2.cat ?_
                  rw [show j - 1 + 1 = j by omega]
                  exact Lst.one _ _ _
                · rw [pk_un c3]
                  exact e4 j x1 (by omega) x3
              · dsimp only
                rw [pk_un (by omega)]
                exact e5 j x1 x2
      · intro F hF
        simp (disch := omega) only [bnd_eq, Option.bind_some, lit_0, lit_1, lit_m1, lit_4, lit_5000, iI_nI, iI_add, iI_sub, iI_mul, iI_neg, chk_iI, iI_clamp, iI_lt, iI_le, iI_eq, if_pos, if_neg, if_true, if_false, Int.toNat_natCast]
        exact ok_some ⟨hv, ho, hF⟩
    · simp (disch := omega) only [bnd_eq, Option.bind_some, lit_0, lit_1, lit_m1, lit_4, lit_5000, iI_nI, iI_add, iI_sub, iI_mul, iI_neg, chk_iI, iI_clamp, iI_lt, iI_le, iI_eq, if_pos, if_neg, if_true, if_false, Int.toNat_natCast, lit_64, iI_rem]
      exact ok_some ⟨hv, ho, fun j x1 x2 => h3 j (by omega) x2⟩
  unfold m_Lows_put
  have hA : (p = n ∨ p % 64 = 63) → ok (m_Lows_put_J42 (iI p) (iI (v p)) (iI (if last = true then 1 else 0)) (iI n) 4001 vF 4001 oF 4001 sF 1) (fun o => LW last n v p o.1 o.2.1 o.2.2) := by
    intro hc
    unfold m_Lows_put_J42
    rw [if_neg (show ¬ (1 : Int32) = 0 by decide)]
    refine hJ p ?_
    rw [show min n (p / 64 * 64 + 63) = p by omega]
    exact Lst.one _ _ _
  by_cases c1 : p = n
  · simp (disch := omega) only [bnd_eq, Option.bind_some, lit_0, lit_1, lit_m1, lit_4, lit_5000, iI_nI, iI_add, iI_sub, iI_mul, iI_neg, chk_iI, iI_clamp, iI_lt, iI_le, iI_eq, if_pos, if_neg, if_true, if_false, Int.toNat_natCast]
    exact hA (Or.inl c1)
  · by_cases c2 : p % 64 = 63
    · simp (disch := omega) only [bnd_eq, Option.bind_some, lit_0, lit_1, lit_m1, lit_4, lit_5000, iI_nI, iI_add, iI_sub, iI_mul, iI_neg, chk_iI, iI_clamp, iI_lt, iI_le, iI_eq, if_pos, if_neg, if_true, if_false, Int.toNat_natCast, lit_64, lit_63, iI_rem]
      exact hA (Or.inr c2)
    · simp (disch := omega) only [bnd_eq, Option.bind_some, lit_0, lit_1, lit_m1, lit_4, lit_5000, iI_nI, iI_add, iI_sub, iI_mul, iI_neg, chk_iI, iI_clamp, iI_lt, iI_le, iI_eq, if_pos, if_neg, if_true, if_false, Int.toNat_natCast, lit_64, lit_63, iI_rem]
      unfold m_Lows_put_J42
      obtain ⟨r1, y1, y2⟩ := h2 (p + 1) (by omega) (by omega)
      simp (disch := omega) only [bnd_eq, Option.bind_some, lit_0, lit_1, lit_m1, lit_4, lit_5000, iI_nI, iI_add, iI_sub, iI_mul, iI_neg, chk_iI, iI_clamp, iI_lt, iI_le, iI_eq, if_pos, if_neg, if_true, if_false, Int.toNat_natCast]
      rw [show ((p : Int) + 1).toNat = p + 1 by omega, y1, s_better hv hb hn (by omega) (by have := y2.1; have := y2.2.1; omega), Option.bind_some]
      refine hJ _ ?_
      rw [show (p + 1) / 64 * 64 = p / 64 * 64 by omega] at y2
      exact (Lst.one last v p).cat y2
theorem s_least {last : Bool} {v : Nat → Nat} {vF oF sF : Nat → Int32} {n p : Nat} (h : LW last n v p vF oF sF) (hb : VB n v) (hn : n ≤ 4000) {a b : Nat} (ha : p ≤ a) (hab : a ≤ b) (hbn : b ≤ n) : ok (m_Lows_placeOfLeast (iI a) (iI b) (iI (if last = true then 1 else 0)) (iI n) 4001 vF 4001 oF 4001 sF) (fun o => ∃ r : Nat, o = iI r ∧ Lst last v a b r) := by
  obtain ⟨hv, h2, h3⟩ := h
  unfold m_Lows_placeOfLeast
  by_cases c : a / 64 = b / 64
  · simp (disch := omega) only [bnd_eq, Option.bind_some, lit_0, lit_1, lit_m1, lit_4, lit_5000, iI_nI, iI_add, iI_sub, iI_mul, iI_neg, chk_iI, iI_clamp, iI_lt, iI_le, iI_eq, if_pos, if_neg, if_true, if_false, Int.toNat_natCast, lit_64, iI_div]
    refine ok_bind (Q := fun o => ∃ r : Nat, o = iI r ∧ Lst last v a b r) ?_ (fun o ho => ok_some ho)
    refine ok_loop (fun k s => ∃ q r : Nat, s.2 = iI q ∧ s.1 = iI r ∧ q = a + 1 + k ∧ q ≤ b + 1 ∧ Lst last v a (q - 1) r) 5000 (by omega) ⟨a + 1, a, rfl, rfl, rfl, by omega, Lst.one _ _ _⟩ ?_
    rintro k ⟨s1, s2⟩ hk ⟨q, r, e1, e2, e3, e4, e5⟩
    dsimp only at e1 e2
    subst e1 e2
    unfold m_Lows_placeOfLeast_B37
    dsimp only
    by_cases c2 : b < q
    · simp (disch := omega) only [bnd_eq, Option.bind_some, lit_0, lit_1, lit_m1, lit_4, lit_5000, iI_nI, iI_add, iI_sub, iI_mul, iI_neg, chk_iI, iI_clamp, iI_lt, iI_le, iI_eq, if_pos, if_neg, if_true, if_false, Int.toNat_natCast]
      rw [show q - 1 = b by omega] at e5
      exact ok_end ⟨r, rfl, e5⟩
    · simp (disch := omega) only [bnd_eq, Option.bind_some, lit_0, lit_1, lit_m1, lit_4, lit_5000, iI_nI, iI_add, iI_sub, iI_mul, iI_neg, chk_iI, iI_clamp, iI_lt, iI_le, iI_eq, if_pos, if_neg, if_true, if_false, Int.toNat_natCast]
      rw [s_better hv hb hn (by have := e5.1; have := e5.2.1; omega) (by omega)]
      simp (disch := omega) only [bnd_eq, Option.bind_some, lit_0, lit_1, lit_m1, lit_4, lit_5000, iI_nI, iI_add, iI_sub, iI_mul, iI_neg, chk_iI, iI_clamp, iI_lt, iI_le, iI_eq, if_pos, if_neg, if_true, if_false, Int.toNat_natCast]
      refine ok_go ⟨k + 1, by omega, by omega, q + 1, _, rfl, rfl, by omega, by omega, ?_⟩
      rw [show q + 1 - 1 = q by omega]
      refine e5.cat ?_
      rw [show q - 1 + 1 = q by omega]
      exact Lst.one _ _ _
  · obtain ⟨r0, y1, y2⟩ := h2 a ha (by omega)
    simp (disch := omega) only [bnd_eq, Option.bind_some, lit_0, lit_1, lit_m1, lit_4, lit_5000, iI_nI, iI_add, iI_sub, iI_mul, iI_neg, chk_iI, iI_clamp, iI_lt, iI_le, iI_eq, if_pos, if_neg, if_true, if_false, Int.toNat_natCast, lit_64, iI_div]
    rw [y1]
    refine ok_bind (Q := fun o => ∃ r : Nat, o = iI r ∧ Lst last v a b r) ?_ (fun o ho => ok_some ho)
    refine ok_loop (fun k s => ∃ q r : Nat, s.2 = iI q ∧ s.1 = iI r ∧ q = a / 64 + 1 + k ∧ q ≤ b / 64 ∧ Lst last v a (q * 64 - 1) r) 5000 (by omega) ⟨a / 64 + 1, r0, by simp, rfl, rfl, by omega, ?_⟩ ?_
    · rw [show (a / 64 + 1) * 64 - 1 = min n (a / 64 * 64 + 63) by omega]
      exact y2
    rintro k ⟨s1, s2⟩ hk ⟨q, r, e1, e2, e3, e4, e5⟩
    dsimp only at e1 e2
    subst e1 e2
    unfold m_Lows_placeOfLeast_B74
    dsimp only
    by_cases c2 : b / 64 ≤ q
    · simp (disch := omega) only [bnd_eq, Option.bind_some, lit_0, lit_1, lit_m1, lit_4, lit_5000, iI_nI, iI_add, iI_sub, iI_mul, iI_neg, chk_iI, iI_clamp, iI_lt, iI_le, iI_eq, if_pos, if_neg, if_true, if_false, Int.toNat_natCast, lit_64, iI_div]
      obtain ⟨r1, z1, z2⟩ := h3 b (by omega) hbn
      rw [z1, s_better hv hb hn (by have := e5.1; have := e5.2.1; omega) (by have := z2.1; have := z2.2.1; omega), Option.bind_some]
      refine ok_end ⟨_, rfl, e5.cat ?_⟩
      rw [show q * 64 - 1 + 1 = b / 64 * 64 by omega]
      exact z2
    · simp (disch := omega) only [bnd_eq, Option.bind_some, lit_0, lit_1, lit_m1, lit_4, lit_5000, iI_nI, iI_add, iI_sub, iI_mul, iI_neg, chk_iI, iI_clamp, iI_lt, iI_le, iI_eq, if_pos, if_neg, if_true, if_false, Int.toNat_natCast, lit_64, iI_div]
      obtain ⟨r1, z1, z2⟩ := h2 (q * 64) (by omega) (by omega)
      rw [show ((q : Int) * 64).toNat = q * 64 by omega, z1, s_better hv hb hn (by have := e5.1; have := e5.2.1; omega) (by have := z2.1; have := z2.2.1; omega)]
      simp (disch := omega) only [bnd_eq, Option.bind_some, lit_0, lit_1, lit_m1, lit_4, lit_5000, iI_nI, iI_add, iI_sub, iI_mul, iI_neg, chk_iI, iI_clamp, iI_lt, iI_le, iI_eq, if_pos, if_neg, if_true, if_false, Int.toNat_natCast]
      refine ok_go ⟨k + 1, by omega, by omega, q + 1, _, rfl, rfl, by omega, by omega, e5.cat ?_⟩
      rw [show q * 64 - 1 + 1 = q * 64 by omega, show (q + 1) * 64 - 1 = min n (q * 64 / 64 * 64 + 63) by omega]
      exact z2
theorem s_valueAt {last : Bool} {v : Nat → Nat} {vF oF sF : Nat → Int32} {n p : Nat} (h : LW last n v p vF oF sF) (hn : n ≤ 4000) {a : Nat} (ha : p ≤ a) (hbn : a ≤ n) : m_Lows_valueAt (iI a) (iI n) 4001 vF = some (iI (v a)) := by
  unfold m_Lows_valueAt
  simp (disch := omega) only [bnd_eq, Option.bind_some, lit_0, lit_1, lit_m1, lit_4, lit_5000, iI_nI, iI_add, iI_sub, iI_mul, iI_neg, chk_iI, iI_clamp, iI_lt, iI_le, iI_eq, if_pos, if_neg, if_true, if_false, Int.toNat_natCast]
  rw [h.1 a ha hbn]
