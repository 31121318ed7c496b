/-! the class's row with the fewest bytes -/
theorem lit_11 : (11 : Int32) = iI 11 := by decide
theorem lit_14 : (14 : Int32) = iI 14 := by decide
theorem lit_32 : (32 : Int32) = iI 32 := by decide
theorem lit_254 : (254 : Int32) = iI 254 := by decide
theorem lit_2047 : (2047 : Int32) = iI 2047 := by decide
theorem lit_65536 : (65536 : Int32) = iI 65536 := by decide
theorem lit_far : (268435456 : Int32) = iI 268435456 := by decide
theorem DR.up {p fr to W N nx hv : Nat} {H C v : Nat → Nat} (h : DR 268435456 fr H C p W N) (hW : W ≤ 268435456) (ht : fr ≤ to) (hb : ∀ q, p ≤ q → q ≤ p + to → C q = 2147483647 ∨ C q ≤ 4200) (hv0 : ∀ q, p ≤ q → q ≤ p + to → v q = (if C q = 2147483647 then 268435456 else C q) + q) (hH : ∀ m, fr ≤ m → m ≤ to → H m = hv + m) (h1 : hv ≤ 100) (h2 : to ≤ 4000) (hl : Lst false v (p + fr) (p + to) nx) : p ≤ nx ∧ (W ≤ hv + v nx - p → DR 268435456 (to + 1) H C p W N) ∧ (¬ W ≤ hv + v nx - p → DR 268435456 (to + 1) H C p (hv + v nx - p) (nx - p)) := by
  obtain ⟨l1, l2, l3, l4⟩ := hl
  obtain ⟨k0, rfl⟩ : ∃ k0, nx = p + k0 := ⟨nx - p, by omega⟩
  have v0 := hv0 (p + k0) (by omega) l2
  refine ⟨by omega, fun hw => ?_, fun hw => ?_⟩
  · have key : ∀ m, fr ≤ m → m ≤ to → C (p + m) ≠ 2147483647 → hv + v (p + k0) - p ≤ H m + C (p + m) := by
      intro m x1 x2 x3
      have y1 := hv0 (p + m) (by omega) (by omega)
      rw [if_neg x3] at y1
      have y2 := l3 (p + m) (by omega) (by omega)
      rw [hH m x1 x2]
      omega
    rcases h with ⟨a1, a2⟩ | ⟨a1, a2, a3, a4⟩
    · refine Or.inl ⟨a1, fun m x1 => ?_⟩
      by_cases e : m < fr
      · exact a2 m e
      · rcases hb (p + m) (by omega) (by omega) with y | y
        · exact y
        · have := key m (by omega) (by omega) (by omega)
          rw [hH m (by omega) (by omega)] at this
          omega
    · refine Or.inr ⟨by omega, a2, a3, fun m x1 x2 => ?_⟩
      by_cases e : m < fr
      · exact a4 m e x2
      · have := key m (by omega) (by omega) x2
        exact ⟨by omega, fun q => by omega⟩
  · have c0 : C (p + k0) ≠ 2147483647 := by
      intro q
      rw [if_pos q] at v0
      omega
    rw [if_neg c0] at v0
    have hx : hv + v (p + k0) - p = H k0 + C (p + k0) := by
      rw [hH k0 (by omega) (by omega)]
      omega
    rw [show p + k0 - p = k0 by omega]
    refine Or.inr ⟨by omega, c0, hx, fun m x1 x2 => ?_⟩
    by_cases e : m < fr
    · rcases h with ⟨a1, a2⟩ | ⟨a1, a2, a3, a4⟩
      · exact absurd (a2 m e) x2
      · have := (a4 m e x2).1
        exact ⟨by omega, fun _ => by omega⟩
    · have y1 := hv0 (p + m) (by omega) (by omega)
      rw [if_neg x2] at y1
      have y2 := l3 (p + m) (by omega) (by omega)
      have y3 := l4 (p + m) (by omega) (by omega)
      rw [hH m (by omega) (by omega)]
      refine ⟨by omega, fun q => ?_⟩
      by_cases e2 : v (p + m) = v (p + k0)
      · have := (y3 e2).2 rfl
        omega
      · omega
/-! the text, from the last place down -/
def DN (g : Nat → Int) (L : Nat) (dp dl dm dO : Int32) : Prop := dp = iI (-1) ∨ ∃ b l m : Nat, dp = iI b ∧ dl = iI l ∧ dm = iI m ∧ b + l ≤ L ∧ Most g b l 5000 m ∧ (0 < m → ∃ q : Nat, 1 ≤ q ∧ q ≤ b ∧ dO = iI q ∧ E g (b - q) b m)
theorem Most.zero (g : Nat → Int) (b s : Nat) : Most g b 0 s 0 := ⟨Nat.le_refl _, fun q => absurd q (by omega), fun a k _ _ hk _ => hk⟩
theorem E.tail {g : Nat → Int} {a b k : Nat} (h : E g a b k) : E g (a + 1) (b + 1) (k - 1) := fun i hi => by
  have := h (i + 1) (by omega)
  rw [show a + 1 + i = a + (i + 1) by omega, show b + 1 + i = b + (i + 1) by omega]
  exact this
theorem Most.next {g : Nat → Int} {b l m lim a k : Nat} (h : Most g (b + 1) l 5000 m) (hb : b < 5000) (hl : lim ≤ l + 1) (ha : a < b) (hk : k ≤ lim) (he : E g a b k) : k ≤ m + 1 := by
  have := h.2.2 (a + 1) (k - 1) (by omega) (by omega) (by omega) he.tail
  omega
theorem s_down {cnt : Int32} {hF bF lF : Nat → Int32} {t : List Int} (h : TR cnt hF bF lF t) (fo dp dl dm dO : Int32) (hd : DN (gx t) t.length dp dl dm dO) {b lim : Nat} (hl : b + lim ≤ t.length) : ok (m_Text_reachDownward (iI b) (iI lim) cnt fo dp dl dm dO 5000 hF 5000 bF) (fun o => ∃ r : Nat, o.1 = iI r ∧ Most (gx t) b lim 5000 r ∧ DN (gx t) t.length o.2.2.1 o.2.2.2.1 o.2.2.2.2.1 o.2.2.2.2.2) := by
  have ht := h.2.1
  have hcnt := h.1
  by_cases c0 : lim = 0
  · subst c0
    have hJ : ∀ s2 s3 s4 : Int32, s4 = iI 0 → ok (m_Text_reachDownward_J88 (iI b) cnt fo dm dO 5000 hF 5000 bF 1 s2 s3 s4) (fun o => ∃ r : Nat, o.1 = iI r ∧ Most (gx t) b 0 5000 r ∧ DN (gx t) t.length o.2.2.1 o.2.2.2.1 o.2.2.2.2.1 o.2.2.2.2.2) := by
      rintro s2 s3 s4 rfl
      unfold m_Text_reachDownward_J88
      rw [if_neg (show ¬ (1 : Int32) = 0 by decide)]
      exact ok_some ⟨0, rfl, Most.zero _ _ _, Or.inr ⟨b, 0, 0, rfl, rfl, rfl, by omega, Most.zero _ _ _, fun q => absurd q (by omega)⟩⟩
    unfold m_Text_reachDownward
    simp (disch := omega) only [bnd_eq, Option.bind_some, lit_0, lit_1, lit_m1, lit_4, lit_5000, iI_nI, iI_add, iI_sub, iI_mul, iI_neg, chk_iI, iI_clamp, iI_lt, iI_le, iI_eq, if_pos, if_neg, if_true, if_false, Int.toNat_natCast]
    rw [show iI 1 = (1 : Int32) from rfl]
    have hJ2 : ∀ s2 s3 : Int32, ok (m_Text_reachDownward_J71 (iI b) (iI ((0 : Nat) : Int)) cnt fo dm dO 5000 hF 5000 bF 1 s2 s3) (fun o => ∃ r : Nat, o.1 = iI r ∧ Most (gx t) b 0 5000 r ∧ DN (gx t) t.length o.2.2.1 o.2.2.2.1 o.2.2.2.2.1 o.2.2.2.2.2) := by
      intro s2 s3
      unfold m_Text_reachDownward_J71
      rw [if_neg (show ¬ (1 : Int32) = 0 by decide)]
      exact hJ _ _ _ rfl
    have hJ3 : ∀ s2 : Int32, ok (m_Text_reachDownward_J50 (iI b) (iI ((0 : Nat) : Int)) cnt fo dm dO 5000 hF 5000 bF 1 s2) (fun o => ∃ r : Nat, o.1 = iI r ∧ Most (gx t) b 0 5000 r ∧ DN (gx t) t.length o.2.2.1 o.2.2.2.1 o.2.2.2.2.1 o.2.2.2.2.2) := by
      intro s2
      unfold m_Text_reachDownward_J50
      exact ok_if (fun _ => hJ2 _ _) (fun _ => hJ2 _ _)
    unfold m_Text_reachDownward_J24
    exact ok_if (fun _ => ok_if (fun _ => hJ3 _) (fun _ => hJ3 _)) (fun _ => hJ3 _)
  · have hbt : b < t.length := by omega
    have hreach : ∀ (mo : Nat) (fo' : Int32), mo ≤ lim → (∀ a k, a < b → k ≤ lim → E (gx t) a b k → k ≤ mo) → ok (m_Text_reachDownward_J132 (iI b) cnt fo' 5000 hF 5000 bF (iI mo) (iI lim)) (fun o => ∃ r : Nat, o.1 = iI r ∧ Most (gx t) b lim 5000 r ∧ DN (gx t) t.length o.2.2.1 o.2.2.2.1 o.2.2.2.2.1 o.2.2.2.2.2) := by
      intro mo fo' x1 x2
      unfold m_Text_reachDownward_J132
      rw [lit_5000]
      refine ok_bind (s_reach h fo' (b := b) (lim := mo) (span := 5000) (by omega) (by omega)) ?_
      rintro ⟨r, u⟩ ⟨r', e1, e2, e3⟩
      dsimp only at e1 e3 ⊢
      subst e1
      have hm : Most (gx t) b lim 5000 r' := ⟨by have := e2.1; omega, e2.2.1, fun a k y1 y2 y3 y4 => e2.2.2 a k y1 y2 (x2 a k y1 y3 y4) y4⟩
      refine ok_some ⟨r', rfl, hm, Or.inr ⟨b, lim, r', rfl, rfl, rfl, hl, hm, fun q => ?_⟩⟩
      obtain ⟨q1, y1, y2, y3, y4, y5⟩ := e3 q
      exact ⟨q1, y1, y2, y4, y5⟩
    have hno : ok (m_Text_reachDownward_J50 (iI b) (iI lim) cnt fo dm dO 5000 hF 5000 bF 0 0) (fun o => ∃ r : Nat, o.1 = iI r ∧ Most (gx t) b lim 5000 r ∧ DN (gx t) t.length o.2.2.1 o.2.2.2.1 o.2.2.2.2.1 o.2.2.2.2.2) := by
      unfold m_Text_reachDownward_J50 m_Text_reachDownward_J71 m_Text_reachDownward_J88
      rw [if_pos rfl, if_pos rfl, if_pos rfl, if_pos rfl]
      exact hreach lim fo (Nat.le_refl _) (fun a k _ y _ => y)
    unfold m_Text_reachDownward
    rw [hcnt]
    simp (disch := omega) only [bnd_eq, Option.bind_some, lit_0, lit_1, lit_m1, lit_4, lit_5000, iI_nI, iI_add, iI_sub, iI_mul, iI_neg, chk_iI, iI_clamp, iI_lt, iI_le, iI_eq, if_pos, if_neg, if_true, if_false, Int.toNat_natCast]
    rw [← hcnt]
    unfold m_Text_reachDownward_J24
    rcases hd with rfl | ⟨b', l', m', rfl, rfl, rfl, d1, d2, d3⟩
    · simp (disch := omega) only [bnd_eq, Option.bind_some, lit_0, lit_1, lit_m1, lit_4, lit_5000, iI_nI, iI_add, iI_sub, iI_mul, iI_neg, chk_iI, iI_clamp, iI_lt, iI_le, iI_eq, if_pos, if_neg, if_true, if_false, Int.toNat_natCast]
      exact hno
    · by_cases c1 : b + 1 = b'
      · subst c1
        by_cases c2 : l' + 1 < lim
        · simp (disch := omega) only [bnd_eq, Option.bind_some, lit_0, lit_1, lit_m1, lit_4, lit_5000, iI_nI, iI_add, iI_sub, iI_mul, iI_neg, chk_iI, iI_clamp, iI_lt, iI_le, iI_eq, if_pos, if_neg, if_true, if_false, Int.toNat_natCast]
          exact hno
        · have hm1 := d2.1
          simp (disch := omega) only [bnd_eq, Option.bind_some, lit_0, lit_1, lit_m1, lit_4, lit_5000, iI_nI, iI_add, iI_sub, iI_mul, iI_neg, chk_iI, iI_clamp, iI_lt, iI_le, iI_eq, if_pos, if_neg, if_true, if_false, Int.toNat_natCast]
          have key : ∀ a k, a < b → k ≤ lim → E (gx t) a b k → k ≤ min lim (m' + 1) := by
            intro a k y1 y2 y3
            have := d2.next (by omega) (show lim ≤ l' + 1 by omega) y1 y2 y3
            omega
          unfold m_Text_reachDownward_J50 m_Text_reachDownward_J71 m_Text_reachDownward_J88
          simp (disch := omega) only [bnd_eq, Option.bind_some, lit_0, lit_1, lit_m1, lit_4, lit_5000, iI_nI, iI_add, iI_sub, iI_mul, iI_neg, chk_iI, iI_clamp, iI_lt, iI_le, iI_eq, if_pos, if_neg, if_true, if_false, Int.toNat_natCast]
          rw [iI_min (by omega) (by omega), show min (lim : Int) ((m' : Int) + 1) = ((min lim (m' + 1) : Nat) : Int) by omega]
          by_cases c3 : m' = 0
          · simp (disch := omega) only [bnd_eq, Option.bind_some, lit_0, lit_1, lit_m1, lit_4, lit_5000, iI_nI, iI_add, iI_sub, iI_mul, iI_neg, chk_iI, iI_clamp, iI_lt, iI_le, iI_eq, if_pos, if_neg, if_true, if_false, Int.toNat_natCast]
            exact hreach _ fo (by omega) key
          · obtain ⟨q, q1, q2, rfl, q4⟩ := d3 (by omega)
            simp (disch := omega) only [bnd_eq, Option.bind_some, lit_0, lit_1, lit_m1, lit_4, lit_5000, iI_nI, iI_add, iI_sub, iI_mul, iI_neg, chk_iI, iI_clamp, iI_lt, iI_le, iI_eq, if_pos, if_neg, if_true, if_false, Int.toNat_natCast]
            unfold m_Text_goesOn
            by_cases c4 : b < q
            · simp (disch := omega) only [bnd_eq, Option.bind_some, lit_0, lit_1, lit_m1, lit_4, lit_5000, iI_nI, iI_add, iI_sub, iI_mul, iI_neg, chk_iI, iI_clamp, iI_lt, iI_le, iI_eq, if_pos, if_neg, if_true, if_false, Int.toNat_natCast]
              exact hreach _ fo (by omega) key
            · simp (disch := omega) only [bnd_eq, Option.bind_some, lit_0, lit_1, lit_m1, lit_4, lit_5000, iI_nI, iI_add, iI_sub, iI_mul, iI_neg, chk_iI, iI_clamp, iI_lt, iI_le, iI_eq, if_pos, if_neg, if_true, if_false, Int.toNat_natCast]
              rw [show ((b : Int) - (q : Int)).toNat = b - q by omega]
              simp only [h.eq hbt (show b - q < t.length by omega)]
              by_cases c5 : gx t b = gx t (b - q)
              · rw [if_pos c5]
                simp (disch := omega) only [bnd_eq, Option.bind_some, lit_0, lit_1, lit_m1, lit_4, lit_5000, iI_nI, iI_add, iI_sub, iI_mul, iI_neg, chk_iI, iI_clamp, iI_lt, iI_le, iI_eq, if_pos, if_neg, if_true, if_false, Int.toNat_natCast]
                have he : E (gx t) (b - q) b (m' + 1) := by
                  intro i hi
                  by_cases z : i = 0
                  · subst z
                    exact c5.symm
                  · have := q4 (i - 1) (by omega)
                    rw [show b + 1 - q + (i - 1) = b - q + i by omega, show b + 1 + (i - 1) = b + i by omega] at this
                    exact this
                have hm : Most (gx t) b lim 5000 (min lim (m' + 1)) := ⟨by omega, fun _ => ⟨b - q, by omega, by omega, he.mono (by omega)⟩, fun a k y1 y2 y3 y4 => key a k y1 y3 y4⟩
                exact ok_some ⟨_, rfl, hm, Or.inr ⟨b, lim, _, rfl, rfl, rfl, hl, hm, fun _ => ⟨q, q1, by omega, rfl, he.mono (by omega)⟩⟩⟩
              · rw [if_neg c5]
                simp (disch := omega) only [bnd_eq, Option.bind_some, lit_0, lit_1, lit_m1, lit_4, lit_5000, iI_nI, iI_add, iI_sub, iI_mul, iI_neg, chk_iI, iI_clamp, iI_lt, iI_le, iI_eq, if_pos, if_neg, if_true, if_false, Int.toNat_natCast]
                exact hreach _ fo (by omega) key
      · simp (disch := omega) only [bnd_eq, Option.bind_some, lit_0, lit_1, lit_m1, lit_4, lit_5000, iI_nI, iI_add, iI_sub, iI_mul, iI_neg, chk_iI, iI_clamp, iI_lt, iI_le, iI_eq, if_pos, if_neg, if_true, if_false, Int.toNat_natCast]
        exact hno
/-! what the forms say of their costs -/
theorem s_added {x : Nat} (h : x ≤ 100000) : m_Sequences_addedBytes (iI x) = some (iI (ex x)) := by
  unfold m_Sequences_addedBytes ex
  by_cases c : x < 15
  · rw [if_pos c]
    simp (disch := omega) only [bnd_eq, Option.bind_some, lit_0, lit_1, lit_m1, lit_4, lit_5000, iI_nI, iI_add, iI_sub, iI_mul, iI_neg, chk_iI, iI_clamp, iI_lt, iI_le, iI_eq, if_pos, if_neg, if_true, if_false, Int.toNat_natCast, lit_15]
    rfl
  · rw [if_neg c]
    simp (disch := omega) only [bnd_eq, Option.bind_some, lit_0, lit_1, lit_m1, lit_4, lit_5000, iI_nI, iI_add, iI_sub, iI_mul, iI_neg, chk_iI, iI_clamp, iI_lt, iI_le, iI_eq, if_pos, if_neg, if_true, if_false, Int.toNat_natCast, lit_15, lit_255, iI_div]
    congr 2
    omega
def sh (sq : Bool) (m : Nat) : Nat := if sq = true then (if m < 15 then 14 else m + 254 - (m - 15) % 255) else if 256 < m then 65536 else if 60 < m then 256 else if m = 0 then 0 else 60
theorem s_headOf_S {m : Nat} (h : m ≤ 100000) : m_Sequences_headOf (iI m) = some (iI (hd true m)) := by
  unfold m_Sequences_headOf hd
  rw [s_added h, Option.bind_some, if_pos rfl, lit_1, iI_add]
  congr 2
theorem s_headOf_E {m : Nat} (h : m ≤ 100000) : m_Elements_headOf (iI m) = some (iI (hd false m)) := by
  unfold m_Elements_headOf hd
  rw [if_neg (show ¬ (false = true) by decide)]
  by_cases c1 : m = 0
  · rw [if_pos c1]
    simp (disch := omega) only [bnd_eq, Option.bind_some, lit_0, lit_1, lit_m1, lit_4, lit_5000, iI_nI, iI_add, iI_sub, iI_mul, iI_neg, chk_iI, iI_clamp, iI_lt, iI_le, iI_eq, if_pos, if_neg, if_true, if_false, Int.toNat_natCast, lit_60, lit_256, lit_2, lit_3]
    rfl
  · rw [if_neg c1]
    by_cases c2 : m ≤ 60
    · rw [if_pos c2]
      simp (disch := omega) only [bnd_eq, Option.bind_some, lit_0, lit_1, lit_m1, lit_4, lit_5000, iI_nI, iI_add, iI_sub, iI_mul, iI_neg, chk_iI, iI_clamp, iI_lt, iI_le, iI_eq, if_pos, if_neg, if_true, if_false, Int.toNat_natCast, lit_60, lit_256, lit_2, lit_3]
      rfl
    · rw [if_neg c2]
      by_cases c3 : m ≤ 256
      · rw [if_pos c3]
        simp (disch := omega) only [bnd_eq, Option.bind_some, lit_0, lit_1, lit_m1, lit_4, lit_5000, iI_nI, iI_add, iI_sub, iI_mul, iI_neg, chk_iI, iI_clamp, iI_lt, iI_le, iI_eq, if_pos, if_neg, if_true, if_false, Int.toNat_natCast, lit_60, lit_256, lit_2, lit_3]
        rfl
      · rw [if_neg c3]
        simp (disch := omega) only [bnd_eq, Option.bind_some, lit_0, lit_1, lit_m1, lit_4, lit_5000, iI_nI, iI_add, iI_sub, iI_mul, iI_neg, chk_iI, iI_clamp, iI_lt, iI_le, iI_eq, if_pos, if_neg, if_true, if_false, Int.toNat_natCast, lit_60, lit_256, lit_2, lit_3]
        rfl
theorem s_sameHead_S {m : Nat} (h : m ≤ 100000) : m_Sequences_sameHeadTo (iI m) = some (iI (sh true m)) := by
  unfold m_Sequences_sameHeadTo sh
  rw [if_pos rfl]
  by_cases c : m < 15
  · rw [if_pos c]
    simp (disch := omega) only [bnd_eq, Option.bind_some, lit_0, lit_1, lit_m1, lit_4, lit_5000, iI_nI, iI_add, iI_sub, iI_mul, iI_neg, chk_iI, iI_clamp, iI_lt, iI_le, iI_eq, if_pos, if_neg, if_true, if_false, Int.toNat_natCast, lit_15, lit_14]
    rfl
  · rw [if_neg c]
    simp (disch := omega) only [bnd_eq, Option.bind_some, lit_0, lit_1, lit_m1, lit_4, lit_5000, iI_nI, iI_add, iI_sub, iI_mul, iI_neg, chk_iI, iI_clamp, iI_lt, iI_le, iI_eq, if_pos, if_neg, if_true, if_false, Int.toNat_natCast, lit_15, lit_254, lit_255, iI_rem]
    congr 2
    omega
theorem s_sameHead_E {m : Nat} (h : m ≤ 100000) : m_Elements_sameHeadTo (iI m) = some (iI (sh false m)) := by
  unfold m_Elements_sameHeadTo sh
  rw [if_neg (show ¬ (false = true) by decide)]
  by_cases c1 : 256 < m
  · rw [if_pos c1]
    simp (disch := omega) only [bnd_eq, Option.bind_some, lit_0, lit_1, lit_m1, lit_4, lit_5000, iI_nI, iI_add, iI_sub, iI_mul, iI_neg, chk_iI, iI_clamp, iI_lt, iI_le, iI_eq, if_pos, if_neg, if_true, if_false, Int.toNat_natCast, lit_60, lit_256, lit_65536]
    rfl
  · rw [if_neg c1]
    by_cases c2 : 60 < m
    · rw [if_pos c2]
      simp (disch := omega) only [bnd_eq, Option.bind_some, lit_0, lit_1, lit_m1, lit_4, lit_5000, iI_nI, iI_add, iI_sub, iI_mul, iI_neg, chk_iI, iI_clamp, iI_lt, iI_le, iI_eq, if_pos, if_neg, if_true, if_false, Int.toNat_natCast, lit_60, lit_256, lit_65536]
      rfl
    · rw [if_neg c2]
      by_cases c3 : m = 0
      · rw [if_pos c3]
        simp (disch := omega) only [bnd_eq, Option.bind_some, lit_0, lit_1, lit_m1, lit_4, lit_5000, iI_nI, iI_add, iI_sub, iI_mul, iI_neg, chk_iI, iI_clamp, iI_lt, iI_le, iI_eq, if_pos, if_neg, if_true, if_false, Int.toNat_natCast, lit_60, lit_256, lit_65536]
        rfl
      · rw [if_neg c3]
        simp (disch := omega) only [bnd_eq, Option.bind_some, lit_0, lit_1, lit_m1, lit_4, lit_5000, iI_nI, iI_add, iI_sub, iI_mul, iI_neg, chk_iI, iI_clamp, iI_lt, iI_le, iI_eq, if_pos, if_neg, if_true, if_false, Int.toNat_natCast, lit_60, lit_256, lit_65536]
        rfl
theorem sh_le (sq : Bool) (m : Nat) : (m ≤ 65536 → m ≤ sh sq m) ∧ sh sq m ≤ m + 65536 := by
  unfold sh
  cases sq
  · rw [if_neg (by decide)]
    repeat' split
    all_goals omega
  · rw [if_pos rfl]
    split <;> omega
theorem sh_hd (sq : Bool) {m k : Nat} (h1 : m ≤ k) (h2 : k ≤ sh sq m) (h3 : k ≤ 4000) : hd sq k = hd sq m := by
  unfold sh at h2
  unfold hd ex
  cases sq
  · rw [if_neg (by decide)] at h2 ⊢
    rw [if_neg (show ¬ (false = true) by decide)]
    by_cases c1 : 256 < m
    · rw [if_neg (by omega), if_neg (by omega), if_neg (by omega), if_neg (by omega), if_neg (by omega), if_neg (by omega)]
    · rw [if_neg c1] at h2
      by_cases c2 : 60 < m
      · rw [if_pos c2] at h2
        rw [if_neg (show ¬ k = 0 by omega), if_neg (show ¬ k ≤ 60 by omega), if_pos h2, if_neg (show ¬ m = 0 by omega), if_neg (show ¬ m ≤ 60 by omega), if_pos (show m ≤ 256 by omega)]
      · rw [if_neg c2] at h2
        by_cases c3 : m = 0
        · rw [if_pos c3] at h2
          rw [show k = m by omega]
        · rw [if_neg c3] at h2
          rw [if_neg (show ¬ k = 0 by omega), if_pos h2, if_neg (show ¬ m = 0 by omega), if_pos (show m ≤ 60 by omega)]
  · rw [if_pos rfl] at h2 ⊢
    rw [if_pos rfl]
    by_cases c : m < 15
    · rw [if_pos c] at h2
      rw [if_pos (show k < 15 by omega), if_pos c]
    · rw [if_neg c] at h2
      rw [if_neg (show ¬ k < 15 by omega), if_neg c]
      omega
def stp (sq : Bool) (fr st : Nat) : Prop := if sq = true then 255 * st ≤ fr + 240 else st ≤ 3 ∧ (fr = 0 → st = 0) ∧ (fr ≤ 60 → st ≤ 1) ∧ (fr ≤ 256 → st ≤ 2)
theorem stp_lt {sq : Bool} {fr st : Nat} (h : stp sq fr st) (h1 : fr ≤ 4000) : st < 32 := by
  unfold stp at h
  split at h <;> omega
theorem stp_s {sq : Bool} {fr st : Nat} (h : stp sq fr st) (h1 : fr ≤ 4000) (h2 : sh sq fr < 4000) : stp sq (sh sq fr + 1) (st + 1) := by
  unfold stp sh at *
  cases sq
  · rw [if_neg (by decide)] at h h2 ⊢
    rw [if_neg (show ¬ (false = true) by decide)]
    by_cases c1 : 256 < fr
    · rw [if_pos c1] at h2
      omega
    · rw [if_neg c1]
      by_cases c2 : 60 < fr
      · rw [if_pos c2]
        omega
      · rw [if_neg c2]
        by_cases c3 : fr = 0
        · rw [if_pos c3]
          omega
        · rw [if_neg c3]
          omega
  · rw [if_pos rfl] at h h2 ⊢
    rw [if_pos rfl]
    by_cases c : fr < 15
    · rw [if_pos c]
      omega
    · rw [if_neg c]
      omega
/-! the cheapest rest from a place -/
def vC (C : Nat → Nat) (q : Nat) : Nat := (if C q = 2147483647 then 268435456 else C q) + q
theorem vC_b {n : Nat} {C : Nat → Nat} (hn : n ≤ 4000) (hC : ∀ q, q ≤ n → C q = 2147483647 ∨ C q ≤ 4200) : VB n (vC C) := by
  intro j hj
  have := hC j hj
  unfold vC
  split <;> omega
def Ifr (sq : Bool) (pf : Nat → Int32) (n p : Nat) (C : Nat → Nat) (fr : Nat) (s : (Nat → Int32) × Int32 × Int32 × Int32) : Prop := ∃ W N Q st : Nat, s.1 = upd pf p (iI Q) ∧ s.2.1 = iI W ∧ s.2.2.1 = iI fr ∧ s.2.2.2 = iI st ∧ ((W = 268435456 ∧ Q = n) ∨ (W < 268435456 ∧ Q = p + N)) ∧ st ≤ fr ∧ p + fr ≤ n + 1 ∧ (p + fr ≤ n → stp sq fr st) ∧ DR 268435456 fr (fun m => hd sq m + m) C p W N
def Pfr (sq : Bool) (pf : Nat → Int32) (n p : Nat) (C : Nat → Nat) (o : (Nat → Int32) × Int32) : Prop := ∃ W N Q : Nat, o.1 = upd pf p (iI Q) ∧ o.2 = iI W ∧ ((W = 268435456 ∧ Q = n) ∨ (W < 268435456 ∧ Q = p + N)) ∧ DR 268435456 (n - p + 1) (fun m => hd sq m + m) C p W N
theorem s_restl_S {n : Nat} {C : Nat → Nat} (hn : n ≤ 4000) (hCb : ∀ q, q ≤ n → C q = 2147483647 ∨ C q ≤ 4200) {p : Nat} (hp : p ≤ n) {cv co cs : Nat → Int32} (pf : Nat → Int32) (hc : LW false n (vC C) p cv co cs) : ok (iter (fun st => m_BestRow_findRest_S_B26 (iI p) 4001 (iI (if false = true then 1 else 0)) (iI n) 4001 cv 4001 co 4001 cs (iI ((n - p : Nat) : Int)) st.1 st.2.1 st.2.2.1 st.2.2.2) FU (upd pf p (iI n), iI 268435456, iI 0, iI 0)) (Pfr true pf n p C) := by
  have hvb := vC_b hn hCb
  refine ok_loop (Ifr true pf n p C) 4001 (by omega) ⟨268435456, 0, n, 0, rfl, rfl, rfl, rfl, Or.inl ⟨rfl, rfl⟩, Nat.le_refl _, by omega, fun _ => by unfold stp; simp, Or.inl ⟨rfl, fun m hm => absurd hm (Nat.not_lt_zero _)⟩⟩ ?_
  rintro fr ⟨s1, s2, s3, s4⟩ hfr ⟨W, N', Q, st, e1, e2, e3, e4, e5, e6, e9, e7, e8⟩
  dsimp only at e1 e2 e3 e4
  subst e1 e2 e3 e4
  have hW : W ≤ 268435456 := by omega
  unfold m_BestRow_findRest_S_B26 m_BestRow_findRest_S_J111
  dsimp only
  by_cases c : n - p < fr
  · have hend : ok (some (.inr (upd pf p (iI Q), iI W)) : Option (((Nat → Int32) × Int32 × Int32 × Int32) ⊕ ((Nat → Int32) × Int32))) (St (fun s' => ∃ k', fr < k' ∧ k' ≤ 4001 ∧ Ifr true pf n p C k' s') (Pfr true pf n p C)) := by
      refine ok_end ⟨W, N', Q, rfl, rfl, e5, ?_⟩
      rw [show n - p + 1 = fr by omega]
      exact e8
    clear e5 e7
    by_cases c2 : 32 ≤ st
    · simp (disch := omega) only [bnd_eq, Option.bind_some, lit_0, lit_1, lit_m1, lit_4, lit_5000, iI_nI, iI_add, iI_sub, iI_mul, iI_neg, chk_iI, iI_clamp, iI_lt, iI_le, iI_eq, if_pos, if_neg, if_true, if_false, Int.toNat_natCast, lit_32]
      exact hend
    · simp (disch := omega) only [bnd_eq, Option.bind_some, lit_0, lit_1, lit_m1, lit_4, lit_5000, iI_nI, iI_add, iI_sub, iI_mul, iI_neg, chk_iI, iI_clamp, iI_lt, iI_le, iI_eq, if_pos, if_neg, if_true, if_false, Int.toNat_natCast, lit_32]
      exact hend
  · have hst := stp_lt (e7 (by omega)) (by omega)
    have hsh1 := (sh_le true fr).1 (by omega)
    have hsh2 := (sh_le true fr).2
    have hst0 := stp_s (e7 (by omega)) (show fr ≤ 4000 by omega)
    have hhd := hd_le true (show fr ≤ 4000 by omega)
    obtain ⟨to, hto, t1, t2, t3, t4⟩ : ∃ to, min (n - p) (sh true fr) = to ∧ p + to ≤ n ∧ to ≤ sh true fr ∧ fr ≤ to ∧ (p + (to + 1) ≤ n → to = sh true fr) := ⟨_, rfl, by omega, by omega, by omega, by omega⟩
    clear e7
    have hst2 : p + (to + 1) ≤ n → stp true (to + 1) (st + 1) := by
      intro z
      rw [t4 z]
      refine hst0 ?_
      have := t4 z
      omega
    clear t4 hst0
    revert e5
    simp (disch := omega) only [bnd_eq, Option.bind_some, lit_0, lit_1, lit_m1, lit_4, lit_5000, iI_nI, iI_add, iI_sub, iI_mul, iI_neg, chk_iI, iI_clamp, iI_lt, iI_le, iI_eq, if_pos, if_neg, if_true, if_false, Int.toNat_natCast, lit_32]
    intro e5
    rw [s_sameHead_S (by omega), Option.bind_some, iI_min (by omega) (by omega), show min ((n - p : Nat) : Int) (sh true fr : Int) = ((to : Nat) : Int) by omega]
    clear hto
    revert e5
    simp (disch := omega) only [bnd_eq, Option.bind_some, lit_0, lit_1, lit_m1, lit_4, lit_5000, iI_nI, iI_add, iI_sub, iI_mul, iI_neg, chk_iI, iI_clamp, iI_lt, iI_le, iI_eq, if_pos, if_neg, if_true, if_false, Int.toNat_natCast]
    intro e5
    rw [show (p : Int) + (fr : Int) = ((p + fr : Nat) : Int) by omega, show (p : Int) + (to : Int) = ((p + to : Nat) : Int) by omega]
    refine ok_bind (s_least hc hvb hn (a := p + fr) (b := p + to) (by omega) (by omega) (by omega)) ?_
    rintro x ⟨nx, rfl, hl⟩
    have hnx1 := hl.1
    have hnx2 := hl.2.1
    have hvn := hvb nx (by omega)
    have hvx : nx ≤ vC C nx := by unfold vC; omega
    have hup := DR.up (v := vC C) (hv := hd true fr) e8 hW t3 (fun q y1 y2 => hCb q (by omega)) (fun q y1 y2 => rfl) (fun m y1 y2 => by rw [sh_hd true y1 (by omega) (by omega)]) (by omega) (by omega) hl
    rw [s_headOf_S (by omega), Option.bind_some, s_valueAt hc hn (by omega) (by omega), Option.bind_some, iI_add, iI_sub, show (hd true fr : Int) + (vC C nx : Int) - (p : Int) = ((hd true fr + vC C nx - p : Nat) : Int) by omega]
    by_cases c3 : W ≤ hd true fr + vC C nx - p
    · have hx := hup.2.1 c3
      clear hup
      rw [if_leT (by omega) (by omega) (by omega)]
      exact ok_go ⟨to + 1, by omega, by omega, W, N', Q, st + 1, rfl, rfl, by simp, by simp, e5, by omega, by omega, hst2, hx⟩
    · have hx := hup.2.2 c3
      clear hup e5
      rw [if_leF (by omega) (by omega) (by omega)]
      exact ok_go ⟨to + 1, by omega, by omega, _, nx - p, nx, st + 1, upd_upd _ _ _ _, rfl, by simp, by simp, Or.inr ⟨by omega, by omega⟩, by omega, by omega, hst2, hx⟩
theorem s_rest_S {g : Nat → Int} {lean n : Nat} {M R C K N : Nat → Nat} (hdp : DP true g lean n M R C K N 0) (hm : HM g lean n M) (hn : n ≤ 4000) {p : Nat} (hp : p ≤ n) {cv co cs rv ro rs pf : Nat → Int32} (hc : LW false n (vC C) p cv co cs) (hr : LW true n R (p + 1) rv ro rs) : ok (m_BestRow_findRest_S (iI p) (iI n) 4001 pf (iI (if false = true then 1 else 0)) (iI n) 4001 cv 4001 co 4001 cs (iI (if true = true then 1 else 0)) (iI n) 4001 rv 4001 ro 4001 rs) (fun o => o.1 = upd pf p (iI ((p + N p : Nat) : Int)) ∧ LW true n R p o.2.1 o.2.2.1 o.2.2.2) := by
  have hCb : ∀ q, q ≤ n → C q = 2147483647 ∨ C q ≤ 4200 := fun q hq => by
    have := hdp.Cb hm hn (Nat.zero_le _) hq
    omega
  have hCn : C n = 2147483647 := by
    rcases hdp.Cb hm hn (Nat.zero_le _) (Nat.le_refl n) with y | y
    · exact y.1
    · omega
  have hRb : VB n R := fun j hj => by
    have := hdp.Rb hn (Nat.zero_le _) hj
    omega
  unfold m_BestRow_findRest_S
  rw [bnd_eq, iI_sub, show (n : Int) - (p : Int) = ((n - p : Nat) : Int) by omega, chk_iI (by omega) (by omega), iI_clamp (by omega) (by omega), Int.toNat_natCast, lit_far, lit_0]
  refine ok_bind (s_restl_S hn hCb hp pf hc) ?_
  rintro ⟨o1, o2⟩ ⟨W, N', Q, y1, y2, y3, y4⟩
  dsimp only at y1 y2 ⊢
  subst y1 y2
  have d1 : DR 268435456 (n - p) (fun m => hd true m + m) (tz n C) p W N' := by
    refine DR.congr (T := C) ?_ (fun m hm => by unfold tz; rw [if_neg (by omega)])
    rcases y4 with ⟨z1, z2⟩ | ⟨z1, z2, z3, z4⟩
    · exact Or.inl ⟨z1, fun m hm => z2 m (by omega)⟩
    · refine Or.inr ⟨?_, z2, z3, fun m hm => z4 m (by omega)⟩
      by_cases q : N' = n - p
      · rw [q, show p + (n - p) = n by omega] at z2
        exact absurd hCn z2
      · omega
  have ht : tz n C (p + (n - p)) = 0 := by unfold tz; rw [if_pos (by omega)]
  have hhd := hd_le true (show n - p ≤ 4000 by omega)
  have hx := d1.next (fun q => by rw [ht]; omega)
  rw [ht] at hx
  have hsym : ∀ W2 N2 : Nat, DR 268435456 (n - p + 1) (fun m => hd true m + m) (tz n C) p W2 N2 → W2 = R p ∧ N2 = N p := fun W2 N2 z => z.sym (hdp p (Nat.zero_le _) hp).2 (m := n - p) (by omega) (by rw [ht]; omega)
  unfold m_BestRow_findRest_S_E123 m_BestRow_findRest_S_J158
  rw [s_headOf_S (by omega), Option.bind_some, Option.bind_some, iI_add, show (hd true (n - p) : Int) + ((n - p : Nat) : Int) = ((hd true (n - p) + (n - p) : Nat) : Int) by omega]
  have hW : W ≤ 268435456 := by omega
  by_cases c : W ≤ hd true (n - p) + (n - p)
  · obtain ⟨z1, z2⟩ := hsym W N' (hx.2.1 (by omega) (by omega))
    have hq : Q = p + N p := by omega
    clear hx hsym y3 y4 d1
    rw [if_leT (by omega) (by omega) (by omega), z1]
    refine ok_bind (s_put hr hRb hn hp) ?_
    rintro ⟨v1, v2, v3⟩ hv
    refine ok_some ⟨?_, hv⟩
    dsimp only
    rw [hq]
  · obtain ⟨z1, z2⟩ := hsym _ _ (hx.2.2 (by omega) (by omega))
    clear hx hsym y3 y4 d1
    rw [if_leF (by omega) (by omega) (by omega), bnd_eq, chk_iI (by omega) (by omega), iI_clamp (by omega) (by omega), Int.toNat_natCast, show ((hd true (n - p) + (n - p) : Nat) : Int) = ((R p : Nat) : Int) by omega]
    refine ok_bind (s_put hr hRb hn hp) ?_
    rintro ⟨v1, v2, v3⟩ hv
    refine ok_some ⟨?_, hv⟩
    dsimp only
    rw [upd_upd, show p + N p = n by omega]
theorem s_restl_E {n : Nat} {C : Nat → Nat} (hn : n ≤ 4000) (hCb : ∀ q, q ≤ n → C q = 2147483647 ∨ C q ≤ 4200) {p : Nat} (hp : p ≤ n) {cv co cs : Nat → Int32} (pf : Nat → Int32) (hc : LW false n (vC C) p cv co cs) : ok (iter (fun st => m_BestRow_findRest_E_B26 (iI p) 4001 (iI (if false = true then 1 else 0)) (iI n) 4001 cv 4001 co 4001 cs (iI ((n - p : Nat) : Int)) st.1 st.2.1 st.2.2.1 st.2.2.2) FU (upd pf p (iI n), iI 268435456, iI 0, iI 0)) (Pfr false pf n p C) := by
  have hvb := vC_b hn hCb
  refine ok_loop (Ifr false pf n p C) 4001 (by omega) ⟨268435456, 0, n, 0, rfl, rfl, rfl, rfl, Or.inl ⟨rfl, rfl⟩, Nat.le_refl _, by omega, fun _ => by unfold stp; simp, Or.inl ⟨rfl, fun m hm => absurd hm (Nat.not_lt_zero _)⟩⟩ ?_
  rintro fr ⟨s1, s2, s3, s4⟩ hfr ⟨W, N', Q, st, e1, e2, e3, e4, e5, e6, e9, e7, e8⟩
  dsimp only at e1 e2 e3 e4
  subst e1 e2 e3 e4
  have hW : W ≤ 268435456 := by omega
  unfold m_BestRow_findRest_E_B26 m_BestRow_findRest_E_J111
  dsimp only
  by_cases c : n - p < fr
  · have hend : ok (some (.inr (upd pf p (iI Q), iI W)) : Option (((Nat → Int32) × Int32 × Int32 × Int32) ⊕ ((Nat → Int32) × Int32))) (St (fun s' => ∃ k', fr < k' ∧ k' ≤ 4001 ∧ Ifr false pf n p C k' s') (Pfr false pf n p C)) := by
      refine ok_end ⟨W, N', Q, rfl, rfl, e5, ?_⟩
      rw [show n - p + 1 = fr by omega]
      exact e8
    clear e5 e7
    by_cases c2 : 32 ≤ st
    · simp (disch := omega) only [bnd_eq, Option.bind_some, lit_0, lit_1, lit_m1, lit_4, lit_5000, iI_nI, iI_add, iI_sub, iI_mul, iI_neg, chk_iI, iI_clamp, iI_lt, iI_le, iI_eq, if_pos, if_neg, if_true, if_false, Int.toNat_natCast, lit_32]
      exact hend
    · simp (disch := omega) only [bnd_eq, Option.bind_some, lit_0, lit_1, lit_m1, lit_4, lit_5000, iI_nI, iI_add, iI_sub, iI_mul, iI_neg, chk_iI, iI_clamp, iI_lt, iI_le, iI_eq, if_pos, if_neg, if_true, if_false, Int.toNat_natCast, lit_32]
      exact hend
  · have hst := stp_lt (e7 (by omega)) (by omega)
    have hsh1 := (sh_le false fr).1 (by omega)
    have hsh2 := (sh_le false fr).2
    have hst0 := stp_s (e7 (by omega)) (show fr ≤ 4000 by omega)
    have hhd := hd_le false (show fr ≤ 4000 by omega)
    obtain ⟨to, hto, t1, t2, t3, t4⟩ : ∃ to, min (n - p) (sh false fr) = to ∧ p + to ≤ n ∧ to ≤ sh false fr ∧ fr ≤ to ∧ (p + (to + 1) ≤ n → to = sh false fr) := ⟨_, rfl, by omega, by omega, by omega, by omega⟩
    clear e7
    have hst2 : p + (to + 1) ≤ n → stp false (to + 1) (st + 1) := by
      intro z
      rw [t4 z]
      refine hst0 ?_
      have := t4 z
      omega
    clear t4 hst0
    revert e5
    simp (disch := omega) only [bnd_eq, Option.bind_some, lit_0, lit_1, lit_m1, lit_4, lit_5000, iI_nI, iI_add, iI_sub, iI_mul, iI_neg, chk_iI, iI_clamp, iI_lt, iI_le, iI_eq, if_pos, if_neg, if_true, if_false, Int.toNat_natCast, lit_32]
    intro e5
    rw [s_sameHead_E (by omega), Option.bind_some, iI_min (by omega) (by omega), show min ((n - p : Nat) : Int) (sh false fr : Int) = ((to : Nat) : Int) by omega]
    clear hto
    revert e5
    simp (disch := omega) only [bnd_eq, Option.bind_some, lit_0, lit_1, lit_m1, lit_4, lit_5000, iI_nI, iI_add, iI_sub, iI_mul, iI_neg, chk_iI, iI_clamp, iI_lt, iI_le, iI_eq, if_pos, if_neg, if_true, if_false, Int.toNat_natCast]
    intro e5
    rw [show (p : Int) + (fr : Int) = ((p + fr : Nat) : Int) by omega, show (p : Int) + (to : Int) = ((p + to : Nat) : Int) by omega]
    refine ok_bind (s_least hc hvb hn (a := p + fr) (b := p + to) (by omega) (by omega) (by omega)) ?_
    rintro x ⟨nx, rfl, hl⟩
    have hnx1 := hl.1
    have hnx2 := hl.2.1
    have hvn := hvb nx (by omega)
    have hvx : nx ≤ vC C nx := by unfold vC; omega
    have hup := DR.up (v := vC C) (hv := hd false fr) e8 hW t3 (fun q y1 y2 => hCb q (by omega)) (fun q y1 y2 => rfl) (fun m y1 y2 => by rw [sh_hd false y1 (by omega) (by omega)]) (by omega) (by omega) hl
    rw [s_headOf_E (by omega), Option.bind_some, s_valueAt hc hn (by omega) (by omega), Option.bind_some, iI_add, iI_sub, show (hd false fr : Int) + (vC C nx : Int) - (p : Int) = ((hd false fr + vC C nx - p : Nat) : Int) by omega]
    by_cases c3 : W ≤ hd false fr + vC C nx - p
    · have hx := hup.2.1 c3
      clear hup
      rw [if_leT (by omega) (by omega) (by omega)]
      exact ok_go ⟨to + 1, by omega, by omega, W, N', Q, st + 1, rfl, rfl, by simp, by simp, e5, by omega, by omega, hst2, hx⟩
    · have hx := hup.2.2 c3
      clear hup e5
      rw [if_leF (by omega) (by omega) (by omega)]
      exact ok_go ⟨to + 1, by omega, by omega, _, nx - p, nx, st + 1, upd_upd _ _ _ _, rfl, by simp, by simp, Or.inr ⟨by omega, by omega⟩, by omega, by omega, hst2, hx⟩
theorem s_rest_E {g : Nat → Int} {lean n : Nat} {M R C K N : Nat → Nat} (hdp : DP false g lean n M R C K N 0) (hm : HM g lean n M) (hn : n ≤ 4000) {p : Nat} (hp : p ≤ n) {cv co cs rv ro rs pf : Nat → Int32} (hc : LW false n (vC C) p cv co cs) (hr : LW true n R (p + 1) rv ro rs) : ok (m_BestRow_findRest_E (iI p) (iI n) 4001 pf (iI (if false = true then 1 else 0)) (iI n) 4001 cv 4001 co 4001 cs (iI (if true = true then 1 else 0)) (iI n) 4001 rv 4001 ro 4001 rs) (fun o => o.1 = upd pf p (iI ((p + N p : Nat) : Int)) ∧ LW true n R p o.2.1 o.2.2.1 o.2.2.2) := by
  have hCb : ∀ q, q ≤ n → C q = 2147483647 ∨ C q ≤ 4200 := fun q hq => by
    have := hdp.Cb hm hn (Nat.zero_le _) hq
    omega
  have hCn : C n = 2147483647 := by
    rcases hdp.Cb hm hn (Nat.zero_le _) (Nat.le_refl n) with y | y
    · exact y.1
    · omega
  have hRb : VB n R := fun j hj => by
    have := hdp.Rb hn (Nat.zero_le _) hj
    omega
  unfold m_BestRow_findRest_E
  rw [bnd_eq, iI_sub, show (n : Int) - (p : Int) = ((n - p : Nat) : Int) by omega, chk_iI (by omega) (by omega), iI_clamp (by omega) (by omega), Int.toNat_natCast, lit_far, lit_0]
  refine ok_bind (s_restl_E hn hCb hp pf hc) ?_
  rintro ⟨o1, o2⟩ ⟨W, N', Q, y1, y2, y3, y4⟩
  dsimp only at y1 y2 ⊢
  subst y1 y2
  have d1 : DR 268435456 (n - p) (fun m => hd false m + m) (tz n C) p W N' := by
    refine DR.congr (T := C) ?_ (fun m hm => by unfold tz; rw [if_neg (by omega)])
    rcases y4 with ⟨z1, z2⟩ | ⟨z1, z2, z3, z4⟩
    · exact Or.inl ⟨z1, fun m hm => z2 m (by omega)⟩
    · refine Or.inr ⟨?_, z2, z3, fun m hm => z4 m (by omega)⟩
      by_cases q : N' = n - p
      · rw [q, show p + (n - p) = n by omega] at z2
        exact absurd hCn z2
      · omega
  have ht : tz n C (p + (n - p)) = 0 := by unfold tz; rw [if_pos (by omega)]
  have hhd := hd_le false (show n - p ≤ 4000 by omega)
  have hx := d1.next (fun q => by rw [ht]; omega)
  rw [ht] at hx
  have hsym : ∀ W2 N2 : Nat, DR 268435456 (n - p + 1) (fun m => hd false m + m) (tz n C) p W2 N2 → W2 = R p ∧ N2 = N p := fun W2 N2 z => z.sym (hdp p (Nat.zero_le _) hp).2 (m := n - p) (by omega) (by rw [ht]; omega)
  unfold m_BestRow_findRest_E_E123 m_BestRow_findRest_E_J158
  rw [s_headOf_E (by omega), Option.bind_some, Option.bind_some, iI_add, show (hd false (n - p) : Int) + ((n - p : Nat) : Int) = ((hd false (n - p) + (n - p) : Nat) : Int) by omega]
  have hW : W ≤ 268435456 := by omega
  by_cases c : W ≤ hd false (n - p) + (n - p)
  · obtain ⟨z1, z2⟩ := hsym W N' (hx.2.1 (by omega) (by omega))
    have hq : Q = p + N p := by omega
    clear hx hsym y3 y4 d1
    rw [if_leT (by omega) (by omega) (by omega), z1]
    refine ok_bind (s_put hr hRb hn hp) ?_
    rintro ⟨v1, v2, v3⟩ hv
    refine ok_some ⟨?_, hv⟩
    dsimp only
    rw [hq]
  · obtain ⟨z1, z2⟩ := hsym _ _ (hx.2.2 (by omega) (by omega))
    clear hx hsym y3 y4 d1
    rw [if_leF (by omega) (by omega) (by omega), bnd_eq, chk_iI (by omega) (by omega), iI_clamp (by omega) (by omega), Int.toNat_natCast, show ((hd false (n - p) + (n - p) : Nat) : Int) = ((R p : Nat) : Int) by omega]
    refine ok_bind (s_put hr hRb hn hp) ?_
    rintro ⟨v1, v2, v3⟩ hv
    refine ok_some ⟨?_, hv⟩
    dsimp only
    rw [upd_upd, show p + N p = n by omega]
