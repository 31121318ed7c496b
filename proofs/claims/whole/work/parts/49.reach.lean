/-! how far two stretches of the text are alike; the most at a place; the nearest -/
theorem lit_0 : (0 : Int32) = iI 0 := by decide
theorem lit_1 : (1 : Int32) = iI 1 := by decide
theorem lit_m1 : (-1 : Int32) = iI (-1) := by decide
theorem lit_4 : (4 : Int32) = iI 4 := by decide
theorem lit_5000 : (5000 : Int32) = iI 5000 := by decide
def St {S X : Type} (I : S → Prop) (P : X → Prop) : S ⊕ X → Prop
  | .inl s => I s
  | .inr x => P x
theorem ok_go {S X : Type} {I : S → Prop} {P : X → Prop} {s : S} (h : I s) : ok (some (.inl s : S ⊕ X)) (St I P) := ⟨_, rfl, h⟩
theorem ok_end {S X : Type} {I : S → Prop} {P : X → Prop} {x : X} (h : P x) : ok (some (.inr x : S ⊕ X)) (St I P) := ⟨_, rfl, h⟩
theorem ok_lp {S X : Type} {f : S → Option (S ⊕ X)} {P : X → Prop} (I : Nat → S → Prop) (n : Nat) (hb : ∀ k s, k ≤ n → I k s → ok (f s) (St (fun s' => ∃ k', k < k' ∧ k' ≤ n ∧ I k' s') P)) : ∀ (N : Nat) (k : Nat) (s : S), k ≤ n → I k s → n - k < N → ok (iter f N s) P
  | 0, k, s, _, _, h => absurd h (Nat.not_lt_zero _)
  | N + 1, k, s, hk, hI, h => by
    unfold iter
    refine ok_bind (hb k s hk hI) ?_
    intro r hr
    cases r with
    | inl s' =>
      obtain ⟨k', h1, h2, h3⟩ := hr
      exact ok_lp I n hb N k' s' h2 h3 (by omega)
    | inr x => exact ok_some hr
theorem ok_loop {S X : Type} {f : S → Option (S ⊕ X)} {P : X → Prop} (I : Nat → S → Prop) (n : Nat) (hn : n < 1048576) {s : S} (h0 : I 0 s) (hb : ∀ k s, k ≤ n → I k s → ok (f s) (St (fun s' => ∃ k', k < k' ∧ k' ≤ n ∧ I k' s') P)) : ok (iter f FU s) P :=
  ok_lp I n hb FU 0 s (Nat.zero_le _) h0 (by unfold FU; omega)
def E (g : Nat → Int) (a b k : Nat) : Prop := ∀ i, i < k → g (a + i) = g (b + i)
theorem E.zero (g : Nat → Int) (a b : Nat) : E g a b 0 := fun i h => absurd h (Nat.not_lt_zero _)
theorem E.mono {g : Nat → Int} {a b k j : Nat} (h : E g a b k) (hj : j ≤ k) : E g a b j := fun i hi => h i (by omega)
theorem E.succ {g : Nat → Int} {a b k : Nat} (h : E g a b k) (e : g (a + k) = g (b + k)) : E g a b (k + 1) := fun i hi => by
  by_cases q : i = k
  · rw [q]; exact e
  · exact h i (by omega)
def Al (g : Nat → Int) (a b lim k : Nat) : Prop := k ≤ lim ∧ E g a b k ∧ (k < lim → g (a + k) ≠ g (b + k))
theorem Al.max {g : Nat → Int} {a b lim k j : Nat} (h : Al g a b lim k) (hj : j ≤ lim) (e : E g a b j) : j ≤ k := by
  by_cases q : j ≤ k
  · exact q
  · exact absurd (e k (by omega)) (h.2.2 (by omega))
def Most (g : Nat → Int) (b lim span r : Nat) : Prop := r ≤ lim ∧ (0 < r → ∃ a, a < b ∧ b ≤ a + span ∧ E g a b r) ∧ ∀ a k, a < b → b ≤ a + span → k ≤ lim → E g a b k → k ≤ r
theorem Most.eq {g : Nat → Int} {b lim s s' r r' : Nat} (h : Most g b lim s r) (h' : Most g b lim s' r') (hs : b ≤ s) (hs' : b ≤ s') : r = r' := by
  have e1 : r ≤ r' := by
    by_cases q : r = 0
    · omega
    · obtain ⟨a, x1, x2, x3⟩ := h.2.1 (by omega)
      exact h'.2.2 a r x1 (by omega) h.1 x3
  have e2 : r' ≤ r := by
    by_cases q : r' = 0
    · omega
    · obtain ⟨a, x1, x2, x3⟩ := h'.2.1 (by omega)
      exact h.2.2 a r' x1 (by omega) h'.1 x3
  omega
def Near (g : Nat → Int) (b k o : Nat) : Prop := 1 ≤ o ∧ o ≤ b ∧ E g (b - o) b k ∧ ∀ o', 1 ≤ o' → o' < o → ¬ E g (b - o') b k
theorem Near.eq {g : Nat → Int} {b k o o' : Nat} (h : Near g b k o) (h' : Near g b k o') : o = o' := by
  obtain ⟨a1, a2, a3, a4⟩ := h
  obtain ⟨b1, b2, b3, b4⟩ := h'
  by_cases q : o < o'
  · exact absurd a3 (b4 o a1 q)
  · by_cases q2 : o' < o
    · exact absurd b3 (a4 o' b1 q2)
    · omega
/-- the class's text -/
theorem TR.eq {cnt : Int32} {hF bF lF : Nat → Int32} {t : List Int} (h : TR cnt hF bF lF t) {i j : Nat} (hi : i < t.length) (hj : j < t.length) : (hF i = hF j) = (gx t i = gx t j) := by
  rw [(h.2.2.1 i hi).2.1, (h.2.2.1 j hj).2.1, hb_eq (h.2.2.1 i hi).1 (h.2.2.1 j hj).1]
theorem s_alike {cnt : Int32} {hF bF lF : Nat → Int32} {t : List Int} (h : TR cnt hF bF lF t) {a b lim : Nat} (ha : a < b) (hl : b + lim ≤ t.length) : ok (m_Text_alike (iI a) (iI b) (iI lim) 5000 hF) (fun r => ∃ k : Nat, r = iI k ∧ Al (gx t) a b lim k) := by
  have ht := h.2.1
  unfold m_Text_alike m_Text_alike_E36
  refine ok_bind (Q := fun r => ∃ k : Nat, r = iI k ∧ Al (gx t) a b lim k) ?_ (fun o ho => ok_some ho)
  refine ok_loop (fun k s => s = iI k ∧ E (gx t) a b k) lim (by omega) ⟨rfl, E.zero _ _ _⟩ ?_
  rintro k s hk ⟨rfl, he⟩
  unfold m_Text_alike_B3
  by_cases q : lim ≤ k
  · simp (disch := omega) only [bnd_eq, Option.bind_some, lit_0, lit_1, lit_m1, lit_4, lit_5000, iI_nI, iI_add, iI_sub, iI_mul, iI_neg, chk_iI, iI_clamp, iI_lt, iI_le, iI_eq, if_pos, if_neg, Int.toNat_natCast]
    exact ok_end ⟨k, rfl, hk, he, fun q2 => absurd q2 (by omega)⟩
  · simp (disch := omega) only [bnd_eq, Option.bind_some, lit_0, lit_1, lit_m1, lit_4, lit_5000, iI_nI, iI_add, iI_sub, iI_mul, iI_neg, chk_iI, iI_clamp, iI_lt, iI_le, iI_eq, if_pos, if_neg, Int.toNat_natCast]
    rw [show ((a : Int) + (k : Int)).toNat = a + k by omega, show ((b : Int) + (k : Int)).toNat = b + k by omega]
    simp only [h.eq (show a + k < t.length by omega) (show b + k < t.length by omega)]
    by_cases e : gx t (a + k) = gx t (b + k)
    · rw [if_pos e]
      exact ok_go ⟨k + 1, by omega, by omega, by simp, he.succ e⟩
    · rw [if_neg e]
      exact ok_end ⟨k, rfl, hk, he, fun _ => e⟩
theorem m1_of {z : Int} (h : -1 ≤ z) (h2 : ¬ z < 0) : ∃ k : Nat, z = k := ⟨z.toNat, by omega⟩
def Ireach (g : Nat → Int) (b lim span : Nat) (k : Nat) (s : Int32 × Int32 × Int32 × Int32) : Prop := ∃ (r : Nat) (fr : Int) (tr : Nat), s.2.1 = iI r ∧ s.2.2.1 = iI fr ∧ s.2.2.2 = iI tr ∧ -1 ≤ fr ∧ fr < b ∧ (k : Int) ≤ b - 1 - fr ∧ (tr : Int) ≤ b - 1 - fr ∧ r ≤ lim ∧ (∀ a m : Nat, fr < a → a < b → b ≤ a + span → m ≤ lim → E g a b m → m ≤ r) ∧ (0 ≤ fr → g fr.toNat = g b) ∧ (0 < r → ∃ q : Nat, 1 ≤ q ∧ q ≤ b ∧ q ≤ span ∧ s.1 = iI q ∧ E g (b - q) b r)
def Preach (g : Nat → Int) (b lim span : Nat) (o : Int32 × Int32) : Prop := ∃ r : Nat, o.2 = iI r ∧ Most g b lim span r ∧ (0 < r → ∃ q : Nat, 1 ≤ q ∧ q ≤ b ∧ q ≤ span ∧ o.1 = iI q ∧ E g (b - q) b r)
def Ioff (g : Nat → Int) (b n : Nat) (k : Nat) (s : Int32 × Int32) : Prop := ∃ (fr : Int) (tr : Nat), s.1 = iI fr ∧ s.2 = iI tr ∧ -1 ≤ fr ∧ fr < b ∧ (k : Int) ≤ b - 1 - fr ∧ (tr : Int) ≤ b - 1 - fr ∧ (∀ a : Nat, fr < a → a < b → ¬ E g a b n) ∧ (0 ≤ fr → g fr.toNat = g b)
theorem s_reach {cnt : Int32} {hF bF lF : Nat → Int32} {t : List Int} (h : TR cnt hF bF lF t) (fo : Int32) {b lim span : Nat} (hl : b + lim ≤ t.length) (hs : span ≤ 5000) : ok (m_Text_reach (iI b) (iI lim) (iI span) cnt fo 5000 bF 5000 hF) (fun o => ∃ r : Nat, o.1 = iI r ∧ Most (gx t) b lim span r ∧ (0 < r → ∃ q : Nat, 1 ≤ q ∧ q ≤ b ∧ q ≤ span ∧ o.2 = iI q ∧ E (gx t) (b - q) b r)) := by
  have ht := h.2.1
  obtain rfl := h.1
  unfold m_Text_reach m_Text_reach_E156
  by_cases q0 : lim < 1
  · simp (disch := omega) only [bnd_eq, Option.bind_some, lit_0, lit_1, lit_m1, lit_4, lit_5000, iI_nI, iI_add, iI_sub, iI_mul, iI_neg, chk_iI, iI_clamp, iI_lt, iI_le, iI_eq, if_pos, if_neg, Int.toNat_natCast]
    refine ok_some ⟨0, rfl, ⟨by omega, fun q => absurd q (by omega), fun a k _ _ hk _ => by omega⟩, fun q => absurd q (by omega)⟩
  simp (disch := omega) only [bnd_eq, Option.bind_some, lit_0, lit_1, lit_m1, lit_4, lit_5000, iI_nI, iI_add, iI_sub, iI_mul, iI_neg, chk_iI, iI_clamp, iI_lt, iI_le, iI_eq, if_pos, if_neg, Int.toNat_natCast]
  have hbb := (h.2.2.1 b (by omega)).2.2
  have lin := lastAt_in (gx t) (gx t b) b
  have lno := lastAt_no (gx t) (gx t b) b
  rw [hbb]
  refine ok_bind (Q := fun o => ∃ r : Nat, o.2 = iI r ∧ Most (gx t) b lim span r ∧ (0 < r → ∃ q : Nat, 1 ≤ q ∧ q ≤ b ∧ q ≤ span ∧ o.1 = iI q ∧ E (gx t) (b - q) b r)) ?_ (fun o ho => ok_some ho)
  refine ok_loop (Ireach (gx t) b lim span) b (by omega) ?_ ?_
  · refine ⟨0, lastAt (gx t) (gx t b) b, 0, rfl, rfl, rfl, lin.1, lin.2, by omega, by omega, by omega, fun a m h1 h2 _ _ he => ?_, fun q => lastAt_is _ _ _ q, fun q => absurd q (by omega)⟩
    by_cases q : m = 0
    · omega
    · exact absurd (he 0 (by omega)) (lno a h1 h2)
  · rintro k ⟨f1, s1, s2, s3⟩ hk ⟨r, fr, tr, e1, e2, e3, h1, h2, hkk, h3, h4, h5, h6, h7⟩
    dsimp only at e1 e2 e3 h7
    subst e1 e2 e3
    have hend : ∀ (hh : ∀ a m : Nat, a < b → b ≤ a + span → m ≤ lim → E (gx t) a b m → m ≤ r), ok (some (Sum.inr (f1, iI r)) : Option ((Int32 × Int32 × Int32 × Int32) ⊕ (Int32 × Int32))) (St (fun s' => ∃ k', k < k' ∧ k' ≤ b ∧ Ireach (gx t) b lim span k' s') (Preach (gx t) b lim span)) := by
      intro hh
      refine ok_end ⟨r, rfl, ⟨h4, fun q => ?_, hh⟩, h7⟩
      obtain ⟨q1, x1, x2, x3, x4, x5⟩ := h7 q
      exact ⟨b - q1, by omega, by omega, x5⟩
    unfold m_Text_reach_B35
    dsimp only
    by_cases c1 : fr < 0
    · by_cases c0 : (t.length : Int) ≤ tr
      · simp (disch := omega) only [bnd_eq, Option.bind_some, lit_0, lit_1, lit_m1, lit_4, lit_5000, iI_nI, iI_add, iI_sub, iI_mul, iI_neg, chk_iI, iI_clamp, iI_lt, iI_le, iI_eq, if_pos, if_neg, Int.toNat_natCast]
        exact hend (fun a m x1 => h5 a m (by omega) x1)
      · simp (disch := omega) only [bnd_eq, Option.bind_some, lit_0, lit_1, lit_m1, lit_4, lit_5000, iI_nI, iI_add, iI_sub, iI_mul, iI_neg, chk_iI, iI_clamp, iI_lt, iI_le, iI_eq, if_pos, if_neg, Int.toNat_natCast]
        exact hend (fun a m x1 => h5 a m (by omega) x1)
    · obtain ⟨a, rfl⟩ := m1_of h1 c1
      by_cases c2 : (span : Int) < b - a
      · simp (disch := omega) only [bnd_eq, Option.bind_some, lit_0, lit_1, lit_m1, lit_4, lit_5000, iI_nI, iI_add, iI_sub, iI_mul, iI_neg, chk_iI, iI_clamp, iI_lt, iI_le, iI_eq, if_pos, if_neg, Int.toNat_natCast]
        exact hend (fun a' m x1 x2 => h5 a' m (by omega) x1 x2)
      · by_cases c3 : lim ≤ r
        · simp (disch := omega) only [bnd_eq, Option.bind_some, lit_0, lit_1, lit_m1, lit_4, lit_5000, iI_nI, iI_add, iI_sub, iI_mul, iI_neg, chk_iI, iI_clamp, iI_lt, iI_le, iI_eq, if_pos, if_neg, Int.toNat_natCast]
          exact hend (fun a' m x1 x2 x3 x4 => by omega)
        · simp (disch := omega) only [bnd_eq, Option.bind_some, lit_0, lit_1, lit_m1, lit_4, lit_5000, iI_nI, iI_add, iI_sub, iI_mul, iI_neg, chk_iI, iI_clamp, iI_lt, iI_le, iI_eq, if_pos, if_neg, Int.toNat_natCast]
          have lin2 := lastAt_in (gx t) (gx t a) a
          have lno2 := lastAt_no (gx t) (gx t a) a
          have lis2 := lastAt_is (gx t) (gx t a) a
          have hab := (h.2.2.1 a (by omega)).2.2
          have h6' := h6 (by omega)
          rw [show ((a : Nat) : Int).toNat = a by omega] at h6'
          have hJ : ∀ (r2 : Nat) (f2 : Int32), r ≤ r2 → r2 ≤ lim → (∀ m : Nat, m ≤ lim → E (gx t) a b m → m ≤ r2) → (0 < r2 → ∃ q : Nat, 1 ≤ q ∧ q ≤ b ∧ q ≤ span ∧ f2 = iI q ∧ E (gx t) (b - q) b r2) → ok (m_Text_reach_J141 5000 bF (iI a) (iI tr) f2 (iI r2)) (St (fun s' => ∃ k', k < k' ∧ k' ≤ b ∧ Ireach (gx t) b lim span k' s') (Preach (gx t) b lim span)) := by
            intro r2 f2 x1 x2 x3 x4
            unfold m_Text_reach_J141
            simp (disch := omega) only [bnd_eq, Option.bind_some, lit_0, lit_1, lit_m1, lit_4, lit_5000, iI_nI, iI_add, iI_sub, iI_mul, iI_neg, chk_iI, iI_clamp, iI_lt, iI_le, iI_eq, if_pos, if_neg, Int.toNat_natCast]
            rw [hab]
            refine ok_go ⟨k + 1, by omega, by omega, r2, _, tr + 1, rfl, rfl, by simp, lin2.1, by omega, by omega, by omega, x2, fun a' m y1 y2 y3 y4 y5 => ?_, fun y => ?_, x4⟩
            · by_cases z1 : a < a'
              · have := h5 a' m (by omega) y2 y3 y4 y5
                omega
              · by_cases z2 : a' = a
                · rw [z2] at y5
                  exact x3 m y4 y5
                · by_cases z3 : m = 0
                  · omega
                  · have := y5 0 (by omega)
                    exact absurd (this.trans h6'.symm) (lno2 a' y1 (by omega))
            · rw [lis2 y, h6']
          rw [show ((a : Int) + (r : Int)).toNat = a + r by omega, show ((b : Int) + (r : Int)).toNat = b + r by omega]
          simp only [h.eq (show a + r < t.length by omega) (show b + r < t.length by omega)]
          unfold m_Text_reach_J122
          by_cases c4 : gx t (a + r) = gx t (b + r)
          · rw [if_pos c4]
            refine ok_bind (Q := fun x => ∃ k : Nat, x = iI k ∧ Al (gx t) a b lim k) ?_ ?_
            · refine ok_loop (fun k s => s = iI k ∧ E (gx t) a b k) lim (by omega) ⟨rfl, E.zero _ _ _⟩ ?_
              rintro k s hk ⟨rfl, he⟩
              unfold m_Text_reach_B88
              by_cases q : lim ≤ k
              · simp (disch := omega) only [bnd_eq, Option.bind_some, lit_0, lit_1, lit_m1, lit_4, lit_5000, iI_nI, iI_add, iI_sub, iI_mul, iI_neg, chk_iI, iI_clamp, iI_lt, iI_le, iI_eq, if_pos, if_neg, Int.toNat_natCast]
                exact ok_end ⟨k, rfl, hk, he, fun q2 => absurd q2 (by omega)⟩
              · simp (disch := omega) only [bnd_eq, Option.bind_some, lit_0, lit_1, lit_m1, lit_4, lit_5000, iI_nI, iI_add, iI_sub, iI_mul, iI_neg, chk_iI, iI_clamp, iI_lt, iI_le, iI_eq, if_pos, if_neg, Int.toNat_natCast]
                rw [show ((a : Int) + (k : Int)).toNat = a + k by omega, show ((b : Int) + (k : Int)).toNat = b + k by omega]
                simp only [h.eq (show a + k < t.length by omega) (show b + k < t.length by omega)]
                by_cases e : gx t (a + k) = gx t (b + k)
                · rw [if_pos e]
                  exact ok_go ⟨k + 1, by omega, by omega, by simp, he.succ e⟩
                · rw [if_neg e]
                  exact ok_end ⟨k, rfl, hk, he, fun _ => e⟩
            · rintro x ⟨k2, rfl, al⟩
              have := al.1
              by_cases c5 : k2 ≤ r
              · simp (disch := omega) only [bnd_eq, Option.bind_some, lit_0, lit_1, lit_m1, lit_4, lit_5000, iI_nI, iI_add, iI_sub, iI_mul, iI_neg, chk_iI, iI_clamp, iI_lt, iI_le, iI_eq, if_pos, if_neg, Int.toNat_natCast]
                exact hJ r f1 (by omega) h4 (fun m y1 y2 => Nat.le_trans (al.max y1 y2) c5) h7
              · simp (disch := omega) only [bnd_eq, Option.bind_some, lit_0, lit_1, lit_m1, lit_4, lit_5000, iI_nI, iI_add, iI_sub, iI_mul, iI_neg, chk_iI, iI_clamp, iI_lt, iI_le, iI_eq, if_pos, if_neg, Int.toNat_natCast]
                refine hJ k2 _ (by omega) al.1 (fun m y1 y2 => al.max y1 y2) (fun _ => ⟨b - a, by omega, by omega, by omega, ?_, ?_⟩)
                · rw [show ((b - a : Nat) : Int) = (b : Int) - (a : Int) by omega]
                · rw [show b - (b - a) = a by omega]
                  exact al.2.1
          · rw [if_neg c4]
            simp (disch := omega) only [bnd_eq, Option.bind_some, lit_0, lit_1, lit_m1, lit_4, lit_5000, iI_nI, iI_add, iI_sub, iI_mul, iI_neg, chk_iI, iI_clamp, iI_lt, iI_le, iI_eq, if_pos, if_neg, Int.toNat_natCast]
            refine hJ r f1 (by omega) h4 (fun m y1 y2 => ?_) h7
            by_cases z : m ≤ r
            · exact z
            · exact absurd (y2 r (by omega)) c4
theorem s_offsetOf {cnt : Int32} {hF bF lF : Nat → Int32} {t : List Int} (h : TR cnt hF bF lF t) {b n : Nat} (hl : b + n ≤ t.length) (hn : 1 ≤ n) : ok (m_Text_offsetOf (iI b) (iI n) cnt 5000 bF 5000 hF) (fun x => (∃ o : Nat, x = iI o ∧ Near (gx t) b n o) ∨ (x = 0 ∧ ∀ a, a < b → ¬ E (gx t) a b n)) := by
  have ht := h.2.1
  obtain rfl := h.1
  unfold m_Text_offsetOf m_Text_offsetOf_E95
  simp (disch := omega) only [bnd_eq, Option.bind_some, lit_0, lit_1, lit_m1, lit_4, lit_5000, iI_nI, iI_add, iI_sub, iI_mul, iI_neg, chk_iI, iI_clamp, iI_lt, iI_le, iI_eq, if_pos, if_neg, Int.toNat_natCast]
  have hbb := (h.2.2.1 b (by omega)).2.2
  have lin := lastAt_in (gx t) (gx t b) b
  have lno := lastAt_no (gx t) (gx t b) b
  rw [hbb]
  refine ok_bind (Q := St (fun _ => ∀ a, a < b → ¬ E (gx t) a b n) (fun y => ∃ o : Nat, y = iI o ∧ Near (gx t) b n o)) ?_ ?_
  · refine ok_loop (Ioff (gx t) b n) b (by omega) ?_ ?_
    · refine ⟨lastAt (gx t) (gx t b) b, 0, rfl, rfl, lin.1, lin.2, by omega, by omega, fun a h1 h2 he => ?_, fun q => lastAt_is _ _ _ q⟩
      exact absurd (he 0 (by omega)) (lno a h1 h2)
    · rintro k ⟨s1, s2⟩ hk ⟨fr, tr, e1, e2, h1, h2, hkk, h3, h4, h5⟩
      dsimp only at e1 e2
      subst e1 e2
      unfold m_Text_offsetOf_B31
      dsimp only
      by_cases c1 : fr < 0
      · by_cases c0 : (t.length : Int) ≤ tr
        · simp (disch := omega) only [bnd_eq, Option.bind_some, lit_0, lit_1, lit_m1, lit_4, lit_5000, iI_nI, iI_add, iI_sub, iI_mul, iI_neg, chk_iI, iI_clamp, iI_lt, iI_le, iI_eq, if_pos, if_neg, Int.toNat_natCast]
          exact ok_end (fun a x1 => h4 a (by omega) x1)
        · simp (disch := omega) only [bnd_eq, Option.bind_some, lit_0, lit_1, lit_m1, lit_4, lit_5000, iI_nI, iI_add, iI_sub, iI_mul, iI_neg, chk_iI, iI_clamp, iI_lt, iI_le, iI_eq, if_pos, if_neg, Int.toNat_natCast]
          exact ok_end (fun a x1 => h4 a (by omega) x1)
      · obtain ⟨a, rfl⟩ := m1_of h1 c1
        simp (disch := omega) only [bnd_eq, Option.bind_some, lit_0, lit_1, lit_m1, lit_4, lit_5000, iI_nI, iI_add, iI_sub, iI_mul, iI_neg, chk_iI, iI_clamp, iI_lt, iI_le, iI_eq, if_pos, if_neg, Int.toNat_natCast]
        have lin2 := lastAt_in (gx t) (gx t a) a
        have lno2 := lastAt_no (gx t) (gx t a) a
        have lis2 := lastAt_is (gx t) (gx t a) a
        have hab := (h.2.2.1 a (by omega)).2.2
        have h5' := h5 (by omega)
        rw [show ((a : Nat) : Int).toNat = a by omega] at h5'
        have hJ : ¬ E (gx t) a b n → ok (m_Text_offsetOf_J82 5000 bF (iI a) (iI tr)) (St (fun s' => ∃ k', k < k' ∧ k' ≤ b ∧ Ioff (gx t) b n k' s') (St (fun _ => ∀ a, a < b → ¬ E (gx t) a b n) (fun y => ∃ o : Nat, y = iI o ∧ Near (gx t) b n o))) := by
          intro x1
          unfold m_Text_offsetOf_J82
          simp (disch := omega) only [bnd_eq, Option.bind_some, lit_0, lit_1, lit_m1, lit_4, lit_5000, iI_nI, iI_add, iI_sub, iI_mul, iI_neg, chk_iI, iI_clamp, iI_lt, iI_le, iI_eq, if_pos, if_neg, Int.toNat_natCast]
          rw [hab]
          refine ok_go ⟨k + 1, by omega, by omega, _, tr + 1, rfl, by simp, lin2.1, by omega, by omega, by omega, fun a' y1 y2 y5 => ?_, fun y => ?_⟩
          · by_cases z1 : a < a'
            · exact h4 a' (by omega) y2 y5
            · by_cases z2 : a' = a
              · rw [z2] at y5
                exact x1 y5
              · exact absurd ((y5 0 (by omega)).trans h5'.symm) (lno2 a' y1 (by omega))
          · rw [lis2 y, h5']
        rw [show ((a : Int) + (n : Int) - 1).toNat = a + (n - 1) by omega, show ((b : Int) + (n : Int) - 1).toNat = b + (n - 1) by omega]
        simp only [h.eq (show a + (n - 1) < t.length by omega) (show b + (n - 1) < t.length by omega)]
        by_cases c4 : gx t (a + (n - 1)) = gx t (b + (n - 1))
        · rw [if_pos c4]
          refine ok_bind (s_alike h (show a < b by omega) hl) ?_
          rintro x ⟨k2, rfl, al⟩
          have := al.1
          by_cases c5 : k2 = n
          · simp (disch := omega) only [bnd_eq, Option.bind_some, lit_0, lit_1, lit_m1, lit_4, lit_5000, iI_nI, iI_add, iI_sub, iI_mul, iI_neg, chk_iI, iI_clamp, iI_lt, iI_le, iI_eq, if_pos, if_neg, Int.toNat_natCast]
            refine ok_end ⟨b - a, ?_, by omega, by omega, ?_, fun o' y1 y2 y3 => ?_⟩
            · rw [show ((b - a : Nat) : Int) = (b : Int) - (a : Int) by omega]
            · rw [show b - (b - a) = a by omega, ← c5]
              exact al.2.1
            · exact h4 (b - o') (by omega) (by omega) y3
          · simp (disch := omega) only [bnd_eq, Option.bind_some, lit_0, lit_1, lit_m1, lit_4, lit_5000, iI_nI, iI_add, iI_sub, iI_mul, iI_neg, chk_iI, iI_clamp, iI_lt, iI_le, iI_eq, if_pos, if_neg, Int.toNat_natCast]
            refine hJ (fun y => ?_)
            have := al.max (Nat.le_refl _) y
            omega
        · rw [if_neg c4]
          exact hJ (fun y => c4 (y (n - 1) (by omega)))
  · rintro x hx
    cases x with
    | inl y => exact ok_some (Or.inr ⟨rfl, hx⟩)
    | inr y => exact ok_some (Or.inl hx)
