/-! the reference's text; longest, near -/
def MG (f : Nat → Int32) (g : Nat → Int) (L : Nat) : Prop := ∀ j, j < L → (0 ≤ g j ∧ g j < 256) ∧ f j = iI (g j)
theorem MG.eq {f : Nat → Int32} {g : Nat → Int} {L : Nat} (h : MG f g L) {i j : Nat} (hi : i < L) (hj : j < L) : (f i = f j) = (g i = g j) := by
  have h1 := h i hi
  have h2 := h j hj
  rw [h1.2, h2.2, iI_eq (by omega) (by omega)]
theorem t_alike {f : Nat → Int32} {g : Nat → Int} {L : Nat} (h : MG f g L) (hL : L ≤ 5000) {a b e most : Nat} (ha : a < b) (hb : b ≤ e) (he : e ≤ L) (hm : most ≤ 100000) : ok (m_Mo_alike (iI a) (iI b) (iI e) (iI most) 5000 f) (fun r => ∃ k : Nat, r = iI k ∧ Al g a b (min most (e - b)) k) := by
  unfold m_Mo_alike m_Mo_alike_E45
  refine ok_bind (Q := fun r => ∃ k : Nat, r = iI k ∧ Al g a b (min most (e - b)) k) ?_ (fun o ho => ok_some ho)
  refine ok_loop (fun k s => s = iI k ∧ E g a b k) (min most (e - b)) (by omega) ⟨rfl, E.zero _ _ _⟩ ?_
  rintro k s hk ⟨rfl, he⟩
  unfold m_Mo_alike_B3
  by_cases q : most ≤ k
  · simp (disch := omega) only [bnd_eq, Option.bind_some, lit_0, lit_1, lit_m1, lit_4, lit_5000, iI_nI, iI_add, iI_sub, iI_mul, iI_neg, chk_iI, iI_clamp, iI_lt, iI_le, iI_eq, if_pos, if_neg, Int.toNat_natCast]
    exact ok_end ⟨k, rfl, hk, he, fun q2 => absurd q2 (by omega)⟩
  · by_cases q2 : e ≤ b + k
    · simp (disch := omega) only [bnd_eq, Option.bind_some, lit_0, lit_1, lit_m1, lit_4, lit_5000, iI_nI, iI_add, iI_sub, iI_mul, iI_neg, chk_iI, iI_clamp, iI_lt, iI_le, iI_eq, if_pos, if_neg, Int.toNat_natCast]
      exact ok_end ⟨k, rfl, hk, he, fun q2 => absurd q2 (by omega)⟩
    · simp (disch := omega) only [bnd_eq, Option.bind_some, lit_0, lit_1, lit_m1, lit_4, lit_5000, iI_nI, iI_add, iI_sub, iI_mul, iI_neg, chk_iI, iI_clamp, iI_lt, iI_le, iI_eq, if_pos, if_neg, Int.toNat_natCast]
      rw [show ((a : Int) + (k : Int)).toNat = a + k by omega, show ((b : Int) + (k : Int)).toNat = b + k by omega]
      simp only [h.eq (show a + k < L by omega) (show b + k < L by omega)]
      by_cases e : g (a + k) = g (b + k)
      · rw [if_pos e]
        exact ok_go ⟨k + 1, by omega, by omega, by simp, he.succ e⟩
      · rw [if_neg e]
        exact ok_end ⟨k, rfl, hk, he, fun _ => e⟩
theorem t_great {a b : Int} (h1 : -2147483648 ≤ a ∧ a < 2147483648) (h2 : -2147483648 ≤ b ∧ b < 2147483648) : m_Mo_great (iI a) (iI b) = some (iI (max a b)) := by
  unfold m_Mo_great
  by_cases q : a ≤ b
  · simp (disch := omega) only [bnd_eq, Option.bind_some, lit_0, lit_1, lit_m1, lit_4, lit_5000, iI_nI, iI_add, iI_sub, iI_mul, iI_neg, chk_iI, iI_clamp, iI_lt, iI_le, iI_eq, if_pos, if_neg, Int.toNat_natCast]
    rw [Int.max_eq_right q]
  · simp (disch := omega) only [bnd_eq, Option.bind_some, lit_0, lit_1, lit_m1, lit_4, lit_5000, iI_nI, iI_add, iI_sub, iI_mul, iI_neg, chk_iI, iI_clamp, iI_lt, iI_le, iI_eq, if_pos, if_neg, Int.toNat_natCast]
    rw [Int.max_eq_left (by omega)]
theorem t_small {a b : Int} (h1 : -2147483648 ≤ a ∧ a < 2147483648) (h2 : -2147483648 ≤ b ∧ b < 2147483648) : m_Mo_small (iI a) (iI b) = some (iI (min a b)) := by
  unfold m_Mo_small
  by_cases q : b ≤ a
  · simp (disch := omega) only [bnd_eq, Option.bind_some, lit_0, lit_1, lit_m1, lit_4, lit_5000, iI_nI, iI_add, iI_sub, iI_mul, iI_neg, chk_iI, iI_clamp, iI_lt, iI_le, iI_eq, if_pos, if_neg, Int.toNat_natCast]
    rw [Int.min_eq_right q]
  · simp (disch := omega) only [bnd_eq, Option.bind_some, lit_0, lit_1, lit_m1, lit_4, lit_5000, iI_nI, iI_add, iI_sub, iI_mul, iI_neg, chk_iI, iI_clamp, iI_lt, iI_le, iI_eq, if_pos, if_neg, Int.toNat_natCast]
    rw [Int.min_eq_left (by omega)]
def Ilong (g : Nat → Int) (b lim : Nat) (k : Nat) (s : Int32 × Int32) : Prop := ∃ (r : Nat) (fr : Int), s.1 = iI r ∧ s.2 = iI fr ∧ -1 ≤ fr ∧ fr < b ∧ (k : Int) = b - 1 - fr ∧ r ≤ lim ∧ (∀ a m : Nat, fr < a → a < b → m ≤ lim → E g a b m → m ≤ r) ∧ (0 < r → ∃ a, a < b ∧ E g a b r)
theorem t_longestTo {f : Nat → Int32} {g : Nat → Int} {L : Nat} (h : MG f g L) (hL : L ≤ 5000) {p n lean : Nat} (hp : p < n) (hn : lean + n ≤ L) : ok (m_Mo_longestTo (iI p) (iI n) (iI lean) 5000 f) (fun o => ∃ r : Nat, o = iI r ∧ Most g (lean + p) (n - p) 5000 r) := by
  have hmin : min n (lean + n - (lean + p)) = n - p := by omega
  unfold m_Mo_longestTo
  simp (disch := omega) only [bnd_eq, Option.bind_some, lit_0, lit_1, lit_m1, lit_4, lit_5000, iI_nI, iI_add, iI_sub, iI_mul, iI_neg, chk_iI, iI_clamp, iI_lt, iI_le, iI_eq, if_pos, if_neg, Int.toNat_natCast]
  refine ok_bind (Q := fun o => ∃ r : Nat, o = iI r ∧ Most g (lean + p) (n - p) 5000 r) ?_ (fun o ho => ok_some ho)
  refine ok_loop (Ilong g (lean + p) (n - p)) (lean + p) (by omega) ?_ ?_
  · exact ⟨0, (lean : Int) + p - 1, rfl, rfl, by omega, by omega, by omega, by omega, fun a m x1 x2 => by omega, fun q => absurd q (by omega)⟩
  · rintro k ⟨s1, s2⟩ hk ⟨r, fr, e1, e2, h1, h2, h3, h4, h5, h6⟩
    dsimp only at e1 e2
    subst e1 e2
    unfold m_Mo_longestTo_B15
    by_cases c : fr < 0
    · simp (disch := omega) only [bnd_eq, Option.bind_some, lit_0, lit_1, lit_m1, lit_4, lit_5000, iI_nI, iI_add, iI_sub, iI_mul, iI_neg, chk_iI, iI_clamp, iI_lt, iI_le, iI_eq, if_pos, if_neg, Int.toNat_natCast]
      refine ok_end ⟨r, rfl, h4, fun q => ?_, fun a m x1 x2 x3 x4 => h5 a m (by omega) x1 x3 x4⟩
      obtain ⟨a, x1, x2⟩ := h6 q
      exact ⟨a, x1, by omega, x2⟩
    · obtain ⟨a, rfl⟩ := m1_of h1 c
      simp (disch := omega) only [bnd_eq, Option.bind_some, lit_0, lit_1, lit_m1, lit_4, lit_5000, iI_nI, iI_add, iI_sub, iI_mul, iI_neg, chk_iI, iI_clamp, iI_lt, iI_le, iI_eq, if_pos, if_neg, Int.toNat_natCast]
      have e := t_alike h hL (a := a) (b := lean + p) (e := lean + n) (most := n) (by omega) (by omega) hn (by omega)
      rw [show ((lean + p : Nat) : Int) = (lean : Int) + p by omega, show ((lean + n : Nat) : Int) = (lean : Int) + n by omega] at e
      rw [hmin] at e
      refine ok_bind e ?_
      rintro x ⟨k2, rfl, al⟩
      have := al.1
      rw [t_great (by omega) (by omega)]
      simp (disch := omega) only [bnd_eq, Option.bind_some, lit_0, lit_1, lit_m1, lit_4, lit_5000, iI_nI, iI_add, iI_sub, iI_mul, iI_neg, chk_iI, iI_clamp, iI_lt, iI_le, iI_eq, if_pos, if_neg, Int.toNat_natCast]
      refine ok_go ⟨k + 1, by omega, by omega, max r k2, (a : Int) + -1, ?_, rfl, by omega, by omega, by omega, by omega, fun a' m x1 x2 x3 x4 => ?_, fun q => ?_⟩
      · show iI (max (r : Int) (k2 : Int)) = iI ((max r k2 : Nat) : Int)
        congr 1
        omega
      · by_cases z : a' = a
        · rw [z] at x4
          have := al.max x3 x4
          omega
        · have := h5 a' m (by omega) x2 x3 x4
          omega
      · by_cases z : k2 ≤ r
        · rw [show max r k2 = r by omega] at q ⊢
          exact h6 q
        · rw [show max r k2 = k2 by omega]
          exact ⟨a, by omega, al.2.1⟩
def Inear (g : Nat → Int) (b n : Nat) (k : Nat) (s : Int32) : Prop := ∃ (fr : Int), s = iI fr ∧ -1 ≤ fr ∧ fr < b ∧ (k : Int) = b - 1 - fr ∧ (∀ a : Nat, fr < a → a < b → ¬ E g a b n)
theorem t_nearest {f : Nat → Int32} {g : Nat → Int} {L : Nat} (h : MG f g L) (hL : L ≤ 5000) {p k n lean : Nat} (hp : p + k ≤ n) (hk : 1 ≤ k) (hn : lean + n ≤ L) : ok (m_Mo_nearest (iI p) (iI k) (iI lean) (iI n) 5000 f) (fun x => (∃ o : Nat, x = iI o ∧ Near g (lean + p) k o) ∨ (x = -2 ∧ ∀ a, a < lean + p → ¬ E g a (lean + p) k)) := by
  unfold m_Mo_nearest
  simp (disch := omega) only [bnd_eq, Option.bind_some, lit_0, lit_1, lit_m1, lit_4, lit_5000, iI_nI, iI_add, iI_sub, iI_mul, iI_neg, chk_iI, iI_clamp, iI_lt, iI_le, iI_eq, if_pos, if_neg, Int.toNat_natCast]
  refine ok_bind (Q := fun x => (∃ o : Nat, x = iI o ∧ Near g (lean + p) k o) ∨ (x = -2 ∧ ∀ a, a < lean + p → ¬ E g a (lean + p) k)) ?_ (fun o ho => ok_some ho)
  refine ok_loop (Inear g (lean + p) k) (lean + p) (by omega) ?_ ?_
  · exact ⟨(lean : Int) + p - 1, rfl, by omega, by omega, by omega, fun a x1 x2 => by omega⟩
  · rintro j s hj ⟨fr, rfl, h1, h2, h3, h4⟩
    unfold m_Mo_nearest_B12
    by_cases c : fr < 0
    · simp (disch := omega) only [bnd_eq, Option.bind_some, lit_0, lit_1, lit_m1, lit_4, lit_5000, iI_nI, iI_add, iI_sub, iI_mul, iI_neg, chk_iI, iI_clamp, iI_lt, iI_le, iI_eq, if_pos, if_neg, Int.toNat_natCast]
      exact ok_end (Or.inr ⟨rfl, fun a x1 => h4 a (by omega) x1⟩)
    · obtain ⟨a, rfl⟩ := m1_of h1 c
      simp (disch := omega) only [bnd_eq, Option.bind_some, lit_0, lit_1, lit_m1, lit_4, lit_5000, iI_nI, iI_add, iI_sub, iI_mul, iI_neg, chk_iI, iI_clamp, iI_lt, iI_le, iI_eq, if_pos, if_neg, Int.toNat_natCast]
      have e := t_alike h hL (a := a) (b := lean + p) (e := lean + n) (most := k) (by omega) (by omega) hn (by omega)
      rw [show ((lean + p : Nat) : Int) = (lean : Int) + p by omega, show ((lean + n : Nat) : Int) = (lean : Int) + n by omega] at e
      rw [show min k (lean + n - (lean + p)) = k by omega] at e
      refine ok_bind e ?_
      rintro x ⟨k2, rfl, al⟩
      have := al.1
      by_cases c5 : k2 = k
      · simp (disch := omega) only [bnd_eq, Option.bind_some, lit_0, lit_1, lit_m1, lit_4, lit_5000, iI_nI, iI_add, iI_sub, iI_mul, iI_neg, chk_iI, iI_clamp, iI_lt, iI_le, iI_eq, if_pos, if_neg, Int.toNat_natCast]
        refine ok_end (Or.inl ⟨lean + p - a, ?_, by omega, by omega, ?_, fun o' y1 y2 y3 => ?_⟩)
        · congr 1
          omega
        · rw [show lean + p - (lean + p - a) = a by omega, ← c5]
          exact al.2.1
        · exact h4 (lean + p - o') (by omega) (by omega) y3
      · simp (disch := omega) only [bnd_eq, Option.bind_some, lit_0, lit_1, lit_m1, lit_4, lit_5000, iI_nI, iI_add, iI_sub, iI_mul, iI_neg, chk_iI, iI_clamp, iI_lt, iI_le, iI_eq, if_pos, if_neg, Int.toNat_natCast]
        refine ok_go ⟨j + 1, by omega, by omega, (a : Int) + -1, rfl, by omega, by omega, by omega, fun a' x1 x2 x3 => ?_⟩
        by_cases z : a' = a
        · rw [z] at x3
          have := al.max (Nat.le_refl _) x3
          omega
        · exact h4 a' (by omega) x2 x3
theorem gx_app_l {xs ys : List Int} {j : Nat} (h : j < xs.length) : gx (xs ++ ys) j = gx xs j := gd_l h
theorem gx_app_r {xs ys : List Int} {j : Nat} (h : xs.length ≤ j) : gx (xs ++ ys) j = gx ys (j - xs.length) := gd_r h
theorem gx_drop (xs : List Int) (p j : Nat) : gx (xs.drop p) j = gx xs (p + j) := by
  unfold gx
  simp only [List.getD_eq_getElem?_getD]
  rw [List.getElem?_drop]
theorem gx_take {xs : List Int} {p j : Nat} (h : j < p) : gx (xs.take p) j = gx xs j := by
  unfold gx
  simp only [List.getD_eq_getElem?_getD]
  rw [List.getElem?_take_of_lt h]
theorem t_lay1 {md mi : Int32} {mdf mif : Nat → Int32} {dic inp : List Int} (b4 : MR md mdf dic) (b2 : MR mi mif inp) (hd : dic.length ≤ 1000) (hi : inp.length ≤ 4000) (tf : Nat → Int32) {p n b : Nat} (hp : p + n ≤ inp.length) (hb : b ≤ p) : ok (m_Mo_lay (iI p) (iI n) (iI b) 1 md 1000 mdf 5000 tf 4000 mif) (fun o => o.1 = iI ((dic.length + b : Nat) : Int) ∧ o.2.1 = iI n ∧ MG o.2.2 (gx (dic ++ inp.drop (p - b))) (dic.length + b + n)) := by
  obtain rfl := b4.1
  unfold m_Mo_lay m_Mo_lay_J35
  rw [if_neg (by decide)]
  refine ok_bind (s_carry (f := mdf) (g := tf) (n0 := 1000) (n2 := 5000) (p := 0) (q := 0) (n := dic.length) (by omega) (by omega) (by omega) (by omega) (by omega)) ?_
  rintro u rfl
  simp (disch := omega) only [bnd_eq, Option.bind_some, lit_0, lit_1, lit_m1, lit_4, lit_5000, iI_nI, iI_add, iI_sub, iI_mul, iI_neg, chk_iI, iI_clamp, iI_lt, iI_le, iI_eq, if_pos, if_neg, Int.toNat_natCast]
  rw [show (p : Int) - (b : Int) = ((p - b : Nat) : Int) by omega, show (b : Int) + (n : Int) = ((b + n : Nat) : Int) by omega]
  refine ok_bind (s_carry (n0 := 4000) (n2 := 5000) (p := p - b) (q := dic.length) (n := b + n) (by omega) (by omega) (by omega) (by omega) (by omega)) ?_
  rintro u rfl
  refine ok_some ⟨rfl, rfl, fun j hj => ?_⟩
  dsimp only
  by_cases c : j < dic.length
  · rw [gx_app_l c, pk_cpy_out (Or.inl c), pk_cpy_in (by omega) (by omega)]
    rw [show 0 + (j - 0) = j by omega]
    exact b4.2 j (by omega)
  · rw [gx_app_r (by omega), gx_drop, pk_cpy_in (by omega) (by omega)]
    exact b2.2 _ (by omega)
theorem t_lay0 {mi : Int32} {mif : Nat → Int32} {inp : List Int} (b2 : MR mi mif inp) (hi : inp.length ≤ 4000) (md : Int32) (mdf tf : Nat → Int32) {p n : Nat} (hp : p + n ≤ inp.length) : ok (m_Mo_lay (iI p) (iI n) 0 0 md 1000 mdf 5000 tf 4000 mif) (fun o => o.1 = 0 ∧ o.2.1 = iI n ∧ MG o.2.2 (gx (inp.drop p)) n) := by
  unfold m_Mo_lay m_Mo_lay_J35
  rw [if_pos rfl]
  simp (disch := omega) only [bnd_eq, Option.bind_some, lit_0, lit_1, lit_m1, lit_4, lit_5000, iI_nI, iI_add, iI_sub, iI_mul, iI_neg, chk_iI, iI_clamp, iI_lt, iI_le, iI_eq, if_pos, if_neg, Int.toNat_natCast]
  rw [show (p : Int) - 0 = ((p : Nat) : Int) by omega, show 0 + (n : Int) = ((n : Nat) : Int) by omega]
  refine ok_bind (s_carry (n0 := 4000) (n2 := 5000) (p := p) (q := 0) (n := n) (by omega) (by omega) (by omega) (by omega) (by omega)) ?_
  rintro u rfl
  refine ok_some ⟨rfl, rfl, fun j hj => ?_⟩
  dsimp only
  rw [gx_drop, pk_cpy_in (by omega) (by omega)]
  exact b2.2 _ (by omega)
theorem p_12 : P_12 RV0 := by
  intro a1 iN wN sF tc tfo tdp ob oa oN xN bN iF wF thF tbF tlF oF bF l1 l2 mi mo md mln msz mb mr mp mif mof mdf mtf mtx mbf h
  obtain ⟨inp, dic, out, b1, b2, b3, b4, b5⟩ := id h
  obtain ⟨z, hz, rfl⟩ := iI_ex a1
  have hi := b1.2.1
  have hd := b3.2.1
  obtain rfl := b1.1
  obtain rfl := b2.1
  obtain rfl := b3.1
  obtain rfl := b4.1
  unfold m_FB_longest m_Mo_longest m_Bytes_size
  rw [show (1 : Int32) = iI 1 from rfl, iI_sub, iI_j hz, iI_j (by omega), show (0 : Int64) = jI 0 from rfl, s_in (by omega) (by omega) (by omega)]
  simp only [Option.bind_some]
  by_cases c : 0 ≤ z ∧ z < inp.length
  · obtain ⟨p, rfl⟩ : ∃ p : Nat, z = p := ⟨z.toNat, by omega⟩
    have q1 : (0 : Int) ≤ p ∧ (p : Int) ≤ (inp.length : Int) - 1 := by omega
    rw [if_neg (by rw [iI_lt0 (by omega)]; omega), if_ltT (by omega) (by omega) (by omega), if_pos q1, if_neg (show ¬ (1 : Int32) = 0 by decide)]
    obtain ⟨⟨u1, u2, u3, u4, u5⟩, e1, e2, e3⟩ := s_load (lF := tlF) (hF := thF) (bF := tbF) b3 b1 (p := 0) (n := inp.length) (by omega)
    rw [show (inp.drop 0).take inp.length = inp by simp] at e2
    dsimp only at e2 e3
    rw [show iI ((0 : Nat) : Int) = (0 : Int32) from rfl] at e1
    rw [e1]
    simp only [Option.bind_some]
    have hlen : (dic ++ inp).length = dic.length + inp.length := List.length_append
    obtain ⟨⟨r, u6⟩, e4, r', e5, e6, e7⟩ := s_reach e2 tfo (b := dic.length + p) (lim := inp.length - p) (span := 5000) (by omega) (by omega)
    obtain ⟨⟨v1, v2, v3⟩, e8, e9, e10, e11⟩ := t_lay1 b4 b2 hd hi mtx (p := 0) (n := inp.length) (b := 0) (by omega) (by omega)
    dsimp only at e5 e9 e10 e11
    subst e5 e9 e10
    rw [show (inp.drop (0 - 0)) = inp by simp] at e11
    obtain ⟨r2, e12, r2', e13, e14⟩ := t_longestTo e11 (by omega) (p := p) (n := inp.length) (lean := dic.length + 0) (by omega) (by omega)
    have e15 := e6.eq e14 (by omega) (by omega)
    subst e13 e15
    rw [show iI ((0 : Nat) : Int) = (0 : Int32) from rfl, show (1 : Int32) = iI 1 from rfl] at e8
    rw [e8]
    simp only [Option.bind_some]
    rw [e12, iI_add, iI_sub, show (dic.length : Int) + (p : Int) = ((dic.length + p : Nat) : Int) by omega, show (inp.length : Int) - (p : Int) = ((inp.length - p : Nat) : Int) by omega, show (5000 : Int32) = iI ((5000 : Nat) : Int) from rfl, e4]
    simp only [Option.bind_some]
    exact ⟨_, _, _, _, _, _, _, _, _, _, rfl, rfl, h⟩
  · have q1 : ¬ ((0 : Int) ≤ z ∧ z ≤ (inp.length : Int) - 1) := by omega
    rw [if_neg q1, if_pos rfl]
    by_cases c2 : z < 0
    · rw [if_pos (by rw [iI_lt0 (by omega)]; omega)]
      exact ⟨_, _, _, _, _, _, _, _, _, _, rfl, rfl, h⟩
    · rw [if_neg (by rw [iI_lt0 (by omega)]; omega), if_ltF (by omega) (by omega) (by omega)]
      exact ⟨_, _, _, _, _, _, _, _, _, _, rfl, rfl, h⟩
theorem p_13 : P_13 RV0 := by
  intro a1 a2 iN wN sF tc tdp ob oa oN xN bN iF wF thF tbF tlF oF bF l1 l2 mi mo md mln msz mb mr mp mif mof mdf mtf mtx mbf h
  obtain ⟨inp, dic, out, b1, b2, b3, b4, b5⟩ := id h
  obtain ⟨z, hz, rfl⟩ := iI_ex a1
  obtain ⟨v, hv, rfl⟩ := iI_ex a2
  have hi := b1.2.1
  have hd := b3.2.1
  obtain rfl := b1.1
  obtain rfl := b2.1
  obtain rfl := b3.1
  obtain rfl := b4.1
  unfold m_FB_near m_Mo_near m_Bytes_size
  simp only [Option.bind_some]
  rw [show (1 : Int32) = iI 1 from rfl, iI_sub (inp.length : Int) 1, iI_j hz, iI_j hv, iI_j (z := (inp.length : Int) - 1) (by omega), show (0 : Int64) = jI 0 from rfl, s_in (by omega) (by omega) (by omega)]
  simp only [Option.bind_some]
  by_cases c : 0 ≤ z ∧ z < inp.length
  · obtain ⟨p, rfl⟩ : ∃ p : Nat, z = p := ⟨z.toNat, by omega⟩
    have q1 : (0 : Int) ≤ p ∧ (p : Int) ≤ (inp.length : Int) - 1 := by omega
    rw [if_neg (by rw [iI_lt0 (by omega)]; omega), if_leF (by omega) (by omega) (by omega), if_pos q1, if_neg (show ¬ (1 : Int32) = 0 by decide), iI_sub, iI_j (by omega), show (1 : Int64) = jI 1 from rfl, s_in (by omega) (by omega) (by omega)]
    simp only [Option.bind_some]
    by_cases c2 : 1 ≤ v ∧ v ≤ (inp.length : Int) - p
    · obtain ⟨k, rfl⟩ : ∃ k : Nat, v = k := ⟨v.toNat, by omega⟩
      rw [if_pos c2, if_neg (show ¬ (1 : Int32) = 0 by decide), if_ltF (by omega) (by omega) (by omega), if_leT (by omega) (by omega) (by omega)]
      obtain ⟨⟨u1, u2, u3, u4, u5⟩, e1, e2, e3⟩ := s_load (lF := tlF) (hF := thF) (bF := tbF) b3 b1 (p := 0) (n := inp.length) (by omega)
      rw [show (inp.drop 0).take inp.length = inp by simp] at e2
      dsimp only at e2 e3
      rw [show iI ((0 : Nat) : Int) = (0 : Int32) from rfl] at e1
      rw [e1]
      simp only [Option.bind_some]
      have hlen : (dic ++ inp).length = dic.length + inp.length := List.length_append
      obtain ⟨r, e4, e5⟩ := s_offsetOf e2 (b := dic.length + p) (n := k) (by omega) (by omega)
      obtain ⟨⟨v1, v2, v3⟩, e8, e9, e10, e11⟩ := t_lay1 b4 b2 hd hi mtx (p := 0) (n := inp.length) (b := 0) (by omega) (by omega)
      dsimp only at e9 e10 e11
      subst e9 e10
      rw [show (inp.drop (0 - 0)) = inp by simp] at e11
      obtain ⟨r2, e12, e13⟩ := t_nearest e11 (by omega) (p := p) (k := k) (n := inp.length) (lean := dic.length + 0) (by omega) (by omega) (by omega)
      rw [show iI ((0 : Nat) : Int) = (0 : Int32) from rfl, show (1 : Int32) = iI 1 from rfl] at e8
      rw [e8]
      simp only [Option.bind_some]
      rw [e12, iI_add, show (dic.length : Int) + (p : Int) = ((dic.length + p : Nat) : Int) by omega, e4]
      simp only [Option.bind_some]
      rw [show dic.length + 0 + p = dic.length + p by omega] at e13
      rcases e5 with ⟨o, rfl, n1⟩ | ⟨rfl, n1⟩
      · rcases e13 with ⟨o', rfl, n2⟩ | ⟨rfl, n2⟩
        · have := n1.eq n2
          subst this
          have n3 := n1.1
          have n4 := n1.2.1
          rw [if_neg (by rw [iI_eq0 (by omega)]; omega)]
          exact ⟨_, _, _, _, _, _, _, _, _, rfl, rfl, h⟩
        · have n3 := n1.1
          have n4 := n1.2.1
          exact absurd n1.2.2.1 (n2 _ (by omega))
      · rcases e13 with ⟨o', rfl, n2⟩ | ⟨rfl, n2⟩
        · have n3 := n2.1
          have n4 := n2.2.1
          exact absurd n2.2.2.1 (n1 _ (by omega))
        · rw [if_pos rfl]
          exact ⟨_, _, _, _, _, _, _, _, _, rfl, rfl, h⟩
    · rw [if_neg c2, if_pos rfl]
      by_cases c3 : v < 1
      · rw [if_ltT (by omega) (by omega) (by omega)]
        exact ⟨_, _, _, _, _, _, _, _, _, rfl, rfl, h⟩
      · rw [if_ltF (by omega) (by omega) (by omega), if_leF (by omega) (by omega) (by omega)]
        exact ⟨_, _, _, _, _, _, _, _, _, rfl, rfl, h⟩
  · have q1 : ¬ ((0 : Int) ≤ z ∧ z ≤ (inp.length : Int) - 1) := by omega
    rw [if_neg q1, if_pos rfl]
    by_cases c2 : z < 0
    · rw [if_pos (by rw [iI_lt0 (by omega)]; omega)]
      exact ⟨_, _, _, _, _, _, _, _, _, rfl, rfl, h⟩
    · rw [if_neg (by rw [iI_lt0 (by omega)]; omega), if_leT (by omega) (by omega) (by omega)]
      exact ⟨_, _, _, _, _, _, _, _, _, rfl, rfl, h⟩
