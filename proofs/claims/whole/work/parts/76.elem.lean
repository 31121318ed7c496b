/-! one element -/
theorem and3' : ∀ z : Nat, z < 256 → iI z &&& 3 = iI ((z % 4 : Nat) : Int) := by decide +kernel
theorem ishr2 : ∀ z : Nat, z < 256 → ishr (iI z) 2 = iI ((z / 4 : Nat) : Int) := by decide +kernel
theorem and7' : ∀ z : Nat, z < 64 → iI z &&& 7 = iI ((z % 8 : Nat) : Int) := by decide +kernel
theorem ishr3 : ∀ z : Nat, z < 64 → ishr (iI z) 3 = iI ((z / 8 : Nat) : Int) := by decide +kernel
theorem j_1 : (1 : Int64) = jI 1 := by decide
theorem lg_le {β : Type} {a b : Int} (h1 : -9223372036854775808 ≤ a ∧ a < 9223372036854775808) (h2 : -9223372036854775808 ≤ b ∧ b < 9223372036854775808) (x y : β) : (if lg_cmp (jI a) (jI b) ≤ 0 then x else y) = if a ≤ b then x else y := by
  rw [lg_jI h1 h2]
  by_cases c : a < b
  · rw [if_pos c, if_pos (show iI (-1) ≤ 0 by decide), if_pos (by omega)]
  · rw [if_neg c]
    by_cases c2 : b < a
    · rw [if_pos c2, if_neg (show ¬ iI 1 ≤ 0 by decide), if_neg (by omega)]
    · rw [if_neg c2, if_pos (show iI 0 ≤ 0 by decide), if_pos (by omega)]
theorem lg_ge {β : Type} {a b : Int} (h1 : -9223372036854775808 ≤ a ∧ a < 9223372036854775808) (h2 : -9223372036854775808 ≤ b ∧ b < 9223372036854775808) (x y : β) : (if 0 ≤ lg_cmp (jI a) (jI b) then x else y) = if b ≤ a then x else y := by
  rw [lg_jI h1 h2]
  by_cases c : a < b
  · rw [if_pos c, if_neg (show ¬ 0 ≤ iI (-1) by decide), if_neg (by omega)]
  · rw [if_neg c]
    by_cases c2 : b < a
    · rw [if_pos c2, if_pos (show 0 ≤ iI 1 by decide), if_pos (by omega)]
    · rw [if_neg c2, if_pos (show 0 ≤ iI 0 by decide), if_pos (by omega)]
theorem lg_eq {β : Type} {a b : Int} (h1 : -9223372036854775808 ≤ a ∧ a < 9223372036854775808) (h2 : -9223372036854775808 ≤ b ∧ b < 9223372036854775808) (x y : β) : (if lg_cmp (jI a) (jI b) = 0 then x else y) = if a = b then x else y := by
  rw [lg_jI h1 h2]
  by_cases c : a < b
  · rw [if_pos c, if_neg (show ¬ iI (-1) = 0 by decide), if_neg (by omega)]
  · rw [if_neg c]
    by_cases c2 : b < a
    · rw [if_pos c2, if_neg (show ¬ iI 1 = 0 by decide), if_neg (by omega)]
    · rw [if_neg c2, if_pos (show iI 0 = 0 by decide), if_pos (by omega)]
def enb (b : Nat) : Nat := if b % 4 = 0 then b / 4 - 59 else if b % 4 = 3 then 4 else b % 4
theorem enb_le {b : Nat} (h : b < 256) : enb b ≤ 4 := by
  unfold enb
  split
  · omega
  · split <;> omega
def en (b v : Nat) : Nat := if b % 4 = 0 then (if b / 4 < 60 then b / 4 + 1 else v + 1) else if b % 4 = 1 then 4 + b / 4 % 8 else b / 4 + 1
def eo (b v : Nat) : Nat := if b % 4 = 1 then 256 * (b / 4 / 8) + v else v
def oe (e ol l0 G p b v : Nat) : (Nat × Nat) ⊕ ((Nat × Nat) ⊕ (Nat × Nat × Nat)) := if e < p + 1 + enb b then .inl (1, e) else if G < ol + en b v then .inl (14, p) else if b % 4 = 0 then (if e < p + 1 + enb b + en b v then .inl (1, e) else .inr (.inl (p + 1 + enb b, en b v))) else if eo b v = 0 ∨ ol - l0 < eo b v then .inl (2, p) else .inr (.inr (p + 1 + enb b, en b v, eo b v))
theorem en_pos (b v : Nat) : 1 ≤ en b v := by
  unfold en
  split
  · split <;> omega
  · split <;> omega
def Poe (inp o : List Int) (R : (Nat × Nat) ⊕ ((Nat × Nat) ⊕ (Nat × Nat × Nat))) (b ba cc ll pp : Int32) (x : Int32 × Int32 × Int32 × Int32 × Int32 × Int32 × Int32 × Int32 × (Nat → Int32)) : Prop := (∀ r pl, R = .inl (r, pl) → x.1 = 0 ∧ x.2.1 = iI r ∧ x.2.2.1 = iI pl ∧ BR 12000 x.2.2.2.2.2.2.2.1 x.2.2.2.2.2.2.2.2 o) ∧ (∀ q n, R = .inr (.inl (q, n)) → x.1 = 1 ∧ x.2.1 = b ∧ x.2.2.1 = ba ∧ x.2.2.2.1 = iI ((q + n : Nat) : Int) ∧ x.2.2.2.2.1 = cc ∧ x.2.2.2.2.2.1 = ll + iI n ∧ x.2.2.2.2.2.2.1 = pp + 1 ∧ BR 12000 x.2.2.2.2.2.2.2.1 x.2.2.2.2.2.2.2.2 (o ++ (inp.drop q).take n)) ∧ (∀ q n off, R = .inr (.inr (q, n, off)) → x.1 = 1 ∧ x.2.1 = b ∧ x.2.2.1 = ba ∧ x.2.2.2.1 = iI q ∧ x.2.2.2.2.1 = cc + 1 ∧ x.2.2.2.2.2.1 = ll ∧ x.2.2.2.2.2.2.1 = pp + 1 ∧ BR 12000 x.2.2.2.2.2.2.2.1 x.2.2.2.2.2.2.2.2 (cl [] 0 off o n))
theorem Poe.bad {inp o : List Int} {r pl : Nat} {b ba cc ll pp : Int32} {x : Int32 × Int32 × Int32 × Int32 × Int32 × Int32 × Int32 × Int32 × (Nat → Int32)} (h : x.1 = 0 ∧ x.2.1 = iI r ∧ x.2.2.1 = iI pl ∧ BR 12000 x.2.2.2.2.2.2.2.1 x.2.2.2.2.2.2.2.2 o) : Poe inp o (.inl (r, pl)) b ba cc ll pp x := ⟨fun r' pl' q => (by cases q; exact h), fun q n z => (by cases z), fun q n off z => (by cases z)⟩
theorem s_literals {inp o : List Int} {iF tf : Nat → Int32} {tc b ba ll : Int32} (b1 : BR 4000 (iI inp.length) iF inp) (h : BR 12000 tc tf o) {p q e G n : Nat} (hq : q ≤ e) (he : e ≤ inp.length) (hG : G ≤ 12000) (hn : n ≤ 5000000000) : ok (m_Opener_openLiterals (iI p) (jI n) (iI G) b ba (iI q) (iI e) ll tc (iI inp.length) 12000 tf 4000 iF) (fun x => (G < o.length + n → x.1 = 0 ∧ x.2.1 = iI ((14 : Nat) : Int) ∧ x.2.2.1 = iI p ∧ BR 12000 x.2.2.2.2.2.1 x.2.2.2.2.2.2 o) ∧ (¬ G < o.length + n → e < q + n → x.1 = 0 ∧ x.2.1 = iI ((1 : Nat) : Int) ∧ x.2.2.1 = iI e ∧ BR 12000 x.2.2.2.2.2.1 x.2.2.2.2.2.2 o) ∧ (¬ G < o.length + n → ¬ e < q + n → x.1 = 1 ∧ x.2.1 = b ∧ x.2.2.1 = ba ∧ x.2.2.2.1 = iI ((q + n : Nat) : Int) ∧ x.2.2.2.2.1 = ll + iI n ∧ BR 12000 x.2.2.2.2.2.1 x.2.2.2.2.2.2 (o ++ (inp.drop q).take n))) := by
  have i4 := b1.2.1
  have o4 := h.2.1
  have htc := h.1
  subst htc
  unfold m_Opener_openLiterals m_Bytes_size m_Opener_breaks
  rw [Option.bind_some, iI_j (by omega), jI_add, iI_j (by omega), lg_le (by omega) (by omega)]
  by_cases c1 : G < o.length + n
  · rw [if_neg (show ¬ (o.length : Int) + (n : Int) ≤ (G : Int) by omega), Option.bind_some]
    dsimp only
    rw [bch0]
    exact ok_some ⟨fun _ => ⟨rfl, rfl, rfl, h⟩, fun q => absurd c1 q, fun q => absurd c1 q⟩
  · rw [if_pos (show (o.length : Int) + (n : Int) ≤ (G : Int) by omega), iI_sub, iI_j (by omega), lg_le (by omega) (by omega)]
    by_cases c2 : e < q + n
    · rw [if_neg (show ¬ (n : Int) ≤ (e : Int) - (q : Int) by omega), Option.bind_some]
      dsimp only
      rw [bch0]
      exact ok_some ⟨fun q => absurd q c1, fun _ _ => ⟨rfl, rfl, rfl, h⟩, fun _ q => absurd c2 q⟩
    · rw [if_pos (show (n : Int) ≤ (e : Int) - (q : Int) by omega), jI_i]
      refine ok_bind (s_addRange h b1 (by omega) (by omega) (p := q) (n := n) (by omega) (by omega)) ?_
      rintro ⟨u2, u3⟩ hu
      dsimp only at hu ⊢
      rw [bnd_eq, bnd_eq, iI_add]
      exact ok_some ⟨fun q => absurd q c1, fun _ q => absurd q c2, fun _ _ => ⟨rfl, rfl, rfl, rfl, rfl, hu⟩⟩
theorem s_offset {o : List Int} {tf : Nat → Int32} {tc b ba cc : Int32} (h : BR 12000 tc tf o) {p l0 G n off : Nat} (hl0 : l0 ≤ o.length) (hG : G ≤ 12000) (hn : n ≤ 100000) (hoff : off ≤ 5000000000) : ok (m_Opener_openOffset (iI p) (iI n) (jI off) (iI G) b ba (iI l0) cc tc 12000 tf) (fun x => (G < o.length + n → x.1 = 0 ∧ x.2.1 = iI ((14 : Nat) : Int) ∧ x.2.2.1 = iI p ∧ BR 12000 x.2.2.2.2.1 x.2.2.2.2.2 o) ∧ (¬ G < o.length + n → (off = 0 ∨ o.length - l0 < off) → x.1 = 0 ∧ x.2.1 = iI ((2 : Nat) : Int) ∧ x.2.2.1 = iI p ∧ BR 12000 x.2.2.2.2.1 x.2.2.2.2.2 o) ∧ (¬ G < o.length + n → ¬ (off = 0 ∨ o.length - l0 < off) → x.1 = 1 ∧ x.2.1 = b ∧ x.2.2.1 = ba ∧ x.2.2.2.1 = cc + 1 ∧ BR 12000 x.2.2.2.2.1 x.2.2.2.2.2 (cl [] 0 off o n))) := by
  have o4 := h.2.1
  have htc := h.1
  subst htc
  unfold m_Opener_openOffset m_Opener_openOffset_J46 m_Bytes_size m_Opener_breaks
  rw [Option.bind_some, iI_add]
  by_cases c1 : G < o.length + n
  · rw [if_leF (by omega) (by omega) (by omega), Option.bind_some]
    dsimp only
    rw [bch0]
    exact ok_some ⟨fun _ => ⟨rfl, rfl, rfl, h⟩, fun q => absurd c1 q, fun q => absurd c1 q⟩
  · rw [if_leT (by omega) (by omega) (by omega), show (0 : Int64) = jI 0 from rfl, lg_eq (by omega) (by omega), Option.bind_some, Option.bind_some, iI_sub, iI_j (by omega), lg_le (by omega) (by omega)]
    dsimp only
    rw [bch0]
    have hbad : (off = 0 ∨ o.length - l0 < off) → ok (some ((0 : Int32), (2 : Int32), iI (p : Int), cc, iI (o.length : Int), tf)) (fun x => (G < o.length + n → x.1 = 0 ∧ x.2.1 = iI ((14 : Nat) : Int) ∧ x.2.2.1 = iI p ∧ BR 12000 x.2.2.2.2.1 x.2.2.2.2.2 o) ∧ (¬ G < o.length + n → (off = 0 ∨ o.length - l0 < off) → x.1 = 0 ∧ x.2.1 = iI ((2 : Nat) : Int) ∧ x.2.2.1 = iI p ∧ BR 12000 x.2.2.2.2.1 x.2.2.2.2.2 o) ∧ (¬ G < o.length + n → ¬ (off = 0 ∨ o.length - l0 < off) → x.1 = 1 ∧ x.2.1 = b ∧ x.2.2.1 = ba ∧ x.2.2.2.1 = cc + 1 ∧ BR 12000 x.2.2.2.2.1 x.2.2.2.2.2 (cl [] 0 off o n))) := fun z => ok_some ⟨fun q => absurd q c1, fun _ _ => ⟨rfl, rfl, rfl, h⟩, fun _ q => absurd z q⟩
    by_cases c2 : off = 0
    · rw [if_pos (show (off : Int) = 0 by omega)]
      exact hbad (Or.inl c2)
    · rw [if_neg (show ¬ (off : Int) = 0 by omega)]
      by_cases c3 : o.length - l0 < off
      · rw [if_neg (show ¬ (off : Int) ≤ (o.length : Int) - (l0 : Int) by omega)]
        exact hbad (Or.inr c3)
      · rw [if_pos (show (off : Int) ≤ (o.length : Int) - (l0 : Int) by omega), jI_i]
        refine ok_bind (s_again (dic := []) (lo := 0) (j0 := 0) (n := n) (off := off) (o := o) h (by omega) (Or.inr (by omega)) (Or.inr (by omega)) (by omega) (by omega)) ?_
        rintro ⟨u6, u7⟩ hu
        dsimp only at hu ⊢
        rw [Nat.zero_add] at hu
        rw [bnd_eq]
        exact ok_some ⟨fun q => absurd q c1, fun _ q => absurd q (by omega), fun _ _ => ⟨rfl, rfl, rfl, rfl, hu⟩⟩
theorem s_element {inp o : List Int} {iF tf : Nat → Int32} {tc b ba cc ll pp : Int32} (b1 : BR 4000 (iI inp.length) iF inp) (h : BR 12000 tc tf o) {p e l0 G : Nat} (hp : p < e) (he : e ≤ inp.length) (hl0 : l0 ≤ o.length) (hG : G ≤ 12000) : ok (m_Opener_openElement (iI G) b ba (iI p) (iI e) (iI l0) cc ll pp (iI inp.length) 4000 iF tc 12000 tf) (Poe inp o (oe e o.length l0 G p (by_ inp p) (nv inp (p + 1) (enb (by_ inp p)))) b ba cc ll pp) := by
  have i4 := b1.2.1
  have hy := b1.by
  have hlt := hy.lt p
  obtain ⟨y, hyy⟩ : ∃ y, by_ inp p = y := ⟨_, rfl⟩
  rw [hyy] at hlt ⊢
  have hnb := enb_le hlt
  have hnv := nv_lt hy (p + 1) (enb y)
  have hp2 : 2 ^ (8 * enb y) ≤ 2 ^ 32 := Nat.pow_le_pow_right (by decide) (by omega)
  rw [show 2 ^ 32 = 4294967296 by decide] at hp2
  obtain ⟨v, hv⟩ : ∃ v, nv inp (p + 1) (enb y) = v := ⟨_, rfl⟩
  rw [hv] at hnv ⊢
  have hJ : ok (m_Opener_openElement_J58 (iI G) b ba (iI p) (iI e) (iI l0) cc ll pp (iI inp.length) 4000 iF tc 12000 tf (iI ((y % 4 : Nat) : Int)) (iI ((y / 4 : Nat) : Int)) (iI (enb y))) (Poe inp o (oe e o.length l0 G p y v) b ba cc ll pp) := by
    unfold m_Opener_openElement_J58 m_Opener_breaks oe
    rw [bnd_eq, lit_1, iI_add, s_lacks (by omega) (by omega) (by omega), Option.bind_some, show (p : Int) + 1 = ((p + 1 : Nat) : Int) by omega]
    by_cases c1 : e < p + 1 + enb y
    · rw [if_neg (show ¬ (enb y : Int) ≤ (e : Int) - ((p + 1 : Nat) : Int) by omega), if_neg (show ¬ (1 : Int32) = 0 by decide), Option.bind_some, if_pos c1]
      dsimp only
      rw [bch0]
      exact ok_some (Poe.bad ⟨rfl, rfl, rfl, h⟩)
    · rw [if_pos (show (enb y : Int) ≤ (e : Int) - ((p + 1 : Nat) : Int) by omega), if_pos rfl, s_number b1 (by omega) (by omega) (by omega), Option.bind_some, hv, bnd_eq, bnd_eq, iI_add, show ((p + 1 : Nat) : Int) + (enb y : Int) = ((p + 1 + enb y : Nat) : Int) by omega, if_neg c1]
      by_cases k0 : y % 4 = 0
      · rw [if_eq0T (by omega) (by omega)]
        have hlit : ∀ s24 : Int64, (1 : Int64) + s24 = jI (en y v) → ok (m_Opener_openElement_J143 (iI G) b ba (iI p) (iI e) cc ll (iI inp.length) 4000 iF tc 12000 tf (iI ((p + 1 + enb y : Nat) : Int)) (pp + iI 1) s24) (Poe inp o (if G < o.length + en y v then .inl (14, p) else if y % 4 = 0 then (if e < p + 1 + enb y + en y v then .inl (1, e) else .inr (.inl (p + 1 + enb y, en y v))) else if eo y v = 0 ∨ o.length - l0 < eo y v then .inl (2, p) else .inr (.inr (p + 1 + enb y, en y v, eo y v))) b ba cc ll pp) := by
          intro s24 hs
          have hen : en y v ≤ 5000000000 := by
            unfold en
            rw [if_pos k0]
            split <;> omega
          unfold m_Opener_openElement_J143
          rw [hs]
          refine ok_bind (s_literals (p := p) (q := p + 1 + enb y) (e := e) (G := G) (n := en y v) b1 h (by omega) he hG hen) ?_
          rintro ⟨r25, u26, u27, u28, u29, u30, u31⟩ ⟨x1, x2, x3⟩
          dsimp only at x1 x2 x3 ⊢
          by_cases d1 : G < o.length + en y v
          · obtain ⟨rfl, y2, y3, y4⟩ := x1 d1
            rw [if_pos d1, bch0]
            exact ok_some (Poe.bad ⟨rfl, y2, y3, y4⟩)
          · rw [if_neg d1, if_pos k0]
            by_cases d2 : e < p + 1 + enb y + en y v
            · obtain ⟨rfl, y2, y3, y4⟩ := x2 d1 d2
              rw [if_pos d2, bch0]
              exact ok_some (Poe.bad ⟨rfl, y2, y3, y4⟩)
            · obtain ⟨rfl, y2, y3, y4, y5, y6⟩ := x3 d1 d2
              rw [if_neg d2, bch1]
              exact ok_some ⟨fun r pl z => (by cases z), fun q n z => (by cases z; exact ⟨rfl, y2, y3, y4, rfl, y5, rfl, y6⟩), fun q n off z => (by cases z)⟩
        by_cases k1 : y / 4 < 60
        · rw [if_eq0T (by omega) (by unfold enb; rw [if_pos k0]; omega)]
          refine hlit _ ?_
          rw [iI_j (by omega), j_1, jI_add]
          unfold en
          rw [if_pos k0, if_pos k1]
          congr 1
          omega
        · rw [if_eq0F (by omega) (by unfold enb; rw [if_pos k0]; omega)]
          refine hlit _ ?_
          rw [j_1, jI_add]
          unfold en
          rw [if_pos k0, if_neg k1]
          congr 1
          omega
      · rw [if_eq0F (by omega) (by omega), if_neg k0]
        have hoffs : ∀ (X : Int32) (Y : Int64), X = iI (en y v) → Y = jI (eo y v) → ok ((m_Opener_openOffset (iI p) X Y (iI G) b ba (iI l0) cc tc 12000 tf).bind fun x => match x with | (r18, u19, u20, u21, u22, u23) => bch r18 (some (r18, u19, u20, iI ((p + 1 + enb y : Nat) : Int), u21, ll, pp + iI 1, u22, u23))) (Poe inp o (if G < o.length + en y v then .inl (14, p) else if eo y v = 0 ∨ o.length - l0 < eo y v then .inl (2, p) else .inr (.inr (p + 1 + enb y, en y v, eo y v))) b ba cc ll pp) := by
          rintro X Y rfl rfl
          have hen : en y v ≤ 100 := by
            unfold en
            rw [if_neg k0]
            split <;> omega
          have heo : eo y v ≤ 5000000000 := by
            unfold eo
            split <;> omega
          refine ok_bind (s_offset (p := p) (l0 := l0) (G := G) (n := en y v) (off := eo y v) h hl0 hG (by omega) heo) ?_
          rintro ⟨r18, u19, u20, u21, u22, u23⟩ ⟨x1, x2, x3⟩
          dsimp only at x1 x2 x3 ⊢
          by_cases d1 : G < o.length + en y v
          · obtain ⟨rfl, y2, y3, y4⟩ := x1 d1
            rw [if_pos d1, bch0]
            exact ok_some (Poe.bad ⟨rfl, y2, y3, y4⟩)
          · rw [if_neg d1]
            by_cases d2 : eo y v = 0 ∨ o.length - l0 < eo y v
            · obtain ⟨rfl, y2, y3, y4⟩ := x2 d1 d2
              rw [if_pos d2, bch0]
              exact ok_some (Poe.bad ⟨rfl, y2, y3, y4⟩)
            · obtain ⟨rfl, y2, y3, y4, y5⟩ := x3 d1 d2
              rw [if_neg d2, bch1]
              exact ok_some ⟨fun r pl z => (by cases z), fun q n z => (by cases z), fun q n off z => by cases z; exact ⟨rfl, y2, y3, rfl, y4, rfl, rfl, y5⟩⟩
        by_cases k1 : y % 4 = 1
        · rw [if_eqT (by omega) (by omega) (by omega)]
          refine hoffs _ _ ?_ ?_
          · rw [lit_4, lit_8, iI_rem (by omega) (by omega), iI_add]
            unfold en
            rw [if_neg k0, if_pos k1]
            congr 1
          · rw [lit_256, lit_8, iI_div (by omega) (by omega), iI_mul, iI_j (by omega), jI_add]
            unfold eo
            rw [if_pos k1]
            congr 1
        · rw [if_eqF (by omega) (by omega) (by omega)]
          refine hoffs _ _ ?_ ?_
          · rw [iI_add]
            unfold en
            rw [if_neg k0, if_neg k1]
            congr 1
          · unfold eo
            rw [if_neg k1]
  unfold m_Opener_openElement m_Opener_openElement_J38
  rw [s_byteAt b1 (by omega) (by omega), hyy]
  simp only [Option.bind_some, bnd_eq]
  rw [lit_4, iI_rem (by omega) (by omega), iI_div (by omega) (by omega), show (y : Int) % 4 = ((y % 4 : Nat) : Int) by omega, show (y : Int) / 4 = ((y / 4 : Nat) : Int) by omega, lit_3, lit_60, lit_59, iI_sub]
  by_cases k3 : y % 4 = 3
  · rw [if_eqT (by omega) (by omega) (by omega), if_eq0F (by omega) (by omega)]
    have e1 : enb y = 4 := by unfold enb; rw [if_neg (by omega), if_pos k3]
    rw [e1] at hJ
    exact hJ
  · rw [if_eqF (by omega) (by omega) (by omega)]
    by_cases k0 : y % 4 = 0
    · rw [if_eq0T (by omega) (by omega)]
      have e1 : enb y = y / 4 - 59 := by unfold enb; rw [if_pos k0]
      by_cases k1 : y / 4 < 60
      · rw [if_ltT (by omega) (by omega) (by omega)]
        rw [show enb y = y % 4 by omega] at hJ
        exact hJ
      · rw [if_ltF (by omega) (by omega) (by omega), show ((y / 4 : Nat) : Int) - 59 = ((enb y : Nat) : Int) by omega]
        exact hJ
    · rw [if_eq0F (by omega) (by omega)]
      have e1 : enb y = y % 4 := by unfold enb; rw [if_neg k0, if_neg k3]
      rw [e1] at hJ
      exact hJ
