/-! elements: the reference's, and both -/
theorem t_litE {mi fs : Int32} {mif ff : Nat → Int32} {inp o : List Int} (b2 : MR mi mif inp) (hin : inp.length ≤ 4000) (h : MR fs ff o) {q n : Nat} (hq : q + n ≤ inp.length) (hl : o.length + n ≤ 28000) : ok (iter (fun st => m_Mo_readElements_B430 4000 mif 28000 (jI n) st.1 st.2.1 st.2.2.1 st.2.2.2) FU (ff, iI q, fs, 0)) (fun x => MR x.2.2 x.1 (o ++ (inp.drop q).take n) ∧ x.2.1 = iI ((q + n : Nat) : Int)) := by
  refine ok_loop (fun j s => s.2.2.2 = iI j ∧ s.2.1 = iI ((q + j : Nat) : Int) ∧ MR s.2.2.1 s.1 (o ++ (inp.drop q).take j)) n (by omega) ⟨rfl, rfl, by rw [List.take_zero, List.append_nil]; exact h⟩ ?_
  rintro j ⟨s1, s2, s3, s4⟩ hj ⟨e1, e2, e3⟩
  dsimp only at e1 e2 e3
  subst e1 e2
  unfold m_Mo_readElements_B430
  dsimp only
  have hdl : (inp.drop q).length = inp.length - q := List.length_drop
  rw [iI_j (by omega), lg_ge (by omega) (by omega)]
  by_cases c : n ≤ j
  · rw [if_pos (show (n : Int) ≤ (j : Int) by omega)]
    refine ok_end ⟨?_, by rw [show n = j by omega]⟩
    rw [show n = j by omega]
    exact e3
  · rw [if_neg (show ¬ (n : Int) ≤ (j : Int) by omega), chk_iI (by omega) (by omega), iI_clamp (by omega) (by omega), Int.toNat_natCast]
    have hg := b2.2 (q + j) (by omega)
    rw [hg.2]
    refine ok_bind (t_put _ e3 (by rw [List.length_append, List.length_take]; omega) (by omega)) ?_
    rintro ⟨u1, u2⟩ hu
    dsimp only at hu ⊢
    rw [bnd_eq, bnd_eq, lit_1, iI_add, iI_add]
    refine ok_go ⟨j + 1, by omega, by omega, rfl, rfl, ?_⟩
    dsimp only
    rw [take_s (by omega), ← List.append_assoc]
    rw [show (inp.drop q).getD j 0 = inp.getD (q + j) 0 by simp [List.getD_eq_getElem?_getD, List.getElem?_drop]]
    rw [show inp.getD (q + j) 0 % 256 = inp.getD (q + j) 0 by omega] at hu
    exact hu
theorem t_copyE {fs : Int32} {ff : Nat → Int32} {o : List Int} {off n : Nat} (h : MR fs ff o) (h1 : 1 ≤ off) (hoff : off ≤ o.length) (hl : o.length + n ≤ 12000) : ok (iter (fun st => m_Mo_readElements_B512 28000 (jI n) (jI off) st.1 st.2.1 st.2.2) FU (ff, fs, 0)) (fun x => MR x.2 x.1 (cl [] 0 off o n)) := by
  refine ok_loop (fun j s => s.2.2 = iI j ∧ MR s.2.1 s.1 (cl [] 0 off o j)) n (by omega) ⟨rfl, h⟩ ?_
  rintro j ⟨s1, s2, s3⟩ hj ⟨e1, e2⟩
  dsimp only at e1 e2
  subst e1
  have hc2 := cl_len [] 0 off o j
  have e3 := e2.1
  rw [hc2] at e3
  unfold m_Mo_readElements_B512
  dsimp only
  rw [iI_j (by omega), lg_ge (by omega) (by omega)]
  by_cases c2 : n ≤ j
  · rw [if_pos (show (n : Int) ≤ (j : Int) by omega)]
    refine ok_end ?_
    rw [show n = j by omega]
    exact e2
  · rw [if_neg (show ¬ (n : Int) ≤ (j : Int) by omega), jI_i, e3, iI_sub, chk_iI (by omega) (by omega), iI_clamp (by omega) (by omega), show (((o.length + j : Nat) : Int) - (off : Int)).toNat = o.length + j - off by omega, ← e3]
    have hg := e2.2 (o.length + j - off) (by omega)
    rw [hg.2]
    refine ok_bind (t_put _ e2 (by omega) (by omega)) ?_
    rintro ⟨u1, u2⟩ hu
    dsimp only at hu ⊢
    rw [bnd_eq, lit_1, iI_add]
    refine ok_go ⟨j + 1, by omega, by omega, rfl, ?_⟩
    dsimp only
    rw [cl, cst, hc2, if_neg (by omega)]
    rw [show (cl [] 0 off o j).getD (o.length + j - off) 0 % 256 = (cl [] 0 off o j).getD (o.length + j - off) 0 by omega] at hu
    exact hu
def Pte (inp o : List Int) (R : (Nat × Nat) ⊕ ((Nat × Nat) ⊕ (Nat × Nat × Nat))) (fs cc ll pp : Int32) (ff : Nat → Int32) (z : ((Nat → Int32) × Int32 × Int32 × Int32 × Int32 × Int32) ⊕ (((Nat → Int32) × Int32 × Int32 × Int32 × Int32 × Int32 × Int32) ⊕ ((Nat → Int32) × Int32 × Int32 × Int32 × Int32 × Int32) ⊕ (Int32 × Int32 × Int32 × Int32 × Int32 × Int32 × Int32 × Int32 × (Nat → Int32)))) : Prop := (∀ r pl, R = .inl (r, pl) → (r = 2 ∧ ∃ x1 x2 x3 x4 x5 x6, z = .inr (.inl (x1, x2, x3, x4, x5, x6, iI pl))) ∨ (r ≠ 0 ∧ r ≤ 100 ∧ ∃ x1 x2 x3 x4 x5 x6, z = .inr (.inr (.inr (0, x1, x2, x3, x4, iI r, iI pl, x5, x6))))) ∧ (∀ q n, R = .inr (.inl (q, n)) → ∃ f' c', z = .inl (f', cc, ll + iI n, pp + 1, iI ((q + n : Nat) : Int), c') ∧ MR c' f' (o ++ (inp.drop q).take n)) ∧ (∀ q n off, R = .inr (.inr (q, n, off)) → ∃ f' c', z = .inl (f', cc + 1, ll, pp + 1, iI q, c') ∧ MR c' f' (cl [] 0 off o n))
theorem Pte.bad {inp o : List Int} {r pl : Nat} {fs cc ll pp : Int32} {ff : Nat → Int32} {x1 x2 x3 x4 x5 : Int32} {x6 : Nat → Int32} (h : r ≠ 0 ∧ r ≤ 100) : Pte inp o (.inl (r, pl)) fs cc ll pp ff (.inr (.inr (.inr (0, x1, x2, x3, x4, iI r, iI pl, x5, x6)))) := ⟨fun r' pl' q => (by cases q; exact Or.inr ⟨h.1, h.2, _, _, _, _, _, _, rfl⟩), fun q n z => (by cases z), fun q n off z => (by cases z)⟩
theorem Pte.bad2 {inp o : List Int} {pl : Nat} {fs cc ll pp : Int32} {ff : Nat → Int32} {x1 : Nat → Int32} {x2 x3 x4 x5 x6 : Int32} : Pte inp o (.inl (2, pl)) fs cc ll pp ff (.inr (.inl (x1, x2, x3, x4, x5, x6, iI pl))) := ⟨fun r' pl' q => (by cases q; exact Or.inl ⟨rfl, _, _, _, _, _, _, rfl⟩), fun q n z => (by cases z), fun q n off z => (by cases z)⟩
theorem t_element {inp o : List Int} {mif ff : Nat → Int32} {fs cc ll pp : Int32} (b2 : MR (iI inp.length) mif inp) (hy : BY inp) (i4 : inp.length ≤ 4000) (h : MR fs ff o) {p e l0 T : Nat} (hp : p < e) (he : e ≤ inp.length) (hl0 : l0 ≤ o.length) (ho : o.length ≤ 12000) (hG : l0 + T ≤ 12000) : ok (m_Mo_readElements_B157 (iI e) (iI l0) 4000 mif 28000 (jI T) ff cc ll pp (iI p) fs) (Pte inp o (oe e o.length l0 (l0 + T) p (by_ inp p) (nv inp (p + 1) (enb (by_ inp p)))) fs cc ll pp ff) := by
  have hlt := hy.lt p
  obtain ⟨y, hyy⟩ : ∃ y, by_ inp p = y := ⟨_, rfl⟩
  rw [hyy] at hlt ⊢
  have hnb := enb_le hlt
  have hnv := nv_lt hy (p + 1) (enb y)
  have hp2 : 2 ^ (8 * enb y) ≤ 2 ^ 32 := Nat.pow_le_pow_right (by decide) (by omega)
  rw [show 2 ^ 32 = 4294967296 by decide] at hp2
  obtain ⟨v, hv⟩ : ∃ v, nv inp (p + 1) (enb y) = v := ⟨_, rfl⟩
  rw [hv] at hnv ⊢
  have hfs := h.1
  subst hfs
  have h353 : ∀ (s34 s35 : Int64), s34 = jI (en y v) → s35 = jI (eo y v) → ¬ e < p + 1 + enb y → ok (m_Mo_readElements_J353 (iI e) (iI l0) 4000 mif 28000 (jI T) ff cc ll pp (iI p) (iI o.length) (iI ((y % 4 : Nat) : Int)) (iI ((p + 1 + enb y : Nat) : Int)) s34 s35) (Pte inp o (oe e o.length l0 (l0 + T) p y v) (iI o.length) cc ll pp ff) := by
    rintro s34 s35 rfl rfl c1
    have hen : en y v ≤ 5000000000 := by
      unfold en
      split
      · split <;> omega
      · split <;> omega
    have heo : eo y v ≤ 5000000000 := by
      unfold eo
      split <;> omega
    unfold m_Mo_readElements_J353 m_Mo_no oe
    rw [if_neg c1, iI_sub, iI_j (by omega), jI_add, lg_le (by omega) (by omega)]
    by_cases d1 : l0 + T < o.length + en y v
    · rw [if_pos d1, if_neg (show ¬ (o.length : Int) - (l0 : Int) + (en y v : Int) ≤ (T : Int) by omega), Option.bind_some]
      dsimp only
      rw [bch0]
      exact ok_some (Pte.bad (r := 14) ⟨by decide, by decide⟩)
    · rw [if_neg d1, if_pos (show (o.length : Int) - (l0 : Int) + (en y v : Int) ≤ (T : Int) by omega), bnd_eq]
      by_cases k0 : y % 4 = 0
      · rw [if_pos k0, if_eq0T (by omega) (by omega), iI_sub, iI_j (by omega), lg_ge (by omega) (by omega)]
        by_cases d2 : e < p + 1 + enb y + en y v
        · rw [if_pos d2, if_neg (show ¬ (en y v : Int) ≤ (e : Int) - ((p + 1 + enb y : Nat) : Int) by omega), Option.bind_some]
          dsimp only
          rw [bch0]
          exact ok_some (Pte.bad (r := 1) ⟨by decide, by decide⟩)
        · rw [if_neg d2, if_pos (show (en y v : Int) ≤ (e : Int) - ((p + 1 + enb y : Nat) : Int) by omega), bnd_eq, jI_i]
          refine ok_bind (t_litE b2 i4 h (q := p + 1 + enb y) (n := en y v) (by omega) (by omega)) ?_
          rintro ⟨w1, w2, w3⟩ ⟨hw, hw2⟩
          dsimp only at hw hw2 ⊢
          subst hw2
          unfold m_Mo_readElements_E468
          exact ok_some ⟨fun r pl z => (by cases z), fun q n z => (by cases z; exact ⟨_, _, rfl, hw⟩), fun q n off z => (by cases z)⟩
      · rw [if_neg k0, if_eq0F (by omega) (by omega), show (0 : Int64) = jI 0 from rfl, lg_eq (by omega) (by omega), lg_le (by omega) (by omega)]
        by_cases d2 : eo y v = 0
        · rw [if_pos (Or.inl d2), if_pos (show (eo y v : Int) = 0 by omega)]
          exact ok_some Pte.bad2
        · rw [if_neg (show ¬ (eo y v : Int) = 0 by omega)]
          by_cases d3 : o.length - l0 < eo y v
          · rw [if_pos (Or.inr d3), if_neg (show ¬ (eo y v : Int) ≤ (o.length : Int) - (l0 : Int) by omega)]
            exact ok_some Pte.bad2
          · rw [if_neg (show ¬ (eo y v = 0 ∨ o.length - l0 < eo y v) by omega), if_pos (show (eo y v : Int) ≤ (o.length : Int) - (l0 : Int) by omega), bnd_eq]
            refine ok_bind (t_copyE h (off := eo y v) (n := en y v) (by omega) (by omega) (by omega)) ?_
            rintro ⟨w1, w2⟩ hw
            dsimp only at hw ⊢
            unfold m_Mo_readElements_E544
            exact ok_some ⟨fun r pl z => (by cases z), fun q n z => (by cases z), fun q n off z => (by cases z; exact ⟨_, _, rfl, hw⟩)⟩
  have h236 : ok (m_Mo_readElements_J236 (iI e) (iI l0) 4000 mif 28000 (jI T) ff cc ll pp (iI p) (iI o.length) (iI ((y % 4 : Nat) : Int)) (iI ((y / 4 : Nat) : Int)) (iI ((p + 1 : Nat) : Int)) (iI (enb y))) (Pte inp o (oe e o.length l0 (l0 + T) p y v) (iI o.length) cc ll pp ff) := by
    unfold m_Mo_readElements_J236 m_Mo_readElements_J328 m_Mo_no
    rw [iI_sub]
    by_cases c1 : e < p + 1 + enb y
    · rw [if_leF (by omega) (by omega) (by omega), Option.bind_some]
      dsimp only
      rw [bch0]
      unfold oe
      rw [if_pos c1]
      exact ok_some (Pte.bad (r := 1) ⟨by decide, by decide⟩)
    · rw [if_leT (by omega) (by omega) (by omega), t_number b2 hy (by omega) i4 (by omega) (by omega), Option.bind_some, hv, bnd_eq, iI_add, show ((p + 1 : Nat) : Int) + (enb y : Int) = ((p + 1 + enb y : Nat) : Int) by omega]
      by_cases k0 : y % 4 = 0
      · have q1 : ¬ iI ((y % 4 : Nat) : Int) = (1 : Int32) := by rw [lit_1, iI_eq (by omega) (by omega)]; omega
        have he0 : eo y v = v := by unfold eo; rw [if_neg (by omega)]
        rw [if_eq0T (by omega) (by omega), if_neg q1, if_neg q1, lit_60]
        by_cases k1 : y / 4 < 60
        · rw [if_leF (by omega) (by omega) (by omega), iI_j (by omega), j_1, jI_add]
          refine h353 _ _ ?_ (by rw [he0]) c1
          unfold en
          rw [if_pos k0, if_pos k1]
          congr 1
        · rw [if_leT (by omega) (by omega) (by omega), j_1, jI_add]
          refine h353 _ _ ?_ (by rw [he0]) c1
          unfold en
          rw [if_pos k0, if_neg k1]
          congr 1
      · rw [if_eq0F (by omega) (by omega)]
        by_cases k1 : y % 4 = 1
        · have q1 : iI ((y % 4 : Nat) : Int) = (1 : Int32) := by rw [k1]; rfl
          rw [if_pos q1, if_pos q1, and7' _ (by omega), ishr3 _ (by omega), lit_4, iI_add, iI_j (by omega), iI_j (by omega), show (256 : Int64) = jI 256 from rfl, jI_mul, jI_add]
          refine h353 _ _ ?_ ?_ c1
          · unfold en
            rw [if_neg k0, if_pos k1]
            congr 1
          · unfold eo
            rw [if_pos k1]
            congr 1
            omega
        · have q1 : ¬ iI ((y % 4 : Nat) : Int) = (1 : Int32) := by rw [lit_1, iI_eq (by omega) (by omega)]; omega
          rw [if_neg q1, if_neg q1, iI_j (by omega), j_1, jI_add]
          refine h353 _ _ ?_ ?_ c1
          · unfold en
            rw [if_neg k0, if_neg k1]
            congr 1
          · unfold eo
            rw [if_neg k1]
  unfold m_Mo_readElements_B157
  rw [if_leF (by omega) (by omega) (by omega), chk_iI (by omega) (by omega), iI_clamp (by omega) (by omega), Int.toNat_natCast, t_byteAt b2 (by omega), hyy, and3' y hlt, ishr2 y hlt]
  simp only [bnd_eq]
  rw [chk_iI (by omega) (by omega), lit_1, iI_add, show (p : Int) + 1 = ((p + 1 : Nat) : Int) by omega]
  by_cases k0 : y % 4 = 0
  · rw [if_eq0T (by omega) (by omega), lit_59, iI_sub, lit_0, t_great (by omega) (by omega), Option.bind_some, show max (0 : Int) (((y / 4 : Nat) : Int) - 59) = ((enb y : Nat) : Int) by unfold enb; rw [if_pos k0]; omega]
    exact h236
  · rw [if_eq0F (by omega) (by omega)]
    by_cases k3 : y % 4 = 3
    · rw [if_pos (by rw [k3]; rfl)]
      have e1 : enb y = 4 := by unfold enb; rw [if_neg k0, if_pos k3]
      rw [e1] at h236
      exact h236
    · rw [if_neg (by rw [lit_3, iI_eq (by omega) (by omega)]; omega)]
      have e1 : enb y = y % 4 := by unfold enb; rw [if_neg k0, if_neg k3]
      rw [e1] at h236
      exact h236
def Ioe (e p0 l0 T : Nat) (b0 ba0 : Int32) (k : Nat) (s : (Nat → Int32) × Int32 × Int32 × Int32 × Int32 × Int32 × Int32 × Int32 × Int32) (t : (Nat → Int32) × Int32 × Int32 × Int32 × Int32 × Int32) : Prop := ∃ (p : Nat) (o : List Int), s.2.2.2.2.2.2.1 = iI p ∧ t.2.2.2.2.1 = iI p ∧ p0 + k ≤ p ∧ p ≤ e ∧ s.2.2.2.2.2.2.2.2 = iI k ∧ BR 12000 s.2.2.2.2.2.2.2.1 s.1 o ∧ MR t.2.2.2.2.2 t.1 o ∧ l0 ≤ o.length ∧ o.length ≤ l0 + T ∧ s.2.1 = t.2.1 ∧ s.2.2.1 = t.2.2.1 ∧ s.2.2.2.1 = t.2.2.2.1 ∧ s.2.2.2.2.1 = b0 ∧ s.2.2.2.2.2.1 = ba0
theorem sh7 : ∀ j : Nat, j < 5 → ((((7 : Int32) * iI j).toInt64 &&& 63).toBitVec.smod 64).toNat = 7 * j := by decide +kernel
theorem and127 : ∀ z : Nat, z < 256 → iI z &&& 127 = iI ((z % 128 : Nat) : Int) := by decide +kernel
theorem op_el {inp o0 : List Int} {iF mif tf ff : Nat → Int32} {tc fs b0 ba0 r0 pl0 : Int32} (b1 : BR 4000 (iI inp.length) iF inp) (b2 : MR (iI inp.length) mif inp) (h : BR 12000 tc tf o0) (hm : MR fs ff o0) {p0 e : Nat} (hp0 : p0 ≤ e) (he : e ≤ inp.length) : ok2 (m_Opener_openElements b0 ba0 (iI p0) (iI e) tc (iI inp.length) 4000 iF 12000 tf) (m_Mo_readElements (iI e) fs r0 pl0 (iI p0) 4000 mif 28000 ff) (RSQ e o0.length tc b0 ba0 r0 pl0) := by
  have i4 := b1.2.1
  have o4 := h.2.1
  have hy := b1.by
  have htc := h.1
  have hfs := hm.1
  subst htc hfs
  unfold m_Opener_openElements m_Mo_readElements m_Opener_beginBlock m_Bytes_size
  rw [Option.bind_some, Option.bind_some]
  dsimp only
  refine ok2_bindK ?_
  refine ok2_loop (fun j s t => ∃ (p T l : Nat), s = (iI p, jI T, iI l, iI j) ∧ t = (iI p, jI T, iI j, iI l) ∧ j ≤ 5 ∧ p = p0 + j ∧ p ≤ e ∧ T < 2 ^ (7 * j) ∧ l < 256) 5 (by omega) ⟨p0, 0, 128, rfl, rfl, by omega, by omega, hp0, by decide, by omega⟩ ?_
  rintro j s t hj ⟨p, T, l, rfl, rfl, j5, hp, hpe, hT, hl⟩
  have hT35 : 2 ^ (7 * j) ≤ 2 ^ 35 := Nat.pow_le_pow_right (by decide) (by omega)
  rw [show 2 ^ 35 = 34359738368 by decide] at hT35
  unfold m_Opener_openElements_B19 m_Mo_readElements_B36 m_Mo_no m_Opener_breaks
  dsimp only
  by_cases cl : l < 128
  · have hmain : ok2 (m_Opener_openElements_E96 b0 ba0 (iI p0) (iI e) (iI o0.length) (iI inp.length) 4000 iF 12000 tf (iI o0.length) 0 0 0 (iI p) (jI T) (iI l)) (m_Mo_readElements_E117 (iI e) (iI o0.length) r0 pl0 (iI p0) 4000 mif 28000 ff (iI p) (jI T)) (RSQ e o0.length (iI o0.length) b0 ba0 r0 pl0) := by
      unfold m_Opener_openElements_E96 m_Mo_readElements_E117 m_Opener_openElements_J112 m_Mo_no m_Opener_breaks
      rw [lit_128, if_leF (by omega) (by omega) (by omega), show (4294967295 : Int64) = jI 4294967295 from rfl, lg_le (by omega) (by omega), lg_le (by omega) (by omega)]
      by_cases c1 : T ≤ 4294967295
      · rw [if_pos (show (T : Int) ≤ 4294967295 by omega), if_pos (show (T : Int) ≤ 4294967295 by omega), s_isOver (by omega) (by omega), Option.bind_some, iI_j (by omega), jI_add, show (12000 : Int64) = jI 12000 from rfl, lg_le (by omega) (by omega)]
        by_cases c2 : (o0.length : Int) + (T : Int) ≤ 12000
        · rw [if_pos c2, if_pos rfl, if_pos c2, bnd_eq, jI_i, iI_add, show (o0.length : Int) + (T : Int) = ((o0.length + T : Nat) : Int) by omega]
          refine ok2_bindK ?_
          refine ok2_loop (Ioe e p0 o0.length T b0 ba0) 4000 (by omega) ⟨p, o0, rfl, rfl, by omega, hpe, rfl, h, hm, Nat.le_refl _, by omega, rfl, rfl, rfl, rfl, rfl⟩ ?_
          rintro k ⟨s0, s1, s2, s3, s4, s5, s6, s7, s8⟩ ⟨t0, t1, t2, t3, t4, t5⟩ hk ⟨q, o, e1, e2, e3, e4, e5, e6, e7, e8, e9, e10, e11, e12, e13, e14⟩
          dsimp only at e1 e2 e5 e6 e7 e10 e11 e12 e13 e14
          subst e1 e2 e5 e10 e11 e12 e13 e14
          have ht7 := e6.1
          have ht5 := e7.1
          subst ht7 ht5
          by_cases cq : e ≤ q
          · have hqe : q = e := by omega
            unfold m_Opener_openElements_B148 m_Mo_readElements_B157
            dsimp only
            rw [if_leT (by omega) (by omega) (by omega)]
            have hfin : ok2 (m_Opener_openElements_E184 (iI e) (iI o0.length) (iI ((o0.length + T : Nat) : Int)) s0 s1 s2 s3 s4 s5 (iI q) (iI o.length)) (m_Mo_readElements_E547 (iI e) (iI o0.length) r0 pl0 (jI T) t0 s1 s2 s3 (iI q) (iI o.length)) (RSQ e o0.length (iI o0.length) s4 s5 r0 pl0) := by
              unfold m_Opener_openElements_E184 m_Mo_readElements_E547 m_Mo_no m_Opener_breaks m_Bytes_size
              rw [Option.bind_some, iI_sub, iI_j (by omega), lg_eq (by omega) (by omega)]
              by_cases cg : o.length = o0.length + T
              · rw [if_eqT (by omega) (by omega) (by omega), if_pos (show (o.length : Int) - (o0.length : Int) = (T : Int) by omega)]
                exact ok2_some (Or.inl ⟨rfl, rfl, o, e6, e7, e8, by rw [hqe], by rw [hqe], rfl, rfl, rfl, rfl, rfl, rfl, rfl, rfl⟩)
              · rw [if_eqF (by omega) (by omega) (by omega), if_neg (show ¬ (o.length : Int) - (o0.length : Int) = (T : Int) by omega), Option.bind_some, Option.bind_some]
                dsimp only
                rw [if_pos rfl, if_pos rfl]
                exact ok2_some (Or.inr ⟨rfl, rfl, ⟨rfl, rfl, nz14⟩, o, e6⟩)
            by_cases c4 : 4000 ≤ k
            · rw [lit_4000, if_leT (by omega) (by omega) (by omega), if_leT (by omega) (by omega) (by omega)]
              refine ok2_end ?_
              exact hfin
            · rw [lit_4000, if_leF (by omega) (by omega) (by omega), if_leT (by omega) (by omega) (by omega)]
              refine ok2_end ?_
              exact hfin
          · refine ok2_e (t_element b2 hy i4 e7 (p := q) (e := e) (l0 := o0.length) (T := T) (by omega) he e8 (by omega) (by omega)) ?_
            rintro z ⟨z1, z2, z3⟩
            unfold m_Opener_openElements_B148
            dsimp only
            rw [lit_4000, if_leF (by omega) (by omega) (by omega), if_leF (by omega) (by omega) (by omega)]
            refine ok2_l (s_element b1 e6 (p := q) (e := e) (l0 := o0.length) (G := o0.length + T) (by omega) he e8 (by omega)) ?_
            rintro ⟨r34, u35, u36, u37, u38, u39, u40, u41, u42⟩ ⟨x1, x2, x3⟩
            dsimp only at x1 x2 x3 ⊢
            rcases hoe : oe e o.length o0.length (o0.length + T) q (by_ inp q) (nv inp (q + 1) (enb (by_ inp q))) with ⟨r, pl⟩ | ⟨q2, n⟩ | ⟨q2, n, off⟩
            · obtain ⟨y1, y2, y3, y4⟩ := x1 r pl hoe
              subst y1 y2 y3
              rw [if_pos rfl]
              rcases z1 r pl hoe with ⟨w1, v1, v2, v3, v4, v5, v6, rfl⟩ | ⟨w1, w2, v1, v2, v3, v4, v5, v6, rfl⟩
              · subst w1
                refine ok2_end ?_
                dsimp only
                unfold m_Mo_readElements_E491 m_Mo_no
                rw [Option.bind_some]
                dsimp only
                rw [bch0]
                exact ok2_some (Or.inr ⟨rfl, rfl, ⟨rfl, rfl, nz2⟩, o, y4⟩)
              · refine ok2_end ?_
                dsimp only
                exact ok2_some (Or.inr ⟨rfl, rfl, ⟨rfl, rfl, by show ¬ iI (r : Int) = 0; rw [iI_eq0 (by omega)]; omega⟩, o, y4⟩)
            · obtain ⟨y1, y2, y3, y4, y5, y6, y7, y8⟩ := x2 q2 n hoe
              obtain ⟨f', c', rfl, hz⟩ := z2 q2 n hoe
              subst y1 y2 y3 y4 y5 y6 y7
              have hb : q + 1 ≤ q2 ∧ q2 + n ≤ e ∧ o.length + n ≤ o0.length + T := by
                have hep := en_pos (by_ inp q) (nv inp (q + 1) (enb (by_ inp q)))
                unfold oe at hoe
                repeat' split at hoe
                all_goals first | (cases hoe; omega) | cases hoe
              rw [if_neg (show ¬ (1 : Int32) = 0 by decide), bnd_eq, lit_1, iI_add]
              refine ok2_go ⟨k + 1, by omega, by omega, q2 + n, _, rfl, rfl, by omega, hb.2.1, rfl, y8, hz, ?_, ?_, rfl, rfl, rfl, rfl, rfl⟩
              · rw [List.length_append]
                omega
              · rw [List.length_append, List.length_take]
                omega
            · obtain ⟨y1, y2, y3, y4, y5, y6, y7, y8⟩ := x3 q2 n off hoe
              obtain ⟨f', c', rfl, hz⟩ := z3 q2 n off hoe
              subst y1 y2 y3 y4 y5 y6 y7
              have hb : q + 1 ≤ q2 ∧ q2 ≤ e ∧ o.length + n ≤ o0.length + T := by
                unfold oe at hoe
                repeat' split at hoe
                all_goals first | (cases hoe; omega) | cases hoe
              have hcl := cl_len [] 0 off o n
              rw [if_neg (show ¬ (1 : Int32) = 0 by decide), bnd_eq, lit_1, iI_add]
              exact ok2_go ⟨k + 1, by omega, by omega, q2, _, rfl, rfl, by omega, hb.2.1, rfl, y8, hz, by omega, by omega, rfl, rfl, rfl, rfl, rfl⟩
        · rw [if_neg c2, if_neg (show ¬ (1 : Int32) = 0 by decide), if_neg c2, Option.bind_some, Option.bind_some]
          dsimp only
          rw [bch0, bch0]
          exact ok2_some (Or.inr ⟨rfl, rfl, ⟨rfl, rfl, nz12⟩, o0, h⟩)
      · rw [if_neg (show ¬ (T : Int) ≤ 4294967295 by omega), if_neg (show ¬ (T : Int) ≤ 4294967295 by omega), Option.bind_some, Option.bind_some]
        dsimp only
        rw [bch0, bch0]
        exact ok2_some (Or.inr ⟨rfl, rfl, ⟨rfl, rfl, nz13⟩, o0, h⟩)
    rw [lit_128, if_ltT (by omega) (by omega) (by omega), if_ltT (by omega) (by omega) (by omega)]
    by_cases c5 : 5 ≤ j
    · rw [lit_5, if_leT (by omega) (by omega) (by omega)]
      refine ok2_end ?_
      exact hmain
    · rw [lit_5, if_leF (by omega) (by omega) (by omega)]
      refine ok2_end ?_
      exact hmain
  · rw [lit_128, if_ltF (by omega) (by omega) (by omega), if_ltF (by omega) (by omega) (by omega), lit_5]
    by_cases c5 : j = 5
    · rw [if_leT (by omega) (by omega) (by omega), if_eqT (by omega) (by omega) (by omega), Option.bind_some]
      dsimp only
      rw [bch0]
      refine ok2_end ?_
      dsimp only
      unfold m_Opener_openElements_E96 m_Opener_openElements_J112 m_Opener_breaks
      rw [lit_128, if_leT (by omega) (by omega) (by omega), Option.bind_some]
      dsimp only
      rw [bch0]
      exact ok2_some (Or.inr ⟨rfl, rfl, ⟨rfl, rfl, nz13⟩, o0, h⟩)
    · rw [if_leF (by omega) (by omega) (by omega), if_eqF (by omega) (by omega) (by omega), lit_1, s_lacks (by omega) (by omega) (by omega), Option.bind_some]
      by_cases ce : e ≤ p
      · rw [if_neg (show ¬ (1 : Int) ≤ (e : Int) - (p : Int) by omega), if_neg (show ¬ (1 : Int32) = 0 by decide), if_ltF (by omega) (by omega) (by omega), Option.bind_some, Option.bind_some]
        dsimp only
        rw [show iI 1 = (1 : Int32) from rfl, bch0, bch0]
        refine ok2_end ?_
        dsimp only
        exact ok2_some (Or.inr ⟨rfl, rfl, ⟨rfl, rfl, nz1⟩, o0, h⟩)
      · have hlt := hy.lt p
        have hj7 : 2 ^ (7 * (j + 1)) = 128 * 2 ^ (7 * j) := by rw [show 7 * (j + 1) = 7 * j + 7 by omega, Nat.pow_add]; omega
        have hm : by_ inp p % 128 * 2 ^ (7 * j) ≤ 127 * 2 ^ (7 * j) := Nat.mul_le_mul_right _ (by omega)
        rw [if_pos (show (1 : Int) ≤ (e : Int) - (p : Int) by omega), if_pos rfl, if_ltT (by omega) (by omega) (by omega), s_byteAt b1 (by omega) (by omega), Option.bind_some, chk_iI (by omega) (by omega), iI_clamp (by omega) (by omega), Int.toNat_natCast, t_byteAt b2 (by omega)]
        simp only [bnd_eq]
        rw [and127 _ hlt, iI_rem (by omega) (by omega), show (by_ inp p : Int) % 128 = ((by_ inp p % 128 : Nat) : Int) by omega, iI_j (by omega), jI_shl _ _ _ (sh7 j (by omega)), show ((by_ inp p % 128 : Nat) : Int) * 2 ^ (7 * j) = ((by_ inp p % 128 * 2 ^ (7 * j) : Nat) : Int) by rw [Int.natCast_mul, Int.natCast_pow]; rfl, jI_orc hT (by omega), jI_add, iI_add, iI_add]
        exact ok2_go ⟨j + 1, by omega, by omega, p + 1, T + by_ inp p % 128 * 2 ^ (7 * j), by_ inp p, rfl, rfl, by omega, by omega, by omega, by omega, hlt⟩
