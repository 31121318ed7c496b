/-! sequences: both sides -/
theorem lit_12000 : (12000 : Int32) = iI 12000 := by decide
theorem nz1 : (1 : Int32) ≠ 0 := by decide
theorem nz2 : (2 : Int32) ≠ 0 := by decide
theorem nz3 : (3 : Int32) ≠ 0 := by decide
theorem nz4 : (4 : Int32) ≠ 0 := by decide
theorem nz5 : (5 : Int32) ≠ 0 := by decide
theorem nz6 : (6 : Int32) ≠ 0 := by decide
theorem nz7 : (7 : Int32) ≠ 0 := by decide
theorem nz8 : (8 : Int32) ≠ 0 := by decide
theorem nz9 : (9 : Int32) ≠ 0 := by decide
theorem nz10 : (10 : Int32) ≠ 0 := by decide
theorem nz11 : (11 : Int32) ≠ 0 := by decide
theorem nz12 : (12 : Int32) ≠ 0 := by decide
theorem nz13 : (13 : Int32) ≠ 0 := by decide
theorem nz14 : (14 : Int32) ≠ 0 := by decide
theorem nz15 : (15 : Int32) ≠ 0 := by decide
theorem op_seq {inp dic o0 : List Int} {iF wF mif mdf tf ff : Nat → Int32} {tc fs b0 ba0 r0 pl0 : Int32} (b1 : BR 4000 (iI inp.length) iF inp) (b2 : MR (iI inp.length) mif inp) (b3 : BR 1000 (iI dic.length) wF dic) (b4 : MR (iI dic.length) mdf dic) (h : BR 12000 tc tf o0) (hm : MR fs ff o0) {p0 e lo : Nat} (hp0 : p0 ≤ e) (he : e ≤ inp.length) (hlo : lo ≤ o0.length) : ok2 (m_Opener_openSequences (iI lo) b0 ba0 (iI p0) (iI e) tc (iI inp.length) 4000 iF 12000 tf (iI dic.length) 1000 wF) (m_Mo_readSequences (iI e) (iI lo) (iI dic.length) fs r0 pl0 (iI p0) 4000 mif 28000 ff 1000 mdf) (RSQ e o0.length tc b0 ba0 r0 pl0) := by
  have i4 := b1.2.1
  have d4 := b3.2.1
  have hy := b1.by
  unfold m_Opener_openSequences m_Mo_readSequences m_Opener_beginBlock m_Bytes_size
  rw [Option.bind_some, Option.bind_some]
  dsimp only
  refine ok2_bindK ?_
  refine ok2_loop (Ios e p0 o0.length b0 ba0) 4000 (by omega) ⟨p0, 0, o0, rfl, rfl, Nat.le_refl _, hp0, rfl, h, hm, Nat.le_refl _, rfl, rfl, Nat.le_refl _, rfl, rfl, rfl, rfl, Or.inl ⟨rfl, rfl⟩⟩ ?_
  rintro k ⟨s0, s1, s2, s3, s4, s5, s6, s7, s8, s9⟩ ⟨t0, t1, t2, t3, t4, t5, t6⟩ hk ⟨p, c, o, e1, e2, e3, e4, e5, e6, e7, e8, e9, e10, e11, e12, e13, e14, e15, e16⟩
  dsimp only at e1 e2 e5 e6 e7 e9 e10 e12 e13 e14 e15 e16
  subst e1 e2 e5 e9 e10 e12 e13 e14 e15
  have ho := e6.2.1
  have htc := e6.1
  have hfs := e7.1
  subst htc hfs
  unfold m_Opener_openSequences_B8 m_Mo_readSequences_B23 m_Mo_no
  dsimp only
  by_cases cp : e ≤ p
  · rw [if_ltF (by omega) (by omega) (by omega), Option.bind_some]
    dsimp only
    rw [bch0]
    by_cases c4 : 4000 ≤ k
    · rw [lit_4000, if_leT (by omega) (by omega) (by omega)]
      refine ok2_end ?_
      dsimp only
      unfold m_Opener_openSequences_E229 m_Opener_breaks
      rw [Option.bind_some]
      dsimp only
      rw [bch0]
      exact ok2_some (Or.inr ⟨rfl, rfl, ⟨rfl, rfl, nz1⟩, o, e6⟩)
    · rw [lit_4000, if_leF (by omega) (by omega) (by omega), if_leT (by omega) (by omega) (by omega)]
      refine ok2_end ?_
      dsimp only
      unfold m_Opener_openSequences_E229 m_Opener_breaks
      rw [Option.bind_some]
      dsimp only
      rw [bch0]
      exact ok2_some (Or.inr ⟨rfl, rfl, ⟨rfl, rfl, nz1⟩, o, e6⟩)
  · have hlt := hy.lt p
    obtain ⟨tok, htok⟩ : ∃ tok, by_ inp p = tok := ⟨_, rfl⟩
    rw [htok] at hlt
    rw [if_ltT (by omega) (by omega) (by omega), lit_4000, if_leF (by omega) (by omega) (by omega), if_leF (by omega) (by omega) (by omega), s_byteAt b1 (by omega) (by omega), Option.bind_some, chk_iI (by omega) (by omega), iI_clamp (by omega) (by omega), Int.toNat_natCast, t_byteAt b2 (by omega), htok, ishr4 tok hlt, bnd_eq, bnd_eq, chk_iI (by omega) (by omega), and15, bnd_eq, bnd_eq, lit_1, iI_add, lit_16, iI_div (by omega) (by omega), show (tok : Int) / 16 = ((tok / 16 : Nat) : Int) by omega, iI_rem (by omega) (by omega), show (tok : Int) % 16 = ((tok % 16 : Nat) : Int) by omega, show (p : Int) + 1 = ((p + 1 : Nat) : Int) by omega]
    obtain ⟨tn1, htn1, tl1⟩ : ∃ a, tok / 16 = a ∧ a ≤ 15 := ⟨_, rfl, by omega⟩
    obtain ⟨m, hm1, ml1⟩ : ∃ a, tok % 16 = a ∧ a ≤ 15 := ⟨_, rfl, by omega⟩
    rw [htn1, hm1]
    refine ok2_l (s_withAdded b1 (by omega) (show p + 1 ≤ e by omega) tl1) ?_
    rintro ⟨a1, a2⟩ ha
    dsimp only at ha ⊢
    refine ok_w1 b2 hy i4 he (show p + 1 ≤ e by omega) tl1 t0 (iI c) s2 s3 (iI o.length) (m_Mo_readSequences_J147 (iI e) (iI lo) (iI dic.length) 4000 mif 28000 1000 mdf t0 (iI c) s2 s3 (iI p) (iI o.length) t6 (iI m)) (fun a b => rfl) ?_ ?_
    · intro q n hwa
      obtain ⟨ha1, ha2⟩ : a1 = iI n ∧ a2 = iI q := by
        rcases ha with ⟨q', n', h1, h2, h3⟩ | ⟨h1, _⟩
        · rw [hwa] at h1
          cases h1
          exact ⟨h2, h3⟩
        · rw [hwa] at h1
          cases h1
      subst ha1 ha2
      have hq := wa_in hy (by omega) hwa
      unfold m_Mo_readSequences_J147 m_Mo_no
      rw [if_lt0F (by omega) (by omega), s_lacks (by omega) (by omega) (by omega), Option.bind_some, iI_sub]
      by_cases cl1 : (n : Int) ≤ (e : Int) - (q : Int)
      · rw [if_pos cl1, if_pos rfl, if_leT (by omega) (by omega) cl1, iI_j (by omega), s_isOver (by omega) (by omega), Option.bind_some, iI_add (o.length : Int) (n : Int), lit_12000]
        by_cases cl2 : (o.length : Int) + (n : Int) ≤ 12000
        · rw [if_pos cl2, if_pos rfl, if_leT (by omega) (by omega) cl2]
          refine ok2_l (s_addRange e6 b1 (by omega) (by omega) (p := q) (n := n) (by omega) (by omega)) ?_
          rintro ⟨u59, u60⟩ hu
          dsimp only at hu ⊢
          simp only [bnd_eq]
          refine ok2_r (t_lit b2 i4 e7 (q := q) (n := n) (by omega) (by omega)) ?_
          rintro ⟨w1, w2, w3⟩ ⟨hw, hw2⟩
          dsimp only at hw hw2 ⊢
          subst hw2
          have hol : (o ++ (inp.drop q).take n).length = o.length + n := by rw [List.length_append, List.length_take, List.length_drop]; omega
          have hu1 := hu.1
          have hw1 := hw.1
          have huo := hu.2.1
          rw [hol] at hu1 hw1 huo
          subst hu1 hw1
          generalize hoo : o ++ (inp.drop q).take n = o' at hu hw hol
          rw [iI_add, show (q : Int) + (n : Int) = ((q + n : Nat) : Int) by omega]
          by_cases cl3 : q + n = e
          · unfold m_Mo_readSequences_E247
            rw [if_eqT (by omega) (by omega) (by omega), if_eqT (by omega) (by omega) (by omega)]
            refine ok2_end ?_
            dsimp only
            unfold m_Opener_openSequences_E167 m_Mo_readSequences_E255 m_Mo_readSequences_J290 m_Mo_no m_Opener_breaks
            rw [lit_16, iI_rem (by omega) (by omega), show (tok : Int) % 16 = ((m : Nat) : Int) by omega, s_endsWell (by omega) ml1 (by omega)]
            have hbad : ok2 (some ((0 : Int32), (3 : Int32), iI (p : Int), iI ((q + n : Nat) : Int), tc, iI (c : Int), s2 + iI (n : Int), s3 + iI 1, iI ((o.length + n : Nat) : Int), u60)) (some ((0 : Int32), iI ((o.length + n : Nat) : Int), iI (c : Int), s2 + iI (n : Int), s3 + iI 1, (3 : Int32), iI (p : Int), iI ((q + n : Nat) : Int), w1)) (RSQ e o0.length tc s4 s5 r0 pl0) := ok2_some (Or.inr ⟨rfl, rfl, ⟨rfl, rfl, nz3⟩, o', hu⟩)
            have hgood : ok2 (some ((1 : Int32), s4, s5, iI ((q + n : Nat) : Int), tc, iI (c : Int), s2 + iI (n : Int), s3 + iI 1, iI ((o.length + n : Nat) : Int), u60)) (some ((1 : Int32), iI ((o.length + n : Nat) : Int), iI (c : Int), s2 + iI (n : Int), s3 + iI 1, r0, pl0, iI ((q + n : Nat) : Int), w1)) (RSQ e o0.length tc s4 s5 r0 pl0) := ok2_some (Or.inl ⟨rfl, rfl, o', hu, hw, by omega, by rw [cl3], by rw [cl3], rfl, rfl, rfl, rfl, rfl, rfl, rfl, rfl⟩)
            by_cases cm : m = 0
            · rw [if_pos cm, if_eq0T (by omega) (by omega)]
              rcases e16 with ⟨c0, rfl⟩ | ⟨c0, lc, rfl, rfl, hlc⟩
              · rw [if_lt0T (by omega) (by omega), Option.bind_some, if_neg (show ¬ (1 : Int32) = 0 by decide), if_eq0T (by omega) (by omega), if_neg (show ¬ (1 : Int32) = 0 by decide)]
                exact hgood
              · rw [if_lt0F (by omega) (by omega), if_eq0F (by omega) (by omega)]
                by_cases c5 : n < 5
                · rw [if_pos c5, Option.bind_some, if_pos rfl, Option.bind_some, lit_5, if_ltT (by omega) (by omega) (by omega), if_pos rfl, Option.bind_some]
                  exact hbad
                · rw [if_neg c5, lit_5, if_ltF (by omega) (by omega) (by omega), iI_sub, lit_12]
                  by_cases c12 : ((o.length + n : Nat) : Int) - (lc : Int) < 12
                  · rw [if_ltT (by omega) (by omega) c12, if_ltT (by omega) (by omega) c12, Option.bind_some, if_pos rfl, Option.bind_some, if_pos rfl, Option.bind_some]
                    exact hbad
                  · rw [if_ltF (by omega) (by omega) c12, if_ltF (by omega) (by omega) c12, Option.bind_some, if_neg (show ¬ (1 : Int32) = 0 by decide), if_neg (show ¬ (1 : Int32) = 0 by decide)]
                    exact hgood
            · rw [if_neg cm, if_eq0F (by omega) (by omega), Option.bind_some, if_pos rfl, Option.bind_some, if_pos rfl, Option.bind_some]
              exact hbad
          · unfold m_Bytes_size
            rw [if_eqF (by omega) (by omega) (by omega), Option.bind_some]
            refine ok2_l (s_openCopy (p := p) (A := q + n) (lo := lo) (m := m) b1 b3 hu (by omega) he (by omega) ml1) ?_
            rintro ⟨r65, u66, u67, u68, u69, u70, u71⟩ ⟨y1, y2⟩
            dsimp only at y1 y2 ⊢
            refine ok2_e (t_openCopy (p := p) (A := q + n) (lo := lo) (m := m) b2 hy i4 b4 d4 hw (by omega) he (by omega) (by omega) ml1) ?_
            rintro z ⟨z1, z2⟩
            rcases hoc : oc inp dic.length o'.length lo e (q + n) m p with ⟨r, pl⟩ | ⟨q2, off, w⟩
            · obtain ⟨x1, x2, x3, x4⟩ := y1 r pl hoc
              subst x1 x2 x3
              rw [if_pos rfl]
              rcases z1 r pl hoc with ⟨v1, v2, rfl⟩ | ⟨v1, v2, x, rfl⟩
              · subst v1 v2
                refine ok2_end ?_
                dsimp only
                unfold m_Mo_readSequences_E363 m_Mo_no
                rw [Option.bind_some]
                dsimp only
                rw [bch0]
                exact ok2_some (Or.inr ⟨rfl, rfl, ⟨rfl, rfl, nz2⟩, o', x4⟩)
              · refine ok2_end ?_
                dsimp only
                exact ok2_some (Or.inr ⟨rfl, rfl, ⟨rfl, rfl, by show ¬ iI (r : Int) = 0; rw [iI_eq0 (by omega)]; omega⟩, o', x4⟩)
            · obtain ⟨x1, x2, x3, x4, x5, x6⟩ := y2 q2 off w hoc
              obtain ⟨f', c', rfl, hz⟩ := z2 q2 off w hoc
              subst x1 x2 x3 x4 x5
              have hq2 : q + n + 2 ≤ q2 ∧ q2 ≤ e := by
                unfold oc at hoc
                split at hoc
                · cases hoc
                · split at hoc
                  · cases hoc
                  · rcases hw3 : wa inp e (q + n + 2) m with _ | ⟨a, b⟩
                    · rw [hw3] at hoc
                      cases hoc
                    · rw [hw3] at hoc
                      dsimp only [Option.elim] at hoc
                      split at hoc
                      · cases hoc
                      · cases hoc
                        have := wa_in hy (by omega) hw3
                        omega
              have hcl := cl_len dic lo off o' (w + 4)
              rw [if_neg (show ¬ (1 : Int32) = 0 by decide), iI_add]
              refine ok2_go ⟨k + 1, by omega, by omega, q2, c + 1, _, rfl, rfl, by omega, hq2.2, rfl, x6, hz, by omega, ?_, ?_, by omega, rfl, rfl, rfl, rfl, Or.inr ⟨by omega, o.length + n, rfl, rfl, by omega⟩⟩
              · dsimp only
                rw [lit_1, iI_add]
                rfl
              · dsimp only
                rw [lit_1, iI_add]
                rfl
        · rw [if_neg cl2, if_neg (show ¬ (1 : Int32) = 0 by decide), if_leF (by omega) (by omega) cl2]
          unfold m_Opener_breaks
          rw [Option.bind_some, Option.bind_some]
          dsimp only
          rw [bch0, bch0]
          refine ok2_end ?_
          dsimp only
          exact ok2_some (Or.inr ⟨rfl, rfl, ⟨rfl, rfl, nz12⟩, o, e6⟩)
      · rw [if_neg cl1, if_neg (show ¬ (1 : Int32) = 0 by decide), if_leF (by omega) (by omega) cl1, Option.bind_some]
        dsimp only
        rw [bch0]
        refine ok2_end ?_
        dsimp only
        unfold m_Opener_openSequences_E78 m_Opener_breaks
        rw [Option.bind_some]
        dsimp only
        rw [bch0]
        exact ok2_some (Or.inr ⟨rfl, rfl, ⟨rfl, rfl, nz1⟩, o, e6⟩)
    · intro hwa x
      have ha1 : a1 = iI (-1) := by
        rcases ha with ⟨q', n', h1, _⟩ | ⟨_, h1⟩
        · rw [hwa] at h1
          cases h1
        · exact h1
      subst ha1
      rw [if_lt0T (by omega) (by omega)]
      refine ok2_end ?_
      dsimp only
      unfold m_Opener_openSequences_E78 m_Opener_breaks
      rw [Option.bind_some]
      dsimp only
      rw [bch0]
      exact ok2_some (Or.inr ⟨rfl, rfl, ⟨rfl, rfl, nz1⟩, o, e6⟩)
