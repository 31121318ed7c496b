/-! frames and pieces: both sides -/
theorem ite_two {β : Type} {a b : Prop} [Decidable a] [Decidable b] {x y : β} (h : ¬ a → b) : (if a then x else if b then x else y) = x := by
  by_cases c : a
  · rw [if_pos c]
  · rw [if_neg c, if_pos (h c)]
theorem j_pc : (407710304 : Int64) = jI 407710304 := by decide
theorem j_pd : (407710303 : Int64) = jI 407710303 := by decide
theorem s_pass {inp : List Int} {iF : Nat → Int32} (b1 : BR 4000 (iI inp.length) iF inp) {q : Nat} (hq : q ≤ 4000) (b ba : Int32) : m_Opener_passPiece b ba (iI q) (iI inp.length) (iI inp.length) 4000 iF = some (if q + 4 + nv inp q 4 ≤ inp.length then ((1 : Int32), b, ba, iI ((q + 4 + nv inp q 4 : Nat) : Int)) else ((0 : Int32), (1 : Int32), iI inp.length, iI q)) := by
  have i4 := b1.2.1
  have hy := b1.by
  have hnv := nv_lt hy q 4
  rw [show 2 ^ (8 * 4) = 4294967296 by decide] at hnv
  unfold m_Opener_passPiece m_Opener_passPiece_J38 m_Opener_breaks
  rw [s_lk 4 4 rfl (by omega) (by omega) (by omega), i_nat4, s_number b1 (by omega) (by omega) (by omega), Option.bind_some, Option.bind_some, Option.bind_some]
  obtain ⟨m, hm⟩ : ∃ m, nv inp q 4 = m := ⟨_, rfl⟩
  rw [hm] at hnv ⊢
  dsimp only
  rw [bch0]
  by_cases c1 : q + 4 ≤ inp.length
  · rw [if_pos c1, if_pos rfl, iI_sub, iI_sub, iI_j (by omega), lg_le (by omega) (by omega)]
    by_cases c2 : q + 4 + m ≤ inp.length
    · rw [if_pos c2, if_pos (show (m : Int) ≤ (inp.length : Int) - (q : Int) - ((4 : Nat) : Int) by omega), bnd_eq, jI_i, iI_add, iI_add, show (q : Int) + (((4 : Nat) : Int) + (m : Int)) = ((q + 4 + m : Nat) : Int) by omega]
    · rw [if_neg c2, if_neg (show ¬ (m : Int) ≤ (inp.length : Int) - (q : Int) - ((4 : Nat) : Int) by omega)]
  · rw [if_neg c1, if_neg (show ¬ (1 : Int32) = 0 by decide), if_neg (show ¬ q + 4 + m ≤ inp.length by omega)]
def Ifs (e : Nat) (b0 ba0 r0 pl0 : Int32) (j : Nat) (s : (Nat → Int32) × (Nat → Int32) × Int32 × Int32 × Int32 × Int32 × Int32 × Int32 × Int64 × Int32 × Int32 × Int32 × Int32 × Int32 × Int32 × Int32 × Int32) (t : (Nat → Int32) × (Nat → Int32) × Int32 × Int32 × Int32 × Int32 × Int32 × Int32 × Int32 × Int32) : Prop := ∃ (o : List Int) (fl : List Int32) (k p : Nat), BR 12000 s.2.2.2.2.2.2.2.2.2.2.2.2.2.2.2.1 s.2.1 o ∧ MR t.2.2.2.2.2.2.2.2.2 t.1 o ∧ FC k s.2.2.2.2.2.2.2.2.2.2.2.2.2.2.1 s.1 fl ∧ FC k t.2.2.2.2.2.1 t.2.1 fl ∧ 4 * k ≤ p ∧ s.2.2.2.2.2.2.2.2.2.2.2.1 = iI p ∧ t.2.2.2.2.2.2.2.2.1 = iI p ∧ j ≤ p ∧ p ≤ e ∧ s.2.2.2.2.2.2.2.2.2.2.2.2.1 = iI e ∧ s.2.2.2.2.2.2.2.2.2.1 = b0 ∧ s.2.2.2.2.2.2.2.2.2.2.1 = ba0 ∧ t.2.2.2.2.2.2.1 = r0 ∧ t.2.2.2.2.2.2.2.1 = pl0 ∧ s.2.2.2.2.2.2.2.2.2.2.2.2.2.2.2.2 = iI j
def RFS (ie p0 l0 : Nat) (b0 ba0 r0 pl0 : Int32) (x : Int32 × Int32 × Int32 × Int32 × Int32 × Int32 × Int32 × Int32 × Int32 × Int32 × Int32 × Int32 × Int64 × Int32 × Int32 × (Nat → Int32) × (Nat → Int32)) (y : Int32 × Int32 × Int32 × Int32 × Int32 × Int32 × Int32 × Int32 × Int32 × (Nat → Int32) × (Nat → Int32)) : Prop := GD ie p0 l0 b0 ba0 r0 pl0 x.1 x.2.1 x.2.2.1 x.2.2.2.1 x.2.2.2.2.1 x.2.2.2.2.2.2.2.2.2.2.2.2.2.2.1 x.2.2.2.2.2.2.2.2.2.2.2.2.2.1 x.2.2.2.2.2.2.2.2.2.2.2.2.2.2.2.2 x.2.2.2.2.2.2.2.2.2.2.2.2.2.2.2.1 y.1 y.2.1 y.2.2.2.2.2.1 y.2.2.2.2.2.2.1 y.2.2.2.2.2.2.2.1 y.2.2.2.2.2.2.2.2.1 y.2.2.2.2.2.2.2.2.2.1 y.2.2.2.2.2.2.2.2.2.2
theorem op_frames {inp dic : List Int} {iF wF sF mt mif mdf tf ff bf nf : Nat → Int32} {b0 ba0 r0 pl0 : Int32} (b1 : BR 4000 (iI inp.length) iF inp) (b2 : MR (iI inp.length) mif inp) (b3 : BR 1000 (iI dic.length) wF dic) (b4 : MR (iI dic.length) mdf dic) (hs5 : sF 5 = mt 5) (beg c l pa fb f0 w0 c' l' pa' : Int32) (sz0 : Int64) : ok2 (m_Opener_openFrames b0 ba0 0 (iI inp.length) beg c l pa fb f0 w0 sz0 (iI inp.length) 4000 iF 0 0 (iI dic.length) 6 sF 12000 tf 7000 bf 1000 wF) (m_Mo_readFrames (iI inp.length) (iI dic.length) 0 c' l' pa' 0 r0 pl0 0 4000 mif 6 mt 28000 ff 28070 nf 1000 mdf) (RFS inp.length 0 0 b0 ba0 r0 pl0) := by
  have i4 := b1.2.1
  have hy := b1.by
  unfold m_Opener_openFrames m_Mo_readFrames
  refine ok2_bindK ?_
  refine ok2_loop (Ifs inp.length b0 ba0 r0 pl0) 4000 (by omega) ⟨[], [], 0, 0, BR.nil _ _, MR.nil _, FC.nil _, FC.nil _, by omega, rfl, rfl, by omega, by omega, rfl, rfl, rfl, rfl, rfl, rfl⟩ ?_
  rintro j ⟨s0, s1, s2, s3, s4, s5, s6, s7, s8, s9, s10, s11, s12, s13, s14, s15, s16⟩ ⟨t0, t1, t2, t3, t4, t5, t6, t7, t8, t9⟩ hj ⟨o, fl, k, p, e1, e2, e4, e5, e6, e7, e8, e9, e10, e11, e12, e13, e14, e15, e16⟩
  dsimp only at e1 e2 e4 e5 e7 e8 e11 e12 e13 e14 e15 e16
  subst e7 e8 e11 e12 e13 e14 e15 e16
  have ho := e1.2.1
  unfold m_Opener_openFrames_B2 m_Mo_readFrames_B0
  dsimp only
  by_cases cp : inp.length ≤ p
  · have hpe : p = inp.length := by omega
    have hfin : RFS inp.length 0 0 s9 s10 t6 t7 (1, s9, s10, iI p, iI inp.length, s13, s2, s3, s4, s5, s6, s7, s8, s15, s14, s1, s0) (1, t9, t2, t3, t4, t5, t6, t7, iI p, t0, t1) := Or.inl ⟨rfl, rfl, o, fl, k, p, e1, e2, by omega, e4, e5, e6, rfl, rfl, by omega, e10, rfl, rfl, rfl, rfl, rfl⟩
    rw [if_leT (by omega) (by omega) (by omega)]
    by_cases c4 : 4000 ≤ j
    · rw [lit_4000, if_leT (by omega) (by omega) (by omega), if_leT (by omega) (by omega) (by omega)]
      refine ok2_end ?_
      dsimp only
      unfold m_Opener_openFrames_E137
      exact ok2_some hfin
    · rw [lit_4000, if_leF (by omega) (by omega) (by omega), if_leT (by omega) (by omega) (by omega)]
      refine ok2_end ?_
      dsimp only
      unfold m_Opener_openFrames_E137
      exact ok2_some hfin
  · have hnv := nv_lt hy p 4
    rw [show 2 ^ (8 * 4) = 4294967296 by decide] at hnv
    rw [lit_4000, if_leF (by omega) (by omega) (by omega), if_leF (by omega) (by omega) (by omega), if_leF (by omega) (by omega) (by omega), s_lk 4 4 rfl (by omega) (by omega) (by omega), Option.bind_some, iI_sub]
    by_cases c1 : p + 4 ≤ inp.length
    · rw [if_pos c1, if_pos rfl, if_pos (show (4 : Int32) ≤ iI ((inp.length : Int) - (p : Int)) by rw [lit_4, iI_le (by omega) (by omega)]; omega), iI_p p 4 4 rfl, i_nat4, s_number b1 (by omega) (by omega) (by omega), Option.bind_some, t_number b2 hy (by omega) i4 (by omega) (by omega), Option.bind_some, bnd_eq, ← i_nat4]
      obtain ⟨m, hm⟩ : ∃ m, nv inp p 4 = m := ⟨_, rfl⟩
      rw [hm] at hnv ⊢
      rw [j407, j_mark, j_pc, lg_lt (by omega) (by omega), lg_ge (by omega) (by omega), lg_eq (by omega) (by omega)]
      by_cases c2 : (m : Int) = 407708164
      · rw [if_pos c2, if_pos (show (m : Int) < 407710288 by omega)]
        unfold m_Opener_openFrames_J72
        rw [if_pos rfl, j_mark, lg_eq (by omega) (by omega), if_pos c2]
        unfold m_Opener_openFrames_J97
        rw [bnd_eq, iI_p p 4 4 rfl, if_pos rfl]
        refine ok2_bind (op_frame b1 b2 b3 b4 e1 e2 e4 e5 (A := p + 4) (by omega) (by omega) hs5 _ _ _ _ _ _ _ _ _ _) ?_
        rintro ⟨x0, x1, x2, x3, x4, x5, x6, x7, x8, x9, x10, x11, x12, x13, x14, x15, x16⟩ ⟨y0, y1, y2, y3, y4, y5, y6, y7, y8, y9, y10⟩ hR
        dsimp only
        unfold m_Opener_openFrames_J131 m_Mo_readFrames_J200
        rcases hR with ⟨d0, d1, o', fl2, k2, p2, d2, d3, d4, d5, d6, d7, d8, d9, d10, d11, d12, d13, d14, d15, d16⟩ | ⟨d0, d1, hb, o', d2⟩
        · dsimp only at d0 d1 d2 d3 d5 d6 d8 d9 d12 d13 d14 d15 d16
          subst d0 d1 d8 d9 d12 d13 d14 d15 d16
          rw [if_neg (show ¬ (1 : Int32) = 0 by decide), if_neg (show ¬ (1 : Int32) = 0 by decide), bnd_eq, iI_p j 1 1 rfl]
          exact ok2_go ⟨j + 1, by omega, by omega, o', fl2, k2, p2, d2, d3, d5, d6, d7, rfl, rfl, by omega, d11, rfl, rfl, rfl, rfl, rfl, rfl⟩
        · dsimp only at d0 d1 hb d2
          subst d0 d1
          rw [if_pos rfl, if_pos rfl]
          refine ok2_end ?_
          dsimp only
          unfold m_Opener_openFrames_E129
          exact ok2_some (Or.inr ⟨rfl, rfl, hb, o', d2⟩)
      · rw [if_neg c2, j_pd, s_in (by omega) (by omega) (by omega), Option.bind_some]
        by_cases c3 : (407710288 : Int) ≤ (m : Int) ∧ (m : Int) ≤ 407710303
        · rw [if_pos c3, if_neg (show ¬ (1 : Int32) = 0 by decide), if_neg (show ¬ (m : Int) < 407710288 by omega), if_neg (show ¬ (407710304 : Int) ≤ (m : Int) by omega)]
          unfold m_Opener_openFrames_J72
          rw [if_neg (show ¬ (1 : Int32) = 0 by decide)]
          unfold m_Opener_openFrames_J97
          rw [bnd_eq, iI_p p 4 4 rfl, if_neg (show ¬ (1 : Int32) = 0 by decide), s_pass b1 (by omega), Option.bind_some, iI_sub]
          have hn2 := nv_lt hy (p + 4) 4
          rw [show 2 ^ (8 * 4) = 4294967296 by decide] at hn2
          by_cases c4 : p + 4 + 4 ≤ inp.length
          · rw [if_pos (show (4 : Int32) ≤ iI ((inp.length : Int) - ((p + 4 : Nat) : Int)) by rw [lit_4, iI_le (by omega) (by omega)]; omega), iI_p (p + 4) 4 4 rfl, i_nat4, t_number b2 hy (by omega) i4 (by omega) (by omega), Option.bind_some, bnd_eq]
            obtain ⟨n, hn⟩ : ∃ n, nv inp (p + 4) 4 = n := ⟨_, rfl⟩
            rw [hn] at hn2 ⊢
            rw [iI_sub, iI_j (by omega), lg_le (by omega) (by omega)]
            by_cases c5 : p + 4 + 4 + n ≤ inp.length
            · rw [if_pos c5, if_pos (show (n : Int) ≤ (inp.length : Int) - ((p + 4 + 4 : Nat) : Int) by omega)]
              dsimp only
              unfold m_Mo_readFrames_J166 m_Mo_readFrames_J185 m_Mo_readFrames_J200 m_Opener_openFrames_J131
              rw [if_neg (show ¬ (1 : Int32) = 0 by decide), if_neg (show ¬ (1 : Int32) = 0 by decide), bnd_eq, bnd_eq, jI_i, iI_p (p + 4 + 4) n _ rfl, if_neg (show ¬ (1 : Int32) = 0 by decide), iI_p j 1 1 rfl]
              exact ok2_go ⟨j + 1, by omega, by omega, o, fl, k, p + 4 + 4 + n, e1, e2, e4, e5, by omega, rfl, rfl, by omega, c5, rfl, rfl, rfl, rfl, rfl, rfl⟩
            · unfold m_Mo_no
              rw [if_neg c5, if_neg (show ¬ (n : Int) ≤ (inp.length : Int) - ((p + 4 + 4 : Nat) : Int) by omega), Option.bind_some]
              dsimp only
              unfold m_Mo_readFrames_J166 m_Mo_readFrames_J185 m_Mo_readFrames_J200
              rw [if_pos rfl, if_pos rfl, if_pos rfl, bnd_eq, if_pos rfl]
              refine ok2_end ?_
              dsimp only
              unfold m_Opener_openFrames_E129
              exact ok2_some (Or.inr ⟨rfl, rfl, ⟨rfl, rfl, nz1⟩, o, e1⟩)
          · unfold m_Mo_no
            rw [if_neg (show ¬ (4 : Int32) ≤ iI ((inp.length : Int) - ((p + 4 : Nat) : Int)) by rw [lit_4, iI_le (by omega) (by omega)]; omega), Option.bind_some, if_neg (show ¬ p + 4 + 4 + nv inp (p + 4) 4 ≤ inp.length by omega)]
            dsimp only
            rw [if_pos rfl, bch0]
            refine ok2_end ?_
            dsimp only
            unfold m_Opener_openFrames_E129
            exact ok2_some (Or.inr ⟨rfl, rfl, ⟨rfl, rfl, nz1⟩, o, e1⟩)
        · unfold m_Mo_no
          rw [if_neg c3, if_pos rfl, Option.bind_some, ite_two (show ¬ (m : Int) < 407710288 → (407710304 : Int) ≤ (m : Int) by omega)]
          dsimp only
          unfold m_Mo_readFrames_J200 m_Opener_openFrames_J72 m_Opener_breaks
          rw [if_pos rfl, if_pos rfl, j_mark, lg_eq (by omega) (by omega), if_neg c2, Option.bind_some]
          dsimp only
          rw [bch0]
          refine ok2_end ?_
          dsimp only
          exact ok2_some (Or.inr ⟨rfl, rfl, ⟨rfl, rfl, nz4⟩, o, e1⟩)
    · unfold m_Opener_breaks m_Mo_no
      rw [if_neg c1, if_neg (show ¬ (1 : Int32) = 0 by decide), if_neg (show ¬ (4 : Int32) ≤ iI ((inp.length : Int) - (p : Int)) by rw [lit_4, iI_le (by omega) (by omega)]; omega), Option.bind_some, Option.bind_some]
      dsimp only
      rw [bch0, bch0]
      refine ok2_end ?_
      dsimp only
      exact ok2_some (Or.inr ⟨rfl, rfl, ⟨rfl, rfl, nz1⟩, o, e1⟩)
