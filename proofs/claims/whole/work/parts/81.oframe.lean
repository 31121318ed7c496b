/-! a frame: both sides -/
theorem fh_nz {inp : List Int} {i : Int32} {A r pl : Nat} (h : fh inp i A = .inl (r, pl)) : r ≠ 0 ∧ r < 100 := by
  unfold fh at h
  repeat' split at h
  all_goals first | (cases h; decide) | cases h
theorem fhS_in (F : Int32) (A : Nat) : A + 2 ≤ fhS F A ∧ fhS F A ≤ A + 14 := by
  unfold fhS
  split <;> split <;> omega
theorem fh_in {inp : List Int} {i : Int32} {A S w : Nat} (h : fh inp i A = .inr (S, w)) : A + 2 ≤ S ∧ S < inp.length ∧ w < 4 := by
  have hf := fhS_in (iI (by_ inp A)) A
  unfold fh at h
  repeat' split at h
  all_goals first | (cases h; omega) | cases h
theorem fr_core {inp o : List Int} {iF mif tf ff nf : Nat → Int32} {b0 ba0 r0 pl0 F c l pa nm : Int32} (b1 : BR 4000 (iI inp.length) iF inp) (b2 : MR (iI inp.length) mif inp) (h : BR 12000 (iI o.length) tf o) (hm : MR (iI o.length) ff o) {A fb : Nat} (hA : A + 4 ≤ inp.length) (hfb : fb ≤ o.length) : ok2 (m_Opener_openFrameEnd_J43 b0 ba0 (iI A) (iI inp.length) (iI fb) F (iI o.length) (iI inp.length) 4000 iF 12000 tf (iI ((o.length - fb : Nat) : Int))) (m_Mo_readFrame_J448 (iI inp.length) (iI fb) 4000 mif 28000 F ff nf c l pa nm r0 pl0 (iI ((A + 4 : Nat) : Int)) (iI o.length)) (fun x y => (x.1 = 1 ∧ y.1 = 1 ∧ x.2.1 = b0 ∧ x.2.2.1 = ba0 ∧ (∃ p : Nat, x.2.2.2 = iI p ∧ y.2.2.2.2.2.2.2.2.1 = iI p ∧ A + 4 ≤ p ∧ p ≤ inp.length) ∧ y.2.2.2.2.2.2.1 = r0 ∧ y.2.2.2.2.2.2.2.1 = pl0 ∧ y.2.1 = iI o.length ∧ y.2.2.2.2.2.1 = nm ∧ y.2.2.2.2.2.2.2.2.2.1 = ff ∧ y.2.2.2.2.2.2.2.2.2.2 = nf) ∨ (x.1 = 0 ∧ y.1 = 0 ∧ BADR x.2.1 x.2.2.1 y.2.2.2.2.2.2.1 y.2.2.2.2.2.2.2.1)) := by
  have i4 := b1.2.1
  have o4 := h.2.1
  have hy := b1.by
  unfold m_Opener_openFrameEnd_J43 m_Mo_readFrame_J448 m_Opener_isFlag m_Opener_breaks m_Mo_no
  rw [bnd_eq, iI_p A 4 4 rfl]
  by_cases f4 : F &&& 4 = 0
  · rw [if_pos f4, if_pos f4, Option.bind_some, if_pos rfl]
    exact ok2_some (Or.inl ⟨rfl, rfl, rfl, rfl, ⟨A + 4, rfl, rfl, by omega, hA⟩, rfl, rfl, rfl, rfl, rfl, rfl⟩)
  · rw [if_neg f4, if_neg f4, Option.bind_some, if_neg (show ¬ (1 : Int32) = 0 by decide), s_lk 4 4 rfl (by omega) (by omega) (by omega), Option.bind_some, iI_sub]
    by_cases c1 : A + 4 + 4 ≤ inp.length
    · rw [if_pos c1, if_pos rfl, if_pos (show (4 : Int32) ≤ iI ((inp.length : Int) - ((A + 4 : Nat) : Int)) by rw [lit_4, iI_le (by omega) (by omega)]; omega), s_num32 b1 (by omega) c1, Option.bind_some, i_nat4, t_number b2 hy (by omega) i4 (by omega) (by omega), Option.bind_some, s_sumOf h (by omega) (by omega), Option.bind_some, iI_sub, show (o.length : Int) - (fb : Int) = ((o.length - fb : Nat) : Int) by omega, t_sumOf hm (by omega) (by omega) (by omega), Option.bind_some, Option.bind_some, jI_i]
      by_cases c2 : iI (nv inp (A + 4) 4) = sumS (rd o) fb (o.length - fb)
      · rw [if_pos c2, if_pos c2, bnd_eq, bnd_eq, iI_p (A + 4) 4 _ rfl]
        exact ok2_some (Or.inl ⟨rfl, rfl, rfl, rfl, ⟨A + 4 + 4, rfl, rfl, by omega, c1⟩, rfl, rfl, rfl, rfl, rfl, rfl⟩)
      · rw [if_neg c2, if_neg c2, Option.bind_some]
        dsimp only
        rw [bch0, bch0]
        exact ok2_some (Or.inr ⟨rfl, rfl, rfl, rfl, nz10⟩)
    · rw [if_neg c1, if_neg (show ¬ (1 : Int32) = 0 by decide), if_neg (show ¬ (4 : Int32) ≤ iI ((inp.length : Int) - ((A + 4 : Nat) : Int)) by rw [lit_4, iI_le (by omega) (by omega)]; omega), Option.bind_some, Option.bind_some]
      dsimp only
      rw [bch0, bch0]
      exact ok2_some (Or.inr ⟨rfl, rfl, rfl, rfl, nz1⟩)
theorem fr_end {inp o : List Int} {iF mif tf ff nf : Nat → Int32} {b0 ba0 r0 pl0 F c l pa nm : Int32} {sz s11 : Int64} (b1 : BR 4000 (iI inp.length) iF inp) (b2 : MR (iI inp.length) mif inp) (h : BR 12000 (iI o.length) tf o) (hm : MR (iI o.length) ff o) {A fb : Nat} (hA : A + 4 ≤ inp.length) (hfb : fb ≤ o.length) (hs : ¬ F &&& 8 = 0 → s11 = sz) : ok2 (m_Opener_openFrameEnd b0 ba0 (iI A) (iI inp.length) (iI fb) F sz (iI o.length) (iI inp.length) 4000 iF 12000 tf) (m_Mo_readFrame_E391 (iI inp.length) (iI fb) 4000 mif 28000 F s11 ff nf c l pa nm r0 pl0 (iI ((A + 4 : Nat) : Int)) (iI o.length) (iI A)) (fun x y => (x.1 = 1 ∧ y.1 = 1 ∧ x.2.1 = b0 ∧ x.2.2.1 = ba0 ∧ (∃ p : Nat, x.2.2.2 = iI p ∧ y.2.2.2.2.2.2.2.2.1 = iI p ∧ A + 4 ≤ p ∧ p ≤ inp.length) ∧ y.2.2.2.2.2.2.1 = r0 ∧ y.2.2.2.2.2.2.2.1 = pl0 ∧ y.2.1 = iI o.length ∧ y.2.2.2.2.2.1 = nm ∧ y.2.2.2.2.2.2.2.2.2.1 = ff ∧ y.2.2.2.2.2.2.2.2.2.2 = nf) ∨ (x.1 = 0 ∧ y.1 = 0 ∧ BADR x.2.1 x.2.2.1 y.2.2.2.2.2.2.1 y.2.2.2.2.2.2.2.1)) := by
  have o4 := h.2.1
  unfold m_Opener_openFrameEnd m_Mo_readFrame_E391 m_Bytes_size m_Opener_isFlag
  rw [Option.bind_some, bnd_eq, iI_sub, show (o.length : Int) - (fb : Int) = ((o.length - fb : Nat) : Int) by omega]
  by_cases f8 : F &&& 8 = 0
  · rw [if_pos f8, if_pos f8, Option.bind_some, if_pos rfl]
    exact fr_core b1 b2 h hm hA hfb
  · rw [if_neg f8, if_neg f8, Option.bind_some, if_neg (show ¬ (1 : Int32) = 0 by decide), hs f8]
    by_cases c1 : lg_cmp sz ((iI ((o.length - fb : Nat) : Int)).toInt64) = 0
    · rw [if_pos c1, if_pos c1]
      exact fr_core b1 b2 h hm hA hfb
    · unfold m_Opener_breaks m_Mo_no
      rw [if_neg c1, if_neg c1, Option.bind_some, Option.bind_some]
      dsimp only
      rw [bch0, bch0]
      exact ok2_some (Or.inr ⟨rfl, rfl, rfl, rfl, nz9⟩)
def Iofr (e p0 l0 : Nat) (b0 ba0 r0 pl0 : Int32) (j : Nat) (s : (Nat → Int32) × (Nat → Int32) × Int32 × Int32 × Int32 × Int32 × Int32 × Int32 × Int32 × Int32 × Int32 × Int32 × Int32) (t : (Nat → Int32) × (Nat → Int32) × Int32 × Int32 × Int32 × Int32 × Int32 × Int32 × Int32 × Int32) : Prop := ∃ (o : List Int) (fl : List Int32) (k p : Nat), BR 12000 s.2.2.2.2.2.2.2.2.2.2.2.1 s.2.1 o ∧ MR t.2.2.2.2.2.2.2.2.2 t.1 o ∧ l0 ≤ o.length ∧ FC k s.2.2.2.2.2.2.2.2.2.2.1 s.1 fl ∧ FC k t.2.2.2.2.2.1 t.2.1 fl ∧ 4 * k ≤ p ∧ s.2.2.2.2.2.2.2.1 = iI p ∧ t.2.2.2.2.2.2.2.2.1 = iI p ∧ p0 + j ≤ p ∧ p ≤ e ∧ s.2.2.2.2.2.2.2.2.1 = iI e ∧ s.2.2.2.2.2.1 = b0 ∧ s.2.2.2.2.2.2.1 = ba0 ∧ t.2.2.2.2.2.2.1 = r0 ∧ t.2.2.2.2.2.2.2.1 = pl0 ∧ s.2.2.2.2.2.2.2.2.2.2.2.2 = iI j
def RFR (ie p0 l0 : Nat) (b0 ba0 r0 pl0 : Int32) (x : Int32 × Int32 × Int32 × Int32 × Int32 × Int32 × Int32 × Int32 × Int32 × Int32 × Int32 × Int32 × Int64 × Int32 × (Nat → Int32) × Int32 × (Nat → Int32)) (y : Int32 × Int32 × Int32 × Int32 × Int32 × Int32 × Int32 × Int32 × Int32 × (Nat → Int32) × (Nat → Int32)) : Prop := GD ie p0 l0 b0 ba0 r0 pl0 x.1 x.2.1 x.2.2.1 x.2.2.2.1 x.2.2.2.2.1 x.2.2.2.2.2.2.2.2.2.2.2.2.2.2.2.1 x.2.2.2.2.2.2.2.2.2.2.2.2.2.1 x.2.2.2.2.2.2.2.2.2.2.2.2.2.2.2.2 x.2.2.2.2.2.2.2.2.2.2.2.2.2.2.1 y.1 y.2.1 y.2.2.2.2.2.1 y.2.2.2.2.2.2.1 y.2.2.2.2.2.2.2.1 y.2.2.2.2.2.2.2.2.1 y.2.2.2.2.2.2.2.2.2.1 y.2.2.2.2.2.2.2.2.2.2
theorem op_frame {inp dic o0 : List Int} {iF wF sF mt mif mdf tf ff bf nf : Nat → Int32} {tc fs bc nm b0 ba0 r0 pl0 : Int32} {fl : List Int32} {k A : Nat} (b1 : BR 4000 (iI inp.length) iF inp) (b2 : MR (iI inp.length) mif inp) (b3 : BR 1000 (iI dic.length) wF dic) (b4 : MR (iI dic.length) mdf dic) (h : BR 12000 tc tf o0) (hm : MR fs ff o0) (hf : FC k bc bf fl) (hg : FC k nm nf fl) (hA : A ≤ inp.length) (hk : 4 * k ≤ A) (hs5 : sF 5 = mt 5) (beg c l pa f0 w0 c' l' pa' : Int32) (sz0 : Int64) : ok2 (m_Opener_openFrame b0 ba0 (iI A) (iI inp.length) beg c l pa f0 w0 sz0 tc (iI inp.length) 4000 iF 6 sF 12000 tf bc (iI dic.length) 7000 bf 1000 wF) (m_Mo_readFrame (iI inp.length) (iI dic.length) fs c' l' pa' nm r0 pl0 (iI A) 4000 mif 6 mt 28000 ff 28070 nf 1000 mdf) (RFR inp.length A o0.length b0 ba0 r0 pl0) := by
  have i4 := b1.2.1
  have hy := b1.by
  have htc := h.1
  have hfs := hm.1
  subst htc hfs
  have ht := t_ohead (mt := mt) (ff := ff) (nf := nf) (mdf := mdf) (md := iI dic.length) (fs := iI o0.length) (c := c') (l := l') (pa := pa') (nm := nm) (r0 := r0) (pl0 := pl0) b2 hy i4 hA
  unfold m_Opener_openFrame m_Bytes_size
  rw [Option.bind_some]
  refine ok2_l (s_head b1 hA) ?_
  rintro ⟨x0, x1, x2, x3, x4, x5, x6⟩ ⟨g1, g2⟩
  dsimp only at g1 g2 ⊢
  rcases hT : fh inp (sF 5) A with ⟨r, pl⟩ | ⟨S, w⟩
  · obtain ⟨rfl, rfl, rfl⟩ := g1 r pl hT
    obtain ⟨x, hx⟩ := ht.1 r pl (by rw [← hs5, hT])
    have hr := fh_nz hT
    rw [if_pos rfl, hx]
    exact ok2_some (Or.inr ⟨rfl, rfl, ⟨rfl, rfl, by show ¬ iI (r : Int) = 0; rw [iI_eq0 (by omega)]; omega⟩, o0, h⟩)
  · obtain ⟨rfl, rfl, rfl, rfl, rfl, rfl, rfl⟩ := g2 S w hT
    obtain ⟨s11, hs11, hx⟩ := ht.2 S w (by rw [← hs5, hT])
    have hS := fh_in hT
    rw [if_neg (show ¬ (1 : Int32) = 0 by decide), hx]
    clear g1 g2 ht hx hT
    unfold m_Mo_readFrame_J318
    rw [bnd_eq, iI_p S 1 1 rfl]
    obtain ⟨F, hF⟩ : ∃ F, iI (by_ inp A : Int) = F := ⟨_, rfl⟩
    rw [hF] at hs11 ⊢
    refine ok2_bindK ?_
    refine ok2_loop (Iofr inp.length (S + 1) o0.length x1 x2 r0 pl0) 4000 (by omega) ⟨o0, fl, k, S + 1, h, hm, Nat.le_refl _, hf, hg, by omega, rfl, rfl, by omega, by omega, rfl, rfl, rfl, rfl, rfl, rfl⟩ ?_
    rintro j ⟨s0, s1, s2, s3, s4, s5, s6, s7, s8, s9, s10, s11', s12⟩ ⟨t0, t1, t2, t3, t4, t5, t6, t7, t8, t9⟩ hj ⟨o, fl', k', p, e1, e2, e3, e4, e5, e6, e7, e8, e9, e10, e11, e12, e13, e14, e15, e16⟩
    dsimp only at e1 e2 e4 e5 e7 e8 e11 e12 e13 e14 e15 e16
    subst e7 e8 e11 e12 e13 e14 e15 e16
    have ho := e1.2.1
    have h11 := e1.1
    have h9 := e2.1
    subst h11 h9
    have hnv := nv_lt hy p 4
    rw [show 2 ^ (8 * 4) = 4294967296 by decide] at hnv
    unfold m_Opener_openFrame_B22 m_Mo_readFrame_B334 m_Mo_no
    dsimp only
    rw [lit_4000, if_leF (by omega) (by omega) (by omega), s_lk 4 4 rfl (by omega) (by omega) (by omega), Option.bind_some, iI_sub]
    by_cases c1 : p + 4 ≤ inp.length
    · rw [if_pos c1, if_pos rfl, if_pos (show (4 : Int32) ≤ iI ((inp.length : Int) - (p : Int)) by rw [lit_4, iI_le (by omega) (by omega)]; omega), iI_p p 4 4 rfl, i_nat4, s_number b1 (by omega) (by omega) (by omega), Option.bind_some, t_number b2 hy (by omega) i4 (by omega) (by omega), Option.bind_some, bnd_eq, j_0, lg_eq (by omega) (by omega), lg_eq (by omega) (by omega)]
      by_cases c2 : (nv inp p 4 : Int) = 0
      · rw [if_pos c2, if_pos c2]
        obtain ⟨x, y, hx, hy2, hR⟩ := fr_end (b0 := s5) (ba0 := s6) (r0 := t6) (pl0 := t7) (F := F) (c := t2) (l := t3) (pa := t4) (nm := t5) (nf := t1) b1 b2 e1 e2 c1 (fb := o0.length) e3 hs11
        rw [hx, Option.bind_some]
        obtain ⟨x0, x1, x2, x3⟩ := x
        obtain ⟨y0, y1, y2, y3, y4, y5, y6, y7, y8, y9, y10⟩ := y
        dsimp only at hR ⊢
        rcases hR with ⟨rfl, rfl, rfl, rfl, ⟨p', rfl, rfl, hp1, hp2⟩, rfl, rfl, rfl, rfl, rfl, rfl⟩ | ⟨rfl, rfl, hb⟩
        · rw [bch1]
          refine ok2_end ?_
          dsimp only
          rw [hy2]
          exact ok2_some (Or.inl ⟨rfl, rfl, o, fl', k', p', e1, e2, e3, e4, e5, by omega, rfl, rfl, by omega, hp2, rfl, rfl, rfl, rfl, rfl⟩)
        · rw [bch0]
          refine ok2_end ?_
          dsimp only
          rw [hy2]
          exact ok2_some (Or.inr ⟨rfl, rfl, hb, o, e1⟩)
      · rw [if_neg c2, if_neg c2]
        refine ok2_bind (fb_block b1 b2 b3 b4 e1 e2 e4 e5 (A := p) (fb := o0.length) (w := w) c1 e6 e3 hS.2.2 _ _ _ _ _ _ _ _) ?_
        rintro ⟨x0, x1, x2, x3, x4, x5, x6, x7, x8, x9, x10, x11, x12⟩ ⟨y0, y1, y2, y3, y4, y5, y6, y7, y8, y9, y10⟩ hR
        dsimp only
        rcases hR with ⟨d0, d1, o', fl2, k2, p2, d2, d3, d4, d5, d6, d7, d8, d9, d10, d11, d12, d13, d14, d15, d16⟩ | ⟨d0, d1, hb, o', d2⟩
        · dsimp only at d0 d1 d2 d3 d5 d6 d8 d9 d12 d13 d14 d15 d16
          subst d0 d1 d8 d9 d12 d13 d14 d15 d16
          rw [if_neg (show ¬ (1 : Int32) = 0 by decide), if_neg (show ¬ (1 : Int32) = 0 by decide), bnd_eq, iI_p j 1 1 rfl]
          exact ok2_go ⟨j + 1, by omega, by omega, o', fl2, k2, p2, d2, d3, by omega, d5, d6, d7, rfl, rfl, by omega, d11, rfl, rfl, rfl, rfl, rfl, rfl⟩
        · dsimp only at d0 d1 hb d2
          subst d0 d1
          rw [if_pos rfl, if_pos rfl]
          refine ok2_end ?_
          dsimp only
          exact ok2_some (Or.inr ⟨rfl, rfl, hb, o', d2⟩)
    · rw [if_neg c1, if_neg (show ¬ (1 : Int32) = 0 by decide), if_neg (show ¬ (4 : Int32) ≤ iI ((inp.length : Int) - (p : Int)) by rw [lit_4, iI_le (by omega) (by omega)]; omega), Option.bind_some]
      dsimp only
      rw [bch0]
      refine ok2_end ?_
      dsimp only
      unfold m_Opener_openFrame_E74 m_Opener_breaks
      rw [Option.bind_some]
      dsimp only
      rw [bch0]
      exact ok2_some (Or.inr ⟨rfl, rfl, ⟨rfl, rfl, nz1⟩, o, e1⟩)
