/-! a chunk: both sides -/
def fcb (inp : List Int) (q : Nat) : Prop := ∀ j, j < 6 → iI (by_ inp (q + j)) = fcv j
theorem s_isFirst {inp : List Int} {iF : Nat → Int32} (b1 : BR 4000 (iI inp.length) iF inp) {q : Nat} (hq : q + 6 ≤ inp.length) : ok (m_Opener_isFirstChunk (iI q) (iI inp.length) 4000 iF) (fun x => (x = 1 ∧ fcb inp q) ∨ (x = 0 ∧ ¬ fcb inp q)) := by
  have i4 := b1.2.1
  unfold m_Opener_isFirstChunk
  refine ok_bind (Q := fun x => (x = 1 ∧ fcb inp q) ∨ (x = 0 ∧ ¬ fcb inp q)) ?_ (fun x hx => ok_some hx)
  refine ok_loop (fun j s => s = iI j ∧ ∀ i, i < j → iI (by_ inp (q + i)) = fcv i) 6 (by omega) ⟨rfl, fun i hi => absurd hi (by omega)⟩ ?_
  rintro j s hj ⟨rfl, e2⟩
  unfold m_Opener_isFirstChunk_B2
  rw [iI_nI]
  by_cases c : 6 ≤ j
  · rw [if_leT (by omega) (by omega) (by omega)]
    refine ok_end (Or.inl ⟨rfl, fun i hi => e2 i (by omega)⟩)
  · rw [if_leF (by omega) (by omega) (by omega), iI_p q j _ rfl, s_byteAt b1 (by omega) (by omega), Option.bind_some, chk_iI (by omega) (by omega), iI_clamp (by omega) (by omega), Int.toNat_natCast]
    by_cases c2 : iI (by_ inp (q + j)) = fcv j
    · rw [if_pos c2, bnd_eq, iI_p j 1 1 rfl]
      refine ok_go ⟨j + 1, by omega, by omega, rfl, fun i hi => ?_⟩
      by_cases c3 : i < j
      · exact e2 i c3
      · rw [show i = j by omega]
        exact c2
    · rw [if_neg c2]
      exact ok_end (Or.inr ⟨rfl, fun q => c2 (q j (by omega))⟩)
theorem t_isFirst {inp : List Int} {mif : Nat → Int32} (b2 : MR (iI inp.length) mif inp) (i4 : inp.length ≤ 4000) {q : Nat} (hq : q + 6 ≤ inp.length) (f15 f16 : Nat → Int32) (g17 g18 g19 g20 g23 g24 : Int32) : ok (iter (fun st => m_Mo_readChunks_B214 4000 mif f15 f16 g17 g18 g19 g20 g23 g24 (iI q) st) FU 0) (fun x => (x = .inl () ∧ fcb inp q) ∨ (x = .inr (.inr (.inr (0, g24, g17, g18, g19, g20, 4, g23, iI q, f15, f16))) ∧ ¬ fcb inp q)) := by
  refine ok_loop (fun j s => s = iI j ∧ ∀ i, i < j → iI (by_ inp (q + i)) = fcv i) 6 (by omega) ⟨rfl, fun i hi => absurd hi (by omega)⟩ ?_
  rintro j s hj ⟨rfl, e2⟩
  unfold m_Mo_readChunks_B214 m_Mo_no
  by_cases c : 6 ≤ j
  · rw [lit_6, if_leT (by omega) (by omega) (by omega)]
    refine ok_end (Or.inl ⟨rfl, fun i hi => e2 i (by omega)⟩)
  · rw [lit_6, if_leF (by omega) (by omega) (by omega), iI_p q j _ rfl, chk_iI (by omega) (by omega), t_stream j (by omega), Option.bind_some, iI_clamp (by omega) (by omega), Int.toNat_natCast, t_byteAt b2 (by omega)]
    by_cases c2 : iI (by_ inp (q + j)) = fcv j
    · rw [if_pos c2, bnd_eq, iI_p j 1 1 rfl]
      refine ok_go ⟨j + 1, by omega, by omega, rfl, fun i hi => ?_⟩
      by_cases c3 : i < j
      · exact e2 i c3
      · rw [show i = j by omega]
        exact c2
    · rw [if_neg c2, Option.bind_some]
      dsimp only
      rw [bch0]
      exact ok_end (Or.inr ⟨rfl, fun q => c2 (q j (by omega))⟩)
def RCB (ie e l0 : Nat) (b0 ba0 r0 pl0 : Int32) (x : Int32 × Int32 × Int32 × Int32 × Int32 × Int32 × Int32 × Int32 × Int32 × Int32 × Int32 × (Nat → Int32) × (Nat → Int32)) (y : Int32 × Int32 × Int32 × Int32 × Int32 × Int32 × Int32 × Int32 × Int32 × (Nat → Int32) × (Nat → Int32)) : Prop := (x.1 = 1 ∧ y.1 = 1 ∧ ∃ (o : List Int) (fl : List Int32) (k : Nat), BR 12000 x.2.2.2.2.2.2.2.2.2.1 x.2.2.2.2.2.2.2.2.2.2.2.2 o ∧ MR y.2.1 y.2.2.2.2.2.2.2.2.2.1 o ∧ l0 ≤ o.length ∧ FC k x.2.2.2.2.2.2.2.2.2.2.1 x.2.2.2.2.2.2.2.2.2.2.2.1 fl ∧ FC k y.2.2.2.2.2.1 y.2.2.2.2.2.2.2.2.2.2 fl ∧ 4 * k ≤ e ∧ x.2.2.2.1 = iI e ∧ x.2.2.2.2.1 = iI ie ∧ x.2.1 = b0 ∧ x.2.2.1 = ba0 ∧ y.2.2.2.2.2.2.1 = r0 ∧ y.2.2.2.2.2.2.2.1 = pl0) ∨ (x.1 = 0 ∧ y.1 = 0 ∧ BADR x.2.1 x.2.2.1 y.2.2.2.2.2.2.1 y.2.2.2.2.2.2.2.1 ∧ ∃ o : List Int, BR 12000 x.2.2.2.2.2.2.2.2.2.1 x.2.2.2.2.2.2.2.2.2.2.2.2 o)
theorem ch_crc {inp o' : List Int} {iF mif tf ff bf nf : Nat → Int32} {bc nm b0 ba0 r0 pl0 beg sc sl sp c l pa : Int32} {fl row : List Int32} {k l0 q m e : Nat} {raw : Bool} (b1 : BR 4000 (iI inp.length) iF inp) (b2 : MR (iI inp.length) mif inp) (h : BR 12000 (iI o'.length) tf o') (hm : MR (iI o'.length) ff o') (hlo : l0 ≤ o'.length) (hf : FC (k + 1) bc bf (fl ++ row)) (hg : FC k nm nf fl) (hk : 4 * (k + 1) ≤ e) (hqe : q + 4 + m = e) (he : e ≤ inp.length) (hrow : row = if raw = true then [iI ((q + 4 : Nat) : Int), iI m, iI ((o'.length - l0 : Nat) : Int), 1, 0, iI ((o'.length - l0 : Nat) : Int), 0] else [iI ((q + 4 : Nat) : Int), iI m, iI ((o'.length - l0 : Nat) : Int), 0, c, l, pa]) : ok2 (m_Opener_openChunkBytes_J78 (iI q) (iI inp.length) 12000 4000 iF (iI l0) bf tf sc sl sp b0 ba0 (iI e) (iI inp.length) beg bc (iI o'.length)) (m_Mo_readChunk_J96 (if raw = true then 1 else 0) (iI e) (iI l0) nm (iI q) 4000 mif 28000 28070 nf ff c l pa r0 pl0 (iI e) (iI o'.length)) (RCB inp.length e l0 b0 ba0 r0 pl0) := by
  have i4 := b1.2.1
  have o4 := h.2.1
  have hy := b1.by
  unfold m_Opener_openChunkBytes_J78 m_Mo_readChunk_J96 m_Bytes_size m_Opener_breaks m_Mo_no
  rw [s_num32 b1 (by omega) (by omega), Option.bind_some, Option.bind_some, iI_sub, show (o'.length : Int) - (l0 : Int) = ((o'.length - l0 : Nat) : Int) by omega, s_mask h (by omega) (by omega), Option.bind_some, i_nat4, t_number b2 hy (by omega) i4 (by omega) (by omega), Option.bind_some, t_crcOf hm (by omega) (by omega) (by omega), Option.bind_some, Option.bind_some, t_mask, Option.bind_some, jI_i]
  by_cases c2 : iI (nv inp q 4) = mskS (crcS (rd o') l0 (o'.length - l0))
  · rw [if_pos c2, if_pos c2]
    unfold m_Mo_readChunk_J163
    rw [iI_p q 4 4 rfl, iI_sub, iI_sub, show (4 : Int32) = iI 4 from rfl, iI_sub, show (o'.length : Int) - (l0 : Int) = ((o'.length - l0 : Nat) : Int) by omega, show (e : Int) - (q : Int) - 4 = (m : Int) by omega]
    cases raw
    · have hrow' : row = [iI ((q + 4 : Nat) : Int), iI m, iI ((o'.length - l0 : Nat) : Int), 0, c, l, pa] := hrow
      subst hrow'
      rw [if_neg (show ¬ (if false = true then (1 : Int32) else 0) = 1 by decide)]
      refine ok2_r (t_note0 hg (by omega) _ _ _ _ _ _) ?_
      rintro ⟨v1, v2⟩ hv
      dsimp only at hv ⊢
      exact ok2_some (Or.inl ⟨rfl, rfl, o', _, k + 1, h, hm, hlo, hf, hv, hk, rfl, rfl, rfl, rfl, rfl, rfl⟩)
    · have hrow' : row = [iI ((q + 4 : Nat) : Int), iI m, iI ((o'.length - l0 : Nat) : Int), 1, 0, iI ((o'.length - l0 : Nat) : Int), 0] := hrow
      subst hrow'
      rw [if_pos (show (if true = true then (1 : Int32) else 0) = 1 from rfl)]
      refine ok2_r (t_note1 hg (by omega) _ _ _ _ _ _) ?_
      rintro ⟨v1, v2⟩ hv
      dsimp only at hv ⊢
      exact ok2_some (Or.inl ⟨rfl, rfl, o', _, k + 1, h, hm, hlo, hf, hv, hk, rfl, rfl, rfl, rfl, rfl, rfl⟩)
  · rw [if_neg c2, if_neg c2, Option.bind_some]
    dsimp only
    rw [bch0, bch0]
    exact ok2_some (Or.inr ⟨rfl, rfl, ⟨rfl, rfl, nz8⟩, o', h⟩)
theorem ch_bytes {inp o : List Int} {iF mif tf ff bf nf : Nat → Int32} {bc nm b0 ba0 r0 pl0 hd : Int32} {fl : List Int32} {k q m : Nat} {raw : Bool} (b1 : BR 4000 (iI inp.length) iF inp) (b2 : MR (iI inp.length) mif inp) (h : BR 12000 (iI o.length) tf o) (hm : MR (iI o.length) ff o) (hf : FC k bc bf fl) (hg : FC k nm nf fl) (hk : 4 * k ≤ q) (he : q + 4 + m ≤ inp.length) (beg c l pa c' l' pa' : Int32) : ok2 (m_Opener_openChunkBytes hd (if raw = true then 1 else 0) (iI m) b0 ba0 (iI q) (iI inp.length) beg c l pa (iI o.length) bc (iI inp.length) 7000 bf 12000 tf 4000 iF) (m_Mo_readChunk hd (if raw = true then 1 else 0) (iI ((q + 4 + m : Nat) : Int)) (iI o.length) c' l' pa' nm r0 pl0 (iI q) 4000 mif 28000 ff 28070 nf) (RCB inp.length (q + 4 + m) o.length b0 ba0 r0 pl0) := by
  have i4 := b1.2.1
  have o4 := h.2.1
  unfold m_Opener_openChunkBytes m_Mo_readChunk m_Bytes_size m_Mo_no
  rw [Option.bind_some]
  simp only [bnd_eq]
  rw [iI_p q 4 4 rfl]
  cases raw
  · rw [if_pos (show (if false = true then (1 : Int32) else 0) = 0 from rfl), if_neg (show ¬ (if false = true then (1 : Int32) else 0) = 1 by decide), iI_p (q + 4) m _ rfl]
    refine ok2_bind (op_el b1 b2 h hm (p0 := q + 4) (e := q + 4 + m) (by omega) (by omega)) ?_
    rintro ⟨x0, x1, x2, x3, x4, x5, x6, x7, x8, x9⟩ ⟨y0, y1, y2, y3, y4, y5, y6, y7, y8⟩ hR
    rcases hR with ⟨e0, f0, o', g1, g2, g3, g4, g5, g6, g7, g8, g9, g10, g11, g12, g13⟩ | ⟨e0, f0, hb, o', g1⟩
    · dsimp only at e0 f0 g1 g2 g4 g5 g6 g7 g8 g9 g10 g11 g12 g13 ⊢
      have hx8 := g1.1
      have hy1 := g2.1
      subst e0 f0 g4 g5 g6 g7 g8 g9 g10 g11 g12 g13 hx8 hy1
      rw [if_neg (show ¬ (1 : Int32) = 0 by decide), if_neg (show ¬ (1 : Int32) = 0 by decide), Option.bind_some]
      refine ok2_l (s_addPB hf (by omega) _ _ _ _ _ _ _) ?_
      rintro ⟨u1, u2⟩ hu
      dsimp only at hu ⊢
      rw [iI_sub, iI_sub, show ((q + 4 + m : Nat) : Int) - ((q + 4 : Nat) : Int) = (m : Int) by omega, show (o'.length : Int) - (o.length : Int) = ((o'.length - o.length : Nat) : Int) by omega] at hu
      exact ch_crc (raw := false) b1 b2 g1 g2 g3 hu hg (by omega) rfl he rfl
    · dsimp only at e0 f0 hb g1 ⊢
      subst e0 f0
      rw [if_pos rfl, if_pos rfl]
      exact ok2_some (Or.inr ⟨rfl, rfl, hb, o', g1⟩)
  · rw [if_neg (show ¬ (if true = true then (1 : Int32) else 0) = 0 by decide), if_pos (show (if true = true then (1 : Int32) else 0) = 1 from rfl), iI_add, iI_sub, lit_12000]
    refine ok2_l (s_openRaw b1 h hf (by omega) (q := q + 4) (n := m) (by omega)) ?_
    rintro ⟨x0, x1, x2, x3, x4, x5, x6, x7⟩ ⟨g1, g2⟩
    dsimp only at g1 g2 ⊢
    by_cases co : o.length + m ≤ 12000
    · obtain ⟨rfl, rfl, rfl, rfl, g3, g4⟩ := g1 co
      rw [if_neg (show ¬ (1 : Int32) = 0 by decide), if_leT (by omega) (by omega) (by omega)]
      refine ok2_r (t_rawC2 b2 i4 hm (q := q + 4) (n := m) (by omega) (by omega) _ _ _ _ _) ?_
      rintro ⟨w0, w1, w2, w3, w4, w5, w6, w7⟩ ⟨z1, z2, z3, z4, z5, z6, z7⟩
      dsimp only at z1 z2 z3 z4 z5 z6 z7 ⊢
      have hol : (o ++ (inp.drop (q + 4)).take m).length = o.length + m := by rw [List.length_append, List.length_take, List.length_drop]; omega
      have hx4 := g3.1
      have hw7 := z1.1
      subst z2 z3 z4 z5 z6 z7 hx4 hw7
      refine ch_crc (raw := true) b1 b2 g3 z1 (by omega) g4 hg (by omega) rfl he ?_
      rw [if_pos rfl, hol, show o.length + m - o.length = m by omega]
    · obtain ⟨rfl, rfl, rfl, g3⟩ := g2 co
      rw [if_pos rfl, if_leF (by omega) (by omega) (by omega), Option.bind_some]
      dsimp only
      rw [bch0]
      exact ok2_some (Or.inr ⟨rfl, rfl, ⟨rfl, rfl, nz12⟩, o, g3⟩)
