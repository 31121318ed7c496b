/-! chunks: both sides -/
def RCK (ie p0 l0 : Nat) (b0 ba0 r0 pl0 : Int32) (x : Int32 × Int32 × Int32 × Int32 × Int32 × Int32 × Int32 × Int32 × Int32 × Int32 × Int32 × (Nat → Int32) × (Nat → Int32)) (z : ((Nat → Int32) × (Nat → Int32) × Int32 × Int32 × Int32 × Int32 × Int32 × Int32 × Int32 × Int32 × Int32) ⊕ (((Nat → Int32) × (Nat → Int32) × Int32 × Int32 × Int32 × Int32 × Int32 × Int32 × Int32 × Int32 × Int32) ⊕ (Int32 × Int32 × Int32 × Int32 × Int32 × Int32 × Int32 × Int32 × Int32 × (Nat → Int32) × (Nat → Int32)))) : Prop := (∃ ff nf c l pa nm r pl at' fs, z = .inl (ff, nf, c, l, pa, nm, r, pl, at', fs, 0) ∧ x.1 = 1 ∧ GD ie p0 l0 b0 ba0 r0 pl0 1 x.2.1 x.2.2.1 x.2.2.2.1 x.2.2.2.2.1 x.2.2.2.2.2.2.2.2.2.1 x.2.2.2.2.2.2.2.2.2.2.1 x.2.2.2.2.2.2.2.2.2.2.2.1 x.2.2.2.2.2.2.2.2.2.2.2.2 1 fs nm r pl at' ff nf) ∨ (∃ y, z = .inr (.inr y) ∧ x.1 = 0 ∧ y.1 = 0 ∧ BADR x.2.1 x.2.2.1 y.2.2.2.2.2.2.1 y.2.2.2.2.2.2.2.1 ∧ ∃ o : List Int, BR 12000 x.2.2.2.2.2.2.2.2.2.2.1 x.2.2.2.2.2.2.2.2.2.2.2.2 o) ∨ (∃ y, z = .inr (.inl y) ∧ x.1 = 0 ∧ x.2.1 = 15 ∧ x.2.2.1 = y.2.2.2.2.2.2.2.2.2.2 ∧ ∃ o : List Int, BR 12000 x.2.2.2.2.2.2.2.2.2.2.1 x.2.2.2.2.2.2.2.2.2.2.2.2 o)
theorem ch_a {inp o : List Int} {iF mif tf ff bf nf : Nat → Int32} {bc nm b0 ba0 r0 pl0 : Int32} {fl : List Int32} {k p n : Nat} {raw : Bool} (b1 : BR 4000 (iI inp.length) iF inp) (b2 : MR (iI inp.length) mif inp) (h : BR 12000 (iI o.length) tf o) (hm : MR (iI o.length) ff o) (hf : FC k bc bf fl) (hg : FC k nm nf fl) (hk : 4 * k ≤ p) (hp : p + 4 ≤ inp.length) (hn : 4 ≤ n) (hn2 : n < 16777216) (beg c l pa c' l' pa' : Int32) : ok2 (m_Opener_openChunk_J111 b0 ba0 (iI p) (iI inp.length) beg c l pa (iI inp.length) 4000 iF bc (iI o.length) 7000 bf 12000 tf (if raw = true then 1 else 0) (iI n) 1) (m_Mo_readChunks_J171 (iI inp.length) 4000 mif 28000 28070 ff nf c' l' pa' nm r0 pl0 (iI p) (iI o.length) (if raw = true then 1 else 0) (iI n) (iI ((p + 4 : Nat) : Int))) (RCK inp.length (p + 4) o.length b0 ba0 r0 pl0) := by
  have i4 := b1.2.1
  have hK : ¬ (if raw = true then (1 : Int32) else 0) = 255 := by cases raw <;> decide
  unfold m_Opener_openChunk_J111 m_Mo_readChunks_J171 m_Opener_breaks m_Mo_no
  rw [bnd_eq, iI_p p 4 4 rfl, s_lk n _ rfl (by omega) (by omega) (by omega), Option.bind_some, iI_sub]
  by_cases c1 : p + 4 + n ≤ inp.length
  · rw [if_pos c1, if_pos rfl, if_leT (by omega) (by omega) (by omega), if_neg hK, bnd_eq, if_neg hK]
    unfold m_Opener_openChunk_J160 m_Mo_readChunks_J254
    rw [if_neg (show ¬ (1 : Int32) = 0 by decide), if_neg (show ¬ (2 : Int32) ≤ (if raw = true then (1 : Int32) else 0) by cases raw <;> decide)]
    have hJ : (if (if raw = true then (1 : Int32) else 0) = 1 then m_Opener_openChunk_J177 b0 ba0 (iI p) (iI inp.length) beg c l pa (iI inp.length) 4000 iF bc (iI o.length) 7000 bf 12000 tf (iI n) (iI ((p + 4 : Nat) : Int)) 1 else m_Opener_openChunk_J177 b0 ba0 (iI p) (iI inp.length) beg c l pa (iI inp.length) 4000 iF bc (iI o.length) 7000 bf 12000 tf (iI n) (iI ((p + 4 : Nat) : Int)) 0) = m_Opener_openChunk_J177 b0 ba0 (iI p) (iI inp.length) beg c l pa (iI inp.length) 4000 iF bc (iI o.length) 7000 bf 12000 tf (iI n) (iI ((p + 4 : Nat) : Int)) (if raw = true then 1 else 0) := by cases raw <;> rfl
    rw [hJ]
    unfold m_Opener_openChunk_J177
    obtain ⟨m, rfl⟩ : ∃ m, n = m + 4 := ⟨n - 4, by omega⟩
    rw [show iI ((m + 4 : Nat) : Int) - 4 = iI m by rw [lit_4, iI_sub]; congr 1; omega, iI_p (p + 4) (m + 4) _ rfl, show p + 4 + (m + 4) = p + 4 + 4 + m by omega]
    refine ok2_bind (ch_bytes (raw := raw) b1 b2 h hm hf hg (q := p + 4) (m := m) (by omega) (by omega) _ _ _ _ _ _ _) ?_
    rintro ⟨x0, x1, x2, x3, x4, x5, x6, x7, x8, x9, x10, x11, x12⟩ ⟨y0, y1, y2, y3, y4, y5, y6, y7, y8, y9, y10⟩ hR
    dsimp only
    rcases hR with ⟨d0, d1, o', fl2, k2, d2, d3, d4, d5, d6, d7, d8, d12, d13, d14, d15, d16⟩ | ⟨d0, d1, hb, o', d2⟩
    · dsimp only at d0 d1 d2 d3 d5 d6 d8 d12 d13 d14 d15 d16
      subst d0 d1
      unfold m_Mo_readChunks_J272
      rw [bch1, if_neg (show ¬ (1 : Int32) = 0 by decide)]
      exact ok2_some (Or.inl ⟨_, _, _, _, _, _, _, _, _, _, rfl, rfl, Or.inl ⟨rfl, rfl, o', fl2, k2, p + 4 + 4 + m, d2, d3, d4, d5, d6, d7, d8, rfl, by omega, by omega, d12, d13, d14, d15, d16⟩⟩)
    · dsimp only at d0 d1 hb d2
      subst d0 d1
      rw [bch0, if_pos rfl]
      exact ok2_some (Or.inr (Or.inl ⟨_, rfl, rfl, rfl, hb, o', d2⟩))
  · rw [if_neg c1, if_neg (show ¬ (1 : Int32) = 0 by decide), if_leF (by omega) (by omega) (by omega), Option.bind_some, Option.bind_some]
    dsimp only
    rw [bch0, bch0]
    exact ok2_some (Or.inr (Or.inl ⟨_, rfl, rfl, rfl, ⟨rfl, rfl, nz1⟩, o, h⟩))
theorem ch_b {inp o : List Int} {iF mif tf ff bf nf : Nat → Int32} {bc nm b0 ba0 r0 pl0 : Int32} {fl : List Int32} {k p n K : Nat} (b1 : BR 4000 (iI inp.length) iF inp) (b2 : MR (iI inp.length) mif inp) (h : BR 12000 (iI o.length) tf o) (hm : MR (iI o.length) ff o) (hf : FC k bc bf fl) (hg : FC k nm nf fl) (hk : 4 * k ≤ p) (hp : p + 4 ≤ inp.length) (hn2 : n < 16777216) (hK : 128 ≤ K) (hK2 : K < 256) (h6 : K = 255 → n = 6) (beg c l pa c' l' pa' : Int32) : ok2 (m_Opener_openChunk_J111 b0 ba0 (iI p) (iI inp.length) beg c l pa (iI inp.length) 4000 iF bc (iI o.length) 7000 bf 12000 tf (iI K) (iI n) 0) (m_Mo_readChunks_J171 (iI inp.length) 4000 mif 28000 28070 ff nf c' l' pa' nm r0 pl0 (iI p) (iI o.length) (iI K) (iI n) (iI ((p + 4 : Nat) : Int))) (RCK inp.length (p + 4) o.length b0 ba0 r0 pl0) := by
  have i4 := b1.2.1
  unfold m_Opener_openChunk_J111 m_Mo_readChunks_J171 m_Opener_breaks m_Mo_no
  rw [bnd_eq, iI_p p 4 4 rfl, s_lk n _ rfl (by omega) (by omega) (by omega), Option.bind_some, iI_sub]
  by_cases c1 : p + 4 + n ≤ inp.length
  · rw [if_pos c1, if_pos rfl, if_leT (by omega) (by omega) (by omega), bnd_eq, iI_p (p + 4) n _ rfl]
    have hgo : ok2 (m_Opener_openChunk_J160 b0 ba0 (iI p) (iI inp.length) beg c l pa (iI inp.length) 4000 iF bc (iI o.length) 7000 bf 12000 tf (iI K) (iI n) 0 (iI ((p + 4 : Nat) : Int))) (m_Mo_readChunks_J254 4000 mif 28000 28070 ff nf c' l' pa' nm r0 pl0 (iI p) (iI o.length) (iI K) (iI ((p + 4 : Nat) : Int)) (iI ((p + 4 + n : Nat) : Int))) (RCK inp.length (p + 4) o.length b0 ba0 r0 pl0) := by
      unfold m_Opener_openChunk_J160 m_Mo_readChunks_J254 m_Mo_readChunks_J272
      rw [if_pos rfl, bnd_eq, iI_p (p + 4) n _ rfl, if_pos (show (2 : Int32) ≤ iI (K : Int) by rw [lit_2, iI_le (by omega) (by omega)]; omega)]
      exact ok2_some (Or.inl ⟨_, _, _, _, _, _, _, _, _, _, rfl, rfl, Or.inl ⟨rfl, rfl, o, fl, k, p + 4 + n, h, hm, Nat.le_refl _, hf, hg, by omega, rfl, rfl, by omega, c1, rfl, rfl, rfl, rfl, rfl⟩⟩)
    by_cases c2 : K = 255
    · have hn6 := h6 c2
      subst c2 hn6
      rw [if_pos (show iI ((255 : Nat) : Int) = (255 : Int32) from rfl), if_pos (show iI ((255 : Nat) : Int) = (255 : Int32) from rfl)]
      refine ok2_l (s_isFirst b1 (q := p + 4) (by omega)) ?_
      intro x hx
      refine ok2_r (t_isFirst b2 i4 (q := p + 4) (by omega) _ _ _ _ _ _ _ _) ?_
      intro y hy
      rcases hx with ⟨rfl, hx⟩ | ⟨rfl, hx⟩
      · rcases hy with ⟨rfl, hy⟩ | ⟨rfl, hy⟩
        · rw [if_neg (show ¬ (1 : Int32) = 0 by decide)]
          exact hgo
        · exact absurd hx hy
      · rcases hy with ⟨rfl, hy⟩ | ⟨rfl, hy⟩
        · exact absurd hy hx
        · rw [if_pos rfl, Option.bind_some]
          dsimp only
          rw [bch0]
          exact ok2_some (Or.inr (Or.inl ⟨_, rfl, rfl, rfl, ⟨rfl, rfl, nz4⟩, o, h⟩))
    · have q1 : ¬ iI (K : Int) = (255 : Int32) := by rw [lit_255, iI_eq (by omega) (by omega)]; omega
      rw [if_neg q1, if_neg q1]
      exact hgo
  · rw [if_neg c1, if_neg (show ¬ (1 : Int32) = 0 by decide), if_leF (by omega) (by omega) (by omega), Option.bind_some, Option.bind_some]
    dsimp only
    rw [bch0, bch0]
    exact ok2_some (Or.inr (Or.inl ⟨_, rfl, rfl, rfl, ⟨rfl, rfl, nz1⟩, o, h⟩))
theorem op_chunk {inp o : List Int} {iF mif tf ff bf nf : Nat → Int32} {bc nm b0 ba0 r0 pl0 : Int32} {fl : List Int32} {k p : Nat} (b1 : BR 4000 (iI inp.length) iF inp) (b2 : MR (iI inp.length) mif inp) (h : BR 12000 (iI o.length) tf o) (hm : MR (iI o.length) ff o) (hf : FC k bc bf fl) (hg : FC k nm nf fl) (hk : 4 * k ≤ p) (hp : p < inp.length) (beg c l pa c' l' pa' : Int32) : ok2 (m_Opener_openChunk b0 ba0 (iI p) (iI inp.length) beg c l pa (iI inp.length) 4000 iF bc (iI o.length) 7000 bf 12000 tf) (m_Mo_readChunks_J60 (iI inp.length) 4000 mif 28000 28070 ff nf c' l' pa' nm r0 pl0 (iI p) (iI o.length) (iI (by_ inp p))) (RCK inp.length (p + 4) o.length b0 ba0 r0 pl0) := by
  have i4 := b1.2.1
  have hy := b1.by
  have hlt := hy.lt p
  have hnv := nv_lt hy (p + 1) 3
  rw [show 2 ^ (8 * 3) = 16777216 by decide] at hnv
  unfold m_Opener_openChunk m_Mo_readChunks_J60 m_Opener_breaks m_Mo_no
  rw [s_byteAt b1 (by omega) (by omega), Option.bind_some, s_lk 4 4 rfl (by omega) (by omega) (by omega), Option.bind_some, bnd_eq, iI_p p 1 1 rfl, iI_sub, i_nat3]
  obtain ⟨K, hKK⟩ : ∃ K, by_ inp p = K := ⟨_, rfl⟩
  rw [hKK] at hlt ⊢
  by_cases c1 : p + 4 ≤ inp.length
  · rw [if_pos c1, if_pos rfl, if_leT (by omega) (by omega) (by omega), s_number b1 (by omega) (by omega) (by omega), Option.bind_some, t_number b2 hy (by omega) i4 (by omega) (by omega), Option.bind_some, bnd_eq, bnd_eq, bnd_eq, jI_i, iI_p (p + 1) 3 _ rfl, show p + 1 + 3 = p + 4 by omega, iI_j (by omega), show (2 : Int64) = jI 2 from rfl, show (127 : Int64) = jI 127 from rfl, s_in (by omega) (by omega) (by omega), Option.bind_some]
    obtain ⟨n, hn⟩ : ∃ n, nv inp (p + 1) 3 = n := ⟨_, rfl⟩
    rw [hn] at hnv ⊢
    have hb15 : ok2 (m_Opener_openChunk_J81 (iI p) (iI inp.length) beg c l pa bc (iI o.length) bf tf) (some (.inr (.inl (ff, nf, c', l', pa', nm, r0, pl0, iI ((p + 4 : Nat) : Int), iI o.length, iI p)))) (RCK inp.length (p + 4) o.length b0 ba0 r0 pl0) := by
      unfold m_Opener_openChunk_J81 m_Opener_breaks
      rw [Option.bind_some]
      dsimp only
      rw [bch0]
      exact ok2_some (Or.inr (Or.inr ⟨_, rfl, rfl, rfl, rfl, o, h⟩))
    by_cases k2 : K < 2
    · obtain ⟨raw, hraw⟩ : ∃ raw : Bool, iI (K : Int) = if raw = true then (1 : Int32) else 0 := by
        rcases (show K = 0 ∨ K = 1 by omega) with rfl | rfl
        · exact ⟨false, rfl⟩
        · exact ⟨true, rfl⟩
      rw [if_neg (show ¬ ((2 : Int) ≤ (K : Int) ∧ (K : Int) ≤ 127) by omega), if_pos rfl, if_neg (show ¬ (2 : Int32) ≤ iI (K : Int) by rw [lit_2, iI_le (by omega) (by omega)]; omega), hraw]
      have hJ : ∀ (X Y : Option (Int32 × Int32 × Int32 × Int32 × Int32 × Int32 × Int32 × Int32 × Int32 × Int32 × Int32 × (Nat → Int32) × (Nat → Int32))), (if (if raw = true then (1 : Int32) else 0) = 0 then X else if (if raw = true then (1 : Int32) else 0) = 1 then X else Y) = X := by
        intro X Y
        cases raw
        · rfl
        · rfl
      rw [hJ]
      unfold m_Opener_openChunk_J59
      rw [if_neg (show ¬ (1 : Int32) = 0 by decide), lit_4]
      by_cases c4 : 4 ≤ n
      · rw [if_leT (by omega) (by omega) (by omega), if_leT (by omega) (by omega) (by omega)]
        have hK : ¬ (if raw = true then (1 : Int32) else 0) = 255 := by cases raw <;> decide
        unfold m_Opener_openChunk_J89 m_Mo_readChunks_J150
        rw [if_neg hK, if_neg hK]
        exact ch_a b1 b2 h hm hf hg hk c1 c4 hnv _ _ _ _ _ _ _
      · rw [if_leF (by omega) (by omega) (by omega), if_leF (by omega) (by omega) (by omega)]
        exact hb15
    · have q0 : ¬ iI (K : Int) = (0 : Int32) := by rw [iI_eq0 (by omega)]; omega
      have q1 : ¬ iI (K : Int) = (1 : Int32) := by rw [lit_1, iI_eq (by omega) (by omega)]; omega
      rw [if_neg q0, if_neg q1, if_pos (show (2 : Int32) ≤ iI (K : Int) by rw [lit_2, iI_le (by omega) (by omega)]; omega)]
      unfold m_Opener_openChunk_J59
      rw [if_pos rfl]
      by_cases k3 : K ≤ 127
      · rw [if_pos (show (2 : Int) ≤ (K : Int) ∧ (K : Int) ≤ 127 by omega), if_neg (show ¬ (1 : Int32) = 0 by decide), if_neg (show ¬ (128 : Int32) ≤ iI (K : Int) by rw [lit_128, iI_le (by omega) (by omega)]; omega)]
        exact hb15
      · rw [if_neg (show ¬ ((2 : Int) ≤ (K : Int) ∧ (K : Int) ≤ 127) by omega), if_pos rfl, if_pos (show (128 : Int32) ≤ iI (K : Int) by rw [lit_128, iI_le (by omega) (by omega)]; omega)]
        unfold m_Opener_openChunk_J89 m_Mo_readChunks_J150
        by_cases k4 : K = 255
        · have q2 : iI (K : Int) = (255 : Int32) := by rw [k4]; rfl
          rw [if_pos q2, if_pos q2, iI_nI, lit_6]
          by_cases c6 : n = 6
          · rw [if_eqT (by omega) (by omega) (by omega), if_eqT (by omega) (by omega) (by omega)]
            exact ch_b b1 b2 h hm hf hg hk c1 hnv (by omega) hlt (fun _ => c6) _ _ _ _ _ _ _
          · unfold m_Opener_breaks m_Mo_no
            rw [if_eqF (by omega) (by omega) (by omega), if_eqF (by omega) (by omega) (by omega), Option.bind_some, Option.bind_some]
            dsimp only
            rw [bch0, bch0]
            exact ok2_some (Or.inr (Or.inl ⟨_, rfl, rfl, rfl, ⟨rfl, rfl, nz4⟩, o, h⟩))
        · have q2 : ¬ iI (K : Int) = (255 : Int32) := by rw [lit_255, iI_eq (by omega) (by omega)]; omega
          rw [if_neg q2, if_neg q2]
          exact ch_b b1 b2 h hm hf hg hk c1 hnv (by omega) hlt (fun q => absurd q k4) _ _ _ _ _ _ _
  · rw [if_neg c1, if_neg (show ¬ (1 : Int32) = 0 by decide), if_leF (by omega) (by omega) (by omega), Option.bind_some, Option.bind_some]
    dsimp only
    rw [bch0, bch0]
    exact ok2_some (Or.inr (Or.inl ⟨_, rfl, rfl, rfl, ⟨rfl, rfl, nz1⟩, o, h⟩))
def Ich (e : Nat) (b0 ba0 r0 pl0 : Int32) (j : Nat) (s : (Nat → Int32) × (Nat → Int32) × Int32 × Int32 × Int32 × Int32 × Int32 × Int32 × Int32 × Int32 × Int32 × Int32 × Int32) (t : (Nat → Int32) × (Nat → Int32) × Int32 × Int32 × Int32 × Int32 × Int32 × Int32 × Int32 × Int32 × Int32) : Prop := ∃ (o : List Int) (fl : List Int32) (k p : Nat), BR 12000 s.2.2.2.2.2.2.2.2.2.2.2.1 s.2.1 o ∧ MR t.2.2.2.2.2.2.2.2.2.1 t.1 o ∧ FC k s.2.2.2.2.2.2.2.2.2.2.1 s.1 fl ∧ FC k t.2.2.2.2.2.1 t.2.1 fl ∧ 4 * k ≤ p ∧ s.2.2.2.2.2.2.2.1 = iI p ∧ t.2.2.2.2.2.2.2.2.1 = iI p ∧ j ≤ p ∧ p ≤ e ∧ s.2.2.2.2.2.2.2.2.1 = iI e ∧ s.2.2.2.2.2.1 = b0 ∧ s.2.2.2.2.2.2.1 = ba0 ∧ t.2.2.2.2.2.2.1 = r0 ∧ t.2.2.2.2.2.2.2.1 = pl0 ∧ s.2.2.2.2.2.2.2.2.2.2.2.2 = iI j ∧ (t.2.2.2.2.2.2.2.2.2.2 = 0 ∨ (t.2.2.2.2.2.2.2.2.2.2 = 1 ∧ p = 0))
theorem op_chunks {inp : List Int} {iF mif tf ff bf nf : Nat → Int32} {b0 ba0 r0 pl0 : Int32} (b1 : BR 4000 (iI inp.length) iF inp) (b2 : MR (iI inp.length) mif inp) (beg c l pa c' l' pa' : Int32) : ok2 (m_Opener_openChunks b0 ba0 0 (iI inp.length) beg c l pa (iI inp.length) 4000 iF 0 0 7000 bf 12000 tf) (m_Mo_readChunks (iI inp.length) 0 c' l' pa' 0 r0 pl0 0 4000 mif 28000 ff 28070 nf) (RFB inp.length 0 0 b0 ba0 r0 pl0) := by
  have i4 := b1.2.1
  have hy := b1.by
  have hlt := hy.lt 0
  have hlk : m_Opener_lacks (1 : Int32) 0 (iI inp.length) = some (if 0 + 1 ≤ inp.length then 0 else 1) := s_lk (p := 0) (e := inp.length) 1 1 rfl (by omega) (by omega) (by omega)
  have hat : m_Bytes_at (0 : Int32) (iI inp.length) 4000 iF = some (iI (by_ inp 0)) := s_byteAt b1 (by omega) (p := 0) (by omega)
  unfold m_Opener_openChunks m_Mo_readChunks m_Opener_breaks m_Mo_no
  rw [hlk, Option.bind_some]
  by_cases c0 : inp.length = 0
  · rw [if_neg (show ¬ 0 + 1 ≤ inp.length by omega), if_neg (show ¬ (1 : Int32) = 0 by decide), if_eq0T (by omega) (by omega), Option.bind_some, Option.bind_some]
    dsimp only
    rw [bch0, bch0]
    refine ok2_some (Or.inr ⟨rfl, rfl, ⟨rfl, ?_, nz1⟩, [], BR.nil _ _⟩)
    dsimp only
    rw [c0]
    rfl
  · rw [if_pos (show 0 + 1 ≤ inp.length by omega), if_pos rfl, if_eq0F (by omega) (by omega), hat, Option.bind_some]
    by_cases c1 : by_ inp 0 = 255
    · rw [if_pos (show iI (by_ inp 0 : Int) = (255 : Int32) by rw [c1]; rfl)]
      refine ok2_bindK ?_
      refine ok2_loop (Ich inp.length b0 ba0 r0 pl0) 4000 (by omega) ⟨[], [], 0, 0, BR.nil _ _, MR.nil _, FC.nil _, FC.nil _, by omega, rfl, rfl, by omega, by omega, rfl, rfl, rfl, rfl, rfl, rfl, Or.inr ⟨rfl, rfl⟩⟩ ?_
      rintro j ⟨s0, s1, s2, s3, s4, s5, s6, s7, s8, s9, s10, s11, s12⟩ ⟨t0, t1, t2, t3, t4, t5, t6, t7, t8, t9, t10⟩ hj ⟨o, fl, k, p, e1, e2, e4, e5, e6, e7, e8, e9, e10, e11, e12, e13, e14, e15, e16, e17⟩
      dsimp only at e1 e2 e4 e5 e7 e8 e11 e12 e13 e14 e15 e16 e17
      have h11 := e1.1
      have h9 := e2.1
      subst e7 e8 e11 e12 e13 e14 e15 e16 h11 h9
      unfold m_Opener_openChunks_B41 m_Mo_readChunks_B16 m_Mo_no
      dsimp only
      by_cases cp : inp.length ≤ p
      · have hfin : RFB inp.length 0 0 s5 s6 t6 t7 (1, s5, s6, iI p, iI inp.length, s9, s2, s3, s4, s10, iI o.length, s0, s1) (1, iI o.length, t2, t3, t4, t5, t6, t7, iI p, t0, t1) := Or.inl ⟨rfl, rfl, o, fl, k, p, e1, e2, by omega, e4, e5, e6, rfl, rfl, by omega, e10, rfl, rfl, rfl, rfl, rfl⟩
        rw [if_leT (by omega) (by omega) (by omega)]
        by_cases c4 : 4000 ≤ j
        · rw [lit_4000, if_leT (by omega) (by omega) (by omega), if_leT (by omega) (by omega) (by omega)]
          refine ok2_end ?_
          dsimp only
          unfold m_Opener_openChunks_E74
          exact ok2_some hfin
        · rw [lit_4000, if_leF (by omega) (by omega) (by omega), if_leT (by omega) (by omega) (by omega)]
          refine ok2_end ?_
          dsimp only
          unfold m_Opener_openChunks_E74
          exact ok2_some hfin
      · rw [lit_4000, if_leF (by omega) (by omega) (by omega), if_leF (by omega) (by omega) (by omega), if_leF (by omega) (by omega) (by omega), chk_iI (by omega) (by omega), iI_clamp (by omega) (by omega), Int.toNat_natCast, t_byteAt b2 (by omega), bnd_eq]
        have hT : ∀ (X Y : Option (((Nat → Int32) × (Nat → Int32) × Int32 × Int32 × Int32 × Int32 × Int32 × Int32 × Int32 × Int32 × Int32) ⊕ (((Nat → Int32) × (Nat → Int32) × Int32 × Int32 × Int32 × Int32 × Int32 × Int32 × Int32 × Int32 × Int32) ⊕ (Int32 × Int32 × Int32 × Int32 × Int32 × Int32 × Int32 × Int32 × Int32 × (Nat → Int32) × (Nat → Int32))))), (if t10 = 0 then X else if iI (by_ inp p : Int) = (255 : Int32) then X else Y) = X := by
          intro X Y
          rcases e17 with q | ⟨q, q2⟩
          · rw [if_pos q]
          · rw [if_neg (by rw [q]; decide), if_pos (by rw [q2, c1]; rfl)]
        rw [hT]
        obtain ⟨x, z, hx, hz, hR⟩ := op_chunk (b0 := s5) (ba0 := s6) (r0 := t6) (pl0 := t7) b1 b2 e1 e2 e4 e5 e6 (show p < inp.length by omega) s9 s2 s3 s4 t2 t3 t4
        obtain ⟨x0, x1, x2, x3, x4, x5, x6, x7, x8, x9, x10, x11, x12⟩ := x
        rw [hx, Option.bind_some, hz]
        dsimp only at hR ⊢
        rcases hR with ⟨ff', nf', c2, l2, pa2, nm2, r2, pl2, at2, fs2, rfl, rfl, hG⟩ | ⟨y, rfl, rfl, f0, hb, o', d2⟩ | ⟨y, rfl, rfl, rfl, rfl, o', d2⟩
        · rw [if_neg (show ¬ (1 : Int32) = 0 by decide), bnd_eq, iI_p j 1 1 rfl]
          rcases hG with ⟨_, _, o', fl2, k2, p2, d2, d3, d4, d5, d6, d7, rfl, rfl, d10, d11, rfl, rfl, rfl, rfl, rfl⟩ | ⟨q, _⟩
          · exact ok2_go ⟨j + 1, by omega, by omega, o', fl2, k2, p2, d2, d3, d5, d6, d7, rfl, rfl, by omega, d11, rfl, rfl, rfl, rfl, rfl, rfl, Or.inl rfl⟩
          · exact absurd q (by decide)
        · rw [if_pos rfl]
          refine ok2_end ?_
          dsimp only
          exact ok2_some (Or.inr ⟨rfl, f0, hb, o', d2⟩)
        · rw [if_pos rfl]
          refine ok2_end ?_
          dsimp only
          unfold m_Mo_readChunks_E142 m_Mo_no
          rw [Option.bind_some]
          dsimp only
          rw [bch0]
          exact ok2_some (Or.inr ⟨rfl, rfl, ⟨rfl, rfl, nz15⟩, o', d2⟩)
    · have q2 : ¬ iI (by_ inp 0 : Int) = (255 : Int32) := by rw [lit_255, iI_eq (by omega) (by omega)]; omega
      rw [if_neg q2, Option.bind_some]
      dsimp only
      rw [bch0]
      refine ok2_r (Q := fun o => o = .inr (0, 0, c', l', pa', 0, 4, 0, 0, ff, nf)) ?_ ?_
      · refine ok_loop (fun _ s => s = (ff, nf, c', l', pa', 0, r0, pl0, 0, 0, 1)) 0 (by omega) rfl ?_
        rintro j s hj rfl
        unfold m_Mo_readChunks_B16 m_Mo_no
        dsimp only
        rw [show (0 : Int32) = iI ((0 : Nat) : Int) from rfl, if_leF (by omega) (by omega) (by omega), chk_iI (by omega) (by omega), iI_clamp (by omega) (by omega), Int.toNat_natCast, t_byteAt b2 (by omega), bnd_eq, if_neg (show ¬ (1 : Int32) = iI ((0 : Nat) : Int) by decide), if_neg q2, Option.bind_some]
        dsimp only
        rw [show iI ((0 : Nat) : Int) = (0 : Int32) from rfl, bch0]
        exact ok_end rfl
      · rintro o rfl
        dsimp only
        exact ok2_some (Or.inr ⟨rfl, rfl, ⟨rfl, rfl, nz4⟩, [], BR.nil _ _⟩)
