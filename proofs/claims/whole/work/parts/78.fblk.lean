/-! a block of a frame: both sides -/
theorem jI_div {a b : Int} (h1 : 0 ≤ a ∧ a < 9223372036854775808) (h2 : 0 < b ∧ b < 9223372036854775808) : jI a / jI b = jI (a / b) := by
  apply Int64.toInt_inj.mp
  have hb : jI b ≠ -1 := by
    intro h
    have := congrArg Int64.toInt h
    rw [jI_toInt (by omega) (by omega)] at this
    have e : ((-1 : Int64)).toInt = -1 := by decide
    omega
  have h3 : 0 ≤ a / b := Int.ediv_nonneg h1.1 (by omega)
  have h4 : a / b ≤ a := Int.ediv_le_self b h1.1
  rw [Int64.toInt_div_of_ne_right _ _ hb, jI_toInt (by omega) (by omega), jI_toInt (by omega) (by omega), jI_toInt (by omega) (by omega), Int.tdiv_eq_ediv_of_nonneg h1.1]
theorem jI_rem {a b : Int} (h1 : 0 ≤ a ∧ a < 9223372036854775808) (h2 : 0 < b ∧ b < 9223372036854775808) : lrem (jI a) (jI b) = jI (a % b) := by
  show jI a - jI a / jI b * jI b = _
  rw [jI_div h1 h2, jI_mul, jI_sub, Int.emod_def, Int.mul_comm b]
theorem jI_and31 {a : Nat} (h : a < 18446744073709551616) : jI (a : Int) &&& 2147483647 = jI ((a % 2147483648 : Nat) : Int) := by
  apply Int64.toBitVec_inj.mp
  apply BitVec.eq_of_toNat_eq
  show ((jI (a : Int)).toBitVec &&& (2147483647 : Int64).toBitVec).toNat = _
  rw [BitVec.toNat_and, jI_nat h, jI_nat (by omega), show ((2147483647 : Int64).toBitVec).toNat = 2 ^ 31 - 1 from rfl, Nat.and_two_pow_sub_one_eq_mod]
theorem j_raw : (2147483648 : Int64) = jI 2147483648 := by decide
theorem lg_lt {β : Type} {a b : Int} (h1 : -9223372036854775808 ≤ a ∧ a < 9223372036854775808) (h2 : -9223372036854775808 ≤ b ∧ b < 9223372036854775808) (x y : β) : (if lg_cmp (jI a) (jI b) < 0 then x else y) = if a < b then x else y := by
  rw [lg_jI h1 h2]
  by_cases c : a < b
  · rw [if_pos c, if_pos (show iI (-1) < 0 by decide), if_pos c]
  · rw [if_neg c]
    by_cases c2 : b < a
    · rw [if_pos c2, if_neg (show ¬ iI 1 < 0 by decide), if_neg c]
    · rw [if_neg c2, if_neg (show ¬ iI 0 < 0 by decide), if_neg c]
theorem ish_w : ∀ w : Nat, w < 4 → ishl (1 : Int32) ((8 : Int32) + (2 : Int32) * iI ((w + 4 : Nat) : Int)) = iI ((65536 * 4 ^ w : Nat) : Int) := by decide +kernel
theorem lsh_w : ∀ w : Nat, w < 4 → lshl (1 : Int64) ((8 : Int32) + (2 : Int32) * iI ((w + 4 : Nat) : Int)) = jI ((65536 * 4 ^ w : Nat) : Int) := by decide +kernel
theorem pw_w : ∀ w : Nat, w < 4 → 65536 * 4 ^ w ≤ 4194304 := by decide +kernel
theorem t_note0 {k : Nat} {cnt : Int32} {F : Nat → Int32} {fl : List Int32} (h : FC k cnt F fl) (hk : k < 4000) (a1 a2 a3 c l p : Int32) : ok (m_Mo_note a1 a2 a3 0 c l p cnt 28070 F) (fun o => FC (k + 1) o.1 o.2 (fl ++ [a1, a2, a3, 0, c, l, p])) := t_note h hk a1 a2 a3 c l p false
theorem t_note1 {k : Nat} {cnt : Int32} {F : Nat → Int32} {fl : List Int32} (h : FC k cnt F fl) (hk : k < 4000) (a1 a2 a3 c l p : Int32) : ok (m_Mo_note a1 a2 a3 1 c l p cnt 28070 F) (fun o => FC (k + 1) o.1 o.2 (fl ++ [a1, a2, a3, 1, 0, a3, 0])) := t_note h hk a1 a2 a3 c l p true
theorem s_addPB {k : Nat} {bc : Int32} {bf : Nat → Int32} {fl : List Int32} (h : FC k bc bf fl) (hk : k < 1000) (a e t0 c l p t1 : Int32) : ok (m_Opener_addPackedBlock a e t0 c l p t1 bc 7000 bf) (fun o => FC (k + 1) o.1 o.2 (fl ++ [a, e - a, t1 - t0, 0, c, l, p])) := by
  unfold m_Opener_addPackedBlock m_Bytes_size
  rw [Option.bind_some]
  refine ok_bind (s_addPacked h hk _ _ _ _ _ _) ?_
  rintro ⟨u1, u2⟩ hu
  exact ok_some hu
theorem s_openRaw {k : Nat} {inp o : List Int} {iF tf bf : Nat → Int32} {tc bc b ba hd : Int32} {fl : List Int32} (b1 : BR 4000 (iI inp.length) iF inp) (h : BR 12000 tc tf o) (hf : FC k bc bf fl) (hk : k < 1000) {q n : Nat} (hq : q + n ≤ inp.length) : ok (m_Opener_openRaw (iI n) hd b ba (iI q) tc bc 7000 bf (iI inp.length) 12000 tf 4000 iF) (fun x => (o.length + n ≤ 12000 → x.1 = 1 ∧ x.2.1 = b ∧ x.2.2.1 = ba ∧ x.2.2.2.1 = iI ((q + n : Nat) : Int) ∧ BR 12000 x.2.2.2.2.1 x.2.2.2.2.2.2.2 (o ++ (inp.drop q).take n) ∧ FC (k + 1) x.2.2.2.2.2.1 x.2.2.2.2.2.2.1 (fl ++ [iI q, iI n, iI n, 1, 0, iI n, 0])) ∧ (¬ o.length + n ≤ 12000 → x.1 = 0 ∧ x.2.1 = 12 ∧ x.2.2.1 = hd ∧ BR 12000 x.2.2.2.2.1 x.2.2.2.2.2.2.2 o)) := by
  have i4 := b1.2.1
  have o4 := h.2.1
  have htc := h.1
  subst htc
  unfold m_Opener_openRaw m_Opener_breaks
  rw [iI_j (by omega), s_isOver (by omega) (by omega), Option.bind_some]
  by_cases c : o.length + n ≤ 12000
  · rw [if_pos (show (o.length : Int) + (n : Int) ≤ 12000 by omega), if_pos rfl]
    refine ok_bind (s_addRaw hf hk _ _) ?_
    rintro ⟨u1, u2⟩ hu
    dsimp only at hu ⊢
    refine ok_bind (s_addRange h b1 (by omega) (by omega) (p := q) (n := n) hq c) ?_
    rintro ⟨u3, u4⟩ hv
    dsimp only at hv ⊢
    rw [bnd_eq, iI_add]
    exact ok_some ⟨fun _ => ⟨rfl, rfl, rfl, rfl, hv, hu⟩, fun q => absurd c q⟩
  · rw [if_neg (show ¬ (o.length : Int) + (n : Int) ≤ 12000 by omega), if_neg (show ¬ (1 : Int32) = 0 by decide), Option.bind_some]
    dsimp only
    rw [bch0]
    exact ok_some ⟨fun q => absurd q c, fun _ => ⟨rfl, rfl, rfl, h⟩⟩
theorem t_rawB {mi fs : Int32} {mif ff : Nat → Int32} {inp o : List Int} (b2 : MR mi mif inp) (hin : inp.length ≤ 4000) (h : MR fs ff o) {q n : Nat} (hq : q + n ≤ inp.length) (hl : o.length + n ≤ 28000) (c l p r pl : Int32) : ok (iter (fun st => m_Mo_readBlock_B169 c l p r pl 4000 mif 28000 (iI ((q + n : Nat) : Int)) st.1 st.2.1 st.2.2) FU (ff, iI q, fs)) (fun x => MR x.2.2.2.2.2.2.2 x.1 (o ++ (inp.drop q).take n) ∧ x.2.1 = c ∧ x.2.2.1 = l ∧ x.2.2.2.1 = p ∧ x.2.2.2.2.1 = r ∧ x.2.2.2.2.2.1 = pl ∧ x.2.2.2.2.2.2.1 = iI ((q + n : Nat) : Int)) := by
  refine ok_loop (fun j s => j ≤ n ∧ s.2.1 = iI ((q + j : Nat) : Int) ∧ MR s.2.2 s.1 (o ++ (inp.drop q).take j)) n (by omega) ⟨by omega, rfl, by rw [List.take_zero, List.append_nil]; exact h⟩ ?_
  rintro j ⟨s1, s2, s3⟩ hj ⟨e1, e2, e3⟩
  dsimp only at e1 e2 e3
  subst e2
  unfold m_Mo_readBlock_B169
  dsimp only
  have hdl : (inp.drop q).length = inp.length - q := List.length_drop
  by_cases c : n ≤ j
  · rw [if_leT (by omega) (by omega) (by omega)]
    refine ok_end ⟨?_, rfl, rfl, rfl, rfl, rfl, by rw [show n = j by omega]⟩
    rw [show n = j by omega]
    exact e3
  · rw [if_leF (by omega) (by omega) (by omega), chk_iI (by omega) (by omega), iI_clamp (by omega) (by omega), Int.toNat_natCast]
    have hg := b2.2 (q + j) (by omega)
    rw [hg.2]
    refine ok_bind (t_put _ e3 (by rw [List.length_append, List.length_take]; omega) (by omega)) ?_
    rintro ⟨u1, u2⟩ hu
    dsimp only at hu ⊢
    rw [bnd_eq, lit_1, iI_add]
    refine ok_go ⟨j + 1, by omega, by omega, by omega, rfl, ?_⟩
    dsimp only
    rw [take_s (by omega), ← List.append_assoc]
    rw [show (inp.drop q).getD j 0 = inp.getD (q + j) 0 by simp [List.getD_eq_getElem?_getD, List.getElem?_drop]]
    rw [show inp.getD (q + j) 0 % 256 = inp.getD (q + j) 0 by omega] at hu
    exact hu
theorem t_rawC2 {mi fs : Int32} {mif ff : Nat → Int32} {inp o : List Int} (b2 : MR mi mif inp) (hin : inp.length ≤ 4000) (h : MR fs ff o) {q n : Nat} (hq : q + n ≤ inp.length) (hl : o.length + n ≤ 28000) (c l p r pl : Int32) : ok (iter (fun st => m_Mo_readChunk_B52 (iI ((q + n : Nat) : Int)) c l p r pl 4000 mif 28000 st.1 st.2.1 st.2.2) FU (ff, iI q, fs)) (fun x => MR x.2.2.2.2.2.2.2 x.1 (o ++ (inp.drop q).take n) ∧ x.2.1 = c ∧ x.2.2.1 = l ∧ x.2.2.2.1 = p ∧ x.2.2.2.2.1 = r ∧ x.2.2.2.2.2.1 = pl ∧ x.2.2.2.2.2.2.1 = iI ((q + n : Nat) : Int)) := t_rawB b2 hin h hq hl c l p r pl
/-- what both sides come to when a piece of the input was opened: it went well, or a rule is broken -/
def GD (ie p0 l0 : Nat) (b0 ba0 r0 pl0 : Int32) (xr xb xba xat xend xbc xtc : Int32) (xbf xtf : Nat → Int32) (yr yfs ynm yru ypl yat : Int32) (yff ynf : Nat → Int32) : Prop := (xr = 1 ∧ yr = 1 ∧ ∃ (o : List Int) (fl : List Int32) (k p : Nat), BR 12000 xtc xtf o ∧ MR yfs yff o ∧ l0 ≤ o.length ∧ FC k xbc xbf fl ∧ FC k ynm ynf fl ∧ 4 * k ≤ p ∧ xat = iI p ∧ yat = iI p ∧ p0 ≤ p ∧ p ≤ ie ∧ xend = iI ie ∧ xb = b0 ∧ xba = ba0 ∧ yru = r0 ∧ ypl = pl0) ∨ (xr = 0 ∧ yr = 0 ∧ BADR xb xba yru ypl ∧ ∃ o : List Int, BR 12000 xtc xtf o)
def RFB (ie p0 l0 : Nat) (b0 ba0 r0 pl0 : Int32) (x : Int32 × Int32 × Int32 × Int32 × Int32 × Int32 × Int32 × Int32 × Int32 × Int32 × Int32 × (Nat → Int32) × (Nat → Int32)) (y : Int32 × Int32 × Int32 × Int32 × Int32 × Int32 × Int32 × Int32 × Int32 × (Nat → Int32) × (Nat → Int32)) : Prop := GD ie p0 l0 b0 ba0 r0 pl0 x.1 x.2.1 x.2.2.1 x.2.2.2.1 x.2.2.2.2.1 x.2.2.2.2.2.2.2.2.2.1 x.2.2.2.2.2.2.2.2.2.2.1 x.2.2.2.2.2.2.2.2.2.2.2.1 x.2.2.2.2.2.2.2.2.2.2.2.2 y.1 y.2.1 y.2.2.2.2.2.1 y.2.2.2.2.2.2.1 y.2.2.2.2.2.2.2.1 y.2.2.2.2.2.2.2.2.1 y.2.2.2.2.2.2.2.2.2.1 y.2.2.2.2.2.2.2.2.2.2
theorem fb_seq {inp dic o : List Int} {iF wF mif mdf tf ff bf nf : Nat → Int32} {tc fs bc nm b0 ba0 r0 pl0 : Int32} {fl : List Int32} {k A n sb lo : Nat} (b1 : BR 4000 (iI inp.length) iF inp) (b2 : MR (iI inp.length) mif inp) (b3 : BR 1000 (iI dic.length) wF dic) (b4 : MR (iI dic.length) mdf dic) (h : BR 12000 tc tf o) (hm : MR fs ff o) (hf : FC k bc bf fl) (hg : FC k nm nf fl) (hA : A + 4 + n + sb ≤ inp.length) (hk : 4 * k ≤ A) (hlo : lo ≤ o.length) : ok2 (m_Opener_openFrameBlock_J193 b0 ba0 (iI A) (iI inp.length) 4000 iF bc tc 7000 bf 12000 tf (iI dic.length) 1000 wF (iI ((A + 4 : Nat) : Int)) (iI sb) (iI ((A + 4 + n : Nat) : Int)) (iI lo)) (m_Mo_readBlock_J222 (iI dic.length) fs nm r0 pl0 (iI ((A + 4 : Nat) : Int)) 4000 mif 28000 ff 28070 nf 1000 mdf (jI n) 0 (iI sb) (iI ((A + 4 + n : Nat) : Int)) (iI lo)) (RFB inp.length (A + 4) o.length b0 ba0 r0 pl0) := by
  have i4 := b1.2.1
  have o4 := h.2.1
  have htc := h.1
  have hfs := hm.1
  unfold m_Opener_openFrameBlock_J193 m_Mo_readBlock_J222
  refine ok2_bind (op_seq b1 b2 b3 b4 h hm (p0 := A + 4) (e := A + 4 + n) (lo := lo) (by omega) (by omega) hlo) ?_
  rintro ⟨x0, x1, x2, x3, x4, x5, x6, x7, x8, x9⟩ ⟨y0, y1, y2, y3, y4, y5, y6, y7, y8⟩ hR
  rcases hR with ⟨e0, f0, o', g1, g2, g3, g4, g5, g6, g7, g8, g9, g10, g11, g12, g13⟩ | ⟨e0, f0, hb, o', g1⟩
  · dsimp only at e0 f0 g1 g2 g4 g5 g6 g7 g8 g9 g10 g11 g12 g13 ⊢
    subst e0 f0 g4 g5 g6 g7 g8 g9 g10 g11 g12 g13
    rw [if_neg (show ¬ (1 : Int32) = 0 by decide), if_neg (show ¬ (1 : Int32) = 0 by decide)]
    unfold m_Bytes_size m_Mo_readBlock_J230
    rw [Option.bind_some, lit_4, iI_add, show (A : Int) + 4 = ((A + 4 : Nat) : Int) by omega, jI_i]
    refine ok2_l (s_addPB hf (by omega) _ _ _ _ _ _ _) ?_
    rintro ⟨u1, u2⟩ hu
    refine ok2_r (t_note0 hg (by omega) _ _ _ _ _ _) ?_
    rintro ⟨v1, v2⟩ hv
    dsimp only at hu hv ⊢
    unfold m_Opener_openFrameBlock_J219
    rw [bnd_eq, bnd_eq, iI_add, show ((A + 4 + n : Nat) : Int) + (sb : Int) = ((A + 4 + n + sb : Nat) : Int) by omega]
    rw [iI_sub, show ((A + 4 + n : Nat) : Int) - ((A + 4 : Nat) : Int) = (n : Int) by omega, htc, g1.1] at hu
    rw [hfs, g2.1] at hv
    exact ok2_some (Or.inl ⟨rfl, rfl, o', _, k + 1, A + 4 + n + sb, g1, g2, g3, hu, hv, by omega, rfl, rfl, by omega, hA, rfl, rfl, rfl, rfl, rfl⟩)
  · dsimp only at e0 f0 hb g1 ⊢
    subst e0 f0
    rw [if_pos rfl, if_pos rfl]
    exact ok2_some (Or.inr ⟨rfl, rfl, hb, o', g1⟩)
theorem fb_143 {inp dic o : List Int} {iF wF mif mdf tf ff bf nf : Nat → Int32} {tc fs bc nm b0 ba0 r0 pl0 : Int32} {fl : List Int32} {k A n sb fb N : Nat} {raw : Bool} (b1 : BR 4000 (iI inp.length) iF inp) (b2 : MR (iI inp.length) mif inp) (b3 : BR 1000 (iI dic.length) wF dic) (b4 : MR (iI dic.length) mdf dic) (h : BR 12000 tc tf o) (hm : MR fs ff o) (hf : FC k bc bf fl) (hg : FC k nm nf fl) (hA : A + 4 + n + sb ≤ inp.length) (hk : 4 * k ≤ A) (hfb : fb ≤ o.length) (hN : N = if raw = true then n + 2147483648 else n) (beg c l pa c' l' pa' F : Int32) : ok2 (m_Opener_openFrameBlock_J143 b0 ba0 (iI A) (iI inp.length) beg c l pa (iI fb) F (iI inp.length) 4000 iF bc tc 7000 bf 12000 tf (iI dic.length) 1000 wF (jI N) (iI n) (iI ((A + 4 : Nat) : Int)) (iI sb) (iI ((A + 4 + n : Nat) : Int))) (m_Mo_readBlock_J135 (iI A) F (iI fb) (iI dic.length) fs c' l' pa' nm r0 pl0 (iI ((A + 4 : Nat) : Int)) 4000 mif 28000 ff 28070 nf 1000 mdf (jI n) (if raw = true then 1 else 0) (iI sb) (iI ((A + 4 + n : Nat) : Int))) (RFB inp.length (A + 4) o.length b0 ba0 r0 pl0) := by
  have i4 := b1.2.1
  have o4 := h.2.1
  unfold m_Opener_openFrameBlock_J143 m_Mo_readBlock_J135
  cases raw
  · have hN2 : N = n := hN
    subst hN2
    rw [j_raw, lg_lt (by omega) (by omega), if_pos (show (N : Int) < 2147483648 by omega), if_pos (show (if false = true then (1 : Int32) else 0) = 0 from rfl)]
    unfold m_Opener_isFlag
    by_cases c32 : F &&& 32 = 0
    · rw [if_pos c32, if_pos c32, Option.bind_some, if_pos rfl]
      exact fb_seq b1 b2 b3 b4 h hm hf hg hA hk hfb
    · rw [if_neg c32, if_neg c32, Option.bind_some, if_neg (show ¬ (1 : Int32) = 0 by decide)]
      unfold m_Bytes_size
      have htc := h.1
      have hfs := hm.1
      rw [Option.bind_some]
      have := fb_seq (b0 := b0) (ba0 := ba0) (r0 := r0) (pl0 := pl0) (lo := o.length) b1 b2 b3 b4 h hm hf hg hA hk (Nat.le_refl _)
      rw [← htc] at this
      rw [show fs = tc by rw [htc, hfs]]
      rw [show fs = tc by rw [htc, hfs]] at this
      exact this
  · have hN2 : N = n + 2147483648 := hN
    subst hN2
    have hfs := hm.1
    rw [j_raw, lg_lt (by omega) (by omega), if_neg (show ¬ ((n + 2147483648 : Nat) : Int) < 2147483648 by omega), if_neg (show ¬ (if true = true then (1 : Int32) else 0) = 0 by decide), hfs, iI_j (by omega), jI_add, show (12000 : Int64) = jI 12000 from rfl, lg_le (by omega) (by omega), ← hfs]
    unfold m_Mo_no
    refine ok2_l (s_openRaw b1 h hf (by omega) (q := A + 4) (n := n) (by omega)) ?_
    rintro ⟨x0, x1, x2, x3, x4, x5, x6, x7⟩ ⟨g1, g2⟩
    dsimp only at g1 g2 ⊢
    by_cases co : o.length + n ≤ 12000
    · obtain ⟨rfl, rfl, rfl, rfl, g3, g4⟩ := g1 co
      rw [if_neg (show ¬ (1 : Int32) = 0 by decide), if_pos (show (o.length : Int) + (n : Int) ≤ 12000 by omega)]
      refine ok2_r (t_rawB b2 i4 hm (q := A + 4) (n := n) (by omega) (by omega) _ _ _ _ _) ?_
      rintro ⟨w0, w1, w2, w3, w4, w5, w6, w7⟩ ⟨z1, z2, z3, z4, z5, z6, z7⟩
      dsimp only at z1 z2 z3 z4 z5 z6 z7 ⊢
      subst z2 z3 z4 z5 z6 z7
      unfold m_Mo_readBlock_J230 m_Opener_openFrameBlock_J219
      rw [bnd_eq, jI_i]
      refine ok2_r (t_note1 hg (by omega) _ _ _ _ _ _) ?_
      rintro ⟨v1, v2⟩ hv
      have hol : (o ++ (inp.drop (A + 4)).take n).length = o.length + n := by rw [List.length_append, List.length_take, List.length_drop]; omega
      dsimp only at hv ⊢
      rw [hfs, z1.1, hol, iI_sub, show ((o.length + n : Nat) : Int) - (o.length : Int) = (n : Int) by omega] at hv
      rw [bnd_eq, iI_add, show ((A + 4 + n : Nat) : Int) + (sb : Int) = ((A + 4 + n + sb : Nat) : Int) by omega]
      exact ok2_some (Or.inl ⟨rfl, rfl, _, _, k + 1, A + 4 + n + sb, g3, z1, by omega, g4, hv, by omega, rfl, rfl, by omega, hA, rfl, rfl, rfl, rfl, rfl⟩)
    · obtain ⟨rfl, rfl, rfl, g3⟩ := g2 co
      rw [if_pos rfl, if_neg (show ¬ (o.length : Int) + (n : Int) ≤ 12000 by omega), Option.bind_some]
      dsimp only
      rw [bch0]
      exact ok2_some (Or.inr ⟨rfl, rfl, ⟨rfl, rfl, nz12⟩, o, g3⟩)
theorem fb_71 {inp dic o : List Int} {iF wF mif mdf tf ff bf nf : Nat → Int32} {tc fs bc nm b0 ba0 r0 pl0 : Int32} {fl : List Int32} {k A n sb fb N M : Nat} {raw : Bool} (b1 : BR 4000 (iI inp.length) iF inp) (b2 : MR (iI inp.length) mif inp) (b3 : BR 1000 (iI dic.length) wF dic) (b4 : MR (iI dic.length) mdf dic) (h : BR 12000 tc tf o) (hm : MR fs ff o) (hf : FC k bc bf fl) (hg : FC k nm nf fl) (hA : A + 4 ≤ inp.length) (hk : 4 * k ≤ A) (hfb : fb ≤ o.length) (hN : N = if raw = true then n + 2147483648 else n) (hsb : sb = 0 ∨ sb = 4) (hn : n ≤ M) (hM : M ≤ 4194304) (beg c l pa c' l' pa' F : Int32) : ok2 (m_Opener_openFrameBlock_J71 b0 ba0 (iI A) (iI inp.length) beg c l pa (iI fb) F (iI inp.length) 4000 iF bc tc 7000 bf 12000 tf (iI dic.length) 1000 wF (jI N) (iI n) (iI ((A + 4 : Nat) : Int)) (iI sb)) (m_Mo_readBlock_J34 (iI A) F (jI M) (iI fb) (iI inp.length) (iI dic.length) fs c' l' pa' nm r0 pl0 (iI ((A + 4 : Nat) : Int)) 4000 mif 28000 ff 28070 nf 1000 mdf (jI n) (if raw = true then 1 else 0) (iI sb)) (RFB inp.length (A + 4) o.length b0 ba0 r0 pl0) := by
  have i4 := b1.2.1
  have hy := b1.by
  unfold m_Opener_openFrameBlock_J71 m_Mo_readBlock_J34 m_Opener_breaks m_Mo_no
  rw [lg_le (by omega) (by omega), if_pos (show (n : Int) ≤ (M : Int) by omega), iI_add, s_lacks (by omega) (by omega) (by omega), Option.bind_some, iI_j (by omega), jI_add, iI_sub, iI_j (by omega), lg_le (by omega) (by omega)]
  by_cases c1 : (n : Int) + (sb : Int) ≤ (inp.length : Int) - ((A + 4 : Nat) : Int)
  · have hA2 : A + 4 + n + sb ≤ inp.length := by omega
    rw [if_pos c1, if_pos c1, if_pos rfl, bnd_eq, bnd_eq, jI_i, iI_add, show ((A + 4 : Nat) : Int) + (n : Int) = ((A + 4 + n : Nat) : Int) by omega]
    rcases hsb with rfl | rfl
    · rw [if_pos (show iI ((0 : Nat) : Int) ≤ 0 by decide), if_pos (show iI ((0 : Nat) : Int) ≤ 0 by decide)]
      exact fb_143 b1 b2 b3 b4 h hm hf hg hA2 hk hfb hN _ _ _ _ _ _ _ _
    · rw [if_neg (show ¬ iI ((4 : Nat) : Int) ≤ 0 by decide), if_neg (show ¬ iI ((4 : Nat) : Int) ≤ 0 by decide), s_num32 b1 (by omega) (by omega), Option.bind_some, i_nat4, t_number b2 hy (by omega) i4 (by omega) (by omega), Option.bind_some, s_sumOf b1 (by omega) (by omega), Option.bind_some, t_sumOf b2 (by omega) i4 (by omega), Option.bind_some, Option.bind_some, jI_i]
      by_cases c2 : iI (nv inp (A + 4 + n) 4) = sumS (rd inp) (A + 4) n
      · rw [if_pos c2, if_pos c2]
        exact fb_143 b1 b2 b3 b4 h hm hf hg hA2 hk hfb hN _ _ _ _ _ _ _ _
      · rw [if_neg c2, if_neg c2, Option.bind_some]
        dsimp only
        rw [bch0, bch0]
        exact ok2_some (Or.inr ⟨rfl, rfl, ⟨rfl, rfl, nz8⟩, o, h⟩)
  · rw [if_neg c1, if_neg c1, if_neg (show ¬ (1 : Int32) = 0 by decide), Option.bind_some, Option.bind_some]
    dsimp only
    rw [bch0, bch0]
    exact ok2_some (Or.inr ⟨rfl, rfl, ⟨rfl, rfl, nz1⟩, o, h⟩)
theorem fb_block {inp dic o : List Int} {iF wF mif mdf tf ff bf nf : Nat → Int32} {tc fs bc nm b0 ba0 r0 pl0 : Int32} {fl : List Int32} {k A fb w : Nat} (b1 : BR 4000 (iI inp.length) iF inp) (b2 : MR (iI inp.length) mif inp) (b3 : BR 1000 (iI dic.length) wF dic) (b4 : MR (iI dic.length) mdf dic) (h : BR 12000 tc tf o) (hm : MR fs ff o) (hf : FC k bc bf fl) (hg : FC k nm nf fl) (hA : A + 4 ≤ inp.length) (hk : 4 * k ≤ A) (hfb : fb ≤ o.length) (hw : w < 4) (beg c l pa c' l' pa' F : Int32) : ok2 (m_Opener_openFrameBlock b0 ba0 (iI A) (iI inp.length) beg c l pa (iI fb) F (iI ((w + 4 : Nat) : Int)) (iI inp.length) 4000 iF bc tc 7000 bf 12000 tf (iI dic.length) 1000 wF) (m_Mo_readBlock (iI A) (jI (nv inp A 4)) F (lshl (1 : Int64) ((8 : Int32) + (2 : Int32) * iI ((w + 4 : Nat) : Int))) (iI fb) (iI inp.length) (iI dic.length) fs c' l' pa' nm r0 pl0 (iI ((A + 4 : Nat) : Int)) 4000 mif 28000 ff 28070 nf 1000 mdf) (RFB inp.length (A + 4) o.length b0 ba0 r0 pl0) := by
  have i4 := b1.2.1
  have hy := b1.by
  have hnv := nv_lt hy A 4
  rw [show 2 ^ (8 * 4) = 4294967296 by decide] at hnv
  have hpw := pw_w w hw
  unfold m_Opener_openFrameBlock m_Mo_readBlock
  rw [ish_w w hw, lsh_w w hw, i_nat4, s_number b1 (by omega) (by omega) (by omega), Option.bind_some]
  obtain ⟨N, hNN⟩ : ∃ N, nv inp A 4 = N := ⟨_, rfl⟩
  rw [hNN] at hnv ⊢
  obtain ⟨n, hn, hn2⟩ : ∃ n, N % 2147483648 = n ∧ n < 2147483648 := ⟨_, rfl, by omega⟩
  obtain ⟨M, hM⟩ : ∃ M, 65536 * 4 ^ w = M := ⟨_, rfl⟩
  rw [hM] at hpw ⊢
  simp only [bnd_eq]
  rw [j_raw, jI_rem (by omega) (by omega), jI_i, jI_and31 (by omega), hn, show (N : Int) % 2147483648 = (n : Int) by omega]
  obtain ⟨raw, hN⟩ : ∃ raw : Bool, N = if raw = true then n + 2147483648 else n := by
    by_cases c : N = n
    · exact ⟨false, c⟩
    · exact ⟨true, by show N = n + 2147483648; omega⟩
  have e19 : ∀ (X : Int32 → Option (Int32 × Int32 × Int32 × Int32 × Int32 × Int32 × Int32 × Int32 × Int32 × (Nat → Int32) × (Nat → Int32))), (if lg_cmp (jI (N : Int)) (jI (n : Int)) = 0 then X 0 else X 1) = X (if raw = true then 1 else 0) := by
    intro X
    rw [lg_eq (by omega) (by omega)]
    cases raw
    · have q : N = n := hN
      rw [if_pos (show (N : Int) = (n : Int) by omega)]
      rfl
    · have q : N = n + 2147483648 := hN
      rw [if_neg (show ¬ (N : Int) = (n : Int) by omega)]
      rfl
  rw [e19 (m_Mo_readBlock_J19 (iI A) F (jI M) (iI fb) (iI inp.length) (iI dic.length) fs c' l' pa' nm r0 pl0 (iI ((A + 4 : Nat) : Int)) 4000 mif 28000 ff 28070 nf 1000 mdf (jI n))]
  unfold m_Mo_readBlock_J19
  by_cases c1 : n ≤ M
  · rw [if_leT (by omega) (by omega) (by omega), iI_add, show (A : Int) + ((4 : Nat) : Int) = ((A + 4 : Nat) : Int) by omega]
    unfold m_Opener_isFlag
    by_cases c16 : F &&& 16 = 0
    · rw [if_pos c16, if_pos c16, Option.bind_some, if_pos rfl]
      exact fb_71 (sb := 0) b1 b2 b3 b4 h hm hf hg hA hk hfb hN (Or.inl rfl) c1 hpw _ _ _ _ _ _ _ _
    · rw [if_neg c16, if_neg c16, Option.bind_some, if_neg (show ¬ (1 : Int32) = 0 by decide)]
      exact fb_71 (sb := 4) b1 b2 b3 b4 h hm hf hg hA hk hfb hN (Or.inr rfl) c1 hpw _ _ _ _ _ _ _ _
  · rw [if_leF (by omega) (by omega) (by omega)]
    have e34 : ∀ s3 : Int32, m_Mo_readBlock_J34 (iI A) F (jI M) (iI fb) (iI inp.length) (iI dic.length) fs c' l' pa' nm r0 pl0 (iI ((A + 4 : Nat) : Int)) 4000 mif 28000 ff 28070 nf 1000 mdf (jI n) (if raw = true then 1 else 0) s3 = some (0, fs, c', l', pa', nm, 7, iI A, iI ((A + 4 : Nat) : Int), ff, nf) := by
      intro s3
      unfold m_Mo_readBlock_J34 m_Mo_no
      rw [lg_le (by omega) (by omega), if_neg (show ¬ (n : Int) ≤ (M : Int) by omega), Option.bind_some]
      dsimp only
      rw [bch0]
    rw [e34, e34, ite_self]
    unfold m_Opener_breaks
    rw [Option.bind_some]
    dsimp only
    rw [bch0]
    exact ok2_some (Or.inr ⟨rfl, rfl, ⟨rfl, rfl, nz7⟩, o, h⟩)
