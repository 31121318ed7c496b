/-! one block of a frame -/
theorem ok2_of {α β : Type} {m : Option α} {m' : Option β} {Q : α → Prop} {Q' : β → Prop} {P : α → β → Prop} (h : ok m Q) (h' : ok m' Q') (hj : ∀ a b, Q a → Q' b → P a b) : ok2 m m' P := by
  obtain ⟨a, e1, q1⟩ := h
  obtain ⟨b, e2, q2⟩ := h'
  exact ⟨a, b, e1, e2, hj a b q1 q2⟩
theorem jor' : ∀ a : Nat, a < 63 → ∀ b : Nat, b < 64 → jI ((64 * a + b : Nat) : Int) ||| 2147483648 = jI (((64 * a + b : Nat) : Int) + 2147483648) := by decide +kernel
theorem jor (z : Nat) (h : z < 4001) : jI (z : Int) ||| 2147483648 = jI ((z : Int) + 2147483648) := by
  have := jor' (z / 64) (by omega) (z % 64) (by omega)
  rw [show 64 * (z / 64) + z % 64 = z by omega] at this
  exact this
theorem jor0 (x : Int64) : x ||| 0 = x := by
  apply Int64.toBitVec_inj.mp
  simp
/-- the sum behind a block -/
def sm_ (sF : Nat → Int32) (body : List Int) : List Int := if sF 2 = 0 then [] else le (sumS (rd body) 0 body.length).toInt 4
theorem sm_len (sF : Nat → Int32) (body : List Int) : (sm_ sF body).length ≤ 4 := by
  unfold sm_
  split
  · exact Nat.zero_le _
  · rw [le_len]; exact Nat.le_refl _
def TX (sF : Nat → Int32) (t : List Int) (ct : Int32) (hF bF lF : Nat → Int32) (dp dl dm dO : Int32) : Prop := sF 1 ≠ 0 → TR ct hF bF lF t ∧ DN (gx t) t.length dp dl dm dO
theorem s_J133 {o body t : List Int} {z : Int} {k : Nat} {fl : List Int32} {sF : Nat → Int32} (f6 : Nat → Int32) (f7 : Nat → Int32) (f8 : Nat → Int32) (f9 : Nat → Int32) (f10 : Nat → Int32) (f11 : Nat → Int32) (f12 : Nat → Int32) (f13 : Nat → Int32) (f14 : Nat → Int32) (f15 : Nat → Int32) (f16 : Nat → Int32) (f17 : Nat → Int32) (g19 : Value) (g20 : Int32) (g21 : Int32) (g22 : Int32) (g23 : Int32) (g24 : Int32) (g25 : Value) (g26 : Int32) (g27 : Int32) (g28 : Int32) (g29 : Int32) (g30 : Int32) (g31 : Int32) (g32 : Int32) (g33 : Int32) (g34 : Int32) (u37 : Int32) (u38 : Int32) (u39 : Nat → Int32) (u40 : Nat → Int32) (h : BR 12000 u37 u40 (o ++ (le 0 4 ++ body))) (hl : o.length + body.length + 8 ≤ 12000) (hf : FC k u38 u39 fl) (tx : TX sF t g29 f16 f15 f17 g31 g32 g33 g34) : ok (m_Packer_packFrameBlock_J133 12000 6 sF (iI o.length) (iI ((o.length + 4 : Nat) : Int)) f6 f7 f8 f9 f10 f11 f12 f13 f14 f15 f16 f17 g19 g20 g21 g22 g23 g24 g25 g26 g27 g28 g29 g30 g31 g32 g33 g34 u37 u38 u39 u40 (iI body.length) (jI z)) (fun x => BR 12000 x.2.2.2.2.2.2.1 x.2.2.2.2.2.2.2.1 (o ++ (le z 4 ++ body ++ sm_ sF body)) ∧ FC k x.2.2.2.2.2.2.2.2.2.2.2.2.2.2.2.2.2.2.2.2.2.2.2.2.2.2.2.2.2.1 x.2.2.2.2.2.2.2.2.2.2.2.2.2.2.2.2.2.2.2.2.2.2.2.2.2.2.2.2.2.2.1 fl ∧ TX sF t x.2.2.2.2.2.2.2.2.2.2.1 x.2.2.2.2.2.2.2.2.2.2.2.2.2.2.2.2.2.2.2.1 x.2.2.2.2.2.2.2.2.2.2.2.2.2.2.2.2.2.2.2.2.1 x.2.2.2.2.2.2.2.2.2.2.2.2.2.2.2.2.2.2.2.2.2.2.2.2.2.2.2.2.2.2.2 x.2.2.2.2.2.2.2.2.2.2.2.2.1 x.2.2.2.2.2.2.2.2.2.2.2.2.2.1 x.2.2.2.2.2.2.2.2.2.2.2.2.2.2.1 x.2.2.2.2.2.2.2.2.2.2.2.2.2.2.2.1) := by
  unfold m_Packer_packFrameBlock_J133
  rw [i_nat4]
  refine ok_bind (s_change h (by omega) z (le_len 0 4) (by omega)) ?_
  intro f' hf'
  rw [is2, Option.bind_some, ite_01]
  have hlen : (o ++ (le z 4 ++ body)).length = o.length + 4 + body.length := by rw [List.length_append, List.length_append, le_len]; omega
  by_cases c : sF 2 = 0
  · rw [if_pos c]
    refine ok_some ⟨?_, hf, tx⟩
    unfold sm_
    rw [if_pos c, List.append_nil]
    exact hf'
  · rw [if_neg c, s_sumOf hf' (by omega) (by omega), Option.bind_some, i32_j]
    have e : sumS (rd (o ++ (le z 4 ++ body))) (o.length + 4) body.length = sumS (rd body) 0 body.length := by
      have := sumS_app (o ++ le z 4) body 0 body.length
      rw [List.append_assoc, List.length_append, le_len] at this
      exact this
    rw [e]
    refine ok_bind (s_addNumber _ (by omega) hf' (by omega) (by omega)) ?_
    rintro ⟨v1, v2⟩ hv
    refine ok_some ⟨?_, hf, tx⟩
    unfold sm_
    rw [if_neg c, ← List.append_assoc o (le z 4 ++ body)]
    exact hv
/-- a packed block's bytes, or those of the block itself -/
def fb (e r : List Int) (n : Nat) : List Int := if e.length < n then e else r
def fz (e : List Int) (n : Nat) : Int := if e.length < n then (e.length : Int) else (n : Int) + 2147483648
def frow (pl : Nat) (e : List Int) (n : Nat) (c l p : Int32) : List Int32 := if e.length < n then [iI pl, iI e.length, iI n, 0, c, l, p] else [iI pl, iI n, iI n, 1, 0, iI n, 0]
theorem fb_len {e r : List Int} {n : Nat} (h : r.length = n) : (fb e r n).length ≤ n ∧ (fb e r n).length ≤ n := by
  unfold fb
  split <;> omega
theorem s_J88 {o e t inp : List Int} {k from' n sh : Nat} {fl : List Int32} {sF bf iF f : Nat → Int32} {bcnt icnt cnt : Int32} (f6 : Nat → Int32) (f7 : Nat → Int32) (f8 : Nat → Int32) (f9 : Nat → Int32) (f10 : Nat → Int32) (f11 : Nat → Int32) (f12 : Nat → Int32) (f13 : Nat → Int32) (f14 : Nat → Int32) (f15 : Nat → Int32) (f16 : Nat → Int32) (f17 : Nat → Int32) (g19 : Value) (g20 : Int32) (g21 : Int32) (g22 : Int32) (g23 : Int32) (g24 : Int32) (g25 : Value) (g26 : Int32) (g27 : Int32) (g28 : Int32) (g29 : Int32) (g30 : Int32) (g31 : Int32) (g32 : Int32) (g33 : Int32) (g34 : Int32) (h : BR 12000 cnt f (o ++ le 0 4 ++ e)) (b1 : BR 4000 icnt iF inp) (hp : from' + n ≤ inp.length) (hk : k < 1000) (hl : o.length + n + 8 ≤ 12000) (hsh : sh ≤ 12000) (hf : FC k bcnt bf fl) (tx : TX sF t g29 f16 f15 f17 g31 g32 g33 g34) : ok (m_Packer_packFrameBlock_J88 (iI from') (iI n) (iI sh) 12000 6 sF bcnt icnt 7000 bf 4000 iF (iI o.length) (iI ((o.length + 4 : Nat) : Int)) f6 f7 f8 f9 f10 f11 f12 f13 f14 f15 f16 f17 f g19 g20 g21 g22 g23 g24 g25 g26 g27 g28 g29 g30 g31 g32 g33 g34 cnt) (fun x => BR 12000 x.2.2.2.2.2.2.1 x.2.2.2.2.2.2.2.1 (o ++ (le (fz e n) 4 ++ fb e ((inp.drop from').take n) n ++ sm_ sF (fb e ((inp.drop from').take n) n))) ∧ FC (k + 1) x.2.2.2.2.2.2.2.2.2.2.2.2.2.2.2.2.2.2.2.2.2.2.2.2.2.2.2.2.2.1 x.2.2.2.2.2.2.2.2.2.2.2.2.2.2.2.2.2.2.2.2.2.2.2.2.2.2.2.2.2.2.1 (fl ++ frow (sh + (o.length + 4)) e n g22 g23 g24) ∧ TX sF t x.2.2.2.2.2.2.2.2.2.2.1 x.2.2.2.2.2.2.2.2.2.2.2.2.2.2.2.2.2.2.2.1 x.2.2.2.2.2.2.2.2.2.2.2.2.2.2.2.2.2.2.2.2.1 x.2.2.2.2.2.2.2.2.2.2.2.2.2.2.2.2.2.2.2.2.2.2.2.2.2.2.2.2.2.2.2 x.2.2.2.2.2.2.2.2.2.2.2.2.1 x.2.2.2.2.2.2.2.2.2.2.2.2.2.1 x.2.2.2.2.2.2.2.2.2.2.2.2.2.2.1 x.2.2.2.2.2.2.2.2.2.2.2.2.2.2.2.1) := by
  have hPl : (o ++ le 0 4).length = o.length + 4 := by rw [List.length_append, le_len]
  have b2 := b1.2.1
  have hdt : ((inp.drop from').take n).length = n := by rw [List.length_take, List.length_drop]; omega
  have he := s_endBlock (sh := sh) h b1 hf hk hp (by omega) hsh g22 g23 g24
  rw [hPl] at he
  unfold m_Packer_packFrameBlock_J88 m_Bytes_size
  refine ok_bind he ?_
  rintro ⟨r36, u37, u38, u39, u40⟩ ⟨q1, q2⟩
  dsimp only at q1 q2 ⊢
  rw [Option.bind_some]
  unfold fz fb frow
  by_cases c : e.length < n
  · obtain ⟨rfl, hb, hfc⟩ := q1 c
    rw [if_pos c, if_pos c, if_pos c, bnd_eq, if_pos rfl, hb.1, List.length_append, hPl, iI_sub, show ((o.length + 4 + e.length : Nat) : Int) - ((o.length + 4 : Nat) : Int) = ((e.length : Nat) : Int) by omega, iI_j (by omega)]
    rw [List.append_assoc] at hb
    have hbl := hb.1
    rw [show (o ++ (le 0 4 ++ e)).length = o.length + 4 + e.length by rw [List.length_append, List.length_append, le_len]; omega] at hbl
    rw [← hbl]
    refine s_J133 (body := e) (t := t) _ _ _ _ _ _ _ _ _ _ _ _ _ _ _ _ _ _ _ _ _ _ _ _ _ _ _ _ _ _ _ _ hb (by omega) hfc tx
  · obtain ⟨rfl, hb, hfc⟩ := q2 c
    rw [if_neg c, if_neg c, if_neg c, bnd_eq, if_neg (show ¬ (1 : Int32) = 0 by decide), hb.1, List.length_append, hPl, hdt, iI_sub, show ((o.length + 4 + n : Nat) : Int) - ((o.length + 4 : Nat) : Int) = ((n : Nat) : Int) by omega, iI_j (by omega), show (2147483648 : Int64) = jI 2147483648 from rfl, jI_add]
    rw [List.append_assoc] at hb
    have hbl := hb.1
    rw [show (o ++ (le 0 4 ++ (inp.drop from').take n)).length = o.length + 4 + n by rw [List.length_append, List.length_append, le_len, hdt]; omega] at hbl
    rw [← hbl]
    have := s_J133 (body := (inp.drop from').take n) (z := (n : Int) + 2147483648) (t := t) (sF := sF) f6 f7 f8 f9 f10 f11 f12 f13 f14 f15 f16 f17 g19 g20 g21 g22 g23 g24 g25 g26 g27 g28 g29 g30 g31 g32 g33 g34 u37 u38 u39 u40 hb (by omega) hfc tx
    rw [hdt] at this
    exact this
theorem s_fblock {o dic inp : List Int} {k from' n sh lvl : Nat} {fl : List Int32} {sF bf iF wF f : Nat → Int32} {bcnt icnt wcnt cnt : Int32} (h0_sequences : Nat) (w_h0_bestRow_form : Value) (h0_bestRow_count : Int32) (h0_text_count : Int32) (h0_text_foundOffset : Int32) (h0_text_downPlace : Int32) (h0_text_downLimit : Int32) (h0_text_downMost : Int32) (h0_text_downOffset : Int32) (h0_bestRow_rests_last : Int32) (h0_bestRow_copies_last : Int32) (h0_copyAt_f : Nat → Int32) (h0_text_held_f : Nat → Int32) (h0_text_before_f : Nat → Int32) (h0_bestRow_lengthOfCopy_f : Nat → Int32) (h0_bestRow_rests_value_f : Nat → Int32) (h0_bestRow_rests_leastOnward_f : Nat → Int32) (h0_bestRow_rests_leastSoFar_f : Nat → Int32) (h0_bestRow_copies_value_f : Nat → Int32) (h0_bestRow_copies_leastOnward_f : Nat → Int32) (h0_bestRow_copies_leastSoFar_f : Nat → Int32) (h0_bestRow_placeOfCopy_f : Nat → Int32) (h0_text_latest_f : Nat → Int32) (h : BR 12000 cnt f o) (b1 : BR 4000 icnt iF inp) (b3 : BR 1000 wcnt wF dic) (hp : from' + n ≤ inp.length) (hk : k < 1000) (hl : o.length + 2 * n + 12 ≤ 12000) (hsh : sh ≤ 12000) (hf : FC k bcnt bf fl) (tx : TX sF (dic ++ inp) h0_text_count h0_text_held_f h0_text_before_f h0_text_latest_f h0_text_downPlace h0_text_downLimit h0_text_downMost h0_text_downOffset) {xs : List (Nat × Nat)} {t : List Int} {base : Nat} (htb : (sF 1 = 0 ∧ t = dic ++ (inp.drop from').take n ∧ base = dic.length) ∨ (sF 1 ≠ 0 ∧ t = dic ++ inp ∧ base = dic.length + from')) (hpl : PLAN true (gx t) base n lvl xs) : ok (m_Packer_packFrameBlock (iI from') (iI n) h0_sequences (iI lvl) (iI sh) cnt 12000 f 6 sF wcnt w_h0_bestRow_form h0_bestRow_count h0_text_count h0_text_foundOffset h0_text_downPlace h0_text_downLimit h0_text_downMost h0_text_downOffset 1 h0_bestRow_rests_last 0 h0_bestRow_copies_last 4000 h0_copyAt_f 5000 h0_text_held_f 5000 h0_text_before_f 4001 h0_bestRow_lengthOfCopy_f 4001 h0_bestRow_rests_value_f 4001 h0_bestRow_rests_leastOnward_f 4001 h0_bestRow_rests_leastSoFar_f 4001 h0_bestRow_copies_value_f 4001 h0_bestRow_copies_leastOnward_f 4001 h0_bestRow_copies_leastSoFar_f 4001 h0_bestRow_placeOfCopy_f bcnt icnt 7000 bf 4000 iF 256 h0_text_latest_f 1000 wF) (fun x => BR 12000 x.2.2.2.2.2.2.1 x.2.2.2.2.2.2.2.1 (o ++ (le (fz (em true (gx t) base n 0 xs) n) 4 ++ fb (em true (gx t) base n 0 xs) ((inp.drop from').take n) n ++ sm_ sF (fb (em true (gx t) base n 0 xs) ((inp.drop from').take n) n))) ∧ FC (k + 1) x.2.2.2.2.2.2.2.2.2.2.2.2.2.2.2.2.2.2.2.2.2.2.2.2.2.2.2.2.2.1 x.2.2.2.2.2.2.2.2.2.2.2.2.2.2.2.2.2.2.2.2.2.2.2.2.2.2.2.2.2.2.1 (fl ++ frow (sh + (o.length + 4)) (em true (gx t) base n 0 xs) n (iI xs.length) (iI (li n 0 xs)) (iI (pts true n 0 xs))) ∧ TX sF (dic ++ inp) x.2.2.2.2.2.2.2.2.2.2.1 x.2.2.2.2.2.2.2.2.2.2.2.2.2.2.2.2.2.2.2.1 x.2.2.2.2.2.2.2.2.2.2.2.2.2.2.2.2.2.2.2.2.1 x.2.2.2.2.2.2.2.2.2.2.2.2.2.2.2.2.2.2.2.2.2.2.2.2.2.2.2.2.2.2.2 x.2.2.2.2.2.2.2.2.2.2.2.2.1 x.2.2.2.2.2.2.2.2.2.2.2.2.2.1 x.2.2.2.2.2.2.2.2.2.2.2.2.2.2.1 x.2.2.2.2.2.2.2.2.2.2.2.2.2.2.2.1) := by
  have hPl : (o ++ le 0 4).length = o.length + 4 := by rw [List.length_append, le_len]
  have b2 := b1.2.1
  have b4 := b3.2.1
  have hdt : ((inp.drop from').take n).length = n := by rw [List.length_take, List.length_drop]; omega
  unfold m_Packer_packFrameBlock m_Bytes_size
  rw [Option.bind_some, j_0, i_nat4]
  refine ok_bind (s_addNumber _ (by omega) h (by omega) (by omega)) ?_
  rintro ⟨u2, u3⟩ hu
  dsimp only at hu ⊢
  have hu1 := hu.1
  rw [hPl] at hu1
  rw [Option.bind_some, is1, Option.bind_some, ite_01, h.1]
  rcases htb with ⟨c, rfl, rfl⟩ | ⟨c, rfl, rfl⟩
  · rw [if_pos c]
    refine ok_bind (s_load b3 b1 hp) ?_
    rintro ⟨u49, u50, u51, u52, u53⟩ ⟨ht, hdn⟩
    dsimp only at ht hdn ⊢
    rw [Option.bind_some, b3.1]
    refine ok_bind (s_block_S (lvl := lvl) hu ht (by omega) (by rw [List.length_append, hdt]; omega) hpl (by omega) _ _ _ _ _ _ _ _ _ _ _ _ _ _ _ _ _ _ _ (Or.inl hdn)) ?_
    rintro ⟨v0, v1, v2, v3, v4, v5, v6, v7, v8, v9, v10, v11, v12, v13, v14, v15, v16, v17, v18, v19, v20, v21, v22, v23, v24⟩ ⟨y1, y2, y3, y4, y5⟩
    dsimp only at y1 y2 y3 y4 y5 ⊢
    subst y1 y2 y3
    rw [hu1]
    refine s_J88 (t := dic ++ inp) _ _ _ _ _ _ _ _ _ _ _ _ _ _ _ _ _ _ _ _ _ _ _ _ _ _ _ _ y5 b1 hp hk (by omega) hsh hf (fun q => absurd c q)
  · rw [if_neg c]
    obtain ⟨ht, hdn⟩ := tx c
    rw [Option.bind_some, b3.1, iI_add, show (dic.length : Int) + (from' : Int) = ((dic.length + from' : Nat) : Int) by omega]
    refine ok_bind (s_block_S (lvl := lvl) hu ht (by omega) (by rw [List.length_append]; omega) hpl (by omega) _ _ _ _ _ _ _ _ _ _ _ _ _ _ _ _ _ _ _ hdn) ?_
    rintro ⟨v0, v1, v2, v3, v4, v5, v6, v7, v8, v9, v10, v11, v12, v13, v14, v15, v16, v17, v18, v19, v20, v21, v22, v23, v24⟩ ⟨y1, y2, y3, y4, y5⟩
    dsimp only at y1 y2 y3 y4 y5 ⊢
    subst y1 y2 y3
    rw [hu1]
    refine s_J88 (t := dic ++ inp) _ _ _ _ _ _ _ _ _ _ _ _ _ _ _ _ _ _ _ _ _ _ _ _ _ _ _ _ y5 b1 hp hk (by omega) hsh hf (fun _ => ⟨ht, y4⟩)
