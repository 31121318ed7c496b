/-! all chunks -/
theorem ok2_e {α β : Type} {m : Option α} {m' : Option β} {Q : β → Prop} {P : α → β → Prop} (h : ok m' Q) (hk : ∀ b, Q b → ok2 m (some b) P) : ok2 m m' P := by
  obtain ⟨b, rfl, q⟩ := h
  exact hk b q
def Icm (inp pre : List Int) (i : Nat) (s : (Nat → Int32) × (Nat → Int32) × (Nat → Int32) × (Nat → Int32) × (Nat → Int32) × (Nat → Int32) × (Nat → Int32) × (Nat → Int32) × (Nat → Int32) × (Nat → Int32) × (Nat → Int32) × (Nat → Int32) × (Nat → Int32) × (Nat → Int32) × Value × Int32 × Int32 × Int32 × Int32 × Int32 × Value × Int32 × Int32 × Int32 × Int32 × Int32 × Int32 × Int32 × Int32 × Int32 × Int32 × Int32 × Int32) (t : (Nat → Int32) × (Nat → Int32) × (Nat → Int32) × (Nat → Int32) × (Nat → Int32) × (Nat → Int32) × (Nat → Int32) × (Nat → Int32) × (Nat → Int32) × (Nat → Int32) × (Nat → Int32) × (Nat → Int32) × Int32 × Int32 × Int32 × Int32 × Int32 × Int32 × Int32 × Int32 × Int32) : Prop := ∃ (o : List Int) (fl : List Int32) (from' : Nat), s.2.2.2.2.2.2.2.2.2.2.2.2.2.2.2.2.2.2.2.2.2.2.2.2.2.2.2.2.2.2.2.2 = iI from' ∧ t.2.2.2.2.2.2.2.2.2.2.2.2.2.2.2.2.2.2.2.2 = iI from' ∧ 16 * i ≤ from' ∧ from' ≤ 8000 ∧ o.length ≤ 10 + min from' inp.length + 8 * i ∧ BR 12000 s.2.2.2.2.2.2.2.2.2.2.2.2.2.2.2.2.2.2.2.2.2.2.2.2.2.2.2.2.2.2.2.1 s.2.2.2.2.2.2.2.2.2.2.2.2.2.1 o ∧ MR t.2.2.2.2.2.2.2.2.2.2.2.2.2.2.2.2.2.2.2.1 t.2.2.2.2.2.1 (pre ++ o) ∧ FC i s.2.2.2.2.2.2.2.2.2.2.2.2.2.2.2.2.2.2.2.2.2.2.2.2.1 s.2.2.2.2.2.2.2.2.1 fl ∧ FC i t.2.2.2.2.2.2.2.2.2.2.2.2.2.2.2.2.2.2.1 t.2.2.2.2.2.2.2.2.1 fl
def Pcm (pre : List Int) (x : Value × Int32 × Int32 × Int32 × Int32 × Int32 × Int32 × (Nat → Int32) × Int32 × Int32 × Int32 × Int32 × Int32 × Int32 × Value × Int32 × Int32 × Int32 × Int32 × (Nat → Int32) × (Nat → Int32) × (Nat → Int32) × (Nat → Int32) × (Nat → Int32) × (Nat → Int32) × (Nat → Int32) × (Nat → Int32) × (Nat → Int32) × (Nat → Int32) × (Nat → Int32) × (Nat → Int32) × (Nat → Int32)) (y : Int32 × Int32 × Int32 × Int32 × Int32 × Int32 × Int32 × Int32 × (Nat → Int32) × (Nat → Int32) × (Nat → Int32) × (Nat → Int32) × (Nat → Int32) × (Nat → Int32) × (Nat → Int32) × (Nat → Int32) × (Nat → Int32) × (Nat → Int32) × (Nat → Int32) × (Nat → Int32)) : Prop := ∃ (o : List Int) (fl : List Int32) (k : Nat), k ≤ 1000 ∧ o.length ≤ 8108 ∧ BR 12000 x.2.2.2.2.2.2.1 x.2.2.2.2.2.2.2.1 o ∧ MR y.1 y.2.2.2.2.2.2.2.2.1 (pre ++ o) ∧ FC k x.2.2.2.2.2.2.2.2.2.2.2.2.2.2.2.2.2.2.1 x.2.2.2.2.2.2.2.2.2.2.2.2.2.2.2.2.2.2.2.2.2.2.2.2.2.2.2.2.2.2.2 fl ∧ FC k y.2.2.2.2.2.2.2.1 y.2.2.2.2.2.2.2.2.2.2.2.2.2.2.2.2.2.2.2 fl
theorem ch_loop {inp pre : List Int} {B lvl : Nat} {sF mt iF mif mdf : Nat → Int32} {md : Int32} (b1 : BR 4000 (iI inp.length) iF inp) (b2 : MR (iI inp.length) mif inp) (hs : ∀ j, j < 6 → sF j = mt j) (hB : sF 0 = iI B) (hB1 : 16 ≤ B) (hB2 : B ≤ 4000) (hlvl : lvl ≤ 2) (hpre : pre.length ≤ 12000) (h0_elements : Nat) {s0 : (Nat → Int32) × (Nat → Int32) × (Nat → Int32) × (Nat → Int32) × (Nat → Int32) × (Nat → Int32) × (Nat → Int32) × (Nat → Int32) × (Nat → Int32) × (Nat → Int32) × (Nat → Int32) × (Nat → Int32) × (Nat → Int32) × (Nat → Int32) × Value × Int32 × Int32 × Int32 × Int32 × Int32 × Value × Int32 × Int32 × Int32 × Int32 × Int32 × Int32 × Int32 × Int32 × Int32 × Int32 × Int32 × Int32} {t0 : (Nat → Int32) × (Nat → Int32) × (Nat → Int32) × (Nat → Int32) × (Nat → Int32) × (Nat → Int32) × (Nat → Int32) × (Nat → Int32) × (Nat → Int32) × (Nat → Int32) × (Nat → Int32) × (Nat → Int32) × Int32 × Int32 × Int32 × Int32 × Int32 × Int32 × Int32 × Int32 × Int32} (h0 : Icm inp pre 0 s0 t0) : ok2 (iter (fun st => (m_Packer_packChunks_B64 h0_elements (iI lvl) (iI pre.length) 12000 (iI inp.length) 1 0 4000 iF 256 5000 5000 4000 4001 4001 4001 4001 4001 4001 4001 4001 7000 (iI B) st.1 st.2.1 st.2.2.1 st.2.2.2.1 st.2.2.2.2.1 st.2.2.2.2.2.1 st.2.2.2.2.2.2.1 st.2.2.2.2.2.2.2.1 st.2.2.2.2.2.2.2.2.1 st.2.2.2.2.2.2.2.2.2.1 st.2.2.2.2.2.2.2.2.2.2.1 st.2.2.2.2.2.2.2.2.2.2.2.1 st.2.2.2.2.2.2.2.2.2.2.2.2.1 st.2.2.2.2.2.2.2.2.2.2.2.2.2.1 st.2.2.2.2.2.2.2.2.2.2.2.2.2.2.1 st.2.2.2.2.2.2.2.2.2.2.2.2.2.2.2.1 st.2.2.2.2.2.2.2.2.2.2.2.2.2.2.2.2.1 st.2.2.2.2.2.2.2.2.2.2.2.2.2.2.2.2.2.1 st.2.2.2.2.2.2.2.2.2.2.2.2.2.2.2.2.2.2.1 st.2.2.2.2.2.2.2.2.2.2.2.2.2.2.2.2.2.2.2.1 st.2.2.2.2.2.2.2.2.2.2.2.2.2.2.2.2.2.2.2.2.1 st.2.2.2.2.2.2.2.2.2.2.2.2.2.2.2.2.2.2.2.2.2.1 st.2.2.2.2.2.2.2.2.2.2.2.2.2.2.2.2.2.2.2.2.2.2.1 st.2.2.2.2.2.2.2.2.2.2.2.2.2.2.2.2.2.2.2.2.2.2.2.1 st.2.2.2.2.2.2.2.2.2.2.2.2.2.2.2.2.2.2.2.2.2.2.2.2.1 st.2.2.2.2.2.2.2.2.2.2.2.2.2.2.2.2.2.2.2.2.2.2.2.2.2.1 st.2.2.2.2.2.2.2.2.2.2.2.2.2.2.2.2.2.2.2.2.2.2.2.2.2.2.1 st.2.2.2.2.2.2.2.2.2.2.2.2.2.2.2.2.2.2.2.2.2.2.2.2.2.2.2.1 st.2.2.2.2.2.2.2.2.2.2.2.2.2.2.2.2.2.2.2.2.2.2.2.2.2.2.2.2.1 st.2.2.2.2.2.2.2.2.2.2.2.2.2.2.2.2.2.2.2.2.2.2.2.2.2.2.2.2.2.1 st.2.2.2.2.2.2.2.2.2.2.2.2.2.2.2.2.2.2.2.2.2.2.2.2.2.2.2.2.2.2.1 st.2.2.2.2.2.2.2.2.2.2.2.2.2.2.2.2.2.2.2.2.2.2.2.2.2.2.2.2.2.2.2.1 st.2.2.2.2.2.2.2.2.2.2.2.2.2.2.2.2.2.2.2.2.2.2.2.2.2.2.2.2.2.2.2.2)) FU s0) (iter (fun st => (m_Mo_chunks_B39 (iI lvl) (iI inp.length) md 28000 6 mt 1000 mdf 5000 4000 mif 4000 260000 4001 4001 4001 4001 4000 4000 4000 28070 st.1 st.2.1 st.2.2.1 st.2.2.2.1 st.2.2.2.2.1 st.2.2.2.2.2.1 st.2.2.2.2.2.2.1 st.2.2.2.2.2.2.2.1 st.2.2.2.2.2.2.2.2.1 st.2.2.2.2.2.2.2.2.2.1 st.2.2.2.2.2.2.2.2.2.2.1 st.2.2.2.2.2.2.2.2.2.2.2.1 st.2.2.2.2.2.2.2.2.2.2.2.2.1 st.2.2.2.2.2.2.2.2.2.2.2.2.2.1 st.2.2.2.2.2.2.2.2.2.2.2.2.2.2.1 st.2.2.2.2.2.2.2.2.2.2.2.2.2.2.2.1 st.2.2.2.2.2.2.2.2.2.2.2.2.2.2.2.2.1 st.2.2.2.2.2.2.2.2.2.2.2.2.2.2.2.2.2.1 st.2.2.2.2.2.2.2.2.2.2.2.2.2.2.2.2.2.2.1 st.2.2.2.2.2.2.2.2.2.2.2.2.2.2.2.2.2.2.2.1 st.2.2.2.2.2.2.2.2.2.2.2.2.2.2.2.2.2.2.2.2)) FU t0) (Pcm pre) := by
  have i4 := b1.2.1
  have hBm : mt 0 = iI B := by rw [← hs 0 (by omega)]; exact hB
  refine ok2_loop (Icm inp pre) 1000 (by omega) h0 ?_
  rintro i ⟨s0, s1, s2, s3, s4, s5, s6, s7, s8, s9, s10, s11, s12, s13, s14, s15, s16, s17, s18, s19, s20, s21, s22, s23, s24, s25, s26, s27, s28, s29, s30, s31, s32⟩ ⟨t0, t1, t2, t3, t4, t5, t6, t7, t8, t9, t10, t11, t12, t13, t14, t15, t16, t17, t18, t19, t20⟩ hi ⟨o, fl, from', e1, e2, e3, e4, e5, e6, e7, e8, e9⟩
  dsimp only at e1 e2 e6 e7 e8 e9
  subst e1 e2
  unfold m_Packer_packChunks_B64 m_Mo_chunks_B39 m_Bytes_size
  dsimp only
  rw [Option.bind_some]
  by_cases c : inp.length ≤ from'
  · rw [if_leT (by omega) (by omega) (by omega), if_leT (by omega) (by omega) (by omega)]
    exact ok2_end ⟨o, fl, i, by omega, by omega, e6, e7, e8, e9⟩
  · rw [if_leF (by omega) (by omega) (by omega), if_leF (by omega) (by omega) (by omega), Option.bind_some, ck0, tc0, hBm, iI_sub, t_small (by omega) (by omega), Option.bind_some, iI_min (by omega) (by omega)]
    obtain ⟨n, hn, n1, n2, n3⟩ : ∃ n : Nat, min (B : Int) ((inp.length : Int) - (from' : Int)) = (n : Int) ∧ from' + n ≤ inp.length ∧ min (from' + B) inp.length = from' + n ∧ n ≤ B := ⟨min B (inp.length - from'), by omega, by omega, by omega, by omega⟩
    rw [hn]
    have hlen : (pre ++ o).length = pre.length + o.length := List.length_append
    have hmin : min from' inp.length = from' := by omega
    rw [hmin] at e5
    have hdt : ((inp.drop from').take n).length = n := by rw [List.length_take, List.length_drop]; omega
    obtain ⟨Z, hZ⟩ : ∃ Z, mskS (crcS (rd inp) from' n) = Z := ⟨_, rfl⟩
    have Z1 := Int32.le_toInt Z
    have Z2 := Int32.toInt_lt Z
    refine ok2_r (t_lay0 b2 i4 _ _ _ n1) ?_
    rintro ⟨w1, w2, w3⟩ ⟨a1, a2, a3⟩
    dsimp only at a1 a2 a3 ⊢
    have a1' : w1 = iI ((0 : Nat) : Int) := a1
    subst a1' a2
    have hmg : MG w3 (gx ((inp.drop from').take n)) n := a3.congr (fun j hj => by rw [gx_take hj])
    have hput := t_put (N := 28000) 0 e7 (by omega) (by omega)
    rw [show iI 0 = (0 : Int32) from rfl] at hput
    refine ok2_r hput ?_
    rintro ⟨w4, w5⟩ hw
    dsimp only at hw ⊢
    rw [← le1] at hw
    rw [j_0, i_nat3]
    refine ok2_r (t_lowest (by omega) (by omega) hw (by rw [List.length_append, le_len]; omega) (by omega)) ?_
    rintro ⟨w6, w7⟩ hw2
    dsimp only at hw2 ⊢
    rw [t_crcOf b2 (by omega) (by omega) n1, Option.bind_some, t_mask, Option.bind_some, hZ, i32_j, i_nat4]
    refine ok2_r (t_lowest ⟨by omega, by omega⟩ (by omega) hw2 (by rw [List.length_append, List.length_append, le_len, le_len]; omega) (by omega)) ?_
    rintro ⟨w8, w9⟩ hw3
    dsimp only at hw3 ⊢
    have hPl : (pre ++ o ++ le 0 1 ++ le 0 3 ++ le Z.toInt 4).length = pre.length + o.length + 8 := by rw [List.length_append, List.length_append, List.length_append, le_len, le_len, le_len, hlen]
    refine ok2_r (t_elements hmg (by omega) (lean := 0) (by omega) (by omega) hlvl hw3 (by omega) _ _ _ _ _ _ _ _ _) ?_
    rintro ⟨v0, v1, v2, v3, v4, v5, v6, v7, v8, v9, v10, v11, v12, v13, v14⟩ ⟨xs, hpl, y1, y2, y3, y4⟩
    dsimp only at y1 y2 y3 y4 ⊢
    subst y2 y3 y4
    have hem := em_len (sq := false) hpl.1
    have hec := hpl.2.2.1
    have hvh := vh_len n
    have hel : (vh n ++ em false (gx ((inp.drop from').take n)) 0 n 0 xs).length ≤ 2 * n + 3 := by rw [List.length_append]; omega
    refine ok2_l (s_chunk (lvl := lvl) (sh := pre.length) _ _ _ _ _ _ _ _ _ _ _ _ _ _ _ _ _ _ _ _ _ e6 b1 n1 (by omega) (by omega) hpre e8 hpl hZ) ?_
    rintro ⟨q0, q1, q2, q3, q4, q5, q6, q7, q8, q9, q10, q11, q12, q13, q14, q15, q16, q17, q18, q19, q20, q21, q22, q23, q24, q25, q26, q27, q28, q29, q30⟩ ⟨x1, x2⟩
    dsimp only at x1 x2 ⊢
    rw [bnd_eq, iI_add]
    generalize hee : vh n ++ em false (gx ((inp.drop from').take n)) 0 n 0 xs = e at y1 hel x1 x2
    have hcl := cb_len (e := e) hdt Z
    have hfin : ∀ r, Pcb (pre ++ o ++ cb e ((inp.drop from').take n) n Z) from' (i + 1) (B : Int) (fl ++ frow (pre.length + (o.length + 8)) e n (iI xs.length) (iI (li n 0 xs)) (iI (pts false n 0 xs))) r → ok2 (some (.inl (q26, q27, q25, q21, q28, q23, q24, q22, q30, q20, q15, q14, q13, q6, (Value.ref h0_elements), q0, q1, q2, q3, q4, q16, q17, q19, q18, q29, q7, q8, q9, q10, q11, q12, q5, iI ((from' : Int) + (B : Int)))) : Option (((Nat → Int32) × (Nat → Int32) × (Nat → Int32) × (Nat → Int32) × (Nat → Int32) × (Nat → Int32) × (Nat → Int32) × (Nat → Int32) × (Nat → Int32) × (Nat → Int32) × (Nat → Int32) × (Nat → Int32) × (Nat → Int32) × (Nat → Int32) × Value × Int32 × Int32 × Int32 × Int32 × Int32 × Value × Int32 × Int32 × Int32 × Int32 × Int32 × Int32 × Int32 × Int32 × Int32 × Int32 × Int32 × Int32) ⊕ (Value × Int32 × Int32 × Int32 × Int32 × Int32 × Int32 × (Nat → Int32) × Int32 × Int32 × Int32 × Int32 × Int32 × Int32 × Value × Int32 × Int32 × Int32 × Int32 × (Nat → Int32) × (Nat → Int32) × (Nat → Int32) × (Nat → Int32) × (Nat → Int32) × (Nat → Int32) × (Nat → Int32) × (Nat → Int32) × (Nat → Int32) × (Nat → Int32) × (Nat → Int32) × (Nat → Int32) × (Nat → Int32)))) (some r) (St2 (fun s' t' => ∃ k', i < k' ∧ k' ≤ 1000 ∧ Icm inp pre k' s' t') (Pcm pre)) := by
      rintro r ⟨s', rfl, z1, z2, z3⟩
      refine ok2_go ⟨i + 1, by omega, by omega, _, _, from' + B, rfl, z1, by omega, by omega, ?_, x1, ?_, x2, z3⟩
      · rw [n2, List.length_append]
        omega
      · rw [List.append_assoc] at z2
        exact z2
    have hlP : (pre ++ o ++ le 0 1 ++ le 0 3 ++ le Z.toInt 4 ++ e).length = pre.length + o.length + 8 + e.length := by rw [List.length_append, hPl]
    have hy1 := y1.1
    rw [hlP] at hy1
    rw [hy1, e7.1, hlen, iI_sub, show (8 : Int32) = iI 8 from rfl, iI_sub, bnd_eq, show ((pre.length + o.length + 8 + e.length : Nat) : Int) - ((pre.length + o.length : Nat) : Int) - 8 = (e.length : Int) by omega, ← hy1]
    unfold m_Mo_chunks_J134
    by_cases c2 : e.length < n
    · rw [if_ltT (by omega) (by omega) (by omega), if_pos rfl, ← hlen]
      rw [List.append_assoc, List.append_assoc, List.append_assoc] at y1
      refine ok2_e (t_C189 (P := pre ++ o) (body := e) (kd := 0) (B := (B : Int)) (raw := false) (Z := Z) _ _ _ _ _ _ _ _ _ _ _ _ _ _ _ _ y1 hBm (by omega) (by omega) e9 (by omega) rfl) ?_
      intro r hr
      refine hfin r ?_
      unfold cb fb frow
      rw [if_pos c2, if_pos c2, if_pos c2]
      rw [if_neg (show ¬ (false = true) by decide), hlen, Nat.add_assoc] at hr
      exact hr
    · rw [if_ltF (by omega) (by omega) (by omega), if_neg (show ¬ (1 : Int32) = 0 by decide), show (8 : Int32) = iI 8 from rfl, iI_add, bnd_eq, show ((pre.length + o.length : Nat) : Int) + 8 = ((pre.length + o.length + 8 : Nat) : Int) by omega]
      have ht := y1.take (k := pre.length + o.length + 8) (by omega)
      rw [← hPl, List.take_left, hPl] at ht
      refine ok2_r (t_rawC ht b2 i4 n1 (by omega)) ?_
      rintro ⟨f2, c3⟩ hf2
      dsimp only at hf2 ⊢
      unfold m_Mo_chunks_E178
      rw [chk_iI (by omega) (by omega), iI_clamp (by omega) (by omega), Int.toNat_natCast, ← hlen]
      rw [List.append_assoc, List.append_assoc, List.append_assoc, le1] at hf2
      have hset : MR c3 (upd f2 (pre ++ o).length (iI 1)) (pre ++ o ++ (le 1 1 ++ (le 0 3 ++ (le Z.toInt 4 ++ (inp.drop from').take n)))) := by
        have := MR.set (b := 1) hf2 (by omega)
        rw [le1]
        exact this
      refine ok2_e (t_C189 (P := pre ++ o) (body := (inp.drop from').take n) (kd := 1) (B := (B : Int)) (raw := true) (Z := Z) (bl := n) _ _ _ _ _ _ _ _ _ _ _ _ _ _ _ _ hset hBm (by rw [hdt]; omega) (by rw [hdt]; omega) e9 (by omega) hdt) ?_
      intro r hr
      refine hfin r ?_
      unfold cb fb frow
      rw [if_neg c2, if_neg c2, if_neg c2, hdt]
      rw [if_pos rfl, hlen, Nat.add_assoc, hdt] at hr
      exact hr
def s6 (j : Nat) : List Int := (List.range j).map (fun i => (fcv i).toInt % 256)
theorem s6_s (j : Nat) : s6 (j + 1) = s6 j ++ [(fcv j).toInt % 256] := by
  unfold s6
  rw [List.range_succ, List.map_append, List.map_singleton]
theorem s6_len (j : Nat) : (s6 j).length = j := by
  unfold s6
  rw [List.length_map, List.length_range]
theorem t_stream : ∀ j : Nat, j < 6 → m_Mo_stream (iI j) = some (fcv j) := by decide +kernel
theorem s_stream {cnt : Int32} {f : Nat → Int32} {xs : List Int} (h : BR 12000 cnt f xs) (hl : xs.length + 6 ≤ 12000) : ok (iter (fun st => m_Packer_packChunks_B32 12000 (nI 6) st.1 st.2.1 st.2.2) FU (f, cnt, 0)) (fun o => BR 12000 o.2 o.1 (xs ++ s6 6)) := by
  refine ok_loop (fun j s => s.2.2 = iI j ∧ BR 12000 s.2.1 s.1 (xs ++ s6 j)) 6 (by omega) ⟨rfl, by show BR 12000 cnt f (xs ++ []); rw [List.append_nil]; exact h⟩ ?_
  rintro j ⟨a1, a2, a3⟩ hj ⟨e1, e2⟩
  dsimp only at e1 e2
  subst e1
  unfold m_Packer_packChunks_B32
  dsimp only
  by_cases c : 6 ≤ j
  · rw [iI_nI, if_leT (by omega) (by omega) (by omega)]
    have : j = 6 := by omega
    subst this
    exact ok_end e2
  · rw [iI_nI, if_leF (by omega) (by omega) (by omega), chk_iI (by omega) (by omega), iI_clamp (by omega) (by omega), Int.toNat_natCast, bnd_eq, iI_of (fcv j)]
    refine ok_bind (s_add _ e2 (by rw [List.length_append, s6_len]; omega) (by omega)) ?_
    rintro ⟨u1, u2⟩ hu
    dsimp only at hu ⊢
    rw [bnd_eq, lit_1, iI_add]
    refine ok_go ⟨j + 1, by omega, by omega, rfl, ?_⟩
    dsimp only
    rw [s6_s, ← List.append_assoc]
    exact hu
theorem t_stream6 {cnt : Int32} {f : Nat → Int32} {xs : List Int} (h : MR cnt f xs) (hl : xs.length + 6 ≤ 28000) : ok (iter (fun st => m_Mo_chunks_B17 28000 st.1 st.2.1 st.2.2) FU (f, cnt, 0)) (fun o => MR o.2 o.1 (xs ++ s6 6)) := by
  refine ok_loop (fun j s => s.2.2 = iI j ∧ MR s.2.1 s.1 (xs ++ s6 j)) 6 (by omega) ⟨rfl, by show MR cnt f (xs ++ []); rw [List.append_nil]; exact h⟩ ?_
  rintro j ⟨a1, a2, a3⟩ hj ⟨e1, e2⟩
  dsimp only at e1 e2
  subst e1
  unfold m_Mo_chunks_B17
  dsimp only
  by_cases c : 6 ≤ j
  · rw [lit_6, if_leT (by omega) (by omega) (by omega)]
    have : j = 6 := by omega
    subst this
    exact ok_end e2
  · rw [lit_6, if_leF (by omega) (by omega) (by omega), t_stream j (by omega), Option.bind_some, iI_of (fcv j)]
    refine ok_bind (t_put _ e2 (by rw [List.length_append, s6_len]; omega) (by omega)) ?_
    rintro ⟨u1, u2⟩ hu
    dsimp only at hu ⊢
    rw [bnd_eq, lit_1, iI_add]
    refine ok_go ⟨j + 1, by omega, by omega, rfl, ?_⟩
    dsimp only
    rw [s6_s, ← List.append_assoc]
    exact hu
theorem ch_chunks {inp pre : List Int} {B lvl : Nat} {sF mt iF mif mdf f bF mf nbF : Nat → Int32} {cnt mc md : Int32} (b1 : BR 4000 (iI inp.length) iF inp) (b2 : MR (iI inp.length) mif inp) (hs : ∀ j, j < 6 → sF j = mt j) (hB : sF 0 = iI B) (hB1 : 16 ≤ B) (hB2 : B ≤ 4000) (hlvl : lvl ≤ 2) (hpre : pre.length ≤ 12000) (h : BR 12000 cnt f []) (hm : MR mc mf pre) (h0_elements : Nat) (w_h0_form : Value) (h0_base : Int32) (h0_count : Int32) (h0_copies : Int32) (h0_literals : Int32) (h0_parts : Int32) (h0_text_count : Int32) (h0_text_foundOffset : Int32) (h0_text_downPlace : Int32) (h0_text_downLimit : Int32) (h0_text_downMost : Int32) (h0_text_downOffset : Int32) (w_h0_bestRow_form : Value) (h0_bestRow_count : Int32) (h0_bestRow_rests_last : Int32) (h0_bestRow_copies_last : Int32) (h0_text_latest_f : Nat → Int32) (h0_text_held_f : Nat → Int32) (h0_text_before_f : Nat → Int32) (h0_copyAt_f : Nat → Int32) (h0_bestRow_lengthOfCopy_f : Nat → Int32) (h0_bestRow_rests_value_f : Nat → Int32) (h0_bestRow_rests_leastOnward_f : Nat → Int32) (h0_bestRow_rests_leastSoFar_f : Nat → Int32) (h0_bestRow_copies_value_f : Nat → Int32) (h0_bestRow_copies_leastOnward_f : Nat → Int32) (h0_bestRow_copies_leastSoFar_f : Nat → Int32) (h0_bestRow_placeOfCopy_f : Nat → Int32) (mtf mmf mof mca mcl mco mwc mbc mfh mbl : Nat → Int32) (mcp mle msz mc1 mc2 mc3 : Int32) : ok2 (m_Packer_packChunks h0_elements (iI lvl) (iI pre.length) w_h0_form h0_base h0_count h0_copies h0_literals h0_parts cnt 12000 f 6 sF (iI inp.length) h0_text_count h0_text_foundOffset h0_text_downPlace h0_text_downLimit h0_text_downMost h0_text_downOffset w_h0_bestRow_form h0_bestRow_count 1 h0_bestRow_rests_last 0 h0_bestRow_copies_last 0 4000 iF 256 h0_text_latest_f 5000 h0_text_held_f 5000 h0_text_before_f 4000 h0_copyAt_f 4001 h0_bestRow_lengthOfCopy_f 4001 h0_bestRow_rests_value_f 4001 h0_bestRow_rests_leastOnward_f 4001 h0_bestRow_rests_leastSoFar_f 4001 h0_bestRow_copies_value_f 4001 h0_bestRow_copies_leastOnward_f 4001 h0_bestRow_copies_leastSoFar_f 4001 h0_bestRow_placeOfCopy_f 7000 bF) (m_Mo_chunks (iI lvl) (iI inp.length) md mc mle msz mcp mc1 mc2 mc3 0 28000 mf 6 mt 1000 mdf 5000 mtf 4000 mif 4000 mmf 260000 mof 4001 mwc 4001 mbc 4001 mfh 4001 mbl 4000 mca 4000 mcl 4000 mco 28070 nbF) (Pcm pre) := by
  have i4 := b1.2.1
  unfold m_Packer_packChunks m_Mo_chunks
  rw [lit_255]
  refine ok2_l (s_add _ h (by simp) (by omega)) ?_
  rintro ⟨u1, u2⟩ hu
  dsimp only at hu ⊢
  refine ok2_r (t_put _ hm (by omega) (by omega)) ?_
  rintro ⟨v1, v2⟩ hv
  dsimp only at hv ⊢
  rw [List.nil_append] at hu
  rw [show (nI 6).toInt64 = jI 6 from rfl, show (6 : Int64) = jI 6 from rfl, i_nat3]
  refine ok2_l (s_addNumber _ (by omega) hu (by simp) (by omega)) ?_
  rintro ⟨u3, u4⟩ hu2
  dsimp only at hu2 ⊢
  refine ok2_r (t_lowest (by omega) (by omega) hv (by rw [List.length_append, List.length_singleton]; omega) (by omega)) ?_
  rintro ⟨v3, v4⟩ hv2
  dsimp only at hv2 ⊢
  rw [List.append_assoc] at hv2
  have hkl : ([255 % 256] ++ le 6 3 : List Int).length = 4 := by rw [List.length_append, le_len, List.length_singleton]
  rw [bnd_eq]
  refine ok2_l (s_stream hu2 (by omega)) ?_
  rintro ⟨u5, u6⟩ hu3
  dsimp only at hu3 ⊢
  refine ok2_r (t_stream6 hv2 (by rw [List.length_append, hkl]; omega)) ?_
  rintro ⟨v5, v6⟩ hv3
  dsimp only at hv3 ⊢
  rw [List.append_assoc] at hv3
  unfold m_Packer_packChunks_E57 m_Mo_chunks_E37 m_Packer_blockBytes
  rw [ck0, tc0, hB, lit_16, iI_max (by omega) (by omega), Option.bind_some, show max (16 : Int) (B : Int) = ((B : Nat) : Int) by omega]
  refine ok2_bind (ch_loop b1 b2 hs hB hB1 hB2 hlvl hpre h0_elements ⟨_, [], 0, rfl, rfl, by omega, by omega, by rw [List.length_append, hkl, s6_len]; omega, hu3, hv3, FC.nil _, FC.nil _⟩) ?_
  intro a b hab
  exact ok2_some hab
