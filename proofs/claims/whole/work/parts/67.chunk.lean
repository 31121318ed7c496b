/-! the chunks -/
theorem le_41 : le 0 4 = le 0 1 ++ le 0 3 := by decide
def cb (e r : List Int) (n : Nat) (Z : Int32) : List Int := le (if e.length < n then 0 else 1) 1 ++ (le (((fb e r n).length : Int) + 4) 3 ++ (le Z.toInt 4 ++ fb e r n))
theorem cb_len {e r : List Int} {n : Nat} (h : r.length = n) (Z : Int32) : (cb e r n Z).length ≤ n + 8 := by
  have := (fb_len (e := e) h).1
  unfold cb
  rw [List.length_append, List.length_append, List.length_append, le_len, le_len, le_len]
  omega
theorem s_C92 {o body : List Int} {z : Int} {Z : Int32} (u8 : Int32) (u10 : Nat → Int32) (u11 : Nat → Int32) (u12 : Nat → Int32) (u13 : Int32) (u14 : Int32) (u15 : Int32) (u16 : Int32) (u17 : Int32) (u18 : Nat → Int32) (u19 : Value) (u20 : Int32) (u21 : Int32) (u22 : Int32) (u23 : Int32) (u24 : Int32) (u25 : Int32) (u26 : Int32) (u27 : Int32) (u28 : Nat → Int32) (u29 : Nat → Int32) (u30 : Nat → Int32) (u31 : Nat → Int32) (u32 : Nat → Int32) (u33 : Nat → Int32) (u34 : Nat → Int32) (u35 : Nat → Int32) (u39 : Int32) (u40 : Int32) (u41 : Nat → Int32) (u42 : Nat → Int32) (h : BR 12000 u39 u42 (o ++ (le 0 4 ++ (le Z.toInt 4 ++ body)))) : ok (m_Packer_packChunk_J92 12000 (iI o.length) (iI ((o.length + 8 : Nat) : Int)) u8 u10 u11 u12 u13 u14 u15 u16 u17 u18 u19 u20 u21 u22 u23 u24 u25 u26 u27 u28 u29 u30 u31 u32 u33 u34 u35 u39 u40 u41 u42 (jI z)) (fun x => BR 12000 x.2.2.2.2.2.1 x.2.2.2.2.2.2.1 (o ++ (le z 1 ++ (le ((body.length : Int) + 4) 3 ++ (le Z.toInt 4 ++ body)))) ∧ x.2.2.2.2.2.2.2.2.2.2.2.2.2.2.2.2.2.2.2.2.2.2.2.2.2.2.2.2.2.1 = u40 ∧ x.2.2.2.2.2.2.2.2.2.2.2.2.2.2.2.2.2.2.2.2.2.2.2.2.2.2.2.2.2.2 = u41) := by
  have hl0 : (o ++ (le 0 4 ++ (le Z.toInt 4 ++ body))).length = o.length + 8 + body.length := by rw [List.length_append, List.length_append, List.length_append, le_len, le_len]; omega
  have hc := h.1
  have hl2 := h.2.1
  rw [hl0] at hc hl2
  unfold m_Packer_packChunk_J92 m_Bytes_size
  rw [le_41, List.append_assoc] at h
  have e1 := s_change h (by omega) z (k := 1) (le_len 0 1) (by omega)
  rw [show iI ((1 : Nat) : Int) = (1 : Int32) from rfl] at e1
  refine ok_bind e1 ?_
  intro f1 h1
  rw [Option.bind_some, hc, lit_1, iI_add, iI_sub, lit_4, iI_add, show ((o.length + 8 + body.length : Nat) : Int) - ((o.length + 8 : Nat) : Int) + 4 = (body.length : Int) + 4 by omega, iI_j (by omega), i_nat3, ← hc, show (o.length : Int) + 1 = ((o ++ le z 1).length : Int) by rw [List.length_append, le_len]; omega]
  rw [← List.append_assoc] at h1
  refine ok_bind (s_change h1 (by omega) ((body.length : Int) + 4) (k := 3) (le_len 0 3) (by omega)) ?_
  intro f2 h2
  refine ok_some ⟨?_, rfl, rfl⟩
  rw [List.append_assoc] at h2
  exact h2
theorem s_chunk {o inp : List Int} {k from' n sh lvl : Nat} {fl : List Int32} {bf iF f : Nat → Int32} {bcnt icnt cnt : Int32} (h0_elements : Nat) (h0_text_foundOffset : Int32) (h0_text_downLimit : Int32) (h0_text_downMost : Int32) (h0_text_downOffset : Int32) (h0_text_latest_f : Nat → Int32) (h0_text_held_f : Nat → Int32) (h0_text_before_f : Nat → Int32) (w_h0_bestRow_form : Value) (h0_bestRow_count : Int32) (h0_bestRow_rests_last : Int32) (h0_bestRow_copies_last : Int32) (h0_copyAt_f : Nat → Int32) (h0_bestRow_lengthOfCopy_f : Nat → Int32) (h0_bestRow_rests_value_f : Nat → Int32) (h0_bestRow_rests_leastOnward_f : Nat → Int32) (h0_bestRow_rests_leastSoFar_f : Nat → Int32) (h0_bestRow_copies_value_f : Nat → Int32) (h0_bestRow_copies_leastOnward_f : Nat → Int32) (h0_bestRow_copies_leastSoFar_f : Nat → Int32) (h0_bestRow_placeOfCopy_f : Nat → Int32) (h : BR 12000 cnt f o) (b1 : BR 4000 icnt iF inp) (hp : from' + n ≤ inp.length) (hk : k < 1000) (hl : o.length + 2 * n + 12 ≤ 12000) (hsh : sh ≤ 12000) (hf : FC k bcnt bf fl) {xs : List (Nat × Nat)} (hpl : PLAN false (gx ((inp.drop from').take n)) 0 n lvl xs) {Z : Int32} (hZ : mskS (crcS (rd inp) from' n) = Z) : ok (m_Packer_packChunk (iI from') (iI n) h0_elements (iI lvl) (iI sh) cnt 12000 f icnt 4000 iF h0_text_foundOffset h0_text_downLimit h0_text_downMost h0_text_downOffset 256 h0_text_latest_f 5000 h0_text_held_f 5000 h0_text_before_f w_h0_bestRow_form h0_bestRow_count 1 h0_bestRow_rests_last 0 h0_bestRow_copies_last 4000 h0_copyAt_f 4001 h0_bestRow_lengthOfCopy_f 4001 h0_bestRow_rests_value_f 4001 h0_bestRow_rests_leastOnward_f 4001 h0_bestRow_rests_leastSoFar_f 4001 h0_bestRow_copies_value_f 4001 h0_bestRow_copies_leastOnward_f 4001 h0_bestRow_copies_leastSoFar_f 4001 h0_bestRow_placeOfCopy_f bcnt 7000 bf) (fun x => BR 12000 x.2.2.2.2.2.1 x.2.2.2.2.2.2.1 (o ++ cb (vh n ++ em false (gx ((inp.drop from').take n)) 0 n 0 xs) ((inp.drop from').take n) n Z) ∧ FC (k + 1) x.2.2.2.2.2.2.2.2.2.2.2.2.2.2.2.2.2.2.2.2.2.2.2.2.2.2.2.2.2.1 x.2.2.2.2.2.2.2.2.2.2.2.2.2.2.2.2.2.2.2.2.2.2.2.2.2.2.2.2.2.2 (fl ++ frow (sh + (o.length + 8)) (vh n ++ em false (gx ((inp.drop from').take n)) 0 n 0 xs) n (iI xs.length) (iI (li n 0 xs)) (iI (pts false n 0 xs)))) := by
  have b2 := b1.2.1
  have hdt : ((inp.drop from').take n).length = n := by rw [List.length_take, List.length_drop]; omega
  have hPl : (o ++ le 0 4 ++ le Z.toInt 4).length = o.length + 8 := by rw [List.length_append, List.length_append, le_len, le_len]
  unfold m_Packer_packChunk m_Bytes_size
  rw [Option.bind_some, j_0, i_nat4]
  refine ok_bind (s_addNumber _ (by omega) h (by omega) (by omega)) ?_
  rintro ⟨u2, u3⟩ hu
  dsimp only at hu ⊢
  rw [s_mask b1 (by omega) hp, Option.bind_some, hZ, i32_j]
  refine ok_bind (s_addNumber _ (by omega) hu (by rw [List.length_append, le_len]; omega) (by omega)) ?_
  rintro ⟨u5, u6⟩ hu2
  dsimp only at hu2 ⊢
  have hu5 := hu2.1
  rw [hPl] at hu5
  rw [Option.bind_some]
  refine ok_bind (s_loadAlone b1 hp) ?_
  rintro ⟨u8, u9, u10, u11, u12⟩ ⟨ht, hdn⟩
  dsimp only at ht hdn ⊢
  rw [show (0 : Int32) = iI ((0 : Nat) : Int) from rfl]
  refine ok_bind (s_block_E (lvl := lvl) (base := 0) hu2 ht (by omega) (by rw [hdt]; omega) hpl (by omega) _ _ _ _ _ _ _ _ _ _ _ _ _ _ _ _ _ _ _ (Or.inl hdn)) ?_
  rintro ⟨v0, v1, v2, v3, v4, v5, v6, v7, v8, v9, v10, v11, v12, v13, v14, v15, v16, v17, v18, v19, v20, v21, v22, v23, v24⟩ ⟨y1, y2, y3, y4, y5⟩
  dsimp only at y1 y2 y3 y4 y5 ⊢
  subst y1 y2 y3
  rw [hu5, h.1]
  generalize hee : vh n ++ em false (gx ((inp.drop from').take n)) 0 n 0 xs = e at y5 ⊢
  have he := s_endBlock (sh := sh) y5 b1 hf hk hp (by omega) hsh (iI xs.length) (iI (li n 0 xs)) (iI (pts false n 0 xs))
  rw [hPl] at he
  refine ok_bind he ?_
  rintro ⟨r36, u37, u38, u39, u40⟩ ⟨q1, q2⟩
  dsimp only at q1 q2 ⊢
  by_cases c : e.length < n
  · obtain ⟨rfl, hb, hfc⟩ := q1 c
    rw [List.append_assoc, List.append_assoc] at hb
    rw [if_pos (show (0 : Int32) = iI ((0 : Nat) : Int) from rfl)]
    refine ok_mono (s_C92 (z := 0) (body := e) _ _ _ _ _ _ _ _ _ _ _ _ _ _ _ _ _ _ _ _ _ _ _ _ _ _ _ _ _ _ _ hb) ?_
    rintro x ⟨x1, x2, x3⟩
    unfold cb fb frow
    rw [if_pos c, if_pos c, if_pos c, x2, x3]
    exact ⟨x1, hfc⟩
  · obtain ⟨rfl, hb, hfc⟩ := q2 c
    rw [List.append_assoc, List.append_assoc] at hb
    rw [if_neg (show ¬ (1 : Int32) = iI ((0 : Nat) : Int) by decide), show (1 : Int64) = jI 1 from rfl]
    refine ok_mono (s_C92 (z := 1) (body := (inp.drop from').take n) _ _ _ _ _ _ _ _ _ _ _ _ _ _ _ _ _ _ _ _ _ _ _ _ _ _ _ _ _ _ _ hb) ?_
    rintro x ⟨x1, x2, x3⟩
    unfold cb fb frow
    rw [if_neg c, if_neg c, if_neg c, x2, x3]
    exact ⟨x1, hfc⟩
/-! the reference -/
theorem s_byte3 (z : Nat) (h : z ≤ 100000) (j : Nat) (hj : j < 3) : ishr (iI z) ((8 : Int32) * iI j) &&& 255 = iI (lb z j) := by
  have hz : -2147483648 ≤ (z : Int) ∧ (z : Int) < 2147483648 := by omega
  unfold lb
  rcases (show j = 0 ∨ j = 1 ∨ j = 2 by omega) with rfl | rfl | rfl
  · rw [show (8 : Int32) * iI ((0 : Nat) : Int) = 0 by decide, show ishr (iI z) 0 = iI ((z : Int) / 2 ^ 0) from iI_shr hz 0 0 (by decide), and255]
  · rw [show (8 : Int32) * iI ((1 : Nat) : Int) = 8 by decide, show ishr (iI z) 8 = iI ((z : Int) / 2 ^ 8) from iI_shr hz 8 8 (by decide), and255]
  · rw [show (8 : Int32) * iI ((2 : Nat) : Int) = 16 by decide, show ishr (iI z) 16 = iI ((z : Int) / 2 ^ 16) from iI_shr hz 16 16 (by decide), and255]
theorem t_change3 {N : Nat} {cnt : Int32} {f : Nat → Int32} {P A R : List Int} {at' : Nat} (h : MR cnt f (P ++ (A ++ R))) (hN : N < 1048576) (hl : (P ++ (A ++ R)).length ≤ N) (hP : P.length = at' + 1) {z : Nat} (hz : z ≤ 10000) (hk : A.length = 3) : ok (iter (fun st => m_Mo_chunks_B192 N (iI at') (iI z) st.1 st.2) FU (f, 0)) (fun f' => MR cnt f' (P ++ (le ((z : Int) + 4) 3 ++ R))) := by
  have hlen : (P ++ (A ++ R)).length = P.length + 3 + R.length := by rw [List.length_append, List.length_append]; omega
  refine ok_loop (fun j s => s.2 = iI j ∧ MR cnt s.1 (P ++ le ((z : Int) + 4) j ++ (A.drop j ++ R))) 3 (by omega) ⟨rfl, by show MR cnt f (P ++ [] ++ (A.drop 0 ++ R)); rw [List.append_nil]; exact h⟩ ?_
  rintro j ⟨s1, s2⟩ hj ⟨e1, e2⟩
  dsimp only at e1 e2
  subst e1
  unfold m_Mo_chunks_B192
  dsimp only
  by_cases c : 3 ≤ j
  · rw [lit_3, if_leT (by omega) (by omega) (by omega)]
    refine ok_end ?_
    have : j = 3 := by omega
    subst this
    rw [List.drop_eq_nil_of_le (by omega), List.nil_append, List.append_assoc] at e2
    exact e2
  · have hu := s_byte3 (z + 4) (by omega) j (by omega)
    rw [drop_s (by omega)] at e2
    rw [lit_3, if_leF (by omega) (by omega) (by omega), lit_1, iI_add, iI_add, chk_iI (by omega) (by omega), bnd_eq, lit_4, iI_add, show (z : Int) + 4 = ((z + 4 : Nat) : Int) by omega, hu, iI_clamp (by omega) (by omega), show ((at' : Int) + 1 + (j : Int)).toNat = (P ++ le ((z + 4 : Nat) : Int) j).length by rw [List.length_append, le_len]; omega, iI_add]
    refine ok_go ⟨j + 1, by omega, by omega, rfl, ?_⟩
    rw [show (z : Int) + 4 = ((z + 4 : Nat) : Int) by omega] at e2
    have := e2.set (lb_in ((z + 4 : Nat) : Int) j)
    dsimp only
    rw [le_s, ← List.append_assoc P (le _ j), List.append_assoc (P ++ le _ j)]
    exact this
def Pcb {X : Type} (Q : List Int) (from' k : Nat) (B : Int) (fl : List Int32) (r : ((Nat → Int32) × (Nat → Int32) × (Nat → Int32) × (Nat → Int32) × (Nat → Int32) × (Nat → Int32) × (Nat → Int32) × (Nat → Int32) × (Nat → Int32) × (Nat → Int32) × (Nat → Int32) × (Nat → Int32) × Int32 × Int32 × Int32 × Int32 × Int32 × Int32 × Int32 × Int32 × Int32) ⊕ X) : Prop := ∃ s', r = Sum.inl s' ∧ s'.2.2.2.2.2.2.2.2.2.2.2.2.2.2.2.2.2.2.2.2 = iI ((from' : Int) + B) ∧ MR s'.2.2.2.2.2.2.2.2.2.2.2.2.2.2.2.2.2.2.2.1 s'.2.2.2.2.2.1 Q ∧ FC k s'.2.2.2.2.2.2.2.2.2.2.2.2.2.2.2.2.2.2.1 s'.2.2.2.2.2.2.2.2.1 fl
theorem t_rawC {cnt mi : Int32} {f mif : Nat → Int32} {P inp : List Int} {from' n : Nat} (h : MR cnt f P) (b2 : MR mi mif inp) (hi : inp.length ≤ 4000) (hp : from' + n ≤ inp.length) (hl : P.length + n ≤ 28000) : ok (iter (fun st => m_Mo_chunks_B153 28000 4000 mif (iI from') (iI n) st.1 st.2.1 st.2.2) FU (f, cnt, 0)) (fun o => MR o.2 o.1 (P ++ (inp.drop from').take n)) := t_raw h b2 hi hp hl
theorem t_C189 {P body : List Int} {from' n k bl : Nat} {B kd : Int} {raw : Bool} {Z : Int32} {fl : List Int32} {mt nf f : Nat → Int32} {nm cnt : Int32} (u29 : Int32) (u30 : Int32) (u31 : Nat → Int32) (u41 : Int32) (u42 : Int32) (u43 : Int32) (u44 : Int32) (u45 : Nat → Int32) (u46 : Nat → Int32) (u47 : Nat → Int32) (u48 : Nat → Int32) (u49 : Nat → Int32) (u50 : Nat → Int32) (u51 : Nat → Int32) (u52 : Nat → Int32) (u53 : Nat → Int32) (h : MR cnt f (P ++ (le kd 1 ++ (le 0 3 ++ (le Z.toInt 4 ++ body))))) (hB : mt 0 = iI B) (hl : P.length + body.length + 8 ≤ 28000) (hbl : body.length ≤ 4000) (hf : FC k nm nf fl) (hk : k < 4000) (hbl0 : body.length = bl) : ok (m_Mo_chunks_J189 28000 6 mt 28070 nf nm (iI P.length) (iI from') (iI n) u29 u30 u31 u41 u42 u43 u44 u45 u46 u47 u48 u49 u50 u51 u52 u53 (if raw = true then 1 else 0) f cnt (iI bl)) (Pcb (P ++ (le kd 1 ++ (le ((body.length : Int) + 4) 3 ++ (le Z.toInt 4 ++ body)))) from' (k + 1) B (fl ++ (if raw = true then [iI ((P.length + 8 : Nat) : Int), iI body.length, iI n, 1, 0, iI n, 0] else [iI ((P.length + 8 : Nat) : Int), iI body.length, iI n, 0, u42, u43, u44]))) := by
  have hl0 : (P ++ le kd 1 ++ (le 0 3 ++ (le Z.toInt 4 ++ body))).length = P.length + 8 + body.length := by rw [List.length_append, List.length_append, List.length_append, List.length_append, le_len, le_len, le_len]; omega
  subst hbl0
  unfold m_Mo_chunks_J189
  rw [← List.append_assoc] at h
  refine ok_bind (t_change3 h (by omega) (by omega) (at' := P.length) (by rw [List.length_append, le_len]) (z := body.length) (by omega) (le_len 0 3)) ?_
  intro f' hf'
  unfold m_Mo_chunks_E230
  rw [show (8 : Int32) = iI 8 from rfl, iI_add, show (P.length : Int) + 8 = ((P.length + 8 : Nat) : Int) by omega]
  refine ok_bind (t_note hf hk _ _ _ _ _ _ raw) ?_
  rintro ⟨v1, v2⟩ hv
  dsimp only at hv ⊢
  rw [ck0, tc0, hB, iI_add, bnd_eq]
  refine ok_some ⟨_, rfl, rfl, ?_, hv⟩
  rw [List.append_assoc] at hf'
  exact hf'
