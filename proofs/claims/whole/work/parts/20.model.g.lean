theorem dX12_sum_0 : decode cX12_sum 0 = .ok (.iload_n 1, 1) := by decide +kernel
theorem dX12_sum_1 : decode cX12_sum 1 = .ok (.ifCond .ne 19, 3) := by decide +kernel
theorem dX12_sum_4 : decode cX12_sum 4 = .ok (.aload_n 0, 1) := by decide +kernel
theorem dX12_sum_5 : decode cX12_sum 5 = .ok (.getfield 220, 3) := by decide +kernel
theorem dX12_sum_8 : decode cX12_sum 8 = .ok (.iconst 0, 1) := by decide +kernel
theorem dX12_sum_9 : decode cX12_sum 9 = .ok (.aload_n 0, 1) := by decide +kernel
theorem dX12_sum_10 : decode cX12_sum 10 = .ok (.getfield 223, 3) := by decide +kernel
theorem dX12_sum_13 : decode cX12_sum 13 = .ok (.invokestatic 180, 3) := by decide +kernel
theorem dX12_sum_16 : decode cX12_sum 16 = .ok (.istore_n 2, 1) := by decide +kernel
theorem dX12_sum_17 : decode cX12_sum 17 = .ok (.goto 47, 3) := by decide +kernel
theorem dX12_sum_20 : decode cX12_sum 20 = .ok (.iload_n 1, 1) := by decide +kernel
theorem dX12_sum_21 : decode cX12_sum 21 = .ok (.iconst 1, 1) := by decide +kernel
theorem dX12_sum_22 : decode cX12_sum 22 = .ok (.if_icmp .eq 8, 3) := by decide +kernel
theorem dX12_sum_25 : decode cX12_sum 25 = .ok (.iload_n 1, 1) := by decide +kernel
theorem dX12_sum_26 : decode cX12_sum 26 = .ok (.iconst 2, 1) := by decide +kernel
theorem dX12_sum_27 : decode cX12_sum 27 = .ok (.if_icmp .ne 33, 3) := by decide +kernel
theorem dX12_sum_30 : decode cX12_sum 30 = .ok (.aload_n 0, 1) := by decide +kernel
theorem dX12_sum_31 : decode cX12_sum 31 = .ok (.getfield 220, 3) := by decide +kernel
theorem dX12_sum_34 : decode cX12_sum 34 = .ok (.iconst 0, 1) := by decide +kernel
theorem dX12_sum_35 : decode cX12_sum 35 = .ok (.aload_n 0, 1) := by decide +kernel
theorem dX12_sum_36 : decode cX12_sum 36 = .ok (.getfield 223, 3) := by decide +kernel
theorem dX12_sum_39 : decode cX12_sum 39 = .ok (.invokestatic 205, 3) := by decide +kernel
theorem dX12_sum_42 : decode cX12_sum 42 = .ok (.istore_n 2, 1) := by decide +kernel
theorem dX12_sum_43 : decode cX12_sum 43 = .ok (.iload_n 1, 1) := by decide +kernel
theorem dX12_sum_44 : decode cX12_sum 44 = .ok (.iconst 2, 1) := by decide +kernel
theorem dX12_sum_45 : decode cX12_sum 45 = .ok (.if_icmp .ne 10, 3) := by decide +kernel
theorem dX12_sum_48 : decode cX12_sum 48 = .ok (.iload_n 2, 1) := by decide +kernel
theorem dX12_sum_49 : decode cX12_sum 49 = .ok (.invokestatic 208, 3) := by decide +kernel
theorem dX12_sum_52 : decode cX12_sum 52 = .ok (.goto 4, 3) := by decide +kernel
theorem dX12_sum_55 : decode cX12_sum 55 = .ok (.iload_n 2, 1) := by decide +kernel
theorem dX12_sum_56 : decode cX12_sum 56 = .ok (.istore_n 2, 1) := by decide +kernel
theorem dX12_sum_57 : decode cX12_sum 57 = .ok (.goto 7, 3) := by decide +kernel
theorem dX12_sum_60 : decode cX12_sum 60 = .ok (.ldc2_w 324, 3) := by decide +kernel
theorem dX12_sum_63 : decode cX12_sum 63 = .ok (.lreturn, 1) := by decide +kernel
theorem dX12_sum_64 : decode cX12_sum 64 = .ok (.iload_n 2, 1) := by decide +kernel
theorem dX12_sum_65 : decode cX12_sum 65 = .ok (.i2l, 1) := by decide +kernel
theorem dX12_sum_66 : decode cX12_sum 66 = .ok (.ldc2_w 243, 3) := by decide +kernel
theorem dX12_sum_69 : decode cX12_sum 69 = .ok (.land, 1) := by decide +kernel
theorem dX12_sum_70 : decode cX12_sum 70 = .ok (.lreturn, 1) := by decide +kernel
def m_Mo_sum_J56 (s2 : Int32) : Option (Int64) :=
  some ((s2.toInt64) &&& (4294967295 : Int64))
def m_Mo_sum_J30 (a1 : Int32) (h0_outSize : Int32) (h0_out_n : Nat) (h0_out_f : Nat → Int32) : Option (Int64) :=
  (m_Mo_crcOf (0 : Int32) h0_outSize h0_out_n h0_out_f).bind fun r1 =>
  if a1 = (2 : Int32) then
    (m_Mo_masked r1).bind fun r3 =>
    m_Mo_sum_J56 r3
  else
    m_Mo_sum_J56 r1
def m_Mo_sum (a1 : Int32) (h0_outSize : Int32) (h0_out_n : Nat) (h0_out_f : Nat → Int32) : Option (Int64) :=
  if a1 = 0 then
    (m_Mo_sumOf (0 : Int32) h0_outSize h0_out_n h0_out_f).bind fun r4 =>
    some ((r4.toInt64) &&& (4294967295 : Int64))
  else
    if a1 = (1 : Int32) then
      m_Mo_sum_J30 a1 h0_outSize h0_out_n h0_out_f
    else
      if a1 = (2 : Int32) then
        m_Mo_sum_J30 a1 h0_outSize h0_out_n h0_out_f
      else
        some (-1 : Int64)
def rm_Mo_sum : Room := { frames := 2, cells := 0, slots := 0, locals := 50 }
set_option maxHeartbeats 4000000 in
set_option maxRecDepth 100000 in
theorem c_Mo_sum {l : Launch} {dC : Nat → ClassId} {dI : Nat → Nat → Nat} {cB cI : ClassId} {sz : Nat} {h0 : Nat} {a1 : Int32} {h0_out : Nat} {w_h0_in : Value} {w_h0_inSize : Value} {h0_outSize : Int32} {w_h0_dict : Value} {w_h0_dictSize : Value} {w_h0_told : Value} {w_h0_fresh : Value} {w_h0_freshSize : Value} {w_h0_text : Value} {w_h0_lean : Value} {w_h0_size : Value} {w_h0_most : Value} {w_h0_offset : Value} {w_h0_copyAt : Value} {w_h0_copies : Value} {w_h0_copyLength : Value} {w_h0_copyOffset : Value} {w_h0_fromHere : Value} {w_h0_withCopy : Value} {w_h0_bestCopy : Value} {w_h0_bestLiterals : Value} {w_h0_copiesOf : Value} {w_h0_literalsOf : Value} {w_h0_partsOf : Value} {w_h0_blocks : Value} {w_h0_blockMany : Value} {w_h0_newBlocks : Value} {w_h0_newMany : Value} {w_h0_rule : Value} {w_h0_place : Value} {w_h0_at : Value} {h0_out_n : Nat} {h0_out_f : Nat → Int32} {o_r : Int64} (hf : m_Mo_sum a1 h0_outSize h0_out_n h0_out_f = some o_r) : Met l yX12_sum (Cond.code yX12_sum cX12_sum 3 (some .long) :: lw_G) rm_Mo_sum (PreC (dC, dI) [(cB, .byte), (cI, .int)] [.ref h0, .int a1] sz [(h0, .inr (10, [w_h0_in, w_h0_inSize, .ref h0_out, .int h0_outSize, w_h0_dict, w_h0_dictSize, w_h0_told, w_h0_fresh, w_h0_freshSize, w_h0_text, w_h0_lean, w_h0_size, w_h0_most, w_h0_offset, w_h0_copyAt, w_h0_copies, w_h0_copyLength, w_h0_copyOffset, w_h0_fromHere, w_h0_withCopy, w_h0_bestCopy, w_h0_bestLiterals, w_h0_copiesOf, w_h0_literalsOf, w_h0_partsOf, w_h0_blocks, w_h0_blockMany, w_h0_newBlocks, w_h0_newMany, w_h0_rule, w_h0_place, w_h0_at])), (h0_out, .inl (cI, h0_out_n, .inl h0_out_f))]) (QcL o_r (dC, dI) [(h0, .inr (10, [w_h0_in, w_h0_inSize, .ref h0_out, .int h0_outSize, w_h0_dict, w_h0_dictSize, w_h0_told, w_h0_fresh, w_h0_freshSize, w_h0_text, w_h0_lean, w_h0_size, w_h0_most, w_h0_offset, w_h0_copyAt, w_h0_copies, w_h0_copyLength, w_h0_copyOffset, w_h0_fromHere, w_h0_withCopy, w_h0_bestCopy, w_h0_bestLiterals, w_h0_copiesOf, w_h0_literalsOf, w_h0_partsOf, w_h0_blocks, w_h0_blockMany, w_h0_newBlocks, w_h0_newMany, w_h0_rule, w_h0_place, w_h0_at])), (h0_out, .inl (cI, h0_out_n, .inl h0_out_f))] (va_A [(h0, .inr (10, [w_h0_in, w_h0_inSize, .ref h0_out, .int h0_outSize, w_h0_dict, w_h0_dictSize, w_h0_told, w_h0_fresh, w_h0_freshSize, w_h0_text, w_h0_lean, w_h0_size, w_h0_most, w_h0_offset, w_h0_copyAt, w_h0_copies, w_h0_copyLength, w_h0_copyOffset, w_h0_fromHere, w_h0_withCopy, w_h0_bestCopy, w_h0_bestLiterals, w_h0_copiesOf, w_h0_literalsOf, w_h0_partsOf, w_h0_blocks, w_h0_blockMany, w_h0_newBlocks, w_h0_newMany, w_h0_rule, w_h0_place, w_h0_at])), (h0_out, .inl (cI, h0_out_n, .inl h0_out_f))] sz)) 0 0 (va_A [(h0, .inr (10, [w_h0_in, w_h0_inSize, .ref h0_out, .int h0_outSize, w_h0_dict, w_h0_dictSize, w_h0_told, w_h0_fresh, w_h0_freshSize, w_h0_text, w_h0_lean, w_h0_size, w_h0_most, w_h0_offset, w_h0_copyAt, w_h0_copies, w_h0_copyLength, w_h0_copyOffset, w_h0_fromHere, w_h0_withCopy, w_h0_bestCopy, w_h0_bestLiterals, w_h0_copiesOf, w_h0_literalsOf, w_h0_partsOf, w_h0_blocks, w_h0_blockMany, w_h0_newBlocks, w_h0_newMany, w_h0_rule, w_h0_place, w_h0_at])), (h0_out, .inl (cI, h0_out_n, .inl h0_out_f))] sz) := by
  refine met_of (Qf := fun A => QcL o_r (dC, dI) [(h0, .inr (10, [w_h0_in, w_h0_inSize, .ref h0_out, .int h0_outSize, w_h0_dict, w_h0_dictSize, w_h0_told, w_h0_fresh, w_h0_freshSize, w_h0_text, w_h0_lean, w_h0_size, w_h0_most, w_h0_offset, w_h0_copyAt, w_h0_copies, w_h0_copyLength, w_h0_copyOffset, w_h0_fromHere, w_h0_withCopy, w_h0_bestCopy, w_h0_bestLiterals, w_h0_copiesOf, w_h0_literalsOf, w_h0_partsOf, w_h0_blocks, w_h0_blockMany, w_h0_newBlocks, w_h0_newMany, w_h0_rule, w_h0_place, w_h0_at])), (h0_out, .inl (cI, h0_out_n, .inl h0_out_f))] A) (by decide) (Nat.le_of_ble_eq_true rfl) ?_
  intro p e s m below meth c A ls Q hx hb hr hml hown hts hlocks hnm hP hK hD hN hT hA hl hQ
  have hown : s.vm.findClass RX12 = some m.cls := hown
  have hS : va_S A s.heap s.heap [] := va_S.rf
  have hl : lv_has ls 3 [(0, .ref h0), (1, .int a1)] := hl
  unfold m_Mo_sum at hf
  refine lv_iload_n hx hb dX12_sum_0 rfl (lv_at hl 1 rfl) ?_
  refine lv_if_ne (tgt := 20) hx hb dX12_sum_1 (by decide) (fun c_1 => ?_) (fun c_1 => ?_)
  · replace hf := if_f c_1 hf
    refine lv_iload_n hx hb dX12_sum_20 rfl (lv_at hl 1 rfl) ?_
    refine lv_iconst (v := 1) hx hb dX12_sum_21 (by decide) ?_
    have hJ_30 : ∀ (H : Heap) (locs : List Loc) (ls : Array Slot), m_Mo_sum_J30 a1 h0_outSize h0_out_n h0_out_f = some o_r → va_P (dC, dI) vwCl [(h0, .inr (10, [w_h0_in, w_h0_inSize, .ref h0_out, .int h0_outSize, w_h0_dict, w_h0_dictSize, w_h0_told, w_h0_fresh, w_h0_freshSize, w_h0_text, w_h0_lean, w_h0_size, w_h0_most, w_h0_offset, w_h0_copyAt, w_h0_copies, w_h0_copyLength, w_h0_copyOffset, w_h0_fromHere, w_h0_withCopy, w_h0_bestCopy, w_h0_bestLiterals, w_h0_copiesOf, w_h0_literalsOf, w_h0_partsOf, w_h0_blocks, w_h0_blockMany, w_h0_newBlocks, w_h0_newMany, w_h0_rule, w_h0_place, w_h0_at])), (h0_out, .inl (cI, h0_out_n, .inl h0_out_f))] H → va_D A [(h0, .inr (10, [w_h0_in, w_h0_inSize, .ref h0_out, .int h0_outSize, w_h0_dict, w_h0_dictSize, w_h0_told, w_h0_fresh, w_h0_freshSize, w_h0_text, w_h0_lean, w_h0_size, w_h0_most, w_h0_offset, w_h0_copyAt, w_h0_copies, w_h0_copyLength, w_h0_copyOffset, w_h0_fromHere, w_h0_withCopy, w_h0_bestCopy, w_h0_bestLiterals, w_h0_copiesOf, w_h0_literalsOf, w_h0_partsOf, w_h0_blocks, w_h0_blockMany, w_h0_newBlocks, w_h0_newMany, w_h0_rule, w_h0_place, w_h0_at])), (h0_out, .inl (cI, h0_out_n, .inl h0_out_f))] → va_S A s.heap H locs → lv_has ls 3 [(0, .ref h0), (1, .int a1)] → W p l e (rm_Mo_sum) s m ([.ref h0, .int a1] : List Value).toArray below meth c H locs 0 0 Q (F0 m 30 ls []) := by
      intro  H locs ls hf hP hD hS hl
      unfold m_Mo_sum_J30 at hf
      refine lv_aload_n hx hb dX12_sum_30 rfl (lv_at hl 0 rfl) ?_
      refine va_get (D := (dC, dI)) (ci := 10) (v := .ref h0_out) (C := RX12) (T := TX12) (N := 32) hx hb hts inG_X12 hown hK hP 0 rfl rfl 2 (by decide) (hts _ kw_1054) (fun _ h9 => h9) rfl dX12_sum_31 ?_
      refine lv_iconst (v := 0) hx hb dX12_sum_34 (by decide) ?_
      refine lv_aload_n hx hb dX12_sum_35 rfl (lv_at hl 0 rfl) ?_
      refine va_get (D := (dC, dI)) (ci := 10) (v := .int h0_outSize) (C := RX12) (T := TX12) (N := 32) hx hb hts inG_X12 hown hK hP 0 rfl rfl 3 (by decide) (hts _ kw_1055) (fun _ h9 => h9) rfl dX12_sum_36 ?_
      obtain ⟨r1, hc, hf⟩ := bind_some hf
      refine nx_i (rn_S (As := [.ref h0_out, .int (0 : Int32), .int h0_outSize]) (rest := []) (n := 3) ⟨hx, hb, hml, hown, hts⟩ (c_Mo_crcOf (l := l) (dC := dC) (dI := dI) (cB := cB) (cI := cI) (h0 := h0_out) (a1 := (0 : Int32)) (a2 := h0_outSize) (h0_n := h0_out_n) (h0_f := h0_out_f)  (o_r := r1) hc) (wS kw_1305 kw_1306 kw_94 kw_1307) (by decide +kernel) ⟨Nat.le_of_ble_eq_true rfl, Nat.le_of_ble_eq_true rfl⟩ hK hP hD hN hT hS (va_free (wc := [(h0_out, .inl (cI, h0_out_n, .inl h0_out_f))]) hD hS hA [1] rfl) [1] rfl (by decide) rfl hl.1 rfl (lv_room (Nat.le_of_ble_eq_true rfl)) dX12_sum_39 ⟨Nat.le_of_ble_eq_true rfl, Nat.le_of_ble_eq_true rfl⟩) hP hD hS hA (wr := [(h0, .inr (10, [w_h0_in, w_h0_inSize, .ref h0_out, .int h0_outSize, w_h0_dict, w_h0_dictSize, w_h0_told, w_h0_fresh, w_h0_freshSize, w_h0_text, w_h0_lean, w_h0_size, w_h0_most, w_h0_offset, w_h0_copyAt, w_h0_copies, w_h0_copyLength, w_h0_copyOffset, w_h0_fromHere, w_h0_withCopy, w_h0_bestCopy, w_h0_bestLiterals, w_h0_copiesOf, w_h0_literalsOf, w_h0_partsOf, w_h0_blocks, w_h0_blockMany, w_h0_newBlocks, w_h0_newMany, w_h0_rule, w_h0_place, w_h0_at]))]) (w1 := [(h0_out, .inl (cI, h0_out_n, .inl h0_out_f))]) (ws' := [(h0, .inr (10, [w_h0_in, w_h0_inSize, .ref h0_out, .int h0_outSize, w_h0_dict, w_h0_dictSize, w_h0_told, w_h0_fresh, w_h0_freshSize, w_h0_text, w_h0_lean, w_h0_size, w_h0_most, w_h0_offset, w_h0_copyAt, w_h0_copies, w_h0_copyLength, w_h0_copyOffset, w_h0_fromHere, w_h0_withCopy, w_h0_bestCopy, w_h0_bestLiterals, w_h0_copiesOf, w_h0_literalsOf, w_h0_partsOf, w_h0_blocks, w_h0_blockMany, w_h0_newBlocks, w_h0_newMany, w_h0_rule, w_h0_place, w_h0_at])), (h0_out, .inl (cI, h0_out_n, .inl h0_out_f))]) [1] [0] [0, 1] rfl rfl (by decide) (by decide) rfl (by decide) (fun H locs hP hD hS => ?_)
      refine lv_istore_n (lv' := [(2, .int r1), (0, .ref h0), (1, .int a1)]) hx hb dX12_sum_42 rfl hl (by decide) rfl (fun ls hl => ?_)
      refine lv_iload_n hx hb dX12_sum_43 rfl (lv_at hl 2 rfl) ?_
      refine lv_iconst (v := 2) hx hb dX12_sum_44 (by decide) ?_
      have hJ_56 : ∀ (s2 : Int32) (H : Heap) (locs : List Loc) (ls : Array Slot), m_Mo_sum_J56 s2 = some o_r → va_P (dC, dI) vwCl [(h0, .inr (10, [w_h0_in, w_h0_inSize, .ref h0_out, .int h0_outSize, w_h0_dict, w_h0_dictSize, w_h0_told, w_h0_fresh, w_h0_freshSize, w_h0_text, w_h0_lean, w_h0_size, w_h0_most, w_h0_offset, w_h0_copyAt, w_h0_copies, w_h0_copyLength, w_h0_copyOffset, w_h0_fromHere, w_h0_withCopy, w_h0_bestCopy, w_h0_bestLiterals, w_h0_copiesOf, w_h0_literalsOf, w_h0_partsOf, w_h0_blocks, w_h0_blockMany, w_h0_newBlocks, w_h0_newMany, w_h0_rule, w_h0_place, w_h0_at])), (h0_out, .inl (cI, h0_out_n, .inl h0_out_f))] H → va_D A [(h0, .inr (10, [w_h0_in, w_h0_inSize, .ref h0_out, .int h0_outSize, w_h0_dict, w_h0_dictSize, w_h0_told, w_h0_fresh, w_h0_freshSize, w_h0_text, w_h0_lean, w_h0_size, w_h0_most, w_h0_offset, w_h0_copyAt, w_h0_copies, w_h0_copyLength, w_h0_copyOffset, w_h0_fromHere, w_h0_withCopy, w_h0_bestCopy, w_h0_bestLiterals, w_h0_copiesOf, w_h0_literalsOf, w_h0_partsOf, w_h0_blocks, w_h0_blockMany, w_h0_newBlocks, w_h0_newMany, w_h0_rule, w_h0_place, w_h0_at])), (h0_out, .inl (cI, h0_out_n, .inl h0_out_f))] → va_S A s.heap H locs → lv_has ls 3 [] → W p l e (rm_Mo_sum) s m ([.ref h0, .int a1] : List Value).toArray below meth c H locs 0 0 Q (F0 m 56 ls [.int s2]) := by
        intro s2 H locs ls hf hP hD hS hl
        unfold m_Mo_sum_J56 at hf
        refine lv_istore_n (lv' := [(2, .int s2)]) hx hb dX12_sum_56 rfl hl (by decide) rfl (fun ls hl => ?_)
        refine lv_goto (tgt := 64) hx hb dX12_sum_57 (by decide) ?_
        refine lv_iload_n hx hb dX12_sum_64 rfl (lv_at hl 0 rfl) ?_
        refine lv_i2l (v := (s2.toInt64)) hx hb dX12_sum_65 rfl ?_
        refine lv_ldc2 hx hb hown (hts _ kw_1390) dX12_sum_66 ?_
        refine lv_land hx hb dX12_sum_69 ?_
        obtain rfl := Option.some.inj hf
        exact rt_l hQ hx hb hr hlocks hP hD hS dX12_sum_70
      refine lv_icmp_ne (tgt := 55) hx hb dX12_sum_45 (by decide) (fun c_45 => ?_) (fun c_45 => ?_)
      · replace hf := if_f c_45 hf
        refine lv_iload_n hx hb dX12_sum_55 rfl (lv_at hl 0 rfl) ?_
        exact hJ_56 r1 _ _ _ hf hP hD hS (lv_sub hl [] rfl)
      · replace hf := if_t c_45 hf
        refine lv_iload_n hx hb dX12_sum_48 rfl (lv_at hl 0 rfl) ?_
        obtain ⟨r3, hc, hf⟩ := bind_some hf
        refine nx_i (rn_S (As := [.int r1]) (rest := []) (n := 1) ⟨hx, hb, hml, hown, hts⟩ (c_Mo_masked (l := l) (dC := dC) (dI := dI) (cB := cB) (cI := cI) (a0 := r1)  (o_r := r3) hc) (wS kw_1309 kw_1310 kw_94 kw_1311) (by decide +kernel) ⟨Nat.le_of_ble_eq_true rfl, Nat.le_of_ble_eq_true rfl⟩ hK hP hD hN hT hS (va_free (wc := []) hD hS hA [] rfl) [] rfl (by decide) rfl hl.1 rfl (lv_room (Nat.le_of_ble_eq_true rfl)) dX12_sum_49 ⟨Nat.le_of_ble_eq_true rfl, Nat.le_of_ble_eq_true rfl⟩) hP hD hS hA (wr := [(h0, .inr (10, [w_h0_in, w_h0_inSize, .ref h0_out, .int h0_outSize, w_h0_dict, w_h0_dictSize, w_h0_told, w_h0_fresh, w_h0_freshSize, w_h0_text, w_h0_lean, w_h0_size, w_h0_most, w_h0_offset, w_h0_copyAt, w_h0_copies, w_h0_copyLength, w_h0_copyOffset, w_h0_fromHere, w_h0_withCopy, w_h0_bestCopy, w_h0_bestLiterals, w_h0_copiesOf, w_h0_literalsOf, w_h0_partsOf, w_h0_blocks, w_h0_blockMany, w_h0_newBlocks, w_h0_newMany, w_h0_rule, w_h0_place, w_h0_at])), (h0_out, .inl (cI, h0_out_n, .inl h0_out_f))]) (w1 := []) (ws' := [(h0, .inr (10, [w_h0_in, w_h0_inSize, .ref h0_out, .int h0_outSize, w_h0_dict, w_h0_dictSize, w_h0_told, w_h0_fresh, w_h0_freshSize, w_h0_text, w_h0_lean, w_h0_size, w_h0_most, w_h0_offset, w_h0_copyAt, w_h0_copies, w_h0_copyLength, w_h0_copyOffset, w_h0_fromHere, w_h0_withCopy, w_h0_bestCopy, w_h0_bestLiterals, w_h0_copiesOf, w_h0_literalsOf, w_h0_partsOf, w_h0_blocks, w_h0_blockMany, w_h0_newBlocks, w_h0_newMany, w_h0_rule, w_h0_place, w_h0_at])), (h0_out, .inl (cI, h0_out_n, .inl h0_out_f))]) [] [0, 1] [0, 1] rfl rfl (by decide) (by decide) rfl (by decide) (fun H locs hP hD hS => ?_)
        refine lv_goto (tgt := 56) hx hb dX12_sum_52 (by decide) ?_
        exact hJ_56 r3 _ _ _ hf hP hD hS (lv_sub hl [] rfl)
    refine lv_icmp_eq (tgt := 30) hx hb dX12_sum_22 (by decide) (fun c_22 => ?_) (fun c_22 => ?_)
    · replace hf := if_t c_22 hf
      exact hJ_30  _ _ _ hf hP hD hS (lv_sub hl [0, 1] rfl)
    · replace hf := if_f c_22 hf
      refine lv_iload_n hx hb dX12_sum_25 rfl (lv_at hl 1 rfl) ?_
      refine lv_iconst (v := 2) hx hb dX12_sum_26 (by decide) ?_
      refine lv_icmp_ne (tgt := 60) hx hb dX12_sum_27 (by decide) (fun c_27 => ?_) (fun c_27 => ?_)
      · replace hf := if_f c_27 hf
        refine lv_ldc2 hx hb hown (hts _ kw_1416) dX12_sum_60 ?_
        obtain rfl := Option.some.inj hf
        exact rt_l hQ hx hb hr hlocks hP hD hS dX12_sum_63
      · replace hf := if_t c_27 hf
        exact hJ_30  _ _ _ hf hP hD hS (lv_sub hl [0, 1] rfl)
  · replace hf := if_t c_1 hf
    refine lv_aload_n hx hb dX12_sum_4 rfl (lv_at hl 0 rfl) ?_
    refine va_get (D := (dC, dI)) (ci := 10) (v := .ref h0_out) (C := RX12) (T := TX12) (N := 32) hx hb hts inG_X12 hown hK hP 0 rfl rfl 2 (by decide) (hts _ kw_1054) (fun _ h9 => h9) rfl dX12_sum_5 ?_
    refine lv_iconst (v := 0) hx hb dX12_sum_8 (by decide) ?_
    refine lv_aload_n hx hb dX12_sum_9 rfl (lv_at hl 0 rfl) ?_
    refine va_get (D := (dC, dI)) (ci := 10) (v := .int h0_outSize) (C := RX12) (T := TX12) (N := 32) hx hb hts inG_X12 hown hK hP 0 rfl rfl 3 (by decide) (hts _ kw_1055) (fun _ h9 => h9) rfl dX12_sum_10 ?_
    obtain ⟨r4, hc, hf⟩ := bind_some hf
    refine nx_i (rn_S (As := [.ref h0_out, .int (0 : Int32), .int h0_outSize]) (rest := []) (n := 3) ⟨hx, hb, hml, hown, hts⟩ (c_Mo_sumOf (l := l) (dC := dC) (dI := dI) (cB := cB) (cI := cI) (h0 := h0_out) (a1 := (0 : Int32)) (a2 := h0_outSize) (h0_n := h0_out_n) (h0_f := h0_out_f)  (o_r := r4) hc) (wS kw_1209 kw_1210 kw_94 kw_1211) (by decide +kernel) ⟨Nat.le_of_ble_eq_true rfl, Nat.le_of_ble_eq_true rfl⟩ hK hP hD hN hT hS (va_free (wc := [(h0_out, .inl (cI, h0_out_n, .inl h0_out_f))]) hD hS hA [1] rfl) [1] rfl (by decide) rfl hl.1 rfl (lv_room (Nat.le_of_ble_eq_true rfl)) dX12_sum_13 ⟨Nat.le_of_ble_eq_true rfl, Nat.le_of_ble_eq_true rfl⟩) hP hD hS hA (wr := [(h0, .inr (10, [w_h0_in, w_h0_inSize, .ref h0_out, .int h0_outSize, w_h0_dict, w_h0_dictSize, w_h0_told, w_h0_fresh, w_h0_freshSize, w_h0_text, w_h0_lean, w_h0_size, w_h0_most, w_h0_offset, w_h0_copyAt, w_h0_copies, w_h0_copyLength, w_h0_copyOffset, w_h0_fromHere, w_h0_withCopy, w_h0_bestCopy, w_h0_bestLiterals, w_h0_copiesOf, w_h0_literalsOf, w_h0_partsOf, w_h0_blocks, w_h0_blockMany, w_h0_newBlocks, w_h0_newMany, w_h0_rule, w_h0_place, w_h0_at]))]) (w1 := [(h0_out, .inl (cI, h0_out_n, .inl h0_out_f))]) (ws' := [(h0, .inr (10, [w_h0_in, w_h0_inSize, .ref h0_out, .int h0_outSize, w_h0_dict, w_h0_dictSize, w_h0_told, w_h0_fresh, w_h0_freshSize, w_h0_text, w_h0_lean, w_h0_size, w_h0_most, w_h0_offset, w_h0_copyAt, w_h0_copies, w_h0_copyLength, w_h0_copyOffset, w_h0_fromHere, w_h0_withCopy, w_h0_bestCopy, w_h0_bestLiterals, w_h0_copiesOf, w_h0_literalsOf, w_h0_partsOf, w_h0_blocks, w_h0_blockMany, w_h0_newBlocks, w_h0_newMany, w_h0_rule, w_h0_place, w_h0_at])), (h0_out, .inl (cI, h0_out_n, .inl h0_out_f))]) [1] [0] [0, 1] rfl rfl (by decide) (by decide) rfl (by decide) (fun H locs hP hD hS => ?_)
    refine lv_istore_n (lv' := [(2, .int r4), (0, .ref h0), (1, .int a1)]) hx hb dX12_sum_16 rfl hl (by decide) rfl (fun ls hl => ?_)
    refine lv_goto (tgt := 64) hx hb dX12_sum_17 (by decide) ?_
    refine lv_iload_n hx hb dX12_sum_64 rfl (lv_at hl 0 rfl) ?_
    refine lv_i2l (v := (r4.toInt64)) hx hb dX12_sum_65 rfl ?_
    refine lv_ldc2 hx hb hown (hts _ kw_1390) dX12_sum_66 ?_
    refine lv_land hx hb dX12_sum_69 ?_
    obtain rfl := Option.some.inj hf
    exact rt_l hQ hx hb hr hlocks hP hD hS dX12_sum_70

theorem dX12_bound_0 : decode cX12_bound 0 = .ok (.iload_n 1, 1) := by decide +kernel
theorem dX12_bound_1 : decode cX12_bound 1 = .ok (.ifCond .eq 8, 3) := by decide +kernel
theorem dX12_bound_4 : decode cX12_bound 4 = .ok (.iload_n 1, 1) := by decide +kernel
theorem dX12_bound_5 : decode cX12_bound 5 = .ok (.iconst 2, 1) := by decide +kernel
theorem dX12_bound_6 : decode cX12_bound 6 = .ok (.if_icmp .ne 7, 3) := by decide +kernel
theorem dX12_bound_9 : decode cX12_bound 9 = .ok (.iload_n 2, 1) := by decide +kernel
theorem dX12_bound_10 : decode cX12_bound 10 = .ok (.ifCond .ge 7, 3) := by decide +kernel
theorem dX12_bound_13 : decode cX12_bound 13 = .ok (.ldc2_w 324, 3) := by decide +kernel
theorem dX12_bound_16 : decode cX12_bound 16 = .ok (.lreturn, 1) := by decide +kernel
theorem dX12_bound_17 : decode cX12_bound 17 = .ok (.iload_n 1, 1) := by decide +kernel
theorem dX12_bound_18 : decode cX12_bound 18 = .ok (.ifCond .ne 19, 3) := by decide +kernel
theorem dX12_bound_21 : decode cX12_bound 21 = .ok (.iload_n 2, 1) := by decide +kernel
theorem dX12_bound_22 : decode cX12_bound 22 = .ok (.i2l, 1) := by decide +kernel
theorem dX12_bound_23 : decode cX12_bound 23 = .ok (.iload_n 2, 1) := by decide +kernel
theorem dX12_bound_24 : decode cX12_bound 24 = .ok (.sipush 255, 3) := by decide +kernel
theorem dX12_bound_27 : decode cX12_bound 27 = .ok (.idiv, 1) := by decide +kernel
theorem dX12_bound_28 : decode cX12_bound 28 = .ok (.i2l, 1) := by decide +kernel
theorem dX12_bound_29 : decode cX12_bound 29 = .ok (.ladd, 1) := by decide +kernel
theorem dX12_bound_30 : decode cX12_bound 30 = .ok (.ldc2_w 288, 3) := by decide +kernel
theorem dX12_bound_33 : decode cX12_bound 33 = .ok (.ladd, 1) := by decide +kernel
theorem dX12_bound_34 : decode cX12_bound 34 = .ok (.goto 15, 3) := by decide +kernel
theorem dX12_bound_37 : decode cX12_bound 37 = .ok (.ldc2_w 326, 3) := by decide +kernel
theorem dX12_bound_40 : decode cX12_bound 40 = .ok (.iload_n 2, 1) := by decide +kernel
theorem dX12_bound_41 : decode cX12_bound 41 = .ok (.i2l, 1) := by decide +kernel
theorem dX12_bound_42 : decode cX12_bound 42 = .ok (.ladd, 1) := by decide +kernel
theorem dX12_bound_43 : decode cX12_bound 43 = .ok (.iload_n 2, 1) := by decide +kernel
theorem dX12_bound_44 : decode cX12_bound 44 = .ok (.bipush 6, 2) := by decide +kernel
theorem dX12_bound_46 : decode cX12_bound 46 = .ok (.idiv, 1) := by decide +kernel
theorem dX12_bound_47 : decode cX12_bound 47 = .ok (.i2l, 1) := by decide +kernel
theorem dX12_bound_48 : decode cX12_bound 48 = .ok (.ladd, 1) := by decide +kernel
theorem dX12_bound_49 : decode cX12_bound 49 = .ok (.lreturn, 1) := by decide +kernel
def m_Mo_bound_J9 (a1 : Int32) (a2 : Int32) : Option (Int64) :=
  if 0 ≤ a2 then
    if a1 = 0 then
      some (((a2.toInt64) + ((a2 / (255 : Int32)).toInt64)) + (16 : Int64))
    else
      some (((32 : Int64) + (a2.toInt64)) + ((a2 / (6 : Int32)).toInt64))
  else
    some (-1 : Int64)
def m_Mo_bound (a1 : Int32) (a2 : Int32) : Option (Int64) :=
  if a1 = 0 then
    m_Mo_bound_J9 a1 a2
  else
    if a1 = (2 : Int32) then
      m_Mo_bound_J9 a1 a2
    else
      some (-1 : Int64)
def rm_Mo_bound : Room := { frames := 0, cells := 0, slots := 0, locals := 0 }
set_option maxHeartbeats 4000000 in
set_option maxRecDepth 100000 in
theorem c_Mo_bound {l : Launch} {dC : Nat → ClassId} {dI : Nat → Nat → Nat} {cB cI : ClassId} {sz : Nat} {h0 : Nat} {a1 : Int32} {a2 : Int32} {w_h0_in : Value} {w_h0_inSize : Value} {w_h0_out : Value} {w_h0_outSize : Value} {w_h0_dict : Value} {w_h0_dictSize : Value} {w_h0_told : Value} {w_h0_fresh : Value} {w_h0_freshSize : Value} {w_h0_text : Value} {w_h0_lean : Value} {w_h0_size : Value} {w_h0_most : Value} {w_h0_offset : Value} {w_h0_copyAt : Value} {w_h0_copies : Value} {w_h0_copyLength : Value} {w_h0_copyOffset : Value} {w_h0_fromHere : Value} {w_h0_withCopy : Value} {w_h0_bestCopy : Value} {w_h0_bestLiterals : Value} {w_h0_copiesOf : Value} {w_h0_literalsOf : Value} {w_h0_partsOf : Value} {w_h0_blocks : Value} {w_h0_blockMany : Value} {w_h0_newBlocks : Value} {w_h0_newMany : Value} {w_h0_rule : Value} {w_h0_place : Value} {w_h0_at : Value} {o_r : Int64} (hf : m_Mo_bound a1 a2 = some o_r) : Met l yX12_bound (Cond.code yX12_bound cX12_bound 3 (some .long) :: lw_G) rm_Mo_bound (PreC (dC, dI) [(cB, .byte), (cI, .int)] [.ref h0, .int a1, .int a2] sz [(h0, .inr (10, [w_h0_in, w_h0_inSize, w_h0_out, w_h0_outSize, w_h0_dict, w_h0_dictSize, w_h0_told, w_h0_fresh, w_h0_freshSize, w_h0_text, w_h0_lean, w_h0_size, w_h0_most, w_h0_offset, w_h0_copyAt, w_h0_copies, w_h0_copyLength, w_h0_copyOffset, w_h0_fromHere, w_h0_withCopy, w_h0_bestCopy, w_h0_bestLiterals, w_h0_copiesOf, w_h0_literalsOf, w_h0_partsOf, w_h0_blocks, w_h0_blockMany, w_h0_newBlocks, w_h0_newMany, w_h0_rule, w_h0_place, w_h0_at]))]) (QcL o_r (dC, dI) [(h0, .inr (10, [w_h0_in, w_h0_inSize, w_h0_out, w_h0_outSize, w_h0_dict, w_h0_dictSize, w_h0_told, w_h0_fresh, w_h0_freshSize, w_h0_text, w_h0_lean, w_h0_size, w_h0_most, w_h0_offset, w_h0_copyAt, w_h0_copies, w_h0_copyLength, w_h0_copyOffset, w_h0_fromHere, w_h0_withCopy, w_h0_bestCopy, w_h0_bestLiterals, w_h0_copiesOf, w_h0_literalsOf, w_h0_partsOf, w_h0_blocks, w_h0_blockMany, w_h0_newBlocks, w_h0_newMany, w_h0_rule, w_h0_place, w_h0_at]))] (va_A [(h0, .inr (10, [w_h0_in, w_h0_inSize, w_h0_out, w_h0_outSize, w_h0_dict, w_h0_dictSize, w_h0_told, w_h0_fresh, w_h0_freshSize, w_h0_text, w_h0_lean, w_h0_size, w_h0_most, w_h0_offset, w_h0_copyAt, w_h0_copies, w_h0_copyLength, w_h0_copyOffset, w_h0_fromHere, w_h0_withCopy, w_h0_bestCopy, w_h0_bestLiterals, w_h0_copiesOf, w_h0_literalsOf, w_h0_partsOf, w_h0_blocks, w_h0_blockMany, w_h0_newBlocks, w_h0_newMany, w_h0_rule, w_h0_place, w_h0_at]))] sz)) 0 0 (va_A [(h0, .inr (10, [w_h0_in, w_h0_inSize, w_h0_out, w_h0_outSize, w_h0_dict, w_h0_dictSize, w_h0_told, w_h0_fresh, w_h0_freshSize, w_h0_text, w_h0_lean, w_h0_size, w_h0_most, w_h0_offset, w_h0_copyAt, w_h0_copies, w_h0_copyLength, w_h0_copyOffset, w_h0_fromHere, w_h0_withCopy, w_h0_bestCopy, w_h0_bestLiterals, w_h0_copiesOf, w_h0_literalsOf, w_h0_partsOf, w_h0_blocks, w_h0_blockMany, w_h0_newBlocks, w_h0_newMany, w_h0_rule, w_h0_place, w_h0_at]))] sz) := by
  refine met_of (Qf := fun A => QcL o_r (dC, dI) [(h0, .inr (10, [w_h0_in, w_h0_inSize, w_h0_out, w_h0_outSize, w_h0_dict, w_h0_dictSize, w_h0_told, w_h0_fresh, w_h0_freshSize, w_h0_text, w_h0_lean, w_h0_size, w_h0_most, w_h0_offset, w_h0_copyAt, w_h0_copies, w_h0_copyLength, w_h0_copyOffset, w_h0_fromHere, w_h0_withCopy, w_h0_bestCopy, w_h0_bestLiterals, w_h0_copiesOf, w_h0_literalsOf, w_h0_partsOf, w_h0_blocks, w_h0_blockMany, w_h0_newBlocks, w_h0_newMany, w_h0_rule, w_h0_place, w_h0_at]))] A) (by decide) (Nat.le_of_ble_eq_true rfl) ?_
  intro p e s m below meth c A ls Q hx hb hr hml hown hts hlocks hnm hP hK hD hN hT hA hl hQ
  have hown : s.vm.findClass RX12 = some m.cls := hown
  have hS : va_S A s.heap s.heap [] := va_S.rf
  have hl : lv_has ls 3 [(0, .ref h0), (1, .int a1), (2, .int a2)] := hl
  unfold m_Mo_bound at hf
  refine lv_iload_n hx hb dX12_bound_0 rfl (lv_at hl 1 rfl) ?_
  have hJ_9 : ∀ (H : Heap) (locs : List Loc) (ls : Array Slot), m_Mo_bound_J9 a1 a2 = some o_r → va_P (dC, dI) vwCl [(h0, .inr (10, [w_h0_in, w_h0_inSize, w_h0_out, w_h0_outSize, w_h0_dict, w_h0_dictSize, w_h0_told, w_h0_fresh, w_h0_freshSize, w_h0_text, w_h0_lean, w_h0_size, w_h0_most, w_h0_offset, w_h0_copyAt, w_h0_copies, w_h0_copyLength, w_h0_copyOffset, w_h0_fromHere, w_h0_withCopy, w_h0_bestCopy, w_h0_bestLiterals, w_h0_copiesOf, w_h0_literalsOf, w_h0_partsOf, w_h0_blocks, w_h0_blockMany, w_h0_newBlocks, w_h0_newMany, w_h0_rule, w_h0_place, w_h0_at]))] H → va_D A [(h0, .inr (10, [w_h0_in, w_h0_inSize, w_h0_out, w_h0_outSize, w_h0_dict, w_h0_dictSize, w_h0_told, w_h0_fresh, w_h0_freshSize, w_h0_text, w_h0_lean, w_h0_size, w_h0_most, w_h0_offset, w_h0_copyAt, w_h0_copies, w_h0_copyLength, w_h0_copyOffset, w_h0_fromHere, w_h0_withCopy, w_h0_bestCopy, w_h0_bestLiterals, w_h0_copiesOf, w_h0_literalsOf, w_h0_partsOf, w_h0_blocks, w_h0_blockMany, w_h0_newBlocks, w_h0_newMany, w_h0_rule, w_h0_place, w_h0_at]))] → va_S A s.heap H locs → lv_has ls 3 [(1, .int a1), (2, .int a2)] → W p l e (rm_Mo_bound) s m ([.ref h0, .int a1, .int a2] : List Value).toArray below meth c H locs 0 0 Q (F0 m 9 ls []) := by
    intro  H locs ls hf hP hD hS hl
    unfold m_Mo_bound_J9 at hf
    refine lv_iload_n hx hb dX12_bound_9 rfl (lv_at hl 1 rfl) ?_
    refine lv_if_ge (tgt := 17) hx hb dX12_bound_10 (by decide) (fun c_10 => ?_) (fun c_10 => ?_)
    · replace hf := if_t c_10 hf
      refine lv_iload_n hx hb dX12_bound_17 rfl (lv_at hl 0 rfl) ?_
      refine lv_if_ne (tgt := 37) hx hb dX12_bound_18 (by decide) (fun c_18 => ?_) (fun c_18 => ?_)
      · replace hf := if_f c_18 hf
        refine lv_ldc2 hx hb hown (hts _ kw_1421) dX12_bound_37 ?_
        refine lv_iload_n hx hb dX12_bound_40 rfl (lv_at hl 1 rfl) ?_
        refine lv_i2l (v := (a2.toInt64)) hx hb dX12_bound_41 rfl ?_
        refine lv_ladd hx hb dX12_bound_42 ?_
        refine lv_iload_n hx hb dX12_bound_43 rfl (lv_at hl 1 rfl) ?_
        refine lv_bipush (v := 6) hx hb dX12_bound_44 (by decide) ?_
        refine lv_idiv hx hb dX12_bound_46 (by decide) ?_
        refine lv_i2l (v := ((a2 / (6 : Int32)).toInt64)) hx hb dX12_bound_47 rfl ?_
        refine lv_ladd hx hb dX12_bound_48 ?_
        obtain rfl := Option.some.inj hf
        exact rt_l hQ hx hb hr hlocks hP hD hS dX12_bound_49
      · replace hf := if_t c_18 hf
        refine lv_iload_n hx hb dX12_bound_21 rfl (lv_at hl 1 rfl) ?_
        refine lv_i2l (v := (a2.toInt64)) hx hb dX12_bound_22 rfl ?_
        refine lv_iload_n hx hb dX12_bound_23 rfl (lv_at hl 1 rfl) ?_
        refine lv_sipush (v := 255) hx hb dX12_bound_24 (by decide) ?_
        refine lv_idiv hx hb dX12_bound_27 (by decide) ?_
        refine lv_i2l (v := ((a2 / (255 : Int32)).toInt64)) hx hb dX12_bound_28 rfl ?_
        refine lv_ladd hx hb dX12_bound_29 ?_
        refine lv_ldc2 hx hb hown (hts _ kw_1183) dX12_bound_30 ?_
        refine lv_ladd hx hb dX12_bound_33 ?_
        refine lv_goto (tgt := 49) hx hb dX12_bound_34 (by decide) ?_
        obtain rfl := Option.some.inj hf
        exact rt_l hQ hx hb hr hlocks hP hD hS dX12_bound_49
    · replace hf := if_f c_10 hf
      refine lv_ldc2 hx hb hown (hts _ kw_1416) dX12_bound_13 ?_
      obtain rfl := Option.some.inj hf
      exact rt_l hQ hx hb hr hlocks hP hD hS dX12_bound_16
  refine lv_if_eq (tgt := 9) hx hb dX12_bound_1 (by decide) (fun c_1 => ?_) (fun c_1 => ?_)
  · replace hf := if_t c_1 hf
    exact hJ_9  _ _ _ hf hP hD hS (lv_sub hl [1, 2] rfl)
  · replace hf := if_f c_1 hf
    refine lv_iload_n hx hb dX12_bound_4 rfl (lv_at hl 1 rfl) ?_
    refine lv_iconst (v := 2) hx hb dX12_bound_5 (by decide) ?_
    refine lv_icmp_ne (tgt := 13) hx hb dX12_bound_6 (by decide) (fun c_6 => ?_) (fun c_6 => ?_)
    · replace hf := if_f c_6 hf
      refine lv_ldc2 hx hb hown (hts _ kw_1416) dX12_bound_13 ?_
      obtain rfl := Option.some.inj hf
      exact rt_l hQ hx hb hr hlocks hP hD hS dX12_bound_16
    · replace hf := if_t c_6 hf
      exact hJ_9  _ _ _ hf hP hD hS (lv_sub hl [1, 2] rfl)

theorem dX12_told_0 : decode cX12_told 0 = .ok (.iload_n 1, 1) := by decide +kernel
theorem dX12_told_1 : decode cX12_told 1 = .ok (.ifCond .ne 10, 3) := by decide +kernel
theorem dX12_told_4 : decode cX12_told 4 = .ok (.aload_n 0, 1) := by decide +kernel
theorem dX12_told_5 : decode cX12_told 5 = .ok (.getfield 177, 3) := by decide +kernel
theorem dX12_told_8 : decode cX12_told 8 = .ok (.goto 40, 3) := by decide +kernel
theorem dX12_told_11 : decode cX12_told 11 = .ok (.iload_n 1, 1) := by decide +kernel
theorem dX12_told_12 : decode cX12_told 12 = .ok (.iconst 1, 1) := by decide +kernel
theorem dX12_told_13 : decode cX12_told 13 = .ok (.if_icmp .ne 10, 3) := by decide +kernel
theorem dX12_told_16 : decode cX12_told 16 = .ok (.aload_n 0, 1) := by decide +kernel
theorem dX12_told_17 : decode cX12_told 17 = .ok (.getfield 223, 3) := by decide +kernel
theorem dX12_told_20 : decode cX12_told 20 = .ok (.goto 28, 3) := by decide +kernel
theorem dX12_told_23 : decode cX12_told 23 = .ok (.iload_n 1, 1) := by decide +kernel
theorem dX12_told_24 : decode cX12_told 24 = .ok (.iconst 2, 1) := by decide +kernel
theorem dX12_told_25 : decode cX12_told 25 = .ok (.if_icmp .ne 10, 3) := by decide +kernel
theorem dX12_told_28 : decode cX12_told 28 = .ok (.aload_n 0, 1) := by decide +kernel
theorem dX12_told_29 : decode cX12_told 29 = .ok (.getfield 167, 3) := by decide +kernel
theorem dX12_told_32 : decode cX12_told 32 = .ok (.goto 16, 3) := by decide +kernel
theorem dX12_told_35 : decode cX12_told 35 = .ok (.iload_n 1, 1) := by decide +kernel
theorem dX12_told_36 : decode cX12_told 36 = .ok (.iconst 3, 1) := by decide +kernel
theorem dX12_told_37 : decode cX12_told 37 = .ok (.if_icmp .ne 10, 3) := by decide +kernel
theorem dX12_told_40 : decode cX12_told 40 = .ok (.aload_n 0, 1) := by decide +kernel
theorem dX12_told_41 : decode cX12_told 41 = .ok (.getfield 154, 3) := by decide +kernel
theorem dX12_told_44 : decode cX12_told 44 = .ok (.goto 4, 3) := by decide +kernel
theorem dX12_told_47 : decode cX12_told 47 = .ok (.iconst (-1), 1) := by decide +kernel
theorem dX12_told_48 : decode cX12_told 48 = .ok (.ireturn, 1) := by decide +kernel
def m_Mo_told (a1 : Int32) (h0_inSize : Int32) (h0_outSize : Int32) (h0_dictSize : Int32) (h0_blockMany : Int32) : Option (Int32) :=
  if a1 = 0 then
    some h0_inSize
  else
    if a1 = (1 : Int32) then
      some h0_outSize
    else
      if a1 = (2 : Int32) then
        some h0_dictSize
      else
        if a1 = (3 : Int32) then
          some h0_blockMany
        else
          some (-1 : Int32)
def rm_Mo_told : Room := { frames := 0, cells := 0, slots := 0, locals := 0 }
set_option maxHeartbeats 4000000 in
set_option maxRecDepth 100000 in
theorem c_Mo_told {l : Launch} {dC : Nat → ClassId} {dI : Nat → Nat → Nat} {cB cI : ClassId} {sz : Nat} {h0 : Nat} {a1 : Int32} {w_h0_in : Value} {h0_inSize : Int32} {w_h0_out : Value} {h0_outSize : Int32} {w_h0_dict : Value} {h0_dictSize : Int32} {w_h0_told : Value} {w_h0_fresh : Value} {w_h0_freshSize : Value} {w_h0_text : Value} {w_h0_lean : Value} {w_h0_size : Value} {w_h0_most : Value} {w_h0_offset : Value} {w_h0_copyAt : Value} {w_h0_copies : Value} {w_h0_copyLength : Value} {w_h0_copyOffset : Value} {w_h0_fromHere : Value} {w_h0_withCopy : Value} {w_h0_bestCopy : Value} {w_h0_bestLiterals : Value} {w_h0_copiesOf : Value} {w_h0_literalsOf : Value} {w_h0_partsOf : Value} {w_h0_blocks : Value} {h0_blockMany : Int32} {w_h0_newBlocks : Value} {w_h0_newMany : Value} {w_h0_rule : Value} {w_h0_place : Value} {w_h0_at : Value} {o_r : Int32} (hf : m_Mo_told a1 h0_inSize h0_outSize h0_dictSize h0_blockMany = some o_r) : Met l yX12_told (Cond.code yX12_told cX12_told 2 (some .int) :: lw_G) rm_Mo_told (PreC (dC, dI) [(cB, .byte), (cI, .int)] [.ref h0, .int a1] sz [(h0, .inr (10, [w_h0_in, .int h0_inSize, w_h0_out, .int h0_outSize, w_h0_dict, .int h0_dictSize, w_h0_told, w_h0_fresh, w_h0_freshSize, w_h0_text, w_h0_lean, w_h0_size, w_h0_most, w_h0_offset, w_h0_copyAt, w_h0_copies, w_h0_copyLength, w_h0_copyOffset, w_h0_fromHere, w_h0_withCopy, w_h0_bestCopy, w_h0_bestLiterals, w_h0_copiesOf, w_h0_literalsOf, w_h0_partsOf, w_h0_blocks, .int h0_blockMany, w_h0_newBlocks, w_h0_newMany, w_h0_rule, w_h0_place, w_h0_at]))]) (QcI o_r (dC, dI) [(h0, .inr (10, [w_h0_in, .int h0_inSize, w_h0_out, .int h0_outSize, w_h0_dict, .int h0_dictSize, w_h0_told, w_h0_fresh, w_h0_freshSize, w_h0_text, w_h0_lean, w_h0_size, w_h0_most, w_h0_offset, w_h0_copyAt, w_h0_copies, w_h0_copyLength, w_h0_copyOffset, w_h0_fromHere, w_h0_withCopy, w_h0_bestCopy, w_h0_bestLiterals, w_h0_copiesOf, w_h0_literalsOf, w_h0_partsOf, w_h0_blocks, .int h0_blockMany, w_h0_newBlocks, w_h0_newMany, w_h0_rule, w_h0_place, w_h0_at]))] (va_A [(h0, .inr (10, [w_h0_in, .int h0_inSize, w_h0_out, .int h0_outSize, w_h0_dict, .int h0_dictSize, w_h0_told, w_h0_fresh, w_h0_freshSize, w_h0_text, w_h0_lean, w_h0_size, w_h0_most, w_h0_offset, w_h0_copyAt, w_h0_copies, w_h0_copyLength, w_h0_copyOffset, w_h0_fromHere, w_h0_withCopy, w_h0_bestCopy, w_h0_bestLiterals, w_h0_copiesOf, w_h0_literalsOf, w_h0_partsOf, w_h0_blocks, .int h0_blockMany, w_h0_newBlocks, w_h0_newMany, w_h0_rule, w_h0_place, w_h0_at]))] sz)) 0 0 (va_A [(h0, .inr (10, [w_h0_in, .int h0_inSize, w_h0_out, .int h0_outSize, w_h0_dict, .int h0_dictSize, w_h0_told, w_h0_fresh, w_h0_freshSize, w_h0_text, w_h0_lean, w_h0_size, w_h0_most, w_h0_offset, w_h0_copyAt, w_h0_copies, w_h0_copyLength, w_h0_copyOffset, w_h0_fromHere, w_h0_withCopy, w_h0_bestCopy, w_h0_bestLiterals, w_h0_copiesOf, w_h0_literalsOf, w_h0_partsOf, w_h0_blocks, .int h0_blockMany, w_h0_newBlocks, w_h0_newMany, w_h0_rule, w_h0_place, w_h0_at]))] sz) := by
  refine met_of (Qf := fun A => QcI o_r (dC, dI) [(h0, .inr (10, [w_h0_in, .int h0_inSize, w_h0_out, .int h0_outSize, w_h0_dict, .int h0_dictSize, w_h0_told, w_h0_fresh, w_h0_freshSize, w_h0_text, w_h0_lean, w_h0_size, w_h0_most, w_h0_offset, w_h0_copyAt, w_h0_copies, w_h0_copyLength, w_h0_copyOffset, w_h0_fromHere, w_h0_withCopy, w_h0_bestCopy, w_h0_bestLiterals, w_h0_copiesOf, w_h0_literalsOf, w_h0_partsOf, w_h0_blocks, .int h0_blockMany, w_h0_newBlocks, w_h0_newMany, w_h0_rule, w_h0_place, w_h0_at]))] A) (by decide) (Nat.le_of_ble_eq_true rfl) ?_
  intro p e s m below meth c A ls Q hx hb hr hml hown hts hlocks hnm hP hK hD hN hT hA hl hQ
  have hown : s.vm.findClass RX12 = some m.cls := hown
  have hS : va_S A s.heap s.heap [] := va_S.rf
  have hl : lv_has ls 2 [(0, .ref h0), (1, .int a1)] := hl
  unfold m_Mo_told at hf
  refine lv_iload_n hx hb dX12_told_0 rfl (lv_at hl 1 rfl) ?_
  refine lv_if_ne (tgt := 11) hx hb dX12_told_1 (by decide) (fun c_1 => ?_) (fun c_1 => ?_)
  · replace hf := if_f c_1 hf
    refine lv_iload_n hx hb dX12_told_11 rfl (lv_at hl 1 rfl) ?_
    refine lv_iconst (v := 1) hx hb dX12_told_12 (by decide) ?_
    refine lv_icmp_ne (tgt := 23) hx hb dX12_told_13 (by decide) (fun c_13 => ?_) (fun c_13 => ?_)
    · replace hf := if_f c_13 hf
      refine lv_iload_n hx hb dX12_told_23 rfl (lv_at hl 1 rfl) ?_
      refine lv_iconst (v := 2) hx hb dX12_told_24 (by decide) ?_
      refine lv_icmp_ne (tgt := 35) hx hb dX12_told_25 (by decide) (fun c_25 => ?_) (fun c_25 => ?_)
      · replace hf := if_f c_25 hf
        refine lv_iload_n hx hb dX12_told_35 rfl (lv_at hl 1 rfl) ?_
        refine lv_iconst (v := 3) hx hb dX12_told_36 (by decide) ?_
        refine lv_icmp_ne (tgt := 47) hx hb dX12_told_37 (by decide) (fun c_37 => ?_) (fun c_37 => ?_)
        · replace hf := if_f c_37 hf
          refine lv_iconst (v := -1) hx hb dX12_told_47 (by decide) ?_
          obtain rfl := Option.some.inj hf
          exact rt_i hQ hx hb hr hlocks hP hD hS dX12_told_48
        · replace hf := if_t c_37 hf
          refine lv_aload_n hx hb dX12_told_40 rfl (lv_at hl 0 rfl) ?_
          refine va_get (D := (dC, dI)) (ci := 10) (v := .int h0_blockMany) (C := RX12) (T := TX12) (N := 32) hx hb hts inG_X12 hown hK hP 0 rfl rfl 26 (by decide) (hts _ kw_1078) (fun _ h9 => h9) rfl dX12_told_41 ?_
          refine lv_goto (tgt := 48) hx hb dX12_told_44 (by decide) ?_
          obtain rfl := Option.some.inj hf
          exact rt_i hQ hx hb hr hlocks hP hD hS dX12_told_48
      · replace hf := if_t c_25 hf
        refine lv_aload_n hx hb dX12_told_28 rfl (lv_at hl 0 rfl) ?_
        refine va_get (D := (dC, dI)) (ci := 10) (v := .int h0_dictSize) (C := RX12) (T := TX12) (N := 32) hx hb hts inG_X12 hown hK hP 0 rfl rfl 5 (by decide) (hts _ kw_1057) (fun _ h9 => h9) rfl dX12_told_29 ?_
        refine lv_goto (tgt := 48) hx hb dX12_told_32 (by decide) ?_
        obtain rfl := Option.some.inj hf
        exact rt_i hQ hx hb hr hlocks hP hD hS dX12_told_48
    · replace hf := if_t c_13 hf
      refine lv_aload_n hx hb dX12_told_16 rfl (lv_at hl 0 rfl) ?_
      refine va_get (D := (dC, dI)) (ci := 10) (v := .int h0_outSize) (C := RX12) (T := TX12) (N := 32) hx hb hts inG_X12 hown hK hP 0 rfl rfl 3 (by decide) (hts _ kw_1055) (fun _ h9 => h9) rfl dX12_told_17 ?_
      refine lv_goto (tgt := 48) hx hb dX12_told_20 (by decide) ?_
      obtain rfl := Option.some.inj hf
      exact rt_i hQ hx hb hr hlocks hP hD hS dX12_told_48
  · replace hf := if_t c_1 hf
    refine lv_aload_n hx hb dX12_told_4 rfl (lv_at hl 0 rfl) ?_
    refine va_get (D := (dC, dI)) (ci := 10) (v := .int h0_inSize) (C := RX12) (T := TX12) (N := 32) hx hb hts inG_X12 hown hK hP 0 rfl rfl 1 (by decide) (hts _ kw_1053) (fun _ h9 => h9) rfl dX12_told_5 ?_
    refine lv_goto (tgt := 48) hx hb dX12_told_8 (by decide) ?_
    obtain rfl := Option.some.inj hf
    exact rt_i hQ hx hb hr hlocks hP hD hS dX12_told_48

