theorem dX6_isFirstChunk_0 : decode cX6_isFirstChunk 0 = .ok (.iconst 0, 1) := by decide +kernel
theorem dX6_isFirstChunk_1 : decode cX6_isFirstChunk 1 = .ok (.istore_n 1, 1) := by decide +kernel
theorem dX6_isFirstChunk_2 : decode cX6_isFirstChunk 2 = .ok (.iload_n 1, 1) := by decide +kernel
theorem dX6_isFirstChunk_3 : decode cX6_isFirstChunk 3 = .ok (.getstatic 210, 3) := by decide +kernel
theorem dX6_isFirstChunk_6 : decode cX6_isFirstChunk 6 = .ok (.arraylength, 1) := by decide +kernel
theorem dX6_isFirstChunk_7 : decode cX6_isFirstChunk 7 = .ok (.if_icmp .ge 32, 3) := by decide +kernel
theorem dX6_isFirstChunk_10 : decode cX6_isFirstChunk 10 = .ok (.aload_n 0, 1) := by decide +kernel
theorem dX6_isFirstChunk_11 : decode cX6_isFirstChunk 11 = .ok (.getfield 9, 3) := by decide +kernel
theorem dX6_isFirstChunk_14 : decode cX6_isFirstChunk 14 = .ok (.aload_n 0, 1) := by decide +kernel
theorem dX6_isFirstChunk_15 : decode cX6_isFirstChunk 15 = .ok (.getfield 47, 3) := by decide +kernel
theorem dX6_isFirstChunk_18 : decode cX6_isFirstChunk 18 = .ok (.iload_n 1, 1) := by decide +kernel
theorem dX6_isFirstChunk_19 : decode cX6_isFirstChunk 19 = .ok (.iadd, 1) := by decide +kernel
theorem dX6_isFirstChunk_20 : decode cX6_isFirstChunk 20 = .ok (.invokevirtual 89, 3) := by decide +kernel
theorem dX6_isFirstChunk_23 : decode cX6_isFirstChunk 23 = .ok (.getstatic 210, 3) := by decide +kernel
theorem dX6_isFirstChunk_26 : decode cX6_isFirstChunk 26 = .ok (.iload_n 1, 1) := by decide +kernel
theorem dX6_isFirstChunk_27 : decode cX6_isFirstChunk 27 = .ok (.iaload, 1) := by decide +kernel
theorem dX6_isFirstChunk_28 : decode cX6_isFirstChunk 28 = .ok (.if_icmp .eq 5, 3) := by decide +kernel
theorem dX6_isFirstChunk_31 : decode cX6_isFirstChunk 31 = .ok (.iconst 0, 1) := by decide +kernel
theorem dX6_isFirstChunk_32 : decode cX6_isFirstChunk 32 = .ok (.ireturn, 1) := by decide +kernel
theorem dX6_isFirstChunk_33 : decode cX6_isFirstChunk 33 = .ok (.iinc 1 1, 3) := by decide +kernel
theorem dX6_isFirstChunk_36 : decode cX6_isFirstChunk 36 = .ok (.goto (-34), 3) := by decide +kernel
theorem dX6_isFirstChunk_39 : decode cX6_isFirstChunk 39 = .ok (.iconst 1, 1) := by decide +kernel
theorem dX6_isFirstChunk_40 : decode cX6_isFirstChunk 40 = .ok (.ireturn, 1) := by decide +kernel
def m_Opener_isFirstChunk_B2 (h0_at : Int32) (h0_input_count : Int32) (h0_input_held_n : Nat) (h0_input_held_f : Nat → Int32) (j1_1 : Int32) : Option ((Int32) ⊕ ((((Int32))))) :=
  if (nI 6) ≤ j1_1 then
    some (.inr (1 : Int32))
  else
    (m_Bytes_at (h0_at + j1_1) h0_input_count h0_input_held_n h0_input_held_f).bind fun r2 =>
    chk j1_1 6 <|
    if r2 = (fcv j1_1.toNatClampNeg) then
      bnd (j1_1 + (1 : Int32)) fun v1_3 =>
      some (.inl v1_3)
    else
      some (.inr (0 : Int32))
def m_Opener_isFirstChunk (h0_at : Int32) (h0_input_count : Int32) (h0_input_held_n : Nat) (h0_input_held_f : Nat → Int32) : Option (Int32) :=
  (iter (fun st => m_Opener_isFirstChunk_B2 h0_at h0_input_count h0_input_held_n h0_input_held_f st) FU (0 : Int32)).bind fun o => some o
def rm_Opener_isFirstChunk : Room := { frames := 1, cells := 0, slots := 0, locals := 21 }
set_option maxHeartbeats 4000000 in
set_option maxRecDepth 100000 in
theorem c_Opener_isFirstChunk {l : Launch} {dC : Nat → ClassId} {dI : Nat → Nat → Nat} {cB cI : ClassId} {sz : Nat} {h0 : Nat} {h0_input : Nat} {h0_input_held : Nat} {w_h0_words : Value} {w_h0_settings : Value} {w_h0_to : Value} {w_h0_blocks : Value} {w_h0_broken : Value} {w_h0_brokenAt : Value} {h0_at : Int32} {w_h0_end : Value} {w_h0_begin : Value} {w_h0_copies : Value} {w_h0_literals : Value} {w_h0_parts : Value} {w_h0_frameBegin : Value} {w_h0_flags : Value} {w_h0_width : Value} {w_h0_size : Value} {h0_input_count : Int32} {h0_input_held_n : Nat} {h0_input_held_f : Nat → Int32} {o_r : Int32} (hf : m_Opener_isFirstChunk h0_at h0_input_count h0_input_held_n h0_input_held_f = some o_r) : Met l yX6_isFirstChunk (Cond.code yX6_isFirstChunk cX6_isFirstChunk 2 (some .boolean) :: lw_G) rm_Opener_isFirstChunk (PreC (dC, dI) [(cB, .byte), (cI, .int)] [.ref h0] sz [(h0, .inr (5, [.ref h0_input, w_h0_words, w_h0_settings, w_h0_to, w_h0_blocks, w_h0_broken, w_h0_brokenAt, .int h0_at, w_h0_end, w_h0_begin, w_h0_copies, w_h0_literals, w_h0_parts, w_h0_frameBegin, w_h0_flags, w_h0_width, w_h0_size])), (h0_input, .inr (2, [.ref h0_input_held, .int h0_input_count])), (h0_input_held, .inl (cB, h0_input_held_n, .inl h0_input_held_f))]) (QcI o_r (dC, dI) [(h0, .inr (5, [.ref h0_input, w_h0_words, w_h0_settings, w_h0_to, w_h0_blocks, w_h0_broken, w_h0_brokenAt, .int h0_at, w_h0_end, w_h0_begin, w_h0_copies, w_h0_literals, w_h0_parts, w_h0_frameBegin, w_h0_flags, w_h0_width, w_h0_size])), (h0_input, .inr (2, [.ref h0_input_held, .int h0_input_count])), (h0_input_held, .inl (cB, h0_input_held_n, .inl h0_input_held_f))] (va_A [(h0, .inr (5, [.ref h0_input, w_h0_words, w_h0_settings, w_h0_to, w_h0_blocks, w_h0_broken, w_h0_brokenAt, .int h0_at, w_h0_end, w_h0_begin, w_h0_copies, w_h0_literals, w_h0_parts, w_h0_frameBegin, w_h0_flags, w_h0_width, w_h0_size])), (h0_input, .inr (2, [.ref h0_input_held, .int h0_input_count])), (h0_input_held, .inl (cB, h0_input_held_n, .inl h0_input_held_f))] sz)) 0 0 (va_A [(h0, .inr (5, [.ref h0_input, w_h0_words, w_h0_settings, w_h0_to, w_h0_blocks, w_h0_broken, w_h0_brokenAt, .int h0_at, w_h0_end, w_h0_begin, w_h0_copies, w_h0_literals, w_h0_parts, w_h0_frameBegin, w_h0_flags, w_h0_width, w_h0_size])), (h0_input, .inr (2, [.ref h0_input_held, .int h0_input_count])), (h0_input_held, .inl (cB, h0_input_held_n, .inl h0_input_held_f))] sz) := by
  refine met_of (Qf := fun A => QcI o_r (dC, dI) [(h0, .inr (5, [.ref h0_input, w_h0_words, w_h0_settings, w_h0_to, w_h0_blocks, w_h0_broken, w_h0_brokenAt, .int h0_at, w_h0_end, w_h0_begin, w_h0_copies, w_h0_literals, w_h0_parts, w_h0_frameBegin, w_h0_flags, w_h0_width, w_h0_size])), (h0_input, .inr (2, [.ref h0_input_held, .int h0_input_count])), (h0_input_held, .inl (cB, h0_input_held_n, .inl h0_input_held_f))] A) (by decide) (Nat.le_of_ble_eq_true rfl) ?_
  intro p e s m below meth c A ls Q hx hb hr hml hown hts hlocks hnm hP hK hD hN hT hA hl hQ
  have hown : s.vm.findClass RX6 = some m.cls := hown
  have hS : va_S A s.heap s.heap [] := va_S.rf
  have hl : lv_has ls 2 [(0, .ref h0)] := hl
  obtain ⟨t0, hZ, hTt⟩ := id hT
  unfold m_Opener_isFirstChunk at hf
  refine lv_iconst (v := 0) hx hb dX6_isFirstChunk_0 (by decide) ?_
  refine lv_istore_n (lv' := [(1, .int (0 : Int32)), (0, .ref h0)]) hx hb dX6_isFirstChunk_1 rfl hl (by decide) rfl (fun ls hl => ?_)
  obtain ⟨o_2, hi_2, hk_2⟩ := bind_some hf
  have hL_2 : ∀ (n : Nat) (j1_1 : Int32) (H : Heap) (locs : List Loc) (ls : Array Slot), iter (fun st => m_Opener_isFirstChunk_B2 h0_at h0_input_count h0_input_held_n h0_input_held_f st) n j1_1 = some o_2 → va_P (dC, dI) vwCl [(h0, .inr (5, [.ref h0_input, w_h0_words, w_h0_settings, w_h0_to, w_h0_blocks, w_h0_broken, w_h0_brokenAt, .int h0_at, w_h0_end, w_h0_begin, w_h0_copies, w_h0_literals, w_h0_parts, w_h0_frameBegin, w_h0_flags, w_h0_width, w_h0_size])), (h0_input, .inr (2, [.ref h0_input_held, .int h0_input_count])), (h0_input_held, .inl (cB, h0_input_held_n, .inl h0_input_held_f))] H → va_D A [(h0, .inr (5, [.ref h0_input, w_h0_words, w_h0_settings, w_h0_to, w_h0_blocks, w_h0_broken, w_h0_brokenAt, .int h0_at, w_h0_end, w_h0_begin, w_h0_copies, w_h0_literals, w_h0_parts, w_h0_frameBegin, w_h0_flags, w_h0_width, w_h0_size])), (h0_input, .inr (2, [.ref h0_input_held, .int h0_input_count])), (h0_input_held, .inl (cB, h0_input_held_n, .inl h0_input_held_f))] → va_S A s.heap H locs → lv_has ls 2 [(0, .ref h0), (1, .int j1_1)] → W p l e (rm_Opener_isFirstChunk) s m ([.ref h0] : List Value).toArray below meth c H locs 0 0 Q (F0 m 2 ls []) := by
    intro n
    induction n with
    | zero => intro j1_1 H locs ls hf; exact absurd hf (fun z => by cases z)
    | succ n ih_2 =>
      intro j1_1 H locs ls hf hP hD hS hl
      obtain ⟨r_2, hf, hr_2⟩ := iter_succ hf
      have hf : m_Opener_isFirstChunk_B2 h0_at h0_input_count h0_input_held_n h0_input_held_f j1_1 = some r_2 := hf
      unfold m_Opener_isFirstChunk_B2 at hf
      refine lv_iload_n hx hb dX6_isFirstChunk_2 rfl (lv_at hl 1 rfl) ?_
      refine va_getsN hx hb hZ hS hown (va_Nw.use rfl (hN _ nw_20)) (fun _ h9 => h9) dX6_isFirstChunk_3 ?_
      refine va_tlen (v := nI 6) hx hb hTt hS rfl dX6_isFirstChunk_6 ?_
      refine lv_icmp_ge (tgt := 39) hx hb dX6_isFirstChunk_7 (by decide) (fun c_7 => ?_) (fun c_7 => ?_)
      · replace hf := if_t c_7 hf
        refine lv_iconst (v := 1) hx hb dX6_isFirstChunk_39 (by decide) ?_
        have hzb : narrow .boolean (.int (1 : Int32)) = .int (1 : Int32) := rfl
        replace hf : some (1 : Int32) = some o_r := by have hq := hk_2; rw [iter_exit hf hr_2] at hq; exact hq
        obtain rfl := Option.some.inj hf
        exact rt_z hQ hx hb hr hzb hlocks hP hD hS dX6_isFirstChunk_40
      · replace hf := if_f c_7 hf
        refine lv_aload_n hx hb dX6_isFirstChunk_10 rfl (lv_at hl 0 rfl) ?_
        refine va_get (D := (dC, dI)) (ci := 5) (v := .ref h0_input) (C := RX6) (T := TX6) (N := 17) hx hb hts inG_X6 hown hK hP 0 rfl rfl 0 (by decide) (hts _ kw_289) (fun _ h9 => h9) rfl dX6_isFirstChunk_11 ?_
        refine lv_aload_n hx hb dX6_isFirstChunk_14 rfl (lv_at hl 0 rfl) ?_
        refine va_get (D := (dC, dI)) (ci := 5) (v := .int h0_at) (C := RX6) (T := TX6) (N := 17) hx hb hts inG_X6 hown hK hP 0 rfl rfl 7 (by decide) (hts _ kw_296) (fun _ h9 => h9) rfl dX6_isFirstChunk_15 ?_
        refine lv_iload_n hx hb dX6_isFirstChunk_18 rfl (lv_at hl 1 rfl) ?_
        refine lv_iadd hx hb dX6_isFirstChunk_19 ?_
        obtain ⟨r2, hc, hf⟩ := bind_some hf
        refine nx_i (rn_V (As := [.int (h0_at + j1_1)]) (rest := []) (n := 1) (ci := 2) (q0 := 0) ⟨hx, hb, hml, hown, hts⟩ (c_Bytes_at (l := l) (dC := dC) (dI := dI) (cB := cB) (cI := cI) (h0 := h0_input) (a1 := (h0_at + j1_1)) (h0_held := h0_input_held) (h0_count := h0_input_count) (h0_held_n := h0_input_held_n) (h0_held_f := h0_input_held_f)  (o_r := r2) hc) (wV kw_862 kw_418 kw_419 kw_83 kw_420) (by decide +kernel) ⟨Nat.le_of_ble_eq_true rfl, Nat.le_of_ble_eq_true rfl⟩ hK hP hD hN hT hS (va_free (wc := [(h0_input, .inr (2, [.ref h0_input_held, .int h0_input_count])), (h0_input_held, .inl (cB, h0_input_held_n, .inl h0_input_held_f))]) hD hS hA [1, 2] rfl) [1, 2] rfl (by decide) rfl rfl rfl hl.1 rfl (lv_room (Nat.le_of_ble_eq_true rfl)) dX6_isFirstChunk_20 ⟨Nat.le_of_ble_eq_true rfl, Nat.le_of_ble_eq_true rfl⟩) hP hD hS hA (wr := [(h0, .inr (5, [.ref h0_input, w_h0_words, w_h0_settings, w_h0_to, w_h0_blocks, w_h0_broken, w_h0_brokenAt, .int h0_at, w_h0_end, w_h0_begin, w_h0_copies, w_h0_literals, w_h0_parts, w_h0_frameBegin, w_h0_flags, w_h0_width, w_h0_size]))]) (w1 := [(h0_input, .inr (2, [.ref h0_input_held, .int h0_input_count])), (h0_input_held, .inl (cB, h0_input_held_n, .inl h0_input_held_f))]) (ws' := [(h0, .inr (5, [.ref h0_input, w_h0_words, w_h0_settings, w_h0_to, w_h0_blocks, w_h0_broken, w_h0_brokenAt, .int h0_at, w_h0_end, w_h0_begin, w_h0_copies, w_h0_literals, w_h0_parts, w_h0_frameBegin, w_h0_flags, w_h0_width, w_h0_size])), (h0_input, .inr (2, [.ref h0_input_held, .int h0_input_count])), (h0_input_held, .inl (cB, h0_input_held_n, .inl h0_input_held_f))]) [1, 2] [0] [0, 1, 2] rfl rfl (by decide) (by decide) rfl (by decide) (fun H locs hP hD hS => ?_)
        refine va_getsN hx hb hZ hS hown (va_Nw.use rfl (hN _ nw_20)) (fun _ h9 => h9) dX6_isFirstChunk_23 ?_
        refine lv_iload_n hx hb dX6_isFirstChunk_26 rfl (lv_at hl 1 rfl) ?_
        obtain ⟨hin, hf⟩ := chk_some hf
        refine va_ti (v := .int (fcv j1_1.toNatClampNeg)) hx hb hTt hS hin rfl dX6_isFirstChunk_27 ?_
        refine lv_icmp_eq (tgt := 33) hx hb dX6_isFirstChunk_28 (by decide) (fun c_28 => ?_) (fun c_28 => ?_)
        · replace hf := if_t c_28 hf
          obtain ⟨v1_3, e_v1_3⟩ : ∃ y : Int32, y = (j1_1 + (1 : Int32)) := ⟨_, rfl⟩
          replace hf := bnd_at e_v1_3 hf
          refine lv_iinc (v := v1_3) (lv' := [(1, .int v1_3), (0, .ref h0)]) hx hb dX6_isFirstChunk_33 hl (k := 1) rfl (by rw [e_v1_3]; rfl) (by decide) rfl (fun ls hl => ?_)
          refine lv_goto (tgt := 2) hx hb dX6_isFirstChunk_36 (by decide) ?_
          exact ih_2 v1_3 _ _ _ (iter_back hf hr_2) hP hD hS (lv_sub hl [1, 0] rfl)
        · replace hf := if_f c_28 hf
          refine lv_iconst (v := 0) hx hb dX6_isFirstChunk_31 (by decide) ?_
          have hzb : narrow .boolean (.int (0 : Int32)) = .int (0 : Int32) := rfl
          replace hf : some (0 : Int32) = some o_r := by have hq := hk_2; rw [iter_exit hf hr_2] at hq; exact hq
          obtain rfl := Option.some.inj hf
          exact rt_z hQ hx hb hr hzb hlocks hP hD hS dX6_isFirstChunk_32
  exact hL_2 FU (0 : Int32) _ _ _ hi_2 hP hD hS (lv_sub hl [1, 0] rfl)

theorem dX6_openChunkBytes_0 : decode cX6_openChunkBytes 0 = .ok (.aload_n 0, 1) := by decide +kernel
theorem dX6_openChunkBytes_1 : decode cX6_openChunkBytes 1 = .ok (.getfield 47, 3) := by decide +kernel
theorem dX6_openChunkBytes_4 : decode cX6_openChunkBytes 4 = .ok (.istore 4, 2) := by decide +kernel
theorem dX6_openChunkBytes_6 : decode cX6_openChunkBytes 6 = .ok (.aload_n 0, 1) := by decide +kernel
theorem dX6_openChunkBytes_7 : decode cX6_openChunkBytes 7 = .ok (.getfield 29, 3) := by decide +kernel
theorem dX6_openChunkBytes_10 : decode cX6_openChunkBytes 10 = .ok (.invokevirtual 50, 3) := by decide +kernel
theorem dX6_openChunkBytes_13 : decode cX6_openChunkBytes 13 = .ok (.istore 5, 2) := by decide +kernel
theorem dX6_openChunkBytes_15 : decode cX6_openChunkBytes 15 = .ok (.aload_n 0, 1) := by decide +kernel
theorem dX6_openChunkBytes_16 : decode cX6_openChunkBytes 16 = .ok (.dup, 1) := by decide +kernel
theorem dX6_openChunkBytes_17 : decode cX6_openChunkBytes 17 = .ok (.getfield 47, 3) := by decide +kernel
theorem dX6_openChunkBytes_20 : decode cX6_openChunkBytes 20 = .ok (.iconst 4, 1) := by decide +kernel
theorem dX6_openChunkBytes_21 : decode cX6_openChunkBytes 21 = .ok (.iadd, 1) := by decide +kernel
theorem dX6_openChunkBytes_22 : decode cX6_openChunkBytes 22 = .ok (.putfield 47, 3) := by decide +kernel
theorem dX6_openChunkBytes_25 : decode cX6_openChunkBytes 25 = .ok (.iload_n 2, 1) := by decide +kernel
theorem dX6_openChunkBytes_26 : decode cX6_openChunkBytes 26 = .ok (.ifCond .eq 14, 3) := by decide +kernel
theorem dX6_openChunkBytes_29 : decode cX6_openChunkBytes 29 = .ok (.aload_n 0, 1) := by decide +kernel
theorem dX6_openChunkBytes_30 : decode cX6_openChunkBytes 30 = .ok (.iload_n 3, 1) := by decide +kernel
theorem dX6_openChunkBytes_31 : decode cX6_openChunkBytes 31 = .ok (.iload_n 1, 1) := by decide +kernel
theorem dX6_openChunkBytes_32 : decode cX6_openChunkBytes 32 = .ok (.invokevirtual 188, 3) := by decide +kernel
theorem dX6_openChunkBytes_35 : decode cX6_openChunkBytes 35 = .ok (.ifCond .ne 43, 3) := by decide +kernel
theorem dX6_openChunkBytes_38 : decode cX6_openChunkBytes 38 = .ok (.iconst 0, 1) := by decide +kernel
theorem dX6_openChunkBytes_39 : decode cX6_openChunkBytes 39 = .ok (.ireturn, 1) := by decide +kernel
theorem dX6_openChunkBytes_40 : decode cX6_openChunkBytes 40 = .ok (.aload_n 0, 1) := by decide +kernel
theorem dX6_openChunkBytes_41 : decode cX6_openChunkBytes 41 = .ok (.aload_n 0, 1) := by decide +kernel
theorem dX6_openChunkBytes_42 : decode cX6_openChunkBytes 42 = .ok (.getfield 47, 3) := by decide +kernel
theorem dX6_openChunkBytes_45 : decode cX6_openChunkBytes 45 = .ok (.iload_n 3, 1) := by decide +kernel
theorem dX6_openChunkBytes_46 : decode cX6_openChunkBytes 46 = .ok (.iadd, 1) := by decide +kernel
theorem dX6_openChunkBytes_47 : decode cX6_openChunkBytes 47 = .ok (.putfield 54, 3) := by decide +kernel
theorem dX6_openChunkBytes_50 : decode cX6_openChunkBytes 50 = .ok (.aload_n 0, 1) := by decide +kernel
theorem dX6_openChunkBytes_51 : decode cX6_openChunkBytes 51 = .ok (.invokevirtual 64, 3) := by decide +kernel
theorem dX6_openChunkBytes_54 : decode cX6_openChunkBytes 54 = .ok (.ifCond .ne 5, 3) := by decide +kernel
theorem dX6_openChunkBytes_57 : decode cX6_openChunkBytes 57 = .ok (.iconst 0, 1) := by decide +kernel
theorem dX6_openChunkBytes_58 : decode cX6_openChunkBytes 58 = .ok (.ireturn, 1) := by decide +kernel
theorem dX6_openChunkBytes_59 : decode cX6_openChunkBytes 59 = .ok (.aload_n 0, 1) := by decide +kernel
theorem dX6_openChunkBytes_60 : decode cX6_openChunkBytes 60 = .ok (.aload_n 0, 1) := by decide +kernel
theorem dX6_openChunkBytes_61 : decode cX6_openChunkBytes 61 = .ok (.getfield 9, 3) := by decide +kernel
theorem dX6_openChunkBytes_64 : decode cX6_openChunkBytes 64 = .ok (.invokevirtual 50, 3) := by decide +kernel
theorem dX6_openChunkBytes_67 : decode cX6_openChunkBytes 67 = .ok (.putfield 54, 3) := by decide +kernel
theorem dX6_openChunkBytes_70 : decode cX6_openChunkBytes 70 = .ok (.aload_n 0, 1) := by decide +kernel
theorem dX6_openChunkBytes_71 : decode cX6_openChunkBytes 71 = .ok (.iload 4, 2) := by decide +kernel
theorem dX6_openChunkBytes_73 : decode cX6_openChunkBytes 73 = .ok (.iconst 4, 1) := by decide +kernel
theorem dX6_openChunkBytes_74 : decode cX6_openChunkBytes 74 = .ok (.iadd, 1) := by decide +kernel
theorem dX6_openChunkBytes_75 : decode cX6_openChunkBytes 75 = .ok (.invokevirtual 61, 3) := by decide +kernel
theorem dX6_openChunkBytes_78 : decode cX6_openChunkBytes 78 = .ok (.aload_n 0, 1) := by decide +kernel
theorem dX6_openChunkBytes_79 : decode cX6_openChunkBytes 79 = .ok (.getfield 9, 3) := by decide +kernel
theorem dX6_openChunkBytes_82 : decode cX6_openChunkBytes 82 = .ok (.iload 4, 2) := by decide +kernel
theorem dX6_openChunkBytes_84 : decode cX6_openChunkBytes 84 = .ok (.invokevirtual 183, 3) := by decide +kernel
theorem dX6_openChunkBytes_87 : decode cX6_openChunkBytes 87 = .ok (.aload_n 0, 1) := by decide +kernel
theorem dX6_openChunkBytes_88 : decode cX6_openChunkBytes 88 = .ok (.getfield 29, 3) := by decide +kernel
theorem dX6_openChunkBytes_91 : decode cX6_openChunkBytes 91 = .ok (.iload 5, 2) := by decide +kernel
theorem dX6_openChunkBytes_93 : decode cX6_openChunkBytes 93 = .ok (.aload_n 0, 1) := by decide +kernel
theorem dX6_openChunkBytes_94 : decode cX6_openChunkBytes 94 = .ok (.getfield 29, 3) := by decide +kernel
theorem dX6_openChunkBytes_97 : decode cX6_openChunkBytes 97 = .ok (.invokevirtual 50, 3) := by decide +kernel
theorem dX6_openChunkBytes_100 : decode cX6_openChunkBytes 100 = .ok (.iload 5, 2) := by decide +kernel
theorem dX6_openChunkBytes_102 : decode cX6_openChunkBytes 102 = .ok (.isub, 1) := by decide +kernel
theorem dX6_openChunkBytes_103 : decode cX6_openChunkBytes 103 = .ok (.invokestatic 220, 3) := by decide +kernel
theorem dX6_openChunkBytes_106 : decode cX6_openChunkBytes 106 = .ok (.if_icmp .eq 12, 3) := by decide +kernel
theorem dX6_openChunkBytes_109 : decode cX6_openChunkBytes 109 = .ok (.aload_n 0, 1) := by decide +kernel
theorem dX6_openChunkBytes_110 : decode cX6_openChunkBytes 110 = .ok (.bipush 8, 2) := by decide +kernel
theorem dX6_openChunkBytes_112 : decode cX6_openChunkBytes 112 = .ok (.iload 4, 2) := by decide +kernel
theorem dX6_openChunkBytes_114 : decode cX6_openChunkBytes 114 = .ok (.invokevirtual 98, 3) := by decide +kernel
theorem dX6_openChunkBytes_117 : decode cX6_openChunkBytes 117 = .ok (.ireturn, 1) := by decide +kernel
theorem dX6_openChunkBytes_118 : decode cX6_openChunkBytes 118 = .ok (.iconst 1, 1) := by decide +kernel
theorem dX6_openChunkBytes_119 : decode cX6_openChunkBytes 119 = .ok (.ireturn, 1) := by decide +kernel
def m_Opener_openChunkBytes_J78 (h0_at : Int32) (h0_input_count : Int32) (h0_to_held_n : Nat) (h0_input_held_n : Nat) (h0_input_held_f : Nat → Int32) (r1 : Int32) (f3 : Nat → Int32) (f4 : Nat → Int32) (g5 : Int32) (g6 : Int32) (g7 : Int32) (g8 : Int32) (g9 : Int32) (g10 : Int32) (g11 : Int32) (g12 : Int32) (g13 : Int32) (g14 : Int32) : Option (Int32 × Int32 × Int32 × Int32 × Int32 × Int32 × Int32 × Int32 × Int32 × Int32 × Int32 × (Nat → Int32) × (Nat → Int32)) :=
  (m_Bytes_number32 h0_at h0_input_count h0_input_held_n h0_input_held_f).bind fun r15 =>
  (m_Bytes_size g14).bind fun r16 =>
  (m_Sums_maskedCrcOf r1 (r16 - r1) g14 h0_to_held_n f4).bind fun r17 =>
  if r15 = r17 then
    some ((1 : Int32), g8, g9, g10, g11, g12, g5, g6, g7, g14, g13, f3, f4)
  else
    (m_Opener_breaks (8 : Int32) h0_at).bind fun (r18, u19, u20) =>
    bch r18 <|
    some (r18, u19, u20, g10, g11, g12, g5, g6, g7, g14, g13, f3, f4)
def m_Opener_openChunkBytes (a1 : Int32) (a2 : Int32) (a3 : Int32) (h0_broken : Int32) (h0_brokenAt : Int32) (h0_at : Int32) (h0_end : Int32) (h0_begin : Int32) (h0_copies : Int32) (h0_literals : Int32) (h0_parts : Int32) (h0_to_count : Int32) (h0_blocks_count : Int32) (h0_input_count : Int32) (h0_blocks_facts_n : Nat) (h0_blocks_facts_f : Nat → Int32) (h0_to_held_n : Nat) (h0_to_held_f : Nat → Int32) (h0_input_held_n : Nat) (h0_input_held_f : Nat → Int32) : Option (Int32 × Int32 × Int32 × Int32 × Int32 × Int32 × Int32 × Int32 × Int32 × Int32 × Int32 × (Nat → Int32) × (Nat → Int32)) :=
  (m_Bytes_size h0_to_count).bind fun r1 =>
  bnd (h0_at + (4 : Int32)) fun p_2 =>
  if a2 = 0 then
    bnd (p_2 + a3) fun p_21 =>
    (m_Opener_openElements h0_broken h0_brokenAt p_2 p_21 h0_to_count h0_input_count h0_input_held_n h0_input_held_f h0_to_held_n h0_to_held_f).bind fun (r22, u23, u24, u25, u26, u27, u28, u29, u30, u31) =>
    if r22 = 0 then
      some ((0 : Int32), u23, u24, u25, p_21, u26, u27, u28, u29, u30, h0_blocks_count, h0_blocks_facts_f, u31)
    else
      (m_Bytes_size h0_input_count).bind fun r32 =>
      (m_Opener_addPackedBlock (h0_at + (4 : Int32)) u25 u26 u27 u28 u29 u30 h0_blocks_count h0_blocks_facts_n h0_blocks_facts_f).bind fun (u33, u34) =>
      m_Opener_openChunkBytes_J78 h0_at h0_input_count h0_to_held_n h0_input_held_n h0_input_held_f r1 u34 u31 u27 u28 u29 u23 u24 u25 r32 u26 u33 u30
  else
    (m_Opener_openRaw a3 a1 h0_broken h0_brokenAt p_2 h0_to_count h0_blocks_count h0_blocks_facts_n h0_blocks_facts_f h0_input_count h0_to_held_n h0_to_held_f h0_input_held_n h0_input_held_f).bind fun (r35, u36, u37, u38, u39, u40, u41, u42) =>
    if r35 = 0 then
      some ((0 : Int32), u36, u37, u38, h0_end, h0_begin, h0_copies, h0_literals, h0_parts, u39, u40, u41, u42)
    else
      m_Opener_openChunkBytes_J78 h0_at h0_input_count h0_to_held_n h0_input_held_n h0_input_held_f r1 u41 u42 h0_copies h0_literals h0_parts u36 u37 u38 h0_end h0_begin u40 u39
def rm_Opener_openChunkBytes : Room := { frames := 5, cells := 0, slots := 0, locals := 140 }
set_option maxHeartbeats 4000000 in
set_option maxRecDepth 100000 in
theorem c_Opener_openChunkBytes {l : Launch} {dC : Nat → ClassId} {dI : Nat → Nat → Nat} {cB cI : ClassId} {sz : Nat} {h0 : Nat} {a1 : Int32} {a2 : Int32} {a3 : Int32} {h0_to : Nat} {h0_blocks : Nat} {h0_input : Nat} {h0_blocks_facts : Nat} {h0_to_held : Nat} {h0_input_held : Nat} {w_h0_words : Value} {w_h0_settings : Value} {h0_broken : Int32} {h0_brokenAt : Int32} {h0_at : Int32} {h0_end : Int32} {h0_begin : Int32} {h0_copies : Int32} {h0_literals : Int32} {h0_parts : Int32} {w_h0_frameBegin : Value} {w_h0_flags : Value} {w_h0_width : Value} {w_h0_size : Value} {h0_to_count : Int32} {h0_blocks_count : Int32} {h0_input_count : Int32} {h0_blocks_facts_n : Nat} {h0_blocks_facts_f : Nat → Int32} {h0_to_held_n : Nat} {h0_to_held_f : Nat → Int32} {h0_input_held_n : Nat} {h0_input_held_f : Nat → Int32} {o_r : Int32} {o_h0_broken : Int32} {o_h0_brokenAt : Int32} {o_h0_at : Int32} {o_h0_end : Int32} {o_h0_begin : Int32} {o_h0_copies : Int32} {o_h0_literals : Int32} {o_h0_parts : Int32} {o_h0_to_count : Int32} {o_h0_blocks_count : Int32} {o_h0_blocks_facts_f : Nat → Int32} {o_h0_to_held_f : Nat → Int32} (hf : m_Opener_openChunkBytes a1 a2 a3 h0_broken h0_brokenAt h0_at h0_end h0_begin h0_copies h0_literals h0_parts h0_to_count h0_blocks_count h0_input_count h0_blocks_facts_n h0_blocks_facts_f h0_to_held_n h0_to_held_f h0_input_held_n h0_input_held_f = some (o_r, o_h0_broken, o_h0_brokenAt, o_h0_at, o_h0_end, o_h0_begin, o_h0_copies, o_h0_literals, o_h0_parts, o_h0_to_count, o_h0_blocks_count, o_h0_blocks_facts_f, o_h0_to_held_f)) : Met l yX6_openChunkBytes (Cond.code yX6_openChunkBytes cX6_openChunkBytes 6 (some .boolean) :: lw_G) rm_Opener_openChunkBytes (PreC (dC, dI) [(cB, .byte), (cI, .int)] [.ref h0, .int a1, .int a2, .int a3] sz [(h0, .inr (5, [.ref h0_input, w_h0_words, w_h0_settings, .ref h0_to, .ref h0_blocks, .int h0_broken, .int h0_brokenAt, .int h0_at, .int h0_end, .int h0_begin, .int h0_copies, .int h0_literals, .int h0_parts, w_h0_frameBegin, w_h0_flags, w_h0_width, w_h0_size])), (h0_to, .inr (2, [.ref h0_to_held, .int h0_to_count])), (h0_blocks, .inr (1, [.ref h0_blocks_facts, .int h0_blocks_count])), (h0_input, .inr (2, [.ref h0_input_held, .int h0_input_count])), (h0_blocks_facts, .inl (cI, h0_blocks_facts_n, .inl h0_blocks_facts_f)), (h0_to_held, .inl (cB, h0_to_held_n, .inl h0_to_held_f)), (h0_input_held, .inl (cB, h0_input_held_n, .inl h0_input_held_f))]) (QcI o_r (dC, dI) [(h0, .inr (5, [.ref h0_input, w_h0_words, w_h0_settings, .ref h0_to, .ref h0_blocks, .int o_h0_broken, .int o_h0_brokenAt, .int o_h0_at, .int o_h0_end, .int o_h0_begin, .int o_h0_copies, .int o_h0_literals, .int o_h0_parts, w_h0_frameBegin, w_h0_flags, w_h0_width, w_h0_size])), (h0_to, .inr (2, [.ref h0_to_held, .int o_h0_to_count])), (h0_blocks, .inr (1, [.ref h0_blocks_facts, .int o_h0_blocks_count])), (h0_input, .inr (2, [.ref h0_input_held, .int h0_input_count])), (h0_blocks_facts, .inl (cI, h0_blocks_facts_n, .inl o_h0_blocks_facts_f)), (h0_to_held, .inl (cB, h0_to_held_n, .inl o_h0_to_held_f)), (h0_input_held, .inl (cB, h0_input_held_n, .inl h0_input_held_f))] (va_A [(h0, .inr (5, [.ref h0_input, w_h0_words, w_h0_settings, .ref h0_to, .ref h0_blocks, .int h0_broken, .int h0_brokenAt, .int h0_at, .int h0_end, .int h0_begin, .int h0_copies, .int h0_literals, .int h0_parts, w_h0_frameBegin, w_h0_flags, w_h0_width, w_h0_size])), (h0_to, .inr (2, [.ref h0_to_held, .int h0_to_count])), (h0_blocks, .inr (1, [.ref h0_blocks_facts, .int h0_blocks_count])), (h0_input, .inr (2, [.ref h0_input_held, .int h0_input_count])), (h0_blocks_facts, .inl (cI, h0_blocks_facts_n, .inl h0_blocks_facts_f)), (h0_to_held, .inl (cB, h0_to_held_n, .inl h0_to_held_f)), (h0_input_held, .inl (cB, h0_input_held_n, .inl h0_input_held_f))] sz)) 0 0 (va_A [(h0, .inr (5, [.ref h0_input, w_h0_words, w_h0_settings, .ref h0_to, .ref h0_blocks, .int h0_broken, .int h0_brokenAt, .int h0_at, .int h0_end, .int h0_begin, .int h0_copies, .int h0_literals, .int h0_parts, w_h0_frameBegin, w_h0_flags, w_h0_width, w_h0_size])), (h0_to, .inr (2, [.ref h0_to_held, .int h0_to_count])), (h0_blocks, .inr (1, [.ref h0_blocks_facts, .int h0_blocks_count])), (h0_input, .inr (2, [.ref h0_input_held, .int h0_input_count])), (h0_blocks_facts, .inl (cI, h0_blocks_facts_n, .inl h0_blocks_facts_f)), (h0_to_held, .inl (cB, h0_to_held_n, .inl h0_to_held_f)), (h0_input_held, .inl (cB, h0_input_held_n, .inl h0_input_held_f))] sz) := by
  refine met_of (Qf := fun A => QcI o_r (dC, dI) [(h0, .inr (5, [.ref h0_input, w_h0_words, w_h0_settings, .ref h0_to, .ref h0_blocks, .int o_h0_broken, .int o_h0_brokenAt, .int o_h0_at, .int o_h0_end, .int o_h0_begin, .int o_h0_copies, .int o_h0_literals, .int o_h0_parts, w_h0_frameBegin, w_h0_flags, w_h0_width, w_h0_size])), (h0_to, .inr (2, [.ref h0_to_held, .int o_h0_to_count])), (h0_blocks, .inr (1, [.ref h0_blocks_facts, .int o_h0_blocks_count])), (h0_input, .inr (2, [.ref h0_input_held, .int h0_input_count])), (h0_blocks_facts, .inl (cI, h0_blocks_facts_n, .inl o_h0_blocks_facts_f)), (h0_to_held, .inl (cB, h0_to_held_n, .inl o_h0_to_held_f)), (h0_input_held, .inl (cB, h0_input_held_n, .inl h0_input_held_f))] A) (by decide) (Nat.le_of_ble_eq_true rfl) ?_
  intro p e s m below meth c A ls Q hx hb hr hml hown hts hlocks hnm hP hK hD hN hT hA hl hQ
  have hown : s.vm.findClass RX6 = some m.cls := hown
  have hS : va_S A s.heap s.heap [] := va_S.rf
  have hl : lv_has ls 6 [(0, .ref h0), (1, .int a1), (2, .int a2), (3, .int a3)] := hl
  unfold m_Opener_openChunkBytes at hf
  refine lv_aload_n hx hb dX6_openChunkBytes_0 rfl (lv_at hl 0 rfl) ?_
  refine va_get (D := (dC, dI)) (ci := 5) (v := .int h0_at) (C := RX6) (T := TX6) (N := 17) hx hb hts inG_X6 hown hK hP 0 rfl rfl 7 (by decide) (hts _ kw_296) (fun _ h9 => h9) rfl dX6_openChunkBytes_1 ?_
  refine lv_istore (lv' := [(4, .int h0_at), (0, .ref h0), (1, .int a1), (2, .int a2), (3, .int a3)]) hx hb dX6_openChunkBytes_4 hl (by decide) rfl (fun ls hl => ?_)
  refine lv_aload_n hx hb dX6_openChunkBytes_6 rfl (lv_at hl 1 rfl) ?_
  refine va_get (D := (dC, dI)) (ci := 5) (v := .ref h0_to) (C := RX6) (T := TX6) (N := 17) hx hb hts inG_X6 hown hK hP 0 rfl rfl 3 (by decide) (hts _ kw_292) (fun _ h9 => h9) rfl dX6_openChunkBytes_7 ?_
  obtain ⟨r1, hc, hf⟩ := bind_some hf
  refine nx_i (rn_V (As := []) (rest := []) (n := 0) (ci := 2) (q0 := 0) ⟨hx, hb, hml, hown, hts⟩ (c_Bytes_size (l := l) (dC := dC) (dI := dI) (cB := cB) (cI := cI) (h0 := h0_to) (w_h0_held := (.ref h0_to_held)) (h0_count := h0_to_count)  (o_r := r1) hc) (wV kw_849 kw_402 kw_403 kw_83 kw_404) (by decide +kernel) ⟨Nat.le_of_ble_eq_true rfl, Nat.le_of_ble_eq_true rfl⟩ hK hP hD hN hT hS (va_free (wc := [(h0_to, .inr (2, [.ref h0_to_held, .int h0_to_count]))]) hD hS hA [1] rfl) [1] rfl (by decide) rfl rfl rfl hl.1 rfl (lv_room (Nat.le_of_ble_eq_true rfl)) dX6_openChunkBytes_10 ⟨Nat.le_of_ble_eq_true rfl, Nat.le_of_ble_eq_true rfl⟩) hP hD hS hA (wr := [(h0, .inr (5, [.ref h0_input, w_h0_words, w_h0_settings, .ref h0_to, .ref h0_blocks, .int h0_broken, .int h0_brokenAt, .int h0_at, .int h0_end, .int h0_begin, .int h0_copies, .int h0_literals, .int h0_parts, w_h0_frameBegin, w_h0_flags, w_h0_width, w_h0_size])), (h0_blocks, .inr (1, [.ref h0_blocks_facts, .int h0_blocks_count])), (h0_input, .inr (2, [.ref h0_input_held, .int h0_input_count])), (h0_blocks_facts, .inl (cI, h0_blocks_facts_n, .inl h0_blocks_facts_f)), (h0_to_held, .inl (cB, h0_to_held_n, .inl h0_to_held_f)), (h0_input_held, .inl (cB, h0_input_held_n, .inl h0_input_held_f))]) (w1 := [(h0_to, .inr (2, [.ref h0_to_held, .int h0_to_count]))]) (ws' := [(h0, .inr (5, [.ref h0_input, w_h0_words, w_h0_settings, .ref h0_to, .ref h0_blocks, .int h0_broken, .int h0_brokenAt, .int h0_at, .int h0_end, .int h0_begin, .int h0_copies, .int h0_literals, .int h0_parts, w_h0_frameBegin, w_h0_flags, w_h0_width, w_h0_size])), (h0_to, .inr (2, [.ref h0_to_held, .int h0_to_count])), (h0_blocks, .inr (1, [.ref h0_blocks_facts, .int h0_blocks_count])), (h0_input, .inr (2, [.ref h0_input_held, .int h0_input_count])), (h0_blocks_facts, .inl (cI, h0_blocks_facts_n, .inl h0_blocks_facts_f)), (h0_to_held, .inl (cB, h0_to_held_n, .inl h0_to_held_f)), (h0_input_held, .inl (cB, h0_input_held_n, .inl h0_input_held_f))]) [1] [0, 2, 3, 4, 5, 6] [0, 6, 1, 2, 3, 4, 5] rfl rfl (by decide) (by decide) rfl (by decide) (fun H locs hP hD hS => ?_)
  refine lv_istore (lv' := [(5, .int r1), (4, .int h0_at), (0, .ref h0), (1, .int a1), (2, .int a2), (3, .int a3)]) hx hb dX6_openChunkBytes_13 hl (by decide) rfl (fun ls hl => ?_)
  refine lv_aload_n hx hb dX6_openChunkBytes_15 rfl (lv_at hl 2 rfl) ?_
  refine lv_dup hx hb dX6_openChunkBytes_16 rfl ?_
  refine va_get (D := (dC, dI)) (ci := 5) (v := .int h0_at) (C := RX6) (T := TX6) (N := 17) hx hb hts inG_X6 hown hK hP 0 rfl rfl 7 (by decide) (hts _ kw_296) (fun _ h9 => h9) rfl dX6_openChunkBytes_17 ?_
  refine lv_iconst (v := 4) hx hb dX6_openChunkBytes_20 (by decide) ?_
  refine lv_iadd hx hb dX6_openChunkBytes_21 ?_
  refine lv_topi (fun p_2 e_p_2 => ?_)
  replace hf := bnd_at e_p_2 hf
  refine va_put (D := (dC, dI)) (ci := 5) (v := .int p_2) (ty := .int) (C := RX6) (T := TX6) (N := 17) hx hb hts inG_X6 tyX6 tyX6_ok nmX6 hown hK hP hD hS 0 rfl rfl 7 (by decide) (hts _ kw_296) (fun _ h9 => h9) rfl (by decide +kernel) rfl rfl (Nat.le_of_ble_eq_true rfl) dX6_openChunkBytes_22 (fun H locs hP hD hS => ?_)
  have hP : va_P (dC, dI) vwCl [(h0, .inr (5, [.ref h0_input, w_h0_words, w_h0_settings, .ref h0_to, .ref h0_blocks, .int h0_broken, .int h0_brokenAt, .int p_2, .int h0_end, .int h0_begin, .int h0_copies, .int h0_literals, .int h0_parts, w_h0_frameBegin, w_h0_flags, w_h0_width, w_h0_size])), (h0_to, .inr (2, [.ref h0_to_held, .int h0_to_count])), (h0_blocks, .inr (1, [.ref h0_blocks_facts, .int h0_blocks_count])), (h0_input, .inr (2, [.ref h0_input_held, .int h0_input_count])), (h0_blocks_facts, .inl (cI, h0_blocks_facts_n, .inl h0_blocks_facts_f)), (h0_to_held, .inl (cB, h0_to_held_n, .inl h0_to_held_f)), (h0_input_held, .inl (cB, h0_input_held_n, .inl h0_input_held_f))] H := hP
  have hD : va_D A [(h0, .inr (5, [.ref h0_input, w_h0_words, w_h0_settings, .ref h0_to, .ref h0_blocks, .int h0_broken, .int h0_brokenAt, .int p_2, .int h0_end, .int h0_begin, .int h0_copies, .int h0_literals, .int h0_parts, w_h0_frameBegin, w_h0_flags, w_h0_width, w_h0_size])), (h0_to, .inr (2, [.ref h0_to_held, .int h0_to_count])), (h0_blocks, .inr (1, [.ref h0_blocks_facts, .int h0_blocks_count])), (h0_input, .inr (2, [.ref h0_input_held, .int h0_input_count])), (h0_blocks_facts, .inl (cI, h0_blocks_facts_n, .inl h0_blocks_facts_f)), (h0_to_held, .inl (cB, h0_to_held_n, .inl h0_to_held_f)), (h0_input_held, .inl (cB, h0_input_held_n, .inl h0_input_held_f))] := hD
  refine lv_iload_n hx hb dX6_openChunkBytes_25 rfl (lv_at hl 4 rfl) ?_
  have hJ_78 : ∀ (f3 : Nat → Int32) (f4 : Nat → Int32) (g5 : Int32) (g6 : Int32) (g7 : Int32) (g8 : Int32) (g9 : Int32) (g10 : Int32) (g11 : Int32) (g12 : Int32) (g13 : Int32) (g14 : Int32) (H : Heap) (locs : List Loc) (ls : Array Slot), m_Opener_openChunkBytes_J78 h0_at h0_input_count h0_to_held_n h0_input_held_n h0_input_held_f r1 f3 f4 g5 g6 g7 g8 g9 g10 g11 g12 g13 g14 = some (o_r, o_h0_broken, o_h0_brokenAt, o_h0_at, o_h0_end, o_h0_begin, o_h0_copies, o_h0_literals, o_h0_parts, o_h0_to_count, o_h0_blocks_count, o_h0_blocks_facts_f, o_h0_to_held_f) → va_P (dC, dI) vwCl [(h0, .inr (5, [.ref h0_input, w_h0_words, w_h0_settings, .ref h0_to, .ref h0_blocks, .int g8, .int g9, .int g10, .int g11, .int g12, .int g5, .int g6, .int g7, w_h0_frameBegin, w_h0_flags, w_h0_width, w_h0_size])), (h0_to, .inr (2, [.ref h0_to_held, .int g14])), (h0_blocks, .inr (1, [.ref h0_blocks_facts, .int g13])), (h0_input, .inr (2, [.ref h0_input_held, .int h0_input_count])), (h0_blocks_facts, .inl (cI, h0_blocks_facts_n, .inl f3)), (h0_to_held, .inl (cB, h0_to_held_n, .inl f4)), (h0_input_held, .inl (cB, h0_input_held_n, .inl h0_input_held_f))] H → va_D A [(h0, .inr (5, [.ref h0_input, w_h0_words, w_h0_settings, .ref h0_to, .ref h0_blocks, .int g8, .int g9, .int g10, .int g11, .int g12, .int g5, .int g6, .int g7, w_h0_frameBegin, w_h0_flags, w_h0_width, w_h0_size])), (h0_to, .inr (2, [.ref h0_to_held, .int g14])), (h0_blocks, .inr (1, [.ref h0_blocks_facts, .int g13])), (h0_input, .inr (2, [.ref h0_input_held, .int h0_input_count])), (h0_blocks_facts, .inl (cI, h0_blocks_facts_n, .inl f3)), (h0_to_held, .inl (cB, h0_to_held_n, .inl f4)), (h0_input_held, .inl (cB, h0_input_held_n, .inl h0_input_held_f))] → va_S A s.heap H locs → lv_has ls 6 [(0, .ref h0), (4, .int h0_at), (5, .int r1)] → W p l e (rm_Opener_openChunkBytes) s m ([.ref h0, .int a1, .int a2, .int a3] : List Value).toArray below meth c H locs 0 0 Q (F0 m 78 ls []) := by
    intro f3 f4 g5 g6 g7 g8 g9 g10 g11 g12 g13 g14 H locs ls hf hP hD hS hl
    unfold m_Opener_openChunkBytes_J78 at hf
    refine lv_aload_n hx hb dX6_openChunkBytes_78 rfl (lv_at hl 0 rfl) ?_
    refine va_get (D := (dC, dI)) (ci := 5) (v := .ref h0_input) (C := RX6) (T := TX6) (N := 17) hx hb hts inG_X6 hown hK hP 0 rfl rfl 0 (by decide) (hts _ kw_289) (fun _ h9 => h9) rfl dX6_openChunkBytes_79 ?_
    refine lv_iload hx hb dX6_openChunkBytes_82 (lv_at hl 1 rfl) ?_
    obtain ⟨r15, hc, hf⟩ := bind_some hf
    refine nx_i (rn_V (As := [.int h0_at]) (rest := []) (n := 1) (ci := 2) (q0 := 0) ⟨hx, hb, hml, hown, hts⟩ (c_Bytes_number32 (l := l) (dC := dC) (dI := dI) (cB := cB) (cI := cI) (h0 := h0_input) (a1 := h0_at) (h0_held := h0_input_held) (h0_count := h0_input_count) (h0_held_n := h0_input_held_n) (h0_held_f := h0_input_held_f)  (o_r := r15) hc) (wV kw_937 kw_757 kw_758 kw_83 kw_759) (by decide +kernel) ⟨Nat.le_of_ble_eq_true rfl, Nat.le_of_ble_eq_true rfl⟩ hK hP hD hN hT hS (va_free (wc := [(h0_input, .inr (2, [.ref h0_input_held, .int h0_input_count])), (h0_input_held, .inl (cB, h0_input_held_n, .inl h0_input_held_f))]) hD hS hA [3, 6] rfl) [3, 6] rfl (by decide) rfl rfl rfl hl.1 rfl (lv_room (Nat.le_of_ble_eq_true rfl)) dX6_openChunkBytes_84 ⟨Nat.le_of_ble_eq_true rfl, Nat.le_of_ble_eq_true rfl⟩) hP hD hS hA (wr := [(h0, .inr (5, [.ref h0_input, w_h0_words, w_h0_settings, .ref h0_to, .ref h0_blocks, .int g8, .int g9, .int g10, .int g11, .int g12, .int g5, .int g6, .int g7, w_h0_frameBegin, w_h0_flags, w_h0_width, w_h0_size])), (h0_to, .inr (2, [.ref h0_to_held, .int g14])), (h0_blocks, .inr (1, [.ref h0_blocks_facts, .int g13])), (h0_blocks_facts, .inl (cI, h0_blocks_facts_n, .inl f3)), (h0_to_held, .inl (cB, h0_to_held_n, .inl f4))]) (w1 := [(h0_input, .inr (2, [.ref h0_input_held, .int h0_input_count])), (h0_input_held, .inl (cB, h0_input_held_n, .inl h0_input_held_f))]) (ws' := [(h0, .inr (5, [.ref h0_input, w_h0_words, w_h0_settings, .ref h0_to, .ref h0_blocks, .int g8, .int g9, .int g10, .int g11, .int g12, .int g5, .int g6, .int g7, w_h0_frameBegin, w_h0_flags, w_h0_width, w_h0_size])), (h0_to, .inr (2, [.ref h0_to_held, .int g14])), (h0_blocks, .inr (1, [.ref h0_blocks_facts, .int g13])), (h0_input, .inr (2, [.ref h0_input_held, .int h0_input_count])), (h0_blocks_facts, .inl (cI, h0_blocks_facts_n, .inl f3)), (h0_to_held, .inl (cB, h0_to_held_n, .inl f4)), (h0_input_held, .inl (cB, h0_input_held_n, .inl h0_input_held_f))]) [3, 6] [0, 1, 2, 4, 5] [0, 1, 2, 5, 3, 4, 6] rfl rfl (by decide) (by decide) rfl (by decide) (fun H locs hP hD hS => ?_)
    refine lv_aload_n hx hb dX6_openChunkBytes_87 rfl (lv_at hl 0 rfl) ?_
    refine va_get (D := (dC, dI)) (ci := 5) (v := .ref h0_to) (C := RX6) (T := TX6) (N := 17) hx hb hts inG_X6 hown hK hP 0 rfl rfl 3 (by decide) (hts _ kw_292) (fun _ h9 => h9) rfl dX6_openChunkBytes_88 ?_
    refine lv_iload hx hb dX6_openChunkBytes_91 (lv_at hl 2 rfl) ?_
    refine lv_aload_n hx hb dX6_openChunkBytes_93 rfl (lv_at hl 0 rfl) ?_
    refine va_get (D := (dC, dI)) (ci := 5) (v := .ref h0_to) (C := RX6) (T := TX6) (N := 17) hx hb hts inG_X6 hown hK hP 0 rfl rfl 3 (by decide) (hts _ kw_292) (fun _ h9 => h9) rfl dX6_openChunkBytes_94 ?_
    obtain ⟨r16, hc, hf⟩ := bind_some hf
    refine nx_i (rn_V (As := []) (rest := [.int r1, .ref h0_to, .int r15]) (n := 0) (ci := 2) (q0 := 0) ⟨hx, hb, hml, hown, hts⟩ (c_Bytes_size (l := l) (dC := dC) (dI := dI) (cB := cB) (cI := cI) (h0 := h0_to) (w_h0_held := (.ref h0_to_held)) (h0_count := g14)  (o_r := r16) hc) (wV kw_849 kw_402 kw_403 kw_83 kw_404) (by decide +kernel) ⟨Nat.le_of_ble_eq_true rfl, Nat.le_of_ble_eq_true rfl⟩ hK hP hD hN hT hS (va_free (wc := [(h0_to, .inr (2, [.ref h0_to_held, .int g14]))]) hD hS hA [1] rfl) [1] rfl (by decide) rfl rfl rfl hl.1 rfl (lv_room (Nat.le_of_ble_eq_true rfl)) dX6_openChunkBytes_97 ⟨Nat.le_of_ble_eq_true rfl, Nat.le_of_ble_eq_true rfl⟩) hP hD hS hA (wr := [(h0, .inr (5, [.ref h0_input, w_h0_words, w_h0_settings, .ref h0_to, .ref h0_blocks, .int g8, .int g9, .int g10, .int g11, .int g12, .int g5, .int g6, .int g7, w_h0_frameBegin, w_h0_flags, w_h0_width, w_h0_size])), (h0_blocks, .inr (1, [.ref h0_blocks_facts, .int g13])), (h0_input, .inr (2, [.ref h0_input_held, .int h0_input_count])), (h0_blocks_facts, .inl (cI, h0_blocks_facts_n, .inl f3)), (h0_to_held, .inl (cB, h0_to_held_n, .inl f4)), (h0_input_held, .inl (cB, h0_input_held_n, .inl h0_input_held_f))]) (w1 := [(h0_to, .inr (2, [.ref h0_to_held, .int g14]))]) (ws' := [(h0, .inr (5, [.ref h0_input, w_h0_words, w_h0_settings, .ref h0_to, .ref h0_blocks, .int g8, .int g9, .int g10, .int g11, .int g12, .int g5, .int g6, .int g7, w_h0_frameBegin, w_h0_flags, w_h0_width, w_h0_size])), (h0_to, .inr (2, [.ref h0_to_held, .int g14])), (h0_blocks, .inr (1, [.ref h0_blocks_facts, .int g13])), (h0_input, .inr (2, [.ref h0_input_held, .int h0_input_count])), (h0_blocks_facts, .inl (cI, h0_blocks_facts_n, .inl f3)), (h0_to_held, .inl (cB, h0_to_held_n, .inl f4)), (h0_input_held, .inl (cB, h0_input_held_n, .inl h0_input_held_f))]) [1] [0, 2, 3, 4, 5, 6] [0, 6, 1, 2, 3, 4, 5] rfl rfl (by decide) (by decide) rfl (by decide) (fun H locs hP hD hS => ?_)
    refine lv_iload hx hb dX6_openChunkBytes_100 (lv_at hl 2 rfl) ?_
    refine lv_isub hx hb dX6_openChunkBytes_102 ?_
    obtain ⟨r17, hc, hf⟩ := bind_some hf
    refine nx_i (rn_S (As := [.ref h0_to, .int r1, .int (r16 - r1)]) (rest := [.int r15]) (n := 3) ⟨hx, hb, hml, hown, hts⟩ (c_Sums_maskedCrcOf (l := l) (dC := dC) (dI := dI) (cB := cB) (cI := cI) (h0 := h0_to) (a1 := r1) (a2 := (r16 - r1)) (h0_held := h0_to_held) (h0_count := g14) (h0_held_n := h0_to_held_n) (h0_held_f := f4)  (o_r := r17) hc) (wS kw_990 kw_812 kw_97 kw_813) (by decide +kernel) ⟨Nat.le_of_ble_eq_true rfl, Nat.le_of_ble_eq_true rfl⟩ hK hP hD hN hT hS (va_free (wc := [(h0_to, .inr (2, [.ref h0_to_held, .int g14])), (h0_to_held, .inl (cB, h0_to_held_n, .inl f4))]) hD hS hA [1, 5] rfl) [1, 5] rfl (by decide) rfl hl.1 rfl (lv_room (Nat.le_of_ble_eq_true rfl)) dX6_openChunkBytes_103 ⟨Nat.le_of_ble_eq_true rfl, Nat.le_of_ble_eq_true rfl⟩) hP hD hS hA (wr := [(h0, .inr (5, [.ref h0_input, w_h0_words, w_h0_settings, .ref h0_to, .ref h0_blocks, .int g8, .int g9, .int g10, .int g11, .int g12, .int g5, .int g6, .int g7, w_h0_frameBegin, w_h0_flags, w_h0_width, w_h0_size])), (h0_blocks, .inr (1, [.ref h0_blocks_facts, .int g13])), (h0_input, .inr (2, [.ref h0_input_held, .int h0_input_count])), (h0_blocks_facts, .inl (cI, h0_blocks_facts_n, .inl f3)), (h0_input_held, .inl (cB, h0_input_held_n, .inl h0_input_held_f))]) (w1 := [(h0_to, .inr (2, [.ref h0_to_held, .int g14])), (h0_to_held, .inl (cB, h0_to_held_n, .inl f4))]) (ws' := [(h0, .inr (5, [.ref h0_input, w_h0_words, w_h0_settings, .ref h0_to, .ref h0_blocks, .int g8, .int g9, .int g10, .int g11, .int g12, .int g5, .int g6, .int g7, w_h0_frameBegin, w_h0_flags, w_h0_width, w_h0_size])), (h0_to, .inr (2, [.ref h0_to_held, .int g14])), (h0_blocks, .inr (1, [.ref h0_blocks_facts, .int g13])), (h0_input, .inr (2, [.ref h0_input_held, .int h0_input_count])), (h0_blocks_facts, .inl (cI, h0_blocks_facts_n, .inl f3)), (h0_to_held, .inl (cB, h0_to_held_n, .inl f4)), (h0_input_held, .inl (cB, h0_input_held_n, .inl h0_input_held_f))]) [1, 5] [0, 2, 3, 4, 6] [0, 5, 1, 2, 3, 6, 4] rfl rfl (by decide) (by decide) rfl (by decide) (fun H locs hP hD hS => ?_)
    refine lv_icmp_eq (tgt := 118) hx hb dX6_openChunkBytes_106 (by decide) (fun c_106 => ?_) (fun c_106 => ?_)
    · replace hf := if_t c_106 hf
      refine lv_iconst (v := 1) hx hb dX6_openChunkBytes_118 (by decide) ?_
      have hzb : narrow .boolean (.int (1 : Int32)) = .int (1 : Int32) := rfl
      obtain ⟨rfl, hq_1⟩ := Prod.mk.inj (Option.some.inj hf)
      obtain ⟨rfl, hq_2⟩ := Prod.mk.inj hq_1
      obtain ⟨rfl, hq_3⟩ := Prod.mk.inj hq_2
      obtain ⟨rfl, hq_4⟩ := Prod.mk.inj hq_3
      obtain ⟨rfl, hq_5⟩ := Prod.mk.inj hq_4
      obtain ⟨rfl, hq_6⟩ := Prod.mk.inj hq_5
      obtain ⟨rfl, hq_7⟩ := Prod.mk.inj hq_6
      obtain ⟨rfl, hq_8⟩ := Prod.mk.inj hq_7
      obtain ⟨rfl, hq_9⟩ := Prod.mk.inj hq_8
      obtain ⟨rfl, hq_10⟩ := Prod.mk.inj hq_9
      obtain ⟨rfl, hq_11⟩ := Prod.mk.inj hq_10
      obtain ⟨rfl, hq_12⟩ := Prod.mk.inj hq_11
      obtain rfl := hq_12
      exact rt_z hQ hx hb hr hzb hlocks hP hD hS dX6_openChunkBytes_119
    · replace hf := if_f c_106 hf
      refine lv_aload_n hx hb dX6_openChunkBytes_109 rfl (lv_at hl 0 rfl) ?_
      refine lv_bipush (v := 8) hx hb dX6_openChunkBytes_110 (by decide) ?_
      refine lv_iload hx hb dX6_openChunkBytes_112 (lv_at hl 1 rfl) ?_
      obtain ⟨x, hc, hf⟩ := bind_some hf
      obtain ⟨r18, u19, u20⟩ := x
      dsimp only at hf
      refine nx_i (rn_V (As := [.int (8 : Int32), .int h0_at]) (rest := []) (n := 2) (ci := 5) (q0 := 0) ⟨hx, hb, hml, hown, hts⟩ (c_Opener_breaks (l := l) (dC := dC) (dI := dI) (cB := cB) (cI := cI) (h0 := h0) (a1 := (8 : Int32)) (a2 := h0_at) (w_h0_input := (.ref h0_input)) (w_h0_words := (w_h0_words)) (w_h0_settings := (w_h0_settings)) (w_h0_to := (.ref h0_to)) (w_h0_blocks := (.ref h0_blocks)) (h0_broken := g8) (h0_brokenAt := g9) (w_h0_at := (.int g10)) (w_h0_end := (.int g11)) (w_h0_begin := (.int g12)) (w_h0_copies := (.int g5)) (w_h0_literals := (.int g6)) (w_h0_parts := (.int g7)) (w_h0_frameBegin := (w_h0_frameBegin)) (w_h0_flags := (w_h0_flags)) (w_h0_width := (w_h0_width)) (w_h0_size := (w_h0_size)) (o_h0_broken := u19) (o_h0_brokenAt := u20) (o_r := r18) hc) (wV kw_871 kw_873 kw_26 kw_92 kw_874) (by decide +kernel) ⟨Nat.le_of_ble_eq_true rfl, Nat.le_of_ble_eq_true rfl⟩ hK hP hD hN hT hS (va_free (wc := [(h0, .inr (5, [.ref h0_input, w_h0_words, w_h0_settings, .ref h0_to, .ref h0_blocks, .int g8, .int g9, .int g10, .int g11, .int g12, .int g5, .int g6, .int g7, w_h0_frameBegin, w_h0_flags, w_h0_width, w_h0_size]))]) hD hS hA [0] rfl) [0] rfl (by decide) rfl rfl rfl hl.1 rfl (lv_room (Nat.le_of_ble_eq_true rfl)) dX6_openChunkBytes_114 ⟨Nat.le_of_ble_eq_true rfl, Nat.le_of_ble_eq_true rfl⟩) hP hD hS hA (wr := [(h0_to, .inr (2, [.ref h0_to_held, .int g14])), (h0_blocks, .inr (1, [.ref h0_blocks_facts, .int g13])), (h0_input, .inr (2, [.ref h0_input_held, .int h0_input_count])), (h0_blocks_facts, .inl (cI, h0_blocks_facts_n, .inl f3)), (h0_to_held, .inl (cB, h0_to_held_n, .inl f4)), (h0_input_held, .inl (cB, h0_input_held_n, .inl h0_input_held_f))]) (w1 := [(h0, .inr (5, [.ref h0_input, w_h0_words, w_h0_settings, .ref h0_to, .ref h0_blocks, .int u19, .int u20, .int g10, .int g11, .int g12, .int g5, .int g6, .int g7, w_h0_frameBegin, w_h0_flags, w_h0_width, w_h0_size]))]) (ws' := [(h0, .inr (5, [.ref h0_input, w_h0_words, w_h0_settings, .ref h0_to, .ref h0_blocks, .int u19, .int u20, .int g10, .int g11, .int g12, .int g5, .int g6, .int g7, w_h0_frameBegin, w_h0_flags, w_h0_width, w_h0_size])), (h0_to, .inr (2, [.ref h0_to_held, .int g14])), (h0_blocks, .inr (1, [.ref h0_blocks_facts, .int g13])), (h0_input, .inr (2, [.ref h0_input_held, .int h0_input_count])), (h0_blocks_facts, .inl (cI, h0_blocks_facts_n, .inl f3)), (h0_to_held, .inl (cB, h0_to_held_n, .inl f4)), (h0_input_held, .inl (cB, h0_input_held_n, .inl h0_input_held_f))]) [0] [1, 2, 3, 4, 5, 6] [6, 0, 1, 2, 3, 4, 5] rfl rfl (by decide) (by decide) rfl (by decide) (fun H locs hP hD hS => ?_)
      obtain ⟨hzb, hf⟩ := bch_some hf
      obtain ⟨rfl, hq_1⟩ := Prod.mk.inj (Option.some.inj hf)
      obtain ⟨rfl, hq_2⟩ := Prod.mk.inj hq_1
      obtain ⟨rfl, hq_3⟩ := Prod.mk.inj hq_2
      obtain ⟨rfl, hq_4⟩ := Prod.mk.inj hq_3
      obtain ⟨rfl, hq_5⟩ := Prod.mk.inj hq_4
      obtain ⟨rfl, hq_6⟩ := Prod.mk.inj hq_5
      obtain ⟨rfl, hq_7⟩ := Prod.mk.inj hq_6
      obtain ⟨rfl, hq_8⟩ := Prod.mk.inj hq_7
      obtain ⟨rfl, hq_9⟩ := Prod.mk.inj hq_8
      obtain ⟨rfl, hq_10⟩ := Prod.mk.inj hq_9
      obtain ⟨rfl, hq_11⟩ := Prod.mk.inj hq_10
      obtain ⟨rfl, hq_12⟩ := Prod.mk.inj hq_11
      obtain rfl := hq_12
      exact rt_z hQ hx hb hr hzb hlocks hP hD hS dX6_openChunkBytes_117
  refine lv_if_eq (tgt := 40) hx hb dX6_openChunkBytes_26 (by decide) (fun c_26 => ?_) (fun c_26 => ?_)
  · replace hf := if_t c_26 hf
    refine lv_aload_n hx hb dX6_openChunkBytes_40 rfl (lv_at hl 2 rfl) ?_
    refine lv_aload_n hx hb dX6_openChunkBytes_41 rfl (lv_at hl 2 rfl) ?_
    refine va_get (D := (dC, dI)) (ci := 5) (v := .int p_2) (C := RX6) (T := TX6) (N := 17) hx hb hts inG_X6 hown hK hP 0 rfl rfl 7 (by decide) (hts _ kw_296) (fun _ h9 => h9) rfl dX6_openChunkBytes_42 ?_
    refine lv_iload_n hx hb dX6_openChunkBytes_45 rfl (lv_at hl 5 rfl) ?_
    refine lv_iadd hx hb dX6_openChunkBytes_46 ?_
    refine lv_topi (fun p_21 e_p_21 => ?_)
    replace hf := bnd_at e_p_21 hf
    refine va_put (D := (dC, dI)) (ci := 5) (v := .int p_21) (ty := .int) (C := RX6) (T := TX6) (N := 17) hx hb hts inG_X6 tyX6 tyX6_ok nmX6 hown hK hP hD hS 0 rfl rfl 8 (by decide) (hts _ kw_297) (fun _ h9 => h9) rfl (by decide +kernel) rfl rfl (Nat.le_of_ble_eq_true rfl) dX6_openChunkBytes_47 (fun H locs hP hD hS => ?_)
    have hP : va_P (dC, dI) vwCl [(h0, .inr (5, [.ref h0_input, w_h0_words, w_h0_settings, .ref h0_to, .ref h0_blocks, .int h0_broken, .int h0_brokenAt, .int p_2, .int p_21, .int h0_begin, .int h0_copies, .int h0_literals, .int h0_parts, w_h0_frameBegin, w_h0_flags, w_h0_width, w_h0_size])), (h0_to, .inr (2, [.ref h0_to_held, .int h0_to_count])), (h0_blocks, .inr (1, [.ref h0_blocks_facts, .int h0_blocks_count])), (h0_input, .inr (2, [.ref h0_input_held, .int h0_input_count])), (h0_blocks_facts, .inl (cI, h0_blocks_facts_n, .inl h0_blocks_facts_f)), (h0_to_held, .inl (cB, h0_to_held_n, .inl h0_to_held_f)), (h0_input_held, .inl (cB, h0_input_held_n, .inl h0_input_held_f))] H := hP
    have hD : va_D A [(h0, .inr (5, [.ref h0_input, w_h0_words, w_h0_settings, .ref h0_to, .ref h0_blocks, .int h0_broken, .int h0_brokenAt, .int p_2, .int p_21, .int h0_begin, .int h0_copies, .int h0_literals, .int h0_parts, w_h0_frameBegin, w_h0_flags, w_h0_width, w_h0_size])), (h0_to, .inr (2, [.ref h0_to_held, .int h0_to_count])), (h0_blocks, .inr (1, [.ref h0_blocks_facts, .int h0_blocks_count])), (h0_input, .inr (2, [.ref h0_input_held, .int h0_input_count])), (h0_blocks_facts, .inl (cI, h0_blocks_facts_n, .inl h0_blocks_facts_f)), (h0_to_held, .inl (cB, h0_to_held_n, .inl h0_to_held_f)), (h0_input_held, .inl (cB, h0_input_held_n, .inl h0_input_held_f))] := hD
    refine lv_aload_n hx hb dX6_openChunkBytes_50 rfl (lv_at hl 2 rfl) ?_
    obtain ⟨x, hc, hf⟩ := bind_some hf
    obtain ⟨r22, u23, u24, u25, u26, u27, u28, u29, u30, u31⟩ := x
    dsimp only at hf
    refine nx_i (rn_V (As := []) (rest := []) (n := 0) (ci := 5) (q0 := 0) ⟨hx, hb, hml, hown, hts⟩ (c_Opener_openElements (l := l) (dC := dC) (dI := dI) (cB := cB) (cI := cI) (h0 := h0) (h0_to := h0_to) (h0_input := h0_input) (h0_input_held := h0_input_held) (h0_to_held := h0_to_held) (w_h0_words := (w_h0_words)) (w_h0_settings := (w_h0_settings)) (w_h0_blocks := (.ref h0_blocks)) (h0_broken := h0_broken) (h0_brokenAt := h0_brokenAt) (h0_at := p_2) (h0_end := p_21) (h0_begin := h0_begin) (h0_copies := h0_copies) (h0_literals := h0_literals) (h0_parts := h0_parts) (w_h0_frameBegin := (w_h0_frameBegin)) (w_h0_flags := (w_h0_flags)) (w_h0_width := (w_h0_width)) (w_h0_size := (w_h0_size)) (h0_to_count := h0_to_count) (h0_input_count := h0_input_count) (h0_input_held_n := h0_input_held_n) (h0_input_held_f := h0_input_held_f) (h0_to_held_n := h0_to_held_n) (h0_to_held_f := h0_to_held_f) (o_h0_broken := u23) (o_h0_brokenAt := u24) (o_h0_at := u25) (o_h0_begin := u26) (o_h0_copies := u27) (o_h0_literals := u28) (o_h0_parts := u29) (o_h0_to_count := u30) (o_h0_to_held_f := u31) (o_r := r22) hc) (wV kw_956 kw_958 kw_40 kw_92 kw_959) (by decide +kernel) ⟨Nat.le_of_ble_eq_true rfl, Nat.le_of_ble_eq_true rfl⟩ hK hP hD hN hT hS (va_free (wc := [(h0, .inr (5, [.ref h0_input, w_h0_words, w_h0_settings, .ref h0_to, .ref h0_blocks, .int h0_broken, .int h0_brokenAt, .int p_2, .int p_21, .int h0_begin, .int h0_copies, .int h0_literals, .int h0_parts, w_h0_frameBegin, w_h0_flags, w_h0_width, w_h0_size])), (h0_to, .inr (2, [.ref h0_to_held, .int h0_to_count])), (h0_input, .inr (2, [.ref h0_input_held, .int h0_input_count])), (h0_input_held, .inl (cB, h0_input_held_n, .inl h0_input_held_f)), (h0_to_held, .inl (cB, h0_to_held_n, .inl h0_to_held_f))]) hD hS hA [0, 1, 3, 6, 5] rfl) [0, 1, 3, 6, 5] rfl (by decide) rfl rfl rfl hl.1 rfl (lv_room (Nat.le_of_ble_eq_true rfl)) dX6_openChunkBytes_51 ⟨Nat.le_of_ble_eq_true rfl, Nat.le_of_ble_eq_true rfl⟩) hP hD hS hA (wr := [(h0_blocks, .inr (1, [.ref h0_blocks_facts, .int h0_blocks_count])), (h0_blocks_facts, .inl (cI, h0_blocks_facts_n, .inl h0_blocks_facts_f))]) (w1 := [(h0, .inr (5, [.ref h0_input, w_h0_words, w_h0_settings, .ref h0_to, .ref h0_blocks, .int u23, .int u24, .int u25, .int p_21, .int u26, .int u27, .int u28, .int u29, w_h0_frameBegin, w_h0_flags, w_h0_width, w_h0_size])), (h0_to, .inr (2, [.ref h0_to_held, .int u30])), (h0_input, .inr (2, [.ref h0_input_held, .int h0_input_count])), (h0_input_held, .inl (cB, h0_input_held_n, .inl h0_input_held_f)), (h0_to_held, .inl (cB, h0_to_held_n, .inl u31))]) (ws' := [(h0, .inr (5, [.ref h0_input, w_h0_words, w_h0_settings, .ref h0_to, .ref h0_blocks, .int u23, .int u24, .int u25, .int p_21, .int u26, .int u27, .int u28, .int u29, w_h0_frameBegin, w_h0_flags, w_h0_width, w_h0_size])), (h0_to, .inr (2, [.ref h0_to_held, .int u30])), (h0_blocks, .inr (1, [.ref h0_blocks_facts, .int h0_blocks_count])), (h0_input, .inr (2, [.ref h0_input_held, .int h0_input_count])), (h0_blocks_facts, .inl (cI, h0_blocks_facts_n, .inl h0_blocks_facts_f)), (h0_to_held, .inl (cB, h0_to_held_n, .inl u31)), (h0_input_held, .inl (cB, h0_input_held_n, .inl h0_input_held_f))]) [0, 1, 3, 6, 5] [2, 4] [2, 3, 0, 4, 1, 6, 5] rfl rfl (by decide) (by decide) rfl (by decide) (fun H locs hP hD hS => ?_)
    refine lv_if_ne (tgt := 59) hx hb dX6_openChunkBytes_54 (by decide) (fun c_54 => ?_) (fun c_54 => ?_)
    · replace hf := if_f c_54 hf
      refine lv_aload_n hx hb dX6_openChunkBytes_59 rfl (lv_at hl 2 rfl) ?_
      refine lv_aload_n hx hb dX6_openChunkBytes_60 rfl (lv_at hl 2 rfl) ?_
      refine va_get (D := (dC, dI)) (ci := 5) (v := .ref h0_input) (C := RX6) (T := TX6) (N := 17) hx hb hts inG_X6 hown hK hP 0 rfl rfl 0 (by decide) (hts _ kw_289) (fun _ h9 => h9) rfl dX6_openChunkBytes_61 ?_
      obtain ⟨r32, hc, hf⟩ := bind_some hf
      refine nx_i (rn_V (As := []) (rest := [.ref h0]) (n := 0) (ci := 2) (q0 := 0) ⟨hx, hb, hml, hown, hts⟩ (c_Bytes_size (l := l) (dC := dC) (dI := dI) (cB := cB) (cI := cI) (h0 := h0_input) (w_h0_held := (.ref h0_input_held)) (h0_count := h0_input_count)  (o_r := r32) hc) (wV kw_849 kw_402 kw_403 kw_83 kw_404) (by decide +kernel) ⟨Nat.le_of_ble_eq_true rfl, Nat.le_of_ble_eq_true rfl⟩ hK hP hD hN hT hS (va_free (wc := [(h0_input, .inr (2, [.ref h0_input_held, .int h0_input_count]))]) hD hS hA [3] rfl) [3] rfl (by decide) rfl rfl rfl hl.1 rfl (lv_room (Nat.le_of_ble_eq_true rfl)) dX6_openChunkBytes_64 ⟨Nat.le_of_ble_eq_true rfl, Nat.le_of_ble_eq_true rfl⟩) hP hD hS hA (wr := [(h0, .inr (5, [.ref h0_input, w_h0_words, w_h0_settings, .ref h0_to, .ref h0_blocks, .int u23, .int u24, .int u25, .int p_21, .int u26, .int u27, .int u28, .int u29, w_h0_frameBegin, w_h0_flags, w_h0_width, w_h0_size])), (h0_to, .inr (2, [.ref h0_to_held, .int u30])), (h0_blocks, .inr (1, [.ref h0_blocks_facts, .int h0_blocks_count])), (h0_blocks_facts, .inl (cI, h0_blocks_facts_n, .inl h0_blocks_facts_f)), (h0_to_held, .inl (cB, h0_to_held_n, .inl u31)), (h0_input_held, .inl (cB, h0_input_held_n, .inl h0_input_held_f))]) (w1 := [(h0_input, .inr (2, [.ref h0_input_held, .int h0_input_count]))]) (ws' := [(h0, .inr (5, [.ref h0_input, w_h0_words, w_h0_settings, .ref h0_to, .ref h0_blocks, .int u23, .int u24, .int u25, .int p_21, .int u26, .int u27, .int u28, .int u29, w_h0_frameBegin, w_h0_flags, w_h0_width, w_h0_size])), (h0_to, .inr (2, [.ref h0_to_held, .int u30])), (h0_blocks, .inr (1, [.ref h0_blocks_facts, .int h0_blocks_count])), (h0_input, .inr (2, [.ref h0_input_held, .int h0_input_count])), (h0_blocks_facts, .inl (cI, h0_blocks_facts_n, .inl h0_blocks_facts_f)), (h0_to_held, .inl (cB, h0_to_held_n, .inl u31)), (h0_input_held, .inl (cB, h0_input_held_n, .inl h0_input_held_f))]) [3] [0, 1, 2, 4, 5, 6] [0, 1, 2, 6, 3, 4, 5] rfl rfl (by decide) (by decide) rfl (by decide) (fun H locs hP hD hS => ?_)
      refine va_put (D := (dC, dI)) (ci := 5) (v := .int r32) (ty := .int) (C := RX6) (T := TX6) (N := 17) hx hb hts inG_X6 tyX6 tyX6_ok nmX6 hown hK hP hD hS 0 rfl rfl 8 (by decide) (hts _ kw_297) (fun _ h9 => h9) rfl (by decide +kernel) rfl rfl (Nat.le_of_ble_eq_true rfl) dX6_openChunkBytes_67 (fun H locs hP hD hS => ?_)
      have hP : va_P (dC, dI) vwCl [(h0, .inr (5, [.ref h0_input, w_h0_words, w_h0_settings, .ref h0_to, .ref h0_blocks, .int u23, .int u24, .int u25, .int r32, .int u26, .int u27, .int u28, .int u29, w_h0_frameBegin, w_h0_flags, w_h0_width, w_h0_size])), (h0_to, .inr (2, [.ref h0_to_held, .int u30])), (h0_blocks, .inr (1, [.ref h0_blocks_facts, .int h0_blocks_count])), (h0_input, .inr (2, [.ref h0_input_held, .int h0_input_count])), (h0_blocks_facts, .inl (cI, h0_blocks_facts_n, .inl h0_blocks_facts_f)), (h0_to_held, .inl (cB, h0_to_held_n, .inl u31)), (h0_input_held, .inl (cB, h0_input_held_n, .inl h0_input_held_f))] H := hP
      have hD : va_D A [(h0, .inr (5, [.ref h0_input, w_h0_words, w_h0_settings, .ref h0_to, .ref h0_blocks, .int u23, .int u24, .int u25, .int r32, .int u26, .int u27, .int u28, .int u29, w_h0_frameBegin, w_h0_flags, w_h0_width, w_h0_size])), (h0_to, .inr (2, [.ref h0_to_held, .int u30])), (h0_blocks, .inr (1, [.ref h0_blocks_facts, .int h0_blocks_count])), (h0_input, .inr (2, [.ref h0_input_held, .int h0_input_count])), (h0_blocks_facts, .inl (cI, h0_blocks_facts_n, .inl h0_blocks_facts_f)), (h0_to_held, .inl (cB, h0_to_held_n, .inl u31)), (h0_input_held, .inl (cB, h0_input_held_n, .inl h0_input_held_f))] := hD
      refine lv_aload_n hx hb dX6_openChunkBytes_70 rfl (lv_at hl 2 rfl) ?_
      refine lv_iload hx hb dX6_openChunkBytes_71 (lv_at hl 1 rfl) ?_
      refine lv_iconst (v := 4) hx hb dX6_openChunkBytes_73 (by decide) ?_
      refine lv_iadd hx hb dX6_openChunkBytes_74 ?_
      obtain ⟨x, hc, hf⟩ := bind_some hf
      obtain ⟨u33, u34⟩ := x
      dsimp only at hf
      refine nx_v (rn_V (As := [.int (h0_at + (4 : Int32))]) (rest := []) (n := 1) (ci := 5) (q0 := 0) ⟨hx, hb, hml, hown, hts⟩ (c_Opener_addPackedBlock (l := l) (dC := dC) (dI := dI) (cB := cB) (cI := cI) (h0 := h0) (a1 := (h0_at + (4 : Int32))) (h0_to := h0_to) (h0_blocks := h0_blocks) (h0_blocks_facts := h0_blocks_facts) (w_h0_input := (.ref h0_input)) (w_h0_words := (w_h0_words)) (w_h0_settings := (w_h0_settings)) (w_h0_broken := (.int u23)) (w_h0_brokenAt := (.int u24)) (h0_at := u25) (w_h0_end := (.int r32)) (h0_begin := u26) (h0_copies := u27) (h0_literals := u28) (h0_parts := u29) (w_h0_frameBegin := (w_h0_frameBegin)) (w_h0_flags := (w_h0_flags)) (w_h0_width := (w_h0_width)) (w_h0_size := (w_h0_size)) (w_h0_to_held := (.ref h0_to_held)) (h0_to_count := u30) (h0_blocks_count := h0_blocks_count) (h0_blocks_facts_n := h0_blocks_facts_n) (h0_blocks_facts_f := h0_blocks_facts_f) (o_h0_blocks_count := u33) (o_h0_blocks_facts_f := u34) hc) (wV kw_904 kw_906 kw_31 kw_92 kw_907) (by decide +kernel) ⟨Nat.le_of_ble_eq_true rfl, Nat.le_of_ble_eq_true rfl⟩ hK hP hD hN hT hS (va_free (wc := [(h0, .inr (5, [.ref h0_input, w_h0_words, w_h0_settings, .ref h0_to, .ref h0_blocks, .int u23, .int u24, .int u25, .int r32, .int u26, .int u27, .int u28, .int u29, w_h0_frameBegin, w_h0_flags, w_h0_width, w_h0_size])), (h0_to, .inr (2, [.ref h0_to_held, .int u30])), (h0_blocks, .inr (1, [.ref h0_blocks_facts, .int h0_blocks_count])), (h0_blocks_facts, .inl (cI, h0_blocks_facts_n, .inl h0_blocks_facts_f))]) hD hS hA [0, 1, 2, 4] rfl) [0, 1, 2, 4] rfl (by decide) rfl rfl rfl hl.1 rfl (lv_room (Nat.le_of_ble_eq_true rfl)) dX6_openChunkBytes_75 ⟨Nat.le_of_ble_eq_true rfl, Nat.le_of_ble_eq_true rfl⟩) hP hD hS hA (wr := [(h0_input, .inr (2, [.ref h0_input_held, .int h0_input_count])), (h0_to_held, .inl (cB, h0_to_held_n, .inl u31)), (h0_input_held, .inl (cB, h0_input_held_n, .inl h0_input_held_f))]) (w1 := [(h0, .inr (5, [.ref h0_input, w_h0_words, w_h0_settings, .ref h0_to, .ref h0_blocks, .int u23, .int u24, .int u25, .int r32, .int u26, .int u27, .int u28, .int u29, w_h0_frameBegin, w_h0_flags, w_h0_width, w_h0_size])), (h0_to, .inr (2, [.ref h0_to_held, .int u30])), (h0_blocks, .inr (1, [.ref h0_blocks_facts, .int u33])), (h0_blocks_facts, .inl (cI, h0_blocks_facts_n, .inl u34))]) (ws' := [(h0, .inr (5, [.ref h0_input, w_h0_words, w_h0_settings, .ref h0_to, .ref h0_blocks, .int u23, .int u24, .int u25, .int r32, .int u26, .int u27, .int u28, .int u29, w_h0_frameBegin, w_h0_flags, w_h0_width, w_h0_size])), (h0_to, .inr (2, [.ref h0_to_held, .int u30])), (h0_blocks, .inr (1, [.ref h0_blocks_facts, .int u33])), (h0_input, .inr (2, [.ref h0_input_held, .int h0_input_count])), (h0_blocks_facts, .inl (cI, h0_blocks_facts_n, .inl u34)), (h0_to_held, .inl (cB, h0_to_held_n, .inl u31)), (h0_input_held, .inl (cB, h0_input_held_n, .inl h0_input_held_f))]) [0, 1, 2, 4] [3, 5, 6] [3, 4, 5, 0, 6, 1, 2] rfl rfl (by decide) (by decide) rfl (by decide) (fun H locs hP hD hS => ?_)
      exact hJ_78 u34 u31 u27 u28 u29 u23 u24 u25 r32 u26 u33 u30 _ _ _ hf hP hD hS (lv_sub hl [2, 1, 0] rfl)
    · replace hf := if_t c_54 hf
      refine lv_iconst (v := 0) hx hb dX6_openChunkBytes_57 (by decide) ?_
      have hzb : narrow .boolean (.int (0 : Int32)) = .int (0 : Int32) := rfl
      obtain ⟨rfl, hq_1⟩ := Prod.mk.inj (Option.some.inj hf)
      obtain ⟨rfl, hq_2⟩ := Prod.mk.inj hq_1
      obtain ⟨rfl, hq_3⟩ := Prod.mk.inj hq_2
      obtain ⟨rfl, hq_4⟩ := Prod.mk.inj hq_3
      obtain ⟨rfl, hq_5⟩ := Prod.mk.inj hq_4
      obtain ⟨rfl, hq_6⟩ := Prod.mk.inj hq_5
      obtain ⟨rfl, hq_7⟩ := Prod.mk.inj hq_6
      obtain ⟨rfl, hq_8⟩ := Prod.mk.inj hq_7
      obtain ⟨rfl, hq_9⟩ := Prod.mk.inj hq_8
      obtain ⟨rfl, hq_10⟩ := Prod.mk.inj hq_9
      obtain ⟨rfl, hq_11⟩ := Prod.mk.inj hq_10
      obtain ⟨rfl, hq_12⟩ := Prod.mk.inj hq_11
      obtain rfl := hq_12
      exact rt_z hQ hx hb hr hzb hlocks hP hD hS dX6_openChunkBytes_58
  · replace hf := if_f c_26 hf
    refine lv_aload_n hx hb dX6_openChunkBytes_29 rfl (lv_at hl 2 rfl) ?_
    refine lv_iload_n hx hb dX6_openChunkBytes_30 rfl (lv_at hl 5 rfl) ?_
    refine lv_iload_n hx hb dX6_openChunkBytes_31 rfl (lv_at hl 3 rfl) ?_
    obtain ⟨x, hc, hf⟩ := bind_some hf
    obtain ⟨r35, u36, u37, u38, u39, u40, u41, u42⟩ := x
    dsimp only at hf
    refine nx_i (rn_V (As := [.int a3, .int a1]) (rest := []) (n := 2) (ci := 5) (q0 := 0) ⟨hx, hb, hml, hown, hts⟩ (c_Opener_openRaw (l := l) (dC := dC) (dI := dI) (cB := cB) (cI := cI) (h0 := h0) (a1 := a3) (a2 := a1) (h0_to := h0_to) (h0_blocks := h0_blocks) (h0_blocks_facts := h0_blocks_facts) (h0_input := h0_input) (h0_to_held := h0_to_held) (h0_input_held := h0_input_held) (w_h0_words := (w_h0_words)) (w_h0_settings := (w_h0_settings)) (h0_broken := h0_broken) (h0_brokenAt := h0_brokenAt) (h0_at := p_2) (w_h0_end := (.int h0_end)) (w_h0_begin := (.int h0_begin)) (w_h0_copies := (.int h0_copies)) (w_h0_literals := (.int h0_literals)) (w_h0_parts := (.int h0_parts)) (w_h0_frameBegin := (w_h0_frameBegin)) (w_h0_flags := (w_h0_flags)) (w_h0_width := (w_h0_width)) (w_h0_size := (w_h0_size)) (h0_to_count := h0_to_count) (h0_blocks_count := h0_blocks_count) (h0_blocks_facts_n := h0_blocks_facts_n) (h0_blocks_facts_f := h0_blocks_facts_f) (h0_input_count := h0_input_count) (h0_to_held_n := h0_to_held_n) (h0_to_held_f := h0_to_held_f) (h0_input_held_n := h0_input_held_n) (h0_input_held_f := h0_input_held_f) (o_h0_broken := u36) (o_h0_brokenAt := u37) (o_h0_at := u38) (o_h0_to_count := u39) (o_h0_blocks_count := u40) (o_h0_blocks_facts_f := u41) (o_h0_to_held_f := u42) (o_r := r35) hc) (wV kw_947 kw_949 kw_39 kw_92 kw_950) (by decide +kernel) ⟨Nat.le_of_ble_eq_true rfl, Nat.le_of_ble_eq_true rfl⟩ hK hP hD hN hT hS (va_free (wc := [(h0, .inr (5, [.ref h0_input, w_h0_words, w_h0_settings, .ref h0_to, .ref h0_blocks, .int h0_broken, .int h0_brokenAt, .int p_2, .int h0_end, .int h0_begin, .int h0_copies, .int h0_literals, .int h0_parts, w_h0_frameBegin, w_h0_flags, w_h0_width, w_h0_size])), (h0_to, .inr (2, [.ref h0_to_held, .int h0_to_count])), (h0_blocks, .inr (1, [.ref h0_blocks_facts, .int h0_blocks_count])), (h0_blocks_facts, .inl (cI, h0_blocks_facts_n, .inl h0_blocks_facts_f)), (h0_input, .inr (2, [.ref h0_input_held, .int h0_input_count])), (h0_to_held, .inl (cB, h0_to_held_n, .inl h0_to_held_f)), (h0_input_held, .inl (cB, h0_input_held_n, .inl h0_input_held_f))]) hD hS hA [0, 1, 2, 4, 3, 5, 6] rfl) [0, 1, 2, 4, 3, 5, 6] rfl (by decide) rfl rfl rfl hl.1 rfl (lv_room (Nat.le_of_ble_eq_true rfl)) dX6_openChunkBytes_32 ⟨Nat.le_of_ble_eq_true rfl, Nat.le_of_ble_eq_true rfl⟩) hP hD hS hA (wr := []) (w1 := [(h0, .inr (5, [.ref h0_input, w_h0_words, w_h0_settings, .ref h0_to, .ref h0_blocks, .int u36, .int u37, .int u38, .int h0_end, .int h0_begin, .int h0_copies, .int h0_literals, .int h0_parts, w_h0_frameBegin, w_h0_flags, w_h0_width, w_h0_size])), (h0_to, .inr (2, [.ref h0_to_held, .int u39])), (h0_blocks, .inr (1, [.ref h0_blocks_facts, .int u40])), (h0_blocks_facts, .inl (cI, h0_blocks_facts_n, .inl u41)), (h0_input, .inr (2, [.ref h0_input_held, .int h0_input_count])), (h0_to_held, .inl (cB, h0_to_held_n, .inl u42)), (h0_input_held, .inl (cB, h0_input_held_n, .inl h0_input_held_f))]) (ws' := [(h0, .inr (5, [.ref h0_input, w_h0_words, w_h0_settings, .ref h0_to, .ref h0_blocks, .int u36, .int u37, .int u38, .int h0_end, .int h0_begin, .int h0_copies, .int h0_literals, .int h0_parts, w_h0_frameBegin, w_h0_flags, w_h0_width, w_h0_size])), (h0_to, .inr (2, [.ref h0_to_held, .int u39])), (h0_blocks, .inr (1, [.ref h0_blocks_facts, .int u40])), (h0_input, .inr (2, [.ref h0_input_held, .int h0_input_count])), (h0_blocks_facts, .inl (cI, h0_blocks_facts_n, .inl u41)), (h0_to_held, .inl (cB, h0_to_held_n, .inl u42)), (h0_input_held, .inl (cB, h0_input_held_n, .inl h0_input_held_f))]) [0, 1, 2, 4, 3, 5, 6] [] [0, 1, 2, 4, 3, 5, 6] rfl rfl (by decide) (by decide) rfl (by decide) (fun H locs hP hD hS => ?_)
    refine lv_if_ne (tgt := 78) hx hb dX6_openChunkBytes_35 (by decide) (fun c_35 => ?_) (fun c_35 => ?_)
    · replace hf := if_f c_35 hf
      exact hJ_78 u41 u42 h0_copies h0_literals h0_parts u36 u37 u38 h0_end h0_begin u40 u39 _ _ _ hf hP hD hS (lv_sub hl [2, 1, 0] rfl)
    · replace hf := if_t c_35 hf
      refine lv_iconst (v := 0) hx hb dX6_openChunkBytes_38 (by decide) ?_
      have hzb : narrow .boolean (.int (0 : Int32)) = .int (0 : Int32) := rfl
      obtain ⟨rfl, hq_1⟩ := Prod.mk.inj (Option.some.inj hf)
      obtain ⟨rfl, hq_2⟩ := Prod.mk.inj hq_1
      obtain ⟨rfl, hq_3⟩ := Prod.mk.inj hq_2
      obtain ⟨rfl, hq_4⟩ := Prod.mk.inj hq_3
      obtain ⟨rfl, hq_5⟩ := Prod.mk.inj hq_4
      obtain ⟨rfl, hq_6⟩ := Prod.mk.inj hq_5
      obtain ⟨rfl, hq_7⟩ := Prod.mk.inj hq_6
      obtain ⟨rfl, hq_8⟩ := Prod.mk.inj hq_7
      obtain ⟨rfl, hq_9⟩ := Prod.mk.inj hq_8
      obtain ⟨rfl, hq_10⟩ := Prod.mk.inj hq_9
      obtain ⟨rfl, hq_11⟩ := Prod.mk.inj hq_10
      obtain ⟨rfl, hq_12⟩ := Prod.mk.inj hq_11
      obtain rfl := hq_12
      exact rt_z hQ hx hb hr hzb hlocks hP hD hS dX6_openChunkBytes_39

theorem dX6_openChunk_0 : decode cX6_openChunk 0 = .ok (.aload_n 0, 1) := by decide +kernel
theorem dX6_openChunk_1 : decode cX6_openChunk 1 = .ok (.getfield 47, 3) := by decide +kernel
theorem dX6_openChunk_4 : decode cX6_openChunk 4 = .ok (.istore_n 1, 1) := by decide +kernel
theorem dX6_openChunk_5 : decode cX6_openChunk 5 = .ok (.aload_n 0, 1) := by decide +kernel
theorem dX6_openChunk_6 : decode cX6_openChunk 6 = .ok (.getfield 9, 3) := by decide +kernel
theorem dX6_openChunk_9 : decode cX6_openChunk 9 = .ok (.iload_n 1, 1) := by decide +kernel
theorem dX6_openChunk_10 : decode cX6_openChunk 10 = .ok (.invokevirtual 89, 3) := by decide +kernel
theorem dX6_openChunk_13 : decode cX6_openChunk 13 = .ok (.istore_n 2, 1) := by decide +kernel
theorem dX6_openChunk_14 : decode cX6_openChunk 14 = .ok (.aload_n 0, 1) := by decide +kernel
theorem dX6_openChunk_15 : decode cX6_openChunk 15 = .ok (.iconst 4, 1) := by decide +kernel
theorem dX6_openChunk_16 : decode cX6_openChunk 16 = .ok (.invokevirtual 95, 3) := by decide +kernel
theorem dX6_openChunk_19 : decode cX6_openChunk 19 = .ok (.ifCond .eq 13, 3) := by decide +kernel
theorem dX6_openChunk_22 : decode cX6_openChunk 22 = .ok (.aload_n 0, 1) := by decide +kernel
theorem dX6_openChunk_23 : decode cX6_openChunk 23 = .ok (.iconst 1, 1) := by decide +kernel
theorem dX6_openChunk_24 : decode cX6_openChunk 24 = .ok (.aload_n 0, 1) := by decide +kernel
theorem dX6_openChunk_25 : decode cX6_openChunk 25 = .ok (.getfield 54, 3) := by decide +kernel
theorem dX6_openChunk_28 : decode cX6_openChunk 28 = .ok (.invokevirtual 98, 3) := by decide +kernel
theorem dX6_openChunk_31 : decode cX6_openChunk 31 = .ok (.ireturn, 1) := by decide +kernel
theorem dX6_openChunk_32 : decode cX6_openChunk 32 = .ok (.aload_n 0, 1) := by decide +kernel
theorem dX6_openChunk_33 : decode cX6_openChunk 33 = .ok (.getfield 9, 3) := by decide +kernel
theorem dX6_openChunk_36 : decode cX6_openChunk 36 = .ok (.iload_n 1, 1) := by decide +kernel
theorem dX6_openChunk_37 : decode cX6_openChunk 37 = .ok (.iconst 1, 1) := by decide +kernel
theorem dX6_openChunk_38 : decode cX6_openChunk 38 = .ok (.iadd, 1) := by decide +kernel
theorem dX6_openChunk_39 : decode cX6_openChunk 39 = .ok (.iconst 3, 1) := by decide +kernel
theorem dX6_openChunk_40 : decode cX6_openChunk 40 = .ok (.invokevirtual 117, 3) := by decide +kernel
theorem dX6_openChunk_43 : decode cX6_openChunk 43 = .ok (.l2i, 1) := by decide +kernel
theorem dX6_openChunk_44 : decode cX6_openChunk 44 = .ok (.istore_n 3, 1) := by decide +kernel
theorem dX6_openChunk_45 : decode cX6_openChunk 45 = .ok (.iload_n 2, 1) := by decide +kernel
theorem dX6_openChunk_46 : decode cX6_openChunk 46 = .ok (.ifCond .eq 8, 3) := by decide +kernel
theorem dX6_openChunk_49 : decode cX6_openChunk 49 = .ok (.iload_n 2, 1) := by decide +kernel
theorem dX6_openChunk_50 : decode cX6_openChunk 50 = .ok (.iconst 1, 1) := by decide +kernel
theorem dX6_openChunk_51 : decode cX6_openChunk 51 = .ok (.if_icmp .ne 7, 3) := by decide +kernel
theorem dX6_openChunk_54 : decode cX6_openChunk 54 = .ok (.iconst 1, 1) := by decide +kernel
theorem dX6_openChunk_55 : decode cX6_openChunk 55 = .ok (.goto 4, 3) := by decide +kernel
theorem dX6_openChunk_58 : decode cX6_openChunk 58 = .ok (.iconst 0, 1) := by decide +kernel
theorem dX6_openChunk_59 : decode cX6_openChunk 59 = .ok (.istore 4, 2) := by decide +kernel
theorem dX6_openChunk_61 : decode cX6_openChunk 61 = .ok (.iload 4, 2) := by decide +kernel
theorem dX6_openChunk_63 : decode cX6_openChunk 63 = .ok (.ifCond .eq 11, 3) := by decide +kernel
theorem dX6_openChunk_66 : decode cX6_openChunk 66 = .ok (.iload_n 3, 1) := by decide +kernel
theorem dX6_openChunk_67 : decode cX6_openChunk 67 = .ok (.iconst 4, 1) := by decide +kernel
theorem dX6_openChunk_68 : decode cX6_openChunk 68 = .ok (.if_icmp .ge 21, 3) := by decide +kernel
theorem dX6_openChunk_71 : decode cX6_openChunk 71 = .ok (.goto 10, 3) := by decide +kernel
theorem dX6_openChunk_74 : decode cX6_openChunk 74 = .ok (.iload_n 2, 1) := by decide +kernel
theorem dX6_openChunk_75 : decode cX6_openChunk 75 = .ok (.sipush 128, 3) := by decide +kernel
theorem dX6_openChunk_78 : decode cX6_openChunk 78 = .ok (.if_icmp .ge 11, 3) := by decide +kernel
theorem dX6_openChunk_81 : decode cX6_openChunk 81 = .ok (.aload_n 0, 1) := by decide +kernel
theorem dX6_openChunk_82 : decode cX6_openChunk 82 = .ok (.bipush 15, 2) := by decide +kernel
theorem dX6_openChunk_84 : decode cX6_openChunk 84 = .ok (.iload_n 1, 1) := by decide +kernel
theorem dX6_openChunk_85 : decode cX6_openChunk 85 = .ok (.invokevirtual 98, 3) := by decide +kernel
theorem dX6_openChunk_88 : decode cX6_openChunk 88 = .ok (.ireturn, 1) := by decide +kernel
theorem dX6_openChunk_89 : decode cX6_openChunk 89 = .ok (.iload_n 2, 1) := by decide +kernel
theorem dX6_openChunk_90 : decode cX6_openChunk 90 = .ok (.sipush 255, 3) := by decide +kernel
theorem dX6_openChunk_93 : decode cX6_openChunk 93 = .ok (.if_icmp .ne 18, 3) := by decide +kernel
theorem dX6_openChunk_96 : decode cX6_openChunk 96 = .ok (.iload_n 3, 1) := by decide +kernel
theorem dX6_openChunk_97 : decode cX6_openChunk 97 = .ok (.getstatic 210, 3) := by decide +kernel
theorem dX6_openChunk_100 : decode cX6_openChunk 100 = .ok (.arraylength, 1) := by decide +kernel
theorem dX6_openChunk_101 : decode cX6_openChunk 101 = .ok (.if_icmp .eq 10, 3) := by decide +kernel
theorem dX6_openChunk_104 : decode cX6_openChunk 104 = .ok (.aload_n 0, 1) := by decide +kernel
theorem dX6_openChunk_105 : decode cX6_openChunk 105 = .ok (.iconst 4, 1) := by decide +kernel
theorem dX6_openChunk_106 : decode cX6_openChunk 106 = .ok (.iload_n 1, 1) := by decide +kernel
theorem dX6_openChunk_107 : decode cX6_openChunk 107 = .ok (.invokevirtual 98, 3) := by decide +kernel
theorem dX6_openChunk_110 : decode cX6_openChunk 110 = .ok (.ireturn, 1) := by decide +kernel
theorem dX6_openChunk_111 : decode cX6_openChunk 111 = .ok (.aload_n 0, 1) := by decide +kernel
theorem dX6_openChunk_112 : decode cX6_openChunk 112 = .ok (.dup, 1) := by decide +kernel
theorem dX6_openChunk_113 : decode cX6_openChunk 113 = .ok (.getfield 47, 3) := by decide +kernel
theorem dX6_openChunk_116 : decode cX6_openChunk 116 = .ok (.iconst 4, 1) := by decide +kernel
theorem dX6_openChunk_117 : decode cX6_openChunk 117 = .ok (.iadd, 1) := by decide +kernel
theorem dX6_openChunk_118 : decode cX6_openChunk 118 = .ok (.putfield 47, 3) := by decide +kernel
theorem dX6_openChunk_121 : decode cX6_openChunk 121 = .ok (.aload_n 0, 1) := by decide +kernel
theorem dX6_openChunk_122 : decode cX6_openChunk 122 = .ok (.iload_n 3, 1) := by decide +kernel
theorem dX6_openChunk_123 : decode cX6_openChunk 123 = .ok (.invokevirtual 95, 3) := by decide +kernel
theorem dX6_openChunk_126 : decode cX6_openChunk 126 = .ok (.ifCond .eq 13, 3) := by decide +kernel
theorem dX6_openChunk_129 : decode cX6_openChunk 129 = .ok (.aload_n 0, 1) := by decide +kernel
theorem dX6_openChunk_130 : decode cX6_openChunk 130 = .ok (.iconst 1, 1) := by decide +kernel
theorem dX6_openChunk_131 : decode cX6_openChunk 131 = .ok (.aload_n 0, 1) := by decide +kernel
theorem dX6_openChunk_132 : decode cX6_openChunk 132 = .ok (.getfield 54, 3) := by decide +kernel
theorem dX6_openChunk_135 : decode cX6_openChunk 135 = .ok (.invokevirtual 98, 3) := by decide +kernel
theorem dX6_openChunk_138 : decode cX6_openChunk 138 = .ok (.ireturn, 1) := by decide +kernel
theorem dX6_openChunk_139 : decode cX6_openChunk 139 = .ok (.iload_n 2, 1) := by decide +kernel
theorem dX6_openChunk_140 : decode cX6_openChunk 140 = .ok (.sipush 255, 3) := by decide +kernel
theorem dX6_openChunk_143 : decode cX6_openChunk 143 = .ok (.if_icmp .ne 17, 3) := by decide +kernel
theorem dX6_openChunk_146 : decode cX6_openChunk 146 = .ok (.aload_n 0, 1) := by decide +kernel
theorem dX6_openChunk_147 : decode cX6_openChunk 147 = .ok (.invokevirtual 213, 3) := by decide +kernel
theorem dX6_openChunk_150 : decode cX6_openChunk 150 = .ok (.ifCond .ne 10, 3) := by decide +kernel
theorem dX6_openChunk_153 : decode cX6_openChunk 153 = .ok (.aload_n 0, 1) := by decide +kernel
theorem dX6_openChunk_154 : decode cX6_openChunk 154 = .ok (.iconst 4, 1) := by decide +kernel
theorem dX6_openChunk_155 : decode cX6_openChunk 155 = .ok (.iload_n 1, 1) := by decide +kernel
theorem dX6_openChunk_156 : decode cX6_openChunk 156 = .ok (.invokevirtual 98, 3) := by decide +kernel
theorem dX6_openChunk_159 : decode cX6_openChunk 159 = .ok (.ireturn, 1) := by decide +kernel
theorem dX6_openChunk_160 : decode cX6_openChunk 160 = .ok (.iload 4, 2) := by decide +kernel
theorem dX6_openChunk_162 : decode cX6_openChunk 162 = .ok (.ifCond .eq 22, 3) := by decide +kernel
theorem dX6_openChunk_165 : decode cX6_openChunk 165 = .ok (.aload_n 0, 1) := by decide +kernel
theorem dX6_openChunk_166 : decode cX6_openChunk 166 = .ok (.iload_n 1, 1) := by decide +kernel
theorem dX6_openChunk_167 : decode cX6_openChunk 167 = .ok (.iload_n 2, 1) := by decide +kernel
theorem dX6_openChunk_168 : decode cX6_openChunk 168 = .ok (.iconst 1, 1) := by decide +kernel
theorem dX6_openChunk_169 : decode cX6_openChunk 169 = .ok (.if_icmp .ne 7, 3) := by decide +kernel
theorem dX6_openChunk_172 : decode cX6_openChunk 172 = .ok (.iconst 1, 1) := by decide +kernel
theorem dX6_openChunk_173 : decode cX6_openChunk 173 = .ok (.goto 4, 3) := by decide +kernel
theorem dX6_openChunk_176 : decode cX6_openChunk 176 = .ok (.iconst 0, 1) := by decide +kernel
theorem dX6_openChunk_177 : decode cX6_openChunk 177 = .ok (.iload_n 3, 1) := by decide +kernel
theorem dX6_openChunk_178 : decode cX6_openChunk 178 = .ok (.iconst 4, 1) := by decide +kernel
theorem dX6_openChunk_179 : decode cX6_openChunk 179 = .ok (.isub, 1) := by decide +kernel
theorem dX6_openChunk_180 : decode cX6_openChunk 180 = .ok (.invokevirtual 216, 3) := by decide +kernel
theorem dX6_openChunk_183 : decode cX6_openChunk 183 = .ok (.ireturn, 1) := by decide +kernel
theorem dX6_openChunk_184 : decode cX6_openChunk 184 = .ok (.aload_n 0, 1) := by decide +kernel
theorem dX6_openChunk_185 : decode cX6_openChunk 185 = .ok (.dup, 1) := by decide +kernel
theorem dX6_openChunk_186 : decode cX6_openChunk 186 = .ok (.getfield 47, 3) := by decide +kernel
theorem dX6_openChunk_189 : decode cX6_openChunk 189 = .ok (.iload_n 3, 1) := by decide +kernel
theorem dX6_openChunk_190 : decode cX6_openChunk 190 = .ok (.iadd, 1) := by decide +kernel
theorem dX6_openChunk_191 : decode cX6_openChunk 191 = .ok (.putfield 47, 3) := by decide +kernel
theorem dX6_openChunk_194 : decode cX6_openChunk 194 = .ok (.iconst 1, 1) := by decide +kernel
theorem dX6_openChunk_195 : decode cX6_openChunk 195 = .ok (.ireturn, 1) := by decide +kernel
def m_Opener_openChunk_J177 (h0_broken : Int32) (h0_brokenAt : Int32) (h0_at : Int32) (h0_end : Int32) (h0_begin : Int32) (h0_copies : Int32) (h0_literals : Int32) (h0_parts : Int32) (h0_input_count : Int32) (h0_input_held_n : Nat) (h0_input_held_f : Nat → Int32) (h0_blocks_count : Int32) (h0_to_count : Int32) (h0_blocks_facts_n : Nat) (h0_blocks_facts_f : Nat → Int32) (h0_to_held_n : Nat) (h0_to_held_f : Nat → Int32) (v3_4 : Int32) (p_6 : Int32) (s9 : Int32) : Option (Int32 × Int32 × Int32 × Int32 × Int32 × Int32 × Int32 × Int32 × Int32 × Int32 × Int32 × (Nat → Int32) × (Nat → Int32)) :=
  (m_Opener_openChunkBytes h0_at s9 (v3_4 - (4 : Int32)) h0_broken h0_brokenAt p_6 h0_end h0_begin h0_copies h0_literals h0_parts h0_to_count h0_blocks_count h0_input_count h0_blocks_facts_n h0_blocks_facts_f h0_to_held_n h0_to_held_f h0_input_held_n h0_input_held_f).bind fun (r10, u11, u12, u13, u14, u15, u16, u17, u18, u19, u20, u21, u22) =>
  bch r10 <|
  some (r10, u11, u12, u13, u14, u15, u16, u17, u18, u20, u19, u21, u22)
def m_Opener_openChunk_J160 (h0_broken : Int32) (h0_brokenAt : Int32) (h0_at : Int32) (h0_end : Int32) (h0_begin : Int32) (h0_copies : Int32) (h0_literals : Int32) (h0_parts : Int32) (h0_input_count : Int32) (h0_input_held_n : Nat) (h0_input_held_f : Nat → Int32) (h0_blocks_count : Int32) (h0_to_count : Int32) (h0_blocks_facts_n : Nat) (h0_blocks_facts_f : Nat → Int32) (h0_to_held_n : Nat) (h0_to_held_f : Nat → Int32) (r1 : Int32) (v3_4 : Int32) (s5 : Int32) (p_6 : Int32) : Option (Int32 × Int32 × Int32 × Int32 × Int32 × Int32 × Int32 × Int32 × Int32 × Int32 × Int32 × (Nat → Int32) × (Nat → Int32)) :=
  if s5 = 0 then
    bnd (p_6 + v3_4) fun p_8 =>
    some ((1 : Int32), h0_broken, h0_brokenAt, p_8, h0_end, h0_begin, h0_copies, h0_literals, h0_parts, h0_blocks_count, h0_to_count, h0_blocks_facts_f, h0_to_held_f)
  else
    if r1 = (1 : Int32) then
      m_Opener_openChunk_J177 h0_broken h0_brokenAt h0_at h0_end h0_begin h0_copies h0_literals h0_parts h0_input_count h0_input_held_n h0_input_held_f h0_blocks_count h0_to_count h0_blocks_facts_n h0_blocks_facts_f h0_to_held_n h0_to_held_f v3_4 p_6 (1 : Int32)
    else
      m_Opener_openChunk_J177 h0_broken h0_brokenAt h0_at h0_end h0_begin h0_copies h0_literals h0_parts h0_input_count h0_input_held_n h0_input_held_f h0_blocks_count h0_to_count h0_blocks_facts_n h0_blocks_facts_f h0_to_held_n h0_to_held_f v3_4 p_6 (0 : Int32)
def m_Opener_openChunk_J111 (h0_broken : Int32) (h0_brokenAt : Int32) (h0_at : Int32) (h0_end : Int32) (h0_begin : Int32) (h0_copies : Int32) (h0_literals : Int32) (h0_parts : Int32) (h0_input_count : Int32) (h0_input_held_n : Nat) (h0_input_held_f : Nat → Int32) (h0_blocks_count : Int32) (h0_to_count : Int32) (h0_blocks_facts_n : Nat) (h0_blocks_facts_f : Nat → Int32) (h0_to_held_n : Nat) (h0_to_held_f : Nat → Int32) (r1 : Int32) (v3_4 : Int32) (s5 : Int32) : Option (Int32 × Int32 × Int32 × Int32 × Int32 × Int32 × Int32 × Int32 × Int32 × Int32 × Int32 × (Nat → Int32) × (Nat → Int32)) :=
  bnd (h0_at + (4 : Int32)) fun p_6 =>
  (m_Opener_lacks v3_4 p_6 h0_end).bind fun r7 =>
  if r7 = 0 then
    if r1 = (255 : Int32) then
      (m_Opener_isFirstChunk p_6 h0_input_count h0_input_held_n h0_input_held_f).bind fun r23 =>
      if r23 = 0 then
        (m_Opener_breaks (4 : Int32) h0_at).bind fun (r24, u25, u26) =>
        bch r24 <|
        some (r24, u25, u26, p_6, h0_end, h0_begin, h0_copies, h0_literals, h0_parts, h0_blocks_count, h0_to_count, h0_blocks_facts_f, h0_to_held_f)
      else
        m_Opener_openChunk_J160 h0_broken h0_brokenAt h0_at h0_end h0_begin h0_copies h0_literals h0_parts h0_input_count h0_input_held_n h0_input_held_f h0_blocks_count h0_to_count h0_blocks_facts_n h0_blocks_facts_f h0_to_held_n h0_to_held_f r1 v3_4 s5 p_6
    else
      m_Opener_openChunk_J160 h0_broken h0_brokenAt h0_at h0_end h0_begin h0_copies h0_literals h0_parts h0_input_count h0_input_held_n h0_input_held_f h0_blocks_count h0_to_count h0_blocks_facts_n h0_blocks_facts_f h0_to_held_n h0_to_held_f r1 v3_4 s5 p_6
  else
    (m_Opener_breaks (1 : Int32) h0_end).bind fun (r27, u28, u29) =>
    bch r27 <|
    some (r27, u28, u29, p_6, h0_end, h0_begin, h0_copies, h0_literals, h0_parts, h0_blocks_count, h0_to_count, h0_blocks_facts_f, h0_to_held_f)
def m_Opener_openChunk_J89 (h0_broken : Int32) (h0_brokenAt : Int32) (h0_at : Int32) (h0_end : Int32) (h0_begin : Int32) (h0_copies : Int32) (h0_literals : Int32) (h0_parts : Int32) (h0_input_count : Int32) (h0_input_held_n : Nat) (h0_input_held_f : Nat → Int32) (h0_blocks_count : Int32) (h0_to_count : Int32) (h0_blocks_facts_n : Nat) (h0_blocks_facts_f : Nat → Int32) (h0_to_held_n : Nat) (h0_to_held_f : Nat → Int32) (r1 : Int32) (v3_4 : Int32) (s5 : Int32) : Option (Int32 × Int32 × Int32 × Int32 × Int32 × Int32 × Int32 × Int32 × Int32 × Int32 × Int32 × (Nat → Int32) × (Nat → Int32)) :=
  if r1 = (255 : Int32) then
    if v3_4 = (nI 6) then
      m_Opener_openChunk_J111 h0_broken h0_brokenAt h0_at h0_end h0_begin h0_copies h0_literals h0_parts h0_input_count h0_input_held_n h0_input_held_f h0_blocks_count h0_to_count h0_blocks_facts_n h0_blocks_facts_f h0_to_held_n h0_to_held_f r1 v3_4 s5
    else
      (m_Opener_breaks (4 : Int32) h0_at).bind fun (r30, u31, u32) =>
      bch r30 <|
      some (r30, u31, u32, h0_at, h0_end, h0_begin, h0_copies, h0_literals, h0_parts, h0_blocks_count, h0_to_count, h0_blocks_facts_f, h0_to_held_f)
  else
    m_Opener_openChunk_J111 h0_broken h0_brokenAt h0_at h0_end h0_begin h0_copies h0_literals h0_parts h0_input_count h0_input_held_n h0_input_held_f h0_blocks_count h0_to_count h0_blocks_facts_n h0_blocks_facts_f h0_to_held_n h0_to_held_f r1 v3_4 s5
def m_Opener_openChunk_J81 (h0_at : Int32) (h0_end : Int32) (h0_begin : Int32) (h0_copies : Int32) (h0_literals : Int32) (h0_parts : Int32) (h0_blocks_count : Int32) (h0_to_count : Int32) (h0_blocks_facts_f : Nat → Int32) (h0_to_held_f : Nat → Int32) : Option (Int32 × Int32 × Int32 × Int32 × Int32 × Int32 × Int32 × Int32 × Int32 × Int32 × Int32 × (Nat → Int32) × (Nat → Int32)) :=
  (m_Opener_breaks (15 : Int32) h0_at).bind fun (r33, u34, u35) =>
  bch r33 <|
  some (r33, u34, u35, h0_at, h0_end, h0_begin, h0_copies, h0_literals, h0_parts, h0_blocks_count, h0_to_count, h0_blocks_facts_f, h0_to_held_f)
def m_Opener_openChunk_J59 (h0_broken : Int32) (h0_brokenAt : Int32) (h0_at : Int32) (h0_end : Int32) (h0_begin : Int32) (h0_copies : Int32) (h0_literals : Int32) (h0_parts : Int32) (h0_input_count : Int32) (h0_input_held_n : Nat) (h0_input_held_f : Nat → Int32) (h0_blocks_count : Int32) (h0_to_count : Int32) (h0_blocks_facts_n : Nat) (h0_blocks_facts_f : Nat → Int32) (h0_to_held_n : Nat) (h0_to_held_f : Nat → Int32) (r1 : Int32) (v3_4 : Int32) (s5 : Int32) : Option (Int32 × Int32 × Int32 × Int32 × Int32 × Int32 × Int32 × Int32 × Int32 × Int32 × Int32 × (Nat → Int32) × (Nat → Int32)) :=
  if s5 = 0 then
    if (128 : Int32) ≤ r1 then
      m_Opener_openChunk_J89 h0_broken h0_brokenAt h0_at h0_end h0_begin h0_copies h0_literals h0_parts h0_input_count h0_input_held_n h0_input_held_f h0_blocks_count h0_to_count h0_blocks_facts_n h0_blocks_facts_f h0_to_held_n h0_to_held_f r1 v3_4 s5
    else
      m_Opener_openChunk_J81 h0_at h0_end h0_begin h0_copies h0_literals h0_parts h0_blocks_count h0_to_count h0_blocks_facts_f h0_to_held_f
  else
    if (4 : Int32) ≤ v3_4 then
      m_Opener_openChunk_J89 h0_broken h0_brokenAt h0_at h0_end h0_begin h0_copies h0_literals h0_parts h0_input_count h0_input_held_n h0_input_held_f h0_blocks_count h0_to_count h0_blocks_facts_n h0_blocks_facts_f h0_to_held_n h0_to_held_f r1 v3_4 s5
    else
      m_Opener_openChunk_J81 h0_at h0_end h0_begin h0_copies h0_literals h0_parts h0_blocks_count h0_to_count h0_blocks_facts_f h0_to_held_f
def m_Opener_openChunk (h0_broken : Int32) (h0_brokenAt : Int32) (h0_at : Int32) (h0_end : Int32) (h0_begin : Int32) (h0_copies : Int32) (h0_literals : Int32) (h0_parts : Int32) (h0_input_count : Int32) (h0_input_held_n : Nat) (h0_input_held_f : Nat → Int32) (h0_blocks_count : Int32) (h0_to_count : Int32) (h0_blocks_facts_n : Nat) (h0_blocks_facts_f : Nat → Int32) (h0_to_held_n : Nat) (h0_to_held_f : Nat → Int32) : Option (Int32 × Int32 × Int32 × Int32 × Int32 × Int32 × Int32 × Int32 × Int32 × Int32 × Int32 × (Nat → Int32) × (Nat → Int32)) :=
  (m_Bytes_at h0_at h0_input_count h0_input_held_n h0_input_held_f).bind fun r1 =>
  (m_Opener_lacks (4 : Int32) h0_at h0_end).bind fun r2 =>
  if r2 = 0 then
    (m_Bytes_number (h0_at + (1 : Int32)) (3 : Int32) h0_input_count h0_input_held_n h0_input_held_f).bind fun r3 =>
    bnd (r3.toInt32) fun v3_4 =>
    if r1 = 0 then
      m_Opener_openChunk_J59 h0_broken h0_brokenAt h0_at h0_end h0_begin h0_copies h0_literals h0_parts h0_input_count h0_input_held_n h0_input_held_f h0_blocks_count h0_to_count h0_blocks_facts_n h0_blocks_facts_f h0_to_held_n h0_to_held_f r1 v3_4 (1 : Int32)
    else
      if r1 = (1 : Int32) then
        m_Opener_openChunk_J59 h0_broken h0_brokenAt h0_at h0_end h0_begin h0_copies h0_literals h0_parts h0_input_count h0_input_held_n h0_input_held_f h0_blocks_count h0_to_count h0_blocks_facts_n h0_blocks_facts_f h0_to_held_n h0_to_held_f r1 v3_4 (1 : Int32)
      else
        m_Opener_openChunk_J59 h0_broken h0_brokenAt h0_at h0_end h0_begin h0_copies h0_literals h0_parts h0_input_count h0_input_held_n h0_input_held_f h0_blocks_count h0_to_count h0_blocks_facts_n h0_blocks_facts_f h0_to_held_n h0_to_held_f r1 v3_4 (0 : Int32)
  else
    (m_Opener_breaks (1 : Int32) h0_end).bind fun (r36, u37, u38) =>
    bch r36 <|
    some (r36, u37, u38, h0_at, h0_end, h0_begin, h0_copies, h0_literals, h0_parts, h0_blocks_count, h0_to_count, h0_blocks_facts_f, h0_to_held_f)
def rm_Opener_openChunk : Room := { frames := 6, cells := 0, slots := 0, locals := 165 }
set_option maxHeartbeats 4000000 in
set_option maxRecDepth 100000 in
theorem c_Opener_openChunk {l : Launch} {dC : Nat → ClassId} {dI : Nat → Nat → Nat} {cB cI : ClassId} {sz : Nat} {h0 : Nat} {h0_input : Nat} {h0_input_held : Nat} {h0_blocks : Nat} {h0_to : Nat} {h0_blocks_facts : Nat} {h0_to_held : Nat} {w_h0_words : Value} {w_h0_settings : Value} {h0_broken : Int32} {h0_brokenAt : Int32} {h0_at : Int32} {h0_end : Int32} {h0_begin : Int32} {h0_copies : Int32} {h0_literals : Int32} {h0_parts : Int32} {w_h0_frameBegin : Value} {w_h0_flags : Value} {w_h0_width : Value} {w_h0_size : Value} {h0_input_count : Int32} {h0_input_held_n : Nat} {h0_input_held_f : Nat → Int32} {h0_blocks_count : Int32} {h0_to_count : Int32} {h0_blocks_facts_n : Nat} {h0_blocks_facts_f : Nat → Int32} {h0_to_held_n : Nat} {h0_to_held_f : Nat → Int32} {o_r : Int32} {o_h0_broken : Int32} {o_h0_brokenAt : Int32} {o_h0_at : Int32} {o_h0_end : Int32} {o_h0_begin : Int32} {o_h0_copies : Int32} {o_h0_literals : Int32} {o_h0_parts : Int32} {o_h0_blocks_count : Int32} {o_h0_to_count : Int32} {o_h0_blocks_facts_f : Nat → Int32} {o_h0_to_held_f : Nat → Int32} (hf : m_Opener_openChunk h0_broken h0_brokenAt h0_at h0_end h0_begin h0_copies h0_literals h0_parts h0_input_count h0_input_held_n h0_input_held_f h0_blocks_count h0_to_count h0_blocks_facts_n h0_blocks_facts_f h0_to_held_n h0_to_held_f = some (o_r, o_h0_broken, o_h0_brokenAt, o_h0_at, o_h0_end, o_h0_begin, o_h0_copies, o_h0_literals, o_h0_parts, o_h0_blocks_count, o_h0_to_count, o_h0_blocks_facts_f, o_h0_to_held_f)) : Met l yX6_openChunk (Cond.code yX6_openChunk cX6_openChunk 5 (some .boolean) :: lw_G) rm_Opener_openChunk (PreC (dC, dI) [(cB, .byte), (cI, .int)] [.ref h0] sz [(h0, .inr (5, [.ref h0_input, w_h0_words, w_h0_settings, .ref h0_to, .ref h0_blocks, .int h0_broken, .int h0_brokenAt, .int h0_at, .int h0_end, .int h0_begin, .int h0_copies, .int h0_literals, .int h0_parts, w_h0_frameBegin, w_h0_flags, w_h0_width, w_h0_size])), (h0_input, .inr (2, [.ref h0_input_held, .int h0_input_count])), (h0_input_held, .inl (cB, h0_input_held_n, .inl h0_input_held_f)), (h0_blocks, .inr (1, [.ref h0_blocks_facts, .int h0_blocks_count])), (h0_to, .inr (2, [.ref h0_to_held, .int h0_to_count])), (h0_blocks_facts, .inl (cI, h0_blocks_facts_n, .inl h0_blocks_facts_f)), (h0_to_held, .inl (cB, h0_to_held_n, .inl h0_to_held_f))]) (QcI o_r (dC, dI) [(h0, .inr (5, [.ref h0_input, w_h0_words, w_h0_settings, .ref h0_to, .ref h0_blocks, .int o_h0_broken, .int o_h0_brokenAt, .int o_h0_at, .int o_h0_end, .int o_h0_begin, .int o_h0_copies, .int o_h0_literals, .int o_h0_parts, w_h0_frameBegin, w_h0_flags, w_h0_width, w_h0_size])), (h0_input, .inr (2, [.ref h0_input_held, .int h0_input_count])), (h0_input_held, .inl (cB, h0_input_held_n, .inl h0_input_held_f)), (h0_blocks, .inr (1, [.ref h0_blocks_facts, .int o_h0_blocks_count])), (h0_to, .inr (2, [.ref h0_to_held, .int o_h0_to_count])), (h0_blocks_facts, .inl (cI, h0_blocks_facts_n, .inl o_h0_blocks_facts_f)), (h0_to_held, .inl (cB, h0_to_held_n, .inl o_h0_to_held_f))] (va_A [(h0, .inr (5, [.ref h0_input, w_h0_words, w_h0_settings, .ref h0_to, .ref h0_blocks, .int h0_broken, .int h0_brokenAt, .int h0_at, .int h0_end, .int h0_begin, .int h0_copies, .int h0_literals, .int h0_parts, w_h0_frameBegin, w_h0_flags, w_h0_width, w_h0_size])), (h0_input, .inr (2, [.ref h0_input_held, .int h0_input_count])), (h0_input_held, .inl (cB, h0_input_held_n, .inl h0_input_held_f)), (h0_blocks, .inr (1, [.ref h0_blocks_facts, .int h0_blocks_count])), (h0_to, .inr (2, [.ref h0_to_held, .int h0_to_count])), (h0_blocks_facts, .inl (cI, h0_blocks_facts_n, .inl h0_blocks_facts_f)), (h0_to_held, .inl (cB, h0_to_held_n, .inl h0_to_held_f))] sz)) 0 0 (va_A [(h0, .inr (5, [.ref h0_input, w_h0_words, w_h0_settings, .ref h0_to, .ref h0_blocks, .int h0_broken, .int h0_brokenAt, .int h0_at, .int h0_end, .int h0_begin, .int h0_copies, .int h0_literals, .int h0_parts, w_h0_frameBegin, w_h0_flags, w_h0_width, w_h0_size])), (h0_input, .inr (2, [.ref h0_input_held, .int h0_input_count])), (h0_input_held, .inl (cB, h0_input_held_n, .inl h0_input_held_f)), (h0_blocks, .inr (1, [.ref h0_blocks_facts, .int h0_blocks_count])), (h0_to, .inr (2, [.ref h0_to_held, .int h0_to_count])), (h0_blocks_facts, .inl (cI, h0_blocks_facts_n, .inl h0_blocks_facts_f)), (h0_to_held, .inl (cB, h0_to_held_n, .inl h0_to_held_f))] sz) := by
  refine met_of (Qf := fun A => QcI o_r (dC, dI) [(h0, .inr (5, [.ref h0_input, w_h0_words, w_h0_settings, .ref h0_to, .ref h0_blocks, .int o_h0_broken, .int o_h0_brokenAt, .int o_h0_at, .int o_h0_end, .int o_h0_begin, .int o_h0_copies, .int o_h0_literals, .int o_h0_parts, w_h0_frameBegin, w_h0_flags, w_h0_width, w_h0_size])), (h0_input, .inr (2, [.ref h0_input_held, .int h0_input_count])), (h0_input_held, .inl (cB, h0_input_held_n, .inl h0_input_held_f)), (h0_blocks, .inr (1, [.ref h0_blocks_facts, .int o_h0_blocks_count])), (h0_to, .inr (2, [.ref h0_to_held, .int o_h0_to_count])), (h0_blocks_facts, .inl (cI, h0_blocks_facts_n, .inl o_h0_blocks_facts_f)), (h0_to_held, .inl (cB, h0_to_held_n, .inl o_h0_to_held_f))] A) (by decide) (Nat.le_of_ble_eq_true rfl) ?_
  intro p e s m below meth c A ls Q hx hb hr hml hown hts hlocks hnm hP hK hD hN hT hA hl hQ
  have hown : s.vm.findClass RX6 = some m.cls := hown
  have hS : va_S A s.heap s.heap [] := va_S.rf
  have hl : lv_has ls 5 [(0, .ref h0)] := hl
  obtain ⟨t0, hZ, hTt⟩ := id hT
  unfold m_Opener_openChunk at hf
  refine lv_aload_n hx hb dX6_openChunk_0 rfl (lv_at hl 0 rfl) ?_
  refine va_get (D := (dC, dI)) (ci := 5) (v := .int h0_at) (C := RX6) (T := TX6) (N := 17) hx hb hts inG_X6 hown hK hP 0 rfl rfl 7 (by decide) (hts _ kw_296) (fun _ h9 => h9) rfl dX6_openChunk_1 ?_
  refine lv_istore_n (lv' := [(1, .int h0_at), (0, .ref h0)]) hx hb dX6_openChunk_4 rfl hl (by decide) rfl (fun ls hl => ?_)
  refine lv_aload_n hx hb dX6_openChunk_5 rfl (lv_at hl 1 rfl) ?_
  refine va_get (D := (dC, dI)) (ci := 5) (v := .ref h0_input) (C := RX6) (T := TX6) (N := 17) hx hb hts inG_X6 hown hK hP 0 rfl rfl 0 (by decide) (hts _ kw_289) (fun _ h9 => h9) rfl dX6_openChunk_6 ?_
  refine lv_iload_n hx hb dX6_openChunk_9 rfl (lv_at hl 0 rfl) ?_
  obtain ⟨r1, hc, hf⟩ := bind_some hf
  refine nx_i (rn_V (As := [.int h0_at]) (rest := []) (n := 1) (ci := 2) (q0 := 0) ⟨hx, hb, hml, hown, hts⟩ (c_Bytes_at (l := l) (dC := dC) (dI := dI) (cB := cB) (cI := cI) (h0 := h0_input) (a1 := h0_at) (h0_held := h0_input_held) (h0_count := h0_input_count) (h0_held_n := h0_input_held_n) (h0_held_f := h0_input_held_f)  (o_r := r1) hc) (wV kw_862 kw_418 kw_419 kw_83 kw_420) (by decide +kernel) ⟨Nat.le_of_ble_eq_true rfl, Nat.le_of_ble_eq_true rfl⟩ hK hP hD hN hT hS (va_free (wc := [(h0_input, .inr (2, [.ref h0_input_held, .int h0_input_count])), (h0_input_held, .inl (cB, h0_input_held_n, .inl h0_input_held_f))]) hD hS hA [1, 2] rfl) [1, 2] rfl (by decide) rfl rfl rfl hl.1 rfl (lv_room (Nat.le_of_ble_eq_true rfl)) dX6_openChunk_10 ⟨Nat.le_of_ble_eq_true rfl, Nat.le_of_ble_eq_true rfl⟩) hP hD hS hA (wr := [(h0, .inr (5, [.ref h0_input, w_h0_words, w_h0_settings, .ref h0_to, .ref h0_blocks, .int h0_broken, .int h0_brokenAt, .int h0_at, .int h0_end, .int h0_begin, .int h0_copies, .int h0_literals, .int h0_parts, w_h0_frameBegin, w_h0_flags, w_h0_width, w_h0_size])), (h0_blocks, .inr (1, [.ref h0_blocks_facts, .int h0_blocks_count])), (h0_to, .inr (2, [.ref h0_to_held, .int h0_to_count])), (h0_blocks_facts, .inl (cI, h0_blocks_facts_n, .inl h0_blocks_facts_f)), (h0_to_held, .inl (cB, h0_to_held_n, .inl h0_to_held_f))]) (w1 := [(h0_input, .inr (2, [.ref h0_input_held, .int h0_input_count])), (h0_input_held, .inl (cB, h0_input_held_n, .inl h0_input_held_f))]) (ws' := [(h0, .inr (5, [.ref h0_input, w_h0_words, w_h0_settings, .ref h0_to, .ref h0_blocks, .int h0_broken, .int h0_brokenAt, .int h0_at, .int h0_end, .int h0_begin, .int h0_copies, .int h0_literals, .int h0_parts, w_h0_frameBegin, w_h0_flags, w_h0_width, w_h0_size])), (h0_input, .inr (2, [.ref h0_input_held, .int h0_input_count])), (h0_input_held, .inl (cB, h0_input_held_n, .inl h0_input_held_f)), (h0_blocks, .inr (1, [.ref h0_blocks_facts, .int h0_blocks_count])), (h0_to, .inr (2, [.ref h0_to_held, .int h0_to_count])), (h0_blocks_facts, .inl (cI, h0_blocks_facts_n, .inl h0_blocks_facts_f)), (h0_to_held, .inl (cB, h0_to_held_n, .inl h0_to_held_f))]) [1, 2] [0, 3, 4, 5, 6] [0, 5, 6, 1, 2, 3, 4] rfl rfl (by decide) (by decide) rfl (by decide) (fun H locs hP hD hS => ?_)
  refine lv_istore_n (lv' := [(2, .int r1), (1, .int h0_at), (0, .ref h0)]) hx hb dX6_openChunk_13 rfl hl (by decide) rfl (fun ls hl => ?_)
  refine lv_aload_n hx hb dX6_openChunk_14 rfl (lv_at hl 2 rfl) ?_
  refine lv_iconst (v := 4) hx hb dX6_openChunk_15 (by decide) ?_
  obtain ⟨r2, hc, hf⟩ := bind_some hf
  refine nx_i (rn_V (As := [.int (4 : Int32)]) (rest := []) (n := 1) (ci := 5) (q0 := 0) ⟨hx, hb, hml, hown, hts⟩ (c_Opener_lacks (l := l) (dC := dC) (dI := dI) (cB := cB) (cI := cI) (h0 := h0) (a1 := (4 : Int32)) (w_h0_input := (.ref h0_input)) (w_h0_words := (w_h0_words)) (w_h0_settings := (w_h0_settings)) (w_h0_to := (.ref h0_to)) (w_h0_blocks := (.ref h0_blocks)) (w_h0_broken := (.int h0_broken)) (w_h0_brokenAt := (.int h0_brokenAt)) (h0_at := h0_at) (h0_end := h0_end) (w_h0_begin := (.int h0_begin)) (w_h0_copies := (.int h0_copies)) (w_h0_literals := (.int h0_literals)) (w_h0_parts := (.int h0_parts)) (w_h0_frameBegin := (w_h0_frameBegin)) (w_h0_flags := (w_h0_flags)) (w_h0_width := (w_h0_width)) (w_h0_size := (w_h0_size))  (o_r := r2) hc) (wV kw_867 kw_869 kw_25 kw_92 kw_870) (by decide +kernel) ⟨Nat.le_of_ble_eq_true rfl, Nat.le_of_ble_eq_true rfl⟩ hK hP hD hN hT hS (va_free (wc := [(h0, .inr (5, [.ref h0_input, w_h0_words, w_h0_settings, .ref h0_to, .ref h0_blocks, .int h0_broken, .int h0_brokenAt, .int h0_at, .int h0_end, .int h0_begin, .int h0_copies, .int h0_literals, .int h0_parts, w_h0_frameBegin, w_h0_flags, w_h0_width, w_h0_size]))]) hD hS hA [0] rfl) [0] rfl (by decide) rfl rfl rfl hl.1 rfl (lv_room (Nat.le_of_ble_eq_true rfl)) dX6_openChunk_16 ⟨Nat.le_of_ble_eq_true rfl, Nat.le_of_ble_eq_true rfl⟩) hP hD hS hA (wr := [(h0_input, .inr (2, [.ref h0_input_held, .int h0_input_count])), (h0_input_held, .inl (cB, h0_input_held_n, .inl h0_input_held_f)), (h0_blocks, .inr (1, [.ref h0_blocks_facts, .int h0_blocks_count])), (h0_to, .inr (2, [.ref h0_to_held, .int h0_to_count])), (h0_blocks_facts, .inl (cI, h0_blocks_facts_n, .inl h0_blocks_facts_f)), (h0_to_held, .inl (cB, h0_to_held_n, .inl h0_to_held_f))]) (w1 := [(h0, .inr (5, [.ref h0_input, w_h0_words, w_h0_settings, .ref h0_to, .ref h0_blocks, .int h0_broken, .int h0_brokenAt, .int h0_at, .int h0_end, .int h0_begin, .int h0_copies, .int h0_literals, .int h0_parts, w_h0_frameBegin, w_h0_flags, w_h0_width, w_h0_size]))]) (ws' := [(h0, .inr (5, [.ref h0_input, w_h0_words, w_h0_settings, .ref h0_to, .ref h0_blocks, .int h0_broken, .int h0_brokenAt, .int h0_at, .int h0_end, .int h0_begin, .int h0_copies, .int h0_literals, .int h0_parts, w_h0_frameBegin, w_h0_flags, w_h0_width, w_h0_size])), (h0_input, .inr (2, [.ref h0_input_held, .int h0_input_count])), (h0_input_held, .inl (cB, h0_input_held_n, .inl h0_input_held_f)), (h0_blocks, .inr (1, [.ref h0_blocks_facts, .int h0_blocks_count])), (h0_to, .inr (2, [.ref h0_to_held, .int h0_to_count])), (h0_blocks_facts, .inl (cI, h0_blocks_facts_n, .inl h0_blocks_facts_f)), (h0_to_held, .inl (cB, h0_to_held_n, .inl h0_to_held_f))]) [0] [1, 2, 3, 4, 5, 6] [6, 0, 1, 2, 3, 4, 5] rfl rfl (by decide) (by decide) rfl (by decide) (fun H locs hP hD hS => ?_)
  refine lv_if_eq (tgt := 32) hx hb dX6_openChunk_19 (by decide) (fun c_19 => ?_) (fun c_19 => ?_)
  · replace hf := if_t c_19 hf
    refine lv_aload_n hx hb dX6_openChunk_32 rfl (lv_at hl 2 rfl) ?_
    refine va_get (D := (dC, dI)) (ci := 5) (v := .ref h0_input) (C := RX6) (T := TX6) (N := 17) hx hb hts inG_X6 hown hK hP 0 rfl rfl 0 (by decide) (hts _ kw_289) (fun _ h9 => h9) rfl dX6_openChunk_33 ?_
    refine lv_iload_n hx hb dX6_openChunk_36 rfl (lv_at hl 1 rfl) ?_
    refine lv_iconst (v := 1) hx hb dX6_openChunk_37 (by decide) ?_
    refine lv_iadd hx hb dX6_openChunk_38 ?_
    refine lv_iconst (v := 3) hx hb dX6_openChunk_39 (by decide) ?_
    obtain ⟨r3, hc, hf⟩ := bind_some hf
    refine nx_l (rn_V (As := [.int (h0_at + (1 : Int32)), .int (3 : Int32)]) (rest := []) (n := 2) (ci := 2) (q0 := 0) ⟨hx, hb, hml, hown, hts⟩ (c_Bytes_number (l := l) (dC := dC) (dI := dI) (cB := cB) (cI := cI) (h0 := h0_input) (a1 := (h0_at + (1 : Int32))) (a2 := (3 : Int32)) (h0_held := h0_input_held) (h0_count := h0_input_count) (h0_held_n := h0_input_held_n) (h0_held_f := h0_input_held_f)  (o_r := r3) hc) (wV kw_889 kw_890 kw_891 kw_83 kw_892) (by decide +kernel) ⟨Nat.le_of_ble_eq_true rfl, Nat.le_of_ble_eq_true rfl⟩ hK hP hD hN hT hS (va_free (wc := [(h0_input, .inr (2, [.ref h0_input_held, .int h0_input_count])), (h0_input_held, .inl (cB, h0_input_held_n, .inl h0_input_held_f))]) hD hS hA [1, 2] rfl) [1, 2] rfl (by decide) rfl rfl rfl hl.1 rfl (lv_room (Nat.le_of_ble_eq_true rfl)) dX6_openChunk_40 ⟨Nat.le_of_ble_eq_true rfl, Nat.le_of_ble_eq_true rfl⟩) hP hD hS hA (wr := [(h0, .inr (5, [.ref h0_input, w_h0_words, w_h0_settings, .ref h0_to, .ref h0_blocks, .int h0_broken, .int h0_brokenAt, .int h0_at, .int h0_end, .int h0_begin, .int h0_copies, .int h0_literals, .int h0_parts, w_h0_frameBegin, w_h0_flags, w_h0_width, w_h0_size])), (h0_blocks, .inr (1, [.ref h0_blocks_facts, .int h0_blocks_count])), (h0_to, .inr (2, [.ref h0_to_held, .int h0_to_count])), (h0_blocks_facts, .inl (cI, h0_blocks_facts_n, .inl h0_blocks_facts_f)), (h0_to_held, .inl (cB, h0_to_held_n, .inl h0_to_held_f))]) (w1 := [(h0_input, .inr (2, [.ref h0_input_held, .int h0_input_count])), (h0_input_held, .inl (cB, h0_input_held_n, .inl h0_input_held_f))]) (ws' := [(h0, .inr (5, [.ref h0_input, w_h0_words, w_h0_settings, .ref h0_to, .ref h0_blocks, .int h0_broken, .int h0_brokenAt, .int h0_at, .int h0_end, .int h0_begin, .int h0_copies, .int h0_literals, .int h0_parts, w_h0_frameBegin, w_h0_flags, w_h0_width, w_h0_size])), (h0_input, .inr (2, [.ref h0_input_held, .int h0_input_count])), (h0_input_held, .inl (cB, h0_input_held_n, .inl h0_input_held_f)), (h0_blocks, .inr (1, [.ref h0_blocks_facts, .int h0_blocks_count])), (h0_to, .inr (2, [.ref h0_to_held, .int h0_to_count])), (h0_blocks_facts, .inl (cI, h0_blocks_facts_n, .inl h0_blocks_facts_f)), (h0_to_held, .inl (cB, h0_to_held_n, .inl h0_to_held_f))]) [1, 2] [0, 3, 4, 5, 6] [0, 5, 6, 1, 2, 3, 4] rfl rfl (by decide) (by decide) rfl (by decide) (fun H locs hP hD hS => ?_)
    refine lv_l2i (v := (r3.toInt32)) hx hb dX6_openChunk_43 rfl ?_
    refine lv_topi (fun v3_4 e_v3_4 => ?_)
    replace hf := bnd_at e_v3_4 hf
    refine lv_istore_n (lv' := [(3, .int v3_4), (2, .int r1), (1, .int h0_at), (0, .ref h0)]) hx hb dX6_openChunk_44 rfl hl (by decide) rfl (fun ls hl => ?_)
    refine lv_iload_n hx hb dX6_openChunk_45 rfl (lv_at hl 1 rfl) ?_
    have hJ_59 : ∀ (s5 : Int32) (H : Heap) (locs : List Loc) (ls : Array Slot), m_Opener_openChunk_J59 h0_broken h0_brokenAt h0_at h0_end h0_begin h0_copies h0_literals h0_parts h0_input_count h0_input_held_n h0_input_held_f h0_blocks_count h0_to_count h0_blocks_facts_n h0_blocks_facts_f h0_to_held_n h0_to_held_f r1 v3_4 s5 = some (o_r, o_h0_broken, o_h0_brokenAt, o_h0_at, o_h0_end, o_h0_begin, o_h0_copies, o_h0_literals, o_h0_parts, o_h0_blocks_count, o_h0_to_count, o_h0_blocks_facts_f, o_h0_to_held_f) → va_P (dC, dI) vwCl [(h0, .inr (5, [.ref h0_input, w_h0_words, w_h0_settings, .ref h0_to, .ref h0_blocks, .int h0_broken, .int h0_brokenAt, .int h0_at, .int h0_end, .int h0_begin, .int h0_copies, .int h0_literals, .int h0_parts, w_h0_frameBegin, w_h0_flags, w_h0_width, w_h0_size])), (h0_input, .inr (2, [.ref h0_input_held, .int h0_input_count])), (h0_input_held, .inl (cB, h0_input_held_n, .inl h0_input_held_f)), (h0_blocks, .inr (1, [.ref h0_blocks_facts, .int h0_blocks_count])), (h0_to, .inr (2, [.ref h0_to_held, .int h0_to_count])), (h0_blocks_facts, .inl (cI, h0_blocks_facts_n, .inl h0_blocks_facts_f)), (h0_to_held, .inl (cB, h0_to_held_n, .inl h0_to_held_f))] H → va_D A [(h0, .inr (5, [.ref h0_input, w_h0_words, w_h0_settings, .ref h0_to, .ref h0_blocks, .int h0_broken, .int h0_brokenAt, .int h0_at, .int h0_end, .int h0_begin, .int h0_copies, .int h0_literals, .int h0_parts, w_h0_frameBegin, w_h0_flags, w_h0_width, w_h0_size])), (h0_input, .inr (2, [.ref h0_input_held, .int h0_input_count])), (h0_input_held, .inl (cB, h0_input_held_n, .inl h0_input_held_f)), (h0_blocks, .inr (1, [.ref h0_blocks_facts, .int h0_blocks_count])), (h0_to, .inr (2, [.ref h0_to_held, .int h0_to_count])), (h0_blocks_facts, .inl (cI, h0_blocks_facts_n, .inl h0_blocks_facts_f)), (h0_to_held, .inl (cB, h0_to_held_n, .inl h0_to_held_f))] → va_S A s.heap H locs → lv_has ls 5 [(0, .ref h0), (1, .int h0_at), (2, .int r1), (3, .int v3_4)] → W p l e (rm_Opener_openChunk) s m ([.ref h0] : List Value).toArray below meth c H locs 0 0 Q (F0 m 59 ls [.int s5]) := by
      intro s5 H locs ls hf hP hD hS hl
      unfold m_Opener_openChunk_J59 at hf
      refine lv_istore (lv' := [(4, .int s5), (0, .ref h0), (1, .int h0_at), (2, .int r1), (3, .int v3_4)]) hx hb dX6_openChunk_59 hl (by decide) rfl (fun ls hl => ?_)
      refine lv_iload hx hb dX6_openChunk_61 (lv_at hl 0 rfl) ?_
      have hJ_89 : ∀ (H : Heap) (locs : List Loc) (ls : Array Slot), m_Opener_openChunk_J89 h0_broken h0_brokenAt h0_at h0_end h0_begin h0_copies h0_literals h0_parts h0_input_count h0_input_held_n h0_input_held_f h0_blocks_count h0_to_count h0_blocks_facts_n h0_blocks_facts_f h0_to_held_n h0_to_held_f r1 v3_4 s5 = some (o_r, o_h0_broken, o_h0_brokenAt, o_h0_at, o_h0_end, o_h0_begin, o_h0_copies, o_h0_literals, o_h0_parts, o_h0_blocks_count, o_h0_to_count, o_h0_blocks_facts_f, o_h0_to_held_f) → va_P (dC, dI) vwCl [(h0, .inr (5, [.ref h0_input, w_h0_words, w_h0_settings, .ref h0_to, .ref h0_blocks, .int h0_broken, .int h0_brokenAt, .int h0_at, .int h0_end, .int h0_begin, .int h0_copies, .int h0_literals, .int h0_parts, w_h0_frameBegin, w_h0_flags, w_h0_width, w_h0_size])), (h0_input, .inr (2, [.ref h0_input_held, .int h0_input_count])), (h0_input_held, .inl (cB, h0_input_held_n, .inl h0_input_held_f)), (h0_blocks, .inr (1, [.ref h0_blocks_facts, .int h0_blocks_count])), (h0_to, .inr (2, [.ref h0_to_held, .int h0_to_count])), (h0_blocks_facts, .inl (cI, h0_blocks_facts_n, .inl h0_blocks_facts_f)), (h0_to_held, .inl (cB, h0_to_held_n, .inl h0_to_held_f))] H → va_D A [(h0, .inr (5, [.ref h0_input, w_h0_words, w_h0_settings, .ref h0_to, .ref h0_blocks, .int h0_broken, .int h0_brokenAt, .int h0_at, .int h0_end, .int h0_begin, .int h0_copies, .int h0_literals, .int h0_parts, w_h0_frameBegin, w_h0_flags, w_h0_width, w_h0_size])), (h0_input, .inr (2, [.ref h0_input_held, .int h0_input_count])), (h0_input_held, .inl (cB, h0_input_held_n, .inl h0_input_held_f)), (h0_blocks, .inr (1, [.ref h0_blocks_facts, .int h0_blocks_count])), (h0_to, .inr (2, [.ref h0_to_held, .int h0_to_count])), (h0_blocks_facts, .inl (cI, h0_blocks_facts_n, .inl h0_blocks_facts_f)), (h0_to_held, .inl (cB, h0_to_held_n, .inl h0_to_held_f))] → va_S A s.heap H locs → lv_has ls 5 [(0, .ref h0), (1, .int h0_at), (2, .int r1), (3, .int v3_4), (4, .int s5)] → W p l e (rm_Opener_openChunk) s m ([.ref h0] : List Value).toArray below meth c H locs 0 0 Q (F0 m 89 ls []) := by
        intro  H locs ls hf hP hD hS hl
        unfold m_Opener_openChunk_J89 at hf
        refine lv_iload_n hx hb dX6_openChunk_89 rfl (lv_at hl 2 rfl) ?_
        refine lv_sipush (v := 255) hx hb dX6_openChunk_90 (by decide) ?_
        have hJ_111 : ∀ (H : Heap) (locs : List Loc) (ls : Array Slot), m_Opener_openChunk_J111 h0_broken h0_brokenAt h0_at h0_end h0_begin h0_copies h0_literals h0_parts h0_input_count h0_input_held_n h0_input_held_f h0_blocks_count h0_to_count h0_blocks_facts_n h0_blocks_facts_f h0_to_held_n h0_to_held_f r1 v3_4 s5 = some (o_r, o_h0_broken, o_h0_brokenAt, o_h0_at, o_h0_end, o_h0_begin, o_h0_copies, o_h0_literals, o_h0_parts, o_h0_blocks_count, o_h0_to_count, o_h0_blocks_facts_f, o_h0_to_held_f) → va_P (dC, dI) vwCl [(h0, .inr (5, [.ref h0_input, w_h0_words, w_h0_settings, .ref h0_to, .ref h0_blocks, .int h0_broken, .int h0_brokenAt, .int h0_at, .int h0_end, .int h0_begin, .int h0_copies, .int h0_literals, .int h0_parts, w_h0_frameBegin, w_h0_flags, w_h0_width, w_h0_size])), (h0_input, .inr (2, [.ref h0_input_held, .int h0_input_count])), (h0_input_held, .inl (cB, h0_input_held_n, .inl h0_input_held_f)), (h0_blocks, .inr (1, [.ref h0_blocks_facts, .int h0_blocks_count])), (h0_to, .inr (2, [.ref h0_to_held, .int h0_to_count])), (h0_blocks_facts, .inl (cI, h0_blocks_facts_n, .inl h0_blocks_facts_f)), (h0_to_held, .inl (cB, h0_to_held_n, .inl h0_to_held_f))] H → va_D A [(h0, .inr (5, [.ref h0_input, w_h0_words, w_h0_settings, .ref h0_to, .ref h0_blocks, .int h0_broken, .int h0_brokenAt, .int h0_at, .int h0_end, .int h0_begin, .int h0_copies, .int h0_literals, .int h0_parts, w_h0_frameBegin, w_h0_flags, w_h0_width, w_h0_size])), (h0_input, .inr (2, [.ref h0_input_held, .int h0_input_count])), (h0_input_held, .inl (cB, h0_input_held_n, .inl h0_input_held_f)), (h0_blocks, .inr (1, [.ref h0_blocks_facts, .int h0_blocks_count])), (h0_to, .inr (2, [.ref h0_to_held, .int h0_to_count])), (h0_blocks_facts, .inl (cI, h0_blocks_facts_n, .inl h0_blocks_facts_f)), (h0_to_held, .inl (cB, h0_to_held_n, .inl h0_to_held_f))] → va_S A s.heap H locs → lv_has ls 5 [(0, .ref h0), (1, .int h0_at), (2, .int r1), (3, .int v3_4), (4, .int s5)] → W p l e (rm_Opener_openChunk) s m ([.ref h0] : List Value).toArray below meth c H locs 0 0 Q (F0 m 111 ls []) := by
          intro  H locs ls hf hP hD hS hl
          unfold m_Opener_openChunk_J111 at hf
          refine lv_aload_n hx hb dX6_openChunk_111 rfl (lv_at hl 0 rfl) ?_
          refine lv_dup hx hb dX6_openChunk_112 rfl ?_
          refine va_get (D := (dC, dI)) (ci := 5) (v := .int h0_at) (C := RX6) (T := TX6) (N := 17) hx hb hts inG_X6 hown hK hP 0 rfl rfl 7 (by decide) (hts _ kw_296) (fun _ h9 => h9) rfl dX6_openChunk_113 ?_
          refine lv_iconst (v := 4) hx hb dX6_openChunk_116 (by decide) ?_
          refine lv_iadd hx hb dX6_openChunk_117 ?_
          refine lv_topi (fun p_6 e_p_6 => ?_)
          replace hf := bnd_at e_p_6 hf
          refine va_put (D := (dC, dI)) (ci := 5) (v := .int p_6) (ty := .int) (C := RX6) (T := TX6) (N := 17) hx hb hts inG_X6 tyX6 tyX6_ok nmX6 hown hK hP hD hS 0 rfl rfl 7 (by decide) (hts _ kw_296) (fun _ h9 => h9) rfl (by decide +kernel) rfl rfl (Nat.le_of_ble_eq_true rfl) dX6_openChunk_118 (fun H locs hP hD hS => ?_)
          have hP : va_P (dC, dI) vwCl [(h0, .inr (5, [.ref h0_input, w_h0_words, w_h0_settings, .ref h0_to, .ref h0_blocks, .int h0_broken, .int h0_brokenAt, .int p_6, .int h0_end, .int h0_begin, .int h0_copies, .int h0_literals, .int h0_parts, w_h0_frameBegin, w_h0_flags, w_h0_width, w_h0_size])), (h0_input, .inr (2, [.ref h0_input_held, .int h0_input_count])), (h0_input_held, .inl (cB, h0_input_held_n, .inl h0_input_held_f)), (h0_blocks, .inr (1, [.ref h0_blocks_facts, .int h0_blocks_count])), (h0_to, .inr (2, [.ref h0_to_held, .int h0_to_count])), (h0_blocks_facts, .inl (cI, h0_blocks_facts_n, .inl h0_blocks_facts_f)), (h0_to_held, .inl (cB, h0_to_held_n, .inl h0_to_held_f))] H := hP
          have hD : va_D A [(h0, .inr (5, [.ref h0_input, w_h0_words, w_h0_settings, .ref h0_to, .ref h0_blocks, .int h0_broken, .int h0_brokenAt, .int p_6, .int h0_end, .int h0_begin, .int h0_copies, .int h0_literals, .int h0_parts, w_h0_frameBegin, w_h0_flags, w_h0_width, w_h0_size])), (h0_input, .inr (2, [.ref h0_input_held, .int h0_input_count])), (h0_input_held, .inl (cB, h0_input_held_n, .inl h0_input_held_f)), (h0_blocks, .inr (1, [.ref h0_blocks_facts, .int h0_blocks_count])), (h0_to, .inr (2, [.ref h0_to_held, .int h0_to_count])), (h0_blocks_facts, .inl (cI, h0_blocks_facts_n, .inl h0_blocks_facts_f)), (h0_to_held, .inl (cB, h0_to_held_n, .inl h0_to_held_f))] := hD
          refine lv_aload_n hx hb dX6_openChunk_121 rfl (lv_at hl 0 rfl) ?_
          refine lv_iload_n hx hb dX6_openChunk_122 rfl (lv_at hl 3 rfl) ?_
          obtain ⟨r7, hc, hf⟩ := bind_some hf
          refine nx_i (rn_V (As := [.int v3_4]) (rest := []) (n := 1) (ci := 5) (q0 := 0) ⟨hx, hb, hml, hown, hts⟩ (c_Opener_lacks (l := l) (dC := dC) (dI := dI) (cB := cB) (cI := cI) (h0 := h0) (a1 := v3_4) (w_h0_input := (.ref h0_input)) (w_h0_words := (w_h0_words)) (w_h0_settings := (w_h0_settings)) (w_h0_to := (.ref h0_to)) (w_h0_blocks := (.ref h0_blocks)) (w_h0_broken := (.int h0_broken)) (w_h0_brokenAt := (.int h0_brokenAt)) (h0_at := p_6) (h0_end := h0_end) (w_h0_begin := (.int h0_begin)) (w_h0_copies := (.int h0_copies)) (w_h0_literals := (.int h0_literals)) (w_h0_parts := (.int h0_parts)) (w_h0_frameBegin := (w_h0_frameBegin)) (w_h0_flags := (w_h0_flags)) (w_h0_width := (w_h0_width)) (w_h0_size := (w_h0_size))  (o_r := r7) hc) (wV kw_867 kw_869 kw_25 kw_92 kw_870) (by decide +kernel) ⟨Nat.le_of_ble_eq_true rfl, Nat.le_of_ble_eq_true rfl⟩ hK hP hD hN hT hS (va_free (wc := [(h0, .inr (5, [.ref h0_input, w_h0_words, w_h0_settings, .ref h0_to, .ref h0_blocks, .int h0_broken, .int h0_brokenAt, .int p_6, .int h0_end, .int h0_begin, .int h0_copies, .int h0_literals, .int h0_parts, w_h0_frameBegin, w_h0_flags, w_h0_width, w_h0_size]))]) hD hS hA [0] rfl) [0] rfl (by decide) rfl rfl rfl hl.1 rfl (lv_room (Nat.le_of_ble_eq_true rfl)) dX6_openChunk_123 ⟨Nat.le_of_ble_eq_true rfl, Nat.le_of_ble_eq_true rfl⟩) hP hD hS hA (wr := [(h0_input, .inr (2, [.ref h0_input_held, .int h0_input_count])), (h0_input_held, .inl (cB, h0_input_held_n, .inl h0_input_held_f)), (h0_blocks, .inr (1, [.ref h0_blocks_facts, .int h0_blocks_count])), (h0_to, .inr (2, [.ref h0_to_held, .int h0_to_count])), (h0_blocks_facts, .inl (cI, h0_blocks_facts_n, .inl h0_blocks_facts_f)), (h0_to_held, .inl (cB, h0_to_held_n, .inl h0_to_held_f))]) (w1 := [(h0, .inr (5, [.ref h0_input, w_h0_words, w_h0_settings, .ref h0_to, .ref h0_blocks, .int h0_broken, .int h0_brokenAt, .int p_6, .int h0_end, .int h0_begin, .int h0_copies, .int h0_literals, .int h0_parts, w_h0_frameBegin, w_h0_flags, w_h0_width, w_h0_size]))]) (ws' := [(h0, .inr (5, [.ref h0_input, w_h0_words, w_h0_settings, .ref h0_to, .ref h0_blocks, .int h0_broken, .int h0_brokenAt, .int p_6, .int h0_end, .int h0_begin, .int h0_copies, .int h0_literals, .int h0_parts, w_h0_frameBegin, w_h0_flags, w_h0_width, w_h0_size])), (h0_input, .inr (2, [.ref h0_input_held, .int h0_input_count])), (h0_input_held, .inl (cB, h0_input_held_n, .inl h0_input_held_f)), (h0_blocks, .inr (1, [.ref h0_blocks_facts, .int h0_blocks_count])), (h0_to, .inr (2, [.ref h0_to_held, .int h0_to_count])), (h0_blocks_facts, .inl (cI, h0_blocks_facts_n, .inl h0_blocks_facts_f)), (h0_to_held, .inl (cB, h0_to_held_n, .inl h0_to_held_f))]) [0] [1, 2, 3, 4, 5, 6] [6, 0, 1, 2, 3, 4, 5] rfl rfl (by decide) (by decide) rfl (by decide) (fun H locs hP hD hS => ?_)
          refine lv_if_eq (tgt := 139) hx hb dX6_openChunk_126 (by decide) (fun c_126 => ?_) (fun c_126 => ?_)
          · replace hf := if_t c_126 hf
            refine lv_iload_n hx hb dX6_openChunk_139 rfl (lv_at hl 2 rfl) ?_
            refine lv_sipush (v := 255) hx hb dX6_openChunk_140 (by decide) ?_
            have hJ_160 : ∀ (H : Heap) (locs : List Loc) (ls : Array Slot), m_Opener_openChunk_J160 h0_broken h0_brokenAt h0_at h0_end h0_begin h0_copies h0_literals h0_parts h0_input_count h0_input_held_n h0_input_held_f h0_blocks_count h0_to_count h0_blocks_facts_n h0_blocks_facts_f h0_to_held_n h0_to_held_f r1 v3_4 s5 p_6 = some (o_r, o_h0_broken, o_h0_brokenAt, o_h0_at, o_h0_end, o_h0_begin, o_h0_copies, o_h0_literals, o_h0_parts, o_h0_blocks_count, o_h0_to_count, o_h0_blocks_facts_f, o_h0_to_held_f) → va_P (dC, dI) vwCl [(h0, .inr (5, [.ref h0_input, w_h0_words, w_h0_settings, .ref h0_to, .ref h0_blocks, .int h0_broken, .int h0_brokenAt, .int p_6, .int h0_end, .int h0_begin, .int h0_copies, .int h0_literals, .int h0_parts, w_h0_frameBegin, w_h0_flags, w_h0_width, w_h0_size])), (h0_input, .inr (2, [.ref h0_input_held, .int h0_input_count])), (h0_input_held, .inl (cB, h0_input_held_n, .inl h0_input_held_f)), (h0_blocks, .inr (1, [.ref h0_blocks_facts, .int h0_blocks_count])), (h0_to, .inr (2, [.ref h0_to_held, .int h0_to_count])), (h0_blocks_facts, .inl (cI, h0_blocks_facts_n, .inl h0_blocks_facts_f)), (h0_to_held, .inl (cB, h0_to_held_n, .inl h0_to_held_f))] H → va_D A [(h0, .inr (5, [.ref h0_input, w_h0_words, w_h0_settings, .ref h0_to, .ref h0_blocks, .int h0_broken, .int h0_brokenAt, .int p_6, .int h0_end, .int h0_begin, .int h0_copies, .int h0_literals, .int h0_parts, w_h0_frameBegin, w_h0_flags, w_h0_width, w_h0_size])), (h0_input, .inr (2, [.ref h0_input_held, .int h0_input_count])), (h0_input_held, .inl (cB, h0_input_held_n, .inl h0_input_held_f)), (h0_blocks, .inr (1, [.ref h0_blocks_facts, .int h0_blocks_count])), (h0_to, .inr (2, [.ref h0_to_held, .int h0_to_count])), (h0_blocks_facts, .inl (cI, h0_blocks_facts_n, .inl h0_blocks_facts_f)), (h0_to_held, .inl (cB, h0_to_held_n, .inl h0_to_held_f))] → va_S A s.heap H locs → lv_has ls 5 [(0, .ref h0), (1, .int h0_at), (2, .int r1), (3, .int v3_4), (4, .int s5)] → W p l e (rm_Opener_openChunk) s m ([.ref h0] : List Value).toArray below meth c H locs 0 0 Q (F0 m 160 ls []) := by
              intro  H locs ls hf hP hD hS hl
              unfold m_Opener_openChunk_J160 at hf
              refine lv_iload hx hb dX6_openChunk_160 (lv_at hl 4 rfl) ?_
              refine lv_if_eq (tgt := 184) hx hb dX6_openChunk_162 (by decide) (fun c_162 => ?_) (fun c_162 => ?_)
              · replace hf := if_t c_162 hf
                refine lv_aload_n hx hb dX6_openChunk_184 rfl (lv_at hl 0 rfl) ?_
                refine lv_dup hx hb dX6_openChunk_185 rfl ?_
                refine va_get (D := (dC, dI)) (ci := 5) (v := .int p_6) (C := RX6) (T := TX6) (N := 17) hx hb hts inG_X6 hown hK hP 0 rfl rfl 7 (by decide) (hts _ kw_296) (fun _ h9 => h9) rfl dX6_openChunk_186 ?_
                refine lv_iload_n hx hb dX6_openChunk_189 rfl (lv_at hl 3 rfl) ?_
                refine lv_iadd hx hb dX6_openChunk_190 ?_
                refine lv_topi (fun p_8 e_p_8 => ?_)
                replace hf := bnd_at e_p_8 hf
                refine va_put (D := (dC, dI)) (ci := 5) (v := .int p_8) (ty := .int) (C := RX6) (T := TX6) (N := 17) hx hb hts inG_X6 tyX6 tyX6_ok nmX6 hown hK hP hD hS 0 rfl rfl 7 (by decide) (hts _ kw_296) (fun _ h9 => h9) rfl (by decide +kernel) rfl rfl (Nat.le_of_ble_eq_true rfl) dX6_openChunk_191 (fun H locs hP hD hS => ?_)
                have hP : va_P (dC, dI) vwCl [(h0, .inr (5, [.ref h0_input, w_h0_words, w_h0_settings, .ref h0_to, .ref h0_blocks, .int h0_broken, .int h0_brokenAt, .int p_8, .int h0_end, .int h0_begin, .int h0_copies, .int h0_literals, .int h0_parts, w_h0_frameBegin, w_h0_flags, w_h0_width, w_h0_size])), (h0_input, .inr (2, [.ref h0_input_held, .int h0_input_count])), (h0_input_held, .inl (cB, h0_input_held_n, .inl h0_input_held_f)), (h0_blocks, .inr (1, [.ref h0_blocks_facts, .int h0_blocks_count])), (h0_to, .inr (2, [.ref h0_to_held, .int h0_to_count])), (h0_blocks_facts, .inl (cI, h0_blocks_facts_n, .inl h0_blocks_facts_f)), (h0_to_held, .inl (cB, h0_to_held_n, .inl h0_to_held_f))] H := hP
                have hD : va_D A [(h0, .inr (5, [.ref h0_input, w_h0_words, w_h0_settings, .ref h0_to, .ref h0_blocks, .int h0_broken, .int h0_brokenAt, .int p_8, .int h0_end, .int h0_begin, .int h0_copies, .int h0_literals, .int h0_parts, w_h0_frameBegin, w_h0_flags, w_h0_width, w_h0_size])), (h0_input, .inr (2, [.ref h0_input_held, .int h0_input_count])), (h0_input_held, .inl (cB, h0_input_held_n, .inl h0_input_held_f)), (h0_blocks, .inr (1, [.ref h0_blocks_facts, .int h0_blocks_count])), (h0_to, .inr (2, [.ref h0_to_held, .int h0_to_count])), (h0_blocks_facts, .inl (cI, h0_blocks_facts_n, .inl h0_blocks_facts_f)), (h0_to_held, .inl (cB, h0_to_held_n, .inl h0_to_held_f))] := hD
                refine lv_iconst (v := 1) hx hb dX6_openChunk_194 (by decide) ?_
                have hzb : narrow .boolean (.int (1 : Int32)) = .int (1 : Int32) := rfl
                obtain ⟨rfl, hq_1⟩ := Prod.mk.inj (Option.some.inj hf)
                obtain ⟨rfl, hq_2⟩ := Prod.mk.inj hq_1
                obtain ⟨rfl, hq_3⟩ := Prod.mk.inj hq_2
                obtain ⟨rfl, hq_4⟩ := Prod.mk.inj hq_3
                obtain ⟨rfl, hq_5⟩ := Prod.mk.inj hq_4
                obtain ⟨rfl, hq_6⟩ := Prod.mk.inj hq_5
                obtain ⟨rfl, hq_7⟩ := Prod.mk.inj hq_6
                obtain ⟨rfl, hq_8⟩ := Prod.mk.inj hq_7
                obtain ⟨rfl, hq_9⟩ := Prod.mk.inj hq_8
                obtain ⟨rfl, hq_10⟩ := Prod.mk.inj hq_9
                obtain ⟨rfl, hq_11⟩ := Prod.mk.inj hq_10
                obtain ⟨rfl, hq_12⟩ := Prod.mk.inj hq_11
                obtain rfl := hq_12
                exact rt_z hQ hx hb hr hzb hlocks hP hD hS dX6_openChunk_195
              · replace hf := if_f c_162 hf
                refine lv_aload_n hx hb dX6_openChunk_165 rfl (lv_at hl 0 rfl) ?_
                refine lv_iload_n hx hb dX6_openChunk_166 rfl (lv_at hl 1 rfl) ?_
                refine lv_iload_n hx hb dX6_openChunk_167 rfl (lv_at hl 2 rfl) ?_
                refine lv_iconst (v := 1) hx hb dX6_openChunk_168 (by decide) ?_
                have hJ_177 : ∀ (s9 : Int32) (H : Heap) (locs : List Loc) (ls : Array Slot), m_Opener_openChunk_J177 h0_broken h0_brokenAt h0_at h0_end h0_begin h0_copies h0_literals h0_parts h0_input_count h0_input_held_n h0_input_held_f h0_blocks_count h0_to_count h0_blocks_facts_n h0_blocks_facts_f h0_to_held_n h0_to_held_f v3_4 p_6 s9 = some (o_r, o_h0_broken, o_h0_brokenAt, o_h0_at, o_h0_end, o_h0_begin, o_h0_copies, o_h0_literals, o_h0_parts, o_h0_blocks_count, o_h0_to_count, o_h0_blocks_facts_f, o_h0_to_held_f) → va_P (dC, dI) vwCl [(h0, .inr (5, [.ref h0_input, w_h0_words, w_h0_settings, .ref h0_to, .ref h0_blocks, .int h0_broken, .int h0_brokenAt, .int p_6, .int h0_end, .int h0_begin, .int h0_copies, .int h0_literals, .int h0_parts, w_h0_frameBegin, w_h0_flags, w_h0_width, w_h0_size])), (h0_input, .inr (2, [.ref h0_input_held, .int h0_input_count])), (h0_input_held, .inl (cB, h0_input_held_n, .inl h0_input_held_f)), (h0_blocks, .inr (1, [.ref h0_blocks_facts, .int h0_blocks_count])), (h0_to, .inr (2, [.ref h0_to_held, .int h0_to_count])), (h0_blocks_facts, .inl (cI, h0_blocks_facts_n, .inl h0_blocks_facts_f)), (h0_to_held, .inl (cB, h0_to_held_n, .inl h0_to_held_f))] H → va_D A [(h0, .inr (5, [.ref h0_input, w_h0_words, w_h0_settings, .ref h0_to, .ref h0_blocks, .int h0_broken, .int h0_brokenAt, .int p_6, .int h0_end, .int h0_begin, .int h0_copies, .int h0_literals, .int h0_parts, w_h0_frameBegin, w_h0_flags, w_h0_width, w_h0_size])), (h0_input, .inr (2, [.ref h0_input_held, .int h0_input_count])), (h0_input_held, .inl (cB, h0_input_held_n, .inl h0_input_held_f)), (h0_blocks, .inr (1, [.ref h0_blocks_facts, .int h0_blocks_count])), (h0_to, .inr (2, [.ref h0_to_held, .int h0_to_count])), (h0_blocks_facts, .inl (cI, h0_blocks_facts_n, .inl h0_blocks_facts_f)), (h0_to_held, .inl (cB, h0_to_held_n, .inl h0_to_held_f))] → va_S A s.heap H locs → lv_has ls 5 [(3, .int v3_4)] → W p l e (rm_Opener_openChunk) s m ([.ref h0] : List Value).toArray below meth c H locs 0 0 Q (F0 m 177 ls [.int s9, .int h0_at, .ref h0]) := by
                  intro s9 H locs ls hf hP hD hS hl
                  unfold m_Opener_openChunk_J177 at hf
                  refine lv_iload_n hx hb dX6_openChunk_177 rfl (lv_at hl 0 rfl) ?_
                  refine lv_iconst (v := 4) hx hb dX6_openChunk_178 (by decide) ?_
                  refine lv_isub hx hb dX6_openChunk_179 ?_
                  obtain ⟨x, hc, hf⟩ := bind_some hf
                  obtain ⟨r10, u11, u12, u13, u14, u15, u16, u17, u18, u19, u20, u21, u22⟩ := x
                  dsimp only at hf
                  refine nx_i (rn_V (As := [.int h0_at, .int s9, .int (v3_4 - (4 : Int32))]) (rest := []) (n := 3) (ci := 5) (q0 := 0) ⟨hx, hb, hml, hown, hts⟩ (c_Opener_openChunkBytes (l := l) (dC := dC) (dI := dI) (cB := cB) (cI := cI) (h0 := h0) (a1 := h0_at) (a2 := s9) (a3 := (v3_4 - (4 : Int32))) (h0_to := h0_to) (h0_blocks := h0_blocks) (h0_input := h0_input) (h0_blocks_facts := h0_blocks_facts) (h0_to_held := h0_to_held) (h0_input_held := h0_input_held) (w_h0_words := (w_h0_words)) (w_h0_settings := (w_h0_settings)) (h0_broken := h0_broken) (h0_brokenAt := h0_brokenAt) (h0_at := p_6) (h0_end := h0_end) (h0_begin := h0_begin) (h0_copies := h0_copies) (h0_literals := h0_literals) (h0_parts := h0_parts) (w_h0_frameBegin := (w_h0_frameBegin)) (w_h0_flags := (w_h0_flags)) (w_h0_width := (w_h0_width)) (w_h0_size := (w_h0_size)) (h0_to_count := h0_to_count) (h0_blocks_count := h0_blocks_count) (h0_input_count := h0_input_count) (h0_blocks_facts_n := h0_blocks_facts_n) (h0_blocks_facts_f := h0_blocks_facts_f) (h0_to_held_n := h0_to_held_n) (h0_to_held_f := h0_to_held_f) (h0_input_held_n := h0_input_held_n) (h0_input_held_f := h0_input_held_f) (o_h0_broken := u11) (o_h0_brokenAt := u12) (o_h0_at := u13) (o_h0_end := u14) (o_h0_begin := u15) (o_h0_copies := u16) (o_h0_literals := u17) (o_h0_parts := u18) (o_h0_to_count := u19) (o_h0_blocks_count := u20) (o_h0_blocks_facts_f := u21) (o_h0_to_held_f := u22) (o_r := r10) hc) (wV kw_986 kw_988 kw_46 kw_92 kw_989) (by decide +kernel) ⟨Nat.le_of_ble_eq_true rfl, Nat.le_of_ble_eq_true rfl⟩ hK hP hD hN hT hS (va_free (wc := [(h0, .inr (5, [.ref h0_input, w_h0_words, w_h0_settings, .ref h0_to, .ref h0_blocks, .int h0_broken, .int h0_brokenAt, .int p_6, .int h0_end, .int h0_begin, .int h0_copies, .int h0_literals, .int h0_parts, w_h0_frameBegin, w_h0_flags, w_h0_width, w_h0_size])), (h0_to, .inr (2, [.ref h0_to_held, .int h0_to_count])), (h0_blocks, .inr (1, [.ref h0_blocks_facts, .int h0_blocks_count])), (h0_input, .inr (2, [.ref h0_input_held, .int h0_input_count])), (h0_blocks_facts, .inl (cI, h0_blocks_facts_n, .inl h0_blocks_facts_f)), (h0_to_held, .inl (cB, h0_to_held_n, .inl h0_to_held_f)), (h0_input_held, .inl (cB, h0_input_held_n, .inl h0_input_held_f))]) hD hS hA [0, 4, 3, 1, 5, 6, 2] rfl) [0, 4, 3, 1, 5, 6, 2] rfl (by decide) rfl rfl rfl hl.1 rfl (lv_room (Nat.le_of_ble_eq_true rfl)) dX6_openChunk_180 ⟨Nat.le_of_ble_eq_true rfl, Nat.le_of_ble_eq_true rfl⟩) hP hD hS hA (wr := []) (w1 := [(h0, .inr (5, [.ref h0_input, w_h0_words, w_h0_settings, .ref h0_to, .ref h0_blocks, .int u11, .int u12, .int u13, .int u14, .int u15, .int u16, .int u17, .int u18, w_h0_frameBegin, w_h0_flags, w_h0_width, w_h0_size])), (h0_to, .inr (2, [.ref h0_to_held, .int u19])), (h0_blocks, .inr (1, [.ref h0_blocks_facts, .int u20])), (h0_input, .inr (2, [.ref h0_input_held, .int h0_input_count])), (h0_blocks_facts, .inl (cI, h0_blocks_facts_n, .inl u21)), (h0_to_held, .inl (cB, h0_to_held_n, .inl u22)), (h0_input_held, .inl (cB, h0_input_held_n, .inl h0_input_held_f))]) (ws' := [(h0, .inr (5, [.ref h0_input, w_h0_words, w_h0_settings, .ref h0_to, .ref h0_blocks, .int u11, .int u12, .int u13, .int u14, .int u15, .int u16, .int u17, .int u18, w_h0_frameBegin, w_h0_flags, w_h0_width, w_h0_size])), (h0_input, .inr (2, [.ref h0_input_held, .int h0_input_count])), (h0_input_held, .inl (cB, h0_input_held_n, .inl h0_input_held_f)), (h0_blocks, .inr (1, [.ref h0_blocks_facts, .int u20])), (h0_to, .inr (2, [.ref h0_to_held, .int u19])), (h0_blocks_facts, .inl (cI, h0_blocks_facts_n, .inl u21)), (h0_to_held, .inl (cB, h0_to_held_n, .inl u22))]) [0, 4, 3, 1, 5, 6, 2] [] [0, 3, 6, 2, 1, 4, 5] rfl rfl (by decide) (by decide) rfl (by decide) (fun H locs hP hD hS => ?_)
                  obtain ⟨hzb, hf⟩ := bch_some hf
                  obtain ⟨rfl, hq_1⟩ := Prod.mk.inj (Option.some.inj hf)
                  obtain ⟨rfl, hq_2⟩ := Prod.mk.inj hq_1
                  obtain ⟨rfl, hq_3⟩ := Prod.mk.inj hq_2
                  obtain ⟨rfl, hq_4⟩ := Prod.mk.inj hq_3
                  obtain ⟨rfl, hq_5⟩ := Prod.mk.inj hq_4
                  obtain ⟨rfl, hq_6⟩ := Prod.mk.inj hq_5
                  obtain ⟨rfl, hq_7⟩ := Prod.mk.inj hq_6
                  obtain ⟨rfl, hq_8⟩ := Prod.mk.inj hq_7
                  obtain ⟨rfl, hq_9⟩ := Prod.mk.inj hq_8
                  obtain ⟨rfl, hq_10⟩ := Prod.mk.inj hq_9
                  obtain ⟨rfl, hq_11⟩ := Prod.mk.inj hq_10
                  obtain ⟨rfl, hq_12⟩ := Prod.mk.inj hq_11
                  obtain rfl := hq_12
                  exact rt_z hQ hx hb hr hzb hlocks hP hD hS dX6_openChunk_183
                refine lv_icmp_ne (tgt := 176) hx hb dX6_openChunk_169 (by decide) (fun c_169 => ?_) (fun c_169 => ?_)
                · replace hf := if_f c_169 hf
                  refine lv_iconst (v := 0) hx hb dX6_openChunk_176 (by decide) ?_
                  exact hJ_177 (0 : Int32) _ _ _ hf hP hD hS (lv_sub hl [3] rfl)
                · replace hf := if_t c_169 hf
                  refine lv_iconst (v := 1) hx hb dX6_openChunk_172 (by decide) ?_
                  refine lv_goto (tgt := 177) hx hb dX6_openChunk_173 (by decide) ?_
                  exact hJ_177 (1 : Int32) _ _ _ hf hP hD hS (lv_sub hl [3] rfl)
            refine lv_icmp_ne (tgt := 160) hx hb dX6_openChunk_143 (by decide) (fun c_143 => ?_) (fun c_143 => ?_)
            · replace hf := if_f c_143 hf
              exact hJ_160  _ _ _ hf hP hD hS (lv_sub hl [0, 1, 2, 3, 4] rfl)
            · replace hf := if_t c_143 hf
              refine lv_aload_n hx hb dX6_openChunk_146 rfl (lv_at hl 0 rfl) ?_
              obtain ⟨r23, hc, hf⟩ := bind_some hf
              refine nx_i (rn_V (As := []) (rest := []) (n := 0) (ci := 5) (q0 := 0) ⟨hx, hb, hml, hown, hts⟩ (c_Opener_isFirstChunk (l := l) (dC := dC) (dI := dI) (cB := cB) (cI := cI) (h0 := h0) (h0_input := h0_input) (h0_input_held := h0_input_held) (w_h0_words := (w_h0_words)) (w_h0_settings := (w_h0_settings)) (w_h0_to := (.ref h0_to)) (w_h0_blocks := (.ref h0_blocks)) (w_h0_broken := (.int h0_broken)) (w_h0_brokenAt := (.int h0_brokenAt)) (h0_at := p_6) (w_h0_end := (.int h0_end)) (w_h0_begin := (.int h0_begin)) (w_h0_copies := (.int h0_copies)) (w_h0_literals := (.int h0_literals)) (w_h0_parts := (.int h0_parts)) (w_h0_frameBegin := (w_h0_frameBegin)) (w_h0_flags := (w_h0_flags)) (w_h0_width := (w_h0_width)) (w_h0_size := (w_h0_size)) (h0_input_count := h0_input_count) (h0_input_held_n := h0_input_held_n) (h0_input_held_f := h0_input_held_f)  (o_r := r23) hc) (wV kw_982 kw_984 kw_45 kw_92 kw_985) (by decide +kernel) ⟨Nat.le_of_ble_eq_true rfl, Nat.le_of_ble_eq_true rfl⟩ hK hP hD hN hT hS (va_free (wc := [(h0, .inr (5, [.ref h0_input, w_h0_words, w_h0_settings, .ref h0_to, .ref h0_blocks, .int h0_broken, .int h0_brokenAt, .int p_6, .int h0_end, .int h0_begin, .int h0_copies, .int h0_literals, .int h0_parts, w_h0_frameBegin, w_h0_flags, w_h0_width, w_h0_size])), (h0_input, .inr (2, [.ref h0_input_held, .int h0_input_count])), (h0_input_held, .inl (cB, h0_input_held_n, .inl h0_input_held_f))]) hD hS hA [0, 1, 2] rfl) [0, 1, 2] rfl (by decide) rfl rfl rfl hl.1 rfl (lv_room (Nat.le_of_ble_eq_true rfl)) dX6_openChunk_147 ⟨Nat.le_of_ble_eq_true rfl, Nat.le_of_ble_eq_true rfl⟩) hP hD hS hA (wr := [(h0_blocks, .inr (1, [.ref h0_blocks_facts, .int h0_blocks_count])), (h0_to, .inr (2, [.ref h0_to_held, .int h0_to_count])), (h0_blocks_facts, .inl (cI, h0_blocks_facts_n, .inl h0_blocks_facts_f)), (h0_to_held, .inl (cB, h0_to_held_n, .inl h0_to_held_f))]) (w1 := [(h0, .inr (5, [.ref h0_input, w_h0_words, w_h0_settings, .ref h0_to, .ref h0_blocks, .int h0_broken, .int h0_brokenAt, .int p_6, .int h0_end, .int h0_begin, .int h0_copies, .int h0_literals, .int h0_parts, w_h0_frameBegin, w_h0_flags, w_h0_width, w_h0_size])), (h0_input, .inr (2, [.ref h0_input_held, .int h0_input_count])), (h0_input_held, .inl (cB, h0_input_held_n, .inl h0_input_held_f))]) (ws' := [(h0, .inr (5, [.ref h0_input, w_h0_words, w_h0_settings, .ref h0_to, .ref h0_blocks, .int h0_broken, .int h0_brokenAt, .int p_6, .int h0_end, .int h0_begin, .int h0_copies, .int h0_literals, .int h0_parts, w_h0_frameBegin, w_h0_flags, w_h0_width, w_h0_size])), (h0_input, .inr (2, [.ref h0_input_held, .int h0_input_count])), (h0_input_held, .inl (cB, h0_input_held_n, .inl h0_input_held_f)), (h0_blocks, .inr (1, [.ref h0_blocks_facts, .int h0_blocks_count])), (h0_to, .inr (2, [.ref h0_to_held, .int h0_to_count])), (h0_blocks_facts, .inl (cI, h0_blocks_facts_n, .inl h0_blocks_facts_f)), (h0_to_held, .inl (cB, h0_to_held_n, .inl h0_to_held_f))]) [0, 1, 2] [3, 4, 5, 6] [4, 5, 6, 0, 1, 2, 3] rfl rfl (by decide) (by decide) rfl (by decide) (fun H locs hP hD hS => ?_)
              refine lv_if_ne (tgt := 160) hx hb dX6_openChunk_150 (by decide) (fun c_150 => ?_) (fun c_150 => ?_)
              · replace hf := if_f c_150 hf
                exact hJ_160  _ _ _ hf hP hD hS (lv_sub hl [0, 1, 2, 3, 4] rfl)
              · replace hf := if_t c_150 hf
                refine lv_aload_n hx hb dX6_openChunk_153 rfl (lv_at hl 0 rfl) ?_
                refine lv_iconst (v := 4) hx hb dX6_openChunk_154 (by decide) ?_
                refine lv_iload_n hx hb dX6_openChunk_155 rfl (lv_at hl 1 rfl) ?_
                obtain ⟨x, hc, hf⟩ := bind_some hf
                obtain ⟨r24, u25, u26⟩ := x
                dsimp only at hf
                refine nx_i (rn_V (As := [.int (4 : Int32), .int h0_at]) (rest := []) (n := 2) (ci := 5) (q0 := 0) ⟨hx, hb, hml, hown, hts⟩ (c_Opener_breaks (l := l) (dC := dC) (dI := dI) (cB := cB) (cI := cI) (h0 := h0) (a1 := (4 : Int32)) (a2 := h0_at) (w_h0_input := (.ref h0_input)) (w_h0_words := (w_h0_words)) (w_h0_settings := (w_h0_settings)) (w_h0_to := (.ref h0_to)) (w_h0_blocks := (.ref h0_blocks)) (h0_broken := h0_broken) (h0_brokenAt := h0_brokenAt) (w_h0_at := (.int p_6)) (w_h0_end := (.int h0_end)) (w_h0_begin := (.int h0_begin)) (w_h0_copies := (.int h0_copies)) (w_h0_literals := (.int h0_literals)) (w_h0_parts := (.int h0_parts)) (w_h0_frameBegin := (w_h0_frameBegin)) (w_h0_flags := (w_h0_flags)) (w_h0_width := (w_h0_width)) (w_h0_size := (w_h0_size)) (o_h0_broken := u25) (o_h0_brokenAt := u26) (o_r := r24) hc) (wV kw_871 kw_873 kw_26 kw_92 kw_874) (by decide +kernel) ⟨Nat.le_of_ble_eq_true rfl, Nat.le_of_ble_eq_true rfl⟩ hK hP hD hN hT hS (va_free (wc := [(h0, .inr (5, [.ref h0_input, w_h0_words, w_h0_settings, .ref h0_to, .ref h0_blocks, .int h0_broken, .int h0_brokenAt, .int p_6, .int h0_end, .int h0_begin, .int h0_copies, .int h0_literals, .int h0_parts, w_h0_frameBegin, w_h0_flags, w_h0_width, w_h0_size]))]) hD hS hA [0] rfl) [0] rfl (by decide) rfl rfl rfl hl.1 rfl (lv_room (Nat.le_of_ble_eq_true rfl)) dX6_openChunk_156 ⟨Nat.le_of_ble_eq_true rfl, Nat.le_of_ble_eq_true rfl⟩) hP hD hS hA (wr := [(h0_input, .inr (2, [.ref h0_input_held, .int h0_input_count])), (h0_input_held, .inl (cB, h0_input_held_n, .inl h0_input_held_f)), (h0_blocks, .inr (1, [.ref h0_blocks_facts, .int h0_blocks_count])), (h0_to, .inr (2, [.ref h0_to_held, .int h0_to_count])), (h0_blocks_facts, .inl (cI, h0_blocks_facts_n, .inl h0_blocks_facts_f)), (h0_to_held, .inl (cB, h0_to_held_n, .inl h0_to_held_f))]) (w1 := [(h0, .inr (5, [.ref h0_input, w_h0_words, w_h0_settings, .ref h0_to, .ref h0_blocks, .int u25, .int u26, .int p_6, .int h0_end, .int h0_begin, .int h0_copies, .int h0_literals, .int h0_parts, w_h0_frameBegin, w_h0_flags, w_h0_width, w_h0_size]))]) (ws' := [(h0, .inr (5, [.ref h0_input, w_h0_words, w_h0_settings, .ref h0_to, .ref h0_blocks, .int u25, .int u26, .int p_6, .int h0_end, .int h0_begin, .int h0_copies, .int h0_literals, .int h0_parts, w_h0_frameBegin, w_h0_flags, w_h0_width, w_h0_size])), (h0_input, .inr (2, [.ref h0_input_held, .int h0_input_count])), (h0_input_held, .inl (cB, h0_input_held_n, .inl h0_input_held_f)), (h0_blocks, .inr (1, [.ref h0_blocks_facts, .int h0_blocks_count])), (h0_to, .inr (2, [.ref h0_to_held, .int h0_to_count])), (h0_blocks_facts, .inl (cI, h0_blocks_facts_n, .inl h0_blocks_facts_f)), (h0_to_held, .inl (cB, h0_to_held_n, .inl h0_to_held_f))]) [0] [1, 2, 3, 4, 5, 6] [6, 0, 1, 2, 3, 4, 5] rfl rfl (by decide) (by decide) rfl (by decide) (fun H locs hP hD hS => ?_)
                obtain ⟨hzb, hf⟩ := bch_some hf
                obtain ⟨rfl, hq_1⟩ := Prod.mk.inj (Option.some.inj hf)
                obtain ⟨rfl, hq_2⟩ := Prod.mk.inj hq_1
                obtain ⟨rfl, hq_3⟩ := Prod.mk.inj hq_2
                obtain ⟨rfl, hq_4⟩ := Prod.mk.inj hq_3
                obtain ⟨rfl, hq_5⟩ := Prod.mk.inj hq_4
                obtain ⟨rfl, hq_6⟩ := Prod.mk.inj hq_5
                obtain ⟨rfl, hq_7⟩ := Prod.mk.inj hq_6
                obtain ⟨rfl, hq_8⟩ := Prod.mk.inj hq_7
                obtain ⟨rfl, hq_9⟩ := Prod.mk.inj hq_8
                obtain ⟨rfl, hq_10⟩ := Prod.mk.inj hq_9
                obtain ⟨rfl, hq_11⟩ := Prod.mk.inj hq_10
                obtain ⟨rfl, hq_12⟩ := Prod.mk.inj hq_11
                obtain rfl := hq_12
                exact rt_z hQ hx hb hr hzb hlocks hP hD hS dX6_openChunk_159
          · replace hf := if_f c_126 hf
            refine lv_aload_n hx hb dX6_openChunk_129 rfl (lv_at hl 0 rfl) ?_
            refine lv_iconst (v := 1) hx hb dX6_openChunk_130 (by decide) ?_
            refine lv_aload_n hx hb dX6_openChunk_131 rfl (lv_at hl 0 rfl) ?_
            refine va_get (D := (dC, dI)) (ci := 5) (v := .int h0_end) (C := RX6) (T := TX6) (N := 17) hx hb hts inG_X6 hown hK hP 0 rfl rfl 8 (by decide) (hts _ kw_297) (fun _ h9 => h9) rfl dX6_openChunk_132 ?_
            obtain ⟨x, hc, hf⟩ := bind_some hf
            obtain ⟨r27, u28, u29⟩ := x
            dsimp only at hf
            refine nx_i (rn_V (As := [.int (1 : Int32), .int h0_end]) (rest := []) (n := 2) (ci := 5) (q0 := 0) ⟨hx, hb, hml, hown, hts⟩ (c_Opener_breaks (l := l) (dC := dC) (dI := dI) (cB := cB) (cI := cI) (h0 := h0) (a1 := (1 : Int32)) (a2 := h0_end) (w_h0_input := (.ref h0_input)) (w_h0_words := (w_h0_words)) (w_h0_settings := (w_h0_settings)) (w_h0_to := (.ref h0_to)) (w_h0_blocks := (.ref h0_blocks)) (h0_broken := h0_broken) (h0_brokenAt := h0_brokenAt) (w_h0_at := (.int p_6)) (w_h0_end := (.int h0_end)) (w_h0_begin := (.int h0_begin)) (w_h0_copies := (.int h0_copies)) (w_h0_literals := (.int h0_literals)) (w_h0_parts := (.int h0_parts)) (w_h0_frameBegin := (w_h0_frameBegin)) (w_h0_flags := (w_h0_flags)) (w_h0_width := (w_h0_width)) (w_h0_size := (w_h0_size)) (o_h0_broken := u28) (o_h0_brokenAt := u29) (o_r := r27) hc) (wV kw_871 kw_873 kw_26 kw_92 kw_874) (by decide +kernel) ⟨Nat.le_of_ble_eq_true rfl, Nat.le_of_ble_eq_true rfl⟩ hK hP hD hN hT hS (va_free (wc := [(h0, .inr (5, [.ref h0_input, w_h0_words, w_h0_settings, .ref h0_to, .ref h0_blocks, .int h0_broken, .int h0_brokenAt, .int p_6, .int h0_end, .int h0_begin, .int h0_copies, .int h0_literals, .int h0_parts, w_h0_frameBegin, w_h0_flags, w_h0_width, w_h0_size]))]) hD hS hA [0] rfl) [0] rfl (by decide) rfl rfl rfl hl.1 rfl (lv_room (Nat.le_of_ble_eq_true rfl)) dX6_openChunk_135 ⟨Nat.le_of_ble_eq_true rfl, Nat.le_of_ble_eq_true rfl⟩) hP hD hS hA (wr := [(h0_input, .inr (2, [.ref h0_input_held, .int h0_input_count])), (h0_input_held, .inl (cB, h0_input_held_n, .inl h0_input_held_f)), (h0_blocks, .inr (1, [.ref h0_blocks_facts, .int h0_blocks_count])), (h0_to, .inr (2, [.ref h0_to_held, .int h0_to_count])), (h0_blocks_facts, .inl (cI, h0_blocks_facts_n, .inl h0_blocks_facts_f)), (h0_to_held, .inl (cB, h0_to_held_n, .inl h0_to_held_f))]) (w1 := [(h0, .inr (5, [.ref h0_input, w_h0_words, w_h0_settings, .ref h0_to, .ref h0_blocks, .int u28, .int u29, .int p_6, .int h0_end, .int h0_begin, .int h0_copies, .int h0_literals, .int h0_parts, w_h0_frameBegin, w_h0_flags, w_h0_width, w_h0_size]))]) (ws' := [(h0, .inr (5, [.ref h0_input, w_h0_words, w_h0_settings, .ref h0_to, .ref h0_blocks, .int u28, .int u29, .int p_6, .int h0_end, .int h0_begin, .int h0_copies, .int h0_literals, .int h0_parts, w_h0_frameBegin, w_h0_flags, w_h0_width, w_h0_size])), (h0_input, .inr (2, [.ref h0_input_held, .int h0_input_count])), (h0_input_held, .inl (cB, h0_input_held_n, .inl h0_input_held_f)), (h0_blocks, .inr (1, [.ref h0_blocks_facts, .int h0_blocks_count])), (h0_to, .inr (2, [.ref h0_to_held, .int h0_to_count])), (h0_blocks_facts, .inl (cI, h0_blocks_facts_n, .inl h0_blocks_facts_f)), (h0_to_held, .inl (cB, h0_to_held_n, .inl h0_to_held_f))]) [0] [1, 2, 3, 4, 5, 6] [6, 0, 1, 2, 3, 4, 5] rfl rfl (by decide) (by decide) rfl (by decide) (fun H locs hP hD hS => ?_)
            obtain ⟨hzb, hf⟩ := bch_some hf
            obtain ⟨rfl, hq_1⟩ := Prod.mk.inj (Option.some.inj hf)
            obtain ⟨rfl, hq_2⟩ := Prod.mk.inj hq_1
            obtain ⟨rfl, hq_3⟩ := Prod.mk.inj hq_2
            obtain ⟨rfl, hq_4⟩ := Prod.mk.inj hq_3
            obtain ⟨rfl, hq_5⟩ := Prod.mk.inj hq_4
            obtain ⟨rfl, hq_6⟩ := Prod.mk.inj hq_5
            obtain ⟨rfl, hq_7⟩ := Prod.mk.inj hq_6
            obtain ⟨rfl, hq_8⟩ := Prod.mk.inj hq_7
            obtain ⟨rfl, hq_9⟩ := Prod.mk.inj hq_8
            obtain ⟨rfl, hq_10⟩ := Prod.mk.inj hq_9
            obtain ⟨rfl, hq_11⟩ := Prod.mk.inj hq_10
            obtain ⟨rfl, hq_12⟩ := Prod.mk.inj hq_11
            obtain rfl := hq_12
            exact rt_z hQ hx hb hr hzb hlocks hP hD hS dX6_openChunk_138
        refine lv_icmp_ne (tgt := 111) hx hb dX6_openChunk_93 (by decide) (fun c_93 => ?_) (fun c_93 => ?_)
        · replace hf := if_f c_93 hf
          exact hJ_111  _ _ _ hf hP hD hS (lv_sub hl [0, 1, 2, 3, 4] rfl)
        · replace hf := if_t c_93 hf
          refine lv_iload_n hx hb dX6_openChunk_96 rfl (lv_at hl 3 rfl) ?_
          refine va_getsN hx hb hZ hS hown (va_Nw.use rfl (hN _ nw_20)) (fun _ h9 => h9) dX6_openChunk_97 ?_
          refine va_tlen (v := nI 6) hx hb hTt hS rfl dX6_openChunk_100 ?_
          refine lv_icmp_eq (tgt := 111) hx hb dX6_openChunk_101 (by decide) (fun c_101 => ?_) (fun c_101 => ?_)
          · replace hf := if_t c_101 hf
            exact hJ_111  _ _ _ hf hP hD hS (lv_sub hl [0, 1, 2, 3, 4] rfl)
          · replace hf := if_f c_101 hf
            refine lv_aload_n hx hb dX6_openChunk_104 rfl (lv_at hl 0 rfl) ?_
            refine lv_iconst (v := 4) hx hb dX6_openChunk_105 (by decide) ?_
            refine lv_iload_n hx hb dX6_openChunk_106 rfl (lv_at hl 1 rfl) ?_
            obtain ⟨x, hc, hf⟩ := bind_some hf
            obtain ⟨r30, u31, u32⟩ := x
            dsimp only at hf
            refine nx_i (rn_V (As := [.int (4 : Int32), .int h0_at]) (rest := []) (n := 2) (ci := 5) (q0 := 0) ⟨hx, hb, hml, hown, hts⟩ (c_Opener_breaks (l := l) (dC := dC) (dI := dI) (cB := cB) (cI := cI) (h0 := h0) (a1 := (4 : Int32)) (a2 := h0_at) (w_h0_input := (.ref h0_input)) (w_h0_words := (w_h0_words)) (w_h0_settings := (w_h0_settings)) (w_h0_to := (.ref h0_to)) (w_h0_blocks := (.ref h0_blocks)) (h0_broken := h0_broken) (h0_brokenAt := h0_brokenAt) (w_h0_at := (.int h0_at)) (w_h0_end := (.int h0_end)) (w_h0_begin := (.int h0_begin)) (w_h0_copies := (.int h0_copies)) (w_h0_literals := (.int h0_literals)) (w_h0_parts := (.int h0_parts)) (w_h0_frameBegin := (w_h0_frameBegin)) (w_h0_flags := (w_h0_flags)) (w_h0_width := (w_h0_width)) (w_h0_size := (w_h0_size)) (o_h0_broken := u31) (o_h0_brokenAt := u32) (o_r := r30) hc) (wV kw_871 kw_873 kw_26 kw_92 kw_874) (by decide +kernel) ⟨Nat.le_of_ble_eq_true rfl, Nat.le_of_ble_eq_true rfl⟩ hK hP hD hN hT hS (va_free (wc := [(h0, .inr (5, [.ref h0_input, w_h0_words, w_h0_settings, .ref h0_to, .ref h0_blocks, .int h0_broken, .int h0_brokenAt, .int h0_at, .int h0_end, .int h0_begin, .int h0_copies, .int h0_literals, .int h0_parts, w_h0_frameBegin, w_h0_flags, w_h0_width, w_h0_size]))]) hD hS hA [0] rfl) [0] rfl (by decide) rfl rfl rfl hl.1 rfl (lv_room (Nat.le_of_ble_eq_true rfl)) dX6_openChunk_107 ⟨Nat.le_of_ble_eq_true rfl, Nat.le_of_ble_eq_true rfl⟩) hP hD hS hA (wr := [(h0_input, .inr (2, [.ref h0_input_held, .int h0_input_count])), (h0_input_held, .inl (cB, h0_input_held_n, .inl h0_input_held_f)), (h0_blocks, .inr (1, [.ref h0_blocks_facts, .int h0_blocks_count])), (h0_to, .inr (2, [.ref h0_to_held, .int h0_to_count])), (h0_blocks_facts, .inl (cI, h0_blocks_facts_n, .inl h0_blocks_facts_f)), (h0_to_held, .inl (cB, h0_to_held_n, .inl h0_to_held_f))]) (w1 := [(h0, .inr (5, [.ref h0_input, w_h0_words, w_h0_settings, .ref h0_to, .ref h0_blocks, .int u31, .int u32, .int h0_at, .int h0_end, .int h0_begin, .int h0_copies, .int h0_literals, .int h0_parts, w_h0_frameBegin, w_h0_flags, w_h0_width, w_h0_size]))]) (ws' := [(h0, .inr (5, [.ref h0_input, w_h0_words, w_h0_settings, .ref h0_to, .ref h0_blocks, .int u31, .int u32, .int h0_at, .int h0_end, .int h0_begin, .int h0_copies, .int h0_literals, .int h0_parts, w_h0_frameBegin, w_h0_flags, w_h0_width, w_h0_size])), (h0_input, .inr (2, [.ref h0_input_held, .int h0_input_count])), (h0_input_held, .inl (cB, h0_input_held_n, .inl h0_input_held_f)), (h0_blocks, .inr (1, [.ref h0_blocks_facts, .int h0_blocks_count])), (h0_to, .inr (2, [.ref h0_to_held, .int h0_to_count])), (h0_blocks_facts, .inl (cI, h0_blocks_facts_n, .inl h0_blocks_facts_f)), (h0_to_held, .inl (cB, h0_to_held_n, .inl h0_to_held_f))]) [0] [1, 2, 3, 4, 5, 6] [6, 0, 1, 2, 3, 4, 5] rfl rfl (by decide) (by decide) rfl (by decide) (fun H locs hP hD hS => ?_)
            obtain ⟨hzb, hf⟩ := bch_some hf
            obtain ⟨rfl, hq_1⟩ := Prod.mk.inj (Option.some.inj hf)
            obtain ⟨rfl, hq_2⟩ := Prod.mk.inj hq_1
            obtain ⟨rfl, hq_3⟩ := Prod.mk.inj hq_2
            obtain ⟨rfl, hq_4⟩ := Prod.mk.inj hq_3
            obtain ⟨rfl, hq_5⟩ := Prod.mk.inj hq_4
            obtain ⟨rfl, hq_6⟩ := Prod.mk.inj hq_5
            obtain ⟨rfl, hq_7⟩ := Prod.mk.inj hq_6
            obtain ⟨rfl, hq_8⟩ := Prod.mk.inj hq_7
            obtain ⟨rfl, hq_9⟩ := Prod.mk.inj hq_8
            obtain ⟨rfl, hq_10⟩ := Prod.mk.inj hq_9
            obtain ⟨rfl, hq_11⟩ := Prod.mk.inj hq_10
            obtain ⟨rfl, hq_12⟩ := Prod.mk.inj hq_11
            obtain rfl := hq_12
            exact rt_z hQ hx hb hr hzb hlocks hP hD hS dX6_openChunk_110
      have hJ_81 : ∀ (H : Heap) (locs : List Loc) (ls : Array Slot), m_Opener_openChunk_J81 h0_at h0_end h0_begin h0_copies h0_literals h0_parts h0_blocks_count h0_to_count h0_blocks_facts_f h0_to_held_f = some (o_r, o_h0_broken, o_h0_brokenAt, o_h0_at, o_h0_end, o_h0_begin, o_h0_copies, o_h0_literals, o_h0_parts, o_h0_blocks_count, o_h0_to_count, o_h0_blocks_facts_f, o_h0_to_held_f) → va_P (dC, dI) vwCl [(h0, .inr (5, [.ref h0_input, w_h0_words, w_h0_settings, .ref h0_to, .ref h0_blocks, .int h0_broken, .int h0_brokenAt, .int h0_at, .int h0_end, .int h0_begin, .int h0_copies, .int h0_literals, .int h0_parts, w_h0_frameBegin, w_h0_flags, w_h0_width, w_h0_size])), (h0_input, .inr (2, [.ref h0_input_held, .int h0_input_count])), (h0_input_held, .inl (cB, h0_input_held_n, .inl h0_input_held_f)), (h0_blocks, .inr (1, [.ref h0_blocks_facts, .int h0_blocks_count])), (h0_to, .inr (2, [.ref h0_to_held, .int h0_to_count])), (h0_blocks_facts, .inl (cI, h0_blocks_facts_n, .inl h0_blocks_facts_f)), (h0_to_held, .inl (cB, h0_to_held_n, .inl h0_to_held_f))] H → va_D A [(h0, .inr (5, [.ref h0_input, w_h0_words, w_h0_settings, .ref h0_to, .ref h0_blocks, .int h0_broken, .int h0_brokenAt, .int h0_at, .int h0_end, .int h0_begin, .int h0_copies, .int h0_literals, .int h0_parts, w_h0_frameBegin, w_h0_flags, w_h0_width, w_h0_size])), (h0_input, .inr (2, [.ref h0_input_held, .int h0_input_count])), (h0_input_held, .inl (cB, h0_input_held_n, .inl h0_input_held_f)), (h0_blocks, .inr (1, [.ref h0_blocks_facts, .int h0_blocks_count])), (h0_to, .inr (2, [.ref h0_to_held, .int h0_to_count])), (h0_blocks_facts, .inl (cI, h0_blocks_facts_n, .inl h0_blocks_facts_f)), (h0_to_held, .inl (cB, h0_to_held_n, .inl h0_to_held_f))] → va_S A s.heap H locs → lv_has ls 5 [(0, .ref h0), (1, .int h0_at)] → W p l e (rm_Opener_openChunk) s m ([.ref h0] : List Value).toArray below meth c H locs 0 0 Q (F0 m 81 ls []) := by
        intro  H locs ls hf hP hD hS hl
        unfold m_Opener_openChunk_J81 at hf
        refine lv_aload_n hx hb dX6_openChunk_81 rfl (lv_at hl 0 rfl) ?_
        refine lv_bipush (v := 15) hx hb dX6_openChunk_82 (by decide) ?_
        refine lv_iload_n hx hb dX6_openChunk_84 rfl (lv_at hl 1 rfl) ?_
        obtain ⟨x, hc, hf⟩ := bind_some hf
        obtain ⟨r33, u34, u35⟩ := x
        dsimp only at hf
        refine nx_i (rn_V (As := [.int (15 : Int32), .int h0_at]) (rest := []) (n := 2) (ci := 5) (q0 := 0) ⟨hx, hb, hml, hown, hts⟩ (c_Opener_breaks (l := l) (dC := dC) (dI := dI) (cB := cB) (cI := cI) (h0 := h0) (a1 := (15 : Int32)) (a2 := h0_at) (w_h0_input := (.ref h0_input)) (w_h0_words := (w_h0_words)) (w_h0_settings := (w_h0_settings)) (w_h0_to := (.ref h0_to)) (w_h0_blocks := (.ref h0_blocks)) (h0_broken := h0_broken) (h0_brokenAt := h0_brokenAt) (w_h0_at := (.int h0_at)) (w_h0_end := (.int h0_end)) (w_h0_begin := (.int h0_begin)) (w_h0_copies := (.int h0_copies)) (w_h0_literals := (.int h0_literals)) (w_h0_parts := (.int h0_parts)) (w_h0_frameBegin := (w_h0_frameBegin)) (w_h0_flags := (w_h0_flags)) (w_h0_width := (w_h0_width)) (w_h0_size := (w_h0_size)) (o_h0_broken := u34) (o_h0_brokenAt := u35) (o_r := r33) hc) (wV kw_871 kw_873 kw_26 kw_92 kw_874) (by decide +kernel) ⟨Nat.le_of_ble_eq_true rfl, Nat.le_of_ble_eq_true rfl⟩ hK hP hD hN hT hS (va_free (wc := [(h0, .inr (5, [.ref h0_input, w_h0_words, w_h0_settings, .ref h0_to, .ref h0_blocks, .int h0_broken, .int h0_brokenAt, .int h0_at, .int h0_end, .int h0_begin, .int h0_copies, .int h0_literals, .int h0_parts, w_h0_frameBegin, w_h0_flags, w_h0_width, w_h0_size]))]) hD hS hA [0] rfl) [0] rfl (by decide) rfl rfl rfl hl.1 rfl (lv_room (Nat.le_of_ble_eq_true rfl)) dX6_openChunk_85 ⟨Nat.le_of_ble_eq_true rfl, Nat.le_of_ble_eq_true rfl⟩) hP hD hS hA (wr := [(h0_input, .inr (2, [.ref h0_input_held, .int h0_input_count])), (h0_input_held, .inl (cB, h0_input_held_n, .inl h0_input_held_f)), (h0_blocks, .inr (1, [.ref h0_blocks_facts, .int h0_blocks_count])), (h0_to, .inr (2, [.ref h0_to_held, .int h0_to_count])), (h0_blocks_facts, .inl (cI, h0_blocks_facts_n, .inl h0_blocks_facts_f)), (h0_to_held, .inl (cB, h0_to_held_n, .inl h0_to_held_f))]) (w1 := [(h0, .inr (5, [.ref h0_input, w_h0_words, w_h0_settings, .ref h0_to, .ref h0_blocks, .int u34, .int u35, .int h0_at, .int h0_end, .int h0_begin, .int h0_copies, .int h0_literals, .int h0_parts, w_h0_frameBegin, w_h0_flags, w_h0_width, w_h0_size]))]) (ws' := [(h0, .inr (5, [.ref h0_input, w_h0_words, w_h0_settings, .ref h0_to, .ref h0_blocks, .int u34, .int u35, .int h0_at, .int h0_end, .int h0_begin, .int h0_copies, .int h0_literals, .int h0_parts, w_h0_frameBegin, w_h0_flags, w_h0_width, w_h0_size])), (h0_input, .inr (2, [.ref h0_input_held, .int h0_input_count])), (h0_input_held, .inl (cB, h0_input_held_n, .inl h0_input_held_f)), (h0_blocks, .inr (1, [.ref h0_blocks_facts, .int h0_blocks_count])), (h0_to, .inr (2, [.ref h0_to_held, .int h0_to_count])), (h0_blocks_facts, .inl (cI, h0_blocks_facts_n, .inl h0_blocks_facts_f)), (h0_to_held, .inl (cB, h0_to_held_n, .inl h0_to_held_f))]) [0] [1, 2, 3, 4, 5, 6] [6, 0, 1, 2, 3, 4, 5] rfl rfl (by decide) (by decide) rfl (by decide) (fun H locs hP hD hS => ?_)
        obtain ⟨hzb, hf⟩ := bch_some hf
        obtain ⟨rfl, hq_1⟩ := Prod.mk.inj (Option.some.inj hf)
        obtain ⟨rfl, hq_2⟩ := Prod.mk.inj hq_1
        obtain ⟨rfl, hq_3⟩ := Prod.mk.inj hq_2
        obtain ⟨rfl, hq_4⟩ := Prod.mk.inj hq_3
        obtain ⟨rfl, hq_5⟩ := Prod.mk.inj hq_4
        obtain ⟨rfl, hq_6⟩ := Prod.mk.inj hq_5
        obtain ⟨rfl, hq_7⟩ := Prod.mk.inj hq_6
        obtain ⟨rfl, hq_8⟩ := Prod.mk.inj hq_7
        obtain ⟨rfl, hq_9⟩ := Prod.mk.inj hq_8
        obtain ⟨rfl, hq_10⟩ := Prod.mk.inj hq_9
        obtain ⟨rfl, hq_11⟩ := Prod.mk.inj hq_10
        obtain ⟨rfl, hq_12⟩ := Prod.mk.inj hq_11
        obtain rfl := hq_12
        exact rt_z hQ hx hb hr hzb hlocks hP hD hS dX6_openChunk_88
      refine lv_if_eq (tgt := 74) hx hb dX6_openChunk_63 (by decide) (fun c_63 => ?_) (fun c_63 => ?_)
      · replace hf := if_t c_63 hf
        refine lv_iload_n hx hb dX6_openChunk_74 rfl (lv_at hl 3 rfl) ?_
        refine lv_sipush (v := 128) hx hb dX6_openChunk_75 (by decide) ?_
        refine lv_icmp_ge (tgt := 89) hx hb dX6_openChunk_78 (by decide) (fun c_78 => ?_) (fun c_78 => ?_)
        · replace hf := if_t c_78 hf
          exact hJ_89  _ _ _ hf hP hD hS (lv_sub hl [1, 2, 3, 4, 0] rfl)
        · replace hf := if_f c_78 hf
          exact hJ_81  _ _ _ hf hP hD hS (lv_sub hl [1, 2] rfl)
      · replace hf := if_f c_63 hf
        refine lv_iload_n hx hb dX6_openChunk_66 rfl (lv_at hl 4 rfl) ?_
        refine lv_iconst (v := 4) hx hb dX6_openChunk_67 (by decide) ?_
        refine lv_icmp_ge (tgt := 89) hx hb dX6_openChunk_68 (by decide) (fun c_68 => ?_) (fun c_68 => ?_)
        · replace hf := if_t c_68 hf
          exact hJ_89  _ _ _ hf hP hD hS (lv_sub hl [1, 2, 3, 4, 0] rfl)
        · replace hf := if_f c_68 hf
          refine lv_goto (tgt := 81) hx hb dX6_openChunk_71 (by decide) ?_
          exact hJ_81  _ _ _ hf hP hD hS (lv_sub hl [1, 2] rfl)
    refine lv_if_eq (tgt := 54) hx hb dX6_openChunk_46 (by decide) (fun c_46 => ?_) (fun c_46 => ?_)
    · replace hf := if_t c_46 hf
      refine lv_iconst (v := 1) hx hb dX6_openChunk_54 (by decide) ?_
      refine lv_goto (tgt := 59) hx hb dX6_openChunk_55 (by decide) ?_
      exact hJ_59 (1 : Int32) _ _ _ hf hP hD hS (lv_sub hl [3, 2, 1, 0] rfl)
    · replace hf := if_f c_46 hf
      refine lv_iload_n hx hb dX6_openChunk_49 rfl (lv_at hl 1 rfl) ?_
      refine lv_iconst (v := 1) hx hb dX6_openChunk_50 (by decide) ?_
      refine lv_icmp_ne (tgt := 58) hx hb dX6_openChunk_51 (by decide) (fun c_51 => ?_) (fun c_51 => ?_)
      · replace hf := if_f c_51 hf
        refine lv_iconst (v := 0) hx hb dX6_openChunk_58 (by decide) ?_
        exact hJ_59 (0 : Int32) _ _ _ hf hP hD hS (lv_sub hl [3, 2, 1, 0] rfl)
      · replace hf := if_t c_51 hf
        refine lv_iconst (v := 1) hx hb dX6_openChunk_54 (by decide) ?_
        refine lv_goto (tgt := 59) hx hb dX6_openChunk_55 (by decide) ?_
        exact hJ_59 (1 : Int32) _ _ _ hf hP hD hS (lv_sub hl [3, 2, 1, 0] rfl)
  · replace hf := if_f c_19 hf
    refine lv_aload_n hx hb dX6_openChunk_22 rfl (lv_at hl 2 rfl) ?_
    refine lv_iconst (v := 1) hx hb dX6_openChunk_23 (by decide) ?_
    refine lv_aload_n hx hb dX6_openChunk_24 rfl (lv_at hl 2 rfl) ?_
    refine va_get (D := (dC, dI)) (ci := 5) (v := .int h0_end) (C := RX6) (T := TX6) (N := 17) hx hb hts inG_X6 hown hK hP 0 rfl rfl 8 (by decide) (hts _ kw_297) (fun _ h9 => h9) rfl dX6_openChunk_25 ?_
    obtain ⟨x, hc, hf⟩ := bind_some hf
    obtain ⟨r36, u37, u38⟩ := x
    dsimp only at hf
    refine nx_i (rn_V (As := [.int (1 : Int32), .int h0_end]) (rest := []) (n := 2) (ci := 5) (q0 := 0) ⟨hx, hb, hml, hown, hts⟩ (c_Opener_breaks (l := l) (dC := dC) (dI := dI) (cB := cB) (cI := cI) (h0 := h0) (a1 := (1 : Int32)) (a2 := h0_end) (w_h0_input := (.ref h0_input)) (w_h0_words := (w_h0_words)) (w_h0_settings := (w_h0_settings)) (w_h0_to := (.ref h0_to)) (w_h0_blocks := (.ref h0_blocks)) (h0_broken := h0_broken) (h0_brokenAt := h0_brokenAt) (w_h0_at := (.int h0_at)) (w_h0_end := (.int h0_end)) (w_h0_begin := (.int h0_begin)) (w_h0_copies := (.int h0_copies)) (w_h0_literals := (.int h0_literals)) (w_h0_parts := (.int h0_parts)) (w_h0_frameBegin := (w_h0_frameBegin)) (w_h0_flags := (w_h0_flags)) (w_h0_width := (w_h0_width)) (w_h0_size := (w_h0_size)) (o_h0_broken := u37) (o_h0_brokenAt := u38) (o_r := r36) hc) (wV kw_871 kw_873 kw_26 kw_92 kw_874) (by decide +kernel) ⟨Nat.le_of_ble_eq_true rfl, Nat.le_of_ble_eq_true rfl⟩ hK hP hD hN hT hS (va_free (wc := [(h0, .inr (5, [.ref h0_input, w_h0_words, w_h0_settings, .ref h0_to, .ref h0_blocks, .int h0_broken, .int h0_brokenAt, .int h0_at, .int h0_end, .int h0_begin, .int h0_copies, .int h0_literals, .int h0_parts, w_h0_frameBegin, w_h0_flags, w_h0_width, w_h0_size]))]) hD hS hA [0] rfl) [0] rfl (by decide) rfl rfl rfl hl.1 rfl (lv_room (Nat.le_of_ble_eq_true rfl)) dX6_openChunk_28 ⟨Nat.le_of_ble_eq_true rfl, Nat.le_of_ble_eq_true rfl⟩) hP hD hS hA (wr := [(h0_input, .inr (2, [.ref h0_input_held, .int h0_input_count])), (h0_input_held, .inl (cB, h0_input_held_n, .inl h0_input_held_f)), (h0_blocks, .inr (1, [.ref h0_blocks_facts, .int h0_blocks_count])), (h0_to, .inr (2, [.ref h0_to_held, .int h0_to_count])), (h0_blocks_facts, .inl (cI, h0_blocks_facts_n, .inl h0_blocks_facts_f)), (h0_to_held, .inl (cB, h0_to_held_n, .inl h0_to_held_f))]) (w1 := [(h0, .inr (5, [.ref h0_input, w_h0_words, w_h0_settings, .ref h0_to, .ref h0_blocks, .int u37, .int u38, .int h0_at, .int h0_end, .int h0_begin, .int h0_copies, .int h0_literals, .int h0_parts, w_h0_frameBegin, w_h0_flags, w_h0_width, w_h0_size]))]) (ws' := [(h0, .inr (5, [.ref h0_input, w_h0_words, w_h0_settings, .ref h0_to, .ref h0_blocks, .int u37, .int u38, .int h0_at, .int h0_end, .int h0_begin, .int h0_copies, .int h0_literals, .int h0_parts, w_h0_frameBegin, w_h0_flags, w_h0_width, w_h0_size])), (h0_input, .inr (2, [.ref h0_input_held, .int h0_input_count])), (h0_input_held, .inl (cB, h0_input_held_n, .inl h0_input_held_f)), (h0_blocks, .inr (1, [.ref h0_blocks_facts, .int h0_blocks_count])), (h0_to, .inr (2, [.ref h0_to_held, .int h0_to_count])), (h0_blocks_facts, .inl (cI, h0_blocks_facts_n, .inl h0_blocks_facts_f)), (h0_to_held, .inl (cB, h0_to_held_n, .inl h0_to_held_f))]) [0] [1, 2, 3, 4, 5, 6] [6, 0, 1, 2, 3, 4, 5] rfl rfl (by decide) (by decide) rfl (by decide) (fun H locs hP hD hS => ?_)
    obtain ⟨hzb, hf⟩ := bch_some hf
    obtain ⟨rfl, hq_1⟩ := Prod.mk.inj (Option.some.inj hf)
    obtain ⟨rfl, hq_2⟩ := Prod.mk.inj hq_1
    obtain ⟨rfl, hq_3⟩ := Prod.mk.inj hq_2
    obtain ⟨rfl, hq_4⟩ := Prod.mk.inj hq_3
    obtain ⟨rfl, hq_5⟩ := Prod.mk.inj hq_4
    obtain ⟨rfl, hq_6⟩ := Prod.mk.inj hq_5
    obtain ⟨rfl, hq_7⟩ := Prod.mk.inj hq_6
    obtain ⟨rfl, hq_8⟩ := Prod.mk.inj hq_7
    obtain ⟨rfl, hq_9⟩ := Prod.mk.inj hq_8
    obtain ⟨rfl, hq_10⟩ := Prod.mk.inj hq_9
    obtain ⟨rfl, hq_11⟩ := Prod.mk.inj hq_10
    obtain ⟨rfl, hq_12⟩ := Prod.mk.inj hq_11
    obtain rfl := hq_12
    exact rt_z hQ hx hb hr hzb hlocks hP hD hS dX6_openChunk_31

theorem dX6_openChunks_0 : decode cX6_openChunks 0 = .ok (.aload_n 0, 1) := by decide +kernel
theorem dX6_openChunks_1 : decode cX6_openChunks 1 = .ok (.iconst 1, 1) := by decide +kernel
theorem dX6_openChunks_2 : decode cX6_openChunks 2 = .ok (.invokevirtual 95, 3) := by decide +kernel
theorem dX6_openChunks_5 : decode cX6_openChunks 5 = .ok (.ifCond .eq 13, 3) := by decide +kernel
theorem dX6_openChunks_8 : decode cX6_openChunks 8 = .ok (.aload_n 0, 1) := by decide +kernel
theorem dX6_openChunks_9 : decode cX6_openChunks 9 = .ok (.iconst 1, 1) := by decide +kernel
theorem dX6_openChunks_10 : decode cX6_openChunks 10 = .ok (.aload_n 0, 1) := by decide +kernel
theorem dX6_openChunks_11 : decode cX6_openChunks 11 = .ok (.getfield 54, 3) := by decide +kernel
theorem dX6_openChunks_14 : decode cX6_openChunks 14 = .ok (.invokevirtual 98, 3) := by decide +kernel
theorem dX6_openChunks_17 : decode cX6_openChunks 17 = .ok (.ireturn, 1) := by decide +kernel
theorem dX6_openChunks_18 : decode cX6_openChunks 18 = .ok (.aload_n 0, 1) := by decide +kernel
theorem dX6_openChunks_19 : decode cX6_openChunks 19 = .ok (.getfield 9, 3) := by decide +kernel
theorem dX6_openChunks_22 : decode cX6_openChunks 22 = .ok (.iconst 0, 1) := by decide +kernel
theorem dX6_openChunks_23 : decode cX6_openChunks 23 = .ok (.invokevirtual 89, 3) := by decide +kernel
theorem dX6_openChunks_26 : decode cX6_openChunks 26 = .ok (.sipush 255, 3) := by decide +kernel
theorem dX6_openChunks_29 : decode cX6_openChunks 29 = .ok (.if_icmp .eq 10, 3) := by decide +kernel
theorem dX6_openChunks_32 : decode cX6_openChunks 32 = .ok (.aload_n 0, 1) := by decide +kernel
theorem dX6_openChunks_33 : decode cX6_openChunks 33 = .ok (.iconst 4, 1) := by decide +kernel
theorem dX6_openChunks_34 : decode cX6_openChunks 34 = .ok (.iconst 0, 1) := by decide +kernel
theorem dX6_openChunks_35 : decode cX6_openChunks 35 = .ok (.invokevirtual 98, 3) := by decide +kernel
theorem dX6_openChunks_38 : decode cX6_openChunks 38 = .ok (.ireturn, 1) := by decide +kernel
theorem dX6_openChunks_39 : decode cX6_openChunks 39 = .ok (.iconst 0, 1) := by decide +kernel
theorem dX6_openChunks_40 : decode cX6_openChunks 40 = .ok (.istore_n 1, 1) := by decide +kernel
theorem dX6_openChunks_41 : decode cX6_openChunks 41 = .ok (.iload_n 1, 1) := by decide +kernel
theorem dX6_openChunks_42 : decode cX6_openChunks 42 = .ok (.sipush 4000, 3) := by decide +kernel
theorem dX6_openChunks_45 : decode cX6_openChunks 45 = .ok (.if_icmp .ge 29, 3) := by decide +kernel
theorem dX6_openChunks_48 : decode cX6_openChunks 48 = .ok (.aload_n 0, 1) := by decide +kernel
theorem dX6_openChunks_49 : decode cX6_openChunks 49 = .ok (.getfield 47, 3) := by decide +kernel
theorem dX6_openChunks_52 : decode cX6_openChunks 52 = .ok (.aload_n 0, 1) := by decide +kernel
theorem dX6_openChunks_53 : decode cX6_openChunks 53 = .ok (.getfield 54, 3) := by decide +kernel
theorem dX6_openChunks_56 : decode cX6_openChunks 56 = .ok (.if_icmp .ge 18, 3) := by decide +kernel
theorem dX6_openChunks_59 : decode cX6_openChunks 59 = .ok (.aload_n 0, 1) := by decide +kernel
theorem dX6_openChunks_60 : decode cX6_openChunks 60 = .ok (.invokevirtual 207, 3) := by decide +kernel
theorem dX6_openChunks_63 : decode cX6_openChunks 63 = .ok (.ifCond .ne 5, 3) := by decide +kernel
theorem dX6_openChunks_66 : decode cX6_openChunks 66 = .ok (.iconst 0, 1) := by decide +kernel
theorem dX6_openChunks_67 : decode cX6_openChunks 67 = .ok (.ireturn, 1) := by decide +kernel
theorem dX6_openChunks_68 : decode cX6_openChunks 68 = .ok (.iinc 1 1, 3) := by decide +kernel
theorem dX6_openChunks_71 : decode cX6_openChunks 71 = .ok (.goto (-30), 3) := by decide +kernel
theorem dX6_openChunks_74 : decode cX6_openChunks 74 = .ok (.iconst 1, 1) := by decide +kernel
theorem dX6_openChunks_75 : decode cX6_openChunks 75 = .ok (.ireturn, 1) := by decide +kernel
def m_Opener_openChunks_E74 (f3 : Nat → Int32) (f4 : Nat → Int32) (g5 : Int32) (g6 : Int32) (g7 : Int32) (g8 : Int32) (g9 : Int32) (g10 : Int32) (g11 : Int32) (g12 : Int32) (g13 : Int32) (g14 : Int32) : Option (Int32 × Int32 × Int32 × Int32 × Int32 × Int32 × Int32 × Int32 × Int32 × Int32 × Int32 × (Nat → Int32) × (Nat → Int32)) :=
  some ((1 : Int32), g8, g9, g10, g11, g12, g5, g6, g7, g13, g14, f3, f4)
def m_Opener_openChunks_B41 (h0_input_count : Int32) (h0_input_held_n : Nat) (h0_input_held_f : Nat → Int32) (h0_blocks_facts_n : Nat) (h0_to_held_n : Nat) (f15 : Nat → Int32) (f16 : Nat → Int32) (g17 : Int32) (g18 : Int32) (g19 : Int32) (g20 : Int32) (g21 : Int32) (g22 : Int32) (g23 : Int32) (g24 : Int32) (g25 : Int32) (g26 : Int32) (j1_27 : Int32) : Option (((Nat → Int32) × (Nat → Int32) × Int32 × Int32 × Int32 × Int32 × Int32 × Int32 × Int32 × Int32 × Int32 × Int32 × Int32) ⊕ (((Nat → Int32) × (Nat → Int32) × Int32 × Int32 × Int32 × Int32 × Int32 × Int32 × Int32 × Int32 × Int32 × Int32) ⊕ (((Int32 × Int32 × Int32 × Int32 × Int32 × Int32 × Int32 × Int32 × Int32 × Int32 × Int32 × (Nat → Int32) × (Nat → Int32)))))) :=
  if (4000 : Int32) ≤ j1_27 then
    some (.inr (.inl (f15, f16, g17, g18, g19, g20, g21, g22, g23, g24, g25, g26)))
  else
    if g23 ≤ g22 then
      some (.inr (.inl (f15, f16, g17, g18, g19, g20, g21, g22, g23, g24, g25, g26)))
    else
      (m_Opener_openChunk g20 g21 g22 g23 g24 g17 g18 g19 h0_input_count h0_input_held_n h0_input_held_f g25 g26 h0_blocks_facts_n f15 h0_to_held_n f16).bind fun (r28, u29, u30, u31, u32, u33, u34, u35, u36, u37, u38, u39, u40) =>
      if r28 = 0 then
        some (.inr (.inr ((0 : Int32), u29, u30, u31, u32, u33, u34, u35, u36, u37, u38, u39, u40)))
      else
        bnd (j1_27 + (1 : Int32)) fun v1_41 =>
        some (.inl (u39, u40, u34, u35, u36, u29, u30, u31, u32, u33, u37, u38, v1_41))
def m_Opener_openChunks (h0_broken : Int32) (h0_brokenAt : Int32) (h0_at : Int32) (h0_end : Int32) (h0_begin : Int32) (h0_copies : Int32) (h0_literals : Int32) (h0_parts : Int32) (h0_input_count : Int32) (h0_input_held_n : Nat) (h0_input_held_f : Nat → Int32) (h0_blocks_count : Int32) (h0_to_count : Int32) (h0_blocks_facts_n : Nat) (h0_blocks_facts_f : Nat → Int32) (h0_to_held_n : Nat) (h0_to_held_f : Nat → Int32) : Option (Int32 × Int32 × Int32 × Int32 × Int32 × Int32 × Int32 × Int32 × Int32 × Int32 × Int32 × (Nat → Int32) × (Nat → Int32)) :=
  (m_Opener_lacks (1 : Int32) h0_at h0_end).bind fun r1 =>
  if r1 = 0 then
    (m_Bytes_at (0 : Int32) h0_input_count h0_input_held_n h0_input_held_f).bind fun r2 =>
    if r2 = (255 : Int32) then
      (iter (fun st => m_Opener_openChunks_B41 h0_input_count h0_input_held_n h0_input_held_f h0_blocks_facts_n h0_to_held_n st.1 st.2.1 st.2.2.1 st.2.2.2.1 st.2.2.2.2.1 st.2.2.2.2.2.1 st.2.2.2.2.2.2.1 st.2.2.2.2.2.2.2.1 st.2.2.2.2.2.2.2.2.1 st.2.2.2.2.2.2.2.2.2.1 st.2.2.2.2.2.2.2.2.2.2.1 st.2.2.2.2.2.2.2.2.2.2.2.1 st.2.2.2.2.2.2.2.2.2.2.2.2) FU (h0_blocks_facts_f, h0_to_held_f, h0_copies, h0_literals, h0_parts, h0_broken, h0_brokenAt, h0_at, h0_end, h0_begin, h0_blocks_count, h0_to_count, (0 : Int32))).bind fun o => match o with | (.inl y) => m_Opener_openChunks_E74 y.1 y.2.1 y.2.2.1 y.2.2.2.1 y.2.2.2.2.1 y.2.2.2.2.2.1 y.2.2.2.2.2.2.1 y.2.2.2.2.2.2.2.1 y.2.2.2.2.2.2.2.2.1 y.2.2.2.2.2.2.2.2.2.1 y.2.2.2.2.2.2.2.2.2.2.1 y.2.2.2.2.2.2.2.2.2.2.2 | (.inr y) => some y
    else
      (m_Opener_breaks (4 : Int32) (0 : Int32)).bind fun (r42, u43, u44) =>
      bch r42 <|
      some (r42, u43, u44, h0_at, h0_end, h0_begin, h0_copies, h0_literals, h0_parts, h0_blocks_count, h0_to_count, h0_blocks_facts_f, h0_to_held_f)
  else
    (m_Opener_breaks (1 : Int32) h0_end).bind fun (r45, u46, u47) =>
    bch r45 <|
    some (r45, u46, u47, h0_at, h0_end, h0_begin, h0_copies, h0_literals, h0_parts, h0_blocks_count, h0_to_count, h0_blocks_facts_f, h0_to_held_f)
def rm_Opener_openChunks : Room := { frames := 7, cells := 0, slots := 0, locals := 189 }
set_option maxHeartbeats 4000000 in
set_option maxRecDepth 100000 in
theorem c_Opener_openChunks {l : Launch} {dC : Nat → ClassId} {dI : Nat → Nat → Nat} {cB cI : ClassId} {sz : Nat} {h0 : Nat} {h0_input : Nat} {h0_input_held : Nat} {h0_blocks : Nat} {h0_to : Nat} {h0_blocks_facts : Nat} {h0_to_held : Nat} {w_h0_words : Value} {w_h0_settings : Value} {h0_broken : Int32} {h0_brokenAt : Int32} {h0_at : Int32} {h0_end : Int32} {h0_begin : Int32} {h0_copies : Int32} {h0_literals : Int32} {h0_parts : Int32} {w_h0_frameBegin : Value} {w_h0_flags : Value} {w_h0_width : Value} {w_h0_size : Value} {h0_input_count : Int32} {h0_input_held_n : Nat} {h0_input_held_f : Nat → Int32} {h0_blocks_count : Int32} {h0_to_count : Int32} {h0_blocks_facts_n : Nat} {h0_blocks_facts_f : Nat → Int32} {h0_to_held_n : Nat} {h0_to_held_f : Nat → Int32} {o_r : Int32} {o_h0_broken : Int32} {o_h0_brokenAt : Int32} {o_h0_at : Int32} {o_h0_end : Int32} {o_h0_begin : Int32} {o_h0_copies : Int32} {o_h0_literals : Int32} {o_h0_parts : Int32} {o_h0_blocks_count : Int32} {o_h0_to_count : Int32} {o_h0_blocks_facts_f : Nat → Int32} {o_h0_to_held_f : Nat → Int32} (hf : m_Opener_openChunks h0_broken h0_brokenAt h0_at h0_end h0_begin h0_copies h0_literals h0_parts h0_input_count h0_input_held_n h0_input_held_f h0_blocks_count h0_to_count h0_blocks_facts_n h0_blocks_facts_f h0_to_held_n h0_to_held_f = some (o_r, o_h0_broken, o_h0_brokenAt, o_h0_at, o_h0_end, o_h0_begin, o_h0_copies, o_h0_literals, o_h0_parts, o_h0_blocks_count, o_h0_to_count, o_h0_blocks_facts_f, o_h0_to_held_f)) : Met l yX6_openChunks (Cond.code yX6_openChunks cX6_openChunks 2 (some .boolean) :: lw_G) rm_Opener_openChunks (PreC (dC, dI) [(cB, .byte), (cI, .int)] [.ref h0] sz [(h0, .inr (5, [.ref h0_input, w_h0_words, w_h0_settings, .ref h0_to, .ref h0_blocks, .int h0_broken, .int h0_brokenAt, .int h0_at, .int h0_end, .int h0_begin, .int h0_copies, .int h0_literals, .int h0_parts, w_h0_frameBegin, w_h0_flags, w_h0_width, w_h0_size])), (h0_input, .inr (2, [.ref h0_input_held, .int h0_input_count])), (h0_input_held, .inl (cB, h0_input_held_n, .inl h0_input_held_f)), (h0_blocks, .inr (1, [.ref h0_blocks_facts, .int h0_blocks_count])), (h0_to, .inr (2, [.ref h0_to_held, .int h0_to_count])), (h0_blocks_facts, .inl (cI, h0_blocks_facts_n, .inl h0_blocks_facts_f)), (h0_to_held, .inl (cB, h0_to_held_n, .inl h0_to_held_f))]) (QcI o_r (dC, dI) [(h0, .inr (5, [.ref h0_input, w_h0_words, w_h0_settings, .ref h0_to, .ref h0_blocks, .int o_h0_broken, .int o_h0_brokenAt, .int o_h0_at, .int o_h0_end, .int o_h0_begin, .int o_h0_copies, .int o_h0_literals, .int o_h0_parts, w_h0_frameBegin, w_h0_flags, w_h0_width, w_h0_size])), (h0_input, .inr (2, [.ref h0_input_held, .int h0_input_count])), (h0_input_held, .inl (cB, h0_input_held_n, .inl h0_input_held_f)), (h0_blocks, .inr (1, [.ref h0_blocks_facts, .int o_h0_blocks_count])), (h0_to, .inr (2, [.ref h0_to_held, .int o_h0_to_count])), (h0_blocks_facts, .inl (cI, h0_blocks_facts_n, .inl o_h0_blocks_facts_f)), (h0_to_held, .inl (cB, h0_to_held_n, .inl o_h0_to_held_f))] (va_A [(h0, .inr (5, [.ref h0_input, w_h0_words, w_h0_settings, .ref h0_to, .ref h0_blocks, .int h0_broken, .int h0_brokenAt, .int h0_at, .int h0_end, .int h0_begin, .int h0_copies, .int h0_literals, .int h0_parts, w_h0_frameBegin, w_h0_flags, w_h0_width, w_h0_size])), (h0_input, .inr (2, [.ref h0_input_held, .int h0_input_count])), (h0_input_held, .inl (cB, h0_input_held_n, .inl h0_input_held_f)), (h0_blocks, .inr (1, [.ref h0_blocks_facts, .int h0_blocks_count])), (h0_to, .inr (2, [.ref h0_to_held, .int h0_to_count])), (h0_blocks_facts, .inl (cI, h0_blocks_facts_n, .inl h0_blocks_facts_f)), (h0_to_held, .inl (cB, h0_to_held_n, .inl h0_to_held_f))] sz)) 0 0 (va_A [(h0, .inr (5, [.ref h0_input, w_h0_words, w_h0_settings, .ref h0_to, .ref h0_blocks, .int h0_broken, .int h0_brokenAt, .int h0_at, .int h0_end, .int h0_begin, .int h0_copies, .int h0_literals, .int h0_parts, w_h0_frameBegin, w_h0_flags, w_h0_width, w_h0_size])), (h0_input, .inr (2, [.ref h0_input_held, .int h0_input_count])), (h0_input_held, .inl (cB, h0_input_held_n, .inl h0_input_held_f)), (h0_blocks, .inr (1, [.ref h0_blocks_facts, .int h0_blocks_count])), (h0_to, .inr (2, [.ref h0_to_held, .int h0_to_count])), (h0_blocks_facts, .inl (cI, h0_blocks_facts_n, .inl h0_blocks_facts_f)), (h0_to_held, .inl (cB, h0_to_held_n, .inl h0_to_held_f))] sz) := by
  refine met_of (Qf := fun A => QcI o_r (dC, dI) [(h0, .inr (5, [.ref h0_input, w_h0_words, w_h0_settings, .ref h0_to, .ref h0_blocks, .int o_h0_broken, .int o_h0_brokenAt, .int o_h0_at, .int o_h0_end, .int o_h0_begin, .int o_h0_copies, .int o_h0_literals, .int o_h0_parts, w_h0_frameBegin, w_h0_flags, w_h0_width, w_h0_size])), (h0_input, .inr (2, [.ref h0_input_held, .int h0_input_count])), (h0_input_held, .inl (cB, h0_input_held_n, .inl h0_input_held_f)), (h0_blocks, .inr (1, [.ref h0_blocks_facts, .int o_h0_blocks_count])), (h0_to, .inr (2, [.ref h0_to_held, .int o_h0_to_count])), (h0_blocks_facts, .inl (cI, h0_blocks_facts_n, .inl o_h0_blocks_facts_f)), (h0_to_held, .inl (cB, h0_to_held_n, .inl o_h0_to_held_f))] A) (by decide) (Nat.le_of_ble_eq_true rfl) ?_
  intro p e s m below meth c A ls Q hx hb hr hml hown hts hlocks hnm hP hK hD hN hT hA hl hQ
  have hown : s.vm.findClass RX6 = some m.cls := hown
  have hS : va_S A s.heap s.heap [] := va_S.rf
  have hl : lv_has ls 2 [(0, .ref h0)] := hl
  unfold m_Opener_openChunks at hf
  refine lv_aload_n hx hb dX6_openChunks_0 rfl (lv_at hl 0 rfl) ?_
  refine lv_iconst (v := 1) hx hb dX6_openChunks_1 (by decide) ?_
  obtain ⟨r1, hc, hf⟩ := bind_some hf
  refine nx_i (rn_V (As := [.int (1 : Int32)]) (rest := []) (n := 1) (ci := 5) (q0 := 0) ⟨hx, hb, hml, hown, hts⟩ (c_Opener_lacks (l := l) (dC := dC) (dI := dI) (cB := cB) (cI := cI) (h0 := h0) (a1 := (1 : Int32)) (w_h0_input := (.ref h0_input)) (w_h0_words := (w_h0_words)) (w_h0_settings := (w_h0_settings)) (w_h0_to := (.ref h0_to)) (w_h0_blocks := (.ref h0_blocks)) (w_h0_broken := (.int h0_broken)) (w_h0_brokenAt := (.int h0_brokenAt)) (h0_at := h0_at) (h0_end := h0_end) (w_h0_begin := (.int h0_begin)) (w_h0_copies := (.int h0_copies)) (w_h0_literals := (.int h0_literals)) (w_h0_parts := (.int h0_parts)) (w_h0_frameBegin := (w_h0_frameBegin)) (w_h0_flags := (w_h0_flags)) (w_h0_width := (w_h0_width)) (w_h0_size := (w_h0_size))  (o_r := r1) hc) (wV kw_867 kw_869 kw_25 kw_92 kw_870) (by decide +kernel) ⟨Nat.le_of_ble_eq_true rfl, Nat.le_of_ble_eq_true rfl⟩ hK hP hD hN hT hS (va_free (wc := [(h0, .inr (5, [.ref h0_input, w_h0_words, w_h0_settings, .ref h0_to, .ref h0_blocks, .int h0_broken, .int h0_brokenAt, .int h0_at, .int h0_end, .int h0_begin, .int h0_copies, .int h0_literals, .int h0_parts, w_h0_frameBegin, w_h0_flags, w_h0_width, w_h0_size]))]) hD hS hA [0] rfl) [0] rfl (by decide) rfl rfl rfl hl.1 rfl (lv_room (Nat.le_of_ble_eq_true rfl)) dX6_openChunks_2 ⟨Nat.le_of_ble_eq_true rfl, Nat.le_of_ble_eq_true rfl⟩) hP hD hS hA (wr := [(h0_input, .inr (2, [.ref h0_input_held, .int h0_input_count])), (h0_input_held, .inl (cB, h0_input_held_n, .inl h0_input_held_f)), (h0_blocks, .inr (1, [.ref h0_blocks_facts, .int h0_blocks_count])), (h0_to, .inr (2, [.ref h0_to_held, .int h0_to_count])), (h0_blocks_facts, .inl (cI, h0_blocks_facts_n, .inl h0_blocks_facts_f)), (h0_to_held, .inl (cB, h0_to_held_n, .inl h0_to_held_f))]) (w1 := [(h0, .inr (5, [.ref h0_input, w_h0_words, w_h0_settings, .ref h0_to, .ref h0_blocks, .int h0_broken, .int h0_brokenAt, .int h0_at, .int h0_end, .int h0_begin, .int h0_copies, .int h0_literals, .int h0_parts, w_h0_frameBegin, w_h0_flags, w_h0_width, w_h0_size]))]) (ws' := [(h0, .inr (5, [.ref h0_input, w_h0_words, w_h0_settings, .ref h0_to, .ref h0_blocks, .int h0_broken, .int h0_brokenAt, .int h0_at, .int h0_end, .int h0_begin, .int h0_copies, .int h0_literals, .int h0_parts, w_h0_frameBegin, w_h0_flags, w_h0_width, w_h0_size])), (h0_input, .inr (2, [.ref h0_input_held, .int h0_input_count])), (h0_input_held, .inl (cB, h0_input_held_n, .inl h0_input_held_f)), (h0_blocks, .inr (1, [.ref h0_blocks_facts, .int h0_blocks_count])), (h0_to, .inr (2, [.ref h0_to_held, .int h0_to_count])), (h0_blocks_facts, .inl (cI, h0_blocks_facts_n, .inl h0_blocks_facts_f)), (h0_to_held, .inl (cB, h0_to_held_n, .inl h0_to_held_f))]) [0] [1, 2, 3, 4, 5, 6] [6, 0, 1, 2, 3, 4, 5] rfl rfl (by decide) (by decide) rfl (by decide) (fun H locs hP hD hS => ?_)
  refine lv_if_eq (tgt := 18) hx hb dX6_openChunks_5 (by decide) (fun c_5 => ?_) (fun c_5 => ?_)
  · replace hf := if_t c_5 hf
    refine lv_aload_n hx hb dX6_openChunks_18 rfl (lv_at hl 0 rfl) ?_
    refine va_get (D := (dC, dI)) (ci := 5) (v := .ref h0_input) (C := RX6) (T := TX6) (N := 17) hx hb hts inG_X6 hown hK hP 0 rfl rfl 0 (by decide) (hts _ kw_289) (fun _ h9 => h9) rfl dX6_openChunks_19 ?_
    refine lv_iconst (v := 0) hx hb dX6_openChunks_22 (by decide) ?_
    obtain ⟨r2, hc, hf⟩ := bind_some hf
    refine nx_i (rn_V (As := [.int (0 : Int32)]) (rest := []) (n := 1) (ci := 2) (q0 := 0) ⟨hx, hb, hml, hown, hts⟩ (c_Bytes_at (l := l) (dC := dC) (dI := dI) (cB := cB) (cI := cI) (h0 := h0_input) (a1 := (0 : Int32)) (h0_held := h0_input_held) (h0_count := h0_input_count) (h0_held_n := h0_input_held_n) (h0_held_f := h0_input_held_f)  (o_r := r2) hc) (wV kw_862 kw_418 kw_419 kw_83 kw_420) (by decide +kernel) ⟨Nat.le_of_ble_eq_true rfl, Nat.le_of_ble_eq_true rfl⟩ hK hP hD hN hT hS (va_free (wc := [(h0_input, .inr (2, [.ref h0_input_held, .int h0_input_count])), (h0_input_held, .inl (cB, h0_input_held_n, .inl h0_input_held_f))]) hD hS hA [1, 2] rfl) [1, 2] rfl (by decide) rfl rfl rfl hl.1 rfl (lv_room (Nat.le_of_ble_eq_true rfl)) dX6_openChunks_23 ⟨Nat.le_of_ble_eq_true rfl, Nat.le_of_ble_eq_true rfl⟩) hP hD hS hA (wr := [(h0, .inr (5, [.ref h0_input, w_h0_words, w_h0_settings, .ref h0_to, .ref h0_blocks, .int h0_broken, .int h0_brokenAt, .int h0_at, .int h0_end, .int h0_begin, .int h0_copies, .int h0_literals, .int h0_parts, w_h0_frameBegin, w_h0_flags, w_h0_width, w_h0_size])), (h0_blocks, .inr (1, [.ref h0_blocks_facts, .int h0_blocks_count])), (h0_to, .inr (2, [.ref h0_to_held, .int h0_to_count])), (h0_blocks_facts, .inl (cI, h0_blocks_facts_n, .inl h0_blocks_facts_f)), (h0_to_held, .inl (cB, h0_to_held_n, .inl h0_to_held_f))]) (w1 := [(h0_input, .inr (2, [.ref h0_input_held, .int h0_input_count])), (h0_input_held, .inl (cB, h0_input_held_n, .inl h0_input_held_f))]) (ws' := [(h0, .inr (5, [.ref h0_input, w_h0_words, w_h0_settings, .ref h0_to, .ref h0_blocks, .int h0_broken, .int h0_brokenAt, .int h0_at, .int h0_end, .int h0_begin, .int h0_copies, .int h0_literals, .int h0_parts, w_h0_frameBegin, w_h0_flags, w_h0_width, w_h0_size])), (h0_input, .inr (2, [.ref h0_input_held, .int h0_input_count])), (h0_input_held, .inl (cB, h0_input_held_n, .inl h0_input_held_f)), (h0_blocks, .inr (1, [.ref h0_blocks_facts, .int h0_blocks_count])), (h0_to, .inr (2, [.ref h0_to_held, .int h0_to_count])), (h0_blocks_facts, .inl (cI, h0_blocks_facts_n, .inl h0_blocks_facts_f)), (h0_to_held, .inl (cB, h0_to_held_n, .inl h0_to_held_f))]) [1, 2] [0, 3, 4, 5, 6] [0, 5, 6, 1, 2, 3, 4] rfl rfl (by decide) (by decide) rfl (by decide) (fun H locs hP hD hS => ?_)
    refine lv_sipush (v := 255) hx hb dX6_openChunks_26 (by decide) ?_
    refine lv_icmp_eq (tgt := 39) hx hb dX6_openChunks_29 (by decide) (fun c_29 => ?_) (fun c_29 => ?_)
    · replace hf := if_t c_29 hf
      refine lv_iconst (v := 0) hx hb dX6_openChunks_39 (by decide) ?_
      refine lv_istore_n (lv' := [(1, .int (0 : Int32)), (0, .ref h0)]) hx hb dX6_openChunks_40 rfl hl (by decide) rfl (fun ls hl => ?_)
      have hJ_74 : ∀ (f3 : Nat → Int32) (f4 : Nat → Int32) (g5 : Int32) (g6 : Int32) (g7 : Int32) (g8 : Int32) (g9 : Int32) (g10 : Int32) (g11 : Int32) (g12 : Int32) (g13 : Int32) (g14 : Int32) (H : Heap) (locs : List Loc) (ls : Array Slot), m_Opener_openChunks_E74 f3 f4 g5 g6 g7 g8 g9 g10 g11 g12 g13 g14 = some (o_r, o_h0_broken, o_h0_brokenAt, o_h0_at, o_h0_end, o_h0_begin, o_h0_copies, o_h0_literals, o_h0_parts, o_h0_blocks_count, o_h0_to_count, o_h0_blocks_facts_f, o_h0_to_held_f) → va_P (dC, dI) vwCl [(h0, .inr (5, [.ref h0_input, w_h0_words, w_h0_settings, .ref h0_to, .ref h0_blocks, .int g8, .int g9, .int g10, .int g11, .int g12, .int g5, .int g6, .int g7, w_h0_frameBegin, w_h0_flags, w_h0_width, w_h0_size])), (h0_input, .inr (2, [.ref h0_input_held, .int h0_input_count])), (h0_input_held, .inl (cB, h0_input_held_n, .inl h0_input_held_f)), (h0_blocks, .inr (1, [.ref h0_blocks_facts, .int g13])), (h0_to, .inr (2, [.ref h0_to_held, .int g14])), (h0_blocks_facts, .inl (cI, h0_blocks_facts_n, .inl f3)), (h0_to_held, .inl (cB, h0_to_held_n, .inl f4))] H → va_D A [(h0, .inr (5, [.ref h0_input, w_h0_words, w_h0_settings, .ref h0_to, .ref h0_blocks, .int g8, .int g9, .int g10, .int g11, .int g12, .int g5, .int g6, .int g7, w_h0_frameBegin, w_h0_flags, w_h0_width, w_h0_size])), (h0_input, .inr (2, [.ref h0_input_held, .int h0_input_count])), (h0_input_held, .inl (cB, h0_input_held_n, .inl h0_input_held_f)), (h0_blocks, .inr (1, [.ref h0_blocks_facts, .int g13])), (h0_to, .inr (2, [.ref h0_to_held, .int g14])), (h0_blocks_facts, .inl (cI, h0_blocks_facts_n, .inl f3)), (h0_to_held, .inl (cB, h0_to_held_n, .inl f4))] → va_S A s.heap H locs → lv_has ls 2 [] → W p l e (rm_Opener_openChunks) s m ([.ref h0] : List Value).toArray below meth c H locs 0 0 Q (F0 m 74 ls []) := by
        intro f3 f4 g5 g6 g7 g8 g9 g10 g11 g12 g13 g14 H locs ls hf hP hD hS hl
        unfold m_Opener_openChunks_E74 at hf
        refine lv_iconst (v := 1) hx hb dX6_openChunks_74 (by decide) ?_
        have hzb : narrow .boolean (.int (1 : Int32)) = .int (1 : Int32) := rfl
        obtain ⟨rfl, hq_1⟩ := Prod.mk.inj (Option.some.inj hf)
        obtain ⟨rfl, hq_2⟩ := Prod.mk.inj hq_1
        obtain ⟨rfl, hq_3⟩ := Prod.mk.inj hq_2
        obtain ⟨rfl, hq_4⟩ := Prod.mk.inj hq_3
        obtain ⟨rfl, hq_5⟩ := Prod.mk.inj hq_4
        obtain ⟨rfl, hq_6⟩ := Prod.mk.inj hq_5
        obtain ⟨rfl, hq_7⟩ := Prod.mk.inj hq_6
        obtain ⟨rfl, hq_8⟩ := Prod.mk.inj hq_7
        obtain ⟨rfl, hq_9⟩ := Prod.mk.inj hq_8
        obtain ⟨rfl, hq_10⟩ := Prod.mk.inj hq_9
        obtain ⟨rfl, hq_11⟩ := Prod.mk.inj hq_10
        obtain ⟨rfl, hq_12⟩ := Prod.mk.inj hq_11
        obtain rfl := hq_12
        exact rt_z hQ hx hb hr hzb hlocks hP hD hS dX6_openChunks_75
      obtain ⟨o_41, hi_41, hk_41⟩ := bind_some hf
      have hL_41 : ∀ (n : Nat) (f15 : Nat → Int32) (f16 : Nat → Int32) (g17 : Int32) (g18 : Int32) (g19 : Int32) (g20 : Int32) (g21 : Int32) (g22 : Int32) (g23 : Int32) (g24 : Int32) (g25 : Int32) (g26 : Int32) (j1_27 : Int32) (H : Heap) (locs : List Loc) (ls : Array Slot), iter (fun st => m_Opener_openChunks_B41 h0_input_count h0_input_held_n h0_input_held_f h0_blocks_facts_n h0_to_held_n st.1 st.2.1 st.2.2.1 st.2.2.2.1 st.2.2.2.2.1 st.2.2.2.2.2.1 st.2.2.2.2.2.2.1 st.2.2.2.2.2.2.2.1 st.2.2.2.2.2.2.2.2.1 st.2.2.2.2.2.2.2.2.2.1 st.2.2.2.2.2.2.2.2.2.2.1 st.2.2.2.2.2.2.2.2.2.2.2.1 st.2.2.2.2.2.2.2.2.2.2.2.2) n (f15, f16, g17, g18, g19, g20, g21, g22, g23, g24, g25, g26, j1_27) = some o_41 → va_P (dC, dI) vwCl [(h0, .inr (5, [.ref h0_input, w_h0_words, w_h0_settings, .ref h0_to, .ref h0_blocks, .int g20, .int g21, .int g22, .int g23, .int g24, .int g17, .int g18, .int g19, w_h0_frameBegin, w_h0_flags, w_h0_width, w_h0_size])), (h0_input, .inr (2, [.ref h0_input_held, .int h0_input_count])), (h0_input_held, .inl (cB, h0_input_held_n, .inl h0_input_held_f)), (h0_blocks, .inr (1, [.ref h0_blocks_facts, .int g25])), (h0_to, .inr (2, [.ref h0_to_held, .int g26])), (h0_blocks_facts, .inl (cI, h0_blocks_facts_n, .inl f15)), (h0_to_held, .inl (cB, h0_to_held_n, .inl f16))] H → va_D A [(h0, .inr (5, [.ref h0_input, w_h0_words, w_h0_settings, .ref h0_to, .ref h0_blocks, .int g20, .int g21, .int g22, .int g23, .int g24, .int g17, .int g18, .int g19, w_h0_frameBegin, w_h0_flags, w_h0_width, w_h0_size])), (h0_input, .inr (2, [.ref h0_input_held, .int h0_input_count])), (h0_input_held, .inl (cB, h0_input_held_n, .inl h0_input_held_f)), (h0_blocks, .inr (1, [.ref h0_blocks_facts, .int g25])), (h0_to, .inr (2, [.ref h0_to_held, .int g26])), (h0_blocks_facts, .inl (cI, h0_blocks_facts_n, .inl f15)), (h0_to_held, .inl (cB, h0_to_held_n, .inl f16))] → va_S A s.heap H locs → lv_has ls 2 [(0, .ref h0), (1, .int j1_27)] → W p l e (rm_Opener_openChunks) s m ([.ref h0] : List Value).toArray below meth c H locs 0 0 Q (F0 m 41 ls []) := by
        intro n
        induction n with
        | zero => intro f15 f16 g17 g18 g19 g20 g21 g22 g23 g24 g25 g26 j1_27 H locs ls hf; exact absurd hf (fun z => by cases z)
        | succ n ih_41 =>
          intro f15 f16 g17 g18 g19 g20 g21 g22 g23 g24 g25 g26 j1_27 H locs ls hf hP hD hS hl
          obtain ⟨r_41, hf, hr_41⟩ := iter_succ hf
          have hf : m_Opener_openChunks_B41 h0_input_count h0_input_held_n h0_input_held_f h0_blocks_facts_n h0_to_held_n f15 f16 g17 g18 g19 g20 g21 g22 g23 g24 g25 g26 j1_27 = some r_41 := hf
          unfold m_Opener_openChunks_B41 at hf
          refine lv_iload_n hx hb dX6_openChunks_41 rfl (lv_at hl 1 rfl) ?_
          refine lv_sipush (v := 4000) hx hb dX6_openChunks_42 (by decide) ?_
          refine lv_icmp_ge (tgt := 74) hx hb dX6_openChunks_45 (by decide) (fun c_45 => ?_) (fun c_45 => ?_)
          · replace hf := if_t c_45 hf
            have hf : m_Opener_openChunks_E74 f15 f16 g17 g18 g19 g20 g21 g22 g23 g24 g25 g26 = some (o_r, o_h0_broken, o_h0_brokenAt, o_h0_at, o_h0_end, o_h0_begin, o_h0_copies, o_h0_literals, o_h0_parts, o_h0_blocks_count, o_h0_to_count, o_h0_blocks_facts_f, o_h0_to_held_f) := by have hq := hk_41; rw [iter_exit hf hr_41] at hq; exact hq
            exact hJ_74 f15 f16 g17 g18 g19 g20 g21 g22 g23 g24 g25 g26 _ _ _ hf hP hD hS (lv_sub hl [] rfl)
          · replace hf := if_f c_45 hf
            refine lv_aload_n hx hb dX6_openChunks_48 rfl (lv_at hl 0 rfl) ?_
            refine va_get (D := (dC, dI)) (ci := 5) (v := .int g22) (C := RX6) (T := TX6) (N := 17) hx hb hts inG_X6 hown hK hP 0 rfl rfl 7 (by decide) (hts _ kw_296) (fun _ h9 => h9) rfl dX6_openChunks_49 ?_
            refine lv_aload_n hx hb dX6_openChunks_52 rfl (lv_at hl 0 rfl) ?_
            refine va_get (D := (dC, dI)) (ci := 5) (v := .int g23) (C := RX6) (T := TX6) (N := 17) hx hb hts inG_X6 hown hK hP 0 rfl rfl 8 (by decide) (hts _ kw_297) (fun _ h9 => h9) rfl dX6_openChunks_53 ?_
            refine lv_icmp_ge (tgt := 74) hx hb dX6_openChunks_56 (by decide) (fun c_56 => ?_) (fun c_56 => ?_)
            · replace hf := if_t c_56 hf
              have hf : m_Opener_openChunks_E74 f15 f16 g17 g18 g19 g20 g21 g22 g23 g24 g25 g26 = some (o_r, o_h0_broken, o_h0_brokenAt, o_h0_at, o_h0_end, o_h0_begin, o_h0_copies, o_h0_literals, o_h0_parts, o_h0_blocks_count, o_h0_to_count, o_h0_blocks_facts_f, o_h0_to_held_f) := by have hq := hk_41; rw [iter_exit hf hr_41] at hq; exact hq
              exact hJ_74 f15 f16 g17 g18 g19 g20 g21 g22 g23 g24 g25 g26 _ _ _ hf hP hD hS (lv_sub hl [] rfl)
            · replace hf := if_f c_56 hf
              refine lv_aload_n hx hb dX6_openChunks_59 rfl (lv_at hl 0 rfl) ?_
              obtain ⟨x, hc, hf⟩ := bind_some hf
              obtain ⟨r28, u29, u30, u31, u32, u33, u34, u35, u36, u37, u38, u39, u40⟩ := x
              dsimp only at hf
              refine nx_i (rn_V (As := []) (rest := []) (n := 0) (ci := 5) (q0 := 0) ⟨hx, hb, hml, hown, hts⟩ (c_Opener_openChunk (l := l) (dC := dC) (dI := dI) (cB := cB) (cI := cI) (h0 := h0) (h0_input := h0_input) (h0_input_held := h0_input_held) (h0_blocks := h0_blocks) (h0_to := h0_to) (h0_blocks_facts := h0_blocks_facts) (h0_to_held := h0_to_held) (w_h0_words := (w_h0_words)) (w_h0_settings := (w_h0_settings)) (h0_broken := g20) (h0_brokenAt := g21) (h0_at := g22) (h0_end := g23) (h0_begin := g24) (h0_copies := g17) (h0_literals := g18) (h0_parts := g19) (w_h0_frameBegin := (w_h0_frameBegin)) (w_h0_flags := (w_h0_flags)) (w_h0_width := (w_h0_width)) (w_h0_size := (w_h0_size)) (h0_input_count := h0_input_count) (h0_input_held_n := h0_input_held_n) (h0_input_held_f := h0_input_held_f) (h0_blocks_count := g25) (h0_to_count := g26) (h0_blocks_facts_n := h0_blocks_facts_n) (h0_blocks_facts_f := f15) (h0_to_held_n := h0_to_held_n) (h0_to_held_f := f16) (o_h0_broken := u29) (o_h0_brokenAt := u30) (o_h0_at := u31) (o_h0_end := u32) (o_h0_begin := u33) (o_h0_copies := u34) (o_h0_literals := u35) (o_h0_parts := u36) (o_h0_blocks_count := u37) (o_h0_to_count := u38) (o_h0_blocks_facts_f := u39) (o_h0_to_held_f := u40) (o_r := r28) hc) (wV kw_977 kw_979 kw_44 kw_92 kw_980) (by decide +kernel) ⟨Nat.le_of_ble_eq_true rfl, Nat.le_of_ble_eq_true rfl⟩ hK hP hD hN hT hS (va_free (wc := [(h0, .inr (5, [.ref h0_input, w_h0_words, w_h0_settings, .ref h0_to, .ref h0_blocks, .int g20, .int g21, .int g22, .int g23, .int g24, .int g17, .int g18, .int g19, w_h0_frameBegin, w_h0_flags, w_h0_width, w_h0_size])), (h0_input, .inr (2, [.ref h0_input_held, .int h0_input_count])), (h0_input_held, .inl (cB, h0_input_held_n, .inl h0_input_held_f)), (h0_blocks, .inr (1, [.ref h0_blocks_facts, .int g25])), (h0_to, .inr (2, [.ref h0_to_held, .int g26])), (h0_blocks_facts, .inl (cI, h0_blocks_facts_n, .inl f15)), (h0_to_held, .inl (cB, h0_to_held_n, .inl f16))]) hD hS hA [0, 1, 2, 3, 4, 5, 6] rfl) [0, 1, 2, 3, 4, 5, 6] rfl (by decide) rfl rfl rfl hl.1 rfl (lv_room (Nat.le_of_ble_eq_true rfl)) dX6_openChunks_60 ⟨Nat.le_of_ble_eq_true rfl, Nat.le_of_ble_eq_true rfl⟩) hP hD hS hA (wr := []) (w1 := [(h0, .inr (5, [.ref h0_input, w_h0_words, w_h0_settings, .ref h0_to, .ref h0_blocks, .int u29, .int u30, .int u31, .int u32, .int u33, .int u34, .int u35, .int u36, w_h0_frameBegin, w_h0_flags, w_h0_width, w_h0_size])), (h0_input, .inr (2, [.ref h0_input_held, .int h0_input_count])), (h0_input_held, .inl (cB, h0_input_held_n, .inl h0_input_held_f)), (h0_blocks, .inr (1, [.ref h0_blocks_facts, .int u37])), (h0_to, .inr (2, [.ref h0_to_held, .int u38])), (h0_blocks_facts, .inl (cI, h0_blocks_facts_n, .inl u39)), (h0_to_held, .inl (cB, h0_to_held_n, .inl u40))]) (ws' := [(h0, .inr (5, [.ref h0_input, w_h0_words, w_h0_settings, .ref h0_to, .ref h0_blocks, .int u29, .int u30, .int u31, .int u32, .int u33, .int u34, .int u35, .int u36, w_h0_frameBegin, w_h0_flags, w_h0_width, w_h0_size])), (h0_input, .inr (2, [.ref h0_input_held, .int h0_input_count])), (h0_input_held, .inl (cB, h0_input_held_n, .inl h0_input_held_f)), (h0_blocks, .inr (1, [.ref h0_blocks_facts, .int u37])), (h0_to, .inr (2, [.ref h0_to_held, .int u38])), (h0_blocks_facts, .inl (cI, h0_blocks_facts_n, .inl u39)), (h0_to_held, .inl (cB, h0_to_held_n, .inl u40))]) [0, 1, 2, 3, 4, 5, 6] [] [0, 1, 2, 3, 4, 5, 6] rfl rfl (by decide) (by decide) rfl (by decide) (fun H locs hP hD hS => ?_)
              refine lv_if_ne (tgt := 68) hx hb dX6_openChunks_63 (by decide) (fun c_63 => ?_) (fun c_63 => ?_)
              · replace hf := if_f c_63 hf
                obtain ⟨v1_41, e_v1_41⟩ : ∃ y : Int32, y = (j1_27 + (1 : Int32)) := ⟨_, rfl⟩
                replace hf := bnd_at e_v1_41 hf
                refine lv_iinc (v := v1_41) (lv' := [(1, .int v1_41), (0, .ref h0)]) hx hb dX6_openChunks_68 hl (k := 1) rfl (by rw [e_v1_41]; rfl) (by decide) rfl (fun ls hl => ?_)
                refine lv_goto (tgt := 41) hx hb dX6_openChunks_71 (by decide) ?_
                exact ih_41 u39 u40 u34 u35 u36 u29 u30 u31 u32 u33 u37 u38 v1_41 _ _ _ (iter_back hf hr_41) hP hD hS (lv_sub hl [1, 0] rfl)
              · replace hf := if_t c_63 hf
                refine lv_iconst (v := 0) hx hb dX6_openChunks_66 (by decide) ?_
                have hzb : narrow .boolean (.int (0 : Int32)) = .int (0 : Int32) := rfl
                replace hf : some ((0 : Int32), u29, u30, u31, u32, u33, u34, u35, u36, u37, u38, u39, u40) = some (o_r, o_h0_broken, o_h0_brokenAt, o_h0_at, o_h0_end, o_h0_begin, o_h0_copies, o_h0_literals, o_h0_parts, o_h0_blocks_count, o_h0_to_count, o_h0_blocks_facts_f, o_h0_to_held_f) := by have hq := hk_41; rw [iter_exit hf hr_41] at hq; exact hq
                obtain ⟨rfl, hq_1⟩ := Prod.mk.inj (Option.some.inj hf)
                obtain ⟨rfl, hq_2⟩ := Prod.mk.inj hq_1
                obtain ⟨rfl, hq_3⟩ := Prod.mk.inj hq_2
                obtain ⟨rfl, hq_4⟩ := Prod.mk.inj hq_3
                obtain ⟨rfl, hq_5⟩ := Prod.mk.inj hq_4
                obtain ⟨rfl, hq_6⟩ := Prod.mk.inj hq_5
                obtain ⟨rfl, hq_7⟩ := Prod.mk.inj hq_6
                obtain ⟨rfl, hq_8⟩ := Prod.mk.inj hq_7
                obtain ⟨rfl, hq_9⟩ := Prod.mk.inj hq_8
                obtain ⟨rfl, hq_10⟩ := Prod.mk.inj hq_9
                obtain ⟨rfl, hq_11⟩ := Prod.mk.inj hq_10
                obtain ⟨rfl, hq_12⟩ := Prod.mk.inj hq_11
                obtain rfl := hq_12
                exact rt_z hQ hx hb hr hzb hlocks hP hD hS dX6_openChunks_67
      exact hL_41 FU h0_blocks_facts_f h0_to_held_f h0_copies h0_literals h0_parts h0_broken h0_brokenAt h0_at h0_end h0_begin h0_blocks_count h0_to_count (0 : Int32) _ _ _ hi_41 hP hD hS (lv_sub hl [1, 0] rfl)
    · replace hf := if_f c_29 hf
      refine lv_aload_n hx hb dX6_openChunks_32 rfl (lv_at hl 0 rfl) ?_
      refine lv_iconst (v := 4) hx hb dX6_openChunks_33 (by decide) ?_
      refine lv_iconst (v := 0) hx hb dX6_openChunks_34 (by decide) ?_
      obtain ⟨x, hc, hf⟩ := bind_some hf
      obtain ⟨r42, u43, u44⟩ := x
      dsimp only at hf
      refine nx_i (rn_V (As := [.int (4 : Int32), .int (0 : Int32)]) (rest := []) (n := 2) (ci := 5) (q0 := 0) ⟨hx, hb, hml, hown, hts⟩ (c_Opener_breaks (l := l) (dC := dC) (dI := dI) (cB := cB) (cI := cI) (h0 := h0) (a1 := (4 : Int32)) (a2 := (0 : Int32)) (w_h0_input := (.ref h0_input)) (w_h0_words := (w_h0_words)) (w_h0_settings := (w_h0_settings)) (w_h0_to := (.ref h0_to)) (w_h0_blocks := (.ref h0_blocks)) (h0_broken := h0_broken) (h0_brokenAt := h0_brokenAt) (w_h0_at := (.int h0_at)) (w_h0_end := (.int h0_end)) (w_h0_begin := (.int h0_begin)) (w_h0_copies := (.int h0_copies)) (w_h0_literals := (.int h0_literals)) (w_h0_parts := (.int h0_parts)) (w_h0_frameBegin := (w_h0_frameBegin)) (w_h0_flags := (w_h0_flags)) (w_h0_width := (w_h0_width)) (w_h0_size := (w_h0_size)) (o_h0_broken := u43) (o_h0_brokenAt := u44) (o_r := r42) hc) (wV kw_871 kw_873 kw_26 kw_92 kw_874) (by decide +kernel) ⟨Nat.le_of_ble_eq_true rfl, Nat.le_of_ble_eq_true rfl⟩ hK hP hD hN hT hS (va_free (wc := [(h0, .inr (5, [.ref h0_input, w_h0_words, w_h0_settings, .ref h0_to, .ref h0_blocks, .int h0_broken, .int h0_brokenAt, .int h0_at, .int h0_end, .int h0_begin, .int h0_copies, .int h0_literals, .int h0_parts, w_h0_frameBegin, w_h0_flags, w_h0_width, w_h0_size]))]) hD hS hA [0] rfl) [0] rfl (by decide) rfl rfl rfl hl.1 rfl (lv_room (Nat.le_of_ble_eq_true rfl)) dX6_openChunks_35 ⟨Nat.le_of_ble_eq_true rfl, Nat.le_of_ble_eq_true rfl⟩) hP hD hS hA (wr := [(h0_input, .inr (2, [.ref h0_input_held, .int h0_input_count])), (h0_input_held, .inl (cB, h0_input_held_n, .inl h0_input_held_f)), (h0_blocks, .inr (1, [.ref h0_blocks_facts, .int h0_blocks_count])), (h0_to, .inr (2, [.ref h0_to_held, .int h0_to_count])), (h0_blocks_facts, .inl (cI, h0_blocks_facts_n, .inl h0_blocks_facts_f)), (h0_to_held, .inl (cB, h0_to_held_n, .inl h0_to_held_f))]) (w1 := [(h0, .inr (5, [.ref h0_input, w_h0_words, w_h0_settings, .ref h0_to, .ref h0_blocks, .int u43, .int u44, .int h0_at, .int h0_end, .int h0_begin, .int h0_copies, .int h0_literals, .int h0_parts, w_h0_frameBegin, w_h0_flags, w_h0_width, w_h0_size]))]) (ws' := [(h0, .inr (5, [.ref h0_input, w_h0_words, w_h0_settings, .ref h0_to, .ref h0_blocks, .int u43, .int u44, .int h0_at, .int h0_end, .int h0_begin, .int h0_copies, .int h0_literals, .int h0_parts, w_h0_frameBegin, w_h0_flags, w_h0_width, w_h0_size])), (h0_input, .inr (2, [.ref h0_input_held, .int h0_input_count])), (h0_input_held, .inl (cB, h0_input_held_n, .inl h0_input_held_f)), (h0_blocks, .inr (1, [.ref h0_blocks_facts, .int h0_blocks_count])), (h0_to, .inr (2, [.ref h0_to_held, .int h0_to_count])), (h0_blocks_facts, .inl (cI, h0_blocks_facts_n, .inl h0_blocks_facts_f)), (h0_to_held, .inl (cB, h0_to_held_n, .inl h0_to_held_f))]) [0] [1, 2, 3, 4, 5, 6] [6, 0, 1, 2, 3, 4, 5] rfl rfl (by decide) (by decide) rfl (by decide) (fun H locs hP hD hS => ?_)
      obtain ⟨hzb, hf⟩ := bch_some hf
      obtain ⟨rfl, hq_1⟩ := Prod.mk.inj (Option.some.inj hf)
      obtain ⟨rfl, hq_2⟩ := Prod.mk.inj hq_1
      obtain ⟨rfl, hq_3⟩ := Prod.mk.inj hq_2
      obtain ⟨rfl, hq_4⟩ := Prod.mk.inj hq_3
      obtain ⟨rfl, hq_5⟩ := Prod.mk.inj hq_4
      obtain ⟨rfl, hq_6⟩ := Prod.mk.inj hq_5
      obtain ⟨rfl, hq_7⟩ := Prod.mk.inj hq_6
      obtain ⟨rfl, hq_8⟩ := Prod.mk.inj hq_7
      obtain ⟨rfl, hq_9⟩ := Prod.mk.inj hq_8
      obtain ⟨rfl, hq_10⟩ := Prod.mk.inj hq_9
      obtain ⟨rfl, hq_11⟩ := Prod.mk.inj hq_10
      obtain ⟨rfl, hq_12⟩ := Prod.mk.inj hq_11
      obtain rfl := hq_12
      exact rt_z hQ hx hb hr hzb hlocks hP hD hS dX6_openChunks_38
  · replace hf := if_f c_5 hf
    refine lv_aload_n hx hb dX6_openChunks_8 rfl (lv_at hl 0 rfl) ?_
    refine lv_iconst (v := 1) hx hb dX6_openChunks_9 (by decide) ?_
    refine lv_aload_n hx hb dX6_openChunks_10 rfl (lv_at hl 0 rfl) ?_
    refine va_get (D := (dC, dI)) (ci := 5) (v := .int h0_end) (C := RX6) (T := TX6) (N := 17) hx hb hts inG_X6 hown hK hP 0 rfl rfl 8 (by decide) (hts _ kw_297) (fun _ h9 => h9) rfl dX6_openChunks_11 ?_
    obtain ⟨x, hc, hf⟩ := bind_some hf
    obtain ⟨r45, u46, u47⟩ := x
    dsimp only at hf
    refine nx_i (rn_V (As := [.int (1 : Int32), .int h0_end]) (rest := []) (n := 2) (ci := 5) (q0 := 0) ⟨hx, hb, hml, hown, hts⟩ (c_Opener_breaks (l := l) (dC := dC) (dI := dI) (cB := cB) (cI := cI) (h0 := h0) (a1 := (1 : Int32)) (a2 := h0_end) (w_h0_input := (.ref h0_input)) (w_h0_words := (w_h0_words)) (w_h0_settings := (w_h0_settings)) (w_h0_to := (.ref h0_to)) (w_h0_blocks := (.ref h0_blocks)) (h0_broken := h0_broken) (h0_brokenAt := h0_brokenAt) (w_h0_at := (.int h0_at)) (w_h0_end := (.int h0_end)) (w_h0_begin := (.int h0_begin)) (w_h0_copies := (.int h0_copies)) (w_h0_literals := (.int h0_literals)) (w_h0_parts := (.int h0_parts)) (w_h0_frameBegin := (w_h0_frameBegin)) (w_h0_flags := (w_h0_flags)) (w_h0_width := (w_h0_width)) (w_h0_size := (w_h0_size)) (o_h0_broken := u46) (o_h0_brokenAt := u47) (o_r := r45) hc) (wV kw_871 kw_873 kw_26 kw_92 kw_874) (by decide +kernel) ⟨Nat.le_of_ble_eq_true rfl, Nat.le_of_ble_eq_true rfl⟩ hK hP hD hN hT hS (va_free (wc := [(h0, .inr (5, [.ref h0_input, w_h0_words, w_h0_settings, .ref h0_to, .ref h0_blocks, .int h0_broken, .int h0_brokenAt, .int h0_at, .int h0_end, .int h0_begin, .int h0_copies, .int h0_literals, .int h0_parts, w_h0_frameBegin, w_h0_flags, w_h0_width, w_h0_size]))]) hD hS hA [0] rfl) [0] rfl (by decide) rfl rfl rfl hl.1 rfl (lv_room (Nat.le_of_ble_eq_true rfl)) dX6_openChunks_14 ⟨Nat.le_of_ble_eq_true rfl, Nat.le_of_ble_eq_true rfl⟩) hP hD hS hA (wr := [(h0_input, .inr (2, [.ref h0_input_held, .int h0_input_count])), (h0_input_held, .inl (cB, h0_input_held_n, .inl h0_input_held_f)), (h0_blocks, .inr (1, [.ref h0_blocks_facts, .int h0_blocks_count])), (h0_to, .inr (2, [.ref h0_to_held, .int h0_to_count])), (h0_blocks_facts, .inl (cI, h0_blocks_facts_n, .inl h0_blocks_facts_f)), (h0_to_held, .inl (cB, h0_to_held_n, .inl h0_to_held_f))]) (w1 := [(h0, .inr (5, [.ref h0_input, w_h0_words, w_h0_settings, .ref h0_to, .ref h0_blocks, .int u46, .int u47, .int h0_at, .int h0_end, .int h0_begin, .int h0_copies, .int h0_literals, .int h0_parts, w_h0_frameBegin, w_h0_flags, w_h0_width, w_h0_size]))]) (ws' := [(h0, .inr (5, [.ref h0_input, w_h0_words, w_h0_settings, .ref h0_to, .ref h0_blocks, .int u46, .int u47, .int h0_at, .int h0_end, .int h0_begin, .int h0_copies, .int h0_literals, .int h0_parts, w_h0_frameBegin, w_h0_flags, w_h0_width, w_h0_size])), (h0_input, .inr (2, [.ref h0_input_held, .int h0_input_count])), (h0_input_held, .inl (cB, h0_input_held_n, .inl h0_input_held_f)), (h0_blocks, .inr (1, [.ref h0_blocks_facts, .int h0_blocks_count])), (h0_to, .inr (2, [.ref h0_to_held, .int h0_to_count])), (h0_blocks_facts, .inl (cI, h0_blocks_facts_n, .inl h0_blocks_facts_f)), (h0_to_held, .inl (cB, h0_to_held_n, .inl h0_to_held_f))]) [0] [1, 2, 3, 4, 5, 6] [6, 0, 1, 2, 3, 4, 5] rfl rfl (by decide) (by decide) rfl (by decide) (fun H locs hP hD hS => ?_)
    obtain ⟨hzb, hf⟩ := bch_some hf
    obtain ⟨rfl, hq_1⟩ := Prod.mk.inj (Option.some.inj hf)
    obtain ⟨rfl, hq_2⟩ := Prod.mk.inj hq_1
    obtain ⟨rfl, hq_3⟩ := Prod.mk.inj hq_2
    obtain ⟨rfl, hq_4⟩ := Prod.mk.inj hq_3
    obtain ⟨rfl, hq_5⟩ := Prod.mk.inj hq_4
    obtain ⟨rfl, hq_6⟩ := Prod.mk.inj hq_5
    obtain ⟨rfl, hq_7⟩ := Prod.mk.inj hq_6
    obtain ⟨rfl, hq_8⟩ := Prod.mk.inj hq_7
    obtain ⟨rfl, hq_9⟩ := Prod.mk.inj hq_8
    obtain ⟨rfl, hq_10⟩ := Prod.mk.inj hq_9
    obtain ⟨rfl, hq_11⟩ := Prod.mk.inj hq_10
    obtain ⟨rfl, hq_12⟩ := Prod.mk.inj hq_11
    obtain rfl := hq_12
    exact rt_z hQ hx hb hr hzb hlocks hP hD hS dX6_openChunks_17

