theorem dX6_brokenRule_0 : decode cX6_brokenRule 0 = .ok (.aload_n 0, 1) := by decide +kernel
theorem dX6_brokenRule_1 : decode cX6_brokenRule 1 = .ok (.getfield 22, 3) := by decide +kernel
theorem dX6_brokenRule_4 : decode cX6_brokenRule 4 = .ok (.ireturn, 1) := by decide +kernel
def m_Opener_brokenRule (h0_broken : Int32) : Option (Int32) :=
  some h0_broken
def rm_Opener_brokenRule : Room := { frames := 0, cells := 0, slots := 0, locals := 0 }
set_option maxHeartbeats 4000000 in
set_option maxRecDepth 100000 in
theorem c_Opener_brokenRule {l : Launch} {dC : Nat → ClassId} {dI : Nat → Nat → Nat} {cB cI : ClassId} {sz : Nat} {h0 : Nat} {w_h0_input : Value} {w_h0_words : Value} {w_h0_settings : Value} {w_h0_to : Value} {w_h0_blocks : Value} {h0_broken : Int32} {w_h0_brokenAt : Value} {w_h0_at : Value} {w_h0_end : Value} {w_h0_begin : Value} {w_h0_copies : Value} {w_h0_literals : Value} {w_h0_parts : Value} {w_h0_frameBegin : Value} {w_h0_flags : Value} {w_h0_width : Value} {w_h0_size : Value} {o_r : Int32} (hf : m_Opener_brokenRule h0_broken = some o_r) : Met l yX6_brokenRule (Cond.code yX6_brokenRule cX6_brokenRule 1 (some .int) :: lw_G) rm_Opener_brokenRule (PreC (dC, dI) [(cB, .byte), (cI, .int)] [.ref h0] sz [(h0, .inr (5, [w_h0_input, w_h0_words, w_h0_settings, w_h0_to, w_h0_blocks, .int h0_broken, w_h0_brokenAt, w_h0_at, w_h0_end, w_h0_begin, w_h0_copies, w_h0_literals, w_h0_parts, w_h0_frameBegin, w_h0_flags, w_h0_width, w_h0_size]))]) (QcI o_r (dC, dI) [(h0, .inr (5, [w_h0_input, w_h0_words, w_h0_settings, w_h0_to, w_h0_blocks, .int h0_broken, w_h0_brokenAt, w_h0_at, w_h0_end, w_h0_begin, w_h0_copies, w_h0_literals, w_h0_parts, w_h0_frameBegin, w_h0_flags, w_h0_width, w_h0_size]))] (va_A [(h0, .inr (5, [w_h0_input, w_h0_words, w_h0_settings, w_h0_to, w_h0_blocks, .int h0_broken, w_h0_brokenAt, w_h0_at, w_h0_end, w_h0_begin, w_h0_copies, w_h0_literals, w_h0_parts, w_h0_frameBegin, w_h0_flags, w_h0_width, w_h0_size]))] sz)) 0 0 (va_A [(h0, .inr (5, [w_h0_input, w_h0_words, w_h0_settings, w_h0_to, w_h0_blocks, .int h0_broken, w_h0_brokenAt, w_h0_at, w_h0_end, w_h0_begin, w_h0_copies, w_h0_literals, w_h0_parts, w_h0_frameBegin, w_h0_flags, w_h0_width, w_h0_size]))] sz) := by
  refine met_of (Qf := fun A => QcI o_r (dC, dI) [(h0, .inr (5, [w_h0_input, w_h0_words, w_h0_settings, w_h0_to, w_h0_blocks, .int h0_broken, w_h0_brokenAt, w_h0_at, w_h0_end, w_h0_begin, w_h0_copies, w_h0_literals, w_h0_parts, w_h0_frameBegin, w_h0_flags, w_h0_width, w_h0_size]))] A) (by decide) (Nat.le_of_ble_eq_true rfl) ?_
  intro p e s m below meth c A ls Q hx hb hr hml hown hts hlocks hnm hP hK hD hN hT hA hl hQ
  have hown : s.vm.findClass RX6 = some m.cls := hown
  have hS : va_S A s.heap s.heap [] := va_S.rf
  have hl : lv_has ls 1 [(0, .ref h0)] := hl
  unfold m_Opener_brokenRule at hf
  refine lv_aload_n hx hb dX6_brokenRule_0 rfl (lv_at hl 0 rfl) ?_
  refine va_get (D := (dC, dI)) (ci := 5) (v := .int h0_broken) (C := RX6) (T := TX6) (N := 17) hx hb hts inG_X6 hown hK hP 0 rfl rfl 5 (by decide) (hts _ kw_294) (fun _ h9 => h9) rfl dX6_brokenRule_1 ?_
  obtain rfl := Option.some.inj hf
  exact rt_i hQ hx hb hr hlocks hP hD hS dX6_brokenRule_4

theorem dX6_brokenPlace_0 : decode cX6_brokenPlace 0 = .ok (.aload_n 0, 1) := by decide +kernel
theorem dX6_brokenPlace_1 : decode cX6_brokenPlace 1 = .ok (.getfield 26, 3) := by decide +kernel
theorem dX6_brokenPlace_4 : decode cX6_brokenPlace 4 = .ok (.ireturn, 1) := by decide +kernel
def m_Opener_brokenPlace (h0_brokenAt : Int32) : Option (Int32) :=
  some h0_brokenAt
def rm_Opener_brokenPlace : Room := { frames := 0, cells := 0, slots := 0, locals := 0 }
set_option maxHeartbeats 4000000 in
set_option maxRecDepth 100000 in
theorem c_Opener_brokenPlace {l : Launch} {dC : Nat → ClassId} {dI : Nat → Nat → Nat} {cB cI : ClassId} {sz : Nat} {h0 : Nat} {w_h0_input : Value} {w_h0_words : Value} {w_h0_settings : Value} {w_h0_to : Value} {w_h0_blocks : Value} {w_h0_broken : Value} {h0_brokenAt : Int32} {w_h0_at : Value} {w_h0_end : Value} {w_h0_begin : Value} {w_h0_copies : Value} {w_h0_literals : Value} {w_h0_parts : Value} {w_h0_frameBegin : Value} {w_h0_flags : Value} {w_h0_width : Value} {w_h0_size : Value} {o_r : Int32} (hf : m_Opener_brokenPlace h0_brokenAt = some o_r) : Met l yX6_brokenPlace (Cond.code yX6_brokenPlace cX6_brokenPlace 1 (some .int) :: lw_G) rm_Opener_brokenPlace (PreC (dC, dI) [(cB, .byte), (cI, .int)] [.ref h0] sz [(h0, .inr (5, [w_h0_input, w_h0_words, w_h0_settings, w_h0_to, w_h0_blocks, w_h0_broken, .int h0_brokenAt, w_h0_at, w_h0_end, w_h0_begin, w_h0_copies, w_h0_literals, w_h0_parts, w_h0_frameBegin, w_h0_flags, w_h0_width, w_h0_size]))]) (QcI o_r (dC, dI) [(h0, .inr (5, [w_h0_input, w_h0_words, w_h0_settings, w_h0_to, w_h0_blocks, w_h0_broken, .int h0_brokenAt, w_h0_at, w_h0_end, w_h0_begin, w_h0_copies, w_h0_literals, w_h0_parts, w_h0_frameBegin, w_h0_flags, w_h0_width, w_h0_size]))] (va_A [(h0, .inr (5, [w_h0_input, w_h0_words, w_h0_settings, w_h0_to, w_h0_blocks, w_h0_broken, .int h0_brokenAt, w_h0_at, w_h0_end, w_h0_begin, w_h0_copies, w_h0_literals, w_h0_parts, w_h0_frameBegin, w_h0_flags, w_h0_width, w_h0_size]))] sz)) 0 0 (va_A [(h0, .inr (5, [w_h0_input, w_h0_words, w_h0_settings, w_h0_to, w_h0_blocks, w_h0_broken, .int h0_brokenAt, w_h0_at, w_h0_end, w_h0_begin, w_h0_copies, w_h0_literals, w_h0_parts, w_h0_frameBegin, w_h0_flags, w_h0_width, w_h0_size]))] sz) := by
  refine met_of (Qf := fun A => QcI o_r (dC, dI) [(h0, .inr (5, [w_h0_input, w_h0_words, w_h0_settings, w_h0_to, w_h0_blocks, w_h0_broken, .int h0_brokenAt, w_h0_at, w_h0_end, w_h0_begin, w_h0_copies, w_h0_literals, w_h0_parts, w_h0_frameBegin, w_h0_flags, w_h0_width, w_h0_size]))] A) (by decide) (Nat.le_of_ble_eq_true rfl) ?_
  intro p e s m below meth c A ls Q hx hb hr hml hown hts hlocks hnm hP hK hD hN hT hA hl hQ
  have hown : s.vm.findClass RX6 = some m.cls := hown
  have hS : va_S A s.heap s.heap [] := va_S.rf
  have hl : lv_has ls 1 [(0, .ref h0)] := hl
  unfold m_Opener_brokenPlace at hf
  refine lv_aload_n hx hb dX6_brokenPlace_0 rfl (lv_at hl 0 rfl) ?_
  refine va_get (D := (dC, dI)) (ci := 5) (v := .int h0_brokenAt) (C := RX6) (T := TX6) (N := 17) hx hb hts inG_X6 hown hK hP 0 rfl rfl 6 (by decide) (hts _ kw_295) (fun _ h9 => h9) rfl dX6_brokenPlace_1 ?_
  obtain rfl := Option.some.inj hf
  exact rt_i hQ hx hb hr hlocks hP hD hS dX6_brokenPlace_4

theorem dX6_start_0 : decode cX6_start 0 = .ok (.aload_n 0, 1) := by decide +kernel
theorem dX6_start_1 : decode cX6_start 1 = .ok (.aload_n 1, 1) := by decide +kernel
theorem dX6_start_2 : decode cX6_start 2 = .ok (.putfield 29, 3) := by decide +kernel
theorem dX6_start_5 : decode cX6_start 5 = .ok (.aload_n 0, 1) := by decide +kernel
theorem dX6_start_6 : decode cX6_start 6 = .ok (.aload_n 2, 1) := by decide +kernel
theorem dX6_start_7 : decode cX6_start 7 = .ok (.putfield 32, 3) := by decide +kernel
theorem dX6_start_10 : decode cX6_start 10 = .ok (.aload_n 0, 1) := by decide +kernel
theorem dX6_start_11 : decode cX6_start 11 = .ok (.getfield 29, 3) := by decide +kernel
theorem dX6_start_14 : decode cX6_start 14 = .ok (.iconst 0, 1) := by decide +kernel
theorem dX6_start_15 : decode cX6_start 15 = .ok (.invokevirtual 36, 3) := by decide +kernel
theorem dX6_start_18 : decode cX6_start 18 = .ok (.aload_n 0, 1) := by decide +kernel
theorem dX6_start_19 : decode cX6_start 19 = .ok (.getfield 32, 3) := by decide +kernel
theorem dX6_start_22 : decode cX6_start 22 = .ok (.invokevirtual 42, 3) := by decide +kernel
theorem dX6_start_25 : decode cX6_start 25 = .ok (.aload_n 0, 1) := by decide +kernel
theorem dX6_start_26 : decode cX6_start 26 = .ok (.iconst 0, 1) := by decide +kernel
theorem dX6_start_27 : decode cX6_start 27 = .ok (.putfield 22, 3) := by decide +kernel
theorem dX6_start_30 : decode cX6_start 30 = .ok (.aload_n 0, 1) := by decide +kernel
theorem dX6_start_31 : decode cX6_start 31 = .ok (.iconst 0, 1) := by decide +kernel
theorem dX6_start_32 : decode cX6_start 32 = .ok (.putfield 47, 3) := by decide +kernel
theorem dX6_start_35 : decode cX6_start 35 = .ok (.aload_n 0, 1) := by decide +kernel
theorem dX6_start_36 : decode cX6_start 36 = .ok (.aload_n 0, 1) := by decide +kernel
theorem dX6_start_37 : decode cX6_start 37 = .ok (.getfield 9, 3) := by decide +kernel
theorem dX6_start_40 : decode cX6_start 40 = .ok (.invokevirtual 50, 3) := by decide +kernel
theorem dX6_start_43 : decode cX6_start 43 = .ok (.putfield 54, 3) := by decide +kernel
theorem dX6_start_46 : decode cX6_start 46 = .ok (.return_, 1) := by decide +kernel
def m_Opener_start (h1_count : Int32) (h0_input_count : Int32) : Option (Int32 × Int32 × Int32 × Int32 × Int32) :=
  (m_Bytes_keep (0 : Int32) h1_count).bind fun u1 =>
  (m_Blocks_clear).bind fun u2 =>
  (m_Bytes_size h0_input_count).bind fun r3 =>
  some ((0 : Int32), (0 : Int32), r3, u1, u2)
def rm_Opener_start : Room := { frames := 1, cells := 0, slots := 0, locals := 21 }
set_option maxHeartbeats 4000000 in
set_option maxRecDepth 100000 in
theorem c_Opener_start {l : Launch} {dC : Nat → ClassId} {dI : Nat → Nat → Nat} {cB cI : ClassId} {sz : Nat} {h0 : Nat} {h1 : Nat} {h2 : Nat} {h0_input : Nat} {w_h0_words : Value} {w_h0_settings : Value} {w_h0_to : Value} {w_h0_blocks : Value} {h0_broken : Int32} {w_h0_brokenAt : Value} {h0_at : Int32} {h0_end : Int32} {w_h0_begin : Value} {w_h0_copies : Value} {w_h0_literals : Value} {w_h0_parts : Value} {w_h0_frameBegin : Value} {w_h0_flags : Value} {w_h0_width : Value} {w_h0_size : Value} {w_h1_held : Value} {h1_count : Int32} {w_h2_facts : Value} {h2_count : Int32} {w_h0_input_held : Value} {h0_input_count : Int32} {o_h0_broken : Int32} {o_h0_at : Int32} {o_h0_end : Int32} {o_h1_count : Int32} {o_h2_count : Int32} (hf : m_Opener_start h1_count h0_input_count = some (o_h0_broken, o_h0_at, o_h0_end, o_h1_count, o_h2_count)) : Met l yX6_start (Cond.code yX6_start cX6_start 3 none :: lw_G) rm_Opener_start (PreC (dC, dI) [(cB, .byte), (cI, .int)] [.ref h0, .ref h1, .ref h2] sz [(h0, .inr (5, [.ref h0_input, w_h0_words, w_h0_settings, w_h0_to, w_h0_blocks, .int h0_broken, w_h0_brokenAt, .int h0_at, .int h0_end, w_h0_begin, w_h0_copies, w_h0_literals, w_h0_parts, w_h0_frameBegin, w_h0_flags, w_h0_width, w_h0_size])), (h1, .inr (2, [w_h1_held, .int h1_count])), (h2, .inr (1, [w_h2_facts, .int h2_count])), (h0_input, .inr (2, [w_h0_input_held, .int h0_input_count]))]) (QcV (dC, dI) [(h0, .inr (5, [.ref h0_input, w_h0_words, w_h0_settings, .ref h1, .ref h2, .int o_h0_broken, w_h0_brokenAt, .int o_h0_at, .int o_h0_end, w_h0_begin, w_h0_copies, w_h0_literals, w_h0_parts, w_h0_frameBegin, w_h0_flags, w_h0_width, w_h0_size])), (h1, .inr (2, [w_h1_held, .int o_h1_count])), (h2, .inr (1, [w_h2_facts, .int o_h2_count])), (h0_input, .inr (2, [w_h0_input_held, .int h0_input_count]))] (va_A [(h0, .inr (5, [.ref h0_input, w_h0_words, w_h0_settings, w_h0_to, w_h0_blocks, .int h0_broken, w_h0_brokenAt, .int h0_at, .int h0_end, w_h0_begin, w_h0_copies, w_h0_literals, w_h0_parts, w_h0_frameBegin, w_h0_flags, w_h0_width, w_h0_size])), (h1, .inr (2, [w_h1_held, .int h1_count])), (h2, .inr (1, [w_h2_facts, .int h2_count])), (h0_input, .inr (2, [w_h0_input_held, .int h0_input_count]))] sz)) 0 0 (va_A [(h0, .inr (5, [.ref h0_input, w_h0_words, w_h0_settings, w_h0_to, w_h0_blocks, .int h0_broken, w_h0_brokenAt, .int h0_at, .int h0_end, w_h0_begin, w_h0_copies, w_h0_literals, w_h0_parts, w_h0_frameBegin, w_h0_flags, w_h0_width, w_h0_size])), (h1, .inr (2, [w_h1_held, .int h1_count])), (h2, .inr (1, [w_h2_facts, .int h2_count])), (h0_input, .inr (2, [w_h0_input_held, .int h0_input_count]))] sz) := by
  refine met_of (Qf := fun A => QcV (dC, dI) [(h0, .inr (5, [.ref h0_input, w_h0_words, w_h0_settings, .ref h1, .ref h2, .int o_h0_broken, w_h0_brokenAt, .int o_h0_at, .int o_h0_end, w_h0_begin, w_h0_copies, w_h0_literals, w_h0_parts, w_h0_frameBegin, w_h0_flags, w_h0_width, w_h0_size])), (h1, .inr (2, [w_h1_held, .int o_h1_count])), (h2, .inr (1, [w_h2_facts, .int o_h2_count])), (h0_input, .inr (2, [w_h0_input_held, .int h0_input_count]))] A) (by decide) (Nat.le_of_ble_eq_true rfl) ?_
  intro p e s m below meth c A ls Q hx hb hr hml hown hts hlocks hnm hP hK hD hN hT hA hl hQ
  have hown : s.vm.findClass RX6 = some m.cls := hown
  have hS : va_S A s.heap s.heap [] := va_S.rf
  have hl : lv_has ls 3 [(0, .ref h0), (1, .ref h1), (2, .ref h2)] := hl
  unfold m_Opener_start at hf
  refine lv_aload_n hx hb dX6_start_0 rfl (lv_at hl 0 rfl) ?_
  refine lv_aload_n hx hb dX6_start_1 rfl (lv_at hl 1 rfl) ?_
  refine va_put (D := (dC, dI)) (ci := 5) (v := .ref h1) (ty := .object "FastBlocks$Bytes") (C := RX6) (T := TX6) (N := 17) hx hb hts inG_X6 tyX6 tyX6_ok nmX6 hown hK hP hD hS 0 rfl rfl 3 (by decide) (hts _ kw_292) (fun _ h9 => h9) rfl (by decide +kernel) rfl rfl (Nat.le_of_ble_eq_true rfl) dX6_start_2 (fun H locs hP hD hS => ?_)
  have hP : va_P (dC, dI) vwCl [(h0, .inr (5, [.ref h0_input, w_h0_words, w_h0_settings, .ref h1, w_h0_blocks, .int h0_broken, w_h0_brokenAt, .int h0_at, .int h0_end, w_h0_begin, w_h0_copies, w_h0_literals, w_h0_parts, w_h0_frameBegin, w_h0_flags, w_h0_width, w_h0_size])), (h1, .inr (2, [w_h1_held, .int h1_count])), (h2, .inr (1, [w_h2_facts, .int h2_count])), (h0_input, .inr (2, [w_h0_input_held, .int h0_input_count]))] H := hP
  have hD : va_D A [(h0, .inr (5, [.ref h0_input, w_h0_words, w_h0_settings, .ref h1, w_h0_blocks, .int h0_broken, w_h0_brokenAt, .int h0_at, .int h0_end, w_h0_begin, w_h0_copies, w_h0_literals, w_h0_parts, w_h0_frameBegin, w_h0_flags, w_h0_width, w_h0_size])), (h1, .inr (2, [w_h1_held, .int h1_count])), (h2, .inr (1, [w_h2_facts, .int h2_count])), (h0_input, .inr (2, [w_h0_input_held, .int h0_input_count]))] := hD
  refine lv_aload_n hx hb dX6_start_5 rfl (lv_at hl 0 rfl) ?_
  refine lv_aload_n hx hb dX6_start_6 rfl (lv_at hl 2 rfl) ?_
  refine va_put (D := (dC, dI)) (ci := 5) (v := .ref h2) (ty := .object "FastBlocks$Blocks") (C := RX6) (T := TX6) (N := 17) hx hb hts inG_X6 tyX6 tyX6_ok nmX6 hown hK hP hD hS 0 rfl rfl 4 (by decide) (hts _ kw_293) (fun _ h9 => h9) rfl (by decide +kernel) rfl rfl (Nat.le_of_ble_eq_true rfl) dX6_start_7 (fun H locs hP hD hS => ?_)
  have hP : va_P (dC, dI) vwCl [(h0, .inr (5, [.ref h0_input, w_h0_words, w_h0_settings, .ref h1, .ref h2, .int h0_broken, w_h0_brokenAt, .int h0_at, .int h0_end, w_h0_begin, w_h0_copies, w_h0_literals, w_h0_parts, w_h0_frameBegin, w_h0_flags, w_h0_width, w_h0_size])), (h1, .inr (2, [w_h1_held, .int h1_count])), (h2, .inr (1, [w_h2_facts, .int h2_count])), (h0_input, .inr (2, [w_h0_input_held, .int h0_input_count]))] H := hP
  have hD : va_D A [(h0, .inr (5, [.ref h0_input, w_h0_words, w_h0_settings, .ref h1, .ref h2, .int h0_broken, w_h0_brokenAt, .int h0_at, .int h0_end, w_h0_begin, w_h0_copies, w_h0_literals, w_h0_parts, w_h0_frameBegin, w_h0_flags, w_h0_width, w_h0_size])), (h1, .inr (2, [w_h1_held, .int h1_count])), (h2, .inr (1, [w_h2_facts, .int h2_count])), (h0_input, .inr (2, [w_h0_input_held, .int h0_input_count]))] := hD
  refine lv_aload_n hx hb dX6_start_10 rfl (lv_at hl 0 rfl) ?_
  refine va_get (D := (dC, dI)) (ci := 5) (v := .ref h1) (C := RX6) (T := TX6) (N := 17) hx hb hts inG_X6 hown hK hP 0 rfl rfl 3 (by decide) (hts _ kw_292) (fun _ h9 => h9) rfl dX6_start_11 ?_
  refine lv_iconst (v := 0) hx hb dX6_start_14 (by decide) ?_
  obtain ⟨u1, hc, hf⟩ := bind_some hf
  refine nx_v (rn_V (As := [.int (0 : Int32)]) (rest := []) (n := 1) (ci := 2) (q0 := 0) ⟨hx, hb, hml, hown, hts⟩ (c_Bytes_keep (l := l) (dC := dC) (dI := dI) (cB := cB) (cI := cI) (h0 := h1) (a1 := (0 : Int32)) (w_h0_held := (w_h1_held)) (h0_count := h1_count) (o_h0_count := u1) hc) (wV kw_847 kw_410 kw_411 kw_83 kw_412) (by decide +kernel) ⟨Nat.le_of_ble_eq_true rfl, Nat.le_of_ble_eq_true rfl⟩ hK hP hD hN hT hS (va_free (wc := [(h1, .inr (2, [w_h1_held, .int h1_count]))]) hD hS hA [1] rfl) [1] rfl (by decide) rfl rfl rfl hl.1 rfl (lv_room (Nat.le_of_ble_eq_true rfl)) dX6_start_15 ⟨Nat.le_of_ble_eq_true rfl, Nat.le_of_ble_eq_true rfl⟩) hP hD hS hA (wr := [(h0, .inr (5, [.ref h0_input, w_h0_words, w_h0_settings, .ref h1, .ref h2, .int h0_broken, w_h0_brokenAt, .int h0_at, .int h0_end, w_h0_begin, w_h0_copies, w_h0_literals, w_h0_parts, w_h0_frameBegin, w_h0_flags, w_h0_width, w_h0_size])), (h2, .inr (1, [w_h2_facts, .int h2_count])), (h0_input, .inr (2, [w_h0_input_held, .int h0_input_count]))]) (w1 := [(h1, .inr (2, [w_h1_held, .int u1]))]) (ws' := [(h0, .inr (5, [.ref h0_input, w_h0_words, w_h0_settings, .ref h1, .ref h2, .int h0_broken, w_h0_brokenAt, .int h0_at, .int h0_end, w_h0_begin, w_h0_copies, w_h0_literals, w_h0_parts, w_h0_frameBegin, w_h0_flags, w_h0_width, w_h0_size])), (h1, .inr (2, [w_h1_held, .int u1])), (h2, .inr (1, [w_h2_facts, .int h2_count])), (h0_input, .inr (2, [w_h0_input_held, .int h0_input_count]))]) [1] [0, 2, 3] [0, 3, 1, 2] rfl rfl (by decide) (by decide) rfl (by decide) (fun H locs hP hD hS => ?_)
  refine lv_aload_n hx hb dX6_start_18 rfl (lv_at hl 0 rfl) ?_
  refine va_get (D := (dC, dI)) (ci := 5) (v := .ref h2) (C := RX6) (T := TX6) (N := 17) hx hb hts inG_X6 hown hK hP 0 rfl rfl 4 (by decide) (hts _ kw_293) (fun _ h9 => h9) rfl dX6_start_19 ?_
  obtain ⟨u2, hc, hf⟩ := bind_some hf
  refine nx_v (rn_V (As := []) (rest := []) (n := 0) (ci := 1) (q0 := 0) ⟨hx, hb, hml, hown, hts⟩ (c_Blocks_clear (l := l) (dC := dC) (dI := dI) (cB := cB) (cI := cI) (h0 := h2) (w_h0_facts := (w_h2_facts)) (h0_count := h2_count) (o_h0_count := u2) hc) (wV kw_848 kw_458 kw_459 kw_93 kw_460) (by decide +kernel) ⟨Nat.le_of_ble_eq_true rfl, Nat.le_of_ble_eq_true rfl⟩ hK hP hD hN hT hS (va_free (wc := [(h2, .inr (1, [w_h2_facts, .int h2_count]))]) hD hS hA [2] rfl) [2] rfl (by decide) rfl rfl rfl hl.1 rfl (lv_room (Nat.le_of_ble_eq_true rfl)) dX6_start_22 ⟨Nat.le_of_ble_eq_true rfl, Nat.le_of_ble_eq_true rfl⟩) hP hD hS hA (wr := [(h0, .inr (5, [.ref h0_input, w_h0_words, w_h0_settings, .ref h1, .ref h2, .int h0_broken, w_h0_brokenAt, .int h0_at, .int h0_end, w_h0_begin, w_h0_copies, w_h0_literals, w_h0_parts, w_h0_frameBegin, w_h0_flags, w_h0_width, w_h0_size])), (h1, .inr (2, [w_h1_held, .int u1])), (h0_input, .inr (2, [w_h0_input_held, .int h0_input_count]))]) (w1 := [(h2, .inr (1, [w_h2_facts, .int u2]))]) (ws' := [(h0, .inr (5, [.ref h0_input, w_h0_words, w_h0_settings, .ref h1, .ref h2, .int h0_broken, w_h0_brokenAt, .int h0_at, .int h0_end, w_h0_begin, w_h0_copies, w_h0_literals, w_h0_parts, w_h0_frameBegin, w_h0_flags, w_h0_width, w_h0_size])), (h1, .inr (2, [w_h1_held, .int u1])), (h2, .inr (1, [w_h2_facts, .int u2])), (h0_input, .inr (2, [w_h0_input_held, .int h0_input_count]))]) [2] [0, 1, 3] [0, 1, 3, 2] rfl rfl (by decide) (by decide) rfl (by decide) (fun H locs hP hD hS => ?_)
  refine lv_aload_n hx hb dX6_start_25 rfl (lv_at hl 0 rfl) ?_
  refine lv_iconst (v := 0) hx hb dX6_start_26 (by decide) ?_
  refine va_put (D := (dC, dI)) (ci := 5) (v := .int (0 : Int32)) (ty := .int) (C := RX6) (T := TX6) (N := 17) hx hb hts inG_X6 tyX6 tyX6_ok nmX6 hown hK hP hD hS 0 rfl rfl 5 (by decide) (hts _ kw_294) (fun _ h9 => h9) rfl (by decide +kernel) rfl rfl (Nat.le_of_ble_eq_true rfl) dX6_start_27 (fun H locs hP hD hS => ?_)
  have hP : va_P (dC, dI) vwCl [(h0, .inr (5, [.ref h0_input, w_h0_words, w_h0_settings, .ref h1, .ref h2, .int (0 : Int32), w_h0_brokenAt, .int h0_at, .int h0_end, w_h0_begin, w_h0_copies, w_h0_literals, w_h0_parts, w_h0_frameBegin, w_h0_flags, w_h0_width, w_h0_size])), (h1, .inr (2, [w_h1_held, .int u1])), (h2, .inr (1, [w_h2_facts, .int u2])), (h0_input, .inr (2, [w_h0_input_held, .int h0_input_count]))] H := hP
  have hD : va_D A [(h0, .inr (5, [.ref h0_input, w_h0_words, w_h0_settings, .ref h1, .ref h2, .int (0 : Int32), w_h0_brokenAt, .int h0_at, .int h0_end, w_h0_begin, w_h0_copies, w_h0_literals, w_h0_parts, w_h0_frameBegin, w_h0_flags, w_h0_width, w_h0_size])), (h1, .inr (2, [w_h1_held, .int u1])), (h2, .inr (1, [w_h2_facts, .int u2])), (h0_input, .inr (2, [w_h0_input_held, .int h0_input_count]))] := hD
  refine lv_aload_n hx hb dX6_start_30 rfl (lv_at hl 0 rfl) ?_
  refine lv_iconst (v := 0) hx hb dX6_start_31 (by decide) ?_
  refine va_put (D := (dC, dI)) (ci := 5) (v := .int (0 : Int32)) (ty := .int) (C := RX6) (T := TX6) (N := 17) hx hb hts inG_X6 tyX6 tyX6_ok nmX6 hown hK hP hD hS 0 rfl rfl 7 (by decide) (hts _ kw_296) (fun _ h9 => h9) rfl (by decide +kernel) rfl rfl (Nat.le_of_ble_eq_true rfl) dX6_start_32 (fun H locs hP hD hS => ?_)
  have hP : va_P (dC, dI) vwCl [(h0, .inr (5, [.ref h0_input, w_h0_words, w_h0_settings, .ref h1, .ref h2, .int (0 : Int32), w_h0_brokenAt, .int (0 : Int32), .int h0_end, w_h0_begin, w_h0_copies, w_h0_literals, w_h0_parts, w_h0_frameBegin, w_h0_flags, w_h0_width, w_h0_size])), (h1, .inr (2, [w_h1_held, .int u1])), (h2, .inr (1, [w_h2_facts, .int u2])), (h0_input, .inr (2, [w_h0_input_held, .int h0_input_count]))] H := hP
  have hD : va_D A [(h0, .inr (5, [.ref h0_input, w_h0_words, w_h0_settings, .ref h1, .ref h2, .int (0 : Int32), w_h0_brokenAt, .int (0 : Int32), .int h0_end, w_h0_begin, w_h0_copies, w_h0_literals, w_h0_parts, w_h0_frameBegin, w_h0_flags, w_h0_width, w_h0_size])), (h1, .inr (2, [w_h1_held, .int u1])), (h2, .inr (1, [w_h2_facts, .int u2])), (h0_input, .inr (2, [w_h0_input_held, .int h0_input_count]))] := hD
  refine lv_aload_n hx hb dX6_start_35 rfl (lv_at hl 0 rfl) ?_
  refine lv_aload_n hx hb dX6_start_36 rfl (lv_at hl 0 rfl) ?_
  refine va_get (D := (dC, dI)) (ci := 5) (v := .ref h0_input) (C := RX6) (T := TX6) (N := 17) hx hb hts inG_X6 hown hK hP 0 rfl rfl 0 (by decide) (hts _ kw_289) (fun _ h9 => h9) rfl dX6_start_37 ?_
  obtain ⟨r3, hc, hf⟩ := bind_some hf
  refine nx_i (rn_V (As := []) (rest := [.ref h0]) (n := 0) (ci := 2) (q0 := 0) ⟨hx, hb, hml, hown, hts⟩ (c_Bytes_size (l := l) (dC := dC) (dI := dI) (cB := cB) (cI := cI) (h0 := h0_input) (w_h0_held := (w_h0_input_held)) (h0_count := h0_input_count)  (o_r := r3) hc) (wV kw_849 kw_402 kw_403 kw_83 kw_404) (by decide +kernel) ⟨Nat.le_of_ble_eq_true rfl, Nat.le_of_ble_eq_true rfl⟩ hK hP hD hN hT hS (va_free (wc := [(h0_input, .inr (2, [w_h0_input_held, .int h0_input_count]))]) hD hS hA [3] rfl) [3] rfl (by decide) rfl rfl rfl hl.1 rfl (lv_room (Nat.le_of_ble_eq_true rfl)) dX6_start_40 ⟨Nat.le_of_ble_eq_true rfl, Nat.le_of_ble_eq_true rfl⟩) hP hD hS hA (wr := [(h0, .inr (5, [.ref h0_input, w_h0_words, w_h0_settings, .ref h1, .ref h2, .int (0 : Int32), w_h0_brokenAt, .int (0 : Int32), .int h0_end, w_h0_begin, w_h0_copies, w_h0_literals, w_h0_parts, w_h0_frameBegin, w_h0_flags, w_h0_width, w_h0_size])), (h1, .inr (2, [w_h1_held, .int u1])), (h2, .inr (1, [w_h2_facts, .int u2]))]) (w1 := [(h0_input, .inr (2, [w_h0_input_held, .int h0_input_count]))]) (ws' := [(h0, .inr (5, [.ref h0_input, w_h0_words, w_h0_settings, .ref h1, .ref h2, .int (0 : Int32), w_h0_brokenAt, .int (0 : Int32), .int h0_end, w_h0_begin, w_h0_copies, w_h0_literals, w_h0_parts, w_h0_frameBegin, w_h0_flags, w_h0_width, w_h0_size])), (h1, .inr (2, [w_h1_held, .int u1])), (h2, .inr (1, [w_h2_facts, .int u2])), (h0_input, .inr (2, [w_h0_input_held, .int h0_input_count]))]) [3] [0, 1, 2] [0, 1, 2, 3] rfl rfl (by decide) (by decide) rfl (by decide) (fun H locs hP hD hS => ?_)
  refine va_put (D := (dC, dI)) (ci := 5) (v := .int r3) (ty := .int) (C := RX6) (T := TX6) (N := 17) hx hb hts inG_X6 tyX6 tyX6_ok nmX6 hown hK hP hD hS 0 rfl rfl 8 (by decide) (hts _ kw_297) (fun _ h9 => h9) rfl (by decide +kernel) rfl rfl (Nat.le_of_ble_eq_true rfl) dX6_start_43 (fun H locs hP hD hS => ?_)
  have hP : va_P (dC, dI) vwCl [(h0, .inr (5, [.ref h0_input, w_h0_words, w_h0_settings, .ref h1, .ref h2, .int (0 : Int32), w_h0_brokenAt, .int (0 : Int32), .int r3, w_h0_begin, w_h0_copies, w_h0_literals, w_h0_parts, w_h0_frameBegin, w_h0_flags, w_h0_width, w_h0_size])), (h1, .inr (2, [w_h1_held, .int u1])), (h2, .inr (1, [w_h2_facts, .int u2])), (h0_input, .inr (2, [w_h0_input_held, .int h0_input_count]))] H := hP
  have hD : va_D A [(h0, .inr (5, [.ref h0_input, w_h0_words, w_h0_settings, .ref h1, .ref h2, .int (0 : Int32), w_h0_brokenAt, .int (0 : Int32), .int r3, w_h0_begin, w_h0_copies, w_h0_literals, w_h0_parts, w_h0_frameBegin, w_h0_flags, w_h0_width, w_h0_size])), (h1, .inr (2, [w_h1_held, .int u1])), (h2, .inr (1, [w_h2_facts, .int u2])), (h0_input, .inr (2, [w_h0_input_held, .int h0_input_count]))] := hD
  obtain ⟨rfl, hq_1⟩ := Prod.mk.inj (Option.some.inj hf)
  obtain ⟨rfl, hq_2⟩ := Prod.mk.inj hq_1
  obtain ⟨rfl, hq_3⟩ := Prod.mk.inj hq_2
  obtain ⟨rfl, hq_4⟩ := Prod.mk.inj hq_3
  obtain rfl := hq_4
  exact rt_v hQ hx hb hr hlocks hP hD hS dX6_start_46

theorem dX6_beginBlock_0 : decode cX6_beginBlock 0 = .ok (.aload_n 0, 1) := by decide +kernel
theorem dX6_beginBlock_1 : decode cX6_beginBlock 1 = .ok (.aload_n 0, 1) := by decide +kernel
theorem dX6_beginBlock_2 : decode cX6_beginBlock 2 = .ok (.getfield 29, 3) := by decide +kernel
theorem dX6_beginBlock_5 : decode cX6_beginBlock 5 = .ok (.invokevirtual 50, 3) := by decide +kernel
theorem dX6_beginBlock_8 : decode cX6_beginBlock 8 = .ok (.putfield 68, 3) := by decide +kernel
theorem dX6_beginBlock_11 : decode cX6_beginBlock 11 = .ok (.aload_n 0, 1) := by decide +kernel
theorem dX6_beginBlock_12 : decode cX6_beginBlock 12 = .ok (.iconst 0, 1) := by decide +kernel
theorem dX6_beginBlock_13 : decode cX6_beginBlock 13 = .ok (.putfield 71, 3) := by decide +kernel
theorem dX6_beginBlock_16 : decode cX6_beginBlock 16 = .ok (.aload_n 0, 1) := by decide +kernel
theorem dX6_beginBlock_17 : decode cX6_beginBlock 17 = .ok (.iconst 0, 1) := by decide +kernel
theorem dX6_beginBlock_18 : decode cX6_beginBlock 18 = .ok (.putfield 74, 3) := by decide +kernel
theorem dX6_beginBlock_21 : decode cX6_beginBlock 21 = .ok (.aload_n 0, 1) := by decide +kernel
theorem dX6_beginBlock_22 : decode cX6_beginBlock 22 = .ok (.iconst 0, 1) := by decide +kernel
theorem dX6_beginBlock_23 : decode cX6_beginBlock 23 = .ok (.putfield 77, 3) := by decide +kernel
theorem dX6_beginBlock_26 : decode cX6_beginBlock 26 = .ok (.return_, 1) := by decide +kernel
def m_Opener_beginBlock (h0_to_count : Int32) : Option (Int32 × Int32 × Int32 × Int32) :=
  (m_Bytes_size h0_to_count).bind fun r1 =>
  some (r1, (0 : Int32), (0 : Int32), (0 : Int32))
def rm_Opener_beginBlock : Room := { frames := 1, cells := 0, slots := 0, locals := 20 }
set_option maxHeartbeats 4000000 in
set_option maxRecDepth 100000 in
theorem c_Opener_beginBlock {l : Launch} {dC : Nat → ClassId} {dI : Nat → Nat → Nat} {cB cI : ClassId} {sz : Nat} {h0 : Nat} {h0_to : Nat} {w_h0_input : Value} {w_h0_words : Value} {w_h0_settings : Value} {w_h0_blocks : Value} {w_h0_broken : Value} {w_h0_brokenAt : Value} {w_h0_at : Value} {w_h0_end : Value} {h0_begin : Int32} {h0_copies : Int32} {h0_literals : Int32} {h0_parts : Int32} {w_h0_frameBegin : Value} {w_h0_flags : Value} {w_h0_width : Value} {w_h0_size : Value} {w_h0_to_held : Value} {h0_to_count : Int32} {o_h0_begin : Int32} {o_h0_copies : Int32} {o_h0_literals : Int32} {o_h0_parts : Int32} (hf : m_Opener_beginBlock h0_to_count = some (o_h0_begin, o_h0_copies, o_h0_literals, o_h0_parts)) : Met l yX6_beginBlock (Cond.code yX6_beginBlock cX6_beginBlock 1 none :: lw_G) rm_Opener_beginBlock (PreC (dC, dI) [(cB, .byte), (cI, .int)] [.ref h0] sz [(h0, .inr (5, [w_h0_input, w_h0_words, w_h0_settings, .ref h0_to, w_h0_blocks, w_h0_broken, w_h0_brokenAt, w_h0_at, w_h0_end, .int h0_begin, .int h0_copies, .int h0_literals, .int h0_parts, w_h0_frameBegin, w_h0_flags, w_h0_width, w_h0_size])), (h0_to, .inr (2, [w_h0_to_held, .int h0_to_count]))]) (QcV (dC, dI) [(h0, .inr (5, [w_h0_input, w_h0_words, w_h0_settings, .ref h0_to, w_h0_blocks, w_h0_broken, w_h0_brokenAt, w_h0_at, w_h0_end, .int o_h0_begin, .int o_h0_copies, .int o_h0_literals, .int o_h0_parts, w_h0_frameBegin, w_h0_flags, w_h0_width, w_h0_size])), (h0_to, .inr (2, [w_h0_to_held, .int h0_to_count]))] (va_A [(h0, .inr (5, [w_h0_input, w_h0_words, w_h0_settings, .ref h0_to, w_h0_blocks, w_h0_broken, w_h0_brokenAt, w_h0_at, w_h0_end, .int h0_begin, .int h0_copies, .int h0_literals, .int h0_parts, w_h0_frameBegin, w_h0_flags, w_h0_width, w_h0_size])), (h0_to, .inr (2, [w_h0_to_held, .int h0_to_count]))] sz)) 0 0 (va_A [(h0, .inr (5, [w_h0_input, w_h0_words, w_h0_settings, .ref h0_to, w_h0_blocks, w_h0_broken, w_h0_brokenAt, w_h0_at, w_h0_end, .int h0_begin, .int h0_copies, .int h0_literals, .int h0_parts, w_h0_frameBegin, w_h0_flags, w_h0_width, w_h0_size])), (h0_to, .inr (2, [w_h0_to_held, .int h0_to_count]))] sz) := by
  refine met_of (Qf := fun A => QcV (dC, dI) [(h0, .inr (5, [w_h0_input, w_h0_words, w_h0_settings, .ref h0_to, w_h0_blocks, w_h0_broken, w_h0_brokenAt, w_h0_at, w_h0_end, .int o_h0_begin, .int o_h0_copies, .int o_h0_literals, .int o_h0_parts, w_h0_frameBegin, w_h0_flags, w_h0_width, w_h0_size])), (h0_to, .inr (2, [w_h0_to_held, .int h0_to_count]))] A) (by decide) (Nat.le_of_ble_eq_true rfl) ?_
  intro p e s m below meth c A ls Q hx hb hr hml hown hts hlocks hnm hP hK hD hN hT hA hl hQ
  have hown : s.vm.findClass RX6 = some m.cls := hown
  have hS : va_S A s.heap s.heap [] := va_S.rf
  have hl : lv_has ls 1 [(0, .ref h0)] := hl
  unfold m_Opener_beginBlock at hf
  refine lv_aload_n hx hb dX6_beginBlock_0 rfl (lv_at hl 0 rfl) ?_
  refine lv_aload_n hx hb dX6_beginBlock_1 rfl (lv_at hl 0 rfl) ?_
  refine va_get (D := (dC, dI)) (ci := 5) (v := .ref h0_to) (C := RX6) (T := TX6) (N := 17) hx hb hts inG_X6 hown hK hP 0 rfl rfl 3 (by decide) (hts _ kw_292) (fun _ h9 => h9) rfl dX6_beginBlock_2 ?_
  obtain ⟨r1, hc, hf⟩ := bind_some hf
  refine nx_i (rn_V (As := []) (rest := [.ref h0]) (n := 0) (ci := 2) (q0 := 0) ⟨hx, hb, hml, hown, hts⟩ (c_Bytes_size (l := l) (dC := dC) (dI := dI) (cB := cB) (cI := cI) (h0 := h0_to) (w_h0_held := (w_h0_to_held)) (h0_count := h0_to_count)  (o_r := r1) hc) (wV kw_849 kw_402 kw_403 kw_83 kw_404) (by decide +kernel) ⟨Nat.le_of_ble_eq_true rfl, Nat.le_of_ble_eq_true rfl⟩ hK hP hD hN hT hS (va_free (wc := [(h0_to, .inr (2, [w_h0_to_held, .int h0_to_count]))]) hD hS hA [1] rfl) [1] rfl (by decide) rfl rfl rfl hl.1 rfl (lv_room (Nat.le_of_ble_eq_true rfl)) dX6_beginBlock_5 ⟨Nat.le_of_ble_eq_true rfl, Nat.le_of_ble_eq_true rfl⟩) hP hD hS hA (wr := [(h0, .inr (5, [w_h0_input, w_h0_words, w_h0_settings, .ref h0_to, w_h0_blocks, w_h0_broken, w_h0_brokenAt, w_h0_at, w_h0_end, .int h0_begin, .int h0_copies, .int h0_literals, .int h0_parts, w_h0_frameBegin, w_h0_flags, w_h0_width, w_h0_size]))]) (w1 := [(h0_to, .inr (2, [w_h0_to_held, .int h0_to_count]))]) (ws' := [(h0, .inr (5, [w_h0_input, w_h0_words, w_h0_settings, .ref h0_to, w_h0_blocks, w_h0_broken, w_h0_brokenAt, w_h0_at, w_h0_end, .int h0_begin, .int h0_copies, .int h0_literals, .int h0_parts, w_h0_frameBegin, w_h0_flags, w_h0_width, w_h0_size])), (h0_to, .inr (2, [w_h0_to_held, .int h0_to_count]))]) [1] [0] [0, 1] rfl rfl (by decide) (by decide) rfl (by decide) (fun H locs hP hD hS => ?_)
  refine va_put (D := (dC, dI)) (ci := 5) (v := .int r1) (ty := .int) (C := RX6) (T := TX6) (N := 17) hx hb hts inG_X6 tyX6 tyX6_ok nmX6 hown hK hP hD hS 0 rfl rfl 9 (by decide) (hts _ kw_298) (fun _ h9 => h9) rfl (by decide +kernel) rfl rfl (Nat.le_of_ble_eq_true rfl) dX6_beginBlock_8 (fun H locs hP hD hS => ?_)
  have hP : va_P (dC, dI) vwCl [(h0, .inr (5, [w_h0_input, w_h0_words, w_h0_settings, .ref h0_to, w_h0_blocks, w_h0_broken, w_h0_brokenAt, w_h0_at, w_h0_end, .int r1, .int h0_copies, .int h0_literals, .int h0_parts, w_h0_frameBegin, w_h0_flags, w_h0_width, w_h0_size])), (h0_to, .inr (2, [w_h0_to_held, .int h0_to_count]))] H := hP
  have hD : va_D A [(h0, .inr (5, [w_h0_input, w_h0_words, w_h0_settings, .ref h0_to, w_h0_blocks, w_h0_broken, w_h0_brokenAt, w_h0_at, w_h0_end, .int r1, .int h0_copies, .int h0_literals, .int h0_parts, w_h0_frameBegin, w_h0_flags, w_h0_width, w_h0_size])), (h0_to, .inr (2, [w_h0_to_held, .int h0_to_count]))] := hD
  refine lv_aload_n hx hb dX6_beginBlock_11 rfl (lv_at hl 0 rfl) ?_
  refine lv_iconst (v := 0) hx hb dX6_beginBlock_12 (by decide) ?_
  refine va_put (D := (dC, dI)) (ci := 5) (v := .int (0 : Int32)) (ty := .int) (C := RX6) (T := TX6) (N := 17) hx hb hts inG_X6 tyX6 tyX6_ok nmX6 hown hK hP hD hS 0 rfl rfl 10 (by decide) (hts _ kw_299) (fun _ h9 => h9) rfl (by decide +kernel) rfl rfl (Nat.le_of_ble_eq_true rfl) dX6_beginBlock_13 (fun H locs hP hD hS => ?_)
  have hP : va_P (dC, dI) vwCl [(h0, .inr (5, [w_h0_input, w_h0_words, w_h0_settings, .ref h0_to, w_h0_blocks, w_h0_broken, w_h0_brokenAt, w_h0_at, w_h0_end, .int r1, .int (0 : Int32), .int h0_literals, .int h0_parts, w_h0_frameBegin, w_h0_flags, w_h0_width, w_h0_size])), (h0_to, .inr (2, [w_h0_to_held, .int h0_to_count]))] H := hP
  have hD : va_D A [(h0, .inr (5, [w_h0_input, w_h0_words, w_h0_settings, .ref h0_to, w_h0_blocks, w_h0_broken, w_h0_brokenAt, w_h0_at, w_h0_end, .int r1, .int (0 : Int32), .int h0_literals, .int h0_parts, w_h0_frameBegin, w_h0_flags, w_h0_width, w_h0_size])), (h0_to, .inr (2, [w_h0_to_held, .int h0_to_count]))] := hD
  refine lv_aload_n hx hb dX6_beginBlock_16 rfl (lv_at hl 0 rfl) ?_
  refine lv_iconst (v := 0) hx hb dX6_beginBlock_17 (by decide) ?_
  refine va_put (D := (dC, dI)) (ci := 5) (v := .int (0 : Int32)) (ty := .int) (C := RX6) (T := TX6) (N := 17) hx hb hts inG_X6 tyX6 tyX6_ok nmX6 hown hK hP hD hS 0 rfl rfl 11 (by decide) (hts _ kw_300) (fun _ h9 => h9) rfl (by decide +kernel) rfl rfl (Nat.le_of_ble_eq_true rfl) dX6_beginBlock_18 (fun H locs hP hD hS => ?_)
  have hP : va_P (dC, dI) vwCl [(h0, .inr (5, [w_h0_input, w_h0_words, w_h0_settings, .ref h0_to, w_h0_blocks, w_h0_broken, w_h0_brokenAt, w_h0_at, w_h0_end, .int r1, .int (0 : Int32), .int (0 : Int32), .int h0_parts, w_h0_frameBegin, w_h0_flags, w_h0_width, w_h0_size])), (h0_to, .inr (2, [w_h0_to_held, .int h0_to_count]))] H := hP
  have hD : va_D A [(h0, .inr (5, [w_h0_input, w_h0_words, w_h0_settings, .ref h0_to, w_h0_blocks, w_h0_broken, w_h0_brokenAt, w_h0_at, w_h0_end, .int r1, .int (0 : Int32), .int (0 : Int32), .int h0_parts, w_h0_frameBegin, w_h0_flags, w_h0_width, w_h0_size])), (h0_to, .inr (2, [w_h0_to_held, .int h0_to_count]))] := hD
  refine lv_aload_n hx hb dX6_beginBlock_21 rfl (lv_at hl 0 rfl) ?_
  refine lv_iconst (v := 0) hx hb dX6_beginBlock_22 (by decide) ?_
  refine va_put (D := (dC, dI)) (ci := 5) (v := .int (0 : Int32)) (ty := .int) (C := RX6) (T := TX6) (N := 17) hx hb hts inG_X6 tyX6 tyX6_ok nmX6 hown hK hP hD hS 0 rfl rfl 12 (by decide) (hts _ kw_301) (fun _ h9 => h9) rfl (by decide +kernel) rfl rfl (Nat.le_of_ble_eq_true rfl) dX6_beginBlock_23 (fun H locs hP hD hS => ?_)
  have hP : va_P (dC, dI) vwCl [(h0, .inr (5, [w_h0_input, w_h0_words, w_h0_settings, .ref h0_to, w_h0_blocks, w_h0_broken, w_h0_brokenAt, w_h0_at, w_h0_end, .int r1, .int (0 : Int32), .int (0 : Int32), .int (0 : Int32), w_h0_frameBegin, w_h0_flags, w_h0_width, w_h0_size])), (h0_to, .inr (2, [w_h0_to_held, .int h0_to_count]))] H := hP
  have hD : va_D A [(h0, .inr (5, [w_h0_input, w_h0_words, w_h0_settings, .ref h0_to, w_h0_blocks, w_h0_broken, w_h0_brokenAt, w_h0_at, w_h0_end, .int r1, .int (0 : Int32), .int (0 : Int32), .int (0 : Int32), w_h0_frameBegin, w_h0_flags, w_h0_width, w_h0_size])), (h0_to, .inr (2, [w_h0_to_held, .int h0_to_count]))] := hD
  obtain ⟨rfl, hq_1⟩ := Prod.mk.inj (Option.some.inj hf)
  obtain ⟨rfl, hq_2⟩ := Prod.mk.inj hq_1
  obtain ⟨rfl, hq_3⟩ := Prod.mk.inj hq_2
  obtain rfl := hq_3
  exact rt_v hQ hx hb hr hlocks hP hD hS dX6_beginBlock_26

theorem dX6_withAdded_0 : decode cX6_withAdded 0 = .ok (.iload_n 1, 1) := by decide +kernel
theorem dX6_withAdded_1 : decode cX6_withAdded 1 = .ok (.istore_n 2, 1) := by decide +kernel
theorem dX6_withAdded_2 : decode cX6_withAdded 2 = .ok (.iload_n 1, 1) := by decide +kernel
theorem dX6_withAdded_3 : decode cX6_withAdded 3 = .ok (.bipush 15, 2) := by decide +kernel
theorem dX6_withAdded_5 : decode cX6_withAdded 5 = .ok (.if_icmp .ne 9, 3) := by decide +kernel
theorem dX6_withAdded_8 : decode cX6_withAdded 8 = .ok (.sipush 255, 3) := by decide +kernel
theorem dX6_withAdded_11 : decode cX6_withAdded 11 = .ok (.goto 4, 3) := by decide +kernel
theorem dX6_withAdded_14 : decode cX6_withAdded 14 = .ok (.iconst 0, 1) := by decide +kernel
theorem dX6_withAdded_15 : decode cX6_withAdded 15 = .ok (.istore_n 3, 1) := by decide +kernel
theorem dX6_withAdded_16 : decode cX6_withAdded 16 = .ok (.iload_n 3, 1) := by decide +kernel
theorem dX6_withAdded_17 : decode cX6_withAdded 17 = .ok (.sipush 255, 3) := by decide +kernel
theorem dX6_withAdded_20 : decode cX6_withAdded 20 = .ok (.if_icmp .ne 43, 3) := by decide +kernel
theorem dX6_withAdded_23 : decode cX6_withAdded 23 = .ok (.aload_n 0, 1) := by decide +kernel
theorem dX6_withAdded_24 : decode cX6_withAdded 24 = .ok (.getfield 47, 3) := by decide +kernel
theorem dX6_withAdded_27 : decode cX6_withAdded 27 = .ok (.aload_n 0, 1) := by decide +kernel
theorem dX6_withAdded_28 : decode cX6_withAdded 28 = .ok (.getfield 54, 3) := by decide +kernel
theorem dX6_withAdded_31 : decode cX6_withAdded 31 = .ok (.if_icmp .ge 32, 3) := by decide +kernel
theorem dX6_withAdded_34 : decode cX6_withAdded 34 = .ok (.aload_n 0, 1) := by decide +kernel
theorem dX6_withAdded_35 : decode cX6_withAdded 35 = .ok (.getfield 9, 3) := by decide +kernel
theorem dX6_withAdded_38 : decode cX6_withAdded 38 = .ok (.aload_n 0, 1) := by decide +kernel
theorem dX6_withAdded_39 : decode cX6_withAdded 39 = .ok (.getfield 47, 3) := by decide +kernel
theorem dX6_withAdded_42 : decode cX6_withAdded 42 = .ok (.invokevirtual 89, 3) := by decide +kernel
theorem dX6_withAdded_45 : decode cX6_withAdded 45 = .ok (.istore_n 3, 1) := by decide +kernel
theorem dX6_withAdded_46 : decode cX6_withAdded 46 = .ok (.iload_n 2, 1) := by decide +kernel
theorem dX6_withAdded_47 : decode cX6_withAdded 47 = .ok (.iload_n 3, 1) := by decide +kernel
theorem dX6_withAdded_48 : decode cX6_withAdded 48 = .ok (.iadd, 1) := by decide +kernel
theorem dX6_withAdded_49 : decode cX6_withAdded 49 = .ok (.istore_n 2, 1) := by decide +kernel
theorem dX6_withAdded_50 : decode cX6_withAdded 50 = .ok (.aload_n 0, 1) := by decide +kernel
theorem dX6_withAdded_51 : decode cX6_withAdded 51 = .ok (.dup, 1) := by decide +kernel
theorem dX6_withAdded_52 : decode cX6_withAdded 52 = .ok (.getfield 47, 3) := by decide +kernel
theorem dX6_withAdded_55 : decode cX6_withAdded 55 = .ok (.iconst 1, 1) := by decide +kernel
theorem dX6_withAdded_56 : decode cX6_withAdded 56 = .ok (.iadd, 1) := by decide +kernel
theorem dX6_withAdded_57 : decode cX6_withAdded 57 = .ok (.putfield 47, 3) := by decide +kernel
theorem dX6_withAdded_60 : decode cX6_withAdded 60 = .ok (.goto (-44), 3) := by decide +kernel
theorem dX6_withAdded_63 : decode cX6_withAdded 63 = .ok (.iload_n 3, 1) := by decide +kernel
theorem dX6_withAdded_64 : decode cX6_withAdded 64 = .ok (.sipush 255, 3) := by decide +kernel
theorem dX6_withAdded_67 : decode cX6_withAdded 67 = .ok (.if_icmp .ne 7, 3) := by decide +kernel
theorem dX6_withAdded_70 : decode cX6_withAdded 70 = .ok (.iconst (-1), 1) := by decide +kernel
theorem dX6_withAdded_71 : decode cX6_withAdded 71 = .ok (.goto 4, 3) := by decide +kernel
theorem dX6_withAdded_74 : decode cX6_withAdded 74 = .ok (.iload_n 2, 1) := by decide +kernel
theorem dX6_withAdded_75 : decode cX6_withAdded 75 = .ok (.ireturn, 1) := by decide +kernel
def m_Opener_withAdded_E63 (g2 : Int32) (j2_3 : Int32) (j3_4 : Int32) : Option (Int32 × Int32) :=
  if j3_4 = (255 : Int32) then
    some ((-1 : Int32), g2)
  else
    some (j2_3, g2)
def m_Opener_withAdded_B16 (h0_end : Int32) (h0_input_count : Int32) (h0_input_held_n : Nat) (h0_input_held_f : Nat → Int32) (g5 : Int32) (j2_6 : Int32) (j3_7 : Int32) : Option ((Int32 × Int32 × Int32) ⊕ ((Int32 × Int32 × Int32))) :=
  if j3_7 = (255 : Int32) then
    if h0_end ≤ g5 then
      some (.inr (g5, j2_6, j3_7))
    else
      (m_Bytes_at g5 h0_input_count h0_input_held_n h0_input_held_f).bind fun r8 =>
      bnd (j2_6 + r8) fun v2_9 =>
      bnd (g5 + (1 : Int32)) fun p_10 =>
      some (.inl (p_10, v2_9, r8))
  else
    some (.inr (g5, j2_6, j3_7))
def m_Opener_withAdded_J15 (a1 : Int32) (h0_at : Int32) (h0_end : Int32) (h0_input_count : Int32) (h0_input_held_n : Nat) (h0_input_held_f : Nat → Int32) (s1 : Int32) : Option (Int32 × Int32) :=
  (iter (fun st => m_Opener_withAdded_B16 h0_end h0_input_count h0_input_held_n h0_input_held_f st.1 st.2.1 st.2.2) FU (h0_at, a1, s1)).bind fun o => m_Opener_withAdded_E63 o.1 o.2.1 o.2.2
def m_Opener_withAdded (a1 : Int32) (h0_at : Int32) (h0_end : Int32) (h0_input_count : Int32) (h0_input_held_n : Nat) (h0_input_held_f : Nat → Int32) : Option (Int32 × Int32) :=
  if a1 = (15 : Int32) then
    m_Opener_withAdded_J15 a1 h0_at h0_end h0_input_count h0_input_held_n h0_input_held_f (255 : Int32)
  else
    m_Opener_withAdded_J15 a1 h0_at h0_end h0_input_count h0_input_held_n h0_input_held_f (0 : Int32)
def rm_Opener_withAdded : Room := { frames := 1, cells := 0, slots := 0, locals := 21 }
set_option maxHeartbeats 4000000 in
set_option maxRecDepth 100000 in
theorem c_Opener_withAdded {l : Launch} {dC : Nat → ClassId} {dI : Nat → Nat → Nat} {cB cI : ClassId} {sz : Nat} {h0 : Nat} {a1 : Int32} {h0_input : Nat} {h0_input_held : Nat} {w_h0_words : Value} {w_h0_settings : Value} {w_h0_to : Value} {w_h0_blocks : Value} {w_h0_broken : Value} {w_h0_brokenAt : Value} {h0_at : Int32} {h0_end : Int32} {w_h0_begin : Value} {w_h0_copies : Value} {w_h0_literals : Value} {w_h0_parts : Value} {w_h0_frameBegin : Value} {w_h0_flags : Value} {w_h0_width : Value} {w_h0_size : Value} {h0_input_count : Int32} {h0_input_held_n : Nat} {h0_input_held_f : Nat → Int32} {o_r : Int32} {o_h0_at : Int32} (hf : m_Opener_withAdded a1 h0_at h0_end h0_input_count h0_input_held_n h0_input_held_f = some (o_r, o_h0_at)) : Met l yX6_withAdded (Cond.code yX6_withAdded cX6_withAdded 4 (some .int) :: lw_G) rm_Opener_withAdded (PreC (dC, dI) [(cB, .byte), (cI, .int)] [.ref h0, .int a1] sz [(h0, .inr (5, [.ref h0_input, w_h0_words, w_h0_settings, w_h0_to, w_h0_blocks, w_h0_broken, w_h0_brokenAt, .int h0_at, .int h0_end, w_h0_begin, w_h0_copies, w_h0_literals, w_h0_parts, w_h0_frameBegin, w_h0_flags, w_h0_width, w_h0_size])), (h0_input, .inr (2, [.ref h0_input_held, .int h0_input_count])), (h0_input_held, .inl (cB, h0_input_held_n, .inl h0_input_held_f))]) (QcI o_r (dC, dI) [(h0, .inr (5, [.ref h0_input, w_h0_words, w_h0_settings, w_h0_to, w_h0_blocks, w_h0_broken, w_h0_brokenAt, .int o_h0_at, .int h0_end, w_h0_begin, w_h0_copies, w_h0_literals, w_h0_parts, w_h0_frameBegin, w_h0_flags, w_h0_width, w_h0_size])), (h0_input, .inr (2, [.ref h0_input_held, .int h0_input_count])), (h0_input_held, .inl (cB, h0_input_held_n, .inl h0_input_held_f))] (va_A [(h0, .inr (5, [.ref h0_input, w_h0_words, w_h0_settings, w_h0_to, w_h0_blocks, w_h0_broken, w_h0_brokenAt, .int h0_at, .int h0_end, w_h0_begin, w_h0_copies, w_h0_literals, w_h0_parts, w_h0_frameBegin, w_h0_flags, w_h0_width, w_h0_size])), (h0_input, .inr (2, [.ref h0_input_held, .int h0_input_count])), (h0_input_held, .inl (cB, h0_input_held_n, .inl h0_input_held_f))] sz)) 0 0 (va_A [(h0, .inr (5, [.ref h0_input, w_h0_words, w_h0_settings, w_h0_to, w_h0_blocks, w_h0_broken, w_h0_brokenAt, .int h0_at, .int h0_end, w_h0_begin, w_h0_copies, w_h0_literals, w_h0_parts, w_h0_frameBegin, w_h0_flags, w_h0_width, w_h0_size])), (h0_input, .inr (2, [.ref h0_input_held, .int h0_input_count])), (h0_input_held, .inl (cB, h0_input_held_n, .inl h0_input_held_f))] sz) := by
  refine met_of (Qf := fun A => QcI o_r (dC, dI) [(h0, .inr (5, [.ref h0_input, w_h0_words, w_h0_settings, w_h0_to, w_h0_blocks, w_h0_broken, w_h0_brokenAt, .int o_h0_at, .int h0_end, w_h0_begin, w_h0_copies, w_h0_literals, w_h0_parts, w_h0_frameBegin, w_h0_flags, w_h0_width, w_h0_size])), (h0_input, .inr (2, [.ref h0_input_held, .int h0_input_count])), (h0_input_held, .inl (cB, h0_input_held_n, .inl h0_input_held_f))] A) (by decide) (Nat.le_of_ble_eq_true rfl) ?_
  intro p e s m below meth c A ls Q hx hb hr hml hown hts hlocks hnm hP hK hD hN hT hA hl hQ
  have hown : s.vm.findClass RX6 = some m.cls := hown
  have hS : va_S A s.heap s.heap [] := va_S.rf
  have hl : lv_has ls 4 [(0, .ref h0), (1, .int a1)] := hl
  unfold m_Opener_withAdded at hf
  refine lv_iload_n hx hb dX6_withAdded_0 rfl (lv_at hl 1 rfl) ?_
  refine lv_istore_n (lv' := [(2, .int a1), (0, .ref h0), (1, .int a1)]) hx hb dX6_withAdded_1 rfl hl (by decide) rfl (fun ls hl => ?_)
  refine lv_iload_n hx hb dX6_withAdded_2 rfl (lv_at hl 2 rfl) ?_
  refine lv_bipush (v := 15) hx hb dX6_withAdded_3 (by decide) ?_
  have hJ_15 : ∀ (s1 : Int32) (H : Heap) (locs : List Loc) (ls : Array Slot), m_Opener_withAdded_J15 a1 h0_at h0_end h0_input_count h0_input_held_n h0_input_held_f s1 = some (o_r, o_h0_at) → va_P (dC, dI) vwCl [(h0, .inr (5, [.ref h0_input, w_h0_words, w_h0_settings, w_h0_to, w_h0_blocks, w_h0_broken, w_h0_brokenAt, .int h0_at, .int h0_end, w_h0_begin, w_h0_copies, w_h0_literals, w_h0_parts, w_h0_frameBegin, w_h0_flags, w_h0_width, w_h0_size])), (h0_input, .inr (2, [.ref h0_input_held, .int h0_input_count])), (h0_input_held, .inl (cB, h0_input_held_n, .inl h0_input_held_f))] H → va_D A [(h0, .inr (5, [.ref h0_input, w_h0_words, w_h0_settings, w_h0_to, w_h0_blocks, w_h0_broken, w_h0_brokenAt, .int h0_at, .int h0_end, w_h0_begin, w_h0_copies, w_h0_literals, w_h0_parts, w_h0_frameBegin, w_h0_flags, w_h0_width, w_h0_size])), (h0_input, .inr (2, [.ref h0_input_held, .int h0_input_count])), (h0_input_held, .inl (cB, h0_input_held_n, .inl h0_input_held_f))] → va_S A s.heap H locs → lv_has ls 4 [(0, .ref h0), (2, .int a1)] → W p l e (rm_Opener_withAdded) s m ([.ref h0, .int a1] : List Value).toArray below meth c H locs 0 0 Q (F0 m 15 ls [.int s1]) := by
    intro s1 H locs ls hf hP hD hS hl
    unfold m_Opener_withAdded_J15 at hf
    refine lv_istore_n (lv' := [(3, .int s1), (0, .ref h0), (2, .int a1)]) hx hb dX6_withAdded_15 rfl hl (by decide) rfl (fun ls hl => ?_)
    have hJ_63 : ∀ (g2 : Int32) (j2_3 : Int32) (j3_4 : Int32) (H : Heap) (locs : List Loc) (ls : Array Slot), m_Opener_withAdded_E63 g2 j2_3 j3_4 = some (o_r, o_h0_at) → va_P (dC, dI) vwCl [(h0, .inr (5, [.ref h0_input, w_h0_words, w_h0_settings, w_h0_to, w_h0_blocks, w_h0_broken, w_h0_brokenAt, .int g2, .int h0_end, w_h0_begin, w_h0_copies, w_h0_literals, w_h0_parts, w_h0_frameBegin, w_h0_flags, w_h0_width, w_h0_size])), (h0_input, .inr (2, [.ref h0_input_held, .int h0_input_count])), (h0_input_held, .inl (cB, h0_input_held_n, .inl h0_input_held_f))] H → va_D A [(h0, .inr (5, [.ref h0_input, w_h0_words, w_h0_settings, w_h0_to, w_h0_blocks, w_h0_broken, w_h0_brokenAt, .int g2, .int h0_end, w_h0_begin, w_h0_copies, w_h0_literals, w_h0_parts, w_h0_frameBegin, w_h0_flags, w_h0_width, w_h0_size])), (h0_input, .inr (2, [.ref h0_input_held, .int h0_input_count])), (h0_input_held, .inl (cB, h0_input_held_n, .inl h0_input_held_f))] → va_S A s.heap H locs → lv_has ls 4 [(2, .int j2_3), (3, .int j3_4)] → W p l e (rm_Opener_withAdded) s m ([.ref h0, .int a1] : List Value).toArray below meth c H locs 0 0 Q (F0 m 63 ls []) := by
      intro g2 j2_3 j3_4 H locs ls hf hP hD hS hl
      unfold m_Opener_withAdded_E63 at hf
      refine lv_iload_n hx hb dX6_withAdded_63 rfl (lv_at hl 1 rfl) ?_
      refine lv_sipush (v := 255) hx hb dX6_withAdded_64 (by decide) ?_
      refine lv_icmp_ne (tgt := 74) hx hb dX6_withAdded_67 (by decide) (fun c_67 => ?_) (fun c_67 => ?_)
      · replace hf := if_f c_67 hf
        refine lv_iload_n hx hb dX6_withAdded_74 rfl (lv_at hl 0 rfl) ?_
        obtain ⟨rfl, hq_1⟩ := Prod.mk.inj (Option.some.inj hf)
        obtain rfl := hq_1
        exact rt_i hQ hx hb hr hlocks hP hD hS dX6_withAdded_75
      · replace hf := if_t c_67 hf
        refine lv_iconst (v := -1) hx hb dX6_withAdded_70 (by decide) ?_
        refine lv_goto (tgt := 75) hx hb dX6_withAdded_71 (by decide) ?_
        obtain ⟨rfl, hq_1⟩ := Prod.mk.inj (Option.some.inj hf)
        obtain rfl := hq_1
        exact rt_i hQ hx hb hr hlocks hP hD hS dX6_withAdded_75
    obtain ⟨o_16, hi_16, hk_16⟩ := bind_some hf
    have hL_16 : ∀ (n : Nat) (g5 : Int32) (j2_6 : Int32) (j3_7 : Int32) (H : Heap) (locs : List Loc) (ls : Array Slot), iter (fun st => m_Opener_withAdded_B16 h0_end h0_input_count h0_input_held_n h0_input_held_f st.1 st.2.1 st.2.2) n (g5, j2_6, j3_7) = some o_16 → va_P (dC, dI) vwCl [(h0, .inr (5, [.ref h0_input, w_h0_words, w_h0_settings, w_h0_to, w_h0_blocks, w_h0_broken, w_h0_brokenAt, .int g5, .int h0_end, w_h0_begin, w_h0_copies, w_h0_literals, w_h0_parts, w_h0_frameBegin, w_h0_flags, w_h0_width, w_h0_size])), (h0_input, .inr (2, [.ref h0_input_held, .int h0_input_count])), (h0_input_held, .inl (cB, h0_input_held_n, .inl h0_input_held_f))] H → va_D A [(h0, .inr (5, [.ref h0_input, w_h0_words, w_h0_settings, w_h0_to, w_h0_blocks, w_h0_broken, w_h0_brokenAt, .int g5, .int h0_end, w_h0_begin, w_h0_copies, w_h0_literals, w_h0_parts, w_h0_frameBegin, w_h0_flags, w_h0_width, w_h0_size])), (h0_input, .inr (2, [.ref h0_input_held, .int h0_input_count])), (h0_input_held, .inl (cB, h0_input_held_n, .inl h0_input_held_f))] → va_S A s.heap H locs → lv_has ls 4 [(0, .ref h0), (2, .int j2_6), (3, .int j3_7)] → W p l e (rm_Opener_withAdded) s m ([.ref h0, .int a1] : List Value).toArray below meth c H locs 0 0 Q (F0 m 16 ls []) := by
      intro n
      induction n with
      | zero => intro g5 j2_6 j3_7 H locs ls hf; exact absurd hf (fun z => by cases z)
      | succ n ih_16 =>
        intro g5 j2_6 j3_7 H locs ls hf hP hD hS hl
        obtain ⟨r_16, hf, hr_16⟩ := iter_succ hf
        have hf : m_Opener_withAdded_B16 h0_end h0_input_count h0_input_held_n h0_input_held_f g5 j2_6 j3_7 = some r_16 := hf
        unfold m_Opener_withAdded_B16 at hf
        refine lv_iload_n hx hb dX6_withAdded_16 rfl (lv_at hl 2 rfl) ?_
        refine lv_sipush (v := 255) hx hb dX6_withAdded_17 (by decide) ?_
        refine lv_icmp_ne (tgt := 63) hx hb dX6_withAdded_20 (by decide) (fun c_20 => ?_) (fun c_20 => ?_)
        · replace hf := if_f c_20 hf
          have hf : m_Opener_withAdded_E63 g5 j2_6 j3_7 = some (o_r, o_h0_at) := by have hq := hk_16; rw [iter_exit hf hr_16] at hq; exact hq
          exact hJ_63 g5 j2_6 j3_7 _ _ _ hf hP hD hS (lv_sub hl [1, 2] rfl)
        · replace hf := if_t c_20 hf
          refine lv_aload_n hx hb dX6_withAdded_23 rfl (lv_at hl 0 rfl) ?_
          refine va_get (D := (dC, dI)) (ci := 5) (v := .int g5) (C := RX6) (T := TX6) (N := 17) hx hb hts inG_X6 hown hK hP 0 rfl rfl 7 (by decide) (hts _ kw_296) (fun _ h9 => h9) rfl dX6_withAdded_24 ?_
          refine lv_aload_n hx hb dX6_withAdded_27 rfl (lv_at hl 0 rfl) ?_
          refine va_get (D := (dC, dI)) (ci := 5) (v := .int h0_end) (C := RX6) (T := TX6) (N := 17) hx hb hts inG_X6 hown hK hP 0 rfl rfl 8 (by decide) (hts _ kw_297) (fun _ h9 => h9) rfl dX6_withAdded_28 ?_
          refine lv_icmp_ge (tgt := 63) hx hb dX6_withAdded_31 (by decide) (fun c_31 => ?_) (fun c_31 => ?_)
          · replace hf := if_t c_31 hf
            have hf : m_Opener_withAdded_E63 g5 j2_6 j3_7 = some (o_r, o_h0_at) := by have hq := hk_16; rw [iter_exit hf hr_16] at hq; exact hq
            exact hJ_63 g5 j2_6 j3_7 _ _ _ hf hP hD hS (lv_sub hl [1, 2] rfl)
          · replace hf := if_f c_31 hf
            refine lv_aload_n hx hb dX6_withAdded_34 rfl (lv_at hl 0 rfl) ?_
            refine va_get (D := (dC, dI)) (ci := 5) (v := .ref h0_input) (C := RX6) (T := TX6) (N := 17) hx hb hts inG_X6 hown hK hP 0 rfl rfl 0 (by decide) (hts _ kw_289) (fun _ h9 => h9) rfl dX6_withAdded_35 ?_
            refine lv_aload_n hx hb dX6_withAdded_38 rfl (lv_at hl 0 rfl) ?_
            refine va_get (D := (dC, dI)) (ci := 5) (v := .int g5) (C := RX6) (T := TX6) (N := 17) hx hb hts inG_X6 hown hK hP 0 rfl rfl 7 (by decide) (hts _ kw_296) (fun _ h9 => h9) rfl dX6_withAdded_39 ?_
            obtain ⟨r8, hc, hf⟩ := bind_some hf
            refine nx_i (rn_V (As := [.int g5]) (rest := []) (n := 1) (ci := 2) (q0 := 0) ⟨hx, hb, hml, hown, hts⟩ (c_Bytes_at (l := l) (dC := dC) (dI := dI) (cB := cB) (cI := cI) (h0 := h0_input) (a1 := g5) (h0_held := h0_input_held) (h0_count := h0_input_count) (h0_held_n := h0_input_held_n) (h0_held_f := h0_input_held_f)  (o_r := r8) hc) (wV kw_862 kw_418 kw_419 kw_83 kw_420) (by decide +kernel) ⟨Nat.le_of_ble_eq_true rfl, Nat.le_of_ble_eq_true rfl⟩ hK hP hD hN hT hS (va_free (wc := [(h0_input, .inr (2, [.ref h0_input_held, .int h0_input_count])), (h0_input_held, .inl (cB, h0_input_held_n, .inl h0_input_held_f))]) hD hS hA [1, 2] rfl) [1, 2] rfl (by decide) rfl rfl rfl hl.1 rfl (lv_room (Nat.le_of_ble_eq_true rfl)) dX6_withAdded_42 ⟨Nat.le_of_ble_eq_true rfl, Nat.le_of_ble_eq_true rfl⟩) hP hD hS hA (wr := [(h0, .inr (5, [.ref h0_input, w_h0_words, w_h0_settings, w_h0_to, w_h0_blocks, w_h0_broken, w_h0_brokenAt, .int g5, .int h0_end, w_h0_begin, w_h0_copies, w_h0_literals, w_h0_parts, w_h0_frameBegin, w_h0_flags, w_h0_width, w_h0_size]))]) (w1 := [(h0_input, .inr (2, [.ref h0_input_held, .int h0_input_count])), (h0_input_held, .inl (cB, h0_input_held_n, .inl h0_input_held_f))]) (ws' := [(h0, .inr (5, [.ref h0_input, w_h0_words, w_h0_settings, w_h0_to, w_h0_blocks, w_h0_broken, w_h0_brokenAt, .int g5, .int h0_end, w_h0_begin, w_h0_copies, w_h0_literals, w_h0_parts, w_h0_frameBegin, w_h0_flags, w_h0_width, w_h0_size])), (h0_input, .inr (2, [.ref h0_input_held, .int h0_input_count])), (h0_input_held, .inl (cB, h0_input_held_n, .inl h0_input_held_f))]) [1, 2] [0] [0, 1, 2] rfl rfl (by decide) (by decide) rfl (by decide) (fun H locs hP hD hS => ?_)
            refine lv_istore_n (lv' := [(3, .int r8), (0, .ref h0), (2, .int j2_6)]) hx hb dX6_withAdded_45 rfl hl (by decide) rfl (fun ls hl => ?_)
            refine lv_iload_n hx hb dX6_withAdded_46 rfl (lv_at hl 2 rfl) ?_
            refine lv_iload_n hx hb dX6_withAdded_47 rfl (lv_at hl 0 rfl) ?_
            refine lv_iadd hx hb dX6_withAdded_48 ?_
            refine lv_topi (fun v2_9 e_v2_9 => ?_)
            replace hf := bnd_at e_v2_9 hf
            refine lv_istore_n (lv' := [(2, .int v2_9), (3, .int r8), (0, .ref h0)]) hx hb dX6_withAdded_49 rfl hl (by decide) rfl (fun ls hl => ?_)
            refine lv_aload_n hx hb dX6_withAdded_50 rfl (lv_at hl 2 rfl) ?_
            refine lv_dup hx hb dX6_withAdded_51 rfl ?_
            refine va_get (D := (dC, dI)) (ci := 5) (v := .int g5) (C := RX6) (T := TX6) (N := 17) hx hb hts inG_X6 hown hK hP 0 rfl rfl 7 (by decide) (hts _ kw_296) (fun _ h9 => h9) rfl dX6_withAdded_52 ?_
            refine lv_iconst (v := 1) hx hb dX6_withAdded_55 (by decide) ?_
            refine lv_iadd hx hb dX6_withAdded_56 ?_
            refine lv_topi (fun p_10 e_p_10 => ?_)
            replace hf := bnd_at e_p_10 hf
            refine va_put (D := (dC, dI)) (ci := 5) (v := .int p_10) (ty := .int) (C := RX6) (T := TX6) (N := 17) hx hb hts inG_X6 tyX6 tyX6_ok nmX6 hown hK hP hD hS 0 rfl rfl 7 (by decide) (hts _ kw_296) (fun _ h9 => h9) rfl (by decide +kernel) rfl rfl (Nat.le_of_ble_eq_true rfl) dX6_withAdded_57 (fun H locs hP hD hS => ?_)
            have hP : va_P (dC, dI) vwCl [(h0, .inr (5, [.ref h0_input, w_h0_words, w_h0_settings, w_h0_to, w_h0_blocks, w_h0_broken, w_h0_brokenAt, .int p_10, .int h0_end, w_h0_begin, w_h0_copies, w_h0_literals, w_h0_parts, w_h0_frameBegin, w_h0_flags, w_h0_width, w_h0_size])), (h0_input, .inr (2, [.ref h0_input_held, .int h0_input_count])), (h0_input_held, .inl (cB, h0_input_held_n, .inl h0_input_held_f))] H := hP
            have hD : va_D A [(h0, .inr (5, [.ref h0_input, w_h0_words, w_h0_settings, w_h0_to, w_h0_blocks, w_h0_broken, w_h0_brokenAt, .int p_10, .int h0_end, w_h0_begin, w_h0_copies, w_h0_literals, w_h0_parts, w_h0_frameBegin, w_h0_flags, w_h0_width, w_h0_size])), (h0_input, .inr (2, [.ref h0_input_held, .int h0_input_count])), (h0_input_held, .inl (cB, h0_input_held_n, .inl h0_input_held_f))] := hD
            refine lv_goto (tgt := 16) hx hb dX6_withAdded_60 (by decide) ?_
            exact ih_16 p_10 v2_9 r8 _ _ _ (iter_back hf hr_16) hP hD hS (lv_sub hl [2, 0, 1] rfl)
    exact hL_16 FU h0_at a1 s1 _ _ _ hi_16 hP hD hS (lv_sub hl [1, 2, 0] rfl)
  refine lv_icmp_ne (tgt := 14) hx hb dX6_withAdded_5 (by decide) (fun c_5 => ?_) (fun c_5 => ?_)
  · replace hf := if_f c_5 hf
    refine lv_iconst (v := 0) hx hb dX6_withAdded_14 (by decide) ?_
    exact hJ_15 (0 : Int32) _ _ _ hf hP hD hS (lv_sub hl [1, 0] rfl)
  · replace hf := if_t c_5 hf
    refine lv_sipush (v := 255) hx hb dX6_withAdded_8 (by decide) ?_
    refine lv_goto (tgt := 15) hx hb dX6_withAdded_11 (by decide) ?_
    exact hJ_15 (255 : Int32) _ _ _ hf hP hD hS (lv_sub hl [1, 0] rfl)

theorem dX6_lacks_0 : decode cX6_lacks 0 = .ok (.aload_n 0, 1) := by decide +kernel
theorem dX6_lacks_1 : decode cX6_lacks 1 = .ok (.getfield 54, 3) := by decide +kernel
theorem dX6_lacks_4 : decode cX6_lacks 4 = .ok (.aload_n 0, 1) := by decide +kernel
theorem dX6_lacks_5 : decode cX6_lacks 5 = .ok (.getfield 47, 3) := by decide +kernel
theorem dX6_lacks_8 : decode cX6_lacks 8 = .ok (.isub, 1) := by decide +kernel
theorem dX6_lacks_9 : decode cX6_lacks 9 = .ok (.iload_n 1, 1) := by decide +kernel
theorem dX6_lacks_10 : decode cX6_lacks 10 = .ok (.if_icmp .ge 7, 3) := by decide +kernel
theorem dX6_lacks_13 : decode cX6_lacks 13 = .ok (.iconst 1, 1) := by decide +kernel
theorem dX6_lacks_14 : decode cX6_lacks 14 = .ok (.goto 4, 3) := by decide +kernel
theorem dX6_lacks_17 : decode cX6_lacks 17 = .ok (.iconst 0, 1) := by decide +kernel
theorem dX6_lacks_18 : decode cX6_lacks 18 = .ok (.ireturn, 1) := by decide +kernel
def m_Opener_lacks (a1 : Int32) (h0_at : Int32) (h0_end : Int32) : Option (Int32) :=
  if a1 ≤ (h0_end - h0_at) then
    some (0 : Int32)
  else
    some (1 : Int32)
def rm_Opener_lacks : Room := { frames := 0, cells := 0, slots := 0, locals := 0 }
set_option maxHeartbeats 4000000 in
set_option maxRecDepth 100000 in
theorem c_Opener_lacks {l : Launch} {dC : Nat → ClassId} {dI : Nat → Nat → Nat} {cB cI : ClassId} {sz : Nat} {h0 : Nat} {a1 : Int32} {w_h0_input : Value} {w_h0_words : Value} {w_h0_settings : Value} {w_h0_to : Value} {w_h0_blocks : Value} {w_h0_broken : Value} {w_h0_brokenAt : Value} {h0_at : Int32} {h0_end : Int32} {w_h0_begin : Value} {w_h0_copies : Value} {w_h0_literals : Value} {w_h0_parts : Value} {w_h0_frameBegin : Value} {w_h0_flags : Value} {w_h0_width : Value} {w_h0_size : Value} {o_r : Int32} (hf : m_Opener_lacks a1 h0_at h0_end = some o_r) : Met l yX6_lacks (Cond.code yX6_lacks cX6_lacks 2 (some .boolean) :: lw_G) rm_Opener_lacks (PreC (dC, dI) [(cB, .byte), (cI, .int)] [.ref h0, .int a1] sz [(h0, .inr (5, [w_h0_input, w_h0_words, w_h0_settings, w_h0_to, w_h0_blocks, w_h0_broken, w_h0_brokenAt, .int h0_at, .int h0_end, w_h0_begin, w_h0_copies, w_h0_literals, w_h0_parts, w_h0_frameBegin, w_h0_flags, w_h0_width, w_h0_size]))]) (QcI o_r (dC, dI) [(h0, .inr (5, [w_h0_input, w_h0_words, w_h0_settings, w_h0_to, w_h0_blocks, w_h0_broken, w_h0_brokenAt, .int h0_at, .int h0_end, w_h0_begin, w_h0_copies, w_h0_literals, w_h0_parts, w_h0_frameBegin, w_h0_flags, w_h0_width, w_h0_size]))] (va_A [(h0, .inr (5, [w_h0_input, w_h0_words, w_h0_settings, w_h0_to, w_h0_blocks, w_h0_broken, w_h0_brokenAt, .int h0_at, .int h0_end, w_h0_begin, w_h0_copies, w_h0_literals, w_h0_parts, w_h0_frameBegin, w_h0_flags, w_h0_width, w_h0_size]))] sz)) 0 0 (va_A [(h0, .inr (5, [w_h0_input, w_h0_words, w_h0_settings, w_h0_to, w_h0_blocks, w_h0_broken, w_h0_brokenAt, .int h0_at, .int h0_end, w_h0_begin, w_h0_copies, w_h0_literals, w_h0_parts, w_h0_frameBegin, w_h0_flags, w_h0_width, w_h0_size]))] sz) := by
  refine met_of (Qf := fun A => QcI o_r (dC, dI) [(h0, .inr (5, [w_h0_input, w_h0_words, w_h0_settings, w_h0_to, w_h0_blocks, w_h0_broken, w_h0_brokenAt, .int h0_at, .int h0_end, w_h0_begin, w_h0_copies, w_h0_literals, w_h0_parts, w_h0_frameBegin, w_h0_flags, w_h0_width, w_h0_size]))] A) (by decide) (Nat.le_of_ble_eq_true rfl) ?_
  intro p e s m below meth c A ls Q hx hb hr hml hown hts hlocks hnm hP hK hD hN hT hA hl hQ
  have hown : s.vm.findClass RX6 = some m.cls := hown
  have hS : va_S A s.heap s.heap [] := va_S.rf
  have hl : lv_has ls 2 [(0, .ref h0), (1, .int a1)] := hl
  unfold m_Opener_lacks at hf
  refine lv_aload_n hx hb dX6_lacks_0 rfl (lv_at hl 0 rfl) ?_
  refine va_get (D := (dC, dI)) (ci := 5) (v := .int h0_end) (C := RX6) (T := TX6) (N := 17) hx hb hts inG_X6 hown hK hP 0 rfl rfl 8 (by decide) (hts _ kw_297) (fun _ h9 => h9) rfl dX6_lacks_1 ?_
  refine lv_aload_n hx hb dX6_lacks_4 rfl (lv_at hl 0 rfl) ?_
  refine va_get (D := (dC, dI)) (ci := 5) (v := .int h0_at) (C := RX6) (T := TX6) (N := 17) hx hb hts inG_X6 hown hK hP 0 rfl rfl 7 (by decide) (hts _ kw_296) (fun _ h9 => h9) rfl dX6_lacks_5 ?_
  refine lv_isub hx hb dX6_lacks_8 ?_
  refine lv_iload_n hx hb dX6_lacks_9 rfl (lv_at hl 1 rfl) ?_
  refine lv_icmp_ge (tgt := 17) hx hb dX6_lacks_10 (by decide) (fun c_10 => ?_) (fun c_10 => ?_)
  · replace hf := if_t c_10 hf
    refine lv_iconst (v := 0) hx hb dX6_lacks_17 (by decide) ?_
    have hzb : narrow .boolean (.int (0 : Int32)) = .int (0 : Int32) := rfl
    obtain rfl := Option.some.inj hf
    exact rt_z hQ hx hb hr hzb hlocks hP hD hS dX6_lacks_18
  · replace hf := if_f c_10 hf
    refine lv_iconst (v := 1) hx hb dX6_lacks_13 (by decide) ?_
    refine lv_goto (tgt := 18) hx hb dX6_lacks_14 (by decide) ?_
    have hzb : narrow .boolean (.int (1 : Int32)) = .int (1 : Int32) := rfl
    obtain rfl := Option.some.inj hf
    exact rt_z hQ hx hb hr hzb hlocks hP hD hS dX6_lacks_18

theorem dX6_breaks_0 : decode cX6_breaks 0 = .ok (.aload_n 0, 1) := by decide +kernel
theorem dX6_breaks_1 : decode cX6_breaks 1 = .ok (.iload_n 1, 1) := by decide +kernel
theorem dX6_breaks_2 : decode cX6_breaks 2 = .ok (.putfield 22, 3) := by decide +kernel
theorem dX6_breaks_5 : decode cX6_breaks 5 = .ok (.aload_n 0, 1) := by decide +kernel
theorem dX6_breaks_6 : decode cX6_breaks 6 = .ok (.iload_n 2, 1) := by decide +kernel
theorem dX6_breaks_7 : decode cX6_breaks 7 = .ok (.putfield 26, 3) := by decide +kernel
theorem dX6_breaks_10 : decode cX6_breaks 10 = .ok (.iconst 0, 1) := by decide +kernel
theorem dX6_breaks_11 : decode cX6_breaks 11 = .ok (.ireturn, 1) := by decide +kernel
def m_Opener_breaks (a1 : Int32) (a2 : Int32) : Option (Int32 × Int32 × Int32) :=
  some ((0 : Int32), a1, a2)
def rm_Opener_breaks : Room := { frames := 0, cells := 0, slots := 0, locals := 0 }
set_option maxHeartbeats 4000000 in
set_option maxRecDepth 100000 in
theorem c_Opener_breaks {l : Launch} {dC : Nat → ClassId} {dI : Nat → Nat → Nat} {cB cI : ClassId} {sz : Nat} {h0 : Nat} {a1 : Int32} {a2 : Int32} {w_h0_input : Value} {w_h0_words : Value} {w_h0_settings : Value} {w_h0_to : Value} {w_h0_blocks : Value} {h0_broken : Int32} {h0_brokenAt : Int32} {w_h0_at : Value} {w_h0_end : Value} {w_h0_begin : Value} {w_h0_copies : Value} {w_h0_literals : Value} {w_h0_parts : Value} {w_h0_frameBegin : Value} {w_h0_flags : Value} {w_h0_width : Value} {w_h0_size : Value} {o_r : Int32} {o_h0_broken : Int32} {o_h0_brokenAt : Int32} (hf : m_Opener_breaks a1 a2 = some (o_r, o_h0_broken, o_h0_brokenAt)) : Met l yX6_breaks (Cond.code yX6_breaks cX6_breaks 3 (some .boolean) :: lw_G) rm_Opener_breaks (PreC (dC, dI) [(cB, .byte), (cI, .int)] [.ref h0, .int a1, .int a2] sz [(h0, .inr (5, [w_h0_input, w_h0_words, w_h0_settings, w_h0_to, w_h0_blocks, .int h0_broken, .int h0_brokenAt, w_h0_at, w_h0_end, w_h0_begin, w_h0_copies, w_h0_literals, w_h0_parts, w_h0_frameBegin, w_h0_flags, w_h0_width, w_h0_size]))]) (QcI o_r (dC, dI) [(h0, .inr (5, [w_h0_input, w_h0_words, w_h0_settings, w_h0_to, w_h0_blocks, .int o_h0_broken, .int o_h0_brokenAt, w_h0_at, w_h0_end, w_h0_begin, w_h0_copies, w_h0_literals, w_h0_parts, w_h0_frameBegin, w_h0_flags, w_h0_width, w_h0_size]))] (va_A [(h0, .inr (5, [w_h0_input, w_h0_words, w_h0_settings, w_h0_to, w_h0_blocks, .int h0_broken, .int h0_brokenAt, w_h0_at, w_h0_end, w_h0_begin, w_h0_copies, w_h0_literals, w_h0_parts, w_h0_frameBegin, w_h0_flags, w_h0_width, w_h0_size]))] sz)) 0 0 (va_A [(h0, .inr (5, [w_h0_input, w_h0_words, w_h0_settings, w_h0_to, w_h0_blocks, .int h0_broken, .int h0_brokenAt, w_h0_at, w_h0_end, w_h0_begin, w_h0_copies, w_h0_literals, w_h0_parts, w_h0_frameBegin, w_h0_flags, w_h0_width, w_h0_size]))] sz) := by
  refine met_of (Qf := fun A => QcI o_r (dC, dI) [(h0, .inr (5, [w_h0_input, w_h0_words, w_h0_settings, w_h0_to, w_h0_blocks, .int o_h0_broken, .int o_h0_brokenAt, w_h0_at, w_h0_end, w_h0_begin, w_h0_copies, w_h0_literals, w_h0_parts, w_h0_frameBegin, w_h0_flags, w_h0_width, w_h0_size]))] A) (by decide) (Nat.le_of_ble_eq_true rfl) ?_
  intro p e s m below meth c A ls Q hx hb hr hml hown hts hlocks hnm hP hK hD hN hT hA hl hQ
  have hown : s.vm.findClass RX6 = some m.cls := hown
  have hS : va_S A s.heap s.heap [] := va_S.rf
  have hl : lv_has ls 3 [(0, .ref h0), (1, .int a1), (2, .int a2)] := hl
  unfold m_Opener_breaks at hf
  refine lv_aload_n hx hb dX6_breaks_0 rfl (lv_at hl 0 rfl) ?_
  refine lv_iload_n hx hb dX6_breaks_1 rfl (lv_at hl 1 rfl) ?_
  refine va_put (D := (dC, dI)) (ci := 5) (v := .int a1) (ty := .int) (C := RX6) (T := TX6) (N := 17) hx hb hts inG_X6 tyX6 tyX6_ok nmX6 hown hK hP hD hS 0 rfl rfl 5 (by decide) (hts _ kw_294) (fun _ h9 => h9) rfl (by decide +kernel) rfl rfl (Nat.le_of_ble_eq_true rfl) dX6_breaks_2 (fun H locs hP hD hS => ?_)
  have hP : va_P (dC, dI) vwCl [(h0, .inr (5, [w_h0_input, w_h0_words, w_h0_settings, w_h0_to, w_h0_blocks, .int a1, .int h0_brokenAt, w_h0_at, w_h0_end, w_h0_begin, w_h0_copies, w_h0_literals, w_h0_parts, w_h0_frameBegin, w_h0_flags, w_h0_width, w_h0_size]))] H := hP
  have hD : va_D A [(h0, .inr (5, [w_h0_input, w_h0_words, w_h0_settings, w_h0_to, w_h0_blocks, .int a1, .int h0_brokenAt, w_h0_at, w_h0_end, w_h0_begin, w_h0_copies, w_h0_literals, w_h0_parts, w_h0_frameBegin, w_h0_flags, w_h0_width, w_h0_size]))] := hD
  refine lv_aload_n hx hb dX6_breaks_5 rfl (lv_at hl 0 rfl) ?_
  refine lv_iload_n hx hb dX6_breaks_6 rfl (lv_at hl 2 rfl) ?_
  refine va_put (D := (dC, dI)) (ci := 5) (v := .int a2) (ty := .int) (C := RX6) (T := TX6) (N := 17) hx hb hts inG_X6 tyX6 tyX6_ok nmX6 hown hK hP hD hS 0 rfl rfl 6 (by decide) (hts _ kw_295) (fun _ h9 => h9) rfl (by decide +kernel) rfl rfl (Nat.le_of_ble_eq_true rfl) dX6_breaks_7 (fun H locs hP hD hS => ?_)
  have hP : va_P (dC, dI) vwCl [(h0, .inr (5, [w_h0_input, w_h0_words, w_h0_settings, w_h0_to, w_h0_blocks, .int a1, .int a2, w_h0_at, w_h0_end, w_h0_begin, w_h0_copies, w_h0_literals, w_h0_parts, w_h0_frameBegin, w_h0_flags, w_h0_width, w_h0_size]))] H := hP
  have hD : va_D A [(h0, .inr (5, [w_h0_input, w_h0_words, w_h0_settings, w_h0_to, w_h0_blocks, .int a1, .int a2, w_h0_at, w_h0_end, w_h0_begin, w_h0_copies, w_h0_literals, w_h0_parts, w_h0_frameBegin, w_h0_flags, w_h0_width, w_h0_size]))] := hD
  refine lv_iconst (v := 0) hx hb dX6_breaks_10 (by decide) ?_
  have hzb : narrow .boolean (.int (0 : Int32)) = .int (0 : Int32) := rfl
  obtain ⟨rfl, hq_1⟩ := Prod.mk.inj (Option.some.inj hf)
  obtain ⟨rfl, hq_2⟩ := Prod.mk.inj hq_1
  obtain rfl := hq_2
  exact rt_z hQ hx hb hr hzb hlocks hP hD hS dX6_breaks_11

theorem dX6_isOver_0 : decode cX6_isOver 0 = .ok (.aload_n 0, 1) := by decide +kernel
theorem dX6_isOver_1 : decode cX6_isOver 1 = .ok (.getfield 29, 3) := by decide +kernel
theorem dX6_isOver_4 : decode cX6_isOver 4 = .ok (.invokevirtual 50, 3) := by decide +kernel
theorem dX6_isOver_7 : decode cX6_isOver 7 = .ok (.i2l, 1) := by decide +kernel
theorem dX6_isOver_8 : decode cX6_isOver 8 = .ok (.lload_n 1, 1) := by decide +kernel
theorem dX6_isOver_9 : decode cX6_isOver 9 = .ok (.ladd, 1) := by decide +kernel
theorem dX6_isOver_10 : decode cX6_isOver 10 = .ok (.ldc2_w 84, 3) := by decide +kernel
theorem dX6_isOver_13 : decode cX6_isOver 13 = .ok (.lcmp, 1) := by decide +kernel
theorem dX6_isOver_14 : decode cX6_isOver 14 = .ok (.ifCond .le 7, 3) := by decide +kernel
theorem dX6_isOver_17 : decode cX6_isOver 17 = .ok (.iconst 1, 1) := by decide +kernel
theorem dX6_isOver_18 : decode cX6_isOver 18 = .ok (.goto 4, 3) := by decide +kernel
theorem dX6_isOver_21 : decode cX6_isOver 21 = .ok (.iconst 0, 1) := by decide +kernel
theorem dX6_isOver_22 : decode cX6_isOver 22 = .ok (.ireturn, 1) := by decide +kernel
def m_Opener_isOver (a1 : Int64) (h0_to_count : Int32) : Option (Int32) :=
  (m_Bytes_size h0_to_count).bind fun r1 =>
  if (lg_cmp ((r1.toInt64) + a1) (12000 : Int64)) ≤ 0 then
    some (0 : Int32)
  else
    some (1 : Int32)
def rm_Opener_isOver : Room := { frames := 1, cells := 0, slots := 0, locals := 20 }
set_option maxHeartbeats 4000000 in
set_option maxRecDepth 100000 in
theorem c_Opener_isOver {l : Launch} {dC : Nat → ClassId} {dI : Nat → Nat → Nat} {cB cI : ClassId} {sz : Nat} {h0 : Nat} {a1 : Int64} {h0_to : Nat} {w_h0_input : Value} {w_h0_words : Value} {w_h0_settings : Value} {w_h0_blocks : Value} {w_h0_broken : Value} {w_h0_brokenAt : Value} {w_h0_at : Value} {w_h0_end : Value} {w_h0_begin : Value} {w_h0_copies : Value} {w_h0_literals : Value} {w_h0_parts : Value} {w_h0_frameBegin : Value} {w_h0_flags : Value} {w_h0_width : Value} {w_h0_size : Value} {w_h0_to_held : Value} {h0_to_count : Int32} {o_r : Int32} (hf : m_Opener_isOver a1 h0_to_count = some o_r) : Met l yX6_isOver (Cond.code yX6_isOver cX6_isOver 3 (some .boolean) :: lw_G) rm_Opener_isOver (PreC (dC, dI) [(cB, .byte), (cI, .int)] [.ref h0, .long a1] sz [(h0, .inr (5, [w_h0_input, w_h0_words, w_h0_settings, .ref h0_to, w_h0_blocks, w_h0_broken, w_h0_brokenAt, w_h0_at, w_h0_end, w_h0_begin, w_h0_copies, w_h0_literals, w_h0_parts, w_h0_frameBegin, w_h0_flags, w_h0_width, w_h0_size])), (h0_to, .inr (2, [w_h0_to_held, .int h0_to_count]))]) (QcI o_r (dC, dI) [(h0, .inr (5, [w_h0_input, w_h0_words, w_h0_settings, .ref h0_to, w_h0_blocks, w_h0_broken, w_h0_brokenAt, w_h0_at, w_h0_end, w_h0_begin, w_h0_copies, w_h0_literals, w_h0_parts, w_h0_frameBegin, w_h0_flags, w_h0_width, w_h0_size])), (h0_to, .inr (2, [w_h0_to_held, .int h0_to_count]))] (va_A [(h0, .inr (5, [w_h0_input, w_h0_words, w_h0_settings, .ref h0_to, w_h0_blocks, w_h0_broken, w_h0_brokenAt, w_h0_at, w_h0_end, w_h0_begin, w_h0_copies, w_h0_literals, w_h0_parts, w_h0_frameBegin, w_h0_flags, w_h0_width, w_h0_size])), (h0_to, .inr (2, [w_h0_to_held, .int h0_to_count]))] sz)) 0 0 (va_A [(h0, .inr (5, [w_h0_input, w_h0_words, w_h0_settings, .ref h0_to, w_h0_blocks, w_h0_broken, w_h0_brokenAt, w_h0_at, w_h0_end, w_h0_begin, w_h0_copies, w_h0_literals, w_h0_parts, w_h0_frameBegin, w_h0_flags, w_h0_width, w_h0_size])), (h0_to, .inr (2, [w_h0_to_held, .int h0_to_count]))] sz) := by
  refine met_of (Qf := fun A => QcI o_r (dC, dI) [(h0, .inr (5, [w_h0_input, w_h0_words, w_h0_settings, .ref h0_to, w_h0_blocks, w_h0_broken, w_h0_brokenAt, w_h0_at, w_h0_end, w_h0_begin, w_h0_copies, w_h0_literals, w_h0_parts, w_h0_frameBegin, w_h0_flags, w_h0_width, w_h0_size])), (h0_to, .inr (2, [w_h0_to_held, .int h0_to_count]))] A) (by decide) (Nat.le_of_ble_eq_true rfl) ?_
  intro p e s m below meth c A ls Q hx hb hr hml hown hts hlocks hnm hP hK hD hN hT hA hl hQ
  have hown : s.vm.findClass RX6 = some m.cls := hown
  have hS : va_S A s.heap s.heap [] := va_S.rf
  have hl : lv_has ls 3 [(0, .ref h0), (1, .long a1)] := hl
  unfold m_Opener_isOver at hf
  refine lv_aload_n hx hb dX6_isOver_0 rfl (lv_at hl 0 rfl) ?_
  refine va_get (D := (dC, dI)) (ci := 5) (v := .ref h0_to) (C := RX6) (T := TX6) (N := 17) hx hb hts inG_X6 hown hK hP 0 rfl rfl 3 (by decide) (hts _ kw_292) (fun _ h9 => h9) rfl dX6_isOver_1 ?_
  obtain ⟨r1, hc, hf⟩ := bind_some hf
  refine nx_i (rn_V (As := []) (rest := []) (n := 0) (ci := 2) (q0 := 0) ⟨hx, hb, hml, hown, hts⟩ (c_Bytes_size (l := l) (dC := dC) (dI := dI) (cB := cB) (cI := cI) (h0 := h0_to) (w_h0_held := (w_h0_to_held)) (h0_count := h0_to_count)  (o_r := r1) hc) (wV kw_849 kw_402 kw_403 kw_83 kw_404) (by decide +kernel) ⟨Nat.le_of_ble_eq_true rfl, Nat.le_of_ble_eq_true rfl⟩ hK hP hD hN hT hS (va_free (wc := [(h0_to, .inr (2, [w_h0_to_held, .int h0_to_count]))]) hD hS hA [1] rfl) [1] rfl (by decide) rfl rfl rfl hl.1 rfl (lv_room (Nat.le_of_ble_eq_true rfl)) dX6_isOver_4 ⟨Nat.le_of_ble_eq_true rfl, Nat.le_of_ble_eq_true rfl⟩) hP hD hS hA (wr := [(h0, .inr (5, [w_h0_input, w_h0_words, w_h0_settings, .ref h0_to, w_h0_blocks, w_h0_broken, w_h0_brokenAt, w_h0_at, w_h0_end, w_h0_begin, w_h0_copies, w_h0_literals, w_h0_parts, w_h0_frameBegin, w_h0_flags, w_h0_width, w_h0_size]))]) (w1 := [(h0_to, .inr (2, [w_h0_to_held, .int h0_to_count]))]) (ws' := [(h0, .inr (5, [w_h0_input, w_h0_words, w_h0_settings, .ref h0_to, w_h0_blocks, w_h0_broken, w_h0_brokenAt, w_h0_at, w_h0_end, w_h0_begin, w_h0_copies, w_h0_literals, w_h0_parts, w_h0_frameBegin, w_h0_flags, w_h0_width, w_h0_size])), (h0_to, .inr (2, [w_h0_to_held, .int h0_to_count]))]) [1] [0] [0, 1] rfl rfl (by decide) (by decide) rfl (by decide) (fun H locs hP hD hS => ?_)
  refine lv_i2l (v := (r1.toInt64)) hx hb dX6_isOver_7 rfl ?_
  refine lv_lload_n hx hb dX6_isOver_8 rfl (lv_at hl 1 rfl) ?_
  refine lv_ladd hx hb dX6_isOver_9 ?_
  refine lv_ldc2 hx hb hown (hts _ kw_879) dX6_isOver_10 ?_
  refine W.lcmp hx hb dX6_isOver_13 ?_
  refine lv_if_le (tgt := 21) hx hb dX6_isOver_14 (by decide) (fun c_14 => ?_) (fun c_14 => ?_)
  · replace hf := if_t c_14 hf
    refine lv_iconst (v := 0) hx hb dX6_isOver_21 (by decide) ?_
    have hzb : narrow .boolean (.int (0 : Int32)) = .int (0 : Int32) := rfl
    obtain rfl := Option.some.inj hf
    exact rt_z hQ hx hb hr hzb hlocks hP hD hS dX6_isOver_22
  · replace hf := if_f c_14 hf
    refine lv_iconst (v := 1) hx hb dX6_isOver_17 (by decide) ?_
    refine lv_goto (tgt := 22) hx hb dX6_isOver_18 (by decide) ?_
    have hzb : narrow .boolean (.int (1 : Int32)) = .int (1 : Int32) := rfl
    obtain rfl := Option.some.inj hf
    exact rt_z hQ hx hb hr hzb hlocks hP hD hS dX6_isOver_22

theorem dX6_endsWell_0 : decode cX6_endsWell 0 = .ok (.iload_n 2, 1) := by decide +kernel
theorem dX6_endsWell_1 : decode cX6_endsWell 1 = .ok (.ifCond .eq 5, 3) := by decide +kernel
theorem dX6_endsWell_4 : decode cX6_endsWell 4 = .ok (.iconst 0, 1) := by decide +kernel
theorem dX6_endsWell_5 : decode cX6_endsWell 5 = .ok (.ireturn, 1) := by decide +kernel
theorem dX6_endsWell_6 : decode cX6_endsWell 6 = .ok (.iload_n 3, 1) := by decide +kernel
theorem dX6_endsWell_7 : decode cX6_endsWell 7 = .ok (.ifCond .lt 22, 3) := by decide +kernel
theorem dX6_endsWell_10 : decode cX6_endsWell 10 = .ok (.iload_n 1, 1) := by decide +kernel
theorem dX6_endsWell_11 : decode cX6_endsWell 11 = .ok (.iconst 5, 1) := by decide +kernel
theorem dX6_endsWell_12 : decode cX6_endsWell 12 = .ok (.if_icmp .lt 21, 3) := by decide +kernel
theorem dX6_endsWell_15 : decode cX6_endsWell 15 = .ok (.aload_n 0, 1) := by decide +kernel
theorem dX6_endsWell_16 : decode cX6_endsWell 16 = .ok (.getfield 29, 3) := by decide +kernel
theorem dX6_endsWell_19 : decode cX6_endsWell 19 = .ok (.invokevirtual 50, 3) := by decide +kernel
theorem dX6_endsWell_22 : decode cX6_endsWell 22 = .ok (.iload_n 3, 1) := by decide +kernel
theorem dX6_endsWell_23 : decode cX6_endsWell 23 = .ok (.isub, 1) := by decide +kernel
theorem dX6_endsWell_24 : decode cX6_endsWell 24 = .ok (.bipush 12, 2) := by decide +kernel
theorem dX6_endsWell_26 : decode cX6_endsWell 26 = .ok (.if_icmp .lt 7, 3) := by decide +kernel
theorem dX6_endsWell_29 : decode cX6_endsWell 29 = .ok (.iconst 1, 1) := by decide +kernel
theorem dX6_endsWell_30 : decode cX6_endsWell 30 = .ok (.goto 4, 3) := by decide +kernel
theorem dX6_endsWell_33 : decode cX6_endsWell 33 = .ok (.iconst 0, 1) := by decide +kernel
theorem dX6_endsWell_34 : decode cX6_endsWell 34 = .ok (.ireturn, 1) := by decide +kernel
def m_Opener_endsWell (a1 : Int32) (a2 : Int32) (a3 : Int32) (h0_to_count : Int32) : Option (Int32) :=
  if a2 = 0 then
    if a3 < 0 then
      some (1 : Int32)
    else
      if a1 < (5 : Int32) then
        some (0 : Int32)
      else
        (m_Bytes_size h0_to_count).bind fun r1 =>
        if (r1 - a3) < (12 : Int32) then
          some (0 : Int32)
        else
          some (1 : Int32)
  else
    some (0 : Int32)
def rm_Opener_endsWell : Room := { frames := 1, cells := 0, slots := 0, locals := 20 }
set_option maxHeartbeats 4000000 in
set_option maxRecDepth 100000 in
theorem c_Opener_endsWell {l : Launch} {dC : Nat → ClassId} {dI : Nat → Nat → Nat} {cB cI : ClassId} {sz : Nat} {h0 : Nat} {a1 : Int32} {a2 : Int32} {a3 : Int32} {h0_to : Nat} {w_h0_input : Value} {w_h0_words : Value} {w_h0_settings : Value} {w_h0_blocks : Value} {w_h0_broken : Value} {w_h0_brokenAt : Value} {w_h0_at : Value} {w_h0_end : Value} {w_h0_begin : Value} {w_h0_copies : Value} {w_h0_literals : Value} {w_h0_parts : Value} {w_h0_frameBegin : Value} {w_h0_flags : Value} {w_h0_width : Value} {w_h0_size : Value} {w_h0_to_held : Value} {h0_to_count : Int32} {o_r : Int32} (hf : m_Opener_endsWell a1 a2 a3 h0_to_count = some o_r) : Met l yX6_endsWell (Cond.code yX6_endsWell cX6_endsWell 4 (some .boolean) :: lw_G) rm_Opener_endsWell (PreC (dC, dI) [(cB, .byte), (cI, .int)] [.ref h0, .int a1, .int a2, .int a3] sz [(h0, .inr (5, [w_h0_input, w_h0_words, w_h0_settings, .ref h0_to, w_h0_blocks, w_h0_broken, w_h0_brokenAt, w_h0_at, w_h0_end, w_h0_begin, w_h0_copies, w_h0_literals, w_h0_parts, w_h0_frameBegin, w_h0_flags, w_h0_width, w_h0_size])), (h0_to, .inr (2, [w_h0_to_held, .int h0_to_count]))]) (QcI o_r (dC, dI) [(h0, .inr (5, [w_h0_input, w_h0_words, w_h0_settings, .ref h0_to, w_h0_blocks, w_h0_broken, w_h0_brokenAt, w_h0_at, w_h0_end, w_h0_begin, w_h0_copies, w_h0_literals, w_h0_parts, w_h0_frameBegin, w_h0_flags, w_h0_width, w_h0_size])), (h0_to, .inr (2, [w_h0_to_held, .int h0_to_count]))] (va_A [(h0, .inr (5, [w_h0_input, w_h0_words, w_h0_settings, .ref h0_to, w_h0_blocks, w_h0_broken, w_h0_brokenAt, w_h0_at, w_h0_end, w_h0_begin, w_h0_copies, w_h0_literals, w_h0_parts, w_h0_frameBegin, w_h0_flags, w_h0_width, w_h0_size])), (h0_to, .inr (2, [w_h0_to_held, .int h0_to_count]))] sz)) 0 0 (va_A [(h0, .inr (5, [w_h0_input, w_h0_words, w_h0_settings, .ref h0_to, w_h0_blocks, w_h0_broken, w_h0_brokenAt, w_h0_at, w_h0_end, w_h0_begin, w_h0_copies, w_h0_literals, w_h0_parts, w_h0_frameBegin, w_h0_flags, w_h0_width, w_h0_size])), (h0_to, .inr (2, [w_h0_to_held, .int h0_to_count]))] sz) := by
  refine met_of (Qf := fun A => QcI o_r (dC, dI) [(h0, .inr (5, [w_h0_input, w_h0_words, w_h0_settings, .ref h0_to, w_h0_blocks, w_h0_broken, w_h0_brokenAt, w_h0_at, w_h0_end, w_h0_begin, w_h0_copies, w_h0_literals, w_h0_parts, w_h0_frameBegin, w_h0_flags, w_h0_width, w_h0_size])), (h0_to, .inr (2, [w_h0_to_held, .int h0_to_count]))] A) (by decide) (Nat.le_of_ble_eq_true rfl) ?_
  intro p e s m below meth c A ls Q hx hb hr hml hown hts hlocks hnm hP hK hD hN hT hA hl hQ
  have hown : s.vm.findClass RX6 = some m.cls := hown
  have hS : va_S A s.heap s.heap [] := va_S.rf
  have hl : lv_has ls 4 [(0, .ref h0), (1, .int a1), (2, .int a2), (3, .int a3)] := hl
  unfold m_Opener_endsWell at hf
  refine lv_iload_n hx hb dX6_endsWell_0 rfl (lv_at hl 2 rfl) ?_
  refine lv_if_eq (tgt := 6) hx hb dX6_endsWell_1 (by decide) (fun c_1 => ?_) (fun c_1 => ?_)
  · replace hf := if_t c_1 hf
    refine lv_iload_n hx hb dX6_endsWell_6 rfl (lv_at hl 3 rfl) ?_
    refine lv_if_lt (tgt := 29) hx hb dX6_endsWell_7 (by decide) (fun c_7 => ?_) (fun c_7 => ?_)
    · replace hf := if_t c_7 hf
      refine lv_iconst (v := 1) hx hb dX6_endsWell_29 (by decide) ?_
      refine lv_goto (tgt := 34) hx hb dX6_endsWell_30 (by decide) ?_
      have hzb : narrow .boolean (.int (1 : Int32)) = .int (1 : Int32) := rfl
      obtain rfl := Option.some.inj hf
      exact rt_z hQ hx hb hr hzb hlocks hP hD hS dX6_endsWell_34
    · replace hf := if_f c_7 hf
      refine lv_iload_n hx hb dX6_endsWell_10 rfl (lv_at hl 1 rfl) ?_
      refine lv_iconst (v := 5) hx hb dX6_endsWell_11 (by decide) ?_
      refine lv_icmp_lt (tgt := 33) hx hb dX6_endsWell_12 (by decide) (fun c_12 => ?_) (fun c_12 => ?_)
      · replace hf := if_t c_12 hf
        refine lv_iconst (v := 0) hx hb dX6_endsWell_33 (by decide) ?_
        have hzb : narrow .boolean (.int (0 : Int32)) = .int (0 : Int32) := rfl
        obtain rfl := Option.some.inj hf
        exact rt_z hQ hx hb hr hzb hlocks hP hD hS dX6_endsWell_34
      · replace hf := if_f c_12 hf
        refine lv_aload_n hx hb dX6_endsWell_15 rfl (lv_at hl 0 rfl) ?_
        refine va_get (D := (dC, dI)) (ci := 5) (v := .ref h0_to) (C := RX6) (T := TX6) (N := 17) hx hb hts inG_X6 hown hK hP 0 rfl rfl 3 (by decide) (hts _ kw_292) (fun _ h9 => h9) rfl dX6_endsWell_16 ?_
        obtain ⟨r1, hc, hf⟩ := bind_some hf
        refine nx_i (rn_V (As := []) (rest := []) (n := 0) (ci := 2) (q0 := 0) ⟨hx, hb, hml, hown, hts⟩ (c_Bytes_size (l := l) (dC := dC) (dI := dI) (cB := cB) (cI := cI) (h0 := h0_to) (w_h0_held := (w_h0_to_held)) (h0_count := h0_to_count)  (o_r := r1) hc) (wV kw_849 kw_402 kw_403 kw_83 kw_404) (by decide +kernel) ⟨Nat.le_of_ble_eq_true rfl, Nat.le_of_ble_eq_true rfl⟩ hK hP hD hN hT hS (va_free (wc := [(h0_to, .inr (2, [w_h0_to_held, .int h0_to_count]))]) hD hS hA [1] rfl) [1] rfl (by decide) rfl rfl rfl hl.1 rfl (lv_room (Nat.le_of_ble_eq_true rfl)) dX6_endsWell_19 ⟨Nat.le_of_ble_eq_true rfl, Nat.le_of_ble_eq_true rfl⟩) hP hD hS hA (wr := [(h0, .inr (5, [w_h0_input, w_h0_words, w_h0_settings, .ref h0_to, w_h0_blocks, w_h0_broken, w_h0_brokenAt, w_h0_at, w_h0_end, w_h0_begin, w_h0_copies, w_h0_literals, w_h0_parts, w_h0_frameBegin, w_h0_flags, w_h0_width, w_h0_size]))]) (w1 := [(h0_to, .inr (2, [w_h0_to_held, .int h0_to_count]))]) (ws' := [(h0, .inr (5, [w_h0_input, w_h0_words, w_h0_settings, .ref h0_to, w_h0_blocks, w_h0_broken, w_h0_brokenAt, w_h0_at, w_h0_end, w_h0_begin, w_h0_copies, w_h0_literals, w_h0_parts, w_h0_frameBegin, w_h0_flags, w_h0_width, w_h0_size])), (h0_to, .inr (2, [w_h0_to_held, .int h0_to_count]))]) [1] [0] [0, 1] rfl rfl (by decide) (by decide) rfl (by decide) (fun H locs hP hD hS => ?_)
        refine lv_iload_n hx hb dX6_endsWell_22 rfl (lv_at hl 3 rfl) ?_
        refine lv_isub hx hb dX6_endsWell_23 ?_
        refine lv_bipush (v := 12) hx hb dX6_endsWell_24 (by decide) ?_
        refine lv_icmp_lt (tgt := 33) hx hb dX6_endsWell_26 (by decide) (fun c_26 => ?_) (fun c_26 => ?_)
        · replace hf := if_t c_26 hf
          refine lv_iconst (v := 0) hx hb dX6_endsWell_33 (by decide) ?_
          have hzb : narrow .boolean (.int (0 : Int32)) = .int (0 : Int32) := rfl
          obtain rfl := Option.some.inj hf
          exact rt_z hQ hx hb hr hzb hlocks hP hD hS dX6_endsWell_34
        · replace hf := if_f c_26 hf
          refine lv_iconst (v := 1) hx hb dX6_endsWell_29 (by decide) ?_
          refine lv_goto (tgt := 34) hx hb dX6_endsWell_30 (by decide) ?_
          have hzb : narrow .boolean (.int (1 : Int32)) = .int (1 : Int32) := rfl
          obtain rfl := Option.some.inj hf
          exact rt_z hQ hx hb hr hzb hlocks hP hD hS dX6_endsWell_34
  · replace hf := if_f c_1 hf
    refine lv_iconst (v := 0) hx hb dX6_endsWell_4 (by decide) ?_
    have hzb : narrow .boolean (.int (0 : Int32)) = .int (0 : Int32) := rfl
    obtain rfl := Option.some.inj hf
    exact rt_z hQ hx hb hr hzb hlocks hP hD hS dX6_endsWell_5

theorem dX6_copy_0 : decode cX6_copy 0 = .ok (.iconst 0, 1) := by decide +kernel
theorem dX6_copy_1 : decode cX6_copy 1 = .ok (.iload_n 1, 1) := by decide +kernel
theorem dX6_copy_2 : decode cX6_copy 2 = .ok (.aload_n 0, 1) := by decide +kernel
theorem dX6_copy_3 : decode cX6_copy 3 = .ok (.getfield 29, 3) := by decide +kernel
theorem dX6_copy_6 : decode cX6_copy 6 = .ok (.invokevirtual 50, 3) := by decide +kernel
theorem dX6_copy_9 : decode cX6_copy 9 = .ok (.iload_n 3, 1) := by decide +kernel
theorem dX6_copy_10 : decode cX6_copy 10 = .ok (.isub, 1) := by decide +kernel
theorem dX6_copy_11 : decode cX6_copy 11 = .ok (.isub, 1) := by decide +kernel
theorem dX6_copy_12 : decode cX6_copy 12 = .ok (.invokestatic 125, 3) := by decide +kernel
theorem dX6_copy_15 : decode cX6_copy 15 = .ok (.istore 4, 2) := by decide +kernel
theorem dX6_copy_17 : decode cX6_copy 17 = .ok (.iload 4, 2) := by decide +kernel
theorem dX6_copy_19 : decode cX6_copy 19 = .ok (.iload_n 2, 1) := by decide +kernel
theorem dX6_copy_20 : decode cX6_copy 20 = .ok (.invokestatic 131, 3) := by decide +kernel
theorem dX6_copy_23 : decode cX6_copy 23 = .ok (.istore 5, 2) := by decide +kernel
theorem dX6_copy_25 : decode cX6_copy 25 = .ok (.aload_n 0, 1) := by decide +kernel
theorem dX6_copy_26 : decode cX6_copy 26 = .ok (.getfield 29, 3) := by decide +kernel
theorem dX6_copy_29 : decode cX6_copy 29 = .ok (.aload_n 0, 1) := by decide +kernel
theorem dX6_copy_30 : decode cX6_copy 30 = .ok (.getfield 15, 3) := by decide +kernel
theorem dX6_copy_33 : decode cX6_copy 33 = .ok (.aload_n 0, 1) := by decide +kernel
theorem dX6_copy_34 : decode cX6_copy 34 = .ok (.getfield 15, 3) := by decide +kernel
theorem dX6_copy_37 : decode cX6_copy 37 = .ok (.invokevirtual 50, 3) := by decide +kernel
theorem dX6_copy_40 : decode cX6_copy 40 = .ok (.iload 4, 2) := by decide +kernel
theorem dX6_copy_42 : decode cX6_copy 42 = .ok (.isub, 1) := by decide +kernel
theorem dX6_copy_43 : decode cX6_copy 43 = .ok (.iload 5, 2) := by decide +kernel
theorem dX6_copy_45 : decode cX6_copy 45 = .ok (.invokevirtual 106, 3) := by decide +kernel
theorem dX6_copy_48 : decode cX6_copy 48 = .ok (.aload_n 0, 1) := by decide +kernel
theorem dX6_copy_49 : decode cX6_copy 49 = .ok (.getfield 29, 3) := by decide +kernel
theorem dX6_copy_52 : decode cX6_copy 52 = .ok (.iload_n 1, 1) := by decide +kernel
theorem dX6_copy_53 : decode cX6_copy 53 = .ok (.iload_n 2, 1) := by decide +kernel
theorem dX6_copy_54 : decode cX6_copy 54 = .ok (.iload 5, 2) := by decide +kernel
theorem dX6_copy_56 : decode cX6_copy 56 = .ok (.isub, 1) := by decide +kernel
theorem dX6_copy_57 : decode cX6_copy 57 = .ok (.invokevirtual 134, 3) := by decide +kernel
theorem dX6_copy_60 : decode cX6_copy 60 = .ok (.aload_n 0, 1) := by decide +kernel
theorem dX6_copy_61 : decode cX6_copy 61 = .ok (.dup, 1) := by decide +kernel
theorem dX6_copy_62 : decode cX6_copy 62 = .ok (.getfield 71, 3) := by decide +kernel
theorem dX6_copy_65 : decode cX6_copy 65 = .ok (.iconst 1, 1) := by decide +kernel
theorem dX6_copy_66 : decode cX6_copy 66 = .ok (.iadd, 1) := by decide +kernel
theorem dX6_copy_67 : decode cX6_copy 67 = .ok (.putfield 71, 3) := by decide +kernel
theorem dX6_copy_70 : decode cX6_copy 70 = .ok (.return_, 1) := by decide +kernel
def m_Opener_copy (a1 : Int32) (a2 : Int32) (a3 : Int32) (h0_copies : Int32) (h0_to_count : Int32) (h0_words_count : Int32) (h0_to_held_n : Nat) (h0_to_held_f : Nat → Int32) (h0_words_held_n : Nat) (h0_words_held_f : Nat → Int32) : Option (Int32 × Int32 × (Nat → Int32)) :=
  (m_Bytes_size h0_to_count).bind fun r1 =>
  bnd (imax (0 : Int32) (a1 - (r1 - a3))) fun v4_2 =>
  bnd (imin v4_2 a2) fun v5_3 =>
  (m_Bytes_size h0_words_count).bind fun r4 =>
  (m_Bytes_addRange (r4 - v4_2) v5_3 h0_to_count h0_words_count h0_to_held_n h0_to_held_f h0_words_held_n h0_words_held_f).bind fun (u5, u6) =>
  (m_Bytes_addAgain a1 (a2 - v5_3) u5 h0_to_held_n u6).bind fun (u7, u8) =>
  bnd (h0_copies + (1 : Int32)) fun p_9 =>
  some (p_9, u7, u8)
def rm_Opener_copy : Room := { frames := 2, cells := 0, slots := 0, locals := 63 }
set_option maxHeartbeats 4000000 in
set_option maxRecDepth 100000 in
theorem c_Opener_copy {l : Launch} {dC : Nat → ClassId} {dI : Nat → Nat → Nat} {cB cI : ClassId} {sz : Nat} {h0 : Nat} {a1 : Int32} {a2 : Int32} {a3 : Int32} {h0_to : Nat} {h0_words : Nat} {h0_to_held : Nat} {h0_words_held : Nat} {w_h0_input : Value} {w_h0_settings : Value} {w_h0_blocks : Value} {w_h0_broken : Value} {w_h0_brokenAt : Value} {w_h0_at : Value} {w_h0_end : Value} {w_h0_begin : Value} {h0_copies : Int32} {w_h0_literals : Value} {w_h0_parts : Value} {w_h0_frameBegin : Value} {w_h0_flags : Value} {w_h0_width : Value} {w_h0_size : Value} {h0_to_count : Int32} {h0_words_count : Int32} {h0_to_held_n : Nat} {h0_to_held_f : Nat → Int32} {h0_words_held_n : Nat} {h0_words_held_f : Nat → Int32} {o_h0_copies : Int32} {o_h0_to_count : Int32} {o_h0_to_held_f : Nat → Int32} (hf : m_Opener_copy a1 a2 a3 h0_copies h0_to_count h0_words_count h0_to_held_n h0_to_held_f h0_words_held_n h0_words_held_f = some (o_h0_copies, o_h0_to_count, o_h0_to_held_f)) : Met l yX6_copy (Cond.code yX6_copy cX6_copy 6 none :: lw_G) rm_Opener_copy (PreC (dC, dI) [(cB, .byte), (cI, .int)] [.ref h0, .int a1, .int a2, .int a3] sz [(h0, .inr (5, [w_h0_input, .ref h0_words, w_h0_settings, .ref h0_to, w_h0_blocks, w_h0_broken, w_h0_brokenAt, w_h0_at, w_h0_end, w_h0_begin, .int h0_copies, w_h0_literals, w_h0_parts, w_h0_frameBegin, w_h0_flags, w_h0_width, w_h0_size])), (h0_to, .inr (2, [.ref h0_to_held, .int h0_to_count])), (h0_words, .inr (2, [.ref h0_words_held, .int h0_words_count])), (h0_to_held, .inl (cB, h0_to_held_n, .inl h0_to_held_f)), (h0_words_held, .inl (cB, h0_words_held_n, .inl h0_words_held_f))]) (QcV (dC, dI) [(h0, .inr (5, [w_h0_input, .ref h0_words, w_h0_settings, .ref h0_to, w_h0_blocks, w_h0_broken, w_h0_brokenAt, w_h0_at, w_h0_end, w_h0_begin, .int o_h0_copies, w_h0_literals, w_h0_parts, w_h0_frameBegin, w_h0_flags, w_h0_width, w_h0_size])), (h0_to, .inr (2, [.ref h0_to_held, .int o_h0_to_count])), (h0_words, .inr (2, [.ref h0_words_held, .int h0_words_count])), (h0_to_held, .inl (cB, h0_to_held_n, .inl o_h0_to_held_f)), (h0_words_held, .inl (cB, h0_words_held_n, .inl h0_words_held_f))] (va_A [(h0, .inr (5, [w_h0_input, .ref h0_words, w_h0_settings, .ref h0_to, w_h0_blocks, w_h0_broken, w_h0_brokenAt, w_h0_at, w_h0_end, w_h0_begin, .int h0_copies, w_h0_literals, w_h0_parts, w_h0_frameBegin, w_h0_flags, w_h0_width, w_h0_size])), (h0_to, .inr (2, [.ref h0_to_held, .int h0_to_count])), (h0_words, .inr (2, [.ref h0_words_held, .int h0_words_count])), (h0_to_held, .inl (cB, h0_to_held_n, .inl h0_to_held_f)), (h0_words_held, .inl (cB, h0_words_held_n, .inl h0_words_held_f))] sz)) 0 0 (va_A [(h0, .inr (5, [w_h0_input, .ref h0_words, w_h0_settings, .ref h0_to, w_h0_blocks, w_h0_broken, w_h0_brokenAt, w_h0_at, w_h0_end, w_h0_begin, .int h0_copies, w_h0_literals, w_h0_parts, w_h0_frameBegin, w_h0_flags, w_h0_width, w_h0_size])), (h0_to, .inr (2, [.ref h0_to_held, .int h0_to_count])), (h0_words, .inr (2, [.ref h0_words_held, .int h0_words_count])), (h0_to_held, .inl (cB, h0_to_held_n, .inl h0_to_held_f)), (h0_words_held, .inl (cB, h0_words_held_n, .inl h0_words_held_f))] sz) := by
  refine met_of (Qf := fun A => QcV (dC, dI) [(h0, .inr (5, [w_h0_input, .ref h0_words, w_h0_settings, .ref h0_to, w_h0_blocks, w_h0_broken, w_h0_brokenAt, w_h0_at, w_h0_end, w_h0_begin, .int o_h0_copies, w_h0_literals, w_h0_parts, w_h0_frameBegin, w_h0_flags, w_h0_width, w_h0_size])), (h0_to, .inr (2, [.ref h0_to_held, .int o_h0_to_count])), (h0_words, .inr (2, [.ref h0_words_held, .int h0_words_count])), (h0_to_held, .inl (cB, h0_to_held_n, .inl o_h0_to_held_f)), (h0_words_held, .inl (cB, h0_words_held_n, .inl h0_words_held_f))] A) (by decide) (Nat.le_of_ble_eq_true rfl) ?_
  intro p e s m below meth c A ls Q hx hb hr hml hown hts hlocks hnm hP hK hD hN hT hA hl hQ
  have hown : s.vm.findClass RX6 = some m.cls := hown
  have hS : va_S A s.heap s.heap [] := va_S.rf
  have hl : lv_has ls 6 [(0, .ref h0), (1, .int a1), (2, .int a2), (3, .int a3)] := hl
  unfold m_Opener_copy at hf
  refine lv_iconst (v := 0) hx hb dX6_copy_0 (by decide) ?_
  refine lv_iload_n hx hb dX6_copy_1 rfl (lv_at hl 1 rfl) ?_
  refine lv_aload_n hx hb dX6_copy_2 rfl (lv_at hl 0 rfl) ?_
  refine va_get (D := (dC, dI)) (ci := 5) (v := .ref h0_to) (C := RX6) (T := TX6) (N := 17) hx hb hts inG_X6 hown hK hP 0 rfl rfl 3 (by decide) (hts _ kw_292) (fun _ h9 => h9) rfl dX6_copy_3 ?_
  obtain ⟨r1, hc, hf⟩ := bind_some hf
  refine nx_i (rn_V (As := []) (rest := [.int a1, .int (0 : Int32)]) (n := 0) (ci := 2) (q0 := 0) ⟨hx, hb, hml, hown, hts⟩ (c_Bytes_size (l := l) (dC := dC) (dI := dI) (cB := cB) (cI := cI) (h0 := h0_to) (w_h0_held := (.ref h0_to_held)) (h0_count := h0_to_count)  (o_r := r1) hc) (wV kw_849 kw_402 kw_403 kw_83 kw_404) (by decide +kernel) ⟨Nat.le_of_ble_eq_true rfl, Nat.le_of_ble_eq_true rfl⟩ hK hP hD hN hT hS (va_free (wc := [(h0_to, .inr (2, [.ref h0_to_held, .int h0_to_count]))]) hD hS hA [1] rfl) [1] rfl (by decide) rfl rfl rfl hl.1 rfl (lv_room (Nat.le_of_ble_eq_true rfl)) dX6_copy_6 ⟨Nat.le_of_ble_eq_true rfl, Nat.le_of_ble_eq_true rfl⟩) hP hD hS hA (wr := [(h0, .inr (5, [w_h0_input, .ref h0_words, w_h0_settings, .ref h0_to, w_h0_blocks, w_h0_broken, w_h0_brokenAt, w_h0_at, w_h0_end, w_h0_begin, .int h0_copies, w_h0_literals, w_h0_parts, w_h0_frameBegin, w_h0_flags, w_h0_width, w_h0_size])), (h0_words, .inr (2, [.ref h0_words_held, .int h0_words_count])), (h0_to_held, .inl (cB, h0_to_held_n, .inl h0_to_held_f)), (h0_words_held, .inl (cB, h0_words_held_n, .inl h0_words_held_f))]) (w1 := [(h0_to, .inr (2, [.ref h0_to_held, .int h0_to_count]))]) (ws' := [(h0, .inr (5, [w_h0_input, .ref h0_words, w_h0_settings, .ref h0_to, w_h0_blocks, w_h0_broken, w_h0_brokenAt, w_h0_at, w_h0_end, w_h0_begin, .int h0_copies, w_h0_literals, w_h0_parts, w_h0_frameBegin, w_h0_flags, w_h0_width, w_h0_size])), (h0_to, .inr (2, [.ref h0_to_held, .int h0_to_count])), (h0_words, .inr (2, [.ref h0_words_held, .int h0_words_count])), (h0_to_held, .inl (cB, h0_to_held_n, .inl h0_to_held_f)), (h0_words_held, .inl (cB, h0_words_held_n, .inl h0_words_held_f))]) [1] [0, 2, 3, 4] [0, 4, 1, 2, 3] rfl rfl (by decide) (by decide) rfl (by decide) (fun H locs hP hD hS => ?_)
  refine lv_iload_n hx hb dX6_copy_9 rfl (lv_at hl 3 rfl) ?_
  refine lv_isub hx hb dX6_copy_10 ?_
  refine lv_isub hx hb dX6_copy_11 ?_
  refine va_mmax hx hb (hml.trans hl.1.symm) hown (hts _ kw_898) (hts _ kw_113) (hts _ kw_84) (hts _ kw_114) (Nat.le_of_ble_eq_true rfl) (Nat.le_of_ble_eq_true rfl) (Nat.le_of_ble_eq_true rfl) (Nat.le_of_ble_eq_true rfl) dX6_copy_12 ?_
  refine lv_topi (fun v4_2 e_v4_2 => ?_)
  replace hf := bnd_at e_v4_2 hf
  refine lv_istore (lv' := [(4, .int v4_2), (0, .ref h0), (1, .int a1), (2, .int a2), (3, .int a3)]) hx hb dX6_copy_15 hl (by decide) rfl (fun ls hl => ?_)
  refine lv_iload hx hb dX6_copy_17 (lv_at hl 0 rfl) ?_
  refine lv_iload_n hx hb dX6_copy_19 rfl (lv_at hl 3 rfl) ?_
  refine va_mmin hx hb (hml.trans hl.1.symm) hown (hts _ kw_899) (hts _ kw_488) (hts _ kw_84) (hts _ kw_489) (Nat.le_of_ble_eq_true rfl) (Nat.le_of_ble_eq_true rfl) (Nat.le_of_ble_eq_true rfl) (Nat.le_of_ble_eq_true rfl) dX6_copy_20 ?_
  refine lv_topi (fun v5_3 e_v5_3 => ?_)
  replace hf := bnd_at e_v5_3 hf
  refine lv_istore (lv' := [(5, .int v5_3), (4, .int v4_2), (0, .ref h0), (1, .int a1), (2, .int a2), (3, .int a3)]) hx hb dX6_copy_23 hl (by decide) rfl (fun ls hl => ?_)
  refine lv_aload_n hx hb dX6_copy_25 rfl (lv_at hl 2 rfl) ?_
  refine va_get (D := (dC, dI)) (ci := 5) (v := .ref h0_to) (C := RX6) (T := TX6) (N := 17) hx hb hts inG_X6 hown hK hP 0 rfl rfl 3 (by decide) (hts _ kw_292) (fun _ h9 => h9) rfl dX6_copy_26 ?_
  refine lv_aload_n hx hb dX6_copy_29 rfl (lv_at hl 2 rfl) ?_
  refine va_get (D := (dC, dI)) (ci := 5) (v := .ref h0_words) (C := RX6) (T := TX6) (N := 17) hx hb hts inG_X6 hown hK hP 0 rfl rfl 1 (by decide) (hts _ kw_290) (fun _ h9 => h9) rfl dX6_copy_30 ?_
  refine lv_aload_n hx hb dX6_copy_33 rfl (lv_at hl 2 rfl) ?_
  refine va_get (D := (dC, dI)) (ci := 5) (v := .ref h0_words) (C := RX6) (T := TX6) (N := 17) hx hb hts inG_X6 hown hK hP 0 rfl rfl 1 (by decide) (hts _ kw_290) (fun _ h9 => h9) rfl dX6_copy_34 ?_
  obtain ⟨r4, hc, hf⟩ := bind_some hf
  refine nx_i (rn_V (As := []) (rest := [.ref h0_words, .ref h0_to]) (n := 0) (ci := 2) (q0 := 0) ⟨hx, hb, hml, hown, hts⟩ (c_Bytes_size (l := l) (dC := dC) (dI := dI) (cB := cB) (cI := cI) (h0 := h0_words) (w_h0_held := (.ref h0_words_held)) (h0_count := h0_words_count)  (o_r := r4) hc) (wV kw_849 kw_402 kw_403 kw_83 kw_404) (by decide +kernel) ⟨Nat.le_of_ble_eq_true rfl, Nat.le_of_ble_eq_true rfl⟩ hK hP hD hN hT hS (va_free (wc := [(h0_words, .inr (2, [.ref h0_words_held, .int h0_words_count]))]) hD hS hA [2] rfl) [2] rfl (by decide) rfl rfl rfl hl.1 rfl (lv_room (Nat.le_of_ble_eq_true rfl)) dX6_copy_37 ⟨Nat.le_of_ble_eq_true rfl, Nat.le_of_ble_eq_true rfl⟩) hP hD hS hA (wr := [(h0, .inr (5, [w_h0_input, .ref h0_words, w_h0_settings, .ref h0_to, w_h0_blocks, w_h0_broken, w_h0_brokenAt, w_h0_at, w_h0_end, w_h0_begin, .int h0_copies, w_h0_literals, w_h0_parts, w_h0_frameBegin, w_h0_flags, w_h0_width, w_h0_size])), (h0_to, .inr (2, [.ref h0_to_held, .int h0_to_count])), (h0_to_held, .inl (cB, h0_to_held_n, .inl h0_to_held_f)), (h0_words_held, .inl (cB, h0_words_held_n, .inl h0_words_held_f))]) (w1 := [(h0_words, .inr (2, [.ref h0_words_held, .int h0_words_count]))]) (ws' := [(h0, .inr (5, [w_h0_input, .ref h0_words, w_h0_settings, .ref h0_to, w_h0_blocks, w_h0_broken, w_h0_brokenAt, w_h0_at, w_h0_end, w_h0_begin, .int h0_copies, w_h0_literals, w_h0_parts, w_h0_frameBegin, w_h0_flags, w_h0_width, w_h0_size])), (h0_to, .inr (2, [.ref h0_to_held, .int h0_to_count])), (h0_words, .inr (2, [.ref h0_words_held, .int h0_words_count])), (h0_to_held, .inl (cB, h0_to_held_n, .inl h0_to_held_f)), (h0_words_held, .inl (cB, h0_words_held_n, .inl h0_words_held_f))]) [2] [0, 1, 3, 4] [0, 1, 4, 2, 3] rfl rfl (by decide) (by decide) rfl (by decide) (fun H locs hP hD hS => ?_)
  refine lv_iload hx hb dX6_copy_40 (lv_at hl 1 rfl) ?_
  refine lv_isub hx hb dX6_copy_42 ?_
  refine lv_iload hx hb dX6_copy_43 (lv_at hl 0 rfl) ?_
  obtain ⟨x, hc, hf⟩ := bind_some hf
  obtain ⟨u5, u6⟩ := x
  dsimp only at hf
  refine nx_v (rn_V (As := [.ref h0_words, .int (r4 - v4_2), .int v5_3]) (rest := []) (n := 3) (ci := 2) (q0 := 0) ⟨hx, hb, hml, hown, hts⟩ (c_Bytes_addRange (l := l) (dC := dC) (dI := dI) (cB := cB) (cI := cI) (h0 := h0_to) (h1 := h0_words) (a2 := (r4 - v4_2)) (a3 := v5_3) (h0_held := h0_to_held) (h1_held := h0_words_held) (h0_count := h0_to_count) (h1_count := h0_words_count) (h0_held_n := h0_to_held_n) (h0_held_f := h0_to_held_f) (h1_held_n := h0_words_held_n) (h1_held_f := h0_words_held_f) (o_h0_count := u5) (o_h0_held_f := u6) hc) (wV kw_880 kw_431 kw_432 kw_83 kw_433) (by decide +kernel) ⟨Nat.le_of_ble_eq_true rfl, Nat.le_of_ble_eq_true rfl⟩ hK hP hD hN hT hS (va_free (wc := [(h0_to, .inr (2, [.ref h0_to_held, .int h0_to_count])), (h0_words, .inr (2, [.ref h0_words_held, .int h0_words_count])), (h0_to_held, .inl (cB, h0_to_held_n, .inl h0_to_held_f)), (h0_words_held, .inl (cB, h0_words_held_n, .inl h0_words_held_f))]) hD hS hA [1, 2, 3, 4] rfl) [1, 2, 3, 4] rfl (by decide) rfl rfl rfl hl.1 rfl (lv_room (Nat.le_of_ble_eq_true rfl)) dX6_copy_45 ⟨Nat.le_of_ble_eq_true rfl, Nat.le_of_ble_eq_true rfl⟩) hP hD hS hA (wr := [(h0, .inr (5, [w_h0_input, .ref h0_words, w_h0_settings, .ref h0_to, w_h0_blocks, w_h0_broken, w_h0_brokenAt, w_h0_at, w_h0_end, w_h0_begin, .int h0_copies, w_h0_literals, w_h0_parts, w_h0_frameBegin, w_h0_flags, w_h0_width, w_h0_size]))]) (w1 := [(h0_to, .inr (2, [.ref h0_to_held, .int u5])), (h0_words, .inr (2, [.ref h0_words_held, .int h0_words_count])), (h0_to_held, .inl (cB, h0_to_held_n, .inl u6)), (h0_words_held, .inl (cB, h0_words_held_n, .inl h0_words_held_f))]) (ws' := [(h0, .inr (5, [w_h0_input, .ref h0_words, w_h0_settings, .ref h0_to, w_h0_blocks, w_h0_broken, w_h0_brokenAt, w_h0_at, w_h0_end, w_h0_begin, .int h0_copies, w_h0_literals, w_h0_parts, w_h0_frameBegin, w_h0_flags, w_h0_width, w_h0_size])), (h0_to, .inr (2, [.ref h0_to_held, .int u5])), (h0_words, .inr (2, [.ref h0_words_held, .int h0_words_count])), (h0_to_held, .inl (cB, h0_to_held_n, .inl u6)), (h0_words_held, .inl (cB, h0_words_held_n, .inl h0_words_held_f))]) [1, 2, 3, 4] [0] [0, 1, 2, 3, 4] rfl rfl (by decide) (by decide) rfl (by decide) (fun H locs hP hD hS => ?_)
  refine lv_aload_n hx hb dX6_copy_48 rfl (lv_at hl 2 rfl) ?_
  refine va_get (D := (dC, dI)) (ci := 5) (v := .ref h0_to) (C := RX6) (T := TX6) (N := 17) hx hb hts inG_X6 hown hK hP 0 rfl rfl 3 (by decide) (hts _ kw_292) (fun _ h9 => h9) rfl dX6_copy_49 ?_
  refine lv_iload_n hx hb dX6_copy_52 rfl (lv_at hl 3 rfl) ?_
  refine lv_iload_n hx hb dX6_copy_53 rfl (lv_at hl 4 rfl) ?_
  refine lv_iload hx hb dX6_copy_54 (lv_at hl 0 rfl) ?_
  refine lv_isub hx hb dX6_copy_56 ?_
  obtain ⟨x, hc, hf⟩ := bind_some hf
  obtain ⟨u7, u8⟩ := x
  dsimp only at hf
  refine nx_v (rn_V (As := [.int a1, .int (a2 - v5_3)]) (rest := []) (n := 2) (ci := 2) (q0 := 0) ⟨hx, hb, hml, hown, hts⟩ (c_Bytes_addAgain (l := l) (dC := dC) (dI := dI) (cB := cB) (cI := cI) (h0 := h0_to) (a1 := a1) (a2 := (a2 - v5_3)) (h0_held := h0_to_held) (h0_count := u5) (h0_held_n := h0_to_held_n) (h0_held_f := u6) (o_h0_count := u7) (o_h0_held_f := u8) hc) (wV kw_900 kw_901 kw_902 kw_83 kw_903) (by decide +kernel) ⟨Nat.le_of_ble_eq_true rfl, Nat.le_of_ble_eq_true rfl⟩ hK hP hD hN hT hS (va_free (wc := [(h0_to, .inr (2, [.ref h0_to_held, .int u5])), (h0_to_held, .inl (cB, h0_to_held_n, .inl u6))]) hD hS hA [1, 3] rfl) [1, 3] rfl (by decide) rfl rfl rfl hl.1 rfl (lv_room (Nat.le_of_ble_eq_true rfl)) dX6_copy_57 ⟨Nat.le_of_ble_eq_true rfl, Nat.le_of_ble_eq_true rfl⟩) hP hD hS hA (wr := [(h0, .inr (5, [w_h0_input, .ref h0_words, w_h0_settings, .ref h0_to, w_h0_blocks, w_h0_broken, w_h0_brokenAt, w_h0_at, w_h0_end, w_h0_begin, .int h0_copies, w_h0_literals, w_h0_parts, w_h0_frameBegin, w_h0_flags, w_h0_width, w_h0_size])), (h0_words, .inr (2, [.ref h0_words_held, .int h0_words_count])), (h0_words_held, .inl (cB, h0_words_held_n, .inl h0_words_held_f))]) (w1 := [(h0_to, .inr (2, [.ref h0_to_held, .int u7])), (h0_to_held, .inl (cB, h0_to_held_n, .inl u8))]) (ws' := [(h0, .inr (5, [w_h0_input, .ref h0_words, w_h0_settings, .ref h0_to, w_h0_blocks, w_h0_broken, w_h0_brokenAt, w_h0_at, w_h0_end, w_h0_begin, .int h0_copies, w_h0_literals, w_h0_parts, w_h0_frameBegin, w_h0_flags, w_h0_width, w_h0_size])), (h0_to, .inr (2, [.ref h0_to_held, .int u7])), (h0_words, .inr (2, [.ref h0_words_held, .int h0_words_count])), (h0_to_held, .inl (cB, h0_to_held_n, .inl u8)), (h0_words_held, .inl (cB, h0_words_held_n, .inl h0_words_held_f))]) [1, 3] [0, 2, 4] [0, 3, 1, 4, 2] rfl rfl (by decide) (by decide) rfl (by decide) (fun H locs hP hD hS => ?_)
  refine lv_aload_n hx hb dX6_copy_60 rfl (lv_at hl 2 rfl) ?_
  refine lv_dup hx hb dX6_copy_61 rfl ?_
  refine va_get (D := (dC, dI)) (ci := 5) (v := .int h0_copies) (C := RX6) (T := TX6) (N := 17) hx hb hts inG_X6 hown hK hP 0 rfl rfl 10 (by decide) (hts _ kw_299) (fun _ h9 => h9) rfl dX6_copy_62 ?_
  refine lv_iconst (v := 1) hx hb dX6_copy_65 (by decide) ?_
  refine lv_iadd hx hb dX6_copy_66 ?_
  refine lv_topi (fun p_9 e_p_9 => ?_)
  replace hf := bnd_at e_p_9 hf
  refine va_put (D := (dC, dI)) (ci := 5) (v := .int p_9) (ty := .int) (C := RX6) (T := TX6) (N := 17) hx hb hts inG_X6 tyX6 tyX6_ok nmX6 hown hK hP hD hS 0 rfl rfl 10 (by decide) (hts _ kw_299) (fun _ h9 => h9) rfl (by decide +kernel) rfl rfl (Nat.le_of_ble_eq_true rfl) dX6_copy_67 (fun H locs hP hD hS => ?_)
  have hP : va_P (dC, dI) vwCl [(h0, .inr (5, [w_h0_input, .ref h0_words, w_h0_settings, .ref h0_to, w_h0_blocks, w_h0_broken, w_h0_brokenAt, w_h0_at, w_h0_end, w_h0_begin, .int p_9, w_h0_literals, w_h0_parts, w_h0_frameBegin, w_h0_flags, w_h0_width, w_h0_size])), (h0_to, .inr (2, [.ref h0_to_held, .int u7])), (h0_words, .inr (2, [.ref h0_words_held, .int h0_words_count])), (h0_to_held, .inl (cB, h0_to_held_n, .inl u8)), (h0_words_held, .inl (cB, h0_words_held_n, .inl h0_words_held_f))] H := hP
  have hD : va_D A [(h0, .inr (5, [w_h0_input, .ref h0_words, w_h0_settings, .ref h0_to, w_h0_blocks, w_h0_broken, w_h0_brokenAt, w_h0_at, w_h0_end, w_h0_begin, .int p_9, w_h0_literals, w_h0_parts, w_h0_frameBegin, w_h0_flags, w_h0_width, w_h0_size])), (h0_to, .inr (2, [.ref h0_to_held, .int u7])), (h0_words, .inr (2, [.ref h0_words_held, .int h0_words_count])), (h0_to_held, .inl (cB, h0_to_held_n, .inl u8)), (h0_words_held, .inl (cB, h0_words_held_n, .inl h0_words_held_f))] := hD
  obtain ⟨rfl, hq_1⟩ := Prod.mk.inj (Option.some.inj hf)
  obtain ⟨rfl, hq_2⟩ := Prod.mk.inj hq_1
  obtain rfl := hq_2
  exact rt_v hQ hx hb hr hlocks hP hD hS dX6_copy_70

theorem dX6_openCopy_0 : decode cX6_openCopy 0 = .ok (.aload_n 0, 1) := by decide +kernel
theorem dX6_openCopy_1 : decode cX6_openCopy 1 = .ok (.iconst 2, 1) := by decide +kernel
theorem dX6_openCopy_2 : decode cX6_openCopy 2 = .ok (.invokevirtual 95, 3) := by decide +kernel
theorem dX6_openCopy_5 : decode cX6_openCopy 5 = .ok (.ifCond .eq 13, 3) := by decide +kernel
theorem dX6_openCopy_8 : decode cX6_openCopy 8 = .ok (.aload_n 0, 1) := by decide +kernel
theorem dX6_openCopy_9 : decode cX6_openCopy 9 = .ok (.iconst 1, 1) := by decide +kernel
theorem dX6_openCopy_10 : decode cX6_openCopy 10 = .ok (.aload_n 0, 1) := by decide +kernel
theorem dX6_openCopy_11 : decode cX6_openCopy 11 = .ok (.getfield 54, 3) := by decide +kernel
theorem dX6_openCopy_14 : decode cX6_openCopy 14 = .ok (.invokevirtual 98, 3) := by decide +kernel
theorem dX6_openCopy_17 : decode cX6_openCopy 17 = .ok (.ireturn, 1) := by decide +kernel
theorem dX6_openCopy_18 : decode cX6_openCopy 18 = .ok (.aload_n 0, 1) := by decide +kernel
theorem dX6_openCopy_19 : decode cX6_openCopy 19 = .ok (.getfield 9, 3) := by decide +kernel
theorem dX6_openCopy_22 : decode cX6_openCopy 22 = .ok (.aload_n 0, 1) := by decide +kernel
theorem dX6_openCopy_23 : decode cX6_openCopy 23 = .ok (.getfield 47, 3) := by decide +kernel
theorem dX6_openCopy_26 : decode cX6_openCopy 26 = .ok (.iconst 2, 1) := by decide +kernel
theorem dX6_openCopy_27 : decode cX6_openCopy 27 = .ok (.invokevirtual 117, 3) := by decide +kernel
theorem dX6_openCopy_30 : decode cX6_openCopy 30 = .ok (.l2i, 1) := by decide +kernel
theorem dX6_openCopy_31 : decode cX6_openCopy 31 = .ok (.istore 4, 2) := by decide +kernel
theorem dX6_openCopy_33 : decode cX6_openCopy 33 = .ok (.iload 4, 2) := by decide +kernel
theorem dX6_openCopy_35 : decode cX6_openCopy 35 = .ok (.ifCond .eq 25, 3) := by decide +kernel
theorem dX6_openCopy_38 : decode cX6_openCopy 38 = .ok (.iload 4, 2) := by decide +kernel
theorem dX6_openCopy_40 : decode cX6_openCopy 40 = .ok (.aload_n 0, 1) := by decide +kernel
theorem dX6_openCopy_41 : decode cX6_openCopy 41 = .ok (.getfield 15, 3) := by decide +kernel
theorem dX6_openCopy_44 : decode cX6_openCopy 44 = .ok (.invokevirtual 50, 3) := by decide +kernel
theorem dX6_openCopy_47 : decode cX6_openCopy 47 = .ok (.aload_n 0, 1) := by decide +kernel
theorem dX6_openCopy_48 : decode cX6_openCopy 48 = .ok (.getfield 29, 3) := by decide +kernel
theorem dX6_openCopy_51 : decode cX6_openCopy 51 = .ok (.invokevirtual 50, 3) := by decide +kernel
theorem dX6_openCopy_54 : decode cX6_openCopy 54 = .ok (.iadd, 1) := by decide +kernel
theorem dX6_openCopy_55 : decode cX6_openCopy 55 = .ok (.iload_n 3, 1) := by decide +kernel
theorem dX6_openCopy_56 : decode cX6_openCopy 56 = .ok (.isub, 1) := by decide +kernel
theorem dX6_openCopy_57 : decode cX6_openCopy 57 = .ok (.if_icmp .le 13, 3) := by decide +kernel
theorem dX6_openCopy_60 : decode cX6_openCopy 60 = .ok (.aload_n 0, 1) := by decide +kernel
theorem dX6_openCopy_61 : decode cX6_openCopy 61 = .ok (.iconst 2, 1) := by decide +kernel
theorem dX6_openCopy_62 : decode cX6_openCopy 62 = .ok (.aload_n 0, 1) := by decide +kernel
theorem dX6_openCopy_63 : decode cX6_openCopy 63 = .ok (.getfield 47, 3) := by decide +kernel
theorem dX6_openCopy_66 : decode cX6_openCopy 66 = .ok (.invokevirtual 98, 3) := by decide +kernel
theorem dX6_openCopy_69 : decode cX6_openCopy 69 = .ok (.ireturn, 1) := by decide +kernel
theorem dX6_openCopy_70 : decode cX6_openCopy 70 = .ok (.aload_n 0, 1) := by decide +kernel
theorem dX6_openCopy_71 : decode cX6_openCopy 71 = .ok (.dup, 1) := by decide +kernel
theorem dX6_openCopy_72 : decode cX6_openCopy 72 = .ok (.getfield 47, 3) := by decide +kernel
theorem dX6_openCopy_75 : decode cX6_openCopy 75 = .ok (.iconst 2, 1) := by decide +kernel
theorem dX6_openCopy_76 : decode cX6_openCopy 76 = .ok (.iadd, 1) := by decide +kernel
theorem dX6_openCopy_77 : decode cX6_openCopy 77 = .ok (.putfield 47, 3) := by decide +kernel
theorem dX6_openCopy_80 : decode cX6_openCopy 80 = .ok (.aload_n 0, 1) := by decide +kernel
theorem dX6_openCopy_81 : decode cX6_openCopy 81 = .ok (.iload_n 2, 1) := by decide +kernel
theorem dX6_openCopy_82 : decode cX6_openCopy 82 = .ok (.invokevirtual 92, 3) := by decide +kernel
theorem dX6_openCopy_85 : decode cX6_openCopy 85 = .ok (.istore 5, 2) := by decide +kernel
theorem dX6_openCopy_87 : decode cX6_openCopy 87 = .ok (.iload 5, 2) := by decide +kernel
theorem dX6_openCopy_89 : decode cX6_openCopy 89 = .ok (.ifCond .ge 13, 3) := by decide +kernel
theorem dX6_openCopy_92 : decode cX6_openCopy 92 = .ok (.aload_n 0, 1) := by decide +kernel
theorem dX6_openCopy_93 : decode cX6_openCopy 93 = .ok (.iconst 1, 1) := by decide +kernel
theorem dX6_openCopy_94 : decode cX6_openCopy 94 = .ok (.aload_n 0, 1) := by decide +kernel
theorem dX6_openCopy_95 : decode cX6_openCopy 95 = .ok (.getfield 54, 3) := by decide +kernel
theorem dX6_openCopy_98 : decode cX6_openCopy 98 = .ok (.invokevirtual 98, 3) := by decide +kernel
theorem dX6_openCopy_101 : decode cX6_openCopy 101 = .ok (.ireturn, 1) := by decide +kernel
theorem dX6_openCopy_102 : decode cX6_openCopy 102 = .ok (.aload_n 0, 1) := by decide +kernel
theorem dX6_openCopy_103 : decode cX6_openCopy 103 = .ok (.iload 5, 2) := by decide +kernel
theorem dX6_openCopy_105 : decode cX6_openCopy 105 = .ok (.iconst 4, 1) := by decide +kernel
theorem dX6_openCopy_106 : decode cX6_openCopy 106 = .ok (.iadd, 1) := by decide +kernel
theorem dX6_openCopy_107 : decode cX6_openCopy 107 = .ok (.i2l, 1) := by decide +kernel
theorem dX6_openCopy_108 : decode cX6_openCopy 108 = .ok (.invokevirtual 102, 3) := by decide +kernel
theorem dX6_openCopy_111 : decode cX6_openCopy 111 = .ok (.ifCond .eq 11, 3) := by decide +kernel
theorem dX6_openCopy_114 : decode cX6_openCopy 114 = .ok (.aload_n 0, 1) := by decide +kernel
theorem dX6_openCopy_115 : decode cX6_openCopy 115 = .ok (.bipush 12, 2) := by decide +kernel
theorem dX6_openCopy_117 : decode cX6_openCopy 117 = .ok (.iload_n 1, 1) := by decide +kernel
theorem dX6_openCopy_118 : decode cX6_openCopy 118 = .ok (.invokevirtual 98, 3) := by decide +kernel
theorem dX6_openCopy_121 : decode cX6_openCopy 121 = .ok (.ireturn, 1) := by decide +kernel
theorem dX6_openCopy_122 : decode cX6_openCopy 122 = .ok (.aload_n 0, 1) := by decide +kernel
theorem dX6_openCopy_123 : decode cX6_openCopy 123 = .ok (.iload 4, 2) := by decide +kernel
theorem dX6_openCopy_125 : decode cX6_openCopy 125 = .ok (.iload 5, 2) := by decide +kernel
theorem dX6_openCopy_127 : decode cX6_openCopy 127 = .ok (.iconst 4, 1) := by decide +kernel
theorem dX6_openCopy_128 : decode cX6_openCopy 128 = .ok (.iadd, 1) := by decide +kernel
theorem dX6_openCopy_129 : decode cX6_openCopy 129 = .ok (.iload_n 3, 1) := by decide +kernel
theorem dX6_openCopy_130 : decode cX6_openCopy 130 = .ok (.invokevirtual 121, 3) := by decide +kernel
theorem dX6_openCopy_133 : decode cX6_openCopy 133 = .ok (.iconst 1, 1) := by decide +kernel
theorem dX6_openCopy_134 : decode cX6_openCopy 134 = .ok (.ireturn, 1) := by decide +kernel
def m_Opener_openCopy_J60 (h0_at : Int32) (h0_copies : Int32) (h0_to_count : Int32) (h0_to_held_f : Nat → Int32) : Option (Int32 × Int32 × Int32 × Int32 × Int32 × Int32 × (Nat → Int32)) :=
  (m_Opener_breaks (2 : Int32) h0_at).bind fun (r4, u5, u6) =>
  bch r4 <|
  some (r4, u5, u6, h0_at, h0_copies, h0_to_count, h0_to_held_f)
def m_Opener_openCopy (a1 : Int32) (a2 : Int32) (a3 : Int32) (h0_broken : Int32) (h0_brokenAt : Int32) (h0_at : Int32) (h0_end : Int32) (h0_copies : Int32) (h0_input_count : Int32) (h0_input_held_n : Nat) (h0_input_held_f : Nat → Int32) (h0_words_count : Int32) (h0_to_count : Int32) (h0_to_held_n : Nat) (h0_to_held_f : Nat → Int32) (h0_words_held_n : Nat) (h0_words_held_f : Nat → Int32) : Option (Int32 × Int32 × Int32 × Int32 × Int32 × Int32 × (Nat → Int32)) :=
  (m_Opener_lacks (2 : Int32) h0_at h0_end).bind fun r1 =>
  if r1 = 0 then
    (m_Bytes_number h0_at (2 : Int32) h0_input_count h0_input_held_n h0_input_held_f).bind fun r2 =>
    bnd (r2.toInt32) fun v4_3 =>
    if v4_3 = 0 then
      m_Opener_openCopy_J60 h0_at h0_copies h0_to_count h0_to_held_f
    else
      (m_Bytes_size h0_words_count).bind fun r7 =>
      (m_Bytes_size h0_to_count).bind fun r8 =>
      if v4_3 ≤ ((r7 + r8) - a3) then
        bnd (h0_at + (2 : Int32)) fun p_9 =>
        (m_Opener_withAdded a2 p_9 h0_end h0_input_count h0_input_held_n h0_input_held_f).bind fun (r10, u11) =>
        if 0 ≤ r10 then
          (m_Opener_isOver ((r10 + (4 : Int32)).toInt64) h0_to_count).bind fun r12 =>
          if r12 = 0 then
            (m_Opener_copy v4_3 (r10 + (4 : Int32)) a3 h0_copies h0_to_count h0_words_count h0_to_held_n h0_to_held_f h0_words_held_n h0_words_held_f).bind fun (u13, u14, u15) =>
            some ((1 : Int32), h0_broken, h0_brokenAt, u11, u13, u14, u15)
          else
            (m_Opener_breaks (12 : Int32) a1).bind fun (r16, u17, u18) =>
            bch r16 <|
            some (r16, u17, u18, u11, h0_copies, h0_to_count, h0_to_held_f)
        else
          (m_Opener_breaks (1 : Int32) h0_end).bind fun (r19, u20, u21) =>
          bch r19 <|
          some (r19, u20, u21, u11, h0_copies, h0_to_count, h0_to_held_f)
      else
        m_Opener_openCopy_J60 h0_at h0_copies h0_to_count h0_to_held_f
  else
    (m_Opener_breaks (1 : Int32) h0_end).bind fun (r22, u23, u24) =>
    bch r22 <|
    some (r22, u23, u24, h0_at, h0_copies, h0_to_count, h0_to_held_f)
def rm_Opener_openCopy : Room := { frames := 3, cells := 0, slots := 0, locals := 88 }
set_option maxHeartbeats 4000000 in
set_option maxRecDepth 100000 in
theorem c_Opener_openCopy {l : Launch} {dC : Nat → ClassId} {dI : Nat → Nat → Nat} {cB cI : ClassId} {sz : Nat} {h0 : Nat} {a1 : Int32} {a2 : Int32} {a3 : Int32} {h0_input : Nat} {h0_input_held : Nat} {h0_words : Nat} {h0_to : Nat} {h0_to_held : Nat} {h0_words_held : Nat} {w_h0_settings : Value} {w_h0_blocks : Value} {h0_broken : Int32} {h0_brokenAt : Int32} {h0_at : Int32} {h0_end : Int32} {w_h0_begin : Value} {h0_copies : Int32} {w_h0_literals : Value} {w_h0_parts : Value} {w_h0_frameBegin : Value} {w_h0_flags : Value} {w_h0_width : Value} {w_h0_size : Value} {h0_input_count : Int32} {h0_input_held_n : Nat} {h0_input_held_f : Nat → Int32} {h0_words_count : Int32} {h0_to_count : Int32} {h0_to_held_n : Nat} {h0_to_held_f : Nat → Int32} {h0_words_held_n : Nat} {h0_words_held_f : Nat → Int32} {o_r : Int32} {o_h0_broken : Int32} {o_h0_brokenAt : Int32} {o_h0_at : Int32} {o_h0_copies : Int32} {o_h0_to_count : Int32} {o_h0_to_held_f : Nat → Int32} (hf : m_Opener_openCopy a1 a2 a3 h0_broken h0_brokenAt h0_at h0_end h0_copies h0_input_count h0_input_held_n h0_input_held_f h0_words_count h0_to_count h0_to_held_n h0_to_held_f h0_words_held_n h0_words_held_f = some (o_r, o_h0_broken, o_h0_brokenAt, o_h0_at, o_h0_copies, o_h0_to_count, o_h0_to_held_f)) : Met l yX6_openCopy (Cond.code yX6_openCopy cX6_openCopy 6 (some .boolean) :: lw_G) rm_Opener_openCopy (PreC (dC, dI) [(cB, .byte), (cI, .int)] [.ref h0, .int a1, .int a2, .int a3] sz [(h0, .inr (5, [.ref h0_input, .ref h0_words, w_h0_settings, .ref h0_to, w_h0_blocks, .int h0_broken, .int h0_brokenAt, .int h0_at, .int h0_end, w_h0_begin, .int h0_copies, w_h0_literals, w_h0_parts, w_h0_frameBegin, w_h0_flags, w_h0_width, w_h0_size])), (h0_input, .inr (2, [.ref h0_input_held, .int h0_input_count])), (h0_input_held, .inl (cB, h0_input_held_n, .inl h0_input_held_f)), (h0_words, .inr (2, [.ref h0_words_held, .int h0_words_count])), (h0_to, .inr (2, [.ref h0_to_held, .int h0_to_count])), (h0_to_held, .inl (cB, h0_to_held_n, .inl h0_to_held_f)), (h0_words_held, .inl (cB, h0_words_held_n, .inl h0_words_held_f))]) (QcI o_r (dC, dI) [(h0, .inr (5, [.ref h0_input, .ref h0_words, w_h0_settings, .ref h0_to, w_h0_blocks, .int o_h0_broken, .int o_h0_brokenAt, .int o_h0_at, .int h0_end, w_h0_begin, .int o_h0_copies, w_h0_literals, w_h0_parts, w_h0_frameBegin, w_h0_flags, w_h0_width, w_h0_size])), (h0_input, .inr (2, [.ref h0_input_held, .int h0_input_count])), (h0_input_held, .inl (cB, h0_input_held_n, .inl h0_input_held_f)), (h0_words, .inr (2, [.ref h0_words_held, .int h0_words_count])), (h0_to, .inr (2, [.ref h0_to_held, .int o_h0_to_count])), (h0_to_held, .inl (cB, h0_to_held_n, .inl o_h0_to_held_f)), (h0_words_held, .inl (cB, h0_words_held_n, .inl h0_words_held_f))] (va_A [(h0, .inr (5, [.ref h0_input, .ref h0_words, w_h0_settings, .ref h0_to, w_h0_blocks, .int h0_broken, .int h0_brokenAt, .int h0_at, .int h0_end, w_h0_begin, .int h0_copies, w_h0_literals, w_h0_parts, w_h0_frameBegin, w_h0_flags, w_h0_width, w_h0_size])), (h0_input, .inr (2, [.ref h0_input_held, .int h0_input_count])), (h0_input_held, .inl (cB, h0_input_held_n, .inl h0_input_held_f)), (h0_words, .inr (2, [.ref h0_words_held, .int h0_words_count])), (h0_to, .inr (2, [.ref h0_to_held, .int h0_to_count])), (h0_to_held, .inl (cB, h0_to_held_n, .inl h0_to_held_f)), (h0_words_held, .inl (cB, h0_words_held_n, .inl h0_words_held_f))] sz)) 0 0 (va_A [(h0, .inr (5, [.ref h0_input, .ref h0_words, w_h0_settings, .ref h0_to, w_h0_blocks, .int h0_broken, .int h0_brokenAt, .int h0_at, .int h0_end, w_h0_begin, .int h0_copies, w_h0_literals, w_h0_parts, w_h0_frameBegin, w_h0_flags, w_h0_width, w_h0_size])), (h0_input, .inr (2, [.ref h0_input_held, .int h0_input_count])), (h0_input_held, .inl (cB, h0_input_held_n, .inl h0_input_held_f)), (h0_words, .inr (2, [.ref h0_words_held, .int h0_words_count])), (h0_to, .inr (2, [.ref h0_to_held, .int h0_to_count])), (h0_to_held, .inl (cB, h0_to_held_n, .inl h0_to_held_f)), (h0_words_held, .inl (cB, h0_words_held_n, .inl h0_words_held_f))] sz) := by
  refine met_of (Qf := fun A => QcI o_r (dC, dI) [(h0, .inr (5, [.ref h0_input, .ref h0_words, w_h0_settings, .ref h0_to, w_h0_blocks, .int o_h0_broken, .int o_h0_brokenAt, .int o_h0_at, .int h0_end, w_h0_begin, .int o_h0_copies, w_h0_literals, w_h0_parts, w_h0_frameBegin, w_h0_flags, w_h0_width, w_h0_size])), (h0_input, .inr (2, [.ref h0_input_held, .int h0_input_count])), (h0_input_held, .inl (cB, h0_input_held_n, .inl h0_input_held_f)), (h0_words, .inr (2, [.ref h0_words_held, .int h0_words_count])), (h0_to, .inr (2, [.ref h0_to_held, .int o_h0_to_count])), (h0_to_held, .inl (cB, h0_to_held_n, .inl o_h0_to_held_f)), (h0_words_held, .inl (cB, h0_words_held_n, .inl h0_words_held_f))] A) (by decide) (Nat.le_of_ble_eq_true rfl) ?_
  intro p e s m below meth c A ls Q hx hb hr hml hown hts hlocks hnm hP hK hD hN hT hA hl hQ
  have hown : s.vm.findClass RX6 = some m.cls := hown
  have hS : va_S A s.heap s.heap [] := va_S.rf
  have hl : lv_has ls 6 [(0, .ref h0), (1, .int a1), (2, .int a2), (3, .int a3)] := hl
  unfold m_Opener_openCopy at hf
  refine lv_aload_n hx hb dX6_openCopy_0 rfl (lv_at hl 0 rfl) ?_
  refine lv_iconst (v := 2) hx hb dX6_openCopy_1 (by decide) ?_
  obtain ⟨r1, hc, hf⟩ := bind_some hf
  refine nx_i (rn_V (As := [.int (2 : Int32)]) (rest := []) (n := 1) (ci := 5) (q0 := 0) ⟨hx, hb, hml, hown, hts⟩ (c_Opener_lacks (l := l) (dC := dC) (dI := dI) (cB := cB) (cI := cI) (h0 := h0) (a1 := (2 : Int32)) (w_h0_input := (.ref h0_input)) (w_h0_words := (.ref h0_words)) (w_h0_settings := (w_h0_settings)) (w_h0_to := (.ref h0_to)) (w_h0_blocks := (w_h0_blocks)) (w_h0_broken := (.int h0_broken)) (w_h0_brokenAt := (.int h0_brokenAt)) (h0_at := h0_at) (h0_end := h0_end) (w_h0_begin := (w_h0_begin)) (w_h0_copies := (.int h0_copies)) (w_h0_literals := (w_h0_literals)) (w_h0_parts := (w_h0_parts)) (w_h0_frameBegin := (w_h0_frameBegin)) (w_h0_flags := (w_h0_flags)) (w_h0_width := (w_h0_width)) (w_h0_size := (w_h0_size))  (o_r := r1) hc) (wV kw_867 kw_869 kw_25 kw_92 kw_870) (by decide +kernel) ⟨Nat.le_of_ble_eq_true rfl, Nat.le_of_ble_eq_true rfl⟩ hK hP hD hN hT hS (va_free (wc := [(h0, .inr (5, [.ref h0_input, .ref h0_words, w_h0_settings, .ref h0_to, w_h0_blocks, .int h0_broken, .int h0_brokenAt, .int h0_at, .int h0_end, w_h0_begin, .int h0_copies, w_h0_literals, w_h0_parts, w_h0_frameBegin, w_h0_flags, w_h0_width, w_h0_size]))]) hD hS hA [0] rfl) [0] rfl (by decide) rfl rfl rfl hl.1 rfl (lv_room (Nat.le_of_ble_eq_true rfl)) dX6_openCopy_2 ⟨Nat.le_of_ble_eq_true rfl, Nat.le_of_ble_eq_true rfl⟩) hP hD hS hA (wr := [(h0_input, .inr (2, [.ref h0_input_held, .int h0_input_count])), (h0_input_held, .inl (cB, h0_input_held_n, .inl h0_input_held_f)), (h0_words, .inr (2, [.ref h0_words_held, .int h0_words_count])), (h0_to, .inr (2, [.ref h0_to_held, .int h0_to_count])), (h0_to_held, .inl (cB, h0_to_held_n, .inl h0_to_held_f)), (h0_words_held, .inl (cB, h0_words_held_n, .inl h0_words_held_f))]) (w1 := [(h0, .inr (5, [.ref h0_input, .ref h0_words, w_h0_settings, .ref h0_to, w_h0_blocks, .int h0_broken, .int h0_brokenAt, .int h0_at, .int h0_end, w_h0_begin, .int h0_copies, w_h0_literals, w_h0_parts, w_h0_frameBegin, w_h0_flags, w_h0_width, w_h0_size]))]) (ws' := [(h0, .inr (5, [.ref h0_input, .ref h0_words, w_h0_settings, .ref h0_to, w_h0_blocks, .int h0_broken, .int h0_brokenAt, .int h0_at, .int h0_end, w_h0_begin, .int h0_copies, w_h0_literals, w_h0_parts, w_h0_frameBegin, w_h0_flags, w_h0_width, w_h0_size])), (h0_input, .inr (2, [.ref h0_input_held, .int h0_input_count])), (h0_input_held, .inl (cB, h0_input_held_n, .inl h0_input_held_f)), (h0_words, .inr (2, [.ref h0_words_held, .int h0_words_count])), (h0_to, .inr (2, [.ref h0_to_held, .int h0_to_count])), (h0_to_held, .inl (cB, h0_to_held_n, .inl h0_to_held_f)), (h0_words_held, .inl (cB, h0_words_held_n, .inl h0_words_held_f))]) [0] [1, 2, 3, 4, 5, 6] [6, 0, 1, 2, 3, 4, 5] rfl rfl (by decide) (by decide) rfl (by decide) (fun H locs hP hD hS => ?_)
  refine lv_if_eq (tgt := 18) hx hb dX6_openCopy_5 (by decide) (fun c_5 => ?_) (fun c_5 => ?_)
  · replace hf := if_t c_5 hf
    refine lv_aload_n hx hb dX6_openCopy_18 rfl (lv_at hl 0 rfl) ?_
    refine va_get (D := (dC, dI)) (ci := 5) (v := .ref h0_input) (C := RX6) (T := TX6) (N := 17) hx hb hts inG_X6 hown hK hP 0 rfl rfl 0 (by decide) (hts _ kw_289) (fun _ h9 => h9) rfl dX6_openCopy_19 ?_
    refine lv_aload_n hx hb dX6_openCopy_22 rfl (lv_at hl 0 rfl) ?_
    refine va_get (D := (dC, dI)) (ci := 5) (v := .int h0_at) (C := RX6) (T := TX6) (N := 17) hx hb hts inG_X6 hown hK hP 0 rfl rfl 7 (by decide) (hts _ kw_296) (fun _ h9 => h9) rfl dX6_openCopy_23 ?_
    refine lv_iconst (v := 2) hx hb dX6_openCopy_26 (by decide) ?_
    obtain ⟨r2, hc, hf⟩ := bind_some hf
    refine nx_l (rn_V (As := [.int h0_at, .int (2 : Int32)]) (rest := []) (n := 2) (ci := 2) (q0 := 0) ⟨hx, hb, hml, hown, hts⟩ (c_Bytes_number (l := l) (dC := dC) (dI := dI) (cB := cB) (cI := cI) (h0 := h0_input) (a1 := h0_at) (a2 := (2 : Int32)) (h0_held := h0_input_held) (h0_count := h0_input_count) (h0_held_n := h0_input_held_n) (h0_held_f := h0_input_held_f)  (o_r := r2) hc) (wV kw_889 kw_890 kw_891 kw_83 kw_892) (by decide +kernel) ⟨Nat.le_of_ble_eq_true rfl, Nat.le_of_ble_eq_true rfl⟩ hK hP hD hN hT hS (va_free (wc := [(h0_input, .inr (2, [.ref h0_input_held, .int h0_input_count])), (h0_input_held, .inl (cB, h0_input_held_n, .inl h0_input_held_f))]) hD hS hA [1, 2] rfl) [1, 2] rfl (by decide) rfl rfl rfl hl.1 rfl (lv_room (Nat.le_of_ble_eq_true rfl)) dX6_openCopy_27 ⟨Nat.le_of_ble_eq_true rfl, Nat.le_of_ble_eq_true rfl⟩) hP hD hS hA (wr := [(h0, .inr (5, [.ref h0_input, .ref h0_words, w_h0_settings, .ref h0_to, w_h0_blocks, .int h0_broken, .int h0_brokenAt, .int h0_at, .int h0_end, w_h0_begin, .int h0_copies, w_h0_literals, w_h0_parts, w_h0_frameBegin, w_h0_flags, w_h0_width, w_h0_size])), (h0_words, .inr (2, [.ref h0_words_held, .int h0_words_count])), (h0_to, .inr (2, [.ref h0_to_held, .int h0_to_count])), (h0_to_held, .inl (cB, h0_to_held_n, .inl h0_to_held_f)), (h0_words_held, .inl (cB, h0_words_held_n, .inl h0_words_held_f))]) (w1 := [(h0_input, .inr (2, [.ref h0_input_held, .int h0_input_count])), (h0_input_held, .inl (cB, h0_input_held_n, .inl h0_input_held_f))]) (ws' := [(h0, .inr (5, [.ref h0_input, .ref h0_words, w_h0_settings, .ref h0_to, w_h0_blocks, .int h0_broken, .int h0_brokenAt, .int h0_at, .int h0_end, w_h0_begin, .int h0_copies, w_h0_literals, w_h0_parts, w_h0_frameBegin, w_h0_flags, w_h0_width, w_h0_size])), (h0_input, .inr (2, [.ref h0_input_held, .int h0_input_count])), (h0_input_held, .inl (cB, h0_input_held_n, .inl h0_input_held_f)), (h0_words, .inr (2, [.ref h0_words_held, .int h0_words_count])), (h0_to, .inr (2, [.ref h0_to_held, .int h0_to_count])), (h0_to_held, .inl (cB, h0_to_held_n, .inl h0_to_held_f)), (h0_words_held, .inl (cB, h0_words_held_n, .inl h0_words_held_f))]) [1, 2] [0, 3, 4, 5, 6] [0, 5, 6, 1, 2, 3, 4] rfl rfl (by decide) (by decide) rfl (by decide) (fun H locs hP hD hS => ?_)
    refine lv_l2i (v := (r2.toInt32)) hx hb dX6_openCopy_30 rfl ?_
    refine lv_topi (fun v4_3 e_v4_3 => ?_)
    replace hf := bnd_at e_v4_3 hf
    refine lv_istore (lv' := [(4, .int v4_3), (0, .ref h0), (1, .int a1), (2, .int a2), (3, .int a3)]) hx hb dX6_openCopy_31 hl (by decide) rfl (fun ls hl => ?_)
    refine lv_iload hx hb dX6_openCopy_33 (lv_at hl 0 rfl) ?_
    have hJ_60 : ∀ (H : Heap) (locs : List Loc) (ls : Array Slot), m_Opener_openCopy_J60 h0_at h0_copies h0_to_count h0_to_held_f = some (o_r, o_h0_broken, o_h0_brokenAt, o_h0_at, o_h0_copies, o_h0_to_count, o_h0_to_held_f) → va_P (dC, dI) vwCl [(h0, .inr (5, [.ref h0_input, .ref h0_words, w_h0_settings, .ref h0_to, w_h0_blocks, .int h0_broken, .int h0_brokenAt, .int h0_at, .int h0_end, w_h0_begin, .int h0_copies, w_h0_literals, w_h0_parts, w_h0_frameBegin, w_h0_flags, w_h0_width, w_h0_size])), (h0_input, .inr (2, [.ref h0_input_held, .int h0_input_count])), (h0_input_held, .inl (cB, h0_input_held_n, .inl h0_input_held_f)), (h0_words, .inr (2, [.ref h0_words_held, .int h0_words_count])), (h0_to, .inr (2, [.ref h0_to_held, .int h0_to_count])), (h0_to_held, .inl (cB, h0_to_held_n, .inl h0_to_held_f)), (h0_words_held, .inl (cB, h0_words_held_n, .inl h0_words_held_f))] H → va_D A [(h0, .inr (5, [.ref h0_input, .ref h0_words, w_h0_settings, .ref h0_to, w_h0_blocks, .int h0_broken, .int h0_brokenAt, .int h0_at, .int h0_end, w_h0_begin, .int h0_copies, w_h0_literals, w_h0_parts, w_h0_frameBegin, w_h0_flags, w_h0_width, w_h0_size])), (h0_input, .inr (2, [.ref h0_input_held, .int h0_input_count])), (h0_input_held, .inl (cB, h0_input_held_n, .inl h0_input_held_f)), (h0_words, .inr (2, [.ref h0_words_held, .int h0_words_count])), (h0_to, .inr (2, [.ref h0_to_held, .int h0_to_count])), (h0_to_held, .inl (cB, h0_to_held_n, .inl h0_to_held_f)), (h0_words_held, .inl (cB, h0_words_held_n, .inl h0_words_held_f))] → va_S A s.heap H locs → lv_has ls 6 [(0, .ref h0)] → W p l e (rm_Opener_openCopy) s m ([.ref h0, .int a1, .int a2, .int a3] : List Value).toArray below meth c H locs 0 0 Q (F0 m 60 ls []) := by
      intro  H locs ls hf hP hD hS hl
      unfold m_Opener_openCopy_J60 at hf
      refine lv_aload_n hx hb dX6_openCopy_60 rfl (lv_at hl 0 rfl) ?_
      refine lv_iconst (v := 2) hx hb dX6_openCopy_61 (by decide) ?_
      refine lv_aload_n hx hb dX6_openCopy_62 rfl (lv_at hl 0 rfl) ?_
      refine va_get (D := (dC, dI)) (ci := 5) (v := .int h0_at) (C := RX6) (T := TX6) (N := 17) hx hb hts inG_X6 hown hK hP 0 rfl rfl 7 (by decide) (hts _ kw_296) (fun _ h9 => h9) rfl dX6_openCopy_63 ?_
      obtain ⟨x, hc, hf⟩ := bind_some hf
      obtain ⟨r4, u5, u6⟩ := x
      dsimp only at hf
      refine nx_i (rn_V (As := [.int (2 : Int32), .int h0_at]) (rest := []) (n := 2) (ci := 5) (q0 := 0) ⟨hx, hb, hml, hown, hts⟩ (c_Opener_breaks (l := l) (dC := dC) (dI := dI) (cB := cB) (cI := cI) (h0 := h0) (a1 := (2 : Int32)) (a2 := h0_at) (w_h0_input := (.ref h0_input)) (w_h0_words := (.ref h0_words)) (w_h0_settings := (w_h0_settings)) (w_h0_to := (.ref h0_to)) (w_h0_blocks := (w_h0_blocks)) (h0_broken := h0_broken) (h0_brokenAt := h0_brokenAt) (w_h0_at := (.int h0_at)) (w_h0_end := (.int h0_end)) (w_h0_begin := (w_h0_begin)) (w_h0_copies := (.int h0_copies)) (w_h0_literals := (w_h0_literals)) (w_h0_parts := (w_h0_parts)) (w_h0_frameBegin := (w_h0_frameBegin)) (w_h0_flags := (w_h0_flags)) (w_h0_width := (w_h0_width)) (w_h0_size := (w_h0_size)) (o_h0_broken := u5) (o_h0_brokenAt := u6) (o_r := r4) hc) (wV kw_871 kw_873 kw_26 kw_92 kw_874) (by decide +kernel) ⟨Nat.le_of_ble_eq_true rfl, Nat.le_of_ble_eq_true rfl⟩ hK hP hD hN hT hS (va_free (wc := [(h0, .inr (5, [.ref h0_input, .ref h0_words, w_h0_settings, .ref h0_to, w_h0_blocks, .int h0_broken, .int h0_brokenAt, .int h0_at, .int h0_end, w_h0_begin, .int h0_copies, w_h0_literals, w_h0_parts, w_h0_frameBegin, w_h0_flags, w_h0_width, w_h0_size]))]) hD hS hA [0] rfl) [0] rfl (by decide) rfl rfl rfl hl.1 rfl (lv_room (Nat.le_of_ble_eq_true rfl)) dX6_openCopy_66 ⟨Nat.le_of_ble_eq_true rfl, Nat.le_of_ble_eq_true rfl⟩) hP hD hS hA (wr := [(h0_input, .inr (2, [.ref h0_input_held, .int h0_input_count])), (h0_input_held, .inl (cB, h0_input_held_n, .inl h0_input_held_f)), (h0_words, .inr (2, [.ref h0_words_held, .int h0_words_count])), (h0_to, .inr (2, [.ref h0_to_held, .int h0_to_count])), (h0_to_held, .inl (cB, h0_to_held_n, .inl h0_to_held_f)), (h0_words_held, .inl (cB, h0_words_held_n, .inl h0_words_held_f))]) (w1 := [(h0, .inr (5, [.ref h0_input, .ref h0_words, w_h0_settings, .ref h0_to, w_h0_blocks, .int u5, .int u6, .int h0_at, .int h0_end, w_h0_begin, .int h0_copies, w_h0_literals, w_h0_parts, w_h0_frameBegin, w_h0_flags, w_h0_width, w_h0_size]))]) (ws' := [(h0, .inr (5, [.ref h0_input, .ref h0_words, w_h0_settings, .ref h0_to, w_h0_blocks, .int u5, .int u6, .int h0_at, .int h0_end, w_h0_begin, .int h0_copies, w_h0_literals, w_h0_parts, w_h0_frameBegin, w_h0_flags, w_h0_width, w_h0_size])), (h0_input, .inr (2, [.ref h0_input_held, .int h0_input_count])), (h0_input_held, .inl (cB, h0_input_held_n, .inl h0_input_held_f)), (h0_words, .inr (2, [.ref h0_words_held, .int h0_words_count])), (h0_to, .inr (2, [.ref h0_to_held, .int h0_to_count])), (h0_to_held, .inl (cB, h0_to_held_n, .inl h0_to_held_f)), (h0_words_held, .inl (cB, h0_words_held_n, .inl h0_words_held_f))]) [0] [1, 2, 3, 4, 5, 6] [6, 0, 1, 2, 3, 4, 5] rfl rfl (by decide) (by decide) rfl (by decide) (fun H locs hP hD hS => ?_)
      obtain ⟨hzb, hf⟩ := bch_some hf
      obtain ⟨rfl, hq_1⟩ := Prod.mk.inj (Option.some.inj hf)
      obtain ⟨rfl, hq_2⟩ := Prod.mk.inj hq_1
      obtain ⟨rfl, hq_3⟩ := Prod.mk.inj hq_2
      obtain ⟨rfl, hq_4⟩ := Prod.mk.inj hq_3
      obtain ⟨rfl, hq_5⟩ := Prod.mk.inj hq_4
      obtain ⟨rfl, hq_6⟩ := Prod.mk.inj hq_5
      obtain rfl := hq_6
      exact rt_z hQ hx hb hr hzb hlocks hP hD hS dX6_openCopy_69
    refine lv_if_eq (tgt := 60) hx hb dX6_openCopy_35 (by decide) (fun c_35 => ?_) (fun c_35 => ?_)
    · replace hf := if_t c_35 hf
      exact hJ_60  _ _ _ hf hP hD hS (lv_sub hl [1] rfl)
    · replace hf := if_f c_35 hf
      refine lv_iload hx hb dX6_openCopy_38 (lv_at hl 0 rfl) ?_
      refine lv_aload_n hx hb dX6_openCopy_40 rfl (lv_at hl 1 rfl) ?_
      refine va_get (D := (dC, dI)) (ci := 5) (v := .ref h0_words) (C := RX6) (T := TX6) (N := 17) hx hb hts inG_X6 hown hK hP 0 rfl rfl 1 (by decide) (hts _ kw_290) (fun _ h9 => h9) rfl dX6_openCopy_41 ?_
      obtain ⟨r7, hc, hf⟩ := bind_some hf
      refine nx_i (rn_V (As := []) (rest := [.int v4_3]) (n := 0) (ci := 2) (q0 := 0) ⟨hx, hb, hml, hown, hts⟩ (c_Bytes_size (l := l) (dC := dC) (dI := dI) (cB := cB) (cI := cI) (h0 := h0_words) (w_h0_held := (.ref h0_words_held)) (h0_count := h0_words_count)  (o_r := r7) hc) (wV kw_849 kw_402 kw_403 kw_83 kw_404) (by decide +kernel) ⟨Nat.le_of_ble_eq_true rfl, Nat.le_of_ble_eq_true rfl⟩ hK hP hD hN hT hS (va_free (wc := [(h0_words, .inr (2, [.ref h0_words_held, .int h0_words_count]))]) hD hS hA [3] rfl) [3] rfl (by decide) rfl rfl rfl hl.1 rfl (lv_room (Nat.le_of_ble_eq_true rfl)) dX6_openCopy_44 ⟨Nat.le_of_ble_eq_true rfl, Nat.le_of_ble_eq_true rfl⟩) hP hD hS hA (wr := [(h0, .inr (5, [.ref h0_input, .ref h0_words, w_h0_settings, .ref h0_to, w_h0_blocks, .int h0_broken, .int h0_brokenAt, .int h0_at, .int h0_end, w_h0_begin, .int h0_copies, w_h0_literals, w_h0_parts, w_h0_frameBegin, w_h0_flags, w_h0_width, w_h0_size])), (h0_input, .inr (2, [.ref h0_input_held, .int h0_input_count])), (h0_input_held, .inl (cB, h0_input_held_n, .inl h0_input_held_f)), (h0_to, .inr (2, [.ref h0_to_held, .int h0_to_count])), (h0_to_held, .inl (cB, h0_to_held_n, .inl h0_to_held_f)), (h0_words_held, .inl (cB, h0_words_held_n, .inl h0_words_held_f))]) (w1 := [(h0_words, .inr (2, [.ref h0_words_held, .int h0_words_count]))]) (ws' := [(h0, .inr (5, [.ref h0_input, .ref h0_words, w_h0_settings, .ref h0_to, w_h0_blocks, .int h0_broken, .int h0_brokenAt, .int h0_at, .int h0_end, w_h0_begin, .int h0_copies, w_h0_literals, w_h0_parts, w_h0_frameBegin, w_h0_flags, w_h0_width, w_h0_size])), (h0_input, .inr (2, [.ref h0_input_held, .int h0_input_count])), (h0_input_held, .inl (cB, h0_input_held_n, .inl h0_input_held_f)), (h0_words, .inr (2, [.ref h0_words_held, .int h0_words_count])), (h0_to, .inr (2, [.ref h0_to_held, .int h0_to_count])), (h0_to_held, .inl (cB, h0_to_held_n, .inl h0_to_held_f)), (h0_words_held, .inl (cB, h0_words_held_n, .inl h0_words_held_f))]) [3] [0, 1, 2, 4, 5, 6] [0, 1, 2, 6, 3, 4, 5] rfl rfl (by decide) (by decide) rfl (by decide) (fun H locs hP hD hS => ?_)
      refine lv_aload_n hx hb dX6_openCopy_47 rfl (lv_at hl 1 rfl) ?_
      refine va_get (D := (dC, dI)) (ci := 5) (v := .ref h0_to) (C := RX6) (T := TX6) (N := 17) hx hb hts inG_X6 hown hK hP 0 rfl rfl 3 (by decide) (hts _ kw_292) (fun _ h9 => h9) rfl dX6_openCopy_48 ?_
      obtain ⟨r8, hc, hf⟩ := bind_some hf
      refine nx_i (rn_V (As := []) (rest := [.int r7, .int v4_3]) (n := 0) (ci := 2) (q0 := 0) ⟨hx, hb, hml, hown, hts⟩ (c_Bytes_size (l := l) (dC := dC) (dI := dI) (cB := cB) (cI := cI) (h0 := h0_to) (w_h0_held := (.ref h0_to_held)) (h0_count := h0_to_count)  (o_r := r8) hc) (wV kw_849 kw_402 kw_403 kw_83 kw_404) (by decide +kernel) ⟨Nat.le_of_ble_eq_true rfl, Nat.le_of_ble_eq_true rfl⟩ hK hP hD hN hT hS (va_free (wc := [(h0_to, .inr (2, [.ref h0_to_held, .int h0_to_count]))]) hD hS hA [4] rfl) [4] rfl (by decide) rfl rfl rfl hl.1 rfl (lv_room (Nat.le_of_ble_eq_true rfl)) dX6_openCopy_51 ⟨Nat.le_of_ble_eq_true rfl, Nat.le_of_ble_eq_true rfl⟩) hP hD hS hA (wr := [(h0, .inr (5, [.ref h0_input, .ref h0_words, w_h0_settings, .ref h0_to, w_h0_blocks, .int h0_broken, .int h0_brokenAt, .int h0_at, .int h0_end, w_h0_begin, .int h0_copies, w_h0_literals, w_h0_parts, w_h0_frameBegin, w_h0_flags, w_h0_width, w_h0_size])), (h0_input, .inr (2, [.ref h0_input_held, .int h0_input_count])), (h0_input_held, .inl (cB, h0_input_held_n, .inl h0_input_held_f)), (h0_words, .inr (2, [.ref h0_words_held, .int h0_words_count])), (h0_to_held, .inl (cB, h0_to_held_n, .inl h0_to_held_f)), (h0_words_held, .inl (cB, h0_words_held_n, .inl h0_words_held_f))]) (w1 := [(h0_to, .inr (2, [.ref h0_to_held, .int h0_to_count]))]) (ws' := [(h0, .inr (5, [.ref h0_input, .ref h0_words, w_h0_settings, .ref h0_to, w_h0_blocks, .int h0_broken, .int h0_brokenAt, .int h0_at, .int h0_end, w_h0_begin, .int h0_copies, w_h0_literals, w_h0_parts, w_h0_frameBegin, w_h0_flags, w_h0_width, w_h0_size])), (h0_input, .inr (2, [.ref h0_input_held, .int h0_input_count])), (h0_input_held, .inl (cB, h0_input_held_n, .inl h0_input_held_f)), (h0_words, .inr (2, [.ref h0_words_held, .int h0_words_count])), (h0_to, .inr (2, [.ref h0_to_held, .int h0_to_count])), (h0_to_held, .inl (cB, h0_to_held_n, .inl h0_to_held_f)), (h0_words_held, .inl (cB, h0_words_held_n, .inl h0_words_held_f))]) [4] [0, 1, 2, 3, 5, 6] [0, 1, 2, 3, 6, 4, 5] rfl rfl (by decide) (by decide) rfl (by decide) (fun H locs hP hD hS => ?_)
      refine lv_iadd hx hb dX6_openCopy_54 ?_
      refine lv_iload_n hx hb dX6_openCopy_55 rfl (lv_at hl 4 rfl) ?_
      refine lv_isub hx hb dX6_openCopy_56 ?_
      refine lv_icmp_le (tgt := 70) hx hb dX6_openCopy_57 (by decide) (fun c_57 => ?_) (fun c_57 => ?_)
      · replace hf := if_t c_57 hf
        refine lv_aload_n hx hb dX6_openCopy_70 rfl (lv_at hl 1 rfl) ?_
        refine lv_dup hx hb dX6_openCopy_71 rfl ?_
        refine va_get (D := (dC, dI)) (ci := 5) (v := .int h0_at) (C := RX6) (T := TX6) (N := 17) hx hb hts inG_X6 hown hK hP 0 rfl rfl 7 (by decide) (hts _ kw_296) (fun _ h9 => h9) rfl dX6_openCopy_72 ?_
        refine lv_iconst (v := 2) hx hb dX6_openCopy_75 (by decide) ?_
        refine lv_iadd hx hb dX6_openCopy_76 ?_
        refine lv_topi (fun p_9 e_p_9 => ?_)
        replace hf := bnd_at e_p_9 hf
        refine va_put (D := (dC, dI)) (ci := 5) (v := .int p_9) (ty := .int) (C := RX6) (T := TX6) (N := 17) hx hb hts inG_X6 tyX6 tyX6_ok nmX6 hown hK hP hD hS 0 rfl rfl 7 (by decide) (hts _ kw_296) (fun _ h9 => h9) rfl (by decide +kernel) rfl rfl (Nat.le_of_ble_eq_true rfl) dX6_openCopy_77 (fun H locs hP hD hS => ?_)
        have hP : va_P (dC, dI) vwCl [(h0, .inr (5, [.ref h0_input, .ref h0_words, w_h0_settings, .ref h0_to, w_h0_blocks, .int h0_broken, .int h0_brokenAt, .int p_9, .int h0_end, w_h0_begin, .int h0_copies, w_h0_literals, w_h0_parts, w_h0_frameBegin, w_h0_flags, w_h0_width, w_h0_size])), (h0_input, .inr (2, [.ref h0_input_held, .int h0_input_count])), (h0_input_held, .inl (cB, h0_input_held_n, .inl h0_input_held_f)), (h0_words, .inr (2, [.ref h0_words_held, .int h0_words_count])), (h0_to, .inr (2, [.ref h0_to_held, .int h0_to_count])), (h0_to_held, .inl (cB, h0_to_held_n, .inl h0_to_held_f)), (h0_words_held, .inl (cB, h0_words_held_n, .inl h0_words_held_f))] H := hP
        have hD : va_D A [(h0, .inr (5, [.ref h0_input, .ref h0_words, w_h0_settings, .ref h0_to, w_h0_blocks, .int h0_broken, .int h0_brokenAt, .int p_9, .int h0_end, w_h0_begin, .int h0_copies, w_h0_literals, w_h0_parts, w_h0_frameBegin, w_h0_flags, w_h0_width, w_h0_size])), (h0_input, .inr (2, [.ref h0_input_held, .int h0_input_count])), (h0_input_held, .inl (cB, h0_input_held_n, .inl h0_input_held_f)), (h0_words, .inr (2, [.ref h0_words_held, .int h0_words_count])), (h0_to, .inr (2, [.ref h0_to_held, .int h0_to_count])), (h0_to_held, .inl (cB, h0_to_held_n, .inl h0_to_held_f)), (h0_words_held, .inl (cB, h0_words_held_n, .inl h0_words_held_f))] := hD
        refine lv_aload_n hx hb dX6_openCopy_80 rfl (lv_at hl 1 rfl) ?_
        refine lv_iload_n hx hb dX6_openCopy_81 rfl (lv_at hl 3 rfl) ?_
        obtain ⟨x, hc, hf⟩ := bind_some hf
        obtain ⟨r10, u11⟩ := x
        dsimp only at hf
        refine nx_i (rn_V (As := [.int a2]) (rest := []) (n := 1) (ci := 5) (q0 := 0) ⟨hx, hb, hml, hown, hts⟩ (c_Opener_withAdded (l := l) (dC := dC) (dI := dI) (cB := cB) (cI := cI) (h0 := h0) (a1 := a2) (h0_input := h0_input) (h0_input_held := h0_input_held) (w_h0_words := (.ref h0_words)) (w_h0_settings := (w_h0_settings)) (w_h0_to := (.ref h0_to)) (w_h0_blocks := (w_h0_blocks)) (w_h0_broken := (.int h0_broken)) (w_h0_brokenAt := (.int h0_brokenAt)) (h0_at := p_9) (h0_end := h0_end) (w_h0_begin := (w_h0_begin)) (w_h0_copies := (.int h0_copies)) (w_h0_literals := (w_h0_literals)) (w_h0_parts := (w_h0_parts)) (w_h0_frameBegin := (w_h0_frameBegin)) (w_h0_flags := (w_h0_flags)) (w_h0_width := (w_h0_width)) (w_h0_size := (w_h0_size)) (h0_input_count := h0_input_count) (h0_input_held_n := h0_input_held_n) (h0_input_held_f := h0_input_held_f) (o_h0_at := u11) (o_r := r10) hc) (wV kw_863 kw_865 kw_24 kw_92 kw_866) (by decide +kernel) ⟨Nat.le_of_ble_eq_true rfl, Nat.le_of_ble_eq_true rfl⟩ hK hP hD hN hT hS (va_free (wc := [(h0, .inr (5, [.ref h0_input, .ref h0_words, w_h0_settings, .ref h0_to, w_h0_blocks, .int h0_broken, .int h0_brokenAt, .int p_9, .int h0_end, w_h0_begin, .int h0_copies, w_h0_literals, w_h0_parts, w_h0_frameBegin, w_h0_flags, w_h0_width, w_h0_size])), (h0_input, .inr (2, [.ref h0_input_held, .int h0_input_count])), (h0_input_held, .inl (cB, h0_input_held_n, .inl h0_input_held_f))]) hD hS hA [0, 1, 2] rfl) [0, 1, 2] rfl (by decide) rfl rfl rfl hl.1 rfl (lv_room (Nat.le_of_ble_eq_true rfl)) dX6_openCopy_82 ⟨Nat.le_of_ble_eq_true rfl, Nat.le_of_ble_eq_true rfl⟩) hP hD hS hA (wr := [(h0_words, .inr (2, [.ref h0_words_held, .int h0_words_count])), (h0_to, .inr (2, [.ref h0_to_held, .int h0_to_count])), (h0_to_held, .inl (cB, h0_to_held_n, .inl h0_to_held_f)), (h0_words_held, .inl (cB, h0_words_held_n, .inl h0_words_held_f))]) (w1 := [(h0, .inr (5, [.ref h0_input, .ref h0_words, w_h0_settings, .ref h0_to, w_h0_blocks, .int h0_broken, .int h0_brokenAt, .int u11, .int h0_end, w_h0_begin, .int h0_copies, w_h0_literals, w_h0_parts, w_h0_frameBegin, w_h0_flags, w_h0_width, w_h0_size])), (h0_input, .inr (2, [.ref h0_input_held, .int h0_input_count])), (h0_input_held, .inl (cB, h0_input_held_n, .inl h0_input_held_f))]) (ws' := [(h0, .inr (5, [.ref h0_input, .ref h0_words, w_h0_settings, .ref h0_to, w_h0_blocks, .int h0_broken, .int h0_brokenAt, .int u11, .int h0_end, w_h0_begin, .int h0_copies, w_h0_literals, w_h0_parts, w_h0_frameBegin, w_h0_flags, w_h0_width, w_h0_size])), (h0_input, .inr (2, [.ref h0_input_held, .int h0_input_count])), (h0_input_held, .inl (cB, h0_input_held_n, .inl h0_input_held_f)), (h0_words, .inr (2, [.ref h0_words_held, .int h0_words_count])), (h0_to, .inr (2, [.ref h0_to_held, .int h0_to_count])), (h0_to_held, .inl (cB, h0_to_held_n, .inl h0_to_held_f)), (h0_words_held, .inl (cB, h0_words_held_n, .inl h0_words_held_f))]) [0, 1, 2] [3, 4, 5, 6] [4, 5, 6, 0, 1, 2, 3] rfl rfl (by decide) (by decide) rfl (by decide) (fun H locs hP hD hS => ?_)
        refine lv_istore (lv' := [(5, .int r10), (4, .int v4_3), (0, .ref h0), (1, .int a1), (2, .int a2), (3, .int a3)]) hx hb dX6_openCopy_85 hl (by decide) rfl (fun ls hl => ?_)
        refine lv_iload hx hb dX6_openCopy_87 (lv_at hl 0 rfl) ?_
        refine lv_if_ge (tgt := 102) hx hb dX6_openCopy_89 (by decide) (fun c_89 => ?_) (fun c_89 => ?_)
        · replace hf := if_t c_89 hf
          refine lv_aload_n hx hb dX6_openCopy_102 rfl (lv_at hl 2 rfl) ?_
          refine lv_iload hx hb dX6_openCopy_103 (lv_at hl 0 rfl) ?_
          refine lv_iconst (v := 4) hx hb dX6_openCopy_105 (by decide) ?_
          refine lv_iadd hx hb dX6_openCopy_106 ?_
          refine lv_i2l (v := ((r10 + (4 : Int32)).toInt64)) hx hb dX6_openCopy_107 rfl ?_
          obtain ⟨r12, hc, hf⟩ := bind_some hf
          refine nx_i (rn_V (As := [.long ((r10 + (4 : Int32)).toInt64)]) (rest := []) (n := 1) (ci := 5) (q0 := 0) ⟨hx, hb, hml, hown, hts⟩ (c_Opener_isOver (l := l) (dC := dC) (dI := dI) (cB := cB) (cI := cI) (h0 := h0) (a1 := ((r10 + (4 : Int32)).toInt64)) (h0_to := h0_to) (w_h0_input := (.ref h0_input)) (w_h0_words := (.ref h0_words)) (w_h0_settings := (w_h0_settings)) (w_h0_blocks := (w_h0_blocks)) (w_h0_broken := (.int h0_broken)) (w_h0_brokenAt := (.int h0_brokenAt)) (w_h0_at := (.int u11)) (w_h0_end := (.int h0_end)) (w_h0_begin := (w_h0_begin)) (w_h0_copies := (.int h0_copies)) (w_h0_literals := (w_h0_literals)) (w_h0_parts := (w_h0_parts)) (w_h0_frameBegin := (w_h0_frameBegin)) (w_h0_flags := (w_h0_flags)) (w_h0_width := (w_h0_width)) (w_h0_size := (w_h0_size)) (w_h0_to_held := (.ref h0_to_held)) (h0_to_count := h0_to_count)  (o_r := r12) hc) (wV kw_875 kw_877 kw_27 kw_92 kw_878) (by decide +kernel) ⟨Nat.le_of_ble_eq_true rfl, Nat.le_of_ble_eq_true rfl⟩ hK hP hD hN hT hS (va_free (wc := [(h0, .inr (5, [.ref h0_input, .ref h0_words, w_h0_settings, .ref h0_to, w_h0_blocks, .int h0_broken, .int h0_brokenAt, .int u11, .int h0_end, w_h0_begin, .int h0_copies, w_h0_literals, w_h0_parts, w_h0_frameBegin, w_h0_flags, w_h0_width, w_h0_size])), (h0_to, .inr (2, [.ref h0_to_held, .int h0_to_count]))]) hD hS hA [0, 4] rfl) [0, 4] rfl (by decide) rfl rfl rfl hl.1 rfl (lv_room (Nat.le_of_ble_eq_true rfl)) dX6_openCopy_108 ⟨Nat.le_of_ble_eq_true rfl, Nat.le_of_ble_eq_true rfl⟩) hP hD hS hA (wr := [(h0_input, .inr (2, [.ref h0_input_held, .int h0_input_count])), (h0_input_held, .inl (cB, h0_input_held_n, .inl h0_input_held_f)), (h0_words, .inr (2, [.ref h0_words_held, .int h0_words_count])), (h0_to_held, .inl (cB, h0_to_held_n, .inl h0_to_held_f)), (h0_words_held, .inl (cB, h0_words_held_n, .inl h0_words_held_f))]) (w1 := [(h0, .inr (5, [.ref h0_input, .ref h0_words, w_h0_settings, .ref h0_to, w_h0_blocks, .int h0_broken, .int h0_brokenAt, .int u11, .int h0_end, w_h0_begin, .int h0_copies, w_h0_literals, w_h0_parts, w_h0_frameBegin, w_h0_flags, w_h0_width, w_h0_size])), (h0_to, .inr (2, [.ref h0_to_held, .int h0_to_count]))]) (ws' := [(h0, .inr (5, [.ref h0_input, .ref h0_words, w_h0_settings, .ref h0_to, w_h0_blocks, .int h0_broken, .int h0_brokenAt, .int u11, .int h0_end, w_h0_begin, .int h0_copies, w_h0_literals, w_h0_parts, w_h0_frameBegin, w_h0_flags, w_h0_width, w_h0_size])), (h0_input, .inr (2, [.ref h0_input_held, .int h0_input_count])), (h0_input_held, .inl (cB, h0_input_held_n, .inl h0_input_held_f)), (h0_words, .inr (2, [.ref h0_words_held, .int h0_words_count])), (h0_to, .inr (2, [.ref h0_to_held, .int h0_to_count])), (h0_to_held, .inl (cB, h0_to_held_n, .inl h0_to_held_f)), (h0_words_held, .inl (cB, h0_words_held_n, .inl h0_words_held_f))]) [0, 4] [1, 2, 3, 5, 6] [5, 0, 1, 2, 6, 3, 4] rfl rfl (by decide) (by decide) rfl (by decide) (fun H locs hP hD hS => ?_)
          refine lv_if_eq (tgt := 122) hx hb dX6_openCopy_111 (by decide) (fun c_111 => ?_) (fun c_111 => ?_)
          · replace hf := if_t c_111 hf
            refine lv_aload_n hx hb dX6_openCopy_122 rfl (lv_at hl 2 rfl) ?_
            refine lv_iload hx hb dX6_openCopy_123 (lv_at hl 1 rfl) ?_
            refine lv_iload hx hb dX6_openCopy_125 (lv_at hl 0 rfl) ?_
            refine lv_iconst (v := 4) hx hb dX6_openCopy_127 (by decide) ?_
            refine lv_iadd hx hb dX6_openCopy_128 ?_
            refine lv_iload_n hx hb dX6_openCopy_129 rfl (lv_at hl 5 rfl) ?_
            obtain ⟨x, hc, hf⟩ := bind_some hf
            obtain ⟨u13, u14, u15⟩ := x
            dsimp only at hf
            refine nx_v (rn_V (As := [.int v4_3, .int (r10 + (4 : Int32)), .int a3]) (rest := []) (n := 3) (ci := 5) (q0 := 0) ⟨hx, hb, hml, hown, hts⟩ (c_Opener_copy (l := l) (dC := dC) (dI := dI) (cB := cB) (cI := cI) (h0 := h0) (a1 := v4_3) (a2 := (r10 + (4 : Int32))) (a3 := a3) (h0_to := h0_to) (h0_words := h0_words) (h0_to_held := h0_to_held) (h0_words_held := h0_words_held) (w_h0_input := (.ref h0_input)) (w_h0_settings := (w_h0_settings)) (w_h0_blocks := (w_h0_blocks)) (w_h0_broken := (.int h0_broken)) (w_h0_brokenAt := (.int h0_brokenAt)) (w_h0_at := (.int u11)) (w_h0_end := (.int h0_end)) (w_h0_begin := (w_h0_begin)) (h0_copies := h0_copies) (w_h0_literals := (w_h0_literals)) (w_h0_parts := (w_h0_parts)) (w_h0_frameBegin := (w_h0_frameBegin)) (w_h0_flags := (w_h0_flags)) (w_h0_width := (w_h0_width)) (w_h0_size := (w_h0_size)) (h0_to_count := h0_to_count) (h0_words_count := h0_words_count) (h0_to_held_n := h0_to_held_n) (h0_to_held_f := h0_to_held_f) (h0_words_held_n := h0_words_held_n) (h0_words_held_f := h0_words_held_f) (o_h0_copies := u13) (o_h0_to_count := u14) (o_h0_to_held_f := u15) hc) (wV kw_894 kw_896 kw_30 kw_92 kw_897) (by decide +kernel) ⟨Nat.le_of_ble_eq_true rfl, Nat.le_of_ble_eq_true rfl⟩ hK hP hD hN hT hS (va_free (wc := [(h0, .inr (5, [.ref h0_input, .ref h0_words, w_h0_settings, .ref h0_to, w_h0_blocks, .int h0_broken, .int h0_brokenAt, .int u11, .int h0_end, w_h0_begin, .int h0_copies, w_h0_literals, w_h0_parts, w_h0_frameBegin, w_h0_flags, w_h0_width, w_h0_size])), (h0_to, .inr (2, [.ref h0_to_held, .int h0_to_count])), (h0_words, .inr (2, [.ref h0_words_held, .int h0_words_count])), (h0_to_held, .inl (cB, h0_to_held_n, .inl h0_to_held_f)), (h0_words_held, .inl (cB, h0_words_held_n, .inl h0_words_held_f))]) hD hS hA [0, 4, 3, 5, 6] rfl) [0, 4, 3, 5, 6] rfl (by decide) rfl rfl rfl hl.1 rfl (lv_room (Nat.le_of_ble_eq_true rfl)) dX6_openCopy_130 ⟨Nat.le_of_ble_eq_true rfl, Nat.le_of_ble_eq_true rfl⟩) hP hD hS hA (wr := [(h0_input, .inr (2, [.ref h0_input_held, .int h0_input_count])), (h0_input_held, .inl (cB, h0_input_held_n, .inl h0_input_held_f))]) (w1 := [(h0, .inr (5, [.ref h0_input, .ref h0_words, w_h0_settings, .ref h0_to, w_h0_blocks, .int h0_broken, .int h0_brokenAt, .int u11, .int h0_end, w_h0_begin, .int u13, w_h0_literals, w_h0_parts, w_h0_frameBegin, w_h0_flags, w_h0_width, w_h0_size])), (h0_to, .inr (2, [.ref h0_to_held, .int u14])), (h0_words, .inr (2, [.ref h0_words_held, .int h0_words_count])), (h0_to_held, .inl (cB, h0_to_held_n, .inl u15)), (h0_words_held, .inl (cB, h0_words_held_n, .inl h0_words_held_f))]) (ws' := [(h0, .inr (5, [.ref h0_input, .ref h0_words, w_h0_settings, .ref h0_to, w_h0_blocks, .int h0_broken, .int h0_brokenAt, .int u11, .int h0_end, w_h0_begin, .int u13, w_h0_literals, w_h0_parts, w_h0_frameBegin, w_h0_flags, w_h0_width, w_h0_size])), (h0_input, .inr (2, [.ref h0_input_held, .int h0_input_count])), (h0_input_held, .inl (cB, h0_input_held_n, .inl h0_input_held_f)), (h0_words, .inr (2, [.ref h0_words_held, .int h0_words_count])), (h0_to, .inr (2, [.ref h0_to_held, .int u14])), (h0_to_held, .inl (cB, h0_to_held_n, .inl u15)), (h0_words_held, .inl (cB, h0_words_held_n, .inl h0_words_held_f))]) [0, 4, 3, 5, 6] [1, 2] [2, 0, 1, 4, 3, 5, 6] rfl rfl (by decide) (by decide) rfl (by decide) (fun H locs hP hD hS => ?_)
            refine lv_iconst (v := 1) hx hb dX6_openCopy_133 (by decide) ?_
            have hzb : narrow .boolean (.int (1 : Int32)) = .int (1 : Int32) := rfl
            obtain ⟨rfl, hq_1⟩ := Prod.mk.inj (Option.some.inj hf)
            obtain ⟨rfl, hq_2⟩ := Prod.mk.inj hq_1
            obtain ⟨rfl, hq_3⟩ := Prod.mk.inj hq_2
            obtain ⟨rfl, hq_4⟩ := Prod.mk.inj hq_3
            obtain ⟨rfl, hq_5⟩ := Prod.mk.inj hq_4
            obtain ⟨rfl, hq_6⟩ := Prod.mk.inj hq_5
            obtain rfl := hq_6
            exact rt_z hQ hx hb hr hzb hlocks hP hD hS dX6_openCopy_134
          · replace hf := if_f c_111 hf
            refine lv_aload_n hx hb dX6_openCopy_114 rfl (lv_at hl 2 rfl) ?_
            refine lv_bipush (v := 12) hx hb dX6_openCopy_115 (by decide) ?_
            refine lv_iload_n hx hb dX6_openCopy_117 rfl (lv_at hl 3 rfl) ?_
            obtain ⟨x, hc, hf⟩ := bind_some hf
            obtain ⟨r16, u17, u18⟩ := x
            dsimp only at hf
            refine nx_i (rn_V (As := [.int (12 : Int32), .int a1]) (rest := []) (n := 2) (ci := 5) (q0 := 0) ⟨hx, hb, hml, hown, hts⟩ (c_Opener_breaks (l := l) (dC := dC) (dI := dI) (cB := cB) (cI := cI) (h0 := h0) (a1 := (12 : Int32)) (a2 := a1) (w_h0_input := (.ref h0_input)) (w_h0_words := (.ref h0_words)) (w_h0_settings := (w_h0_settings)) (w_h0_to := (.ref h0_to)) (w_h0_blocks := (w_h0_blocks)) (h0_broken := h0_broken) (h0_brokenAt := h0_brokenAt) (w_h0_at := (.int u11)) (w_h0_end := (.int h0_end)) (w_h0_begin := (w_h0_begin)) (w_h0_copies := (.int h0_copies)) (w_h0_literals := (w_h0_literals)) (w_h0_parts := (w_h0_parts)) (w_h0_frameBegin := (w_h0_frameBegin)) (w_h0_flags := (w_h0_flags)) (w_h0_width := (w_h0_width)) (w_h0_size := (w_h0_size)) (o_h0_broken := u17) (o_h0_brokenAt := u18) (o_r := r16) hc) (wV kw_871 kw_873 kw_26 kw_92 kw_874) (by decide +kernel) ⟨Nat.le_of_ble_eq_true rfl, Nat.le_of_ble_eq_true rfl⟩ hK hP hD hN hT hS (va_free (wc := [(h0, .inr (5, [.ref h0_input, .ref h0_words, w_h0_settings, .ref h0_to, w_h0_blocks, .int h0_broken, .int h0_brokenAt, .int u11, .int h0_end, w_h0_begin, .int h0_copies, w_h0_literals, w_h0_parts, w_h0_frameBegin, w_h0_flags, w_h0_width, w_h0_size]))]) hD hS hA [0] rfl) [0] rfl (by decide) rfl rfl rfl hl.1 rfl (lv_room (Nat.le_of_ble_eq_true rfl)) dX6_openCopy_118 ⟨Nat.le_of_ble_eq_true rfl, Nat.le_of_ble_eq_true rfl⟩) hP hD hS hA (wr := [(h0_input, .inr (2, [.ref h0_input_held, .int h0_input_count])), (h0_input_held, .inl (cB, h0_input_held_n, .inl h0_input_held_f)), (h0_words, .inr (2, [.ref h0_words_held, .int h0_words_count])), (h0_to, .inr (2, [.ref h0_to_held, .int h0_to_count])), (h0_to_held, .inl (cB, h0_to_held_n, .inl h0_to_held_f)), (h0_words_held, .inl (cB, h0_words_held_n, .inl h0_words_held_f))]) (w1 := [(h0, .inr (5, [.ref h0_input, .ref h0_words, w_h0_settings, .ref h0_to, w_h0_blocks, .int u17, .int u18, .int u11, .int h0_end, w_h0_begin, .int h0_copies, w_h0_literals, w_h0_parts, w_h0_frameBegin, w_h0_flags, w_h0_width, w_h0_size]))]) (ws' := [(h0, .inr (5, [.ref h0_input, .ref h0_words, w_h0_settings, .ref h0_to, w_h0_blocks, .int u17, .int u18, .int u11, .int h0_end, w_h0_begin, .int h0_copies, w_h0_literals, w_h0_parts, w_h0_frameBegin, w_h0_flags, w_h0_width, w_h0_size])), (h0_input, .inr (2, [.ref h0_input_held, .int h0_input_count])), (h0_input_held, .inl (cB, h0_input_held_n, .inl h0_input_held_f)), (h0_words, .inr (2, [.ref h0_words_held, .int h0_words_count])), (h0_to, .inr (2, [.ref h0_to_held, .int h0_to_count])), (h0_to_held, .inl (cB, h0_to_held_n, .inl h0_to_held_f)), (h0_words_held, .inl (cB, h0_words_held_n, .inl h0_words_held_f))]) [0] [1, 2, 3, 4, 5, 6] [6, 0, 1, 2, 3, 4, 5] rfl rfl (by decide) (by decide) rfl (by decide) (fun H locs hP hD hS => ?_)
            obtain ⟨hzb, hf⟩ := bch_some hf
            obtain ⟨rfl, hq_1⟩ := Prod.mk.inj (Option.some.inj hf)
            obtain ⟨rfl, hq_2⟩ := Prod.mk.inj hq_1
            obtain ⟨rfl, hq_3⟩ := Prod.mk.inj hq_2
            obtain ⟨rfl, hq_4⟩ := Prod.mk.inj hq_3
            obtain ⟨rfl, hq_5⟩ := Prod.mk.inj hq_4
            obtain ⟨rfl, hq_6⟩ := Prod.mk.inj hq_5
            obtain rfl := hq_6
            exact rt_z hQ hx hb hr hzb hlocks hP hD hS dX6_openCopy_121
        · replace hf := if_f c_89 hf
          refine lv_aload_n hx hb dX6_openCopy_92 rfl (lv_at hl 2 rfl) ?_
          refine lv_iconst (v := 1) hx hb dX6_openCopy_93 (by decide) ?_
          refine lv_aload_n hx hb dX6_openCopy_94 rfl (lv_at hl 2 rfl) ?_
          refine va_get (D := (dC, dI)) (ci := 5) (v := .int h0_end) (C := RX6) (T := TX6) (N := 17) hx hb hts inG_X6 hown hK hP 0 rfl rfl 8 (by decide) (hts _ kw_297) (fun _ h9 => h9) rfl dX6_openCopy_95 ?_
          obtain ⟨x, hc, hf⟩ := bind_some hf
          obtain ⟨r19, u20, u21⟩ := x
          dsimp only at hf
          refine nx_i (rn_V (As := [.int (1 : Int32), .int h0_end]) (rest := []) (n := 2) (ci := 5) (q0 := 0) ⟨hx, hb, hml, hown, hts⟩ (c_Opener_breaks (l := l) (dC := dC) (dI := dI) (cB := cB) (cI := cI) (h0 := h0) (a1 := (1 : Int32)) (a2 := h0_end) (w_h0_input := (.ref h0_input)) (w_h0_words := (.ref h0_words)) (w_h0_settings := (w_h0_settings)) (w_h0_to := (.ref h0_to)) (w_h0_blocks := (w_h0_blocks)) (h0_broken := h0_broken) (h0_brokenAt := h0_brokenAt) (w_h0_at := (.int u11)) (w_h0_end := (.int h0_end)) (w_h0_begin := (w_h0_begin)) (w_h0_copies := (.int h0_copies)) (w_h0_literals := (w_h0_literals)) (w_h0_parts := (w_h0_parts)) (w_h0_frameBegin := (w_h0_frameBegin)) (w_h0_flags := (w_h0_flags)) (w_h0_width := (w_h0_width)) (w_h0_size := (w_h0_size)) (o_h0_broken := u20) (o_h0_brokenAt := u21) (o_r := r19) hc) (wV kw_871 kw_873 kw_26 kw_92 kw_874) (by decide +kernel) ⟨Nat.le_of_ble_eq_true rfl, Nat.le_of_ble_eq_true rfl⟩ hK hP hD hN hT hS (va_free (wc := [(h0, .inr (5, [.ref h0_input, .ref h0_words, w_h0_settings, .ref h0_to, w_h0_blocks, .int h0_broken, .int h0_brokenAt, .int u11, .int h0_end, w_h0_begin, .int h0_copies, w_h0_literals, w_h0_parts, w_h0_frameBegin, w_h0_flags, w_h0_width, w_h0_size]))]) hD hS hA [0] rfl) [0] rfl (by decide) rfl rfl rfl hl.1 rfl (lv_room (Nat.le_of_ble_eq_true rfl)) dX6_openCopy_98 ⟨Nat.le_of_ble_eq_true rfl, Nat.le_of_ble_eq_true rfl⟩) hP hD hS hA (wr := [(h0_input, .inr (2, [.ref h0_input_held, .int h0_input_count])), (h0_input_held, .inl (cB, h0_input_held_n, .inl h0_input_held_f)), (h0_words, .inr (2, [.ref h0_words_held, .int h0_words_count])), (h0_to, .inr (2, [.ref h0_to_held, .int h0_to_count])), (h0_to_held, .inl (cB, h0_to_held_n, .inl h0_to_held_f)), (h0_words_held, .inl (cB, h0_words_held_n, .inl h0_words_held_f))]) (w1 := [(h0, .inr (5, [.ref h0_input, .ref h0_words, w_h0_settings, .ref h0_to, w_h0_blocks, .int u20, .int u21, .int u11, .int h0_end, w_h0_begin, .int h0_copies, w_h0_literals, w_h0_parts, w_h0_frameBegin, w_h0_flags, w_h0_width, w_h0_size]))]) (ws' := [(h0, .inr (5, [.ref h0_input, .ref h0_words, w_h0_settings, .ref h0_to, w_h0_blocks, .int u20, .int u21, .int u11, .int h0_end, w_h0_begin, .int h0_copies, w_h0_literals, w_h0_parts, w_h0_frameBegin, w_h0_flags, w_h0_width, w_h0_size])), (h0_input, .inr (2, [.ref h0_input_held, .int h0_input_count])), (h0_input_held, .inl (cB, h0_input_held_n, .inl h0_input_held_f)), (h0_words, .inr (2, [.ref h0_words_held, .int h0_words_count])), (h0_to, .inr (2, [.ref h0_to_held, .int h0_to_count])), (h0_to_held, .inl (cB, h0_to_held_n, .inl h0_to_held_f)), (h0_words_held, .inl (cB, h0_words_held_n, .inl h0_words_held_f))]) [0] [1, 2, 3, 4, 5, 6] [6, 0, 1, 2, 3, 4, 5] rfl rfl (by decide) (by decide) rfl (by decide) (fun H locs hP hD hS => ?_)
          obtain ⟨hzb, hf⟩ := bch_some hf
          obtain ⟨rfl, hq_1⟩ := Prod.mk.inj (Option.some.inj hf)
          obtain ⟨rfl, hq_2⟩ := Prod.mk.inj hq_1
          obtain ⟨rfl, hq_3⟩ := Prod.mk.inj hq_2
          obtain ⟨rfl, hq_4⟩ := Prod.mk.inj hq_3
          obtain ⟨rfl, hq_5⟩ := Prod.mk.inj hq_4
          obtain ⟨rfl, hq_6⟩ := Prod.mk.inj hq_5
          obtain rfl := hq_6
          exact rt_z hQ hx hb hr hzb hlocks hP hD hS dX6_openCopy_101
      · replace hf := if_f c_57 hf
        exact hJ_60  _ _ _ hf hP hD hS (lv_sub hl [1] rfl)
  · replace hf := if_f c_5 hf
    refine lv_aload_n hx hb dX6_openCopy_8 rfl (lv_at hl 0 rfl) ?_
    refine lv_iconst (v := 1) hx hb dX6_openCopy_9 (by decide) ?_
    refine lv_aload_n hx hb dX6_openCopy_10 rfl (lv_at hl 0 rfl) ?_
    refine va_get (D := (dC, dI)) (ci := 5) (v := .int h0_end) (C := RX6) (T := TX6) (N := 17) hx hb hts inG_X6 hown hK hP 0 rfl rfl 8 (by decide) (hts _ kw_297) (fun _ h9 => h9) rfl dX6_openCopy_11 ?_
    obtain ⟨x, hc, hf⟩ := bind_some hf
    obtain ⟨r22, u23, u24⟩ := x
    dsimp only at hf
    refine nx_i (rn_V (As := [.int (1 : Int32), .int h0_end]) (rest := []) (n := 2) (ci := 5) (q0 := 0) ⟨hx, hb, hml, hown, hts⟩ (c_Opener_breaks (l := l) (dC := dC) (dI := dI) (cB := cB) (cI := cI) (h0 := h0) (a1 := (1 : Int32)) (a2 := h0_end) (w_h0_input := (.ref h0_input)) (w_h0_words := (.ref h0_words)) (w_h0_settings := (w_h0_settings)) (w_h0_to := (.ref h0_to)) (w_h0_blocks := (w_h0_blocks)) (h0_broken := h0_broken) (h0_brokenAt := h0_brokenAt) (w_h0_at := (.int h0_at)) (w_h0_end := (.int h0_end)) (w_h0_begin := (w_h0_begin)) (w_h0_copies := (.int h0_copies)) (w_h0_literals := (w_h0_literals)) (w_h0_parts := (w_h0_parts)) (w_h0_frameBegin := (w_h0_frameBegin)) (w_h0_flags := (w_h0_flags)) (w_h0_width := (w_h0_width)) (w_h0_size := (w_h0_size)) (o_h0_broken := u23) (o_h0_brokenAt := u24) (o_r := r22) hc) (wV kw_871 kw_873 kw_26 kw_92 kw_874) (by decide +kernel) ⟨Nat.le_of_ble_eq_true rfl, Nat.le_of_ble_eq_true rfl⟩ hK hP hD hN hT hS (va_free (wc := [(h0, .inr (5, [.ref h0_input, .ref h0_words, w_h0_settings, .ref h0_to, w_h0_blocks, .int h0_broken, .int h0_brokenAt, .int h0_at, .int h0_end, w_h0_begin, .int h0_copies, w_h0_literals, w_h0_parts, w_h0_frameBegin, w_h0_flags, w_h0_width, w_h0_size]))]) hD hS hA [0] rfl) [0] rfl (by decide) rfl rfl rfl hl.1 rfl (lv_room (Nat.le_of_ble_eq_true rfl)) dX6_openCopy_14 ⟨Nat.le_of_ble_eq_true rfl, Nat.le_of_ble_eq_true rfl⟩) hP hD hS hA (wr := [(h0_input, .inr (2, [.ref h0_input_held, .int h0_input_count])), (h0_input_held, .inl (cB, h0_input_held_n, .inl h0_input_held_f)), (h0_words, .inr (2, [.ref h0_words_held, .int h0_words_count])), (h0_to, .inr (2, [.ref h0_to_held, .int h0_to_count])), (h0_to_held, .inl (cB, h0_to_held_n, .inl h0_to_held_f)), (h0_words_held, .inl (cB, h0_words_held_n, .inl h0_words_held_f))]) (w1 := [(h0, .inr (5, [.ref h0_input, .ref h0_words, w_h0_settings, .ref h0_to, w_h0_blocks, .int u23, .int u24, .int h0_at, .int h0_end, w_h0_begin, .int h0_copies, w_h0_literals, w_h0_parts, w_h0_frameBegin, w_h0_flags, w_h0_width, w_h0_size]))]) (ws' := [(h0, .inr (5, [.ref h0_input, .ref h0_words, w_h0_settings, .ref h0_to, w_h0_blocks, .int u23, .int u24, .int h0_at, .int h0_end, w_h0_begin, .int h0_copies, w_h0_literals, w_h0_parts, w_h0_frameBegin, w_h0_flags, w_h0_width, w_h0_size])), (h0_input, .inr (2, [.ref h0_input_held, .int h0_input_count])), (h0_input_held, .inl (cB, h0_input_held_n, .inl h0_input_held_f)), (h0_words, .inr (2, [.ref h0_words_held, .int h0_words_count])), (h0_to, .inr (2, [.ref h0_to_held, .int h0_to_count])), (h0_to_held, .inl (cB, h0_to_held_n, .inl h0_to_held_f)), (h0_words_held, .inl (cB, h0_words_held_n, .inl h0_words_held_f))]) [0] [1, 2, 3, 4, 5, 6] [6, 0, 1, 2, 3, 4, 5] rfl rfl (by decide) (by decide) rfl (by decide) (fun H locs hP hD hS => ?_)
    obtain ⟨hzb, hf⟩ := bch_some hf
    obtain ⟨rfl, hq_1⟩ := Prod.mk.inj (Option.some.inj hf)
    obtain ⟨rfl, hq_2⟩ := Prod.mk.inj hq_1
    obtain ⟨rfl, hq_3⟩ := Prod.mk.inj hq_2
    obtain ⟨rfl, hq_4⟩ := Prod.mk.inj hq_3
    obtain ⟨rfl, hq_5⟩ := Prod.mk.inj hq_4
    obtain ⟨rfl, hq_6⟩ := Prod.mk.inj hq_5
    obtain rfl := hq_6
    exact rt_z hQ hx hb hr hzb hlocks hP hD hS dX6_openCopy_17

theorem dX6_openSequences_0 : decode cX6_openSequences 0 = .ok (.aload_n 0, 1) := by decide +kernel
theorem dX6_openSequences_1 : decode cX6_openSequences 1 = .ok (.invokevirtual 86, 3) := by decide +kernel
theorem dX6_openSequences_4 : decode cX6_openSequences 4 = .ok (.iconst (-1), 1) := by decide +kernel
theorem dX6_openSequences_5 : decode cX6_openSequences 5 = .ok (.istore_n 2, 1) := by decide +kernel
theorem dX6_openSequences_6 : decode cX6_openSequences 6 = .ok (.iconst 0, 1) := by decide +kernel
theorem dX6_openSequences_7 : decode cX6_openSequences 7 = .ok (.istore_n 3, 1) := by decide +kernel
theorem dX6_openSequences_8 : decode cX6_openSequences 8 = .ok (.iload_n 3, 1) := by decide +kernel
theorem dX6_openSequences_9 : decode cX6_openSequences 9 = .ok (.sipush 4000, 3) := by decide +kernel
theorem dX6_openSequences_12 : decode cX6_openSequences 12 = .ok (.if_icmp .ge 217, 3) := by decide +kernel
theorem dX6_openSequences_15 : decode cX6_openSequences 15 = .ok (.aload_n 0, 1) := by decide +kernel
theorem dX6_openSequences_16 : decode cX6_openSequences 16 = .ok (.getfield 47, 3) := by decide +kernel
theorem dX6_openSequences_19 : decode cX6_openSequences 19 = .ok (.aload_n 0, 1) := by decide +kernel
theorem dX6_openSequences_20 : decode cX6_openSequences 20 = .ok (.getfield 54, 3) := by decide +kernel
theorem dX6_openSequences_23 : decode cX6_openSequences 23 = .ok (.if_icmp .ge 206, 3) := by decide +kernel
theorem dX6_openSequences_26 : decode cX6_openSequences 26 = .ok (.aload_n 0, 1) := by decide +kernel
theorem dX6_openSequences_27 : decode cX6_openSequences 27 = .ok (.getfield 47, 3) := by decide +kernel
theorem dX6_openSequences_30 : decode cX6_openSequences 30 = .ok (.istore 4, 2) := by decide +kernel
theorem dX6_openSequences_32 : decode cX6_openSequences 32 = .ok (.aload_n 0, 1) := by decide +kernel
theorem dX6_openSequences_33 : decode cX6_openSequences 33 = .ok (.getfield 9, 3) := by decide +kernel
theorem dX6_openSequences_36 : decode cX6_openSequences 36 = .ok (.iload 4, 2) := by decide +kernel
theorem dX6_openSequences_38 : decode cX6_openSequences 38 = .ok (.invokevirtual 89, 3) := by decide +kernel
theorem dX6_openSequences_41 : decode cX6_openSequences 41 = .ok (.istore 5, 2) := by decide +kernel
theorem dX6_openSequences_43 : decode cX6_openSequences 43 = .ok (.aload_n 0, 1) := by decide +kernel
theorem dX6_openSequences_44 : decode cX6_openSequences 44 = .ok (.dup, 1) := by decide +kernel
theorem dX6_openSequences_45 : decode cX6_openSequences 45 = .ok (.getfield 47, 3) := by decide +kernel
theorem dX6_openSequences_48 : decode cX6_openSequences 48 = .ok (.iconst 1, 1) := by decide +kernel
theorem dX6_openSequences_49 : decode cX6_openSequences 49 = .ok (.iadd, 1) := by decide +kernel
theorem dX6_openSequences_50 : decode cX6_openSequences 50 = .ok (.putfield 47, 3) := by decide +kernel
theorem dX6_openSequences_53 : decode cX6_openSequences 53 = .ok (.aload_n 0, 1) := by decide +kernel
theorem dX6_openSequences_54 : decode cX6_openSequences 54 = .ok (.iload 5, 2) := by decide +kernel
theorem dX6_openSequences_56 : decode cX6_openSequences 56 = .ok (.bipush 16, 2) := by decide +kernel
theorem dX6_openSequences_58 : decode cX6_openSequences 58 = .ok (.idiv, 1) := by decide +kernel
theorem dX6_openSequences_59 : decode cX6_openSequences 59 = .ok (.invokevirtual 92, 3) := by decide +kernel
theorem dX6_openSequences_62 : decode cX6_openSequences 62 = .ok (.istore 6, 2) := by decide +kernel
theorem dX6_openSequences_64 : decode cX6_openSequences 64 = .ok (.iload 6, 2) := by decide +kernel
theorem dX6_openSequences_66 : decode cX6_openSequences 66 = .ok (.ifCond .lt 12, 3) := by decide +kernel
theorem dX6_openSequences_69 : decode cX6_openSequences 69 = .ok (.aload_n 0, 1) := by decide +kernel
theorem dX6_openSequences_70 : decode cX6_openSequences 70 = .ok (.iload 6, 2) := by decide +kernel
theorem dX6_openSequences_72 : decode cX6_openSequences 72 = .ok (.invokevirtual 95, 3) := by decide +kernel
theorem dX6_openSequences_75 : decode cX6_openSequences 75 = .ok (.ifCond .eq 13, 3) := by decide +kernel
theorem dX6_openSequences_78 : decode cX6_openSequences 78 = .ok (.aload_n 0, 1) := by decide +kernel
theorem dX6_openSequences_79 : decode cX6_openSequences 79 = .ok (.iconst 1, 1) := by decide +kernel
theorem dX6_openSequences_80 : decode cX6_openSequences 80 = .ok (.aload_n 0, 1) := by decide +kernel
theorem dX6_openSequences_81 : decode cX6_openSequences 81 = .ok (.getfield 54, 3) := by decide +kernel
theorem dX6_openSequences_84 : decode cX6_openSequences 84 = .ok (.invokevirtual 98, 3) := by decide +kernel
theorem dX6_openSequences_87 : decode cX6_openSequences 87 = .ok (.ireturn, 1) := by decide +kernel
theorem dX6_openSequences_88 : decode cX6_openSequences 88 = .ok (.aload_n 0, 1) := by decide +kernel
theorem dX6_openSequences_89 : decode cX6_openSequences 89 = .ok (.iload 6, 2) := by decide +kernel
theorem dX6_openSequences_91 : decode cX6_openSequences 91 = .ok (.i2l, 1) := by decide +kernel
theorem dX6_openSequences_92 : decode cX6_openSequences 92 = .ok (.invokevirtual 102, 3) := by decide +kernel
theorem dX6_openSequences_95 : decode cX6_openSequences 95 = .ok (.ifCond .eq 12, 3) := by decide +kernel
theorem dX6_openSequences_98 : decode cX6_openSequences 98 = .ok (.aload_n 0, 1) := by decide +kernel
theorem dX6_openSequences_99 : decode cX6_openSequences 99 = .ok (.bipush 12, 2) := by decide +kernel
theorem dX6_openSequences_101 : decode cX6_openSequences 101 = .ok (.iload 4, 2) := by decide +kernel
theorem dX6_openSequences_103 : decode cX6_openSequences 103 = .ok (.invokevirtual 98, 3) := by decide +kernel
theorem dX6_openSequences_106 : decode cX6_openSequences 106 = .ok (.ireturn, 1) := by decide +kernel
theorem dX6_openSequences_107 : decode cX6_openSequences 107 = .ok (.aload_n 0, 1) := by decide +kernel
theorem dX6_openSequences_108 : decode cX6_openSequences 108 = .ok (.getfield 29, 3) := by decide +kernel
theorem dX6_openSequences_111 : decode cX6_openSequences 111 = .ok (.aload_n 0, 1) := by decide +kernel
theorem dX6_openSequences_112 : decode cX6_openSequences 112 = .ok (.getfield 9, 3) := by decide +kernel
theorem dX6_openSequences_115 : decode cX6_openSequences 115 = .ok (.aload_n 0, 1) := by decide +kernel
theorem dX6_openSequences_116 : decode cX6_openSequences 116 = .ok (.getfield 47, 3) := by decide +kernel
theorem dX6_openSequences_119 : decode cX6_openSequences 119 = .ok (.iload 6, 2) := by decide +kernel
theorem dX6_openSequences_121 : decode cX6_openSequences 121 = .ok (.invokevirtual 106, 3) := by decide +kernel
theorem dX6_openSequences_124 : decode cX6_openSequences 124 = .ok (.aload_n 0, 1) := by decide +kernel
theorem dX6_openSequences_125 : decode cX6_openSequences 125 = .ok (.dup, 1) := by decide +kernel
theorem dX6_openSequences_126 : decode cX6_openSequences 126 = .ok (.getfield 47, 3) := by decide +kernel
theorem dX6_openSequences_129 : decode cX6_openSequences 129 = .ok (.iload 6, 2) := by decide +kernel
theorem dX6_openSequences_131 : decode cX6_openSequences 131 = .ok (.iadd, 1) := by decide +kernel
theorem dX6_openSequences_132 : decode cX6_openSequences 132 = .ok (.putfield 47, 3) := by decide +kernel
theorem dX6_openSequences_135 : decode cX6_openSequences 135 = .ok (.aload_n 0, 1) := by decide +kernel
theorem dX6_openSequences_136 : decode cX6_openSequences 136 = .ok (.dup, 1) := by decide +kernel
theorem dX6_openSequences_137 : decode cX6_openSequences 137 = .ok (.getfield 74, 3) := by decide +kernel
theorem dX6_openSequences_140 : decode cX6_openSequences 140 = .ok (.iload 6, 2) := by decide +kernel
theorem dX6_openSequences_142 : decode cX6_openSequences 142 = .ok (.iadd, 1) := by decide +kernel
theorem dX6_openSequences_143 : decode cX6_openSequences 143 = .ok (.putfield 74, 3) := by decide +kernel
theorem dX6_openSequences_146 : decode cX6_openSequences 146 = .ok (.aload_n 0, 1) := by decide +kernel
theorem dX6_openSequences_147 : decode cX6_openSequences 147 = .ok (.dup, 1) := by decide +kernel
theorem dX6_openSequences_148 : decode cX6_openSequences 148 = .ok (.getfield 77, 3) := by decide +kernel
theorem dX6_openSequences_151 : decode cX6_openSequences 151 = .ok (.iconst 1, 1) := by decide +kernel
theorem dX6_openSequences_152 : decode cX6_openSequences 152 = .ok (.iadd, 1) := by decide +kernel
theorem dX6_openSequences_153 : decode cX6_openSequences 153 = .ok (.putfield 77, 3) := by decide +kernel
theorem dX6_openSequences_156 : decode cX6_openSequences 156 = .ok (.aload_n 0, 1) := by decide +kernel
theorem dX6_openSequences_157 : decode cX6_openSequences 157 = .ok (.getfield 47, 3) := by decide +kernel
theorem dX6_openSequences_160 : decode cX6_openSequences 160 = .ok (.aload_n 0, 1) := by decide +kernel
theorem dX6_openSequences_161 : decode cX6_openSequences 161 = .ok (.getfield 54, 3) := by decide +kernel
theorem dX6_openSequences_164 : decode cX6_openSequences 164 = .ok (.if_icmp .ne 34, 3) := by decide +kernel
theorem dX6_openSequences_167 : decode cX6_openSequences 167 = .ok (.aload_n 0, 1) := by decide +kernel
theorem dX6_openSequences_168 : decode cX6_openSequences 168 = .ok (.iload 6, 2) := by decide +kernel
theorem dX6_openSequences_170 : decode cX6_openSequences 170 = .ok (.iload 5, 2) := by decide +kernel
theorem dX6_openSequences_172 : decode cX6_openSequences 172 = .ok (.bipush 16, 2) := by decide +kernel
theorem dX6_openSequences_174 : decode cX6_openSequences 174 = .ok (.irem, 1) := by decide +kernel
theorem dX6_openSequences_175 : decode cX6_openSequences 175 = .ok (.iload_n 2, 1) := by decide +kernel
theorem dX6_openSequences_176 : decode cX6_openSequences 176 = .ok (.invokevirtual 110, 3) := by decide +kernel
theorem dX6_openSequences_179 : decode cX6_openSequences 179 = .ok (.ifCond .ne 13, 3) := by decide +kernel
theorem dX6_openSequences_182 : decode cX6_openSequences 182 = .ok (.aload_n 0, 1) := by decide +kernel
theorem dX6_openSequences_183 : decode cX6_openSequences 183 = .ok (.iconst 3, 1) := by decide +kernel
theorem dX6_openSequences_184 : decode cX6_openSequences 184 = .ok (.iload 4, 2) := by decide +kernel
theorem dX6_openSequences_186 : decode cX6_openSequences 186 = .ok (.invokevirtual 98, 3) := by decide +kernel
theorem dX6_openSequences_189 : decode cX6_openSequences 189 = .ok (.ifCond .eq 7, 3) := by decide +kernel
theorem dX6_openSequences_192 : decode cX6_openSequences 192 = .ok (.iconst 1, 1) := by decide +kernel
theorem dX6_openSequences_193 : decode cX6_openSequences 193 = .ok (.goto 4, 3) := by decide +kernel
theorem dX6_openSequences_196 : decode cX6_openSequences 196 = .ok (.iconst 0, 1) := by decide +kernel
theorem dX6_openSequences_197 : decode cX6_openSequences 197 = .ok (.ireturn, 1) := by decide +kernel
theorem dX6_openSequences_198 : decode cX6_openSequences 198 = .ok (.aload_n 0, 1) := by decide +kernel
theorem dX6_openSequences_199 : decode cX6_openSequences 199 = .ok (.getfield 29, 3) := by decide +kernel
theorem dX6_openSequences_202 : decode cX6_openSequences 202 = .ok (.invokevirtual 50, 3) := by decide +kernel
theorem dX6_openSequences_205 : decode cX6_openSequences 205 = .ok (.istore_n 2, 1) := by decide +kernel
theorem dX6_openSequences_206 : decode cX6_openSequences 206 = .ok (.aload_n 0, 1) := by decide +kernel
theorem dX6_openSequences_207 : decode cX6_openSequences 207 = .ok (.iload 4, 2) := by decide +kernel
theorem dX6_openSequences_209 : decode cX6_openSequences 209 = .ok (.iload 5, 2) := by decide +kernel
theorem dX6_openSequences_211 : decode cX6_openSequences 211 = .ok (.bipush 16, 2) := by decide +kernel
theorem dX6_openSequences_213 : decode cX6_openSequences 213 = .ok (.irem, 1) := by decide +kernel
theorem dX6_openSequences_214 : decode cX6_openSequences 214 = .ok (.iload_n 1, 1) := by decide +kernel
theorem dX6_openSequences_215 : decode cX6_openSequences 215 = .ok (.invokevirtual 114, 3) := by decide +kernel
theorem dX6_openSequences_218 : decode cX6_openSequences 218 = .ok (.ifCond .ne 5, 3) := by decide +kernel
theorem dX6_openSequences_221 : decode cX6_openSequences 221 = .ok (.iconst 0, 1) := by decide +kernel
theorem dX6_openSequences_222 : decode cX6_openSequences 222 = .ok (.ireturn, 1) := by decide +kernel
theorem dX6_openSequences_223 : decode cX6_openSequences 223 = .ok (.iinc 3 1, 3) := by decide +kernel
theorem dX6_openSequences_226 : decode cX6_openSequences 226 = .ok (.goto (-218), 3) := by decide +kernel
theorem dX6_openSequences_229 : decode cX6_openSequences 229 = .ok (.aload_n 0, 1) := by decide +kernel
theorem dX6_openSequences_230 : decode cX6_openSequences 230 = .ok (.iconst 1, 1) := by decide +kernel
theorem dX6_openSequences_231 : decode cX6_openSequences 231 = .ok (.aload_n 0, 1) := by decide +kernel
theorem dX6_openSequences_232 : decode cX6_openSequences 232 = .ok (.getfield 54, 3) := by decide +kernel
theorem dX6_openSequences_235 : decode cX6_openSequences 235 = .ok (.invokevirtual 98, 3) := by decide +kernel
theorem dX6_openSequences_238 : decode cX6_openSequences 238 = .ok (.ireturn, 1) := by decide +kernel
def m_Opener_openSequences_E78 (h0_end : Int32) (u1 : Int32) (f5 : Nat → Int32) (g6 : Int32) (g7 : Int32) (g8 : Int32) (g9 : Int32) (g10 : Int32) (g11 : Int32) (g12 : Int32) : Option (Int32 × Int32 × Int32 × Int32 × Int32 × Int32 × Int32 × Int32 × Int32 × (Nat → Int32)) :=
  (m_Opener_breaks (1 : Int32) h0_end).bind fun (r13, u14, u15) =>
  bch r13 <|
  some (r13, u14, u15, g11, u1, g6, g7, g8, g12, f5)
def m_Opener_openSequences_E167 (u1 : Int32) (f16 : Nat → Int32) (g17 : Int32) (g18 : Int32) (g19 : Int32) (g20 : Int32) (g21 : Int32) (g22 : Int32) (g23 : Int32) (j2_24 : Int32) (j4_25 : Int32) (j5_26 : Int32) (j6_27 : Int32) : Option (Int32 × Int32 × Int32 × Int32 × Int32 × Int32 × Int32 × Int32 × Int32 × (Nat → Int32)) :=
  (m_Opener_endsWell j6_27 (irem j5_26 (16 : Int32)) j2_24 g23).bind fun r28 =>
  if r28 = 0 then
    (m_Opener_breaks (3 : Int32) j4_25).bind fun (r29, u30, u31) =>
    if r29 = 0 then
      some ((0 : Int32), u30, u31, g22, u1, g17, g18, g19, g23, f16)
    else
      some ((1 : Int32), u30, u31, g22, u1, g17, g18, g19, g23, f16)
  else
    some ((1 : Int32), g20, g21, g22, u1, g17, g18, g19, g23, f16)
def m_Opener_openSequences_E229 (h0_end : Int32) (u1 : Int32) (f32 : Nat → Int32) (g33 : Int32) (g34 : Int32) (g35 : Int32) (g36 : Int32) (g37 : Int32) (g38 : Int32) (g39 : Int32) : Option (Int32 × Int32 × Int32 × Int32 × Int32 × Int32 × Int32 × Int32 × Int32 × (Nat → Int32)) :=
  (m_Opener_breaks (1 : Int32) h0_end).bind fun (r40, u41, u42) =>
  bch r40 <|
  some (r40, u41, u42, g38, u1, g33, g34, g35, g39, f32)
def m_Opener_openSequences_B8 (a1 : Int32) (h0_end : Int32) (h0_input_count : Int32) (h0_input_held_n : Nat) (h0_input_held_f : Nat → Int32) (h0_to_held_n : Nat) (h0_words_count : Int32) (h0_words_held_n : Nat) (h0_words_held_f : Nat → Int32) (u1 : Int32) (f43 : Nat → Int32) (g44 : Int32) (g45 : Int32) (g46 : Int32) (g47 : Int32) (g48 : Int32) (g49 : Int32) (g50 : Int32) (j2_51 : Int32) (j3_52 : Int32) : Option (((Nat → Int32) × Int32 × Int32 × Int32 × Int32 × Int32 × Int32 × Int32 × Int32 × Int32) ⊕ (((Nat → Int32) × Int32 × Int32 × Int32 × Int32 × Int32 × Int32 × Int32) ⊕ ((Nat → Int32) × Int32 × Int32 × Int32 × Int32 × Int32 × Int32 × Int32 × Int32 × Int32 × Int32 × Int32) ⊕ ((Nat → Int32) × Int32 × Int32 × Int32 × Int32 × Int32 × Int32 × Int32) ⊕ (((Int32 × Int32 × Int32 × Int32 × Int32 × Int32 × Int32 × Int32 × Int32 × (Nat → Int32)))))) :=
  if (4000 : Int32) ≤ j3_52 then
    some (.inr (.inr (.inr (.inl (f43, g44, g45, g46, g47, g48, g49, g50)))))
  else
    if h0_end ≤ g49 then
      some (.inr (.inr (.inr (.inl (f43, g44, g45, g46, g47, g48, g49, g50)))))
    else
      (m_Bytes_at g49 h0_input_count h0_input_held_n h0_input_held_f).bind fun r53 =>
      bnd (g49 + (1 : Int32)) fun p_54 =>
      (m_Opener_withAdded (r53 / (16 : Int32)) p_54 h0_end h0_input_count h0_input_held_n h0_input_held_f).bind fun (r55, u56) =>
      if r55 < 0 then
        some (.inr (.inl (f43, g44, g45, g46, g47, g48, u56, g50)))
      else
        (m_Opener_lacks r55 u56 h0_end).bind fun r57 =>
        if r57 = 0 then
          (m_Opener_isOver (r55.toInt64) g50).bind fun r58 =>
          if r58 = 0 then
            (m_Bytes_addRange u56 r55 g50 h0_input_count h0_to_held_n f43 h0_input_held_n h0_input_held_f).bind fun (u59, u60) =>
            bnd (u56 + r55) fun p_61 =>
            bnd (g45 + r55) fun p_62 =>
            bnd (g46 + (1 : Int32)) fun p_63 =>
            if p_61 = h0_end then
              some (.inr (.inr (.inl (u60, g44, p_62, p_63, g47, g48, p_61, u59, j2_51, g49, r53, r55))))
            else
              (m_Bytes_size u59).bind fun r64 =>
              (m_Opener_openCopy g49 (irem r53 (16 : Int32)) a1 g47 g48 p_61 h0_end g44 h0_input_count h0_input_held_n h0_input_held_f h0_words_count u59 h0_to_held_n u60 h0_words_held_n h0_words_held_f).bind fun (r65, u66, u67, u68, u69, u70, u71) =>
              if r65 = 0 then
                some (.inr (.inr (.inr (.inr ((0 : Int32), u66, u67, u68, u1, u69, p_62, p_63, u70, u71)))))
              else
                bnd (j3_52 + (1 : Int32)) fun v3_72 =>
                some (.inl (u71, u69, p_62, p_63, u66, u67, u68, u70, r64, v3_72))
          else
            (m_Opener_breaks (12 : Int32) g49).bind fun (r73, u74, u75) =>
            bch r73 <|
            some (.inr (.inr (.inr (.inr (r73, u74, u75, u56, u1, g44, g45, g46, g50, f43)))))
        else
          some (.inr (.inl (f43, g44, g45, g46, g47, g48, u56, g50)))
def m_Opener_openSequences (a1 : Int32) (h0_broken : Int32) (h0_brokenAt : Int32) (h0_at : Int32) (h0_end : Int32) (h0_to_count : Int32) (h0_input_count : Int32) (h0_input_held_n : Nat) (h0_input_held_f : Nat → Int32) (h0_to_held_n : Nat) (h0_to_held_f : Nat → Int32) (h0_words_count : Int32) (h0_words_held_n : Nat) (h0_words_held_f : Nat → Int32) : Option (Int32 × Int32 × Int32 × Int32 × Int32 × Int32 × Int32 × Int32 × Int32 × (Nat → Int32)) :=
  (m_Opener_beginBlock h0_to_count).bind fun (u1, u2, u3, u4) =>
  (iter (fun st => m_Opener_openSequences_B8 a1 h0_end h0_input_count h0_input_held_n h0_input_held_f h0_to_held_n h0_words_count h0_words_held_n h0_words_held_f u1 st.1 st.2.1 st.2.2.1 st.2.2.2.1 st.2.2.2.2.1 st.2.2.2.2.2.1 st.2.2.2.2.2.2.1 st.2.2.2.2.2.2.2.1 st.2.2.2.2.2.2.2.2.1 st.2.2.2.2.2.2.2.2.2) FU (h0_to_held_f, u2, u3, u4, h0_broken, h0_brokenAt, h0_at, h0_to_count, (-1 : Int32), (0 : Int32))).bind fun o => match o with | (.inl y) => m_Opener_openSequences_E78 h0_end u1 y.1 y.2.1 y.2.2.1 y.2.2.2.1 y.2.2.2.2.1 y.2.2.2.2.2.1 y.2.2.2.2.2.2.1 y.2.2.2.2.2.2.2 | (.inr (.inl y)) => m_Opener_openSequences_E167 u1 y.1 y.2.1 y.2.2.1 y.2.2.2.1 y.2.2.2.2.1 y.2.2.2.2.2.1 y.2.2.2.2.2.2.1 y.2.2.2.2.2.2.2.1 y.2.2.2.2.2.2.2.2.1 y.2.2.2.2.2.2.2.2.2.1 y.2.2.2.2.2.2.2.2.2.2.1 y.2.2.2.2.2.2.2.2.2.2.2 | (.inr (.inr (.inl y))) => m_Opener_openSequences_E229 h0_end u1 y.1 y.2.1 y.2.2.1 y.2.2.2.1 y.2.2.2.2.1 y.2.2.2.2.2.1 y.2.2.2.2.2.2.1 y.2.2.2.2.2.2.2 | (.inr (.inr (.inr y))) => some y
def rm_Opener_openSequences : Room := { frames := 4, cells := 0, slots := 0, locals := 113 }
set_option maxHeartbeats 4000000 in
set_option maxRecDepth 100000 in
theorem c_Opener_openSequences {l : Launch} {dC : Nat → ClassId} {dI : Nat → Nat → Nat} {cB cI : ClassId} {sz : Nat} {h0 : Nat} {a1 : Int32} {h0_to : Nat} {h0_input : Nat} {h0_input_held : Nat} {h0_to_held : Nat} {h0_words : Nat} {h0_words_held : Nat} {w_h0_settings : Value} {w_h0_blocks : Value} {h0_broken : Int32} {h0_brokenAt : Int32} {h0_at : Int32} {h0_end : Int32} {h0_begin : Int32} {h0_copies : Int32} {h0_literals : Int32} {h0_parts : Int32} {w_h0_frameBegin : Value} {w_h0_flags : Value} {w_h0_width : Value} {w_h0_size : Value} {h0_to_count : Int32} {h0_input_count : Int32} {h0_input_held_n : Nat} {h0_input_held_f : Nat → Int32} {h0_to_held_n : Nat} {h0_to_held_f : Nat → Int32} {h0_words_count : Int32} {h0_words_held_n : Nat} {h0_words_held_f : Nat → Int32} {o_r : Int32} {o_h0_broken : Int32} {o_h0_brokenAt : Int32} {o_h0_at : Int32} {o_h0_begin : Int32} {o_h0_copies : Int32} {o_h0_literals : Int32} {o_h0_parts : Int32} {o_h0_to_count : Int32} {o_h0_to_held_f : Nat → Int32} (hf : m_Opener_openSequences a1 h0_broken h0_brokenAt h0_at h0_end h0_to_count h0_input_count h0_input_held_n h0_input_held_f h0_to_held_n h0_to_held_f h0_words_count h0_words_held_n h0_words_held_f = some (o_r, o_h0_broken, o_h0_brokenAt, o_h0_at, o_h0_begin, o_h0_copies, o_h0_literals, o_h0_parts, o_h0_to_count, o_h0_to_held_f)) : Met l yX6_openSequences (Cond.code yX6_openSequences cX6_openSequences 7 (some .boolean) :: lw_G) rm_Opener_openSequences (PreC (dC, dI) [(cB, .byte), (cI, .int)] [.ref h0, .int a1] sz [(h0, .inr (5, [.ref h0_input, .ref h0_words, w_h0_settings, .ref h0_to, w_h0_blocks, .int h0_broken, .int h0_brokenAt, .int h0_at, .int h0_end, .int h0_begin, .int h0_copies, .int h0_literals, .int h0_parts, w_h0_frameBegin, w_h0_flags, w_h0_width, w_h0_size])), (h0_to, .inr (2, [.ref h0_to_held, .int h0_to_count])), (h0_input, .inr (2, [.ref h0_input_held, .int h0_input_count])), (h0_input_held, .inl (cB, h0_input_held_n, .inl h0_input_held_f)), (h0_to_held, .inl (cB, h0_to_held_n, .inl h0_to_held_f)), (h0_words, .inr (2, [.ref h0_words_held, .int h0_words_count])), (h0_words_held, .inl (cB, h0_words_held_n, .inl h0_words_held_f))]) (QcI o_r (dC, dI) [(h0, .inr (5, [.ref h0_input, .ref h0_words, w_h0_settings, .ref h0_to, w_h0_blocks, .int o_h0_broken, .int o_h0_brokenAt, .int o_h0_at, .int h0_end, .int o_h0_begin, .int o_h0_copies, .int o_h0_literals, .int o_h0_parts, w_h0_frameBegin, w_h0_flags, w_h0_width, w_h0_size])), (h0_to, .inr (2, [.ref h0_to_held, .int o_h0_to_count])), (h0_input, .inr (2, [.ref h0_input_held, .int h0_input_count])), (h0_input_held, .inl (cB, h0_input_held_n, .inl h0_input_held_f)), (h0_to_held, .inl (cB, h0_to_held_n, .inl o_h0_to_held_f)), (h0_words, .inr (2, [.ref h0_words_held, .int h0_words_count])), (h0_words_held, .inl (cB, h0_words_held_n, .inl h0_words_held_f))] (va_A [(h0, .inr (5, [.ref h0_input, .ref h0_words, w_h0_settings, .ref h0_to, w_h0_blocks, .int h0_broken, .int h0_brokenAt, .int h0_at, .int h0_end, .int h0_begin, .int h0_copies, .int h0_literals, .int h0_parts, w_h0_frameBegin, w_h0_flags, w_h0_width, w_h0_size])), (h0_to, .inr (2, [.ref h0_to_held, .int h0_to_count])), (h0_input, .inr (2, [.ref h0_input_held, .int h0_input_count])), (h0_input_held, .inl (cB, h0_input_held_n, .inl h0_input_held_f)), (h0_to_held, .inl (cB, h0_to_held_n, .inl h0_to_held_f)), (h0_words, .inr (2, [.ref h0_words_held, .int h0_words_count])), (h0_words_held, .inl (cB, h0_words_held_n, .inl h0_words_held_f))] sz)) 0 0 (va_A [(h0, .inr (5, [.ref h0_input, .ref h0_words, w_h0_settings, .ref h0_to, w_h0_blocks, .int h0_broken, .int h0_brokenAt, .int h0_at, .int h0_end, .int h0_begin, .int h0_copies, .int h0_literals, .int h0_parts, w_h0_frameBegin, w_h0_flags, w_h0_width, w_h0_size])), (h0_to, .inr (2, [.ref h0_to_held, .int h0_to_count])), (h0_input, .inr (2, [.ref h0_input_held, .int h0_input_count])), (h0_input_held, .inl (cB, h0_input_held_n, .inl h0_input_held_f)), (h0_to_held, .inl (cB, h0_to_held_n, .inl h0_to_held_f)), (h0_words, .inr (2, [.ref h0_words_held, .int h0_words_count])), (h0_words_held, .inl (cB, h0_words_held_n, .inl h0_words_held_f))] sz) := by
  refine met_of (Qf := fun A => QcI o_r (dC, dI) [(h0, .inr (5, [.ref h0_input, .ref h0_words, w_h0_settings, .ref h0_to, w_h0_blocks, .int o_h0_broken, .int o_h0_brokenAt, .int o_h0_at, .int h0_end, .int o_h0_begin, .int o_h0_copies, .int o_h0_literals, .int o_h0_parts, w_h0_frameBegin, w_h0_flags, w_h0_width, w_h0_size])), (h0_to, .inr (2, [.ref h0_to_held, .int o_h0_to_count])), (h0_input, .inr (2, [.ref h0_input_held, .int h0_input_count])), (h0_input_held, .inl (cB, h0_input_held_n, .inl h0_input_held_f)), (h0_to_held, .inl (cB, h0_to_held_n, .inl o_h0_to_held_f)), (h0_words, .inr (2, [.ref h0_words_held, .int h0_words_count])), (h0_words_held, .inl (cB, h0_words_held_n, .inl h0_words_held_f))] A) (by decide) (Nat.le_of_ble_eq_true rfl) ?_
  intro p e s m below meth c A ls Q hx hb hr hml hown hts hlocks hnm hP hK hD hN hT hA hl hQ
  have hown : s.vm.findClass RX6 = some m.cls := hown
  have hS : va_S A s.heap s.heap [] := va_S.rf
  have hl : lv_has ls 7 [(0, .ref h0), (1, .int a1)] := hl
  unfold m_Opener_openSequences at hf
  refine lv_aload_n hx hb dX6_openSequences_0 rfl (lv_at hl 0 rfl) ?_
  obtain ⟨x, hc, hf⟩ := bind_some hf
  obtain ⟨u1, u2, u3, u4⟩ := x
  dsimp only at hf
  refine nx_v (rn_V (As := []) (rest := []) (n := 0) (ci := 5) (q0 := 0) ⟨hx, hb, hml, hown, hts⟩ (c_Opener_beginBlock (l := l) (dC := dC) (dI := dI) (cB := cB) (cI := cI) (h0 := h0) (h0_to := h0_to) (w_h0_input := (.ref h0_input)) (w_h0_words := (.ref h0_words)) (w_h0_settings := (w_h0_settings)) (w_h0_blocks := (w_h0_blocks)) (w_h0_broken := (.int h0_broken)) (w_h0_brokenAt := (.int h0_brokenAt)) (w_h0_at := (.int h0_at)) (w_h0_end := (.int h0_end)) (h0_begin := h0_begin) (h0_copies := h0_copies) (h0_literals := h0_literals) (h0_parts := h0_parts) (w_h0_frameBegin := (w_h0_frameBegin)) (w_h0_flags := (w_h0_flags)) (w_h0_width := (w_h0_width)) (w_h0_size := (w_h0_size)) (w_h0_to_held := (.ref h0_to_held)) (h0_to_count := h0_to_count) (o_h0_begin := u1) (o_h0_copies := u2) (o_h0_literals := u3) (o_h0_parts := u4) hc) (wV kw_858 kw_860 kw_23 kw_92 kw_861) (by decide +kernel) ⟨Nat.le_of_ble_eq_true rfl, Nat.le_of_ble_eq_true rfl⟩ hK hP hD hN hT hS (va_free (wc := [(h0, .inr (5, [.ref h0_input, .ref h0_words, w_h0_settings, .ref h0_to, w_h0_blocks, .int h0_broken, .int h0_brokenAt, .int h0_at, .int h0_end, .int h0_begin, .int h0_copies, .int h0_literals, .int h0_parts, w_h0_frameBegin, w_h0_flags, w_h0_width, w_h0_size])), (h0_to, .inr (2, [.ref h0_to_held, .int h0_to_count]))]) hD hS hA [0, 1] rfl) [0, 1] rfl (by decide) rfl rfl rfl hl.1 rfl (lv_room (Nat.le_of_ble_eq_true rfl)) dX6_openSequences_1 ⟨Nat.le_of_ble_eq_true rfl, Nat.le_of_ble_eq_true rfl⟩) hP hD hS hA (wr := [(h0_input, .inr (2, [.ref h0_input_held, .int h0_input_count])), (h0_input_held, .inl (cB, h0_input_held_n, .inl h0_input_held_f)), (h0_to_held, .inl (cB, h0_to_held_n, .inl h0_to_held_f)), (h0_words, .inr (2, [.ref h0_words_held, .int h0_words_count])), (h0_words_held, .inl (cB, h0_words_held_n, .inl h0_words_held_f))]) (w1 := [(h0, .inr (5, [.ref h0_input, .ref h0_words, w_h0_settings, .ref h0_to, w_h0_blocks, .int h0_broken, .int h0_brokenAt, .int h0_at, .int h0_end, .int u1, .int u2, .int u3, .int u4, w_h0_frameBegin, w_h0_flags, w_h0_width, w_h0_size])), (h0_to, .inr (2, [.ref h0_to_held, .int h0_to_count]))]) (ws' := [(h0, .inr (5, [.ref h0_input, .ref h0_words, w_h0_settings, .ref h0_to, w_h0_blocks, .int h0_broken, .int h0_brokenAt, .int h0_at, .int h0_end, .int u1, .int u2, .int u3, .int u4, w_h0_frameBegin, w_h0_flags, w_h0_width, w_h0_size])), (h0_to, .inr (2, [.ref h0_to_held, .int h0_to_count])), (h0_input, .inr (2, [.ref h0_input_held, .int h0_input_count])), (h0_input_held, .inl (cB, h0_input_held_n, .inl h0_input_held_f)), (h0_to_held, .inl (cB, h0_to_held_n, .inl h0_to_held_f)), (h0_words, .inr (2, [.ref h0_words_held, .int h0_words_count])), (h0_words_held, .inl (cB, h0_words_held_n, .inl h0_words_held_f))]) [0, 1] [2, 3, 4, 5, 6] [5, 6, 0, 1, 2, 3, 4] rfl rfl (by decide) (by decide) rfl (by decide) (fun H locs hP hD hS => ?_)
  refine lv_iconst (v := -1) hx hb dX6_openSequences_4 (by decide) ?_
  refine lv_istore_n (lv' := [(2, .int (-1 : Int32)), (0, .ref h0), (1, .int a1)]) hx hb dX6_openSequences_5 rfl hl (by decide) rfl (fun ls hl => ?_)
  refine lv_iconst (v := 0) hx hb dX6_openSequences_6 (by decide) ?_
  refine lv_istore_n (lv' := [(3, .int (0 : Int32)), (2, .int (-1 : Int32)), (0, .ref h0), (1, .int a1)]) hx hb dX6_openSequences_7 rfl hl (by decide) rfl (fun ls hl => ?_)
  have hJ_78 : ∀ (f5 : Nat → Int32) (g6 : Int32) (g7 : Int32) (g8 : Int32) (g9 : Int32) (g10 : Int32) (g11 : Int32) (g12 : Int32) (H : Heap) (locs : List Loc) (ls : Array Slot), m_Opener_openSequences_E78 h0_end u1 f5 g6 g7 g8 g9 g10 g11 g12 = some (o_r, o_h0_broken, o_h0_brokenAt, o_h0_at, o_h0_begin, o_h0_copies, o_h0_literals, o_h0_parts, o_h0_to_count, o_h0_to_held_f) → va_P (dC, dI) vwCl [(h0, .inr (5, [.ref h0_input, .ref h0_words, w_h0_settings, .ref h0_to, w_h0_blocks, .int g9, .int g10, .int g11, .int h0_end, .int u1, .int g6, .int g7, .int g8, w_h0_frameBegin, w_h0_flags, w_h0_width, w_h0_size])), (h0_to, .inr (2, [.ref h0_to_held, .int g12])), (h0_input, .inr (2, [.ref h0_input_held, .int h0_input_count])), (h0_input_held, .inl (cB, h0_input_held_n, .inl h0_input_held_f)), (h0_to_held, .inl (cB, h0_to_held_n, .inl f5)), (h0_words, .inr (2, [.ref h0_words_held, .int h0_words_count])), (h0_words_held, .inl (cB, h0_words_held_n, .inl h0_words_held_f))] H → va_D A [(h0, .inr (5, [.ref h0_input, .ref h0_words, w_h0_settings, .ref h0_to, w_h0_blocks, .int g9, .int g10, .int g11, .int h0_end, .int u1, .int g6, .int g7, .int g8, w_h0_frameBegin, w_h0_flags, w_h0_width, w_h0_size])), (h0_to, .inr (2, [.ref h0_to_held, .int g12])), (h0_input, .inr (2, [.ref h0_input_held, .int h0_input_count])), (h0_input_held, .inl (cB, h0_input_held_n, .inl h0_input_held_f)), (h0_to_held, .inl (cB, h0_to_held_n, .inl f5)), (h0_words, .inr (2, [.ref h0_words_held, .int h0_words_count])), (h0_words_held, .inl (cB, h0_words_held_n, .inl h0_words_held_f))] → va_S A s.heap H locs → lv_has ls 7 [(0, .ref h0)] → W p l e (rm_Opener_openSequences) s m ([.ref h0, .int a1] : List Value).toArray below meth c H locs 0 0 Q (F0 m 78 ls []) := by
    intro f5 g6 g7 g8 g9 g10 g11 g12 H locs ls hf hP hD hS hl
    unfold m_Opener_openSequences_E78 at hf
    refine lv_aload_n hx hb dX6_openSequences_78 rfl (lv_at hl 0 rfl) ?_
    refine lv_iconst (v := 1) hx hb dX6_openSequences_79 (by decide) ?_
    refine lv_aload_n hx hb dX6_openSequences_80 rfl (lv_at hl 0 rfl) ?_
    refine va_get (D := (dC, dI)) (ci := 5) (v := .int h0_end) (C := RX6) (T := TX6) (N := 17) hx hb hts inG_X6 hown hK hP 0 rfl rfl 8 (by decide) (hts _ kw_297) (fun _ h9 => h9) rfl dX6_openSequences_81 ?_
    obtain ⟨x, hc, hf⟩ := bind_some hf
    obtain ⟨r13, u14, u15⟩ := x
    dsimp only at hf
    refine nx_i (rn_V (As := [.int (1 : Int32), .int h0_end]) (rest := []) (n := 2) (ci := 5) (q0 := 0) ⟨hx, hb, hml, hown, hts⟩ (c_Opener_breaks (l := l) (dC := dC) (dI := dI) (cB := cB) (cI := cI) (h0 := h0) (a1 := (1 : Int32)) (a2 := h0_end) (w_h0_input := (.ref h0_input)) (w_h0_words := (.ref h0_words)) (w_h0_settings := (w_h0_settings)) (w_h0_to := (.ref h0_to)) (w_h0_blocks := (w_h0_blocks)) (h0_broken := g9) (h0_brokenAt := g10) (w_h0_at := (.int g11)) (w_h0_end := (.int h0_end)) (w_h0_begin := (.int u1)) (w_h0_copies := (.int g6)) (w_h0_literals := (.int g7)) (w_h0_parts := (.int g8)) (w_h0_frameBegin := (w_h0_frameBegin)) (w_h0_flags := (w_h0_flags)) (w_h0_width := (w_h0_width)) (w_h0_size := (w_h0_size)) (o_h0_broken := u14) (o_h0_brokenAt := u15) (o_r := r13) hc) (wV kw_871 kw_873 kw_26 kw_92 kw_874) (by decide +kernel) ⟨Nat.le_of_ble_eq_true rfl, Nat.le_of_ble_eq_true rfl⟩ hK hP hD hN hT hS (va_free (wc := [(h0, .inr (5, [.ref h0_input, .ref h0_words, w_h0_settings, .ref h0_to, w_h0_blocks, .int g9, .int g10, .int g11, .int h0_end, .int u1, .int g6, .int g7, .int g8, w_h0_frameBegin, w_h0_flags, w_h0_width, w_h0_size]))]) hD hS hA [0] rfl) [0] rfl (by decide) rfl rfl rfl hl.1 rfl (lv_room (Nat.le_of_ble_eq_true rfl)) dX6_openSequences_84 ⟨Nat.le_of_ble_eq_true rfl, Nat.le_of_ble_eq_true rfl⟩) hP hD hS hA (wr := [(h0_to, .inr (2, [.ref h0_to_held, .int g12])), (h0_input, .inr (2, [.ref h0_input_held, .int h0_input_count])), (h0_input_held, .inl (cB, h0_input_held_n, .inl h0_input_held_f)), (h0_to_held, .inl (cB, h0_to_held_n, .inl f5)), (h0_words, .inr (2, [.ref h0_words_held, .int h0_words_count])), (h0_words_held, .inl (cB, h0_words_held_n, .inl h0_words_held_f))]) (w1 := [(h0, .inr (5, [.ref h0_input, .ref h0_words, w_h0_settings, .ref h0_to, w_h0_blocks, .int u14, .int u15, .int g11, .int h0_end, .int u1, .int g6, .int g7, .int g8, w_h0_frameBegin, w_h0_flags, w_h0_width, w_h0_size]))]) (ws' := [(h0, .inr (5, [.ref h0_input, .ref h0_words, w_h0_settings, .ref h0_to, w_h0_blocks, .int u14, .int u15, .int g11, .int h0_end, .int u1, .int g6, .int g7, .int g8, w_h0_frameBegin, w_h0_flags, w_h0_width, w_h0_size])), (h0_to, .inr (2, [.ref h0_to_held, .int g12])), (h0_input, .inr (2, [.ref h0_input_held, .int h0_input_count])), (h0_input_held, .inl (cB, h0_input_held_n, .inl h0_input_held_f)), (h0_to_held, .inl (cB, h0_to_held_n, .inl f5)), (h0_words, .inr (2, [.ref h0_words_held, .int h0_words_count])), (h0_words_held, .inl (cB, h0_words_held_n, .inl h0_words_held_f))]) [0] [1, 2, 3, 4, 5, 6] [6, 0, 1, 2, 3, 4, 5] rfl rfl (by decide) (by decide) rfl (by decide) (fun H locs hP hD hS => ?_)
    obtain ⟨hzb, hf⟩ := bch_some hf
    obtain ⟨rfl, hq_1⟩ := Prod.mk.inj (Option.some.inj hf)
    obtain ⟨rfl, hq_2⟩ := Prod.mk.inj hq_1
    obtain ⟨rfl, hq_3⟩ := Prod.mk.inj hq_2
    obtain ⟨rfl, hq_4⟩ := Prod.mk.inj hq_3
    obtain ⟨rfl, hq_5⟩ := Prod.mk.inj hq_4
    obtain ⟨rfl, hq_6⟩ := Prod.mk.inj hq_5
    obtain ⟨rfl, hq_7⟩ := Prod.mk.inj hq_6
    obtain ⟨rfl, hq_8⟩ := Prod.mk.inj hq_7
    obtain ⟨rfl, hq_9⟩ := Prod.mk.inj hq_8
    obtain rfl := hq_9
    exact rt_z hQ hx hb hr hzb hlocks hP hD hS dX6_openSequences_87
  have hJ_167 : ∀ (f16 : Nat → Int32) (g17 : Int32) (g18 : Int32) (g19 : Int32) (g20 : Int32) (g21 : Int32) (g22 : Int32) (g23 : Int32) (j2_24 : Int32) (j4_25 : Int32) (j5_26 : Int32) (j6_27 : Int32) (H : Heap) (locs : List Loc) (ls : Array Slot), m_Opener_openSequences_E167 u1 f16 g17 g18 g19 g20 g21 g22 g23 j2_24 j4_25 j5_26 j6_27 = some (o_r, o_h0_broken, o_h0_brokenAt, o_h0_at, o_h0_begin, o_h0_copies, o_h0_literals, o_h0_parts, o_h0_to_count, o_h0_to_held_f) → va_P (dC, dI) vwCl [(h0, .inr (5, [.ref h0_input, .ref h0_words, w_h0_settings, .ref h0_to, w_h0_blocks, .int g20, .int g21, .int g22, .int h0_end, .int u1, .int g17, .int g18, .int g19, w_h0_frameBegin, w_h0_flags, w_h0_width, w_h0_size])), (h0_to, .inr (2, [.ref h0_to_held, .int g23])), (h0_input, .inr (2, [.ref h0_input_held, .int h0_input_count])), (h0_input_held, .inl (cB, h0_input_held_n, .inl h0_input_held_f)), (h0_to_held, .inl (cB, h0_to_held_n, .inl f16)), (h0_words, .inr (2, [.ref h0_words_held, .int h0_words_count])), (h0_words_held, .inl (cB, h0_words_held_n, .inl h0_words_held_f))] H → va_D A [(h0, .inr (5, [.ref h0_input, .ref h0_words, w_h0_settings, .ref h0_to, w_h0_blocks, .int g20, .int g21, .int g22, .int h0_end, .int u1, .int g17, .int g18, .int g19, w_h0_frameBegin, w_h0_flags, w_h0_width, w_h0_size])), (h0_to, .inr (2, [.ref h0_to_held, .int g23])), (h0_input, .inr (2, [.ref h0_input_held, .int h0_input_count])), (h0_input_held, .inl (cB, h0_input_held_n, .inl h0_input_held_f)), (h0_to_held, .inl (cB, h0_to_held_n, .inl f16)), (h0_words, .inr (2, [.ref h0_words_held, .int h0_words_count])), (h0_words_held, .inl (cB, h0_words_held_n, .inl h0_words_held_f))] → va_S A s.heap H locs → lv_has ls 7 [(0, .ref h0), (2, .int j2_24), (4, .int j4_25), (5, .int j5_26), (6, .int j6_27)] → W p l e (rm_Opener_openSequences) s m ([.ref h0, .int a1] : List Value).toArray below meth c H locs 0 0 Q (F0 m 167 ls []) := by
    intro f16 g17 g18 g19 g20 g21 g22 g23 j2_24 j4_25 j5_26 j6_27 H locs ls hf hP hD hS hl
    unfold m_Opener_openSequences_E167 at hf
    refine lv_aload_n hx hb dX6_openSequences_167 rfl (lv_at hl 0 rfl) ?_
    refine lv_iload hx hb dX6_openSequences_168 (lv_at hl 4 rfl) ?_
    refine lv_iload hx hb dX6_openSequences_170 (lv_at hl 3 rfl) ?_
    refine lv_bipush (v := 16) hx hb dX6_openSequences_172 (by decide) ?_
    refine lv_irem hx hb dX6_openSequences_174 (by decide) ?_
    refine lv_iload_n hx hb dX6_openSequences_175 rfl (lv_at hl 1 rfl) ?_
    obtain ⟨r28, hc, hf⟩ := bind_some hf
    refine nx_i (rn_V (As := [.int j6_27, .int (irem j5_26 (16 : Int32)), .int j2_24]) (rest := []) (n := 3) (ci := 5) (q0 := 0) ⟨hx, hb, hml, hown, hts⟩ (c_Opener_endsWell (l := l) (dC := dC) (dI := dI) (cB := cB) (cI := cI) (h0 := h0) (a1 := j6_27) (a2 := (irem j5_26 (16 : Int32))) (a3 := j2_24) (h0_to := h0_to) (w_h0_input := (.ref h0_input)) (w_h0_words := (.ref h0_words)) (w_h0_settings := (w_h0_settings)) (w_h0_blocks := (w_h0_blocks)) (w_h0_broken := (.int g20)) (w_h0_brokenAt := (.int g21)) (w_h0_at := (.int g22)) (w_h0_end := (.int h0_end)) (w_h0_begin := (.int u1)) (w_h0_copies := (.int g17)) (w_h0_literals := (.int g18)) (w_h0_parts := (.int g19)) (w_h0_frameBegin := (w_h0_frameBegin)) (w_h0_flags := (w_h0_flags)) (w_h0_width := (w_h0_width)) (w_h0_size := (w_h0_size)) (w_h0_to_held := (.ref h0_to_held)) (h0_to_count := g23)  (o_r := r28) hc) (wV kw_881 kw_883 kw_28 kw_92 kw_884) (by decide +kernel) ⟨Nat.le_of_ble_eq_true rfl, Nat.le_of_ble_eq_true rfl⟩ hK hP hD hN hT hS (va_free (wc := [(h0, .inr (5, [.ref h0_input, .ref h0_words, w_h0_settings, .ref h0_to, w_h0_blocks, .int g20, .int g21, .int g22, .int h0_end, .int u1, .int g17, .int g18, .int g19, w_h0_frameBegin, w_h0_flags, w_h0_width, w_h0_size])), (h0_to, .inr (2, [.ref h0_to_held, .int g23]))]) hD hS hA [0, 1] rfl) [0, 1] rfl (by decide) rfl rfl rfl hl.1 rfl (lv_room (Nat.le_of_ble_eq_true rfl)) dX6_openSequences_176 ⟨Nat.le_of_ble_eq_true rfl, Nat.le_of_ble_eq_true rfl⟩) hP hD hS hA (wr := [(h0_input, .inr (2, [.ref h0_input_held, .int h0_input_count])), (h0_input_held, .inl (cB, h0_input_held_n, .inl h0_input_held_f)), (h0_to_held, .inl (cB, h0_to_held_n, .inl f16)), (h0_words, .inr (2, [.ref h0_words_held, .int h0_words_count])), (h0_words_held, .inl (cB, h0_words_held_n, .inl h0_words_held_f))]) (w1 := [(h0, .inr (5, [.ref h0_input, .ref h0_words, w_h0_settings, .ref h0_to, w_h0_blocks, .int g20, .int g21, .int g22, .int h0_end, .int u1, .int g17, .int g18, .int g19, w_h0_frameBegin, w_h0_flags, w_h0_width, w_h0_size])), (h0_to, .inr (2, [.ref h0_to_held, .int g23]))]) (ws' := [(h0, .inr (5, [.ref h0_input, .ref h0_words, w_h0_settings, .ref h0_to, w_h0_blocks, .int g20, .int g21, .int g22, .int h0_end, .int u1, .int g17, .int g18, .int g19, w_h0_frameBegin, w_h0_flags, w_h0_width, w_h0_size])), (h0_to, .inr (2, [.ref h0_to_held, .int g23])), (h0_input, .inr (2, [.ref h0_input_held, .int h0_input_count])), (h0_input_held, .inl (cB, h0_input_held_n, .inl h0_input_held_f)), (h0_to_held, .inl (cB, h0_to_held_n, .inl f16)), (h0_words, .inr (2, [.ref h0_words_held, .int h0_words_count])), (h0_words_held, .inl (cB, h0_words_held_n, .inl h0_words_held_f))]) [0, 1] [2, 3, 4, 5, 6] [5, 6, 0, 1, 2, 3, 4] rfl rfl (by decide) (by decide) rfl (by decide) (fun H locs hP hD hS => ?_)
    refine lv_if_ne (tgt := 192) hx hb dX6_openSequences_179 (by decide) (fun c_179 => ?_) (fun c_179 => ?_)
    · replace hf := if_f c_179 hf
      refine lv_iconst (v := 1) hx hb dX6_openSequences_192 (by decide) ?_
      refine lv_goto (tgt := 197) hx hb dX6_openSequences_193 (by decide) ?_
      have hzb : narrow .boolean (.int (1 : Int32)) = .int (1 : Int32) := rfl
      obtain ⟨rfl, hq_1⟩ := Prod.mk.inj (Option.some.inj hf)
      obtain ⟨rfl, hq_2⟩ := Prod.mk.inj hq_1
      obtain ⟨rfl, hq_3⟩ := Prod.mk.inj hq_2
      obtain ⟨rfl, hq_4⟩ := Prod.mk.inj hq_3
      obtain ⟨rfl, hq_5⟩ := Prod.mk.inj hq_4
      obtain ⟨rfl, hq_6⟩ := Prod.mk.inj hq_5
      obtain ⟨rfl, hq_7⟩ := Prod.mk.inj hq_6
      obtain ⟨rfl, hq_8⟩ := Prod.mk.inj hq_7
      obtain ⟨rfl, hq_9⟩ := Prod.mk.inj hq_8
      obtain rfl := hq_9
      exact rt_z hQ hx hb hr hzb hlocks hP hD hS dX6_openSequences_197
    · replace hf := if_t c_179 hf
      refine lv_aload_n hx hb dX6_openSequences_182 rfl (lv_at hl 0 rfl) ?_
      refine lv_iconst (v := 3) hx hb dX6_openSequences_183 (by decide) ?_
      refine lv_iload hx hb dX6_openSequences_184 (lv_at hl 2 rfl) ?_
      obtain ⟨x, hc, hf⟩ := bind_some hf
      obtain ⟨r29, u30, u31⟩ := x
      dsimp only at hf
      refine nx_i (rn_V (As := [.int (3 : Int32), .int j4_25]) (rest := []) (n := 2) (ci := 5) (q0 := 0) ⟨hx, hb, hml, hown, hts⟩ (c_Opener_breaks (l := l) (dC := dC) (dI := dI) (cB := cB) (cI := cI) (h0 := h0) (a1 := (3 : Int32)) (a2 := j4_25) (w_h0_input := (.ref h0_input)) (w_h0_words := (.ref h0_words)) (w_h0_settings := (w_h0_settings)) (w_h0_to := (.ref h0_to)) (w_h0_blocks := (w_h0_blocks)) (h0_broken := g20) (h0_brokenAt := g21) (w_h0_at := (.int g22)) (w_h0_end := (.int h0_end)) (w_h0_begin := (.int u1)) (w_h0_copies := (.int g17)) (w_h0_literals := (.int g18)) (w_h0_parts := (.int g19)) (w_h0_frameBegin := (w_h0_frameBegin)) (w_h0_flags := (w_h0_flags)) (w_h0_width := (w_h0_width)) (w_h0_size := (w_h0_size)) (o_h0_broken := u30) (o_h0_brokenAt := u31) (o_r := r29) hc) (wV kw_871 kw_873 kw_26 kw_92 kw_874) (by decide +kernel) ⟨Nat.le_of_ble_eq_true rfl, Nat.le_of_ble_eq_true rfl⟩ hK hP hD hN hT hS (va_free (wc := [(h0, .inr (5, [.ref h0_input, .ref h0_words, w_h0_settings, .ref h0_to, w_h0_blocks, .int g20, .int g21, .int g22, .int h0_end, .int u1, .int g17, .int g18, .int g19, w_h0_frameBegin, w_h0_flags, w_h0_width, w_h0_size]))]) hD hS hA [0] rfl) [0] rfl (by decide) rfl rfl rfl hl.1 rfl (lv_room (Nat.le_of_ble_eq_true rfl)) dX6_openSequences_186 ⟨Nat.le_of_ble_eq_true rfl, Nat.le_of_ble_eq_true rfl⟩) hP hD hS hA (wr := [(h0_to, .inr (2, [.ref h0_to_held, .int g23])), (h0_input, .inr (2, [.ref h0_input_held, .int h0_input_count])), (h0_input_held, .inl (cB, h0_input_held_n, .inl h0_input_held_f)), (h0_to_held, .inl (cB, h0_to_held_n, .inl f16)), (h0_words, .inr (2, [.ref h0_words_held, .int h0_words_count])), (h0_words_held, .inl (cB, h0_words_held_n, .inl h0_words_held_f))]) (w1 := [(h0, .inr (5, [.ref h0_input, .ref h0_words, w_h0_settings, .ref h0_to, w_h0_blocks, .int u30, .int u31, .int g22, .int h0_end, .int u1, .int g17, .int g18, .int g19, w_h0_frameBegin, w_h0_flags, w_h0_width, w_h0_size]))]) (ws' := [(h0, .inr (5, [.ref h0_input, .ref h0_words, w_h0_settings, .ref h0_to, w_h0_blocks, .int u30, .int u31, .int g22, .int h0_end, .int u1, .int g17, .int g18, .int g19, w_h0_frameBegin, w_h0_flags, w_h0_width, w_h0_size])), (h0_to, .inr (2, [.ref h0_to_held, .int g23])), (h0_input, .inr (2, [.ref h0_input_held, .int h0_input_count])), (h0_input_held, .inl (cB, h0_input_held_n, .inl h0_input_held_f)), (h0_to_held, .inl (cB, h0_to_held_n, .inl f16)), (h0_words, .inr (2, [.ref h0_words_held, .int h0_words_count])), (h0_words_held, .inl (cB, h0_words_held_n, .inl h0_words_held_f))]) [0] [1, 2, 3, 4, 5, 6] [6, 0, 1, 2, 3, 4, 5] rfl rfl (by decide) (by decide) rfl (by decide) (fun H locs hP hD hS => ?_)
      refine lv_if_eq (tgt := 196) hx hb dX6_openSequences_189 (by decide) (fun c_189 => ?_) (fun c_189 => ?_)
      · replace hf := if_t c_189 hf
        refine lv_iconst (v := 0) hx hb dX6_openSequences_196 (by decide) ?_
        have hzb : narrow .boolean (.int (0 : Int32)) = .int (0 : Int32) := rfl
        obtain ⟨rfl, hq_1⟩ := Prod.mk.inj (Option.some.inj hf)
        obtain ⟨rfl, hq_2⟩ := Prod.mk.inj hq_1
        obtain ⟨rfl, hq_3⟩ := Prod.mk.inj hq_2
        obtain ⟨rfl, hq_4⟩ := Prod.mk.inj hq_3
        obtain ⟨rfl, hq_5⟩ := Prod.mk.inj hq_4
        obtain ⟨rfl, hq_6⟩ := Prod.mk.inj hq_5
        obtain ⟨rfl, hq_7⟩ := Prod.mk.inj hq_6
        obtain ⟨rfl, hq_8⟩ := Prod.mk.inj hq_7
        obtain ⟨rfl, hq_9⟩ := Prod.mk.inj hq_8
        obtain rfl := hq_9
        exact rt_z hQ hx hb hr hzb hlocks hP hD hS dX6_openSequences_197
      · replace hf := if_f c_189 hf
        refine lv_iconst (v := 1) hx hb dX6_openSequences_192 (by decide) ?_
        refine lv_goto (tgt := 197) hx hb dX6_openSequences_193 (by decide) ?_
        have hzb : narrow .boolean (.int (1 : Int32)) = .int (1 : Int32) := rfl
        obtain ⟨rfl, hq_1⟩ := Prod.mk.inj (Option.some.inj hf)
        obtain ⟨rfl, hq_2⟩ := Prod.mk.inj hq_1
        obtain ⟨rfl, hq_3⟩ := Prod.mk.inj hq_2
        obtain ⟨rfl, hq_4⟩ := Prod.mk.inj hq_3
        obtain ⟨rfl, hq_5⟩ := Prod.mk.inj hq_4
        obtain ⟨rfl, hq_6⟩ := Prod.mk.inj hq_5
        obtain ⟨rfl, hq_7⟩ := Prod.mk.inj hq_6
        obtain ⟨rfl, hq_8⟩ := Prod.mk.inj hq_7
        obtain ⟨rfl, hq_9⟩ := Prod.mk.inj hq_8
        obtain rfl := hq_9
        exact rt_z hQ hx hb hr hzb hlocks hP hD hS dX6_openSequences_197
  have hJ_229 : ∀ (f32 : Nat → Int32) (g33 : Int32) (g34 : Int32) (g35 : Int32) (g36 : Int32) (g37 : Int32) (g38 : Int32) (g39 : Int32) (H : Heap) (locs : List Loc) (ls : Array Slot), m_Opener_openSequences_E229 h0_end u1 f32 g33 g34 g35 g36 g37 g38 g39 = some (o_r, o_h0_broken, o_h0_brokenAt, o_h0_at, o_h0_begin, o_h0_copies, o_h0_literals, o_h0_parts, o_h0_to_count, o_h0_to_held_f) → va_P (dC, dI) vwCl [(h0, .inr (5, [.ref h0_input, .ref h0_words, w_h0_settings, .ref h0_to, w_h0_blocks, .int g36, .int g37, .int g38, .int h0_end, .int u1, .int g33, .int g34, .int g35, w_h0_frameBegin, w_h0_flags, w_h0_width, w_h0_size])), (h0_to, .inr (2, [.ref h0_to_held, .int g39])), (h0_input, .inr (2, [.ref h0_input_held, .int h0_input_count])), (h0_input_held, .inl (cB, h0_input_held_n, .inl h0_input_held_f)), (h0_to_held, .inl (cB, h0_to_held_n, .inl f32)), (h0_words, .inr (2, [.ref h0_words_held, .int h0_words_count])), (h0_words_held, .inl (cB, h0_words_held_n, .inl h0_words_held_f))] H → va_D A [(h0, .inr (5, [.ref h0_input, .ref h0_words, w_h0_settings, .ref h0_to, w_h0_blocks, .int g36, .int g37, .int g38, .int h0_end, .int u1, .int g33, .int g34, .int g35, w_h0_frameBegin, w_h0_flags, w_h0_width, w_h0_size])), (h0_to, .inr (2, [.ref h0_to_held, .int g39])), (h0_input, .inr (2, [.ref h0_input_held, .int h0_input_count])), (h0_input_held, .inl (cB, h0_input_held_n, .inl h0_input_held_f)), (h0_to_held, .inl (cB, h0_to_held_n, .inl f32)), (h0_words, .inr (2, [.ref h0_words_held, .int h0_words_count])), (h0_words_held, .inl (cB, h0_words_held_n, .inl h0_words_held_f))] → va_S A s.heap H locs → lv_has ls 7 [(0, .ref h0)] → W p l e (rm_Opener_openSequences) s m ([.ref h0, .int a1] : List Value).toArray below meth c H locs 0 0 Q (F0 m 229 ls []) := by
    intro f32 g33 g34 g35 g36 g37 g38 g39 H locs ls hf hP hD hS hl
    unfold m_Opener_openSequences_E229 at hf
    refine lv_aload_n hx hb dX6_openSequences_229 rfl (lv_at hl 0 rfl) ?_
    refine lv_iconst (v := 1) hx hb dX6_openSequences_230 (by decide) ?_
    refine lv_aload_n hx hb dX6_openSequences_231 rfl (lv_at hl 0 rfl) ?_
    refine va_get (D := (dC, dI)) (ci := 5) (v := .int h0_end) (C := RX6) (T := TX6) (N := 17) hx hb hts inG_X6 hown hK hP 0 rfl rfl 8 (by decide) (hts _ kw_297) (fun _ h9 => h9) rfl dX6_openSequences_232 ?_
    obtain ⟨x, hc, hf⟩ := bind_some hf
    obtain ⟨r40, u41, u42⟩ := x
    dsimp only at hf
    refine nx_i (rn_V (As := [.int (1 : Int32), .int h0_end]) (rest := []) (n := 2) (ci := 5) (q0 := 0) ⟨hx, hb, hml, hown, hts⟩ (c_Opener_breaks (l := l) (dC := dC) (dI := dI) (cB := cB) (cI := cI) (h0 := h0) (a1 := (1 : Int32)) (a2 := h0_end) (w_h0_input := (.ref h0_input)) (w_h0_words := (.ref h0_words)) (w_h0_settings := (w_h0_settings)) (w_h0_to := (.ref h0_to)) (w_h0_blocks := (w_h0_blocks)) (h0_broken := g36) (h0_brokenAt := g37) (w_h0_at := (.int g38)) (w_h0_end := (.int h0_end)) (w_h0_begin := (.int u1)) (w_h0_copies := (.int g33)) (w_h0_literals := (.int g34)) (w_h0_parts := (.int g35)) (w_h0_frameBegin := (w_h0_frameBegin)) (w_h0_flags := (w_h0_flags)) (w_h0_width := (w_h0_width)) (w_h0_size := (w_h0_size)) (o_h0_broken := u41) (o_h0_brokenAt := u42) (o_r := r40) hc) (wV kw_871 kw_873 kw_26 kw_92 kw_874) (by decide +kernel) ⟨Nat.le_of_ble_eq_true rfl, Nat.le_of_ble_eq_true rfl⟩ hK hP hD hN hT hS (va_free (wc := [(h0, .inr (5, [.ref h0_input, .ref h0_words, w_h0_settings, .ref h0_to, w_h0_blocks, .int g36, .int g37, .int g38, .int h0_end, .int u1, .int g33, .int g34, .int g35, w_h0_frameBegin, w_h0_flags, w_h0_width, w_h0_size]))]) hD hS hA [0] rfl) [0] rfl (by decide) rfl rfl rfl hl.1 rfl (lv_room (Nat.le_of_ble_eq_true rfl)) dX6_openSequences_235 ⟨Nat.le_of_ble_eq_true rfl, Nat.le_of_ble_eq_true rfl⟩) hP hD hS hA (wr := [(h0_to, .inr (2, [.ref h0_to_held, .int g39])), (h0_input, .inr (2, [.ref h0_input_held, .int h0_input_count])), (h0_input_held, .inl (cB, h0_input_held_n, .inl h0_input_held_f)), (h0_to_held, .inl (cB, h0_to_held_n, .inl f32)), (h0_words, .inr (2, [.ref h0_words_held, .int h0_words_count])), (h0_words_held, .inl (cB, h0_words_held_n, .inl h0_words_held_f))]) (w1 := [(h0, .inr (5, [.ref h0_input, .ref h0_words, w_h0_settings, .ref h0_to, w_h0_blocks, .int u41, .int u42, .int g38, .int h0_end, .int u1, .int g33, .int g34, .int g35, w_h0_frameBegin, w_h0_flags, w_h0_width, w_h0_size]))]) (ws' := [(h0, .inr (5, [.ref h0_input, .ref h0_words, w_h0_settings, .ref h0_to, w_h0_blocks, .int u41, .int u42, .int g38, .int h0_end, .int u1, .int g33, .int g34, .int g35, w_h0_frameBegin, w_h0_flags, w_h0_width, w_h0_size])), (h0_to, .inr (2, [.ref h0_to_held, .int g39])), (h0_input, .inr (2, [.ref h0_input_held, .int h0_input_count])), (h0_input_held, .inl (cB, h0_input_held_n, .inl h0_input_held_f)), (h0_to_held, .inl (cB, h0_to_held_n, .inl f32)), (h0_words, .inr (2, [.ref h0_words_held, .int h0_words_count])), (h0_words_held, .inl (cB, h0_words_held_n, .inl h0_words_held_f))]) [0] [1, 2, 3, 4, 5, 6] [6, 0, 1, 2, 3, 4, 5] rfl rfl (by decide) (by decide) rfl (by decide) (fun H locs hP hD hS => ?_)
    obtain ⟨hzb, hf⟩ := bch_some hf
    obtain ⟨rfl, hq_1⟩ := Prod.mk.inj (Option.some.inj hf)
    obtain ⟨rfl, hq_2⟩ := Prod.mk.inj hq_1
    obtain ⟨rfl, hq_3⟩ := Prod.mk.inj hq_2
    obtain ⟨rfl, hq_4⟩ := Prod.mk.inj hq_3
    obtain ⟨rfl, hq_5⟩ := Prod.mk.inj hq_4
    obtain ⟨rfl, hq_6⟩ := Prod.mk.inj hq_5
    obtain ⟨rfl, hq_7⟩ := Prod.mk.inj hq_6
    obtain ⟨rfl, hq_8⟩ := Prod.mk.inj hq_7
    obtain ⟨rfl, hq_9⟩ := Prod.mk.inj hq_8
    obtain rfl := hq_9
    exact rt_z hQ hx hb hr hzb hlocks hP hD hS dX6_openSequences_238
  obtain ⟨o_8, hi_8, hk_8⟩ := bind_some hf
  have hL_8 : ∀ (n : Nat) (f43 : Nat → Int32) (g44 : Int32) (g45 : Int32) (g46 : Int32) (g47 : Int32) (g48 : Int32) (g49 : Int32) (g50 : Int32) (j2_51 : Int32) (j3_52 : Int32) (H : Heap) (locs : List Loc) (ls : Array Slot), iter (fun st => m_Opener_openSequences_B8 a1 h0_end h0_input_count h0_input_held_n h0_input_held_f h0_to_held_n h0_words_count h0_words_held_n h0_words_held_f u1 st.1 st.2.1 st.2.2.1 st.2.2.2.1 st.2.2.2.2.1 st.2.2.2.2.2.1 st.2.2.2.2.2.2.1 st.2.2.2.2.2.2.2.1 st.2.2.2.2.2.2.2.2.1 st.2.2.2.2.2.2.2.2.2) n (f43, g44, g45, g46, g47, g48, g49, g50, j2_51, j3_52) = some o_8 → va_P (dC, dI) vwCl [(h0, .inr (5, [.ref h0_input, .ref h0_words, w_h0_settings, .ref h0_to, w_h0_blocks, .int g47, .int g48, .int g49, .int h0_end, .int u1, .int g44, .int g45, .int g46, w_h0_frameBegin, w_h0_flags, w_h0_width, w_h0_size])), (h0_to, .inr (2, [.ref h0_to_held, .int g50])), (h0_input, .inr (2, [.ref h0_input_held, .int h0_input_count])), (h0_input_held, .inl (cB, h0_input_held_n, .inl h0_input_held_f)), (h0_to_held, .inl (cB, h0_to_held_n, .inl f43)), (h0_words, .inr (2, [.ref h0_words_held, .int h0_words_count])), (h0_words_held, .inl (cB, h0_words_held_n, .inl h0_words_held_f))] H → va_D A [(h0, .inr (5, [.ref h0_input, .ref h0_words, w_h0_settings, .ref h0_to, w_h0_blocks, .int g47, .int g48, .int g49, .int h0_end, .int u1, .int g44, .int g45, .int g46, w_h0_frameBegin, w_h0_flags, w_h0_width, w_h0_size])), (h0_to, .inr (2, [.ref h0_to_held, .int g50])), (h0_input, .inr (2, [.ref h0_input_held, .int h0_input_count])), (h0_input_held, .inl (cB, h0_input_held_n, .inl h0_input_held_f)), (h0_to_held, .inl (cB, h0_to_held_n, .inl f43)), (h0_words, .inr (2, [.ref h0_words_held, .int h0_words_count])), (h0_words_held, .inl (cB, h0_words_held_n, .inl h0_words_held_f))] → va_S A s.heap H locs → lv_has ls 7 [(0, .ref h0), (1, .int a1), (2, .int j2_51), (3, .int j3_52)] → W p l e (rm_Opener_openSequences) s m ([.ref h0, .int a1] : List Value).toArray below meth c H locs 0 0 Q (F0 m 8 ls []) := by
    intro n
    induction n with
    | zero => intro f43 g44 g45 g46 g47 g48 g49 g50 j2_51 j3_52 H locs ls hf; exact absurd hf (fun z => by cases z)
    | succ n ih_8 =>
      intro f43 g44 g45 g46 g47 g48 g49 g50 j2_51 j3_52 H locs ls hf hP hD hS hl
      obtain ⟨r_8, hf, hr_8⟩ := iter_succ hf
      have hf : m_Opener_openSequences_B8 a1 h0_end h0_input_count h0_input_held_n h0_input_held_f h0_to_held_n h0_words_count h0_words_held_n h0_words_held_f u1 f43 g44 g45 g46 g47 g48 g49 g50 j2_51 j3_52 = some r_8 := hf
      unfold m_Opener_openSequences_B8 at hf
      refine lv_iload_n hx hb dX6_openSequences_8 rfl (lv_at hl 3 rfl) ?_
      refine lv_sipush (v := 4000) hx hb dX6_openSequences_9 (by decide) ?_
      refine lv_icmp_ge (tgt := 229) hx hb dX6_openSequences_12 (by decide) (fun c_12 => ?_) (fun c_12 => ?_)
      · replace hf := if_t c_12 hf
        have hf : m_Opener_openSequences_E229 h0_end u1 f43 g44 g45 g46 g47 g48 g49 g50 = some (o_r, o_h0_broken, o_h0_brokenAt, o_h0_at, o_h0_begin, o_h0_copies, o_h0_literals, o_h0_parts, o_h0_to_count, o_h0_to_held_f) := by have hq := hk_8; rw [iter_exit hf hr_8] at hq; exact hq
        exact hJ_229 f43 g44 g45 g46 g47 g48 g49 g50 _ _ _ hf hP hD hS (lv_sub hl [0] rfl)
      · replace hf := if_f c_12 hf
        refine lv_aload_n hx hb dX6_openSequences_15 rfl (lv_at hl 0 rfl) ?_
        refine va_get (D := (dC, dI)) (ci := 5) (v := .int g49) (C := RX6) (T := TX6) (N := 17) hx hb hts inG_X6 hown hK hP 0 rfl rfl 7 (by decide) (hts _ kw_296) (fun _ h9 => h9) rfl dX6_openSequences_16 ?_
        refine lv_aload_n hx hb dX6_openSequences_19 rfl (lv_at hl 0 rfl) ?_
        refine va_get (D := (dC, dI)) (ci := 5) (v := .int h0_end) (C := RX6) (T := TX6) (N := 17) hx hb hts inG_X6 hown hK hP 0 rfl rfl 8 (by decide) (hts _ kw_297) (fun _ h9 => h9) rfl dX6_openSequences_20 ?_
        refine lv_icmp_ge (tgt := 229) hx hb dX6_openSequences_23 (by decide) (fun c_23 => ?_) (fun c_23 => ?_)
        · replace hf := if_t c_23 hf
          have hf : m_Opener_openSequences_E229 h0_end u1 f43 g44 g45 g46 g47 g48 g49 g50 = some (o_r, o_h0_broken, o_h0_brokenAt, o_h0_at, o_h0_begin, o_h0_copies, o_h0_literals, o_h0_parts, o_h0_to_count, o_h0_to_held_f) := by have hq := hk_8; rw [iter_exit hf hr_8] at hq; exact hq
          exact hJ_229 f43 g44 g45 g46 g47 g48 g49 g50 _ _ _ hf hP hD hS (lv_sub hl [0] rfl)
        · replace hf := if_f c_23 hf
          refine lv_aload_n hx hb dX6_openSequences_26 rfl (lv_at hl 0 rfl) ?_
          refine va_get (D := (dC, dI)) (ci := 5) (v := .int g49) (C := RX6) (T := TX6) (N := 17) hx hb hts inG_X6 hown hK hP 0 rfl rfl 7 (by decide) (hts _ kw_296) (fun _ h9 => h9) rfl dX6_openSequences_27 ?_
          refine lv_istore (lv' := [(4, .int g49), (0, .ref h0), (1, .int a1), (2, .int j2_51), (3, .int j3_52)]) hx hb dX6_openSequences_30 hl (by decide) rfl (fun ls hl => ?_)
          refine lv_aload_n hx hb dX6_openSequences_32 rfl (lv_at hl 1 rfl) ?_
          refine va_get (D := (dC, dI)) (ci := 5) (v := .ref h0_input) (C := RX6) (T := TX6) (N := 17) hx hb hts inG_X6 hown hK hP 0 rfl rfl 0 (by decide) (hts _ kw_289) (fun _ h9 => h9) rfl dX6_openSequences_33 ?_
          refine lv_iload hx hb dX6_openSequences_36 (lv_at hl 0 rfl) ?_
          obtain ⟨r53, hc, hf⟩ := bind_some hf
          refine nx_i (rn_V (As := [.int g49]) (rest := []) (n := 1) (ci := 2) (q0 := 0) ⟨hx, hb, hml, hown, hts⟩ (c_Bytes_at (l := l) (dC := dC) (dI := dI) (cB := cB) (cI := cI) (h0 := h0_input) (a1 := g49) (h0_held := h0_input_held) (h0_count := h0_input_count) (h0_held_n := h0_input_held_n) (h0_held_f := h0_input_held_f)  (o_r := r53) hc) (wV kw_862 kw_418 kw_419 kw_83 kw_420) (by decide +kernel) ⟨Nat.le_of_ble_eq_true rfl, Nat.le_of_ble_eq_true rfl⟩ hK hP hD hN hT hS (va_free (wc := [(h0_input, .inr (2, [.ref h0_input_held, .int h0_input_count])), (h0_input_held, .inl (cB, h0_input_held_n, .inl h0_input_held_f))]) hD hS hA [2, 3] rfl) [2, 3] rfl (by decide) rfl rfl rfl hl.1 rfl (lv_room (Nat.le_of_ble_eq_true rfl)) dX6_openSequences_38 ⟨Nat.le_of_ble_eq_true rfl, Nat.le_of_ble_eq_true rfl⟩) hP hD hS hA (wr := [(h0, .inr (5, [.ref h0_input, .ref h0_words, w_h0_settings, .ref h0_to, w_h0_blocks, .int g47, .int g48, .int g49, .int h0_end, .int u1, .int g44, .int g45, .int g46, w_h0_frameBegin, w_h0_flags, w_h0_width, w_h0_size])), (h0_to, .inr (2, [.ref h0_to_held, .int g50])), (h0_to_held, .inl (cB, h0_to_held_n, .inl f43)), (h0_words, .inr (2, [.ref h0_words_held, .int h0_words_count])), (h0_words_held, .inl (cB, h0_words_held_n, .inl h0_words_held_f))]) (w1 := [(h0_input, .inr (2, [.ref h0_input_held, .int h0_input_count])), (h0_input_held, .inl (cB, h0_input_held_n, .inl h0_input_held_f))]) (ws' := [(h0, .inr (5, [.ref h0_input, .ref h0_words, w_h0_settings, .ref h0_to, w_h0_blocks, .int g47, .int g48, .int g49, .int h0_end, .int u1, .int g44, .int g45, .int g46, w_h0_frameBegin, w_h0_flags, w_h0_width, w_h0_size])), (h0_to, .inr (2, [.ref h0_to_held, .int g50])), (h0_input, .inr (2, [.ref h0_input_held, .int h0_input_count])), (h0_input_held, .inl (cB, h0_input_held_n, .inl h0_input_held_f)), (h0_to_held, .inl (cB, h0_to_held_n, .inl f43)), (h0_words, .inr (2, [.ref h0_words_held, .int h0_words_count])), (h0_words_held, .inl (cB, h0_words_held_n, .inl h0_words_held_f))]) [2, 3] [0, 1, 4, 5, 6] [0, 1, 5, 6, 2, 3, 4] rfl rfl (by decide) (by decide) rfl (by decide) (fun H locs hP hD hS => ?_)
          refine lv_istore (lv' := [(5, .int r53), (4, .int g49), (0, .ref h0), (1, .int a1), (2, .int j2_51), (3, .int j3_52)]) hx hb dX6_openSequences_41 hl (by decide) rfl (fun ls hl => ?_)
          refine lv_aload_n hx hb dX6_openSequences_43 rfl (lv_at hl 2 rfl) ?_
          refine lv_dup hx hb dX6_openSequences_44 rfl ?_
          refine va_get (D := (dC, dI)) (ci := 5) (v := .int g49) (C := RX6) (T := TX6) (N := 17) hx hb hts inG_X6 hown hK hP 0 rfl rfl 7 (by decide) (hts _ kw_296) (fun _ h9 => h9) rfl dX6_openSequences_45 ?_
          refine lv_iconst (v := 1) hx hb dX6_openSequences_48 (by decide) ?_
          refine lv_iadd hx hb dX6_openSequences_49 ?_
          refine lv_topi (fun p_54 e_p_54 => ?_)
          replace hf := bnd_at e_p_54 hf
          refine va_put (D := (dC, dI)) (ci := 5) (v := .int p_54) (ty := .int) (C := RX6) (T := TX6) (N := 17) hx hb hts inG_X6 tyX6 tyX6_ok nmX6 hown hK hP hD hS 0 rfl rfl 7 (by decide) (hts _ kw_296) (fun _ h9 => h9) rfl (by decide +kernel) rfl rfl (Nat.le_of_ble_eq_true rfl) dX6_openSequences_50 (fun H locs hP hD hS => ?_)
          have hP : va_P (dC, dI) vwCl [(h0, .inr (5, [.ref h0_input, .ref h0_words, w_h0_settings, .ref h0_to, w_h0_blocks, .int g47, .int g48, .int p_54, .int h0_end, .int u1, .int g44, .int g45, .int g46, w_h0_frameBegin, w_h0_flags, w_h0_width, w_h0_size])), (h0_to, .inr (2, [.ref h0_to_held, .int g50])), (h0_input, .inr (2, [.ref h0_input_held, .int h0_input_count])), (h0_input_held, .inl (cB, h0_input_held_n, .inl h0_input_held_f)), (h0_to_held, .inl (cB, h0_to_held_n, .inl f43)), (h0_words, .inr (2, [.ref h0_words_held, .int h0_words_count])), (h0_words_held, .inl (cB, h0_words_held_n, .inl h0_words_held_f))] H := hP
          have hD : va_D A [(h0, .inr (5, [.ref h0_input, .ref h0_words, w_h0_settings, .ref h0_to, w_h0_blocks, .int g47, .int g48, .int p_54, .int h0_end, .int u1, .int g44, .int g45, .int g46, w_h0_frameBegin, w_h0_flags, w_h0_width, w_h0_size])), (h0_to, .inr (2, [.ref h0_to_held, .int g50])), (h0_input, .inr (2, [.ref h0_input_held, .int h0_input_count])), (h0_input_held, .inl (cB, h0_input_held_n, .inl h0_input_held_f)), (h0_to_held, .inl (cB, h0_to_held_n, .inl f43)), (h0_words, .inr (2, [.ref h0_words_held, .int h0_words_count])), (h0_words_held, .inl (cB, h0_words_held_n, .inl h0_words_held_f))] := hD
          refine lv_aload_n hx hb dX6_openSequences_53 rfl (lv_at hl 2 rfl) ?_
          refine lv_iload hx hb dX6_openSequences_54 (lv_at hl 0 rfl) ?_
          refine lv_bipush (v := 16) hx hb dX6_openSequences_56 (by decide) ?_
          refine lv_idiv hx hb dX6_openSequences_58 (by decide) ?_
          obtain ⟨x, hc, hf⟩ := bind_some hf
          obtain ⟨r55, u56⟩ := x
          dsimp only at hf
          refine nx_i (rn_V (As := [.int (r53 / (16 : Int32))]) (rest := []) (n := 1) (ci := 5) (q0 := 0) ⟨hx, hb, hml, hown, hts⟩ (c_Opener_withAdded (l := l) (dC := dC) (dI := dI) (cB := cB) (cI := cI) (h0 := h0) (a1 := (r53 / (16 : Int32))) (h0_input := h0_input) (h0_input_held := h0_input_held) (w_h0_words := (.ref h0_words)) (w_h0_settings := (w_h0_settings)) (w_h0_to := (.ref h0_to)) (w_h0_blocks := (w_h0_blocks)) (w_h0_broken := (.int g47)) (w_h0_brokenAt := (.int g48)) (h0_at := p_54) (h0_end := h0_end) (w_h0_begin := (.int u1)) (w_h0_copies := (.int g44)) (w_h0_literals := (.int g45)) (w_h0_parts := (.int g46)) (w_h0_frameBegin := (w_h0_frameBegin)) (w_h0_flags := (w_h0_flags)) (w_h0_width := (w_h0_width)) (w_h0_size := (w_h0_size)) (h0_input_count := h0_input_count) (h0_input_held_n := h0_input_held_n) (h0_input_held_f := h0_input_held_f) (o_h0_at := u56) (o_r := r55) hc) (wV kw_863 kw_865 kw_24 kw_92 kw_866) (by decide +kernel) ⟨Nat.le_of_ble_eq_true rfl, Nat.le_of_ble_eq_true rfl⟩ hK hP hD hN hT hS (va_free (wc := [(h0, .inr (5, [.ref h0_input, .ref h0_words, w_h0_settings, .ref h0_to, w_h0_blocks, .int g47, .int g48, .int p_54, .int h0_end, .int u1, .int g44, .int g45, .int g46, w_h0_frameBegin, w_h0_flags, w_h0_width, w_h0_size])), (h0_input, .inr (2, [.ref h0_input_held, .int h0_input_count])), (h0_input_held, .inl (cB, h0_input_held_n, .inl h0_input_held_f))]) hD hS hA [0, 2, 3] rfl) [0, 2, 3] rfl (by decide) rfl rfl rfl hl.1 rfl (lv_room (Nat.le_of_ble_eq_true rfl)) dX6_openSequences_59 ⟨Nat.le_of_ble_eq_true rfl, Nat.le_of_ble_eq_true rfl⟩) hP hD hS hA (wr := [(h0_to, .inr (2, [.ref h0_to_held, .int g50])), (h0_to_held, .inl (cB, h0_to_held_n, .inl f43)), (h0_words, .inr (2, [.ref h0_words_held, .int h0_words_count])), (h0_words_held, .inl (cB, h0_words_held_n, .inl h0_words_held_f))]) (w1 := [(h0, .inr (5, [.ref h0_input, .ref h0_words, w_h0_settings, .ref h0_to, w_h0_blocks, .int g47, .int g48, .int u56, .int h0_end, .int u1, .int g44, .int g45, .int g46, w_h0_frameBegin, w_h0_flags, w_h0_width, w_h0_size])), (h0_input, .inr (2, [.ref h0_input_held, .int h0_input_count])), (h0_input_held, .inl (cB, h0_input_held_n, .inl h0_input_held_f))]) (ws' := [(h0, .inr (5, [.ref h0_input, .ref h0_words, w_h0_settings, .ref h0_to, w_h0_blocks, .int g47, .int g48, .int u56, .int h0_end, .int u1, .int g44, .int g45, .int g46, w_h0_frameBegin, w_h0_flags, w_h0_width, w_h0_size])), (h0_to, .inr (2, [.ref h0_to_held, .int g50])), (h0_input, .inr (2, [.ref h0_input_held, .int h0_input_count])), (h0_input_held, .inl (cB, h0_input_held_n, .inl h0_input_held_f)), (h0_to_held, .inl (cB, h0_to_held_n, .inl f43)), (h0_words, .inr (2, [.ref h0_words_held, .int h0_words_count])), (h0_words_held, .inl (cB, h0_words_held_n, .inl h0_words_held_f))]) [0, 2, 3] [1, 4, 5, 6] [4, 0, 5, 6, 1, 2, 3] rfl rfl (by decide) (by decide) rfl (by decide) (fun H locs hP hD hS => ?_)
          refine lv_istore (lv' := [(6, .int r55), (5, .int r53), (4, .int g49), (0, .ref h0), (1, .int a1), (2, .int j2_51), (3, .int j3_52)]) hx hb dX6_openSequences_62 hl (by decide) rfl (fun ls hl => ?_)
          refine lv_iload hx hb dX6_openSequences_64 (lv_at hl 0 rfl) ?_
          refine lv_if_lt (tgt := 78) hx hb dX6_openSequences_66 (by decide) (fun c_66 => ?_) (fun c_66 => ?_)
          · replace hf := if_t c_66 hf
            have hf : m_Opener_openSequences_E78 h0_end u1 f43 g44 g45 g46 g47 g48 u56 g50 = some (o_r, o_h0_broken, o_h0_brokenAt, o_h0_at, o_h0_begin, o_h0_copies, o_h0_literals, o_h0_parts, o_h0_to_count, o_h0_to_held_f) := by have hq := hk_8; rw [iter_exit hf hr_8] at hq; exact hq
            exact hJ_78 f43 g44 g45 g46 g47 g48 u56 g50 _ _ _ hf hP hD hS (lv_sub hl [3] rfl)
          · replace hf := if_f c_66 hf
            refine lv_aload_n hx hb dX6_openSequences_69 rfl (lv_at hl 3 rfl) ?_
            refine lv_iload hx hb dX6_openSequences_70 (lv_at hl 0 rfl) ?_
            obtain ⟨r57, hc, hf⟩ := bind_some hf
            refine nx_i (rn_V (As := [.int r55]) (rest := []) (n := 1) (ci := 5) (q0 := 0) ⟨hx, hb, hml, hown, hts⟩ (c_Opener_lacks (l := l) (dC := dC) (dI := dI) (cB := cB) (cI := cI) (h0 := h0) (a1 := r55) (w_h0_input := (.ref h0_input)) (w_h0_words := (.ref h0_words)) (w_h0_settings := (w_h0_settings)) (w_h0_to := (.ref h0_to)) (w_h0_blocks := (w_h0_blocks)) (w_h0_broken := (.int g47)) (w_h0_brokenAt := (.int g48)) (h0_at := u56) (h0_end := h0_end) (w_h0_begin := (.int u1)) (w_h0_copies := (.int g44)) (w_h0_literals := (.int g45)) (w_h0_parts := (.int g46)) (w_h0_frameBegin := (w_h0_frameBegin)) (w_h0_flags := (w_h0_flags)) (w_h0_width := (w_h0_width)) (w_h0_size := (w_h0_size))  (o_r := r57) hc) (wV kw_867 kw_869 kw_25 kw_92 kw_870) (by decide +kernel) ⟨Nat.le_of_ble_eq_true rfl, Nat.le_of_ble_eq_true rfl⟩ hK hP hD hN hT hS (va_free (wc := [(h0, .inr (5, [.ref h0_input, .ref h0_words, w_h0_settings, .ref h0_to, w_h0_blocks, .int g47, .int g48, .int u56, .int h0_end, .int u1, .int g44, .int g45, .int g46, w_h0_frameBegin, w_h0_flags, w_h0_width, w_h0_size]))]) hD hS hA [0] rfl) [0] rfl (by decide) rfl rfl rfl hl.1 rfl (lv_room (Nat.le_of_ble_eq_true rfl)) dX6_openSequences_72 ⟨Nat.le_of_ble_eq_true rfl, Nat.le_of_ble_eq_true rfl⟩) hP hD hS hA (wr := [(h0_to, .inr (2, [.ref h0_to_held, .int g50])), (h0_input, .inr (2, [.ref h0_input_held, .int h0_input_count])), (h0_input_held, .inl (cB, h0_input_held_n, .inl h0_input_held_f)), (h0_to_held, .inl (cB, h0_to_held_n, .inl f43)), (h0_words, .inr (2, [.ref h0_words_held, .int h0_words_count])), (h0_words_held, .inl (cB, h0_words_held_n, .inl h0_words_held_f))]) (w1 := [(h0, .inr (5, [.ref h0_input, .ref h0_words, w_h0_settings, .ref h0_to, w_h0_blocks, .int g47, .int g48, .int u56, .int h0_end, .int u1, .int g44, .int g45, .int g46, w_h0_frameBegin, w_h0_flags, w_h0_width, w_h0_size]))]) (ws' := [(h0, .inr (5, [.ref h0_input, .ref h0_words, w_h0_settings, .ref h0_to, w_h0_blocks, .int g47, .int g48, .int u56, .int h0_end, .int u1, .int g44, .int g45, .int g46, w_h0_frameBegin, w_h0_flags, w_h0_width, w_h0_size])), (h0_to, .inr (2, [.ref h0_to_held, .int g50])), (h0_input, .inr (2, [.ref h0_input_held, .int h0_input_count])), (h0_input_held, .inl (cB, h0_input_held_n, .inl h0_input_held_f)), (h0_to_held, .inl (cB, h0_to_held_n, .inl f43)), (h0_words, .inr (2, [.ref h0_words_held, .int h0_words_count])), (h0_words_held, .inl (cB, h0_words_held_n, .inl h0_words_held_f))]) [0] [1, 2, 3, 4, 5, 6] [6, 0, 1, 2, 3, 4, 5] rfl rfl (by decide) (by decide) rfl (by decide) (fun H locs hP hD hS => ?_)
            refine lv_if_eq (tgt := 88) hx hb dX6_openSequences_75 (by decide) (fun c_75 => ?_) (fun c_75 => ?_)
            · replace hf := if_t c_75 hf
              refine lv_aload_n hx hb dX6_openSequences_88 rfl (lv_at hl 3 rfl) ?_
              refine lv_iload hx hb dX6_openSequences_89 (lv_at hl 0 rfl) ?_
              refine lv_i2l (v := (r55.toInt64)) hx hb dX6_openSequences_91 rfl ?_
              obtain ⟨r58, hc, hf⟩ := bind_some hf
              refine nx_i (rn_V (As := [.long (r55.toInt64)]) (rest := []) (n := 1) (ci := 5) (q0 := 0) ⟨hx, hb, hml, hown, hts⟩ (c_Opener_isOver (l := l) (dC := dC) (dI := dI) (cB := cB) (cI := cI) (h0 := h0) (a1 := (r55.toInt64)) (h0_to := h0_to) (w_h0_input := (.ref h0_input)) (w_h0_words := (.ref h0_words)) (w_h0_settings := (w_h0_settings)) (w_h0_blocks := (w_h0_blocks)) (w_h0_broken := (.int g47)) (w_h0_brokenAt := (.int g48)) (w_h0_at := (.int u56)) (w_h0_end := (.int h0_end)) (w_h0_begin := (.int u1)) (w_h0_copies := (.int g44)) (w_h0_literals := (.int g45)) (w_h0_parts := (.int g46)) (w_h0_frameBegin := (w_h0_frameBegin)) (w_h0_flags := (w_h0_flags)) (w_h0_width := (w_h0_width)) (w_h0_size := (w_h0_size)) (w_h0_to_held := (.ref h0_to_held)) (h0_to_count := g50)  (o_r := r58) hc) (wV kw_875 kw_877 kw_27 kw_92 kw_878) (by decide +kernel) ⟨Nat.le_of_ble_eq_true rfl, Nat.le_of_ble_eq_true rfl⟩ hK hP hD hN hT hS (va_free (wc := [(h0, .inr (5, [.ref h0_input, .ref h0_words, w_h0_settings, .ref h0_to, w_h0_blocks, .int g47, .int g48, .int u56, .int h0_end, .int u1, .int g44, .int g45, .int g46, w_h0_frameBegin, w_h0_flags, w_h0_width, w_h0_size])), (h0_to, .inr (2, [.ref h0_to_held, .int g50]))]) hD hS hA [0, 1] rfl) [0, 1] rfl (by decide) rfl rfl rfl hl.1 rfl (lv_room (Nat.le_of_ble_eq_true rfl)) dX6_openSequences_92 ⟨Nat.le_of_ble_eq_true rfl, Nat.le_of_ble_eq_true rfl⟩) hP hD hS hA (wr := [(h0_input, .inr (2, [.ref h0_input_held, .int h0_input_count])), (h0_input_held, .inl (cB, h0_input_held_n, .inl h0_input_held_f)), (h0_to_held, .inl (cB, h0_to_held_n, .inl f43)), (h0_words, .inr (2, [.ref h0_words_held, .int h0_words_count])), (h0_words_held, .inl (cB, h0_words_held_n, .inl h0_words_held_f))]) (w1 := [(h0, .inr (5, [.ref h0_input, .ref h0_words, w_h0_settings, .ref h0_to, w_h0_blocks, .int g47, .int g48, .int u56, .int h0_end, .int u1, .int g44, .int g45, .int g46, w_h0_frameBegin, w_h0_flags, w_h0_width, w_h0_size])), (h0_to, .inr (2, [.ref h0_to_held, .int g50]))]) (ws' := [(h0, .inr (5, [.ref h0_input, .ref h0_words, w_h0_settings, .ref h0_to, w_h0_blocks, .int g47, .int g48, .int u56, .int h0_end, .int u1, .int g44, .int g45, .int g46, w_h0_frameBegin, w_h0_flags, w_h0_width, w_h0_size])), (h0_to, .inr (2, [.ref h0_to_held, .int g50])), (h0_input, .inr (2, [.ref h0_input_held, .int h0_input_count])), (h0_input_held, .inl (cB, h0_input_held_n, .inl h0_input_held_f)), (h0_to_held, .inl (cB, h0_to_held_n, .inl f43)), (h0_words, .inr (2, [.ref h0_words_held, .int h0_words_count])), (h0_words_held, .inl (cB, h0_words_held_n, .inl h0_words_held_f))]) [0, 1] [2, 3, 4, 5, 6] [5, 6, 0, 1, 2, 3, 4] rfl rfl (by decide) (by decide) rfl (by decide) (fun H locs hP hD hS => ?_)
              refine lv_if_eq (tgt := 107) hx hb dX6_openSequences_95 (by decide) (fun c_95 => ?_) (fun c_95 => ?_)
              · replace hf := if_t c_95 hf
                refine lv_aload_n hx hb dX6_openSequences_107 rfl (lv_at hl 3 rfl) ?_
                refine va_get (D := (dC, dI)) (ci := 5) (v := .ref h0_to) (C := RX6) (T := TX6) (N := 17) hx hb hts inG_X6 hown hK hP 0 rfl rfl 3 (by decide) (hts _ kw_292) (fun _ h9 => h9) rfl dX6_openSequences_108 ?_
                refine lv_aload_n hx hb dX6_openSequences_111 rfl (lv_at hl 3 rfl) ?_
                refine va_get (D := (dC, dI)) (ci := 5) (v := .ref h0_input) (C := RX6) (T := TX6) (N := 17) hx hb hts inG_X6 hown hK hP 0 rfl rfl 0 (by decide) (hts _ kw_289) (fun _ h9 => h9) rfl dX6_openSequences_112 ?_
                refine lv_aload_n hx hb dX6_openSequences_115 rfl (lv_at hl 3 rfl) ?_
                refine va_get (D := (dC, dI)) (ci := 5) (v := .int u56) (C := RX6) (T := TX6) (N := 17) hx hb hts inG_X6 hown hK hP 0 rfl rfl 7 (by decide) (hts _ kw_296) (fun _ h9 => h9) rfl dX6_openSequences_116 ?_
                refine lv_iload hx hb dX6_openSequences_119 (lv_at hl 0 rfl) ?_
                obtain ⟨x, hc, hf⟩ := bind_some hf
                obtain ⟨u59, u60⟩ := x
                dsimp only at hf
                refine nx_v (rn_V (As := [.ref h0_input, .int u56, .int r55]) (rest := []) (n := 3) (ci := 2) (q0 := 0) ⟨hx, hb, hml, hown, hts⟩ (c_Bytes_addRange (l := l) (dC := dC) (dI := dI) (cB := cB) (cI := cI) (h0 := h0_to) (h1 := h0_input) (a2 := u56) (a3 := r55) (h0_held := h0_to_held) (h1_held := h0_input_held) (h0_count := g50) (h1_count := h0_input_count) (h0_held_n := h0_to_held_n) (h0_held_f := f43) (h1_held_n := h0_input_held_n) (h1_held_f := h0_input_held_f) (o_h0_count := u59) (o_h0_held_f := u60) hc) (wV kw_880 kw_431 kw_432 kw_83 kw_433) (by decide +kernel) ⟨Nat.le_of_ble_eq_true rfl, Nat.le_of_ble_eq_true rfl⟩ hK hP hD hN hT hS (va_free (wc := [(h0_to, .inr (2, [.ref h0_to_held, .int g50])), (h0_input, .inr (2, [.ref h0_input_held, .int h0_input_count])), (h0_to_held, .inl (cB, h0_to_held_n, .inl f43)), (h0_input_held, .inl (cB, h0_input_held_n, .inl h0_input_held_f))]) hD hS hA [1, 2, 4, 3] rfl) [1, 2, 4, 3] rfl (by decide) rfl rfl rfl hl.1 rfl (lv_room (Nat.le_of_ble_eq_true rfl)) dX6_openSequences_121 ⟨Nat.le_of_ble_eq_true rfl, Nat.le_of_ble_eq_true rfl⟩) hP hD hS hA (wr := [(h0, .inr (5, [.ref h0_input, .ref h0_words, w_h0_settings, .ref h0_to, w_h0_blocks, .int g47, .int g48, .int u56, .int h0_end, .int u1, .int g44, .int g45, .int g46, w_h0_frameBegin, w_h0_flags, w_h0_width, w_h0_size])), (h0_words, .inr (2, [.ref h0_words_held, .int h0_words_count])), (h0_words_held, .inl (cB, h0_words_held_n, .inl h0_words_held_f))]) (w1 := [(h0_to, .inr (2, [.ref h0_to_held, .int u59])), (h0_input, .inr (2, [.ref h0_input_held, .int h0_input_count])), (h0_to_held, .inl (cB, h0_to_held_n, .inl u60)), (h0_input_held, .inl (cB, h0_input_held_n, .inl h0_input_held_f))]) (ws' := [(h0, .inr (5, [.ref h0_input, .ref h0_words, w_h0_settings, .ref h0_to, w_h0_blocks, .int g47, .int g48, .int u56, .int h0_end, .int u1, .int g44, .int g45, .int g46, w_h0_frameBegin, w_h0_flags, w_h0_width, w_h0_size])), (h0_to, .inr (2, [.ref h0_to_held, .int u59])), (h0_input, .inr (2, [.ref h0_input_held, .int h0_input_count])), (h0_input_held, .inl (cB, h0_input_held_n, .inl h0_input_held_f)), (h0_to_held, .inl (cB, h0_to_held_n, .inl u60)), (h0_words, .inr (2, [.ref h0_words_held, .int h0_words_count])), (h0_words_held, .inl (cB, h0_words_held_n, .inl h0_words_held_f))]) [1, 2, 4, 3] [0, 5, 6] [0, 3, 4, 6, 5, 1, 2] rfl rfl (by decide) (by decide) rfl (by decide) (fun H locs hP hD hS => ?_)
                refine lv_aload_n hx hb dX6_openSequences_124 rfl (lv_at hl 3 rfl) ?_
                refine lv_dup hx hb dX6_openSequences_125 rfl ?_
                refine va_get (D := (dC, dI)) (ci := 5) (v := .int u56) (C := RX6) (T := TX6) (N := 17) hx hb hts inG_X6 hown hK hP 0 rfl rfl 7 (by decide) (hts _ kw_296) (fun _ h9 => h9) rfl dX6_openSequences_126 ?_
                refine lv_iload hx hb dX6_openSequences_129 (lv_at hl 0 rfl) ?_
                refine lv_iadd hx hb dX6_openSequences_131 ?_
                refine lv_topi (fun p_61 e_p_61 => ?_)
                replace hf := bnd_at e_p_61 hf
                refine va_put (D := (dC, dI)) (ci := 5) (v := .int p_61) (ty := .int) (C := RX6) (T := TX6) (N := 17) hx hb hts inG_X6 tyX6 tyX6_ok nmX6 hown hK hP hD hS 0 rfl rfl 7 (by decide) (hts _ kw_296) (fun _ h9 => h9) rfl (by decide +kernel) rfl rfl (Nat.le_of_ble_eq_true rfl) dX6_openSequences_132 (fun H locs hP hD hS => ?_)
                have hP : va_P (dC, dI) vwCl [(h0, .inr (5, [.ref h0_input, .ref h0_words, w_h0_settings, .ref h0_to, w_h0_blocks, .int g47, .int g48, .int p_61, .int h0_end, .int u1, .int g44, .int g45, .int g46, w_h0_frameBegin, w_h0_flags, w_h0_width, w_h0_size])), (h0_to, .inr (2, [.ref h0_to_held, .int u59])), (h0_input, .inr (2, [.ref h0_input_held, .int h0_input_count])), (h0_input_held, .inl (cB, h0_input_held_n, .inl h0_input_held_f)), (h0_to_held, .inl (cB, h0_to_held_n, .inl u60)), (h0_words, .inr (2, [.ref h0_words_held, .int h0_words_count])), (h0_words_held, .inl (cB, h0_words_held_n, .inl h0_words_held_f))] H := hP
                have hD : va_D A [(h0, .inr (5, [.ref h0_input, .ref h0_words, w_h0_settings, .ref h0_to, w_h0_blocks, .int g47, .int g48, .int p_61, .int h0_end, .int u1, .int g44, .int g45, .int g46, w_h0_frameBegin, w_h0_flags, w_h0_width, w_h0_size])), (h0_to, .inr (2, [.ref h0_to_held, .int u59])), (h0_input, .inr (2, [.ref h0_input_held, .int h0_input_count])), (h0_input_held, .inl (cB, h0_input_held_n, .inl h0_input_held_f)), (h0_to_held, .inl (cB, h0_to_held_n, .inl u60)), (h0_words, .inr (2, [.ref h0_words_held, .int h0_words_count])), (h0_words_held, .inl (cB, h0_words_held_n, .inl h0_words_held_f))] := hD
                refine lv_aload_n hx hb dX6_openSequences_135 rfl (lv_at hl 3 rfl) ?_
                refine lv_dup hx hb dX6_openSequences_136 rfl ?_
                refine va_get (D := (dC, dI)) (ci := 5) (v := .int g45) (C := RX6) (T := TX6) (N := 17) hx hb hts inG_X6 hown hK hP 0 rfl rfl 11 (by decide) (hts _ kw_300) (fun _ h9 => h9) rfl dX6_openSequences_137 ?_
                refine lv_iload hx hb dX6_openSequences_140 (lv_at hl 0 rfl) ?_
                refine lv_iadd hx hb dX6_openSequences_142 ?_
                refine lv_topi (fun p_62 e_p_62 => ?_)
                replace hf := bnd_at e_p_62 hf
                refine va_put (D := (dC, dI)) (ci := 5) (v := .int p_62) (ty := .int) (C := RX6) (T := TX6) (N := 17) hx hb hts inG_X6 tyX6 tyX6_ok nmX6 hown hK hP hD hS 0 rfl rfl 11 (by decide) (hts _ kw_300) (fun _ h9 => h9) rfl (by decide +kernel) rfl rfl (Nat.le_of_ble_eq_true rfl) dX6_openSequences_143 (fun H locs hP hD hS => ?_)
                have hP : va_P (dC, dI) vwCl [(h0, .inr (5, [.ref h0_input, .ref h0_words, w_h0_settings, .ref h0_to, w_h0_blocks, .int g47, .int g48, .int p_61, .int h0_end, .int u1, .int g44, .int p_62, .int g46, w_h0_frameBegin, w_h0_flags, w_h0_width, w_h0_size])), (h0_to, .inr (2, [.ref h0_to_held, .int u59])), (h0_input, .inr (2, [.ref h0_input_held, .int h0_input_count])), (h0_input_held, .inl (cB, h0_input_held_n, .inl h0_input_held_f)), (h0_to_held, .inl (cB, h0_to_held_n, .inl u60)), (h0_words, .inr (2, [.ref h0_words_held, .int h0_words_count])), (h0_words_held, .inl (cB, h0_words_held_n, .inl h0_words_held_f))] H := hP
                have hD : va_D A [(h0, .inr (5, [.ref h0_input, .ref h0_words, w_h0_settings, .ref h0_to, w_h0_blocks, .int g47, .int g48, .int p_61, .int h0_end, .int u1, .int g44, .int p_62, .int g46, w_h0_frameBegin, w_h0_flags, w_h0_width, w_h0_size])), (h0_to, .inr (2, [.ref h0_to_held, .int u59])), (h0_input, .inr (2, [.ref h0_input_held, .int h0_input_count])), (h0_input_held, .inl (cB, h0_input_held_n, .inl h0_input_held_f)), (h0_to_held, .inl (cB, h0_to_held_n, .inl u60)), (h0_words, .inr (2, [.ref h0_words_held, .int h0_words_count])), (h0_words_held, .inl (cB, h0_words_held_n, .inl h0_words_held_f))] := hD
                refine lv_aload_n hx hb dX6_openSequences_146 rfl (lv_at hl 3 rfl) ?_
                refine lv_dup hx hb dX6_openSequences_147 rfl ?_
                refine va_get (D := (dC, dI)) (ci := 5) (v := .int g46) (C := RX6) (T := TX6) (N := 17) hx hb hts inG_X6 hown hK hP 0 rfl rfl 12 (by decide) (hts _ kw_301) (fun _ h9 => h9) rfl dX6_openSequences_148 ?_
                refine lv_iconst (v := 1) hx hb dX6_openSequences_151 (by decide) ?_
                refine lv_iadd hx hb dX6_openSequences_152 ?_
                refine lv_topi (fun p_63 e_p_63 => ?_)
                replace hf := bnd_at e_p_63 hf
                refine va_put (D := (dC, dI)) (ci := 5) (v := .int p_63) (ty := .int) (C := RX6) (T := TX6) (N := 17) hx hb hts inG_X6 tyX6 tyX6_ok nmX6 hown hK hP hD hS 0 rfl rfl 12 (by decide) (hts _ kw_301) (fun _ h9 => h9) rfl (by decide +kernel) rfl rfl (Nat.le_of_ble_eq_true rfl) dX6_openSequences_153 (fun H locs hP hD hS => ?_)
                have hP : va_P (dC, dI) vwCl [(h0, .inr (5, [.ref h0_input, .ref h0_words, w_h0_settings, .ref h0_to, w_h0_blocks, .int g47, .int g48, .int p_61, .int h0_end, .int u1, .int g44, .int p_62, .int p_63, w_h0_frameBegin, w_h0_flags, w_h0_width, w_h0_size])), (h0_to, .inr (2, [.ref h0_to_held, .int u59])), (h0_input, .inr (2, [.ref h0_input_held, .int h0_input_count])), (h0_input_held, .inl (cB, h0_input_held_n, .inl h0_input_held_f)), (h0_to_held, .inl (cB, h0_to_held_n, .inl u60)), (h0_words, .inr (2, [.ref h0_words_held, .int h0_words_count])), (h0_words_held, .inl (cB, h0_words_held_n, .inl h0_words_held_f))] H := hP
                have hD : va_D A [(h0, .inr (5, [.ref h0_input, .ref h0_words, w_h0_settings, .ref h0_to, w_h0_blocks, .int g47, .int g48, .int p_61, .int h0_end, .int u1, .int g44, .int p_62, .int p_63, w_h0_frameBegin, w_h0_flags, w_h0_width, w_h0_size])), (h0_to, .inr (2, [.ref h0_to_held, .int u59])), (h0_input, .inr (2, [.ref h0_input_held, .int h0_input_count])), (h0_input_held, .inl (cB, h0_input_held_n, .inl h0_input_held_f)), (h0_to_held, .inl (cB, h0_to_held_n, .inl u60)), (h0_words, .inr (2, [.ref h0_words_held, .int h0_words_count])), (h0_words_held, .inl (cB, h0_words_held_n, .inl h0_words_held_f))] := hD
                refine lv_aload_n hx hb dX6_openSequences_156 rfl (lv_at hl 3 rfl) ?_
                refine va_get (D := (dC, dI)) (ci := 5) (v := .int p_61) (C := RX6) (T := TX6) (N := 17) hx hb hts inG_X6 hown hK hP 0 rfl rfl 7 (by decide) (hts _ kw_296) (fun _ h9 => h9) rfl dX6_openSequences_157 ?_
                refine lv_aload_n hx hb dX6_openSequences_160 rfl (lv_at hl 3 rfl) ?_
                refine va_get (D := (dC, dI)) (ci := 5) (v := .int h0_end) (C := RX6) (T := TX6) (N := 17) hx hb hts inG_X6 hown hK hP 0 rfl rfl 8 (by decide) (hts _ kw_297) (fun _ h9 => h9) rfl dX6_openSequences_161 ?_
                refine lv_icmp_ne (tgt := 198) hx hb dX6_openSequences_164 (by decide) (fun c_164 => ?_) (fun c_164 => ?_)
                · replace hf := if_f c_164 hf
                  refine lv_aload_n hx hb dX6_openSequences_198 rfl (lv_at hl 3 rfl) ?_
                  refine va_get (D := (dC, dI)) (ci := 5) (v := .ref h0_to) (C := RX6) (T := TX6) (N := 17) hx hb hts inG_X6 hown hK hP 0 rfl rfl 3 (by decide) (hts _ kw_292) (fun _ h9 => h9) rfl dX6_openSequences_199 ?_
                  obtain ⟨r64, hc, hf⟩ := bind_some hf
                  refine nx_i (rn_V (As := []) (rest := []) (n := 0) (ci := 2) (q0 := 0) ⟨hx, hb, hml, hown, hts⟩ (c_Bytes_size (l := l) (dC := dC) (dI := dI) (cB := cB) (cI := cI) (h0 := h0_to) (w_h0_held := (.ref h0_to_held)) (h0_count := u59)  (o_r := r64) hc) (wV kw_849 kw_402 kw_403 kw_83 kw_404) (by decide +kernel) ⟨Nat.le_of_ble_eq_true rfl, Nat.le_of_ble_eq_true rfl⟩ hK hP hD hN hT hS (va_free (wc := [(h0_to, .inr (2, [.ref h0_to_held, .int u59]))]) hD hS hA [1] rfl) [1] rfl (by decide) rfl rfl rfl hl.1 rfl (lv_room (Nat.le_of_ble_eq_true rfl)) dX6_openSequences_202 ⟨Nat.le_of_ble_eq_true rfl, Nat.le_of_ble_eq_true rfl⟩) hP hD hS hA (wr := [(h0, .inr (5, [.ref h0_input, .ref h0_words, w_h0_settings, .ref h0_to, w_h0_blocks, .int g47, .int g48, .int p_61, .int h0_end, .int u1, .int g44, .int p_62, .int p_63, w_h0_frameBegin, w_h0_flags, w_h0_width, w_h0_size])), (h0_input, .inr (2, [.ref h0_input_held, .int h0_input_count])), (h0_input_held, .inl (cB, h0_input_held_n, .inl h0_input_held_f)), (h0_to_held, .inl (cB, h0_to_held_n, .inl u60)), (h0_words, .inr (2, [.ref h0_words_held, .int h0_words_count])), (h0_words_held, .inl (cB, h0_words_held_n, .inl h0_words_held_f))]) (w1 := [(h0_to, .inr (2, [.ref h0_to_held, .int u59]))]) (ws' := [(h0, .inr (5, [.ref h0_input, .ref h0_words, w_h0_settings, .ref h0_to, w_h0_blocks, .int g47, .int g48, .int p_61, .int h0_end, .int u1, .int g44, .int p_62, .int p_63, w_h0_frameBegin, w_h0_flags, w_h0_width, w_h0_size])), (h0_to, .inr (2, [.ref h0_to_held, .int u59])), (h0_input, .inr (2, [.ref h0_input_held, .int h0_input_count])), (h0_input_held, .inl (cB, h0_input_held_n, .inl h0_input_held_f)), (h0_to_held, .inl (cB, h0_to_held_n, .inl u60)), (h0_words, .inr (2, [.ref h0_words_held, .int h0_words_count])), (h0_words_held, .inl (cB, h0_words_held_n, .inl h0_words_held_f))]) [1] [0, 2, 3, 4, 5, 6] [0, 6, 1, 2, 3, 4, 5] rfl rfl (by decide) (by decide) rfl (by decide) (fun H locs hP hD hS => ?_)
                  refine lv_istore_n (lv' := [(2, .int r64), (6, .int r55), (5, .int r53), (4, .int g49), (0, .ref h0), (1, .int a1), (3, .int j3_52)]) hx hb dX6_openSequences_205 rfl hl (by decide) rfl (fun ls hl => ?_)
                  refine lv_aload_n hx hb dX6_openSequences_206 rfl (lv_at hl 4 rfl) ?_
                  refine lv_iload hx hb dX6_openSequences_207 (lv_at hl 3 rfl) ?_
                  refine lv_iload hx hb dX6_openSequences_209 (lv_at hl 2 rfl) ?_
                  refine lv_bipush (v := 16) hx hb dX6_openSequences_211 (by decide) ?_
                  refine lv_irem hx hb dX6_openSequences_213 (by decide) ?_
                  refine lv_iload_n hx hb dX6_openSequences_214 rfl (lv_at hl 5 rfl) ?_
                  obtain ⟨x, hc, hf⟩ := bind_some hf
                  obtain ⟨r65, u66, u67, u68, u69, u70, u71⟩ := x
                  dsimp only at hf
                  refine nx_i (rn_V (As := [.int g49, .int (irem r53 (16 : Int32)), .int a1]) (rest := []) (n := 3) (ci := 5) (q0 := 0) ⟨hx, hb, hml, hown, hts⟩ (c_Opener_openCopy (l := l) (dC := dC) (dI := dI) (cB := cB) (cI := cI) (h0 := h0) (a1 := g49) (a2 := (irem r53 (16 : Int32))) (a3 := a1) (h0_input := h0_input) (h0_input_held := h0_input_held) (h0_words := h0_words) (h0_to := h0_to) (h0_to_held := h0_to_held) (h0_words_held := h0_words_held) (w_h0_settings := (w_h0_settings)) (w_h0_blocks := (w_h0_blocks)) (h0_broken := g47) (h0_brokenAt := g48) (h0_at := p_61) (h0_end := h0_end) (w_h0_begin := (.int u1)) (h0_copies := g44) (w_h0_literals := (.int p_62)) (w_h0_parts := (.int p_63)) (w_h0_frameBegin := (w_h0_frameBegin)) (w_h0_flags := (w_h0_flags)) (w_h0_width := (w_h0_width)) (w_h0_size := (w_h0_size)) (h0_input_count := h0_input_count) (h0_input_held_n := h0_input_held_n) (h0_input_held_f := h0_input_held_f) (h0_words_count := h0_words_count) (h0_to_count := u59) (h0_to_held_n := h0_to_held_n) (h0_to_held_f := u60) (h0_words_held_n := h0_words_held_n) (h0_words_held_f := h0_words_held_f) (o_h0_broken := u66) (o_h0_brokenAt := u67) (o_h0_at := u68) (o_h0_copies := u69) (o_h0_to_count := u70) (o_h0_to_held_f := u71) (o_r := r65) hc) (wV kw_885 kw_887 kw_29 kw_92 kw_888) (by decide +kernel) ⟨Nat.le_of_ble_eq_true rfl, Nat.le_of_ble_eq_true rfl⟩ hK hP hD hN hT hS (va_free (wc := [(h0, .inr (5, [.ref h0_input, .ref h0_words, w_h0_settings, .ref h0_to, w_h0_blocks, .int g47, .int g48, .int p_61, .int h0_end, .int u1, .int g44, .int p_62, .int p_63, w_h0_frameBegin, w_h0_flags, w_h0_width, w_h0_size])), (h0_input, .inr (2, [.ref h0_input_held, .int h0_input_count])), (h0_input_held, .inl (cB, h0_input_held_n, .inl h0_input_held_f)), (h0_words, .inr (2, [.ref h0_words_held, .int h0_words_count])), (h0_to, .inr (2, [.ref h0_to_held, .int u59])), (h0_to_held, .inl (cB, h0_to_held_n, .inl u60)), (h0_words_held, .inl (cB, h0_words_held_n, .inl h0_words_held_f))]) hD hS hA [0, 2, 3, 5, 1, 4, 6] rfl) [0, 2, 3, 5, 1, 4, 6] rfl (by decide) rfl rfl rfl hl.1 rfl (lv_room (Nat.le_of_ble_eq_true rfl)) dX6_openSequences_215 ⟨Nat.le_of_ble_eq_true rfl, Nat.le_of_ble_eq_true rfl⟩) hP hD hS hA (wr := []) (w1 := [(h0, .inr (5, [.ref h0_input, .ref h0_words, w_h0_settings, .ref h0_to, w_h0_blocks, .int u66, .int u67, .int u68, .int h0_end, .int u1, .int u69, .int p_62, .int p_63, w_h0_frameBegin, w_h0_flags, w_h0_width, w_h0_size])), (h0_input, .inr (2, [.ref h0_input_held, .int h0_input_count])), (h0_input_held, .inl (cB, h0_input_held_n, .inl h0_input_held_f)), (h0_words, .inr (2, [.ref h0_words_held, .int h0_words_count])), (h0_to, .inr (2, [.ref h0_to_held, .int u70])), (h0_to_held, .inl (cB, h0_to_held_n, .inl u71)), (h0_words_held, .inl (cB, h0_words_held_n, .inl h0_words_held_f))]) (ws' := [(h0, .inr (5, [.ref h0_input, .ref h0_words, w_h0_settings, .ref h0_to, w_h0_blocks, .int u66, .int u67, .int u68, .int h0_end, .int u1, .int u69, .int p_62, .int p_63, w_h0_frameBegin, w_h0_flags, w_h0_width, w_h0_size])), (h0_to, .inr (2, [.ref h0_to_held, .int u70])), (h0_input, .inr (2, [.ref h0_input_held, .int h0_input_count])), (h0_input_held, .inl (cB, h0_input_held_n, .inl h0_input_held_f)), (h0_to_held, .inl (cB, h0_to_held_n, .inl u71)), (h0_words, .inr (2, [.ref h0_words_held, .int h0_words_count])), (h0_words_held, .inl (cB, h0_words_held_n, .inl h0_words_held_f))]) [0, 2, 3, 5, 1, 4, 6] [] [0, 4, 1, 2, 5, 3, 6] rfl rfl (by decide) (by decide) rfl (by decide) (fun H locs hP hD hS => ?_)
                  refine lv_if_ne (tgt := 223) hx hb dX6_openSequences_218 (by decide) (fun c_218 => ?_) (fun c_218 => ?_)
                  · replace hf := if_f c_218 hf
                    obtain ⟨v3_72, e_v3_72⟩ : ∃ y : Int32, y = (j3_52 + (1 : Int32)) := ⟨_, rfl⟩
                    replace hf := bnd_at e_v3_72 hf
                    refine lv_iinc (v := v3_72) (lv' := [(3, .int v3_72), (2, .int r64), (6, .int r55), (5, .int r53), (4, .int g49), (0, .ref h0), (1, .int a1)]) hx hb dX6_openSequences_223 hl (k := 6) rfl (by rw [e_v3_72]; rfl) (by decide) rfl (fun ls hl => ?_)
                    refine lv_goto (tgt := 8) hx hb dX6_openSequences_226 (by decide) ?_
                    exact ih_8 u71 u69 p_62 p_63 u66 u67 u68 u70 r64 v3_72 _ _ _ (iter_back hf hr_8) hP hD hS (lv_sub hl [5, 6, 1, 0] rfl)
                  · replace hf := if_t c_218 hf
                    refine lv_iconst (v := 0) hx hb dX6_openSequences_221 (by decide) ?_
                    have hzb : narrow .boolean (.int (0 : Int32)) = .int (0 : Int32) := rfl
                    replace hf : some ((0 : Int32), u66, u67, u68, u1, u69, p_62, p_63, u70, u71) = some (o_r, o_h0_broken, o_h0_brokenAt, o_h0_at, o_h0_begin, o_h0_copies, o_h0_literals, o_h0_parts, o_h0_to_count, o_h0_to_held_f) := by have hq := hk_8; rw [iter_exit hf hr_8] at hq; exact hq
                    obtain ⟨rfl, hq_1⟩ := Prod.mk.inj (Option.some.inj hf)
                    obtain ⟨rfl, hq_2⟩ := Prod.mk.inj hq_1
                    obtain ⟨rfl, hq_3⟩ := Prod.mk.inj hq_2
                    obtain ⟨rfl, hq_4⟩ := Prod.mk.inj hq_3
                    obtain ⟨rfl, hq_5⟩ := Prod.mk.inj hq_4
                    obtain ⟨rfl, hq_6⟩ := Prod.mk.inj hq_5
                    obtain ⟨rfl, hq_7⟩ := Prod.mk.inj hq_6
                    obtain ⟨rfl, hq_8⟩ := Prod.mk.inj hq_7
                    obtain ⟨rfl, hq_9⟩ := Prod.mk.inj hq_8
                    obtain rfl := hq_9
                    exact rt_z hQ hx hb hr hzb hlocks hP hD hS dX6_openSequences_222
                · replace hf := if_t c_164 hf
                  have hf : m_Opener_openSequences_E167 u1 u60 g44 p_62 p_63 g47 g48 p_61 u59 j2_51 g49 r53 r55 = some (o_r, o_h0_broken, o_h0_brokenAt, o_h0_at, o_h0_begin, o_h0_copies, o_h0_literals, o_h0_parts, o_h0_to_count, o_h0_to_held_f) := by have hq := hk_8; rw [iter_exit hf hr_8] at hq; exact hq
                  exact hJ_167 u60 g44 p_62 p_63 g47 g48 p_61 u59 j2_51 g49 r53 r55 _ _ _ hf hP hD hS (lv_sub hl [3, 5, 2, 1, 0] rfl)
              · replace hf := if_f c_95 hf
                refine lv_aload_n hx hb dX6_openSequences_98 rfl (lv_at hl 3 rfl) ?_
                refine lv_bipush (v := 12) hx hb dX6_openSequences_99 (by decide) ?_
                refine lv_iload hx hb dX6_openSequences_101 (lv_at hl 2 rfl) ?_
                obtain ⟨x, hc, hf⟩ := bind_some hf
                obtain ⟨r73, u74, u75⟩ := x
                dsimp only at hf
                refine nx_i (rn_V (As := [.int (12 : Int32), .int g49]) (rest := []) (n := 2) (ci := 5) (q0 := 0) ⟨hx, hb, hml, hown, hts⟩ (c_Opener_breaks (l := l) (dC := dC) (dI := dI) (cB := cB) (cI := cI) (h0 := h0) (a1 := (12 : Int32)) (a2 := g49) (w_h0_input := (.ref h0_input)) (w_h0_words := (.ref h0_words)) (w_h0_settings := (w_h0_settings)) (w_h0_to := (.ref h0_to)) (w_h0_blocks := (w_h0_blocks)) (h0_broken := g47) (h0_brokenAt := g48) (w_h0_at := (.int u56)) (w_h0_end := (.int h0_end)) (w_h0_begin := (.int u1)) (w_h0_copies := (.int g44)) (w_h0_literals := (.int g45)) (w_h0_parts := (.int g46)) (w_h0_frameBegin := (w_h0_frameBegin)) (w_h0_flags := (w_h0_flags)) (w_h0_width := (w_h0_width)) (w_h0_size := (w_h0_size)) (o_h0_broken := u74) (o_h0_brokenAt := u75) (o_r := r73) hc) (wV kw_871 kw_873 kw_26 kw_92 kw_874) (by decide +kernel) ⟨Nat.le_of_ble_eq_true rfl, Nat.le_of_ble_eq_true rfl⟩ hK hP hD hN hT hS (va_free (wc := [(h0, .inr (5, [.ref h0_input, .ref h0_words, w_h0_settings, .ref h0_to, w_h0_blocks, .int g47, .int g48, .int u56, .int h0_end, .int u1, .int g44, .int g45, .int g46, w_h0_frameBegin, w_h0_flags, w_h0_width, w_h0_size]))]) hD hS hA [0] rfl) [0] rfl (by decide) rfl rfl rfl hl.1 rfl (lv_room (Nat.le_of_ble_eq_true rfl)) dX6_openSequences_103 ⟨Nat.le_of_ble_eq_true rfl, Nat.le_of_ble_eq_true rfl⟩) hP hD hS hA (wr := [(h0_to, .inr (2, [.ref h0_to_held, .int g50])), (h0_input, .inr (2, [.ref h0_input_held, .int h0_input_count])), (h0_input_held, .inl (cB, h0_input_held_n, .inl h0_input_held_f)), (h0_to_held, .inl (cB, h0_to_held_n, .inl f43)), (h0_words, .inr (2, [.ref h0_words_held, .int h0_words_count])), (h0_words_held, .inl (cB, h0_words_held_n, .inl h0_words_held_f))]) (w1 := [(h0, .inr (5, [.ref h0_input, .ref h0_words, w_h0_settings, .ref h0_to, w_h0_blocks, .int u74, .int u75, .int u56, .int h0_end, .int u1, .int g44, .int g45, .int g46, w_h0_frameBegin, w_h0_flags, w_h0_width, w_h0_size]))]) (ws' := [(h0, .inr (5, [.ref h0_input, .ref h0_words, w_h0_settings, .ref h0_to, w_h0_blocks, .int u74, .int u75, .int u56, .int h0_end, .int u1, .int g44, .int g45, .int g46, w_h0_frameBegin, w_h0_flags, w_h0_width, w_h0_size])), (h0_to, .inr (2, [.ref h0_to_held, .int g50])), (h0_input, .inr (2, [.ref h0_input_held, .int h0_input_count])), (h0_input_held, .inl (cB, h0_input_held_n, .inl h0_input_held_f)), (h0_to_held, .inl (cB, h0_to_held_n, .inl f43)), (h0_words, .inr (2, [.ref h0_words_held, .int h0_words_count])), (h0_words_held, .inl (cB, h0_words_held_n, .inl h0_words_held_f))]) [0] [1, 2, 3, 4, 5, 6] [6, 0, 1, 2, 3, 4, 5] rfl rfl (by decide) (by decide) rfl (by decide) (fun H locs hP hD hS => ?_)
                obtain ⟨hzb, hf⟩ := bch_some hf
                replace hf : some (r73, u74, u75, u56, u1, g44, g45, g46, g50, f43) = some (o_r, o_h0_broken, o_h0_brokenAt, o_h0_at, o_h0_begin, o_h0_copies, o_h0_literals, o_h0_parts, o_h0_to_count, o_h0_to_held_f) := by have hq := hk_8; rw [iter_exit hf hr_8] at hq; exact hq
                obtain ⟨rfl, hq_1⟩ := Prod.mk.inj (Option.some.inj hf)
                obtain ⟨rfl, hq_2⟩ := Prod.mk.inj hq_1
                obtain ⟨rfl, hq_3⟩ := Prod.mk.inj hq_2
                obtain ⟨rfl, hq_4⟩ := Prod.mk.inj hq_3
                obtain ⟨rfl, hq_5⟩ := Prod.mk.inj hq_4
                obtain ⟨rfl, hq_6⟩ := Prod.mk.inj hq_5
                obtain ⟨rfl, hq_7⟩ := Prod.mk.inj hq_6
                obtain ⟨rfl, hq_8⟩ := Prod.mk.inj hq_7
                obtain ⟨rfl, hq_9⟩ := Prod.mk.inj hq_8
                obtain rfl := hq_9
                exact rt_z hQ hx hb hr hzb hlocks hP hD hS dX6_openSequences_106
            · replace hf := if_f c_75 hf
              have hf : m_Opener_openSequences_E78 h0_end u1 f43 g44 g45 g46 g47 g48 u56 g50 = some (o_r, o_h0_broken, o_h0_brokenAt, o_h0_at, o_h0_begin, o_h0_copies, o_h0_literals, o_h0_parts, o_h0_to_count, o_h0_to_held_f) := by have hq := hk_8; rw [iter_exit hf hr_8] at hq; exact hq
              exact hJ_78 f43 g44 g45 g46 g47 g48 u56 g50 _ _ _ hf hP hD hS (lv_sub hl [3] rfl)
  exact hL_8 FU h0_to_held_f u2 u3 u4 h0_broken h0_brokenAt h0_at h0_to_count (-1 : Int32) (0 : Int32) _ _ _ hi_8 hP hD hS (lv_sub hl [2, 3, 1, 0] rfl)

theorem dX6_addPackedBlock_0 : decode cX6_addPackedBlock 0 = .ok (.aload_n 0, 1) := by decide +kernel
theorem dX6_addPackedBlock_1 : decode cX6_addPackedBlock 1 = .ok (.getfield 32, 3) := by decide +kernel
theorem dX6_addPackedBlock_4 : decode cX6_addPackedBlock 4 = .ok (.iload_n 1, 1) := by decide +kernel
theorem dX6_addPackedBlock_5 : decode cX6_addPackedBlock 5 = .ok (.aload_n 0, 1) := by decide +kernel
theorem dX6_addPackedBlock_6 : decode cX6_addPackedBlock 6 = .ok (.getfield 47, 3) := by decide +kernel
theorem dX6_addPackedBlock_9 : decode cX6_addPackedBlock 9 = .ok (.iload_n 1, 1) := by decide +kernel
theorem dX6_addPackedBlock_10 : decode cX6_addPackedBlock 10 = .ok (.isub, 1) := by decide +kernel
theorem dX6_addPackedBlock_11 : decode cX6_addPackedBlock 11 = .ok (.aload_n 0, 1) := by decide +kernel
theorem dX6_addPackedBlock_12 : decode cX6_addPackedBlock 12 = .ok (.getfield 29, 3) := by decide +kernel
theorem dX6_addPackedBlock_15 : decode cX6_addPackedBlock 15 = .ok (.invokevirtual 50, 3) := by decide +kernel
theorem dX6_addPackedBlock_18 : decode cX6_addPackedBlock 18 = .ok (.aload_n 0, 1) := by decide +kernel
theorem dX6_addPackedBlock_19 : decode cX6_addPackedBlock 19 = .ok (.getfield 68, 3) := by decide +kernel
theorem dX6_addPackedBlock_22 : decode cX6_addPackedBlock 22 = .ok (.isub, 1) := by decide +kernel
theorem dX6_addPackedBlock_23 : decode cX6_addPackedBlock 23 = .ok (.aload_n 0, 1) := by decide +kernel
theorem dX6_addPackedBlock_24 : decode cX6_addPackedBlock 24 = .ok (.getfield 71, 3) := by decide +kernel
theorem dX6_addPackedBlock_27 : decode cX6_addPackedBlock 27 = .ok (.aload_n 0, 1) := by decide +kernel
theorem dX6_addPackedBlock_28 : decode cX6_addPackedBlock 28 = .ok (.getfield 74, 3) := by decide +kernel
theorem dX6_addPackedBlock_31 : decode cX6_addPackedBlock 31 = .ok (.aload_n 0, 1) := by decide +kernel
theorem dX6_addPackedBlock_32 : decode cX6_addPackedBlock 32 = .ok (.getfield 77, 3) := by decide +kernel
theorem dX6_addPackedBlock_35 : decode cX6_addPackedBlock 35 = .ok (.invokevirtual 80, 3) := by decide +kernel
theorem dX6_addPackedBlock_38 : decode cX6_addPackedBlock 38 = .ok (.return_, 1) := by decide +kernel
def m_Opener_addPackedBlock (a1 : Int32) (h0_at : Int32) (h0_begin : Int32) (h0_copies : Int32) (h0_literals : Int32) (h0_parts : Int32) (h0_to_count : Int32) (h0_blocks_count : Int32) (h0_blocks_facts_n : Nat) (h0_blocks_facts_f : Nat → Int32) : Option (Int32 × (Nat → Int32)) :=
  (m_Bytes_size h0_to_count).bind fun r1 =>
  (m_Blocks_addPacked a1 (h0_at - a1) (r1 - h0_begin) h0_copies h0_literals h0_parts h0_blocks_count h0_blocks_facts_n h0_blocks_facts_f).bind fun (u2, u3) =>
  some (u2, u3)
def rm_Opener_addPackedBlock : Room := { frames := 2, cells := 0, slots := 0, locals := 54 }
set_option maxHeartbeats 4000000 in
set_option maxRecDepth 100000 in
theorem c_Opener_addPackedBlock {l : Launch} {dC : Nat → ClassId} {dI : Nat → Nat → Nat} {cB cI : ClassId} {sz : Nat} {h0 : Nat} {a1 : Int32} {h0_to : Nat} {h0_blocks : Nat} {h0_blocks_facts : Nat} {w_h0_input : Value} {w_h0_words : Value} {w_h0_settings : Value} {w_h0_broken : Value} {w_h0_brokenAt : Value} {h0_at : Int32} {w_h0_end : Value} {h0_begin : Int32} {h0_copies : Int32} {h0_literals : Int32} {h0_parts : Int32} {w_h0_frameBegin : Value} {w_h0_flags : Value} {w_h0_width : Value} {w_h0_size : Value} {w_h0_to_held : Value} {h0_to_count : Int32} {h0_blocks_count : Int32} {h0_blocks_facts_n : Nat} {h0_blocks_facts_f : Nat → Int32} {o_h0_blocks_count : Int32} {o_h0_blocks_facts_f : Nat → Int32} (hf : m_Opener_addPackedBlock a1 h0_at h0_begin h0_copies h0_literals h0_parts h0_to_count h0_blocks_count h0_blocks_facts_n h0_blocks_facts_f = some (o_h0_blocks_count, o_h0_blocks_facts_f)) : Met l yX6_addPackedBlock (Cond.code yX6_addPackedBlock cX6_addPackedBlock 2 none :: lw_G) rm_Opener_addPackedBlock (PreC (dC, dI) [(cB, .byte), (cI, .int)] [.ref h0, .int a1] sz [(h0, .inr (5, [w_h0_input, w_h0_words, w_h0_settings, .ref h0_to, .ref h0_blocks, w_h0_broken, w_h0_brokenAt, .int h0_at, w_h0_end, .int h0_begin, .int h0_copies, .int h0_literals, .int h0_parts, w_h0_frameBegin, w_h0_flags, w_h0_width, w_h0_size])), (h0_to, .inr (2, [w_h0_to_held, .int h0_to_count])), (h0_blocks, .inr (1, [.ref h0_blocks_facts, .int h0_blocks_count])), (h0_blocks_facts, .inl (cI, h0_blocks_facts_n, .inl h0_blocks_facts_f))]) (QcV (dC, dI) [(h0, .inr (5, [w_h0_input, w_h0_words, w_h0_settings, .ref h0_to, .ref h0_blocks, w_h0_broken, w_h0_brokenAt, .int h0_at, w_h0_end, .int h0_begin, .int h0_copies, .int h0_literals, .int h0_parts, w_h0_frameBegin, w_h0_flags, w_h0_width, w_h0_size])), (h0_to, .inr (2, [w_h0_to_held, .int h0_to_count])), (h0_blocks, .inr (1, [.ref h0_blocks_facts, .int o_h0_blocks_count])), (h0_blocks_facts, .inl (cI, h0_blocks_facts_n, .inl o_h0_blocks_facts_f))] (va_A [(h0, .inr (5, [w_h0_input, w_h0_words, w_h0_settings, .ref h0_to, .ref h0_blocks, w_h0_broken, w_h0_brokenAt, .int h0_at, w_h0_end, .int h0_begin, .int h0_copies, .int h0_literals, .int h0_parts, w_h0_frameBegin, w_h0_flags, w_h0_width, w_h0_size])), (h0_to, .inr (2, [w_h0_to_held, .int h0_to_count])), (h0_blocks, .inr (1, [.ref h0_blocks_facts, .int h0_blocks_count])), (h0_blocks_facts, .inl (cI, h0_blocks_facts_n, .inl h0_blocks_facts_f))] sz)) 0 0 (va_A [(h0, .inr (5, [w_h0_input, w_h0_words, w_h0_settings, .ref h0_to, .ref h0_blocks, w_h0_broken, w_h0_brokenAt, .int h0_at, w_h0_end, .int h0_begin, .int h0_copies, .int h0_literals, .int h0_parts, w_h0_frameBegin, w_h0_flags, w_h0_width, w_h0_size])), (h0_to, .inr (2, [w_h0_to_held, .int h0_to_count])), (h0_blocks, .inr (1, [.ref h0_blocks_facts, .int h0_blocks_count])), (h0_blocks_facts, .inl (cI, h0_blocks_facts_n, .inl h0_blocks_facts_f))] sz) := by
  refine met_of (Qf := fun A => QcV (dC, dI) [(h0, .inr (5, [w_h0_input, w_h0_words, w_h0_settings, .ref h0_to, .ref h0_blocks, w_h0_broken, w_h0_brokenAt, .int h0_at, w_h0_end, .int h0_begin, .int h0_copies, .int h0_literals, .int h0_parts, w_h0_frameBegin, w_h0_flags, w_h0_width, w_h0_size])), (h0_to, .inr (2, [w_h0_to_held, .int h0_to_count])), (h0_blocks, .inr (1, [.ref h0_blocks_facts, .int o_h0_blocks_count])), (h0_blocks_facts, .inl (cI, h0_blocks_facts_n, .inl o_h0_blocks_facts_f))] A) (by decide) (Nat.le_of_ble_eq_true rfl) ?_
  intro p e s m below meth c A ls Q hx hb hr hml hown hts hlocks hnm hP hK hD hN hT hA hl hQ
  have hown : s.vm.findClass RX6 = some m.cls := hown
  have hS : va_S A s.heap s.heap [] := va_S.rf
  have hl : lv_has ls 2 [(0, .ref h0), (1, .int a1)] := hl
  unfold m_Opener_addPackedBlock at hf
  refine lv_aload_n hx hb dX6_addPackedBlock_0 rfl (lv_at hl 0 rfl) ?_
  refine va_get (D := (dC, dI)) (ci := 5) (v := .ref h0_blocks) (C := RX6) (T := TX6) (N := 17) hx hb hts inG_X6 hown hK hP 0 rfl rfl 4 (by decide) (hts _ kw_293) (fun _ h9 => h9) rfl dX6_addPackedBlock_1 ?_
  refine lv_iload_n hx hb dX6_addPackedBlock_4 rfl (lv_at hl 1 rfl) ?_
  refine lv_aload_n hx hb dX6_addPackedBlock_5 rfl (lv_at hl 0 rfl) ?_
  refine va_get (D := (dC, dI)) (ci := 5) (v := .int h0_at) (C := RX6) (T := TX6) (N := 17) hx hb hts inG_X6 hown hK hP 0 rfl rfl 7 (by decide) (hts _ kw_296) (fun _ h9 => h9) rfl dX6_addPackedBlock_6 ?_
  refine lv_iload_n hx hb dX6_addPackedBlock_9 rfl (lv_at hl 1 rfl) ?_
  refine lv_isub hx hb dX6_addPackedBlock_10 ?_
  refine lv_aload_n hx hb dX6_addPackedBlock_11 rfl (lv_at hl 0 rfl) ?_
  refine va_get (D := (dC, dI)) (ci := 5) (v := .ref h0_to) (C := RX6) (T := TX6) (N := 17) hx hb hts inG_X6 hown hK hP 0 rfl rfl 3 (by decide) (hts _ kw_292) (fun _ h9 => h9) rfl dX6_addPackedBlock_12 ?_
  obtain ⟨r1, hc, hf⟩ := bind_some hf
  refine nx_i (rn_V (As := []) (rest := [.int (h0_at - a1), .int a1, .ref h0_blocks]) (n := 0) (ci := 2) (q0 := 0) ⟨hx, hb, hml, hown, hts⟩ (c_Bytes_size (l := l) (dC := dC) (dI := dI) (cB := cB) (cI := cI) (h0 := h0_to) (w_h0_held := (w_h0_to_held)) (h0_count := h0_to_count)  (o_r := r1) hc) (wV kw_849 kw_402 kw_403 kw_83 kw_404) (by decide +kernel) ⟨Nat.le_of_ble_eq_true rfl, Nat.le_of_ble_eq_true rfl⟩ hK hP hD hN hT hS (va_free (wc := [(h0_to, .inr (2, [w_h0_to_held, .int h0_to_count]))]) hD hS hA [1] rfl) [1] rfl (by decide) rfl rfl rfl hl.1 rfl (lv_room (Nat.le_of_ble_eq_true rfl)) dX6_addPackedBlock_15 ⟨Nat.le_of_ble_eq_true rfl, Nat.le_of_ble_eq_true rfl⟩) hP hD hS hA (wr := [(h0, .inr (5, [w_h0_input, w_h0_words, w_h0_settings, .ref h0_to, .ref h0_blocks, w_h0_broken, w_h0_brokenAt, .int h0_at, w_h0_end, .int h0_begin, .int h0_copies, .int h0_literals, .int h0_parts, w_h0_frameBegin, w_h0_flags, w_h0_width, w_h0_size])), (h0_blocks, .inr (1, [.ref h0_blocks_facts, .int h0_blocks_count])), (h0_blocks_facts, .inl (cI, h0_blocks_facts_n, .inl h0_blocks_facts_f))]) (w1 := [(h0_to, .inr (2, [w_h0_to_held, .int h0_to_count]))]) (ws' := [(h0, .inr (5, [w_h0_input, w_h0_words, w_h0_settings, .ref h0_to, .ref h0_blocks, w_h0_broken, w_h0_brokenAt, .int h0_at, w_h0_end, .int h0_begin, .int h0_copies, .int h0_literals, .int h0_parts, w_h0_frameBegin, w_h0_flags, w_h0_width, w_h0_size])), (h0_to, .inr (2, [w_h0_to_held, .int h0_to_count])), (h0_blocks, .inr (1, [.ref h0_blocks_facts, .int h0_blocks_count])), (h0_blocks_facts, .inl (cI, h0_blocks_facts_n, .inl h0_blocks_facts_f))]) [1] [0, 2, 3] [0, 3, 1, 2] rfl rfl (by decide) (by decide) rfl (by decide) (fun H locs hP hD hS => ?_)
  refine lv_aload_n hx hb dX6_addPackedBlock_18 rfl (lv_at hl 0 rfl) ?_
  refine va_get (D := (dC, dI)) (ci := 5) (v := .int h0_begin) (C := RX6) (T := TX6) (N := 17) hx hb hts inG_X6 hown hK hP 0 rfl rfl 9 (by decide) (hts _ kw_298) (fun _ h9 => h9) rfl dX6_addPackedBlock_19 ?_
  refine lv_isub hx hb dX6_addPackedBlock_22 ?_
  refine lv_aload_n hx hb dX6_addPackedBlock_23 rfl (lv_at hl 0 rfl) ?_
  refine va_get (D := (dC, dI)) (ci := 5) (v := .int h0_copies) (C := RX6) (T := TX6) (N := 17) hx hb hts inG_X6 hown hK hP 0 rfl rfl 10 (by decide) (hts _ kw_299) (fun _ h9 => h9) rfl dX6_addPackedBlock_24 ?_
  refine lv_aload_n hx hb dX6_addPackedBlock_27 rfl (lv_at hl 0 rfl) ?_
  refine va_get (D := (dC, dI)) (ci := 5) (v := .int h0_literals) (C := RX6) (T := TX6) (N := 17) hx hb hts inG_X6 hown hK hP 0 rfl rfl 11 (by decide) (hts _ kw_300) (fun _ h9 => h9) rfl dX6_addPackedBlock_28 ?_
  refine lv_aload_n hx hb dX6_addPackedBlock_31 rfl (lv_at hl 0 rfl) ?_
  refine va_get (D := (dC, dI)) (ci := 5) (v := .int h0_parts) (C := RX6) (T := TX6) (N := 17) hx hb hts inG_X6 hown hK hP 0 rfl rfl 12 (by decide) (hts _ kw_301) (fun _ h9 => h9) rfl dX6_addPackedBlock_32 ?_
  obtain ⟨x, hc, hf⟩ := bind_some hf
  obtain ⟨u2, u3⟩ := x
  dsimp only at hf
  refine nx_v (rn_V (As := [.int a1, .int (h0_at - a1), .int (r1 - h0_begin), .int h0_copies, .int h0_literals, .int h0_parts]) (rest := []) (n := 6) (ci := 1) (q0 := 0) ⟨hx, hb, hml, hown, hts⟩ (c_Blocks_addPacked (l := l) (dC := dC) (dI := dI) (cB := cB) (cI := cI) (h0 := h0_blocks) (a1 := a1) (a2 := (h0_at - a1)) (a3 := (r1 - h0_begin)) (a4 := h0_copies) (a5 := h0_literals) (a6 := h0_parts) (h0_facts := h0_blocks_facts) (h0_count := h0_blocks_count) (h0_facts_n := h0_blocks_facts_n) (h0_facts_f := h0_blocks_facts_f) (o_h0_count := u2) (o_h0_facts_f := u3) hc) (wV kw_908 kw_725 kw_726 kw_93 kw_727) (by decide +kernel) ⟨Nat.le_of_ble_eq_true rfl, Nat.le_of_ble_eq_true rfl⟩ hK hP hD hN hT hS (va_free (wc := [(h0_blocks, .inr (1, [.ref h0_blocks_facts, .int h0_blocks_count])), (h0_blocks_facts, .inl (cI, h0_blocks_facts_n, .inl h0_blocks_facts_f))]) hD hS hA [2, 3] rfl) [2, 3] rfl (by decide) rfl rfl rfl hl.1 rfl (lv_room (Nat.le_of_ble_eq_true rfl)) dX6_addPackedBlock_35 ⟨Nat.le_of_ble_eq_true rfl, Nat.le_of_ble_eq_true rfl⟩) hP hD hS hA (wr := [(h0, .inr (5, [w_h0_input, w_h0_words, w_h0_settings, .ref h0_to, .ref h0_blocks, w_h0_broken, w_h0_brokenAt, .int h0_at, w_h0_end, .int h0_begin, .int h0_copies, .int h0_literals, .int h0_parts, w_h0_frameBegin, w_h0_flags, w_h0_width, w_h0_size])), (h0_to, .inr (2, [w_h0_to_held, .int h0_to_count]))]) (w1 := [(h0_blocks, .inr (1, [.ref h0_blocks_facts, .int u2])), (h0_blocks_facts, .inl (cI, h0_blocks_facts_n, .inl u3))]) (ws' := [(h0, .inr (5, [w_h0_input, w_h0_words, w_h0_settings, .ref h0_to, .ref h0_blocks, w_h0_broken, w_h0_brokenAt, .int h0_at, w_h0_end, .int h0_begin, .int h0_copies, .int h0_literals, .int h0_parts, w_h0_frameBegin, w_h0_flags, w_h0_width, w_h0_size])), (h0_to, .inr (2, [w_h0_to_held, .int h0_to_count])), (h0_blocks, .inr (1, [.ref h0_blocks_facts, .int u2])), (h0_blocks_facts, .inl (cI, h0_blocks_facts_n, .inl u3))]) [2, 3] [0, 1] [0, 1, 2, 3] rfl rfl (by decide) (by decide) rfl (by decide) (fun H locs hP hD hS => ?_)
  obtain ⟨rfl, hq_1⟩ := Prod.mk.inj (Option.some.inj hf)
  obtain rfl := hq_1
  exact rt_v hQ hx hb hr hlocks hP hD hS dX6_addPackedBlock_38

theorem dX6_openWholeSequences_0 : decode cX6_openWholeSequences 0 = .ok (.aload_n 0, 1) := by decide +kernel
theorem dX6_openWholeSequences_1 : decode cX6_openWholeSequences 1 = .ok (.iconst 0, 1) := by decide +kernel
theorem dX6_openWholeSequences_2 : decode cX6_openWholeSequences 2 = .ok (.invokevirtual 57, 3) := by decide +kernel
theorem dX6_openWholeSequences_5 : decode cX6_openWholeSequences 5 = .ok (.ifCond .ne 5, 3) := by decide +kernel
theorem dX6_openWholeSequences_8 : decode cX6_openWholeSequences 8 = .ok (.iconst 0, 1) := by decide +kernel
theorem dX6_openWholeSequences_9 : decode cX6_openWholeSequences 9 = .ok (.ireturn, 1) := by decide +kernel
theorem dX6_openWholeSequences_10 : decode cX6_openWholeSequences 10 = .ok (.aload_n 0, 1) := by decide +kernel
theorem dX6_openWholeSequences_11 : decode cX6_openWholeSequences 11 = .ok (.iconst 0, 1) := by decide +kernel
theorem dX6_openWholeSequences_12 : decode cX6_openWholeSequences 12 = .ok (.invokevirtual 61, 3) := by decide +kernel
theorem dX6_openWholeSequences_15 : decode cX6_openWholeSequences 15 = .ok (.iconst 1, 1) := by decide +kernel
theorem dX6_openWholeSequences_16 : decode cX6_openWholeSequences 16 = .ok (.ireturn, 1) := by decide +kernel
def m_Opener_openWholeSequences (h0_broken : Int32) (h0_brokenAt : Int32) (h0_at : Int32) (h0_end : Int32) (h0_input_count : Int32) (h0_to_count : Int32) (h0_words_count : Int32) (h0_input_held_n : Nat) (h0_input_held_f : Nat → Int32) (h0_to_held_n : Nat) (h0_to_held_f : Nat → Int32) (h0_words_held_n : Nat) (h0_words_held_f : Nat → Int32) (h0_blocks_count : Int32) (h0_blocks_facts_n : Nat) (h0_blocks_facts_f : Nat → Int32) : Option (Int32 × Int32 × Int32 × Int32 × Int32 × Int32 × Int32 × Int32 × Int32 × (Nat → Int32) × Int32 × (Nat → Int32)) :=
  (m_Opener_openSequences (0 : Int32) h0_broken h0_brokenAt h0_at h0_end h0_to_count h0_input_count h0_input_held_n h0_input_held_f h0_to_held_n h0_to_held_f h0_words_count h0_words_held_n h0_words_held_f).bind fun (r1, u2, u3, u4, u5, u6, u7, u8, u9, u10) =>
  if r1 = 0 then
    some ((0 : Int32), u2, u3, u4, u5, u6, u7, u8, u9, u10, h0_blocks_count, h0_blocks_facts_f)
  else
    (m_Opener_addPackedBlock (0 : Int32) u4 u5 u6 u7 u8 u9 h0_blocks_count h0_blocks_facts_n h0_blocks_facts_f).bind fun (u11, u12) =>
    some ((1 : Int32), u2, u3, u4, u5, u6, u7, u8, u9, u10, u11, u12)
def rm_Opener_openWholeSequences : Room := { frames := 5, cells := 0, slots := 0, locals := 139 }
set_option maxHeartbeats 4000000 in
set_option maxRecDepth 100000 in
theorem c_Opener_openWholeSequences {l : Launch} {dC : Nat → ClassId} {dI : Nat → Nat → Nat} {cB cI : ClassId} {sz : Nat} {h0 : Nat} {h0_input : Nat} {h0_to : Nat} {h0_words : Nat} {h0_input_held : Nat} {h0_to_held : Nat} {h0_words_held : Nat} {h0_blocks : Nat} {h0_blocks_facts : Nat} {w_h0_settings : Value} {h0_broken : Int32} {h0_brokenAt : Int32} {h0_at : Int32} {h0_end : Int32} {h0_begin : Int32} {h0_copies : Int32} {h0_literals : Int32} {h0_parts : Int32} {w_h0_frameBegin : Value} {w_h0_flags : Value} {w_h0_width : Value} {w_h0_size : Value} {h0_input_count : Int32} {h0_to_count : Int32} {h0_words_count : Int32} {h0_input_held_n : Nat} {h0_input_held_f : Nat → Int32} {h0_to_held_n : Nat} {h0_to_held_f : Nat → Int32} {h0_words_held_n : Nat} {h0_words_held_f : Nat → Int32} {h0_blocks_count : Int32} {h0_blocks_facts_n : Nat} {h0_blocks_facts_f : Nat → Int32} {o_r : Int32} {o_h0_broken : Int32} {o_h0_brokenAt : Int32} {o_h0_at : Int32} {o_h0_begin : Int32} {o_h0_copies : Int32} {o_h0_literals : Int32} {o_h0_parts : Int32} {o_h0_to_count : Int32} {o_h0_to_held_f : Nat → Int32} {o_h0_blocks_count : Int32} {o_h0_blocks_facts_f : Nat → Int32} (hf : m_Opener_openWholeSequences h0_broken h0_brokenAt h0_at h0_end h0_input_count h0_to_count h0_words_count h0_input_held_n h0_input_held_f h0_to_held_n h0_to_held_f h0_words_held_n h0_words_held_f h0_blocks_count h0_blocks_facts_n h0_blocks_facts_f = some (o_r, o_h0_broken, o_h0_brokenAt, o_h0_at, o_h0_begin, o_h0_copies, o_h0_literals, o_h0_parts, o_h0_to_count, o_h0_to_held_f, o_h0_blocks_count, o_h0_blocks_facts_f)) : Met l yX6_openWholeSequences (Cond.code yX6_openWholeSequences cX6_openWholeSequences 1 (some .boolean) :: lw_G) rm_Opener_openWholeSequences (PreC (dC, dI) [(cB, .byte), (cI, .int)] [.ref h0] sz [(h0, .inr (5, [.ref h0_input, .ref h0_words, w_h0_settings, .ref h0_to, .ref h0_blocks, .int h0_broken, .int h0_brokenAt, .int h0_at, .int h0_end, .int h0_begin, .int h0_copies, .int h0_literals, .int h0_parts, w_h0_frameBegin, w_h0_flags, w_h0_width, w_h0_size])), (h0_input, .inr (2, [.ref h0_input_held, .int h0_input_count])), (h0_to, .inr (2, [.ref h0_to_held, .int h0_to_count])), (h0_words, .inr (2, [.ref h0_words_held, .int h0_words_count])), (h0_input_held, .inl (cB, h0_input_held_n, .inl h0_input_held_f)), (h0_to_held, .inl (cB, h0_to_held_n, .inl h0_to_held_f)), (h0_words_held, .inl (cB, h0_words_held_n, .inl h0_words_held_f)), (h0_blocks, .inr (1, [.ref h0_blocks_facts, .int h0_blocks_count])), (h0_blocks_facts, .inl (cI, h0_blocks_facts_n, .inl h0_blocks_facts_f))]) (QcI o_r (dC, dI) [(h0, .inr (5, [.ref h0_input, .ref h0_words, w_h0_settings, .ref h0_to, .ref h0_blocks, .int o_h0_broken, .int o_h0_brokenAt, .int o_h0_at, .int h0_end, .int o_h0_begin, .int o_h0_copies, .int o_h0_literals, .int o_h0_parts, w_h0_frameBegin, w_h0_flags, w_h0_width, w_h0_size])), (h0_input, .inr (2, [.ref h0_input_held, .int h0_input_count])), (h0_to, .inr (2, [.ref h0_to_held, .int o_h0_to_count])), (h0_words, .inr (2, [.ref h0_words_held, .int h0_words_count])), (h0_input_held, .inl (cB, h0_input_held_n, .inl h0_input_held_f)), (h0_to_held, .inl (cB, h0_to_held_n, .inl o_h0_to_held_f)), (h0_words_held, .inl (cB, h0_words_held_n, .inl h0_words_held_f)), (h0_blocks, .inr (1, [.ref h0_blocks_facts, .int o_h0_blocks_count])), (h0_blocks_facts, .inl (cI, h0_blocks_facts_n, .inl o_h0_blocks_facts_f))] (va_A [(h0, .inr (5, [.ref h0_input, .ref h0_words, w_h0_settings, .ref h0_to, .ref h0_blocks, .int h0_broken, .int h0_brokenAt, .int h0_at, .int h0_end, .int h0_begin, .int h0_copies, .int h0_literals, .int h0_parts, w_h0_frameBegin, w_h0_flags, w_h0_width, w_h0_size])), (h0_input, .inr (2, [.ref h0_input_held, .int h0_input_count])), (h0_to, .inr (2, [.ref h0_to_held, .int h0_to_count])), (h0_words, .inr (2, [.ref h0_words_held, .int h0_words_count])), (h0_input_held, .inl (cB, h0_input_held_n, .inl h0_input_held_f)), (h0_to_held, .inl (cB, h0_to_held_n, .inl h0_to_held_f)), (h0_words_held, .inl (cB, h0_words_held_n, .inl h0_words_held_f)), (h0_blocks, .inr (1, [.ref h0_blocks_facts, .int h0_blocks_count])), (h0_blocks_facts, .inl (cI, h0_blocks_facts_n, .inl h0_blocks_facts_f))] sz)) 0 0 (va_A [(h0, .inr (5, [.ref h0_input, .ref h0_words, w_h0_settings, .ref h0_to, .ref h0_blocks, .int h0_broken, .int h0_brokenAt, .int h0_at, .int h0_end, .int h0_begin, .int h0_copies, .int h0_literals, .int h0_parts, w_h0_frameBegin, w_h0_flags, w_h0_width, w_h0_size])), (h0_input, .inr (2, [.ref h0_input_held, .int h0_input_count])), (h0_to, .inr (2, [.ref h0_to_held, .int h0_to_count])), (h0_words, .inr (2, [.ref h0_words_held, .int h0_words_count])), (h0_input_held, .inl (cB, h0_input_held_n, .inl h0_input_held_f)), (h0_to_held, .inl (cB, h0_to_held_n, .inl h0_to_held_f)), (h0_words_held, .inl (cB, h0_words_held_n, .inl h0_words_held_f)), (h0_blocks, .inr (1, [.ref h0_blocks_facts, .int h0_blocks_count])), (h0_blocks_facts, .inl (cI, h0_blocks_facts_n, .inl h0_blocks_facts_f))] sz) := by
  refine met_of (Qf := fun A => QcI o_r (dC, dI) [(h0, .inr (5, [.ref h0_input, .ref h0_words, w_h0_settings, .ref h0_to, .ref h0_blocks, .int o_h0_broken, .int o_h0_brokenAt, .int o_h0_at, .int h0_end, .int o_h0_begin, .int o_h0_copies, .int o_h0_literals, .int o_h0_parts, w_h0_frameBegin, w_h0_flags, w_h0_width, w_h0_size])), (h0_input, .inr (2, [.ref h0_input_held, .int h0_input_count])), (h0_to, .inr (2, [.ref h0_to_held, .int o_h0_to_count])), (h0_words, .inr (2, [.ref h0_words_held, .int h0_words_count])), (h0_input_held, .inl (cB, h0_input_held_n, .inl h0_input_held_f)), (h0_to_held, .inl (cB, h0_to_held_n, .inl o_h0_to_held_f)), (h0_words_held, .inl (cB, h0_words_held_n, .inl h0_words_held_f)), (h0_blocks, .inr (1, [.ref h0_blocks_facts, .int o_h0_blocks_count])), (h0_blocks_facts, .inl (cI, h0_blocks_facts_n, .inl o_h0_blocks_facts_f))] A) (by decide) (Nat.le_of_ble_eq_true rfl) ?_
  intro p e s m below meth c A ls Q hx hb hr hml hown hts hlocks hnm hP hK hD hN hT hA hl hQ
  have hown : s.vm.findClass RX6 = some m.cls := hown
  have hS : va_S A s.heap s.heap [] := va_S.rf
  have hl : lv_has ls 1 [(0, .ref h0)] := hl
  unfold m_Opener_openWholeSequences at hf
  refine lv_aload_n hx hb dX6_openWholeSequences_0 rfl (lv_at hl 0 rfl) ?_
  refine lv_iconst (v := 0) hx hb dX6_openWholeSequences_1 (by decide) ?_
  obtain ⟨x, hc, hf⟩ := bind_some hf
  obtain ⟨r1, u2, u3, u4, u5, u6, u7, u8, u9, u10⟩ := x
  dsimp only at hf
  refine nx_i (rn_V (As := [.int (0 : Int32)]) (rest := []) (n := 1) (ci := 5) (q0 := 0) ⟨hx, hb, hml, hown, hts⟩ (c_Opener_openSequences (l := l) (dC := dC) (dI := dI) (cB := cB) (cI := cI) (h0 := h0) (a1 := (0 : Int32)) (h0_to := h0_to) (h0_input := h0_input) (h0_input_held := h0_input_held) (h0_to_held := h0_to_held) (h0_words := h0_words) (h0_words_held := h0_words_held) (w_h0_settings := (w_h0_settings)) (w_h0_blocks := (.ref h0_blocks)) (h0_broken := h0_broken) (h0_brokenAt := h0_brokenAt) (h0_at := h0_at) (h0_end := h0_end) (h0_begin := h0_begin) (h0_copies := h0_copies) (h0_literals := h0_literals) (h0_parts := h0_parts) (w_h0_frameBegin := (w_h0_frameBegin)) (w_h0_flags := (w_h0_flags)) (w_h0_width := (w_h0_width)) (w_h0_size := (w_h0_size)) (h0_to_count := h0_to_count) (h0_input_count := h0_input_count) (h0_input_held_n := h0_input_held_n) (h0_input_held_f := h0_input_held_f) (h0_to_held_n := h0_to_held_n) (h0_to_held_f := h0_to_held_f) (h0_words_count := h0_words_count) (h0_words_held_n := h0_words_held_n) (h0_words_held_f := h0_words_held_f) (o_h0_broken := u2) (o_h0_brokenAt := u3) (o_h0_at := u4) (o_h0_begin := u5) (o_h0_copies := u6) (o_h0_literals := u7) (o_h0_parts := u8) (o_h0_to_count := u9) (o_h0_to_held_f := u10) (o_r := r1) hc) (wV kw_854 kw_856 kw_22 kw_92 kw_857) (by decide +kernel) ⟨Nat.le_of_ble_eq_true rfl, Nat.le_of_ble_eq_true rfl⟩ hK hP hD hN hT hS (va_free (wc := [(h0, .inr (5, [.ref h0_input, .ref h0_words, w_h0_settings, .ref h0_to, .ref h0_blocks, .int h0_broken, .int h0_brokenAt, .int h0_at, .int h0_end, .int h0_begin, .int h0_copies, .int h0_literals, .int h0_parts, w_h0_frameBegin, w_h0_flags, w_h0_width, w_h0_size])), (h0_to, .inr (2, [.ref h0_to_held, .int h0_to_count])), (h0_input, .inr (2, [.ref h0_input_held, .int h0_input_count])), (h0_input_held, .inl (cB, h0_input_held_n, .inl h0_input_held_f)), (h0_to_held, .inl (cB, h0_to_held_n, .inl h0_to_held_f)), (h0_words, .inr (2, [.ref h0_words_held, .int h0_words_count])), (h0_words_held, .inl (cB, h0_words_held_n, .inl h0_words_held_f))]) hD hS hA [0, 2, 1, 4, 5, 3, 6] rfl) [0, 2, 1, 4, 5, 3, 6] rfl (by decide) rfl rfl rfl hl.1 rfl (lv_room (Nat.le_of_ble_eq_true rfl)) dX6_openWholeSequences_2 ⟨Nat.le_of_ble_eq_true rfl, Nat.le_of_ble_eq_true rfl⟩) hP hD hS hA (wr := [(h0_blocks, .inr (1, [.ref h0_blocks_facts, .int h0_blocks_count])), (h0_blocks_facts, .inl (cI, h0_blocks_facts_n, .inl h0_blocks_facts_f))]) (w1 := [(h0, .inr (5, [.ref h0_input, .ref h0_words, w_h0_settings, .ref h0_to, .ref h0_blocks, .int u2, .int u3, .int u4, .int h0_end, .int u5, .int u6, .int u7, .int u8, w_h0_frameBegin, w_h0_flags, w_h0_width, w_h0_size])), (h0_to, .inr (2, [.ref h0_to_held, .int u9])), (h0_input, .inr (2, [.ref h0_input_held, .int h0_input_count])), (h0_input_held, .inl (cB, h0_input_held_n, .inl h0_input_held_f)), (h0_to_held, .inl (cB, h0_to_held_n, .inl u10)), (h0_words, .inr (2, [.ref h0_words_held, .int h0_words_count])), (h0_words_held, .inl (cB, h0_words_held_n, .inl h0_words_held_f))]) (ws' := [(h0, .inr (5, [.ref h0_input, .ref h0_words, w_h0_settings, .ref h0_to, .ref h0_blocks, .int u2, .int u3, .int u4, .int h0_end, .int u5, .int u6, .int u7, .int u8, w_h0_frameBegin, w_h0_flags, w_h0_width, w_h0_size])), (h0_input, .inr (2, [.ref h0_input_held, .int h0_input_count])), (h0_to, .inr (2, [.ref h0_to_held, .int u9])), (h0_words, .inr (2, [.ref h0_words_held, .int h0_words_count])), (h0_input_held, .inl (cB, h0_input_held_n, .inl h0_input_held_f)), (h0_to_held, .inl (cB, h0_to_held_n, .inl u10)), (h0_words_held, .inl (cB, h0_words_held_n, .inl h0_words_held_f)), (h0_blocks, .inr (1, [.ref h0_blocks_facts, .int h0_blocks_count])), (h0_blocks_facts, .inl (cI, h0_blocks_facts_n, .inl h0_blocks_facts_f))]) [0, 2, 1, 4, 5, 3, 6] [7, 8] [2, 4, 3, 7, 5, 6, 8, 0, 1] rfl rfl (by decide) (by decide) rfl (by decide) (fun H locs hP hD hS => ?_)
  refine lv_if_ne (tgt := 10) hx hb dX6_openWholeSequences_5 (by decide) (fun c_5 => ?_) (fun c_5 => ?_)
  · replace hf := if_f c_5 hf
    refine lv_aload_n hx hb dX6_openWholeSequences_10 rfl (lv_at hl 0 rfl) ?_
    refine lv_iconst (v := 0) hx hb dX6_openWholeSequences_11 (by decide) ?_
    obtain ⟨x, hc, hf⟩ := bind_some hf
    obtain ⟨u11, u12⟩ := x
    dsimp only at hf
    refine nx_v (rn_V (As := [.int (0 : Int32)]) (rest := []) (n := 1) (ci := 5) (q0 := 0) ⟨hx, hb, hml, hown, hts⟩ (c_Opener_addPackedBlock (l := l) (dC := dC) (dI := dI) (cB := cB) (cI := cI) (h0 := h0) (a1 := (0 : Int32)) (h0_to := h0_to) (h0_blocks := h0_blocks) (h0_blocks_facts := h0_blocks_facts) (w_h0_input := (.ref h0_input)) (w_h0_words := (.ref h0_words)) (w_h0_settings := (w_h0_settings)) (w_h0_broken := (.int u2)) (w_h0_brokenAt := (.int u3)) (h0_at := u4) (w_h0_end := (.int h0_end)) (h0_begin := u5) (h0_copies := u6) (h0_literals := u7) (h0_parts := u8) (w_h0_frameBegin := (w_h0_frameBegin)) (w_h0_flags := (w_h0_flags)) (w_h0_width := (w_h0_width)) (w_h0_size := (w_h0_size)) (w_h0_to_held := (.ref h0_to_held)) (h0_to_count := u9) (h0_blocks_count := h0_blocks_count) (h0_blocks_facts_n := h0_blocks_facts_n) (h0_blocks_facts_f := h0_blocks_facts_f) (o_h0_blocks_count := u11) (o_h0_blocks_facts_f := u12) hc) (wV kw_904 kw_906 kw_31 kw_92 kw_907) (by decide +kernel) ⟨Nat.le_of_ble_eq_true rfl, Nat.le_of_ble_eq_true rfl⟩ hK hP hD hN hT hS (va_free (wc := [(h0, .inr (5, [.ref h0_input, .ref h0_words, w_h0_settings, .ref h0_to, .ref h0_blocks, .int u2, .int u3, .int u4, .int h0_end, .int u5, .int u6, .int u7, .int u8, w_h0_frameBegin, w_h0_flags, w_h0_width, w_h0_size])), (h0_to, .inr (2, [.ref h0_to_held, .int u9])), (h0_blocks, .inr (1, [.ref h0_blocks_facts, .int h0_blocks_count])), (h0_blocks_facts, .inl (cI, h0_blocks_facts_n, .inl h0_blocks_facts_f))]) hD hS hA [0, 2, 7, 8] rfl) [0, 2, 7, 8] rfl (by decide) rfl rfl rfl hl.1 rfl (lv_room (Nat.le_of_ble_eq_true rfl)) dX6_openWholeSequences_12 ⟨Nat.le_of_ble_eq_true rfl, Nat.le_of_ble_eq_true rfl⟩) hP hD hS hA (wr := [(h0_input, .inr (2, [.ref h0_input_held, .int h0_input_count])), (h0_words, .inr (2, [.ref h0_words_held, .int h0_words_count])), (h0_input_held, .inl (cB, h0_input_held_n, .inl h0_input_held_f)), (h0_to_held, .inl (cB, h0_to_held_n, .inl u10)), (h0_words_held, .inl (cB, h0_words_held_n, .inl h0_words_held_f))]) (w1 := [(h0, .inr (5, [.ref h0_input, .ref h0_words, w_h0_settings, .ref h0_to, .ref h0_blocks, .int u2, .int u3, .int u4, .int h0_end, .int u5, .int u6, .int u7, .int u8, w_h0_frameBegin, w_h0_flags, w_h0_width, w_h0_size])), (h0_to, .inr (2, [.ref h0_to_held, .int u9])), (h0_blocks, .inr (1, [.ref h0_blocks_facts, .int u11])), (h0_blocks_facts, .inl (cI, h0_blocks_facts_n, .inl u12))]) (ws' := [(h0, .inr (5, [.ref h0_input, .ref h0_words, w_h0_settings, .ref h0_to, .ref h0_blocks, .int u2, .int u3, .int u4, .int h0_end, .int u5, .int u6, .int u7, .int u8, w_h0_frameBegin, w_h0_flags, w_h0_width, w_h0_size])), (h0_input, .inr (2, [.ref h0_input_held, .int h0_input_count])), (h0_to, .inr (2, [.ref h0_to_held, .int u9])), (h0_words, .inr (2, [.ref h0_words_held, .int h0_words_count])), (h0_input_held, .inl (cB, h0_input_held_n, .inl h0_input_held_f)), (h0_to_held, .inl (cB, h0_to_held_n, .inl u10)), (h0_words_held, .inl (cB, h0_words_held_n, .inl h0_words_held_f)), (h0_blocks, .inr (1, [.ref h0_blocks_facts, .int u11])), (h0_blocks_facts, .inl (cI, h0_blocks_facts_n, .inl u12))]) [0, 2, 7, 8] [1, 3, 4, 5, 6] [5, 0, 6, 1, 2, 3, 4, 7, 8] rfl rfl (by decide) (by decide) rfl (by decide) (fun H locs hP hD hS => ?_)
    refine lv_iconst (v := 1) hx hb dX6_openWholeSequences_15 (by decide) ?_
    have hzb : narrow .boolean (.int (1 : Int32)) = .int (1 : Int32) := rfl
    obtain ⟨rfl, hq_1⟩ := Prod.mk.inj (Option.some.inj hf)
    obtain ⟨rfl, hq_2⟩ := Prod.mk.inj hq_1
    obtain ⟨rfl, hq_3⟩ := Prod.mk.inj hq_2
    obtain ⟨rfl, hq_4⟩ := Prod.mk.inj hq_3
    obtain ⟨rfl, hq_5⟩ := Prod.mk.inj hq_4
    obtain ⟨rfl, hq_6⟩ := Prod.mk.inj hq_5
    obtain ⟨rfl, hq_7⟩ := Prod.mk.inj hq_6
    obtain ⟨rfl, hq_8⟩ := Prod.mk.inj hq_7
    obtain ⟨rfl, hq_9⟩ := Prod.mk.inj hq_8
    obtain ⟨rfl, hq_10⟩ := Prod.mk.inj hq_9
    obtain ⟨rfl, hq_11⟩ := Prod.mk.inj hq_10
    obtain rfl := hq_11
    exact rt_z hQ hx hb hr hzb hlocks hP hD hS dX6_openWholeSequences_16
  · replace hf := if_t c_5 hf
    refine lv_iconst (v := 0) hx hb dX6_openWholeSequences_8 (by decide) ?_
    have hzb : narrow .boolean (.int (0 : Int32)) = .int (0 : Int32) := rfl
    obtain ⟨rfl, hq_1⟩ := Prod.mk.inj (Option.some.inj hf)
    obtain ⟨rfl, hq_2⟩ := Prod.mk.inj hq_1
    obtain ⟨rfl, hq_3⟩ := Prod.mk.inj hq_2
    obtain ⟨rfl, hq_4⟩ := Prod.mk.inj hq_3
    obtain ⟨rfl, hq_5⟩ := Prod.mk.inj hq_4
    obtain ⟨rfl, hq_6⟩ := Prod.mk.inj hq_5
    obtain ⟨rfl, hq_7⟩ := Prod.mk.inj hq_6
    obtain ⟨rfl, hq_8⟩ := Prod.mk.inj hq_7
    obtain ⟨rfl, hq_9⟩ := Prod.mk.inj hq_8
    obtain ⟨rfl, hq_10⟩ := Prod.mk.inj hq_9
    obtain ⟨rfl, hq_11⟩ := Prod.mk.inj hq_10
    obtain rfl := hq_11
    exact rt_z hQ hx hb hr hzb hlocks hP hD hS dX6_openWholeSequences_9

theorem dX6_openLiterals_0 : decode cX6_openLiterals 0 = .ok (.aload_n 0, 1) := by decide +kernel
theorem dX6_openLiterals_1 : decode cX6_openLiterals 1 = .ok (.getfield 29, 3) := by decide +kernel
theorem dX6_openLiterals_4 : decode cX6_openLiterals 4 = .ok (.invokevirtual 50, 3) := by decide +kernel
theorem dX6_openLiterals_7 : decode cX6_openLiterals 7 = .ok (.i2l, 1) := by decide +kernel
theorem dX6_openLiterals_8 : decode cX6_openLiterals 8 = .ok (.lload_n 2, 1) := by decide +kernel
theorem dX6_openLiterals_9 : decode cX6_openLiterals 9 = .ok (.ladd, 1) := by decide +kernel
theorem dX6_openLiterals_10 : decode cX6_openLiterals 10 = .ok (.iload 4, 2) := by decide +kernel
theorem dX6_openLiterals_12 : decode cX6_openLiterals 12 = .ok (.i2l, 1) := by decide +kernel
theorem dX6_openLiterals_13 : decode cX6_openLiterals 13 = .ok (.lcmp, 1) := by decide +kernel
theorem dX6_openLiterals_14 : decode cX6_openLiterals 14 = .ok (.ifCond .le 11, 3) := by decide +kernel
theorem dX6_openLiterals_17 : decode cX6_openLiterals 17 = .ok (.aload_n 0, 1) := by decide +kernel
theorem dX6_openLiterals_18 : decode cX6_openLiterals 18 = .ok (.bipush 14, 2) := by decide +kernel
theorem dX6_openLiterals_20 : decode cX6_openLiterals 20 = .ok (.iload_n 1, 1) := by decide +kernel
theorem dX6_openLiterals_21 : decode cX6_openLiterals 21 = .ok (.invokevirtual 98, 3) := by decide +kernel
theorem dX6_openLiterals_24 : decode cX6_openLiterals 24 = .ok (.ireturn, 1) := by decide +kernel
theorem dX6_openLiterals_25 : decode cX6_openLiterals 25 = .ok (.lload_n 2, 1) := by decide +kernel
theorem dX6_openLiterals_26 : decode cX6_openLiterals 26 = .ok (.aload_n 0, 1) := by decide +kernel
theorem dX6_openLiterals_27 : decode cX6_openLiterals 27 = .ok (.getfield 54, 3) := by decide +kernel
theorem dX6_openLiterals_30 : decode cX6_openLiterals 30 = .ok (.aload_n 0, 1) := by decide +kernel
theorem dX6_openLiterals_31 : decode cX6_openLiterals 31 = .ok (.getfield 47, 3) := by decide +kernel
theorem dX6_openLiterals_34 : decode cX6_openLiterals 34 = .ok (.isub, 1) := by decide +kernel
theorem dX6_openLiterals_35 : decode cX6_openLiterals 35 = .ok (.i2l, 1) := by decide +kernel
theorem dX6_openLiterals_36 : decode cX6_openLiterals 36 = .ok (.lcmp, 1) := by decide +kernel
theorem dX6_openLiterals_37 : decode cX6_openLiterals 37 = .ok (.ifCond .le 13, 3) := by decide +kernel
theorem dX6_openLiterals_40 : decode cX6_openLiterals 40 = .ok (.aload_n 0, 1) := by decide +kernel
theorem dX6_openLiterals_41 : decode cX6_openLiterals 41 = .ok (.iconst 1, 1) := by decide +kernel
theorem dX6_openLiterals_42 : decode cX6_openLiterals 42 = .ok (.aload_n 0, 1) := by decide +kernel
theorem dX6_openLiterals_43 : decode cX6_openLiterals 43 = .ok (.getfield 54, 3) := by decide +kernel
theorem dX6_openLiterals_46 : decode cX6_openLiterals 46 = .ok (.invokevirtual 98, 3) := by decide +kernel
theorem dX6_openLiterals_49 : decode cX6_openLiterals 49 = .ok (.ireturn, 1) := by decide +kernel
theorem dX6_openLiterals_50 : decode cX6_openLiterals 50 = .ok (.aload_n 0, 1) := by decide +kernel
theorem dX6_openLiterals_51 : decode cX6_openLiterals 51 = .ok (.getfield 29, 3) := by decide +kernel
theorem dX6_openLiterals_54 : decode cX6_openLiterals 54 = .ok (.aload_n 0, 1) := by decide +kernel
theorem dX6_openLiterals_55 : decode cX6_openLiterals 55 = .ok (.getfield 9, 3) := by decide +kernel
theorem dX6_openLiterals_58 : decode cX6_openLiterals 58 = .ok (.aload_n 0, 1) := by decide +kernel
theorem dX6_openLiterals_59 : decode cX6_openLiterals 59 = .ok (.getfield 47, 3) := by decide +kernel
theorem dX6_openLiterals_62 : decode cX6_openLiterals 62 = .ok (.lload_n 2, 1) := by decide +kernel
theorem dX6_openLiterals_63 : decode cX6_openLiterals 63 = .ok (.l2i, 1) := by decide +kernel
theorem dX6_openLiterals_64 : decode cX6_openLiterals 64 = .ok (.invokevirtual 106, 3) := by decide +kernel
theorem dX6_openLiterals_67 : decode cX6_openLiterals 67 = .ok (.aload_n 0, 1) := by decide +kernel
theorem dX6_openLiterals_68 : decode cX6_openLiterals 68 = .ok (.dup, 1) := by decide +kernel
theorem dX6_openLiterals_69 : decode cX6_openLiterals 69 = .ok (.getfield 47, 3) := by decide +kernel
theorem dX6_openLiterals_72 : decode cX6_openLiterals 72 = .ok (.lload_n 2, 1) := by decide +kernel
theorem dX6_openLiterals_73 : decode cX6_openLiterals 73 = .ok (.l2i, 1) := by decide +kernel
theorem dX6_openLiterals_74 : decode cX6_openLiterals 74 = .ok (.iadd, 1) := by decide +kernel
theorem dX6_openLiterals_75 : decode cX6_openLiterals 75 = .ok (.putfield 47, 3) := by decide +kernel
theorem dX6_openLiterals_78 : decode cX6_openLiterals 78 = .ok (.aload_n 0, 1) := by decide +kernel
theorem dX6_openLiterals_79 : decode cX6_openLiterals 79 = .ok (.dup, 1) := by decide +kernel
theorem dX6_openLiterals_80 : decode cX6_openLiterals 80 = .ok (.getfield 74, 3) := by decide +kernel
theorem dX6_openLiterals_83 : decode cX6_openLiterals 83 = .ok (.lload_n 2, 1) := by decide +kernel
theorem dX6_openLiterals_84 : decode cX6_openLiterals 84 = .ok (.l2i, 1) := by decide +kernel
theorem dX6_openLiterals_85 : decode cX6_openLiterals 85 = .ok (.iadd, 1) := by decide +kernel
theorem dX6_openLiterals_86 : decode cX6_openLiterals 86 = .ok (.putfield 74, 3) := by decide +kernel
theorem dX6_openLiterals_89 : decode cX6_openLiterals 89 = .ok (.iconst 1, 1) := by decide +kernel
theorem dX6_openLiterals_90 : decode cX6_openLiterals 90 = .ok (.ireturn, 1) := by decide +kernel
def m_Opener_openLiterals (a1 : Int32) (a2 : Int64) (a3 : Int32) (h0_broken : Int32) (h0_brokenAt : Int32) (h0_at : Int32) (h0_end : Int32) (h0_literals : Int32) (h0_to_count : Int32) (h0_input_count : Int32) (h0_to_held_n : Nat) (h0_to_held_f : Nat → Int32) (h0_input_held_n : Nat) (h0_input_held_f : Nat → Int32) : Option (Int32 × Int32 × Int32 × Int32 × Int32 × Int32 × (Nat → Int32)) :=
  (m_Bytes_size h0_to_count).bind fun r1 =>
  if (lg_cmp ((r1.toInt64) + a2) (a3.toInt64)) ≤ 0 then
    if (lg_cmp a2 ((h0_end - h0_at).toInt64)) ≤ 0 then
      (m_Bytes_addRange h0_at (a2.toInt32) h0_to_count h0_input_count h0_to_held_n h0_to_held_f h0_input_held_n h0_input_held_f).bind fun (u2, u3) =>
      bnd (h0_at + (a2.toInt32)) fun p_4 =>
      bnd (h0_literals + (a2.toInt32)) fun p_5 =>
      some ((1 : Int32), h0_broken, h0_brokenAt, p_4, p_5, u2, u3)
    else
      (m_Opener_breaks (1 : Int32) h0_end).bind fun (r6, u7, u8) =>
      bch r6 <|
      some (r6, u7, u8, h0_at, h0_literals, h0_to_count, h0_to_held_f)
  else
    (m_Opener_breaks (14 : Int32) a1).bind fun (r9, u10, u11) =>
    bch r9 <|
    some (r9, u10, u11, h0_at, h0_literals, h0_to_count, h0_to_held_f)
def rm_Opener_openLiterals : Room := { frames := 2, cells := 0, slots := 0, locals := 63 }
set_option maxHeartbeats 4000000 in
set_option maxRecDepth 100000 in
theorem c_Opener_openLiterals {l : Launch} {dC : Nat → ClassId} {dI : Nat → Nat → Nat} {cB cI : ClassId} {sz : Nat} {h0 : Nat} {a1 : Int32} {a2 : Int64} {a3 : Int32} {h0_to : Nat} {h0_input : Nat} {h0_to_held : Nat} {h0_input_held : Nat} {w_h0_words : Value} {w_h0_settings : Value} {w_h0_blocks : Value} {h0_broken : Int32} {h0_brokenAt : Int32} {h0_at : Int32} {h0_end : Int32} {w_h0_begin : Value} {w_h0_copies : Value} {h0_literals : Int32} {w_h0_parts : Value} {w_h0_frameBegin : Value} {w_h0_flags : Value} {w_h0_width : Value} {w_h0_size : Value} {h0_to_count : Int32} {h0_input_count : Int32} {h0_to_held_n : Nat} {h0_to_held_f : Nat → Int32} {h0_input_held_n : Nat} {h0_input_held_f : Nat → Int32} {o_r : Int32} {o_h0_broken : Int32} {o_h0_brokenAt : Int32} {o_h0_at : Int32} {o_h0_literals : Int32} {o_h0_to_count : Int32} {o_h0_to_held_f : Nat → Int32} (hf : m_Opener_openLiterals a1 a2 a3 h0_broken h0_brokenAt h0_at h0_end h0_literals h0_to_count h0_input_count h0_to_held_n h0_to_held_f h0_input_held_n h0_input_held_f = some (o_r, o_h0_broken, o_h0_brokenAt, o_h0_at, o_h0_literals, o_h0_to_count, o_h0_to_held_f)) : Met l yX6_openLiterals (Cond.code yX6_openLiterals cX6_openLiterals 5 (some .boolean) :: lw_G) rm_Opener_openLiterals (PreC (dC, dI) [(cB, .byte), (cI, .int)] [.ref h0, .int a1, .long a2, .int a3] sz [(h0, .inr (5, [.ref h0_input, w_h0_words, w_h0_settings, .ref h0_to, w_h0_blocks, .int h0_broken, .int h0_brokenAt, .int h0_at, .int h0_end, w_h0_begin, w_h0_copies, .int h0_literals, w_h0_parts, w_h0_frameBegin, w_h0_flags, w_h0_width, w_h0_size])), (h0_to, .inr (2, [.ref h0_to_held, .int h0_to_count])), (h0_input, .inr (2, [.ref h0_input_held, .int h0_input_count])), (h0_to_held, .inl (cB, h0_to_held_n, .inl h0_to_held_f)), (h0_input_held, .inl (cB, h0_input_held_n, .inl h0_input_held_f))]) (QcI o_r (dC, dI) [(h0, .inr (5, [.ref h0_input, w_h0_words, w_h0_settings, .ref h0_to, w_h0_blocks, .int o_h0_broken, .int o_h0_brokenAt, .int o_h0_at, .int h0_end, w_h0_begin, w_h0_copies, .int o_h0_literals, w_h0_parts, w_h0_frameBegin, w_h0_flags, w_h0_width, w_h0_size])), (h0_to, .inr (2, [.ref h0_to_held, .int o_h0_to_count])), (h0_input, .inr (2, [.ref h0_input_held, .int h0_input_count])), (h0_to_held, .inl (cB, h0_to_held_n, .inl o_h0_to_held_f)), (h0_input_held, .inl (cB, h0_input_held_n, .inl h0_input_held_f))] (va_A [(h0, .inr (5, [.ref h0_input, w_h0_words, w_h0_settings, .ref h0_to, w_h0_blocks, .int h0_broken, .int h0_brokenAt, .int h0_at, .int h0_end, w_h0_begin, w_h0_copies, .int h0_literals, w_h0_parts, w_h0_frameBegin, w_h0_flags, w_h0_width, w_h0_size])), (h0_to, .inr (2, [.ref h0_to_held, .int h0_to_count])), (h0_input, .inr (2, [.ref h0_input_held, .int h0_input_count])), (h0_to_held, .inl (cB, h0_to_held_n, .inl h0_to_held_f)), (h0_input_held, .inl (cB, h0_input_held_n, .inl h0_input_held_f))] sz)) 0 0 (va_A [(h0, .inr (5, [.ref h0_input, w_h0_words, w_h0_settings, .ref h0_to, w_h0_blocks, .int h0_broken, .int h0_brokenAt, .int h0_at, .int h0_end, w_h0_begin, w_h0_copies, .int h0_literals, w_h0_parts, w_h0_frameBegin, w_h0_flags, w_h0_width, w_h0_size])), (h0_to, .inr (2, [.ref h0_to_held, .int h0_to_count])), (h0_input, .inr (2, [.ref h0_input_held, .int h0_input_count])), (h0_to_held, .inl (cB, h0_to_held_n, .inl h0_to_held_f)), (h0_input_held, .inl (cB, h0_input_held_n, .inl h0_input_held_f))] sz) := by
  refine met_of (Qf := fun A => QcI o_r (dC, dI) [(h0, .inr (5, [.ref h0_input, w_h0_words, w_h0_settings, .ref h0_to, w_h0_blocks, .int o_h0_broken, .int o_h0_brokenAt, .int o_h0_at, .int h0_end, w_h0_begin, w_h0_copies, .int o_h0_literals, w_h0_parts, w_h0_frameBegin, w_h0_flags, w_h0_width, w_h0_size])), (h0_to, .inr (2, [.ref h0_to_held, .int o_h0_to_count])), (h0_input, .inr (2, [.ref h0_input_held, .int h0_input_count])), (h0_to_held, .inl (cB, h0_to_held_n, .inl o_h0_to_held_f)), (h0_input_held, .inl (cB, h0_input_held_n, .inl h0_input_held_f))] A) (by decide) (Nat.le_of_ble_eq_true rfl) ?_
  intro p e s m below meth c A ls Q hx hb hr hml hown hts hlocks hnm hP hK hD hN hT hA hl hQ
  have hown : s.vm.findClass RX6 = some m.cls := hown
  have hS : va_S A s.heap s.heap [] := va_S.rf
  have hl : lv_has ls 5 [(0, .ref h0), (1, .int a1), (2, .long a2), (4, .int a3)] := hl
  unfold m_Opener_openLiterals at hf
  refine lv_aload_n hx hb dX6_openLiterals_0 rfl (lv_at hl 0 rfl) ?_
  refine va_get (D := (dC, dI)) (ci := 5) (v := .ref h0_to) (C := RX6) (T := TX6) (N := 17) hx hb hts inG_X6 hown hK hP 0 rfl rfl 3 (by decide) (hts _ kw_292) (fun _ h9 => h9) rfl dX6_openLiterals_1 ?_
  obtain ⟨r1, hc, hf⟩ := bind_some hf
  refine nx_i (rn_V (As := []) (rest := []) (n := 0) (ci := 2) (q0 := 0) ⟨hx, hb, hml, hown, hts⟩ (c_Bytes_size (l := l) (dC := dC) (dI := dI) (cB := cB) (cI := cI) (h0 := h0_to) (w_h0_held := (.ref h0_to_held)) (h0_count := h0_to_count)  (o_r := r1) hc) (wV kw_849 kw_402 kw_403 kw_83 kw_404) (by decide +kernel) ⟨Nat.le_of_ble_eq_true rfl, Nat.le_of_ble_eq_true rfl⟩ hK hP hD hN hT hS (va_free (wc := [(h0_to, .inr (2, [.ref h0_to_held, .int h0_to_count]))]) hD hS hA [1] rfl) [1] rfl (by decide) rfl rfl rfl hl.1 rfl (lv_room (Nat.le_of_ble_eq_true rfl)) dX6_openLiterals_4 ⟨Nat.le_of_ble_eq_true rfl, Nat.le_of_ble_eq_true rfl⟩) hP hD hS hA (wr := [(h0, .inr (5, [.ref h0_input, w_h0_words, w_h0_settings, .ref h0_to, w_h0_blocks, .int h0_broken, .int h0_brokenAt, .int h0_at, .int h0_end, w_h0_begin, w_h0_copies, .int h0_literals, w_h0_parts, w_h0_frameBegin, w_h0_flags, w_h0_width, w_h0_size])), (h0_input, .inr (2, [.ref h0_input_held, .int h0_input_count])), (h0_to_held, .inl (cB, h0_to_held_n, .inl h0_to_held_f)), (h0_input_held, .inl (cB, h0_input_held_n, .inl h0_input_held_f))]) (w1 := [(h0_to, .inr (2, [.ref h0_to_held, .int h0_to_count]))]) (ws' := [(h0, .inr (5, [.ref h0_input, w_h0_words, w_h0_settings, .ref h0_to, w_h0_blocks, .int h0_broken, .int h0_brokenAt, .int h0_at, .int h0_end, w_h0_begin, w_h0_copies, .int h0_literals, w_h0_parts, w_h0_frameBegin, w_h0_flags, w_h0_width, w_h0_size])), (h0_to, .inr (2, [.ref h0_to_held, .int h0_to_count])), (h0_input, .inr (2, [.ref h0_input_held, .int h0_input_count])), (h0_to_held, .inl (cB, h0_to_held_n, .inl h0_to_held_f)), (h0_input_held, .inl (cB, h0_input_held_n, .inl h0_input_held_f))]) [1] [0, 2, 3, 4] [0, 4, 1, 2, 3] rfl rfl (by decide) (by decide) rfl (by decide) (fun H locs hP hD hS => ?_)
  refine lv_i2l (v := (r1.toInt64)) hx hb dX6_openLiterals_7 rfl ?_
  refine lv_lload_n hx hb dX6_openLiterals_8 rfl (lv_at hl 2 rfl) ?_
  refine lv_ladd hx hb dX6_openLiterals_9 ?_
  refine lv_iload hx hb dX6_openLiterals_10 (lv_at hl 3 rfl) ?_
  refine lv_i2l (v := (a3.toInt64)) hx hb dX6_openLiterals_12 rfl ?_
  refine W.lcmp hx hb dX6_openLiterals_13 ?_
  refine lv_if_le (tgt := 25) hx hb dX6_openLiterals_14 (by decide) (fun c_14 => ?_) (fun c_14 => ?_)
  · replace hf := if_t c_14 hf
    refine lv_lload_n hx hb dX6_openLiterals_25 rfl (lv_at hl 2 rfl) ?_
    refine lv_aload_n hx hb dX6_openLiterals_26 rfl (lv_at hl 0 rfl) ?_
    refine va_get (D := (dC, dI)) (ci := 5) (v := .int h0_end) (C := RX6) (T := TX6) (N := 17) hx hb hts inG_X6 hown hK hP 0 rfl rfl 8 (by decide) (hts _ kw_297) (fun _ h9 => h9) rfl dX6_openLiterals_27 ?_
    refine lv_aload_n hx hb dX6_openLiterals_30 rfl (lv_at hl 0 rfl) ?_
    refine va_get (D := (dC, dI)) (ci := 5) (v := .int h0_at) (C := RX6) (T := TX6) (N := 17) hx hb hts inG_X6 hown hK hP 0 rfl rfl 7 (by decide) (hts _ kw_296) (fun _ h9 => h9) rfl dX6_openLiterals_31 ?_
    refine lv_isub hx hb dX6_openLiterals_34 ?_
    refine lv_i2l (v := ((h0_end - h0_at).toInt64)) hx hb dX6_openLiterals_35 rfl ?_
    refine W.lcmp hx hb dX6_openLiterals_36 ?_
    refine lv_if_le (tgt := 50) hx hb dX6_openLiterals_37 (by decide) (fun c_37 => ?_) (fun c_37 => ?_)
    · replace hf := if_t c_37 hf
      refine lv_aload_n hx hb dX6_openLiterals_50 rfl (lv_at hl 0 rfl) ?_
      refine va_get (D := (dC, dI)) (ci := 5) (v := .ref h0_to) (C := RX6) (T := TX6) (N := 17) hx hb hts inG_X6 hown hK hP 0 rfl rfl 3 (by decide) (hts _ kw_292) (fun _ h9 => h9) rfl dX6_openLiterals_51 ?_
      refine lv_aload_n hx hb dX6_openLiterals_54 rfl (lv_at hl 0 rfl) ?_
      refine va_get (D := (dC, dI)) (ci := 5) (v := .ref h0_input) (C := RX6) (T := TX6) (N := 17) hx hb hts inG_X6 hown hK hP 0 rfl rfl 0 (by decide) (hts _ kw_289) (fun _ h9 => h9) rfl dX6_openLiterals_55 ?_
      refine lv_aload_n hx hb dX6_openLiterals_58 rfl (lv_at hl 0 rfl) ?_
      refine va_get (D := (dC, dI)) (ci := 5) (v := .int h0_at) (C := RX6) (T := TX6) (N := 17) hx hb hts inG_X6 hown hK hP 0 rfl rfl 7 (by decide) (hts _ kw_296) (fun _ h9 => h9) rfl dX6_openLiterals_59 ?_
      refine lv_lload_n hx hb dX6_openLiterals_62 rfl (lv_at hl 2 rfl) ?_
      refine lv_l2i (v := (a2.toInt32)) hx hb dX6_openLiterals_63 rfl ?_
      obtain ⟨x, hc, hf⟩ := bind_some hf
      obtain ⟨u2, u3⟩ := x
      dsimp only at hf
      refine nx_v (rn_V (As := [.ref h0_input, .int h0_at, .int (a2.toInt32)]) (rest := []) (n := 3) (ci := 2) (q0 := 0) ⟨hx, hb, hml, hown, hts⟩ (c_Bytes_addRange (l := l) (dC := dC) (dI := dI) (cB := cB) (cI := cI) (h0 := h0_to) (h1 := h0_input) (a2 := h0_at) (a3 := (a2.toInt32)) (h0_held := h0_to_held) (h1_held := h0_input_held) (h0_count := h0_to_count) (h1_count := h0_input_count) (h0_held_n := h0_to_held_n) (h0_held_f := h0_to_held_f) (h1_held_n := h0_input_held_n) (h1_held_f := h0_input_held_f) (o_h0_count := u2) (o_h0_held_f := u3) hc) (wV kw_880 kw_431 kw_432 kw_83 kw_433) (by decide +kernel) ⟨Nat.le_of_ble_eq_true rfl, Nat.le_of_ble_eq_true rfl⟩ hK hP hD hN hT hS (va_free (wc := [(h0_to, .inr (2, [.ref h0_to_held, .int h0_to_count])), (h0_input, .inr (2, [.ref h0_input_held, .int h0_input_count])), (h0_to_held, .inl (cB, h0_to_held_n, .inl h0_to_held_f)), (h0_input_held, .inl (cB, h0_input_held_n, .inl h0_input_held_f))]) hD hS hA [1, 2, 3, 4] rfl) [1, 2, 3, 4] rfl (by decide) rfl rfl rfl hl.1 rfl (lv_room (Nat.le_of_ble_eq_true rfl)) dX6_openLiterals_64 ⟨Nat.le_of_ble_eq_true rfl, Nat.le_of_ble_eq_true rfl⟩) hP hD hS hA (wr := [(h0, .inr (5, [.ref h0_input, w_h0_words, w_h0_settings, .ref h0_to, w_h0_blocks, .int h0_broken, .int h0_brokenAt, .int h0_at, .int h0_end, w_h0_begin, w_h0_copies, .int h0_literals, w_h0_parts, w_h0_frameBegin, w_h0_flags, w_h0_width, w_h0_size]))]) (w1 := [(h0_to, .inr (2, [.ref h0_to_held, .int u2])), (h0_input, .inr (2, [.ref h0_input_held, .int h0_input_count])), (h0_to_held, .inl (cB, h0_to_held_n, .inl u3)), (h0_input_held, .inl (cB, h0_input_held_n, .inl h0_input_held_f))]) (ws' := [(h0, .inr (5, [.ref h0_input, w_h0_words, w_h0_settings, .ref h0_to, w_h0_blocks, .int h0_broken, .int h0_brokenAt, .int h0_at, .int h0_end, w_h0_begin, w_h0_copies, .int h0_literals, w_h0_parts, w_h0_frameBegin, w_h0_flags, w_h0_width, w_h0_size])), (h0_to, .inr (2, [.ref h0_to_held, .int u2])), (h0_input, .inr (2, [.ref h0_input_held, .int h0_input_count])), (h0_to_held, .inl (cB, h0_to_held_n, .inl u3)), (h0_input_held, .inl (cB, h0_input_held_n, .inl h0_input_held_f))]) [1, 2, 3, 4] [0] [0, 1, 2, 3, 4] rfl rfl (by decide) (by decide) rfl (by decide) (fun H locs hP hD hS => ?_)
      refine lv_aload_n hx hb dX6_openLiterals_67 rfl (lv_at hl 0 rfl) ?_
      refine lv_dup hx hb dX6_openLiterals_68 rfl ?_
      refine va_get (D := (dC, dI)) (ci := 5) (v := .int h0_at) (C := RX6) (T := TX6) (N := 17) hx hb hts inG_X6 hown hK hP 0 rfl rfl 7 (by decide) (hts _ kw_296) (fun _ h9 => h9) rfl dX6_openLiterals_69 ?_
      refine lv_lload_n hx hb dX6_openLiterals_72 rfl (lv_at hl 2 rfl) ?_
      refine lv_l2i (v := (a2.toInt32)) hx hb dX6_openLiterals_73 rfl ?_
      refine lv_iadd hx hb dX6_openLiterals_74 ?_
      refine lv_topi (fun p_4 e_p_4 => ?_)
      replace hf := bnd_at e_p_4 hf
      refine va_put (D := (dC, dI)) (ci := 5) (v := .int p_4) (ty := .int) (C := RX6) (T := TX6) (N := 17) hx hb hts inG_X6 tyX6 tyX6_ok nmX6 hown hK hP hD hS 0 rfl rfl 7 (by decide) (hts _ kw_296) (fun _ h9 => h9) rfl (by decide +kernel) rfl rfl (Nat.le_of_ble_eq_true rfl) dX6_openLiterals_75 (fun H locs hP hD hS => ?_)
      have hP : va_P (dC, dI) vwCl [(h0, .inr (5, [.ref h0_input, w_h0_words, w_h0_settings, .ref h0_to, w_h0_blocks, .int h0_broken, .int h0_brokenAt, .int p_4, .int h0_end, w_h0_begin, w_h0_copies, .int h0_literals, w_h0_parts, w_h0_frameBegin, w_h0_flags, w_h0_width, w_h0_size])), (h0_to, .inr (2, [.ref h0_to_held, .int u2])), (h0_input, .inr (2, [.ref h0_input_held, .int h0_input_count])), (h0_to_held, .inl (cB, h0_to_held_n, .inl u3)), (h0_input_held, .inl (cB, h0_input_held_n, .inl h0_input_held_f))] H := hP
      have hD : va_D A [(h0, .inr (5, [.ref h0_input, w_h0_words, w_h0_settings, .ref h0_to, w_h0_blocks, .int h0_broken, .int h0_brokenAt, .int p_4, .int h0_end, w_h0_begin, w_h0_copies, .int h0_literals, w_h0_parts, w_h0_frameBegin, w_h0_flags, w_h0_width, w_h0_size])), (h0_to, .inr (2, [.ref h0_to_held, .int u2])), (h0_input, .inr (2, [.ref h0_input_held, .int h0_input_count])), (h0_to_held, .inl (cB, h0_to_held_n, .inl u3)), (h0_input_held, .inl (cB, h0_input_held_n, .inl h0_input_held_f))] := hD
      refine lv_aload_n hx hb dX6_openLiterals_78 rfl (lv_at hl 0 rfl) ?_
      refine lv_dup hx hb dX6_openLiterals_79 rfl ?_
      refine va_get (D := (dC, dI)) (ci := 5) (v := .int h0_literals) (C := RX6) (T := TX6) (N := 17) hx hb hts inG_X6 hown hK hP 0 rfl rfl 11 (by decide) (hts _ kw_300) (fun _ h9 => h9) rfl dX6_openLiterals_80 ?_
      refine lv_lload_n hx hb dX6_openLiterals_83 rfl (lv_at hl 2 rfl) ?_
      refine lv_l2i (v := (a2.toInt32)) hx hb dX6_openLiterals_84 rfl ?_
      refine lv_iadd hx hb dX6_openLiterals_85 ?_
      refine lv_topi (fun p_5 e_p_5 => ?_)
      replace hf := bnd_at e_p_5 hf
      refine va_put (D := (dC, dI)) (ci := 5) (v := .int p_5) (ty := .int) (C := RX6) (T := TX6) (N := 17) hx hb hts inG_X6 tyX6 tyX6_ok nmX6 hown hK hP hD hS 0 rfl rfl 11 (by decide) (hts _ kw_300) (fun _ h9 => h9) rfl (by decide +kernel) rfl rfl (Nat.le_of_ble_eq_true rfl) dX6_openLiterals_86 (fun H locs hP hD hS => ?_)
      have hP : va_P (dC, dI) vwCl [(h0, .inr (5, [.ref h0_input, w_h0_words, w_h0_settings, .ref h0_to, w_h0_blocks, .int h0_broken, .int h0_brokenAt, .int p_4, .int h0_end, w_h0_begin, w_h0_copies, .int p_5, w_h0_parts, w_h0_frameBegin, w_h0_flags, w_h0_width, w_h0_size])), (h0_to, .inr (2, [.ref h0_to_held, .int u2])), (h0_input, .inr (2, [.ref h0_input_held, .int h0_input_count])), (h0_to_held, .inl (cB, h0_to_held_n, .inl u3)), (h0_input_held, .inl (cB, h0_input_held_n, .inl h0_input_held_f))] H := hP
      have hD : va_D A [(h0, .inr (5, [.ref h0_input, w_h0_words, w_h0_settings, .ref h0_to, w_h0_blocks, .int h0_broken, .int h0_brokenAt, .int p_4, .int h0_end, w_h0_begin, w_h0_copies, .int p_5, w_h0_parts, w_h0_frameBegin, w_h0_flags, w_h0_width, w_h0_size])), (h0_to, .inr (2, [.ref h0_to_held, .int u2])), (h0_input, .inr (2, [.ref h0_input_held, .int h0_input_count])), (h0_to_held, .inl (cB, h0_to_held_n, .inl u3)), (h0_input_held, .inl (cB, h0_input_held_n, .inl h0_input_held_f))] := hD
      refine lv_iconst (v := 1) hx hb dX6_openLiterals_89 (by decide) ?_
      have hzb : narrow .boolean (.int (1 : Int32)) = .int (1 : Int32) := rfl
      obtain ⟨rfl, hq_1⟩ := Prod.mk.inj (Option.some.inj hf)
      obtain ⟨rfl, hq_2⟩ := Prod.mk.inj hq_1
      obtain ⟨rfl, hq_3⟩ := Prod.mk.inj hq_2
      obtain ⟨rfl, hq_4⟩ := Prod.mk.inj hq_3
      obtain ⟨rfl, hq_5⟩ := Prod.mk.inj hq_4
      obtain ⟨rfl, hq_6⟩ := Prod.mk.inj hq_5
      obtain rfl := hq_6
      exact rt_z hQ hx hb hr hzb hlocks hP hD hS dX6_openLiterals_90
    · replace hf := if_f c_37 hf
      refine lv_aload_n hx hb dX6_openLiterals_40 rfl (lv_at hl 0 rfl) ?_
      refine lv_iconst (v := 1) hx hb dX6_openLiterals_41 (by decide) ?_
      refine lv_aload_n hx hb dX6_openLiterals_42 rfl (lv_at hl 0 rfl) ?_
      refine va_get (D := (dC, dI)) (ci := 5) (v := .int h0_end) (C := RX6) (T := TX6) (N := 17) hx hb hts inG_X6 hown hK hP 0 rfl rfl 8 (by decide) (hts _ kw_297) (fun _ h9 => h9) rfl dX6_openLiterals_43 ?_
      obtain ⟨x, hc, hf⟩ := bind_some hf
      obtain ⟨r6, u7, u8⟩ := x
      dsimp only at hf
      refine nx_i (rn_V (As := [.int (1 : Int32), .int h0_end]) (rest := []) (n := 2) (ci := 5) (q0 := 0) ⟨hx, hb, hml, hown, hts⟩ (c_Opener_breaks (l := l) (dC := dC) (dI := dI) (cB := cB) (cI := cI) (h0 := h0) (a1 := (1 : Int32)) (a2 := h0_end) (w_h0_input := (.ref h0_input)) (w_h0_words := (w_h0_words)) (w_h0_settings := (w_h0_settings)) (w_h0_to := (.ref h0_to)) (w_h0_blocks := (w_h0_blocks)) (h0_broken := h0_broken) (h0_brokenAt := h0_brokenAt) (w_h0_at := (.int h0_at)) (w_h0_end := (.int h0_end)) (w_h0_begin := (w_h0_begin)) (w_h0_copies := (w_h0_copies)) (w_h0_literals := (.int h0_literals)) (w_h0_parts := (w_h0_parts)) (w_h0_frameBegin := (w_h0_frameBegin)) (w_h0_flags := (w_h0_flags)) (w_h0_width := (w_h0_width)) (w_h0_size := (w_h0_size)) (o_h0_broken := u7) (o_h0_brokenAt := u8) (o_r := r6) hc) (wV kw_871 kw_873 kw_26 kw_92 kw_874) (by decide +kernel) ⟨Nat.le_of_ble_eq_true rfl, Nat.le_of_ble_eq_true rfl⟩ hK hP hD hN hT hS (va_free (wc := [(h0, .inr (5, [.ref h0_input, w_h0_words, w_h0_settings, .ref h0_to, w_h0_blocks, .int h0_broken, .int h0_brokenAt, .int h0_at, .int h0_end, w_h0_begin, w_h0_copies, .int h0_literals, w_h0_parts, w_h0_frameBegin, w_h0_flags, w_h0_width, w_h0_size]))]) hD hS hA [0] rfl) [0] rfl (by decide) rfl rfl rfl hl.1 rfl (lv_room (Nat.le_of_ble_eq_true rfl)) dX6_openLiterals_46 ⟨Nat.le_of_ble_eq_true rfl, Nat.le_of_ble_eq_true rfl⟩) hP hD hS hA (wr := [(h0_to, .inr (2, [.ref h0_to_held, .int h0_to_count])), (h0_input, .inr (2, [.ref h0_input_held, .int h0_input_count])), (h0_to_held, .inl (cB, h0_to_held_n, .inl h0_to_held_f)), (h0_input_held, .inl (cB, h0_input_held_n, .inl h0_input_held_f))]) (w1 := [(h0, .inr (5, [.ref h0_input, w_h0_words, w_h0_settings, .ref h0_to, w_h0_blocks, .int u7, .int u8, .int h0_at, .int h0_end, w_h0_begin, w_h0_copies, .int h0_literals, w_h0_parts, w_h0_frameBegin, w_h0_flags, w_h0_width, w_h0_size]))]) (ws' := [(h0, .inr (5, [.ref h0_input, w_h0_words, w_h0_settings, .ref h0_to, w_h0_blocks, .int u7, .int u8, .int h0_at, .int h0_end, w_h0_begin, w_h0_copies, .int h0_literals, w_h0_parts, w_h0_frameBegin, w_h0_flags, w_h0_width, w_h0_size])), (h0_to, .inr (2, [.ref h0_to_held, .int h0_to_count])), (h0_input, .inr (2, [.ref h0_input_held, .int h0_input_count])), (h0_to_held, .inl (cB, h0_to_held_n, .inl h0_to_held_f)), (h0_input_held, .inl (cB, h0_input_held_n, .inl h0_input_held_f))]) [0] [1, 2, 3, 4] [4, 0, 1, 2, 3] rfl rfl (by decide) (by decide) rfl (by decide) (fun H locs hP hD hS => ?_)
      obtain ⟨hzb, hf⟩ := bch_some hf
      obtain ⟨rfl, hq_1⟩ := Prod.mk.inj (Option.some.inj hf)
      obtain ⟨rfl, hq_2⟩ := Prod.mk.inj hq_1
      obtain ⟨rfl, hq_3⟩ := Prod.mk.inj hq_2
      obtain ⟨rfl, hq_4⟩ := Prod.mk.inj hq_3
      obtain ⟨rfl, hq_5⟩ := Prod.mk.inj hq_4
      obtain ⟨rfl, hq_6⟩ := Prod.mk.inj hq_5
      obtain rfl := hq_6
      exact rt_z hQ hx hb hr hzb hlocks hP hD hS dX6_openLiterals_49
  · replace hf := if_f c_14 hf
    refine lv_aload_n hx hb dX6_openLiterals_17 rfl (lv_at hl 0 rfl) ?_
    refine lv_bipush (v := 14) hx hb dX6_openLiterals_18 (by decide) ?_
    refine lv_iload_n hx hb dX6_openLiterals_20 rfl (lv_at hl 1 rfl) ?_
    obtain ⟨x, hc, hf⟩ := bind_some hf
    obtain ⟨r9, u10, u11⟩ := x
    dsimp only at hf
    refine nx_i (rn_V (As := [.int (14 : Int32), .int a1]) (rest := []) (n := 2) (ci := 5) (q0 := 0) ⟨hx, hb, hml, hown, hts⟩ (c_Opener_breaks (l := l) (dC := dC) (dI := dI) (cB := cB) (cI := cI) (h0 := h0) (a1 := (14 : Int32)) (a2 := a1) (w_h0_input := (.ref h0_input)) (w_h0_words := (w_h0_words)) (w_h0_settings := (w_h0_settings)) (w_h0_to := (.ref h0_to)) (w_h0_blocks := (w_h0_blocks)) (h0_broken := h0_broken) (h0_brokenAt := h0_brokenAt) (w_h0_at := (.int h0_at)) (w_h0_end := (.int h0_end)) (w_h0_begin := (w_h0_begin)) (w_h0_copies := (w_h0_copies)) (w_h0_literals := (.int h0_literals)) (w_h0_parts := (w_h0_parts)) (w_h0_frameBegin := (w_h0_frameBegin)) (w_h0_flags := (w_h0_flags)) (w_h0_width := (w_h0_width)) (w_h0_size := (w_h0_size)) (o_h0_broken := u10) (o_h0_brokenAt := u11) (o_r := r9) hc) (wV kw_871 kw_873 kw_26 kw_92 kw_874) (by decide +kernel) ⟨Nat.le_of_ble_eq_true rfl, Nat.le_of_ble_eq_true rfl⟩ hK hP hD hN hT hS (va_free (wc := [(h0, .inr (5, [.ref h0_input, w_h0_words, w_h0_settings, .ref h0_to, w_h0_blocks, .int h0_broken, .int h0_brokenAt, .int h0_at, .int h0_end, w_h0_begin, w_h0_copies, .int h0_literals, w_h0_parts, w_h0_frameBegin, w_h0_flags, w_h0_width, w_h0_size]))]) hD hS hA [0] rfl) [0] rfl (by decide) rfl rfl rfl hl.1 rfl (lv_room (Nat.le_of_ble_eq_true rfl)) dX6_openLiterals_21 ⟨Nat.le_of_ble_eq_true rfl, Nat.le_of_ble_eq_true rfl⟩) hP hD hS hA (wr := [(h0_to, .inr (2, [.ref h0_to_held, .int h0_to_count])), (h0_input, .inr (2, [.ref h0_input_held, .int h0_input_count])), (h0_to_held, .inl (cB, h0_to_held_n, .inl h0_to_held_f)), (h0_input_held, .inl (cB, h0_input_held_n, .inl h0_input_held_f))]) (w1 := [(h0, .inr (5, [.ref h0_input, w_h0_words, w_h0_settings, .ref h0_to, w_h0_blocks, .int u10, .int u11, .int h0_at, .int h0_end, w_h0_begin, w_h0_copies, .int h0_literals, w_h0_parts, w_h0_frameBegin, w_h0_flags, w_h0_width, w_h0_size]))]) (ws' := [(h0, .inr (5, [.ref h0_input, w_h0_words, w_h0_settings, .ref h0_to, w_h0_blocks, .int u10, .int u11, .int h0_at, .int h0_end, w_h0_begin, w_h0_copies, .int h0_literals, w_h0_parts, w_h0_frameBegin, w_h0_flags, w_h0_width, w_h0_size])), (h0_to, .inr (2, [.ref h0_to_held, .int h0_to_count])), (h0_input, .inr (2, [.ref h0_input_held, .int h0_input_count])), (h0_to_held, .inl (cB, h0_to_held_n, .inl h0_to_held_f)), (h0_input_held, .inl (cB, h0_input_held_n, .inl h0_input_held_f))]) [0] [1, 2, 3, 4] [4, 0, 1, 2, 3] rfl rfl (by decide) (by decide) rfl (by decide) (fun H locs hP hD hS => ?_)
    obtain ⟨hzb, hf⟩ := bch_some hf
    obtain ⟨rfl, hq_1⟩ := Prod.mk.inj (Option.some.inj hf)
    obtain ⟨rfl, hq_2⟩ := Prod.mk.inj hq_1
    obtain ⟨rfl, hq_3⟩ := Prod.mk.inj hq_2
    obtain ⟨rfl, hq_4⟩ := Prod.mk.inj hq_3
    obtain ⟨rfl, hq_5⟩ := Prod.mk.inj hq_4
    obtain ⟨rfl, hq_6⟩ := Prod.mk.inj hq_5
    obtain rfl := hq_6
    exact rt_z hQ hx hb hr hzb hlocks hP hD hS dX6_openLiterals_24

theorem dX6_openOffset_0 : decode cX6_openOffset 0 = .ok (.aload_n 0, 1) := by decide +kernel
theorem dX6_openOffset_1 : decode cX6_openOffset 1 = .ok (.getfield 29, 3) := by decide +kernel
theorem dX6_openOffset_4 : decode cX6_openOffset 4 = .ok (.invokevirtual 50, 3) := by decide +kernel
theorem dX6_openOffset_7 : decode cX6_openOffset 7 = .ok (.iload_n 2, 1) := by decide +kernel
theorem dX6_openOffset_8 : decode cX6_openOffset 8 = .ok (.iadd, 1) := by decide +kernel
theorem dX6_openOffset_9 : decode cX6_openOffset 9 = .ok (.iload 5, 2) := by decide +kernel
theorem dX6_openOffset_11 : decode cX6_openOffset 11 = .ok (.if_icmp .le 11, 3) := by decide +kernel
theorem dX6_openOffset_14 : decode cX6_openOffset 14 = .ok (.aload_n 0, 1) := by decide +kernel
theorem dX6_openOffset_15 : decode cX6_openOffset 15 = .ok (.bipush 14, 2) := by decide +kernel
theorem dX6_openOffset_17 : decode cX6_openOffset 17 = .ok (.iload_n 1, 1) := by decide +kernel
theorem dX6_openOffset_18 : decode cX6_openOffset 18 = .ok (.invokevirtual 98, 3) := by decide +kernel
theorem dX6_openOffset_21 : decode cX6_openOffset 21 = .ok (.ireturn, 1) := by decide +kernel
theorem dX6_openOffset_22 : decode cX6_openOffset 22 = .ok (.lload_n 3, 1) := by decide +kernel
theorem dX6_openOffset_23 : decode cX6_openOffset 23 = .ok (.lconst 0, 1) := by decide +kernel
theorem dX6_openOffset_24 : decode cX6_openOffset 24 = .ok (.lcmp, 1) := by decide +kernel
theorem dX6_openOffset_25 : decode cX6_openOffset 25 = .ok (.ifCond .eq 21, 3) := by decide +kernel
theorem dX6_openOffset_28 : decode cX6_openOffset 28 = .ok (.lload_n 3, 1) := by decide +kernel
theorem dX6_openOffset_29 : decode cX6_openOffset 29 = .ok (.aload_n 0, 1) := by decide +kernel
theorem dX6_openOffset_30 : decode cX6_openOffset 30 = .ok (.getfield 29, 3) := by decide +kernel
theorem dX6_openOffset_33 : decode cX6_openOffset 33 = .ok (.invokevirtual 50, 3) := by decide +kernel
theorem dX6_openOffset_36 : decode cX6_openOffset 36 = .ok (.aload_n 0, 1) := by decide +kernel
theorem dX6_openOffset_37 : decode cX6_openOffset 37 = .ok (.getfield 68, 3) := by decide +kernel
theorem dX6_openOffset_40 : decode cX6_openOffset 40 = .ok (.isub, 1) := by decide +kernel
theorem dX6_openOffset_41 : decode cX6_openOffset 41 = .ok (.i2l, 1) := by decide +kernel
theorem dX6_openOffset_42 : decode cX6_openOffset 42 = .ok (.lcmp, 1) := by decide +kernel
theorem dX6_openOffset_43 : decode cX6_openOffset 43 = .ok (.ifCond .le 10, 3) := by decide +kernel
theorem dX6_openOffset_46 : decode cX6_openOffset 46 = .ok (.aload_n 0, 1) := by decide +kernel
theorem dX6_openOffset_47 : decode cX6_openOffset 47 = .ok (.iconst 2, 1) := by decide +kernel
theorem dX6_openOffset_48 : decode cX6_openOffset 48 = .ok (.iload_n 1, 1) := by decide +kernel
theorem dX6_openOffset_49 : decode cX6_openOffset 49 = .ok (.invokevirtual 98, 3) := by decide +kernel
theorem dX6_openOffset_52 : decode cX6_openOffset 52 = .ok (.ireturn, 1) := by decide +kernel
theorem dX6_openOffset_53 : decode cX6_openOffset 53 = .ok (.aload_n 0, 1) := by decide +kernel
theorem dX6_openOffset_54 : decode cX6_openOffset 54 = .ok (.getfield 29, 3) := by decide +kernel
theorem dX6_openOffset_57 : decode cX6_openOffset 57 = .ok (.lload_n 3, 1) := by decide +kernel
theorem dX6_openOffset_58 : decode cX6_openOffset 58 = .ok (.l2i, 1) := by decide +kernel
theorem dX6_openOffset_59 : decode cX6_openOffset 59 = .ok (.iload_n 2, 1) := by decide +kernel
theorem dX6_openOffset_60 : decode cX6_openOffset 60 = .ok (.invokevirtual 134, 3) := by decide +kernel
theorem dX6_openOffset_63 : decode cX6_openOffset 63 = .ok (.aload_n 0, 1) := by decide +kernel
theorem dX6_openOffset_64 : decode cX6_openOffset 64 = .ok (.dup, 1) := by decide +kernel
theorem dX6_openOffset_65 : decode cX6_openOffset 65 = .ok (.getfield 71, 3) := by decide +kernel
theorem dX6_openOffset_68 : decode cX6_openOffset 68 = .ok (.iconst 1, 1) := by decide +kernel
theorem dX6_openOffset_69 : decode cX6_openOffset 69 = .ok (.iadd, 1) := by decide +kernel
theorem dX6_openOffset_70 : decode cX6_openOffset 70 = .ok (.putfield 71, 3) := by decide +kernel
theorem dX6_openOffset_73 : decode cX6_openOffset 73 = .ok (.iconst 1, 1) := by decide +kernel
theorem dX6_openOffset_74 : decode cX6_openOffset 74 = .ok (.ireturn, 1) := by decide +kernel
def m_Opener_openOffset_J46 (a1 : Int32) (h0_copies : Int32) (h0_to_count : Int32) (h0_to_held_f : Nat → Int32) : Option (Int32 × Int32 × Int32 × Int32 × Int32 × (Nat → Int32)) :=
  (m_Opener_breaks (2 : Int32) a1).bind fun (r2, u3, u4) =>
  bch r2 <|
  some (r2, u3, u4, h0_copies, h0_to_count, h0_to_held_f)
def m_Opener_openOffset (a1 : Int32) (a2 : Int32) (a3 : Int64) (a4 : Int32) (h0_broken : Int32) (h0_brokenAt : Int32) (h0_begin : Int32) (h0_copies : Int32) (h0_to_count : Int32) (h0_to_held_n : Nat) (h0_to_held_f : Nat → Int32) : Option (Int32 × Int32 × Int32 × Int32 × Int32 × (Nat → Int32)) :=
  (m_Bytes_size h0_to_count).bind fun r1 =>
  if (r1 + a2) ≤ a4 then
    if (lg_cmp a3 (0 : Int64)) = 0 then
      m_Opener_openOffset_J46 a1 h0_copies h0_to_count h0_to_held_f
    else
      (m_Bytes_size h0_to_count).bind fun r5 =>
      if (lg_cmp a3 ((r5 - h0_begin).toInt64)) ≤ 0 then
        (m_Bytes_addAgain (a3.toInt32) a2 h0_to_count h0_to_held_n h0_to_held_f).bind fun (u6, u7) =>
        bnd (h0_copies + (1 : Int32)) fun p_8 =>
        some ((1 : Int32), h0_broken, h0_brokenAt, p_8, u6, u7)
      else
        m_Opener_openOffset_J46 a1 h0_copies h0_to_count h0_to_held_f
  else
    (m_Opener_breaks (14 : Int32) a1).bind fun (r9, u10, u11) =>
    bch r9 <|
    some (r9, u10, u11, h0_copies, h0_to_count, h0_to_held_f)
def rm_Opener_openOffset : Room := { frames := 1, cells := 0, slots := 0, locals := 23 }
set_option maxHeartbeats 4000000 in
set_option maxRecDepth 100000 in
theorem c_Opener_openOffset {l : Launch} {dC : Nat → ClassId} {dI : Nat → Nat → Nat} {cB cI : ClassId} {sz : Nat} {h0 : Nat} {a1 : Int32} {a2 : Int32} {a3 : Int64} {a4 : Int32} {h0_to : Nat} {h0_to_held : Nat} {w_h0_input : Value} {w_h0_words : Value} {w_h0_settings : Value} {w_h0_blocks : Value} {h0_broken : Int32} {h0_brokenAt : Int32} {w_h0_at : Value} {w_h0_end : Value} {h0_begin : Int32} {h0_copies : Int32} {w_h0_literals : Value} {w_h0_parts : Value} {w_h0_frameBegin : Value} {w_h0_flags : Value} {w_h0_width : Value} {w_h0_size : Value} {h0_to_count : Int32} {h0_to_held_n : Nat} {h0_to_held_f : Nat → Int32} {o_r : Int32} {o_h0_broken : Int32} {o_h0_brokenAt : Int32} {o_h0_copies : Int32} {o_h0_to_count : Int32} {o_h0_to_held_f : Nat → Int32} (hf : m_Opener_openOffset a1 a2 a3 a4 h0_broken h0_brokenAt h0_begin h0_copies h0_to_count h0_to_held_n h0_to_held_f = some (o_r, o_h0_broken, o_h0_brokenAt, o_h0_copies, o_h0_to_count, o_h0_to_held_f)) : Met l yX6_openOffset (Cond.code yX6_openOffset cX6_openOffset 6 (some .boolean) :: lw_G) rm_Opener_openOffset (PreC (dC, dI) [(cB, .byte), (cI, .int)] [.ref h0, .int a1, .int a2, .long a3, .int a4] sz [(h0, .inr (5, [w_h0_input, w_h0_words, w_h0_settings, .ref h0_to, w_h0_blocks, .int h0_broken, .int h0_brokenAt, w_h0_at, w_h0_end, .int h0_begin, .int h0_copies, w_h0_literals, w_h0_parts, w_h0_frameBegin, w_h0_flags, w_h0_width, w_h0_size])), (h0_to, .inr (2, [.ref h0_to_held, .int h0_to_count])), (h0_to_held, .inl (cB, h0_to_held_n, .inl h0_to_held_f))]) (QcI o_r (dC, dI) [(h0, .inr (5, [w_h0_input, w_h0_words, w_h0_settings, .ref h0_to, w_h0_blocks, .int o_h0_broken, .int o_h0_brokenAt, w_h0_at, w_h0_end, .int h0_begin, .int o_h0_copies, w_h0_literals, w_h0_parts, w_h0_frameBegin, w_h0_flags, w_h0_width, w_h0_size])), (h0_to, .inr (2, [.ref h0_to_held, .int o_h0_to_count])), (h0_to_held, .inl (cB, h0_to_held_n, .inl o_h0_to_held_f))] (va_A [(h0, .inr (5, [w_h0_input, w_h0_words, w_h0_settings, .ref h0_to, w_h0_blocks, .int h0_broken, .int h0_brokenAt, w_h0_at, w_h0_end, .int h0_begin, .int h0_copies, w_h0_literals, w_h0_parts, w_h0_frameBegin, w_h0_flags, w_h0_width, w_h0_size])), (h0_to, .inr (2, [.ref h0_to_held, .int h0_to_count])), (h0_to_held, .inl (cB, h0_to_held_n, .inl h0_to_held_f))] sz)) 0 0 (va_A [(h0, .inr (5, [w_h0_input, w_h0_words, w_h0_settings, .ref h0_to, w_h0_blocks, .int h0_broken, .int h0_brokenAt, w_h0_at, w_h0_end, .int h0_begin, .int h0_copies, w_h0_literals, w_h0_parts, w_h0_frameBegin, w_h0_flags, w_h0_width, w_h0_size])), (h0_to, .inr (2, [.ref h0_to_held, .int h0_to_count])), (h0_to_held, .inl (cB, h0_to_held_n, .inl h0_to_held_f))] sz) := by
  refine met_of (Qf := fun A => QcI o_r (dC, dI) [(h0, .inr (5, [w_h0_input, w_h0_words, w_h0_settings, .ref h0_to, w_h0_blocks, .int o_h0_broken, .int o_h0_brokenAt, w_h0_at, w_h0_end, .int h0_begin, .int o_h0_copies, w_h0_literals, w_h0_parts, w_h0_frameBegin, w_h0_flags, w_h0_width, w_h0_size])), (h0_to, .inr (2, [.ref h0_to_held, .int o_h0_to_count])), (h0_to_held, .inl (cB, h0_to_held_n, .inl o_h0_to_held_f))] A) (by decide) (Nat.le_of_ble_eq_true rfl) ?_
  intro p e s m below meth c A ls Q hx hb hr hml hown hts hlocks hnm hP hK hD hN hT hA hl hQ
  have hown : s.vm.findClass RX6 = some m.cls := hown
  have hS : va_S A s.heap s.heap [] := va_S.rf
  have hl : lv_has ls 6 [(0, .ref h0), (1, .int a1), (2, .int a2), (3, .long a3), (5, .int a4)] := hl
  unfold m_Opener_openOffset at hf
  refine lv_aload_n hx hb dX6_openOffset_0 rfl (lv_at hl 0 rfl) ?_
  refine va_get (D := (dC, dI)) (ci := 5) (v := .ref h0_to) (C := RX6) (T := TX6) (N := 17) hx hb hts inG_X6 hown hK hP 0 rfl rfl 3 (by decide) (hts _ kw_292) (fun _ h9 => h9) rfl dX6_openOffset_1 ?_
  obtain ⟨r1, hc, hf⟩ := bind_some hf
  refine nx_i (rn_V (As := []) (rest := []) (n := 0) (ci := 2) (q0 := 0) ⟨hx, hb, hml, hown, hts⟩ (c_Bytes_size (l := l) (dC := dC) (dI := dI) (cB := cB) (cI := cI) (h0 := h0_to) (w_h0_held := (.ref h0_to_held)) (h0_count := h0_to_count)  (o_r := r1) hc) (wV kw_849 kw_402 kw_403 kw_83 kw_404) (by decide +kernel) ⟨Nat.le_of_ble_eq_true rfl, Nat.le_of_ble_eq_true rfl⟩ hK hP hD hN hT hS (va_free (wc := [(h0_to, .inr (2, [.ref h0_to_held, .int h0_to_count]))]) hD hS hA [1] rfl) [1] rfl (by decide) rfl rfl rfl hl.1 rfl (lv_room (Nat.le_of_ble_eq_true rfl)) dX6_openOffset_4 ⟨Nat.le_of_ble_eq_true rfl, Nat.le_of_ble_eq_true rfl⟩) hP hD hS hA (wr := [(h0, .inr (5, [w_h0_input, w_h0_words, w_h0_settings, .ref h0_to, w_h0_blocks, .int h0_broken, .int h0_brokenAt, w_h0_at, w_h0_end, .int h0_begin, .int h0_copies, w_h0_literals, w_h0_parts, w_h0_frameBegin, w_h0_flags, w_h0_width, w_h0_size])), (h0_to_held, .inl (cB, h0_to_held_n, .inl h0_to_held_f))]) (w1 := [(h0_to, .inr (2, [.ref h0_to_held, .int h0_to_count]))]) (ws' := [(h0, .inr (5, [w_h0_input, w_h0_words, w_h0_settings, .ref h0_to, w_h0_blocks, .int h0_broken, .int h0_brokenAt, w_h0_at, w_h0_end, .int h0_begin, .int h0_copies, w_h0_literals, w_h0_parts, w_h0_frameBegin, w_h0_flags, w_h0_width, w_h0_size])), (h0_to, .inr (2, [.ref h0_to_held, .int h0_to_count])), (h0_to_held, .inl (cB, h0_to_held_n, .inl h0_to_held_f))]) [1] [0, 2] [0, 2, 1] rfl rfl (by decide) (by decide) rfl (by decide) (fun H locs hP hD hS => ?_)
  refine lv_iload_n hx hb dX6_openOffset_7 rfl (lv_at hl 2 rfl) ?_
  refine lv_iadd hx hb dX6_openOffset_8 ?_
  refine lv_iload hx hb dX6_openOffset_9 (lv_at hl 4 rfl) ?_
  refine lv_icmp_le (tgt := 22) hx hb dX6_openOffset_11 (by decide) (fun c_11 => ?_) (fun c_11 => ?_)
  · replace hf := if_t c_11 hf
    refine lv_lload_n hx hb dX6_openOffset_22 rfl (lv_at hl 3 rfl) ?_
    refine lv_lconst (v := 0) hx hb dX6_openOffset_23 (by decide) ?_
    refine W.lcmp hx hb dX6_openOffset_24 ?_
    have hJ_46 : ∀ (H : Heap) (locs : List Loc) (ls : Array Slot), m_Opener_openOffset_J46 a1 h0_copies h0_to_count h0_to_held_f = some (o_r, o_h0_broken, o_h0_brokenAt, o_h0_copies, o_h0_to_count, o_h0_to_held_f) → va_P (dC, dI) vwCl [(h0, .inr (5, [w_h0_input, w_h0_words, w_h0_settings, .ref h0_to, w_h0_blocks, .int h0_broken, .int h0_brokenAt, w_h0_at, w_h0_end, .int h0_begin, .int h0_copies, w_h0_literals, w_h0_parts, w_h0_frameBegin, w_h0_flags, w_h0_width, w_h0_size])), (h0_to, .inr (2, [.ref h0_to_held, .int h0_to_count])), (h0_to_held, .inl (cB, h0_to_held_n, .inl h0_to_held_f))] H → va_D A [(h0, .inr (5, [w_h0_input, w_h0_words, w_h0_settings, .ref h0_to, w_h0_blocks, .int h0_broken, .int h0_brokenAt, w_h0_at, w_h0_end, .int h0_begin, .int h0_copies, w_h0_literals, w_h0_parts, w_h0_frameBegin, w_h0_flags, w_h0_width, w_h0_size])), (h0_to, .inr (2, [.ref h0_to_held, .int h0_to_count])), (h0_to_held, .inl (cB, h0_to_held_n, .inl h0_to_held_f))] → va_S A s.heap H locs → lv_has ls 6 [(0, .ref h0), (1, .int a1)] → W p l e (rm_Opener_openOffset) s m ([.ref h0, .int a1, .int a2, .long a3, .int a4] : List Value).toArray below meth c H locs 0 0 Q (F0 m 46 ls []) := by
      intro  H locs ls hf hP hD hS hl
      unfold m_Opener_openOffset_J46 at hf
      refine lv_aload_n hx hb dX6_openOffset_46 rfl (lv_at hl 0 rfl) ?_
      refine lv_iconst (v := 2) hx hb dX6_openOffset_47 (by decide) ?_
      refine lv_iload_n hx hb dX6_openOffset_48 rfl (lv_at hl 1 rfl) ?_
      obtain ⟨x, hc, hf⟩ := bind_some hf
      obtain ⟨r2, u3, u4⟩ := x
      dsimp only at hf
      refine nx_i (rn_V (As := [.int (2 : Int32), .int a1]) (rest := []) (n := 2) (ci := 5) (q0 := 0) ⟨hx, hb, hml, hown, hts⟩ (c_Opener_breaks (l := l) (dC := dC) (dI := dI) (cB := cB) (cI := cI) (h0 := h0) (a1 := (2 : Int32)) (a2 := a1) (w_h0_input := (w_h0_input)) (w_h0_words := (w_h0_words)) (w_h0_settings := (w_h0_settings)) (w_h0_to := (.ref h0_to)) (w_h0_blocks := (w_h0_blocks)) (h0_broken := h0_broken) (h0_brokenAt := h0_brokenAt) (w_h0_at := (w_h0_at)) (w_h0_end := (w_h0_end)) (w_h0_begin := (.int h0_begin)) (w_h0_copies := (.int h0_copies)) (w_h0_literals := (w_h0_literals)) (w_h0_parts := (w_h0_parts)) (w_h0_frameBegin := (w_h0_frameBegin)) (w_h0_flags := (w_h0_flags)) (w_h0_width := (w_h0_width)) (w_h0_size := (w_h0_size)) (o_h0_broken := u3) (o_h0_brokenAt := u4) (o_r := r2) hc) (wV kw_871 kw_873 kw_26 kw_92 kw_874) (by decide +kernel) ⟨Nat.le_of_ble_eq_true rfl, Nat.le_of_ble_eq_true rfl⟩ hK hP hD hN hT hS (va_free (wc := [(h0, .inr (5, [w_h0_input, w_h0_words, w_h0_settings, .ref h0_to, w_h0_blocks, .int h0_broken, .int h0_brokenAt, w_h0_at, w_h0_end, .int h0_begin, .int h0_copies, w_h0_literals, w_h0_parts, w_h0_frameBegin, w_h0_flags, w_h0_width, w_h0_size]))]) hD hS hA [0] rfl) [0] rfl (by decide) rfl rfl rfl hl.1 rfl (lv_room (Nat.le_of_ble_eq_true rfl)) dX6_openOffset_49 ⟨Nat.le_of_ble_eq_true rfl, Nat.le_of_ble_eq_true rfl⟩) hP hD hS hA (wr := [(h0_to, .inr (2, [.ref h0_to_held, .int h0_to_count])), (h0_to_held, .inl (cB, h0_to_held_n, .inl h0_to_held_f))]) (w1 := [(h0, .inr (5, [w_h0_input, w_h0_words, w_h0_settings, .ref h0_to, w_h0_blocks, .int u3, .int u4, w_h0_at, w_h0_end, .int h0_begin, .int h0_copies, w_h0_literals, w_h0_parts, w_h0_frameBegin, w_h0_flags, w_h0_width, w_h0_size]))]) (ws' := [(h0, .inr (5, [w_h0_input, w_h0_words, w_h0_settings, .ref h0_to, w_h0_blocks, .int u3, .int u4, w_h0_at, w_h0_end, .int h0_begin, .int h0_copies, w_h0_literals, w_h0_parts, w_h0_frameBegin, w_h0_flags, w_h0_width, w_h0_size])), (h0_to, .inr (2, [.ref h0_to_held, .int h0_to_count])), (h0_to_held, .inl (cB, h0_to_held_n, .inl h0_to_held_f))]) [0] [1, 2] [2, 0, 1] rfl rfl (by decide) (by decide) rfl (by decide) (fun H locs hP hD hS => ?_)
      obtain ⟨hzb, hf⟩ := bch_some hf
      obtain ⟨rfl, hq_1⟩ := Prod.mk.inj (Option.some.inj hf)
      obtain ⟨rfl, hq_2⟩ := Prod.mk.inj hq_1
      obtain ⟨rfl, hq_3⟩ := Prod.mk.inj hq_2
      obtain ⟨rfl, hq_4⟩ := Prod.mk.inj hq_3
      obtain ⟨rfl, hq_5⟩ := Prod.mk.inj hq_4
      obtain rfl := hq_5
      exact rt_z hQ hx hb hr hzb hlocks hP hD hS dX6_openOffset_52
    refine lv_if_eq (tgt := 46) hx hb dX6_openOffset_25 (by decide) (fun c_25 => ?_) (fun c_25 => ?_)
    · replace hf := if_t c_25 hf
      exact hJ_46  _ _ _ hf hP hD hS (lv_sub hl [0, 1] rfl)
    · replace hf := if_f c_25 hf
      refine lv_lload_n hx hb dX6_openOffset_28 rfl (lv_at hl 3 rfl) ?_
      refine lv_aload_n hx hb dX6_openOffset_29 rfl (lv_at hl 0 rfl) ?_
      refine va_get (D := (dC, dI)) (ci := 5) (v := .ref h0_to) (C := RX6) (T := TX6) (N := 17) hx hb hts inG_X6 hown hK hP 0 rfl rfl 3 (by decide) (hts _ kw_292) (fun _ h9 => h9) rfl dX6_openOffset_30 ?_
      obtain ⟨r5, hc, hf⟩ := bind_some hf
      refine nx_i (rn_V (As := []) (rest := [.long a3]) (n := 0) (ci := 2) (q0 := 0) ⟨hx, hb, hml, hown, hts⟩ (c_Bytes_size (l := l) (dC := dC) (dI := dI) (cB := cB) (cI := cI) (h0 := h0_to) (w_h0_held := (.ref h0_to_held)) (h0_count := h0_to_count)  (o_r := r5) hc) (wV kw_849 kw_402 kw_403 kw_83 kw_404) (by decide +kernel) ⟨Nat.le_of_ble_eq_true rfl, Nat.le_of_ble_eq_true rfl⟩ hK hP hD hN hT hS (va_free (wc := [(h0_to, .inr (2, [.ref h0_to_held, .int h0_to_count]))]) hD hS hA [1] rfl) [1] rfl (by decide) rfl rfl rfl hl.1 rfl (lv_room (Nat.le_of_ble_eq_true rfl)) dX6_openOffset_33 ⟨Nat.le_of_ble_eq_true rfl, Nat.le_of_ble_eq_true rfl⟩) hP hD hS hA (wr := [(h0, .inr (5, [w_h0_input, w_h0_words, w_h0_settings, .ref h0_to, w_h0_blocks, .int h0_broken, .int h0_brokenAt, w_h0_at, w_h0_end, .int h0_begin, .int h0_copies, w_h0_literals, w_h0_parts, w_h0_frameBegin, w_h0_flags, w_h0_width, w_h0_size])), (h0_to_held, .inl (cB, h0_to_held_n, .inl h0_to_held_f))]) (w1 := [(h0_to, .inr (2, [.ref h0_to_held, .int h0_to_count]))]) (ws' := [(h0, .inr (5, [w_h0_input, w_h0_words, w_h0_settings, .ref h0_to, w_h0_blocks, .int h0_broken, .int h0_brokenAt, w_h0_at, w_h0_end, .int h0_begin, .int h0_copies, w_h0_literals, w_h0_parts, w_h0_frameBegin, w_h0_flags, w_h0_width, w_h0_size])), (h0_to, .inr (2, [.ref h0_to_held, .int h0_to_count])), (h0_to_held, .inl (cB, h0_to_held_n, .inl h0_to_held_f))]) [1] [0, 2] [0, 2, 1] rfl rfl (by decide) (by decide) rfl (by decide) (fun H locs hP hD hS => ?_)
      refine lv_aload_n hx hb dX6_openOffset_36 rfl (lv_at hl 0 rfl) ?_
      refine va_get (D := (dC, dI)) (ci := 5) (v := .int h0_begin) (C := RX6) (T := TX6) (N := 17) hx hb hts inG_X6 hown hK hP 0 rfl rfl 9 (by decide) (hts _ kw_298) (fun _ h9 => h9) rfl dX6_openOffset_37 ?_
      refine lv_isub hx hb dX6_openOffset_40 ?_
      refine lv_i2l (v := ((r5 - h0_begin).toInt64)) hx hb dX6_openOffset_41 rfl ?_
      refine W.lcmp hx hb dX6_openOffset_42 ?_
      refine lv_if_le (tgt := 53) hx hb dX6_openOffset_43 (by decide) (fun c_43 => ?_) (fun c_43 => ?_)
      · replace hf := if_t c_43 hf
        refine lv_aload_n hx hb dX6_openOffset_53 rfl (lv_at hl 0 rfl) ?_
        refine va_get (D := (dC, dI)) (ci := 5) (v := .ref h0_to) (C := RX6) (T := TX6) (N := 17) hx hb hts inG_X6 hown hK hP 0 rfl rfl 3 (by decide) (hts _ kw_292) (fun _ h9 => h9) rfl dX6_openOffset_54 ?_
        refine lv_lload_n hx hb dX6_openOffset_57 rfl (lv_at hl 3 rfl) ?_
        refine lv_l2i (v := (a3.toInt32)) hx hb dX6_openOffset_58 rfl ?_
        refine lv_iload_n hx hb dX6_openOffset_59 rfl (lv_at hl 2 rfl) ?_
        obtain ⟨x, hc, hf⟩ := bind_some hf
        obtain ⟨u6, u7⟩ := x
        dsimp only at hf
        refine nx_v (rn_V (As := [.int (a3.toInt32), .int a2]) (rest := []) (n := 2) (ci := 2) (q0 := 0) ⟨hx, hb, hml, hown, hts⟩ (c_Bytes_addAgain (l := l) (dC := dC) (dI := dI) (cB := cB) (cI := cI) (h0 := h0_to) (a1 := (a3.toInt32)) (a2 := a2) (h0_held := h0_to_held) (h0_count := h0_to_count) (h0_held_n := h0_to_held_n) (h0_held_f := h0_to_held_f) (o_h0_count := u6) (o_h0_held_f := u7) hc) (wV kw_900 kw_901 kw_902 kw_83 kw_903) (by decide +kernel) ⟨Nat.le_of_ble_eq_true rfl, Nat.le_of_ble_eq_true rfl⟩ hK hP hD hN hT hS (va_free (wc := [(h0_to, .inr (2, [.ref h0_to_held, .int h0_to_count])), (h0_to_held, .inl (cB, h0_to_held_n, .inl h0_to_held_f))]) hD hS hA [1, 2] rfl) [1, 2] rfl (by decide) rfl rfl rfl hl.1 rfl (lv_room (Nat.le_of_ble_eq_true rfl)) dX6_openOffset_60 ⟨Nat.le_of_ble_eq_true rfl, Nat.le_of_ble_eq_true rfl⟩) hP hD hS hA (wr := [(h0, .inr (5, [w_h0_input, w_h0_words, w_h0_settings, .ref h0_to, w_h0_blocks, .int h0_broken, .int h0_brokenAt, w_h0_at, w_h0_end, .int h0_begin, .int h0_copies, w_h0_literals, w_h0_parts, w_h0_frameBegin, w_h0_flags, w_h0_width, w_h0_size]))]) (w1 := [(h0_to, .inr (2, [.ref h0_to_held, .int u6])), (h0_to_held, .inl (cB, h0_to_held_n, .inl u7))]) (ws' := [(h0, .inr (5, [w_h0_input, w_h0_words, w_h0_settings, .ref h0_to, w_h0_blocks, .int h0_broken, .int h0_brokenAt, w_h0_at, w_h0_end, .int h0_begin, .int h0_copies, w_h0_literals, w_h0_parts, w_h0_frameBegin, w_h0_flags, w_h0_width, w_h0_size])), (h0_to, .inr (2, [.ref h0_to_held, .int u6])), (h0_to_held, .inl (cB, h0_to_held_n, .inl u7))]) [1, 2] [0] [0, 1, 2] rfl rfl (by decide) (by decide) rfl (by decide) (fun H locs hP hD hS => ?_)
        refine lv_aload_n hx hb dX6_openOffset_63 rfl (lv_at hl 0 rfl) ?_
        refine lv_dup hx hb dX6_openOffset_64 rfl ?_
        refine va_get (D := (dC, dI)) (ci := 5) (v := .int h0_copies) (C := RX6) (T := TX6) (N := 17) hx hb hts inG_X6 hown hK hP 0 rfl rfl 10 (by decide) (hts _ kw_299) (fun _ h9 => h9) rfl dX6_openOffset_65 ?_
        refine lv_iconst (v := 1) hx hb dX6_openOffset_68 (by decide) ?_
        refine lv_iadd hx hb dX6_openOffset_69 ?_
        refine lv_topi (fun p_8 e_p_8 => ?_)
        replace hf := bnd_at e_p_8 hf
        refine va_put (D := (dC, dI)) (ci := 5) (v := .int p_8) (ty := .int) (C := RX6) (T := TX6) (N := 17) hx hb hts inG_X6 tyX6 tyX6_ok nmX6 hown hK hP hD hS 0 rfl rfl 10 (by decide) (hts _ kw_299) (fun _ h9 => h9) rfl (by decide +kernel) rfl rfl (Nat.le_of_ble_eq_true rfl) dX6_openOffset_70 (fun H locs hP hD hS => ?_)
        have hP : va_P (dC, dI) vwCl [(h0, .inr (5, [w_h0_input, w_h0_words, w_h0_settings, .ref h0_to, w_h0_blocks, .int h0_broken, .int h0_brokenAt, w_h0_at, w_h0_end, .int h0_begin, .int p_8, w_h0_literals, w_h0_parts, w_h0_frameBegin, w_h0_flags, w_h0_width, w_h0_size])), (h0_to, .inr (2, [.ref h0_to_held, .int u6])), (h0_to_held, .inl (cB, h0_to_held_n, .inl u7))] H := hP
        have hD : va_D A [(h0, .inr (5, [w_h0_input, w_h0_words, w_h0_settings, .ref h0_to, w_h0_blocks, .int h0_broken, .int h0_brokenAt, w_h0_at, w_h0_end, .int h0_begin, .int p_8, w_h0_literals, w_h0_parts, w_h0_frameBegin, w_h0_flags, w_h0_width, w_h0_size])), (h0_to, .inr (2, [.ref h0_to_held, .int u6])), (h0_to_held, .inl (cB, h0_to_held_n, .inl u7))] := hD
        refine lv_iconst (v := 1) hx hb dX6_openOffset_73 (by decide) ?_
        have hzb : narrow .boolean (.int (1 : Int32)) = .int (1 : Int32) := rfl
        obtain ⟨rfl, hq_1⟩ := Prod.mk.inj (Option.some.inj hf)
        obtain ⟨rfl, hq_2⟩ := Prod.mk.inj hq_1
        obtain ⟨rfl, hq_3⟩ := Prod.mk.inj hq_2
        obtain ⟨rfl, hq_4⟩ := Prod.mk.inj hq_3
        obtain ⟨rfl, hq_5⟩ := Prod.mk.inj hq_4
        obtain rfl := hq_5
        exact rt_z hQ hx hb hr hzb hlocks hP hD hS dX6_openOffset_74
      · replace hf := if_f c_43 hf
        exact hJ_46  _ _ _ hf hP hD hS (lv_sub hl [0, 1] rfl)
  · replace hf := if_f c_11 hf
    refine lv_aload_n hx hb dX6_openOffset_14 rfl (lv_at hl 0 rfl) ?_
    refine lv_bipush (v := 14) hx hb dX6_openOffset_15 (by decide) ?_
    refine lv_iload_n hx hb dX6_openOffset_17 rfl (lv_at hl 1 rfl) ?_
    obtain ⟨x, hc, hf⟩ := bind_some hf
    obtain ⟨r9, u10, u11⟩ := x
    dsimp only at hf
    refine nx_i (rn_V (As := [.int (14 : Int32), .int a1]) (rest := []) (n := 2) (ci := 5) (q0 := 0) ⟨hx, hb, hml, hown, hts⟩ (c_Opener_breaks (l := l) (dC := dC) (dI := dI) (cB := cB) (cI := cI) (h0 := h0) (a1 := (14 : Int32)) (a2 := a1) (w_h0_input := (w_h0_input)) (w_h0_words := (w_h0_words)) (w_h0_settings := (w_h0_settings)) (w_h0_to := (.ref h0_to)) (w_h0_blocks := (w_h0_blocks)) (h0_broken := h0_broken) (h0_brokenAt := h0_brokenAt) (w_h0_at := (w_h0_at)) (w_h0_end := (w_h0_end)) (w_h0_begin := (.int h0_begin)) (w_h0_copies := (.int h0_copies)) (w_h0_literals := (w_h0_literals)) (w_h0_parts := (w_h0_parts)) (w_h0_frameBegin := (w_h0_frameBegin)) (w_h0_flags := (w_h0_flags)) (w_h0_width := (w_h0_width)) (w_h0_size := (w_h0_size)) (o_h0_broken := u10) (o_h0_brokenAt := u11) (o_r := r9) hc) (wV kw_871 kw_873 kw_26 kw_92 kw_874) (by decide +kernel) ⟨Nat.le_of_ble_eq_true rfl, Nat.le_of_ble_eq_true rfl⟩ hK hP hD hN hT hS (va_free (wc := [(h0, .inr (5, [w_h0_input, w_h0_words, w_h0_settings, .ref h0_to, w_h0_blocks, .int h0_broken, .int h0_brokenAt, w_h0_at, w_h0_end, .int h0_begin, .int h0_copies, w_h0_literals, w_h0_parts, w_h0_frameBegin, w_h0_flags, w_h0_width, w_h0_size]))]) hD hS hA [0] rfl) [0] rfl (by decide) rfl rfl rfl hl.1 rfl (lv_room (Nat.le_of_ble_eq_true rfl)) dX6_openOffset_18 ⟨Nat.le_of_ble_eq_true rfl, Nat.le_of_ble_eq_true rfl⟩) hP hD hS hA (wr := [(h0_to, .inr (2, [.ref h0_to_held, .int h0_to_count])), (h0_to_held, .inl (cB, h0_to_held_n, .inl h0_to_held_f))]) (w1 := [(h0, .inr (5, [w_h0_input, w_h0_words, w_h0_settings, .ref h0_to, w_h0_blocks, .int u10, .int u11, w_h0_at, w_h0_end, .int h0_begin, .int h0_copies, w_h0_literals, w_h0_parts, w_h0_frameBegin, w_h0_flags, w_h0_width, w_h0_size]))]) (ws' := [(h0, .inr (5, [w_h0_input, w_h0_words, w_h0_settings, .ref h0_to, w_h0_blocks, .int u10, .int u11, w_h0_at, w_h0_end, .int h0_begin, .int h0_copies, w_h0_literals, w_h0_parts, w_h0_frameBegin, w_h0_flags, w_h0_width, w_h0_size])), (h0_to, .inr (2, [.ref h0_to_held, .int h0_to_count])), (h0_to_held, .inl (cB, h0_to_held_n, .inl h0_to_held_f))]) [0] [1, 2] [2, 0, 1] rfl rfl (by decide) (by decide) rfl (by decide) (fun H locs hP hD hS => ?_)
    obtain ⟨hzb, hf⟩ := bch_some hf
    obtain ⟨rfl, hq_1⟩ := Prod.mk.inj (Option.some.inj hf)
    obtain ⟨rfl, hq_2⟩ := Prod.mk.inj hq_1
    obtain ⟨rfl, hq_3⟩ := Prod.mk.inj hq_2
    obtain ⟨rfl, hq_4⟩ := Prod.mk.inj hq_3
    obtain ⟨rfl, hq_5⟩ := Prod.mk.inj hq_4
    obtain rfl := hq_5
    exact rt_z hQ hx hb hr hzb hlocks hP hD hS dX6_openOffset_21

theorem dX6_openElement_0 : decode cX6_openElement 0 = .ok (.aload_n 0, 1) := by decide +kernel
theorem dX6_openElement_1 : decode cX6_openElement 1 = .ok (.getfield 47, 3) := by decide +kernel
theorem dX6_openElement_4 : decode cX6_openElement 4 = .ok (.istore_n 2, 1) := by decide +kernel
theorem dX6_openElement_5 : decode cX6_openElement 5 = .ok (.aload_n 0, 1) := by decide +kernel
theorem dX6_openElement_6 : decode cX6_openElement 6 = .ok (.getfield 9, 3) := by decide +kernel
theorem dX6_openElement_9 : decode cX6_openElement 9 = .ok (.iload_n 2, 1) := by decide +kernel
theorem dX6_openElement_10 : decode cX6_openElement 10 = .ok (.invokevirtual 89, 3) := by decide +kernel
theorem dX6_openElement_13 : decode cX6_openElement 13 = .ok (.iconst 4, 1) := by decide +kernel
theorem dX6_openElement_14 : decode cX6_openElement 14 = .ok (.irem, 1) := by decide +kernel
theorem dX6_openElement_15 : decode cX6_openElement 15 = .ok (.istore_n 3, 1) := by decide +kernel
theorem dX6_openElement_16 : decode cX6_openElement 16 = .ok (.aload_n 0, 1) := by decide +kernel
theorem dX6_openElement_17 : decode cX6_openElement 17 = .ok (.getfield 9, 3) := by decide +kernel
theorem dX6_openElement_20 : decode cX6_openElement 20 = .ok (.iload_n 2, 1) := by decide +kernel
theorem dX6_openElement_21 : decode cX6_openElement 21 = .ok (.invokevirtual 89, 3) := by decide +kernel
theorem dX6_openElement_24 : decode cX6_openElement 24 = .ok (.iconst 4, 1) := by decide +kernel
theorem dX6_openElement_25 : decode cX6_openElement 25 = .ok (.idiv, 1) := by decide +kernel
theorem dX6_openElement_26 : decode cX6_openElement 26 = .ok (.istore 4, 2) := by decide +kernel
theorem dX6_openElement_28 : decode cX6_openElement 28 = .ok (.iload_n 3, 1) := by decide +kernel
theorem dX6_openElement_29 : decode cX6_openElement 29 = .ok (.iconst 3, 1) := by decide +kernel
theorem dX6_openElement_30 : decode cX6_openElement 30 = .ok (.if_icmp .ne 7, 3) := by decide +kernel
theorem dX6_openElement_33 : decode cX6_openElement 33 = .ok (.iconst 4, 1) := by decide +kernel
theorem dX6_openElement_34 : decode cX6_openElement 34 = .ok (.goto 4, 3) := by decide +kernel
theorem dX6_openElement_37 : decode cX6_openElement 37 = .ok (.iload_n 3, 1) := by decide +kernel
theorem dX6_openElement_38 : decode cX6_openElement 38 = .ok (.istore 5, 2) := by decide +kernel
theorem dX6_openElement_40 : decode cX6_openElement 40 = .ok (.iload_n 3, 1) := by decide +kernel
theorem dX6_openElement_41 : decode cX6_openElement 41 = .ok (.ifCond .ne 17, 3) := by decide +kernel
theorem dX6_openElement_44 : decode cX6_openElement 44 = .ok (.iload 4, 2) := by decide +kernel
theorem dX6_openElement_46 : decode cX6_openElement 46 = .ok (.bipush 60, 2) := by decide +kernel
theorem dX6_openElement_48 : decode cX6_openElement 48 = .ok (.if_icmp .lt 10, 3) := by decide +kernel
theorem dX6_openElement_51 : decode cX6_openElement 51 = .ok (.iload 4, 2) := by decide +kernel
theorem dX6_openElement_53 : decode cX6_openElement 53 = .ok (.bipush 59, 2) := by decide +kernel
theorem dX6_openElement_55 : decode cX6_openElement 55 = .ok (.isub, 1) := by decide +kernel
theorem dX6_openElement_56 : decode cX6_openElement 56 = .ok (.istore 5, 2) := by decide +kernel
theorem dX6_openElement_58 : decode cX6_openElement 58 = .ok (.aload_n 0, 1) := by decide +kernel
theorem dX6_openElement_59 : decode cX6_openElement 59 = .ok (.dup, 1) := by decide +kernel
theorem dX6_openElement_60 : decode cX6_openElement 60 = .ok (.getfield 47, 3) := by decide +kernel
theorem dX6_openElement_63 : decode cX6_openElement 63 = .ok (.iconst 1, 1) := by decide +kernel
theorem dX6_openElement_64 : decode cX6_openElement 64 = .ok (.iadd, 1) := by decide +kernel
theorem dX6_openElement_65 : decode cX6_openElement 65 = .ok (.putfield 47, 3) := by decide +kernel
theorem dX6_openElement_68 : decode cX6_openElement 68 = .ok (.aload_n 0, 1) := by decide +kernel
theorem dX6_openElement_69 : decode cX6_openElement 69 = .ok (.iload 5, 2) := by decide +kernel
theorem dX6_openElement_71 : decode cX6_openElement 71 = .ok (.invokevirtual 95, 3) := by decide +kernel
theorem dX6_openElement_74 : decode cX6_openElement 74 = .ok (.ifCond .eq 13, 3) := by decide +kernel
theorem dX6_openElement_77 : decode cX6_openElement 77 = .ok (.aload_n 0, 1) := by decide +kernel
theorem dX6_openElement_78 : decode cX6_openElement 78 = .ok (.iconst 1, 1) := by decide +kernel
theorem dX6_openElement_79 : decode cX6_openElement 79 = .ok (.aload_n 0, 1) := by decide +kernel
theorem dX6_openElement_80 : decode cX6_openElement 80 = .ok (.getfield 54, 3) := by decide +kernel
theorem dX6_openElement_83 : decode cX6_openElement 83 = .ok (.invokevirtual 98, 3) := by decide +kernel
theorem dX6_openElement_86 : decode cX6_openElement 86 = .ok (.ireturn, 1) := by decide +kernel
theorem dX6_openElement_87 : decode cX6_openElement 87 = .ok (.aload_n 0, 1) := by decide +kernel
theorem dX6_openElement_88 : decode cX6_openElement 88 = .ok (.getfield 9, 3) := by decide +kernel
theorem dX6_openElement_91 : decode cX6_openElement 91 = .ok (.aload_n 0, 1) := by decide +kernel
theorem dX6_openElement_92 : decode cX6_openElement 92 = .ok (.getfield 47, 3) := by decide +kernel
theorem dX6_openElement_95 : decode cX6_openElement 95 = .ok (.iload 5, 2) := by decide +kernel
theorem dX6_openElement_97 : decode cX6_openElement 97 = .ok (.invokevirtual 117, 3) := by decide +kernel
theorem dX6_openElement_100 : decode cX6_openElement 100 = .ok (.lstore 6, 2) := by decide +kernel
theorem dX6_openElement_102 : decode cX6_openElement 102 = .ok (.aload_n 0, 1) := by decide +kernel
theorem dX6_openElement_103 : decode cX6_openElement 103 = .ok (.dup, 1) := by decide +kernel
theorem dX6_openElement_104 : decode cX6_openElement 104 = .ok (.getfield 47, 3) := by decide +kernel
theorem dX6_openElement_107 : decode cX6_openElement 107 = .ok (.iload 5, 2) := by decide +kernel
theorem dX6_openElement_109 : decode cX6_openElement 109 = .ok (.iadd, 1) := by decide +kernel
theorem dX6_openElement_110 : decode cX6_openElement 110 = .ok (.putfield 47, 3) := by decide +kernel
theorem dX6_openElement_113 : decode cX6_openElement 113 = .ok (.aload_n 0, 1) := by decide +kernel
theorem dX6_openElement_114 : decode cX6_openElement 114 = .ok (.dup, 1) := by decide +kernel
theorem dX6_openElement_115 : decode cX6_openElement 115 = .ok (.getfield 77, 3) := by decide +kernel
theorem dX6_openElement_118 : decode cX6_openElement 118 = .ok (.iconst 1, 1) := by decide +kernel
theorem dX6_openElement_119 : decode cX6_openElement 119 = .ok (.iadd, 1) := by decide +kernel
theorem dX6_openElement_120 : decode cX6_openElement 120 = .ok (.putfield 77, 3) := by decide +kernel
theorem dX6_openElement_123 : decode cX6_openElement 123 = .ok (.iload_n 3, 1) := by decide +kernel
theorem dX6_openElement_124 : decode cX6_openElement 124 = .ok (.ifCond .ne 25, 3) := by decide +kernel
theorem dX6_openElement_127 : decode cX6_openElement 127 = .ok (.aload_n 0, 1) := by decide +kernel
theorem dX6_openElement_128 : decode cX6_openElement 128 = .ok (.iload_n 2, 1) := by decide +kernel
theorem dX6_openElement_129 : decode cX6_openElement 129 = .ok (.lconst 1, 1) := by decide +kernel
theorem dX6_openElement_130 : decode cX6_openElement 130 = .ok (.iload 5, 2) := by decide +kernel
theorem dX6_openElement_132 : decode cX6_openElement 132 = .ok (.ifCond .ne 9, 3) := by decide +kernel
theorem dX6_openElement_135 : decode cX6_openElement 135 = .ok (.iload 4, 2) := by decide +kernel
theorem dX6_openElement_137 : decode cX6_openElement 137 = .ok (.i2l, 1) := by decide +kernel
theorem dX6_openElement_138 : decode cX6_openElement 138 = .ok (.goto 5, 3) := by decide +kernel
theorem dX6_openElement_141 : decode cX6_openElement 141 = .ok (.lload 6, 2) := by decide +kernel
theorem dX6_openElement_143 : decode cX6_openElement 143 = .ok (.ladd, 1) := by decide +kernel
theorem dX6_openElement_144 : decode cX6_openElement 144 = .ok (.iload_n 1, 1) := by decide +kernel
theorem dX6_openElement_145 : decode cX6_openElement 145 = .ok (.invokevirtual 199, 3) := by decide +kernel
theorem dX6_openElement_148 : decode cX6_openElement 148 = .ok (.ireturn, 1) := by decide +kernel
theorem dX6_openElement_149 : decode cX6_openElement 149 = .ok (.iload_n 3, 1) := by decide +kernel
theorem dX6_openElement_150 : decode cX6_openElement 150 = .ok (.iconst 1, 1) := by decide +kernel
theorem dX6_openElement_151 : decode cX6_openElement 151 = .ok (.if_icmp .ne 30, 3) := by decide +kernel
theorem dX6_openElement_154 : decode cX6_openElement 154 = .ok (.aload_n 0, 1) := by decide +kernel
theorem dX6_openElement_155 : decode cX6_openElement 155 = .ok (.iload_n 2, 1) := by decide +kernel
theorem dX6_openElement_156 : decode cX6_openElement 156 = .ok (.iconst 4, 1) := by decide +kernel
theorem dX6_openElement_157 : decode cX6_openElement 157 = .ok (.iload 4, 2) := by decide +kernel
theorem dX6_openElement_159 : decode cX6_openElement 159 = .ok (.bipush 8, 2) := by decide +kernel
theorem dX6_openElement_161 : decode cX6_openElement 161 = .ok (.irem, 1) := by decide +kernel
theorem dX6_openElement_162 : decode cX6_openElement 162 = .ok (.iadd, 1) := by decide +kernel
theorem dX6_openElement_163 : decode cX6_openElement 163 = .ok (.sipush 256, 3) := by decide +kernel
theorem dX6_openElement_166 : decode cX6_openElement 166 = .ok (.iload 4, 2) := by decide +kernel
theorem dX6_openElement_168 : decode cX6_openElement 168 = .ok (.bipush 8, 2) := by decide +kernel
theorem dX6_openElement_170 : decode cX6_openElement 170 = .ok (.idiv, 1) := by decide +kernel
theorem dX6_openElement_171 : decode cX6_openElement 171 = .ok (.imul, 1) := by decide +kernel
theorem dX6_openElement_172 : decode cX6_openElement 172 = .ok (.i2l, 1) := by decide +kernel
theorem dX6_openElement_173 : decode cX6_openElement 173 = .ok (.lload 6, 2) := by decide +kernel
theorem dX6_openElement_175 : decode cX6_openElement 175 = .ok (.ladd, 1) := by decide +kernel
theorem dX6_openElement_176 : decode cX6_openElement 176 = .ok (.iload_n 1, 1) := by decide +kernel
theorem dX6_openElement_177 : decode cX6_openElement 177 = .ok (.invokevirtual 203, 3) := by decide +kernel
theorem dX6_openElement_180 : decode cX6_openElement 180 = .ok (.ireturn, 1) := by decide +kernel
theorem dX6_openElement_181 : decode cX6_openElement 181 = .ok (.aload_n 0, 1) := by decide +kernel
theorem dX6_openElement_182 : decode cX6_openElement 182 = .ok (.iload_n 2, 1) := by decide +kernel
theorem dX6_openElement_183 : decode cX6_openElement 183 = .ok (.iload 4, 2) := by decide +kernel
theorem dX6_openElement_185 : decode cX6_openElement 185 = .ok (.iconst 1, 1) := by decide +kernel
theorem dX6_openElement_186 : decode cX6_openElement 186 = .ok (.iadd, 1) := by decide +kernel
theorem dX6_openElement_187 : decode cX6_openElement 187 = .ok (.lload 6, 2) := by decide +kernel
theorem dX6_openElement_189 : decode cX6_openElement 189 = .ok (.iload_n 1, 1) := by decide +kernel
theorem dX6_openElement_190 : decode cX6_openElement 190 = .ok (.invokevirtual 203, 3) := by decide +kernel
theorem dX6_openElement_193 : decode cX6_openElement 193 = .ok (.ireturn, 1) := by decide +kernel
def m_Opener_openElement_J143 (a1 : Int32) (h0_broken : Int32) (h0_brokenAt : Int32) (h0_at : Int32) (h0_end : Int32) (h0_copies : Int32) (h0_literals : Int32) (h0_input_count : Int32) (h0_input_held_n : Nat) (h0_input_held_f : Nat → Int32) (h0_to_count : Int32) (h0_to_held_n : Nat) (h0_to_held_f : Nat → Int32) (p_10 : Int32) (p_11 : Int32) (s24 : Int64) : Option (Int32 × Int32 × Int32 × Int32 × Int32 × Int32 × Int32 × Int32 × (Nat → Int32)) :=
  (m_Opener_openLiterals h0_at ((1 : Int64) + s24) a1 h0_broken h0_brokenAt p_10 h0_end h0_literals h0_to_count h0_input_count h0_to_held_n h0_to_held_f h0_input_held_n h0_input_held_f).bind fun (r25, u26, u27, u28, u29, u30, u31) =>
  bch r25 <|
  some (r25, u26, u27, u28, h0_copies, u29, p_11, u30, u31)
def m_Opener_openElement_J58 (a1 : Int32) (h0_broken : Int32) (h0_brokenAt : Int32) (h0_at : Int32) (h0_end : Int32) (h0_begin : Int32) (h0_copies : Int32) (h0_literals : Int32) (h0_parts : Int32) (h0_input_count : Int32) (h0_input_held_n : Nat) (h0_input_held_f : Nat → Int32) (h0_to_count : Int32) (h0_to_held_n : Nat) (h0_to_held_f : Nat → Int32) (v3_2 : Int32) (v4_4 : Int32) (j5_6 : Int32) : Option (Int32 × Int32 × Int32 × Int32 × Int32 × Int32 × Int32 × Int32 × (Nat → Int32)) :=
  bnd (h0_at + (1 : Int32)) fun p_7 =>
  (m_Opener_lacks j5_6 p_7 h0_end).bind fun r8 =>
  if r8 = 0 then
    (m_Bytes_number p_7 j5_6 h0_input_count h0_input_held_n h0_input_held_f).bind fun r9 =>
    bnd (p_7 + j5_6) fun p_10 =>
    bnd (h0_parts + (1 : Int32)) fun p_11 =>
    if v3_2 = 0 then
      if j5_6 = 0 then
        m_Opener_openElement_J143 a1 h0_broken h0_brokenAt h0_at h0_end h0_copies h0_literals h0_input_count h0_input_held_n h0_input_held_f h0_to_count h0_to_held_n h0_to_held_f p_10 p_11 (v4_4.toInt64)
      else
        m_Opener_openElement_J143 a1 h0_broken h0_brokenAt h0_at h0_end h0_copies h0_literals h0_input_count h0_input_held_n h0_input_held_f h0_to_count h0_to_held_n h0_to_held_f p_10 p_11 r9
    else
      if v3_2 = (1 : Int32) then
        (m_Opener_openOffset h0_at ((4 : Int32) + (irem v4_4 (8 : Int32))) ((((256 : Int32) * (v4_4 / (8 : Int32))).toInt64) + r9) a1 h0_broken h0_brokenAt h0_begin h0_copies h0_to_count h0_to_held_n h0_to_held_f).bind fun (r18, u19, u20, u21, u22, u23) =>
        bch r18 <|
        some (r18, u19, u20, p_10, u21, h0_literals, p_11, u22, u23)
      else
        (m_Opener_openOffset h0_at (v4_4 + (1 : Int32)) r9 a1 h0_broken h0_brokenAt h0_begin h0_copies h0_to_count h0_to_held_n h0_to_held_f).bind fun (r12, u13, u14, u15, u16, u17) =>
        bch r12 <|
        some (r12, u13, u14, p_10, u15, h0_literals, p_11, u16, u17)
  else
    (m_Opener_breaks (1 : Int32) h0_end).bind fun (r32, u33, u34) =>
    bch r32 <|
    some (r32, u33, u34, p_7, h0_copies, h0_literals, h0_parts, h0_to_count, h0_to_held_f)
def m_Opener_openElement_J38 (a1 : Int32) (h0_broken : Int32) (h0_brokenAt : Int32) (h0_at : Int32) (h0_end : Int32) (h0_begin : Int32) (h0_copies : Int32) (h0_literals : Int32) (h0_parts : Int32) (h0_input_count : Int32) (h0_input_held_n : Nat) (h0_input_held_f : Nat → Int32) (h0_to_count : Int32) (h0_to_held_n : Nat) (h0_to_held_f : Nat → Int32) (v3_2 : Int32) (v4_4 : Int32) (s5 : Int32) : Option (Int32 × Int32 × Int32 × Int32 × Int32 × Int32 × Int32 × Int32 × (Nat → Int32)) :=
  if v3_2 = 0 then
    if v4_4 < (60 : Int32) then
      m_Opener_openElement_J58 a1 h0_broken h0_brokenAt h0_at h0_end h0_begin h0_copies h0_literals h0_parts h0_input_count h0_input_held_n h0_input_held_f h0_to_count h0_to_held_n h0_to_held_f v3_2 v4_4 s5
    else
      bnd (v4_4 - (59 : Int32)) fun v5_35 =>
      m_Opener_openElement_J58 a1 h0_broken h0_brokenAt h0_at h0_end h0_begin h0_copies h0_literals h0_parts h0_input_count h0_input_held_n h0_input_held_f h0_to_count h0_to_held_n h0_to_held_f v3_2 v4_4 v5_35
  else
    m_Opener_openElement_J58 a1 h0_broken h0_brokenAt h0_at h0_end h0_begin h0_copies h0_literals h0_parts h0_input_count h0_input_held_n h0_input_held_f h0_to_count h0_to_held_n h0_to_held_f v3_2 v4_4 s5
def m_Opener_openElement (a1 : Int32) (h0_broken : Int32) (h0_brokenAt : Int32) (h0_at : Int32) (h0_end : Int32) (h0_begin : Int32) (h0_copies : Int32) (h0_literals : Int32) (h0_parts : Int32) (h0_input_count : Int32) (h0_input_held_n : Nat) (h0_input_held_f : Nat → Int32) (h0_to_count : Int32) (h0_to_held_n : Nat) (h0_to_held_f : Nat → Int32) : Option (Int32 × Int32 × Int32 × Int32 × Int32 × Int32 × Int32 × Int32 × (Nat → Int32)) :=
  (m_Bytes_at h0_at h0_input_count h0_input_held_n h0_input_held_f).bind fun r1 =>
  bnd (irem r1 (4 : Int32)) fun v3_2 =>
  (m_Bytes_at h0_at h0_input_count h0_input_held_n h0_input_held_f).bind fun r3 =>
  bnd (r3 / (4 : Int32)) fun v4_4 =>
  if v3_2 = (3 : Int32) then
    m_Opener_openElement_J38 a1 h0_broken h0_brokenAt h0_at h0_end h0_begin h0_copies h0_literals h0_parts h0_input_count h0_input_held_n h0_input_held_f h0_to_count h0_to_held_n h0_to_held_f v3_2 v4_4 (4 : Int32)
  else
    m_Opener_openElement_J38 a1 h0_broken h0_brokenAt h0_at h0_end h0_begin h0_copies h0_literals h0_parts h0_input_count h0_input_held_n h0_input_held_f h0_to_count h0_to_held_n h0_to_held_f v3_2 v4_4 v3_2
def rm_Opener_openElement : Room := { frames := 3, cells := 0, slots := 0, locals := 87 }
set_option maxHeartbeats 4000000 in
set_option maxRecDepth 100000 in
theorem c_Opener_openElement {l : Launch} {dC : Nat → ClassId} {dI : Nat → Nat → Nat} {cB cI : ClassId} {sz : Nat} {h0 : Nat} {a1 : Int32} {h0_input : Nat} {h0_input_held : Nat} {h0_to : Nat} {h0_to_held : Nat} {w_h0_words : Value} {w_h0_settings : Value} {w_h0_blocks : Value} {h0_broken : Int32} {h0_brokenAt : Int32} {h0_at : Int32} {h0_end : Int32} {h0_begin : Int32} {h0_copies : Int32} {h0_literals : Int32} {h0_parts : Int32} {w_h0_frameBegin : Value} {w_h0_flags : Value} {w_h0_width : Value} {w_h0_size : Value} {h0_input_count : Int32} {h0_input_held_n : Nat} {h0_input_held_f : Nat → Int32} {h0_to_count : Int32} {h0_to_held_n : Nat} {h0_to_held_f : Nat → Int32} {o_r : Int32} {o_h0_broken : Int32} {o_h0_brokenAt : Int32} {o_h0_at : Int32} {o_h0_copies : Int32} {o_h0_literals : Int32} {o_h0_parts : Int32} {o_h0_to_count : Int32} {o_h0_to_held_f : Nat → Int32} (hf : m_Opener_openElement a1 h0_broken h0_brokenAt h0_at h0_end h0_begin h0_copies h0_literals h0_parts h0_input_count h0_input_held_n h0_input_held_f h0_to_count h0_to_held_n h0_to_held_f = some (o_r, o_h0_broken, o_h0_brokenAt, o_h0_at, o_h0_copies, o_h0_literals, o_h0_parts, o_h0_to_count, o_h0_to_held_f)) : Met l yX6_openElement (Cond.code yX6_openElement cX6_openElement 8 (some .boolean) :: lw_G) rm_Opener_openElement (PreC (dC, dI) [(cB, .byte), (cI, .int)] [.ref h0, .int a1] sz [(h0, .inr (5, [.ref h0_input, w_h0_words, w_h0_settings, .ref h0_to, w_h0_blocks, .int h0_broken, .int h0_brokenAt, .int h0_at, .int h0_end, .int h0_begin, .int h0_copies, .int h0_literals, .int h0_parts, w_h0_frameBegin, w_h0_flags, w_h0_width, w_h0_size])), (h0_input, .inr (2, [.ref h0_input_held, .int h0_input_count])), (h0_input_held, .inl (cB, h0_input_held_n, .inl h0_input_held_f)), (h0_to, .inr (2, [.ref h0_to_held, .int h0_to_count])), (h0_to_held, .inl (cB, h0_to_held_n, .inl h0_to_held_f))]) (QcI o_r (dC, dI) [(h0, .inr (5, [.ref h0_input, w_h0_words, w_h0_settings, .ref h0_to, w_h0_blocks, .int o_h0_broken, .int o_h0_brokenAt, .int o_h0_at, .int h0_end, .int h0_begin, .int o_h0_copies, .int o_h0_literals, .int o_h0_parts, w_h0_frameBegin, w_h0_flags, w_h0_width, w_h0_size])), (h0_input, .inr (2, [.ref h0_input_held, .int h0_input_count])), (h0_input_held, .inl (cB, h0_input_held_n, .inl h0_input_held_f)), (h0_to, .inr (2, [.ref h0_to_held, .int o_h0_to_count])), (h0_to_held, .inl (cB, h0_to_held_n, .inl o_h0_to_held_f))] (va_A [(h0, .inr (5, [.ref h0_input, w_h0_words, w_h0_settings, .ref h0_to, w_h0_blocks, .int h0_broken, .int h0_brokenAt, .int h0_at, .int h0_end, .int h0_begin, .int h0_copies, .int h0_literals, .int h0_parts, w_h0_frameBegin, w_h0_flags, w_h0_width, w_h0_size])), (h0_input, .inr (2, [.ref h0_input_held, .int h0_input_count])), (h0_input_held, .inl (cB, h0_input_held_n, .inl h0_input_held_f)), (h0_to, .inr (2, [.ref h0_to_held, .int h0_to_count])), (h0_to_held, .inl (cB, h0_to_held_n, .inl h0_to_held_f))] sz)) 0 0 (va_A [(h0, .inr (5, [.ref h0_input, w_h0_words, w_h0_settings, .ref h0_to, w_h0_blocks, .int h0_broken, .int h0_brokenAt, .int h0_at, .int h0_end, .int h0_begin, .int h0_copies, .int h0_literals, .int h0_parts, w_h0_frameBegin, w_h0_flags, w_h0_width, w_h0_size])), (h0_input, .inr (2, [.ref h0_input_held, .int h0_input_count])), (h0_input_held, .inl (cB, h0_input_held_n, .inl h0_input_held_f)), (h0_to, .inr (2, [.ref h0_to_held, .int h0_to_count])), (h0_to_held, .inl (cB, h0_to_held_n, .inl h0_to_held_f))] sz) := by
  refine met_of (Qf := fun A => QcI o_r (dC, dI) [(h0, .inr (5, [.ref h0_input, w_h0_words, w_h0_settings, .ref h0_to, w_h0_blocks, .int o_h0_broken, .int o_h0_brokenAt, .int o_h0_at, .int h0_end, .int h0_begin, .int o_h0_copies, .int o_h0_literals, .int o_h0_parts, w_h0_frameBegin, w_h0_flags, w_h0_width, w_h0_size])), (h0_input, .inr (2, [.ref h0_input_held, .int h0_input_count])), (h0_input_held, .inl (cB, h0_input_held_n, .inl h0_input_held_f)), (h0_to, .inr (2, [.ref h0_to_held, .int o_h0_to_count])), (h0_to_held, .inl (cB, h0_to_held_n, .inl o_h0_to_held_f))] A) (by decide) (Nat.le_of_ble_eq_true rfl) ?_
  intro p e s m below meth c A ls Q hx hb hr hml hown hts hlocks hnm hP hK hD hN hT hA hl hQ
  have hown : s.vm.findClass RX6 = some m.cls := hown
  have hS : va_S A s.heap s.heap [] := va_S.rf
  have hl : lv_has ls 8 [(0, .ref h0), (1, .int a1)] := hl
  unfold m_Opener_openElement at hf
  refine lv_aload_n hx hb dX6_openElement_0 rfl (lv_at hl 0 rfl) ?_
  refine va_get (D := (dC, dI)) (ci := 5) (v := .int h0_at) (C := RX6) (T := TX6) (N := 17) hx hb hts inG_X6 hown hK hP 0 rfl rfl 7 (by decide) (hts _ kw_296) (fun _ h9 => h9) rfl dX6_openElement_1 ?_
  refine lv_istore_n (lv' := [(2, .int h0_at), (0, .ref h0), (1, .int a1)]) hx hb dX6_openElement_4 rfl hl (by decide) rfl (fun ls hl => ?_)
  refine lv_aload_n hx hb dX6_openElement_5 rfl (lv_at hl 1 rfl) ?_
  refine va_get (D := (dC, dI)) (ci := 5) (v := .ref h0_input) (C := RX6) (T := TX6) (N := 17) hx hb hts inG_X6 hown hK hP 0 rfl rfl 0 (by decide) (hts _ kw_289) (fun _ h9 => h9) rfl dX6_openElement_6 ?_
  refine lv_iload_n hx hb dX6_openElement_9 rfl (lv_at hl 0 rfl) ?_
  obtain ⟨r1, hc, hf⟩ := bind_some hf
  refine nx_i (rn_V (As := [.int h0_at]) (rest := []) (n := 1) (ci := 2) (q0 := 0) ⟨hx, hb, hml, hown, hts⟩ (c_Bytes_at (l := l) (dC := dC) (dI := dI) (cB := cB) (cI := cI) (h0 := h0_input) (a1 := h0_at) (h0_held := h0_input_held) (h0_count := h0_input_count) (h0_held_n := h0_input_held_n) (h0_held_f := h0_input_held_f)  (o_r := r1) hc) (wV kw_862 kw_418 kw_419 kw_83 kw_420) (by decide +kernel) ⟨Nat.le_of_ble_eq_true rfl, Nat.le_of_ble_eq_true rfl⟩ hK hP hD hN hT hS (va_free (wc := [(h0_input, .inr (2, [.ref h0_input_held, .int h0_input_count])), (h0_input_held, .inl (cB, h0_input_held_n, .inl h0_input_held_f))]) hD hS hA [1, 2] rfl) [1, 2] rfl (by decide) rfl rfl rfl hl.1 rfl (lv_room (Nat.le_of_ble_eq_true rfl)) dX6_openElement_10 ⟨Nat.le_of_ble_eq_true rfl, Nat.le_of_ble_eq_true rfl⟩) hP hD hS hA (wr := [(h0, .inr (5, [.ref h0_input, w_h0_words, w_h0_settings, .ref h0_to, w_h0_blocks, .int h0_broken, .int h0_brokenAt, .int h0_at, .int h0_end, .int h0_begin, .int h0_copies, .int h0_literals, .int h0_parts, w_h0_frameBegin, w_h0_flags, w_h0_width, w_h0_size])), (h0_to, .inr (2, [.ref h0_to_held, .int h0_to_count])), (h0_to_held, .inl (cB, h0_to_held_n, .inl h0_to_held_f))]) (w1 := [(h0_input, .inr (2, [.ref h0_input_held, .int h0_input_count])), (h0_input_held, .inl (cB, h0_input_held_n, .inl h0_input_held_f))]) (ws' := [(h0, .inr (5, [.ref h0_input, w_h0_words, w_h0_settings, .ref h0_to, w_h0_blocks, .int h0_broken, .int h0_brokenAt, .int h0_at, .int h0_end, .int h0_begin, .int h0_copies, .int h0_literals, .int h0_parts, w_h0_frameBegin, w_h0_flags, w_h0_width, w_h0_size])), (h0_input, .inr (2, [.ref h0_input_held, .int h0_input_count])), (h0_input_held, .inl (cB, h0_input_held_n, .inl h0_input_held_f)), (h0_to, .inr (2, [.ref h0_to_held, .int h0_to_count])), (h0_to_held, .inl (cB, h0_to_held_n, .inl h0_to_held_f))]) [1, 2] [0, 3, 4] [0, 3, 4, 1, 2] rfl rfl (by decide) (by decide) rfl (by decide) (fun H locs hP hD hS => ?_)
  refine lv_iconst (v := 4) hx hb dX6_openElement_13 (by decide) ?_
  refine lv_irem hx hb dX6_openElement_14 (by decide) ?_
  refine lv_topi (fun v3_2 e_v3_2 => ?_)
  replace hf := bnd_at e_v3_2 hf
  refine lv_istore_n (lv' := [(3, .int v3_2), (2, .int h0_at), (0, .ref h0), (1, .int a1)]) hx hb dX6_openElement_15 rfl hl (by decide) rfl (fun ls hl => ?_)
  refine lv_aload_n hx hb dX6_openElement_16 rfl (lv_at hl 2 rfl) ?_
  refine va_get (D := (dC, dI)) (ci := 5) (v := .ref h0_input) (C := RX6) (T := TX6) (N := 17) hx hb hts inG_X6 hown hK hP 0 rfl rfl 0 (by decide) (hts _ kw_289) (fun _ h9 => h9) rfl dX6_openElement_17 ?_
  refine lv_iload_n hx hb dX6_openElement_20 rfl (lv_at hl 1 rfl) ?_
  obtain ⟨r3, hc, hf⟩ := bind_some hf
  refine nx_i (rn_V (As := [.int h0_at]) (rest := []) (n := 1) (ci := 2) (q0 := 0) ⟨hx, hb, hml, hown, hts⟩ (c_Bytes_at (l := l) (dC := dC) (dI := dI) (cB := cB) (cI := cI) (h0 := h0_input) (a1 := h0_at) (h0_held := h0_input_held) (h0_count := h0_input_count) (h0_held_n := h0_input_held_n) (h0_held_f := h0_input_held_f)  (o_r := r3) hc) (wV kw_862 kw_418 kw_419 kw_83 kw_420) (by decide +kernel) ⟨Nat.le_of_ble_eq_true rfl, Nat.le_of_ble_eq_true rfl⟩ hK hP hD hN hT hS (va_free (wc := [(h0_input, .inr (2, [.ref h0_input_held, .int h0_input_count])), (h0_input_held, .inl (cB, h0_input_held_n, .inl h0_input_held_f))]) hD hS hA [1, 2] rfl) [1, 2] rfl (by decide) rfl rfl rfl hl.1 rfl (lv_room (Nat.le_of_ble_eq_true rfl)) dX6_openElement_21 ⟨Nat.le_of_ble_eq_true rfl, Nat.le_of_ble_eq_true rfl⟩) hP hD hS hA (wr := [(h0, .inr (5, [.ref h0_input, w_h0_words, w_h0_settings, .ref h0_to, w_h0_blocks, .int h0_broken, .int h0_brokenAt, .int h0_at, .int h0_end, .int h0_begin, .int h0_copies, .int h0_literals, .int h0_parts, w_h0_frameBegin, w_h0_flags, w_h0_width, w_h0_size])), (h0_to, .inr (2, [.ref h0_to_held, .int h0_to_count])), (h0_to_held, .inl (cB, h0_to_held_n, .inl h0_to_held_f))]) (w1 := [(h0_input, .inr (2, [.ref h0_input_held, .int h0_input_count])), (h0_input_held, .inl (cB, h0_input_held_n, .inl h0_input_held_f))]) (ws' := [(h0, .inr (5, [.ref h0_input, w_h0_words, w_h0_settings, .ref h0_to, w_h0_blocks, .int h0_broken, .int h0_brokenAt, .int h0_at, .int h0_end, .int h0_begin, .int h0_copies, .int h0_literals, .int h0_parts, w_h0_frameBegin, w_h0_flags, w_h0_width, w_h0_size])), (h0_input, .inr (2, [.ref h0_input_held, .int h0_input_count])), (h0_input_held, .inl (cB, h0_input_held_n, .inl h0_input_held_f)), (h0_to, .inr (2, [.ref h0_to_held, .int h0_to_count])), (h0_to_held, .inl (cB, h0_to_held_n, .inl h0_to_held_f))]) [1, 2] [0, 3, 4] [0, 3, 4, 1, 2] rfl rfl (by decide) (by decide) rfl (by decide) (fun H locs hP hD hS => ?_)
  refine lv_iconst (v := 4) hx hb dX6_openElement_24 (by decide) ?_
  refine lv_idiv hx hb dX6_openElement_25 (by decide) ?_
  refine lv_topi (fun v4_4 e_v4_4 => ?_)
  replace hf := bnd_at e_v4_4 hf
  refine lv_istore (lv' := [(4, .int v4_4), (3, .int v3_2), (2, .int h0_at), (0, .ref h0), (1, .int a1)]) hx hb dX6_openElement_26 hl (by decide) rfl (fun ls hl => ?_)
  refine lv_iload_n hx hb dX6_openElement_28 rfl (lv_at hl 1 rfl) ?_
  refine lv_iconst (v := 3) hx hb dX6_openElement_29 (by decide) ?_
  have hJ_38 : ∀ (s5 : Int32) (H : Heap) (locs : List Loc) (ls : Array Slot), m_Opener_openElement_J38 a1 h0_broken h0_brokenAt h0_at h0_end h0_begin h0_copies h0_literals h0_parts h0_input_count h0_input_held_n h0_input_held_f h0_to_count h0_to_held_n h0_to_held_f v3_2 v4_4 s5 = some (o_r, o_h0_broken, o_h0_brokenAt, o_h0_at, o_h0_copies, o_h0_literals, o_h0_parts, o_h0_to_count, o_h0_to_held_f) → va_P (dC, dI) vwCl [(h0, .inr (5, [.ref h0_input, w_h0_words, w_h0_settings, .ref h0_to, w_h0_blocks, .int h0_broken, .int h0_brokenAt, .int h0_at, .int h0_end, .int h0_begin, .int h0_copies, .int h0_literals, .int h0_parts, w_h0_frameBegin, w_h0_flags, w_h0_width, w_h0_size])), (h0_input, .inr (2, [.ref h0_input_held, .int h0_input_count])), (h0_input_held, .inl (cB, h0_input_held_n, .inl h0_input_held_f)), (h0_to, .inr (2, [.ref h0_to_held, .int h0_to_count])), (h0_to_held, .inl (cB, h0_to_held_n, .inl h0_to_held_f))] H → va_D A [(h0, .inr (5, [.ref h0_input, w_h0_words, w_h0_settings, .ref h0_to, w_h0_blocks, .int h0_broken, .int h0_brokenAt, .int h0_at, .int h0_end, .int h0_begin, .int h0_copies, .int h0_literals, .int h0_parts, w_h0_frameBegin, w_h0_flags, w_h0_width, w_h0_size])), (h0_input, .inr (2, [.ref h0_input_held, .int h0_input_count])), (h0_input_held, .inl (cB, h0_input_held_n, .inl h0_input_held_f)), (h0_to, .inr (2, [.ref h0_to_held, .int h0_to_count])), (h0_to_held, .inl (cB, h0_to_held_n, .inl h0_to_held_f))] → va_S A s.heap H locs → lv_has ls 8 [(0, .ref h0), (1, .int a1), (2, .int h0_at), (3, .int v3_2), (4, .int v4_4)] → W p l e (rm_Opener_openElement) s m ([.ref h0, .int a1] : List Value).toArray below meth c H locs 0 0 Q (F0 m 38 ls [.int s5]) := by
    intro s5 H locs ls hf hP hD hS hl
    unfold m_Opener_openElement_J38 at hf
    refine lv_istore (lv' := [(5, .int s5), (0, .ref h0), (1, .int a1), (2, .int h0_at), (3, .int v3_2), (4, .int v4_4)]) hx hb dX6_openElement_38 hl (by decide) rfl (fun ls hl => ?_)
    refine lv_iload_n hx hb dX6_openElement_40 rfl (lv_at hl 4 rfl) ?_
    have hJ_58 : ∀ (j5_6 : Int32) (H : Heap) (locs : List Loc) (ls : Array Slot), m_Opener_openElement_J58 a1 h0_broken h0_brokenAt h0_at h0_end h0_begin h0_copies h0_literals h0_parts h0_input_count h0_input_held_n h0_input_held_f h0_to_count h0_to_held_n h0_to_held_f v3_2 v4_4 j5_6 = some (o_r, o_h0_broken, o_h0_brokenAt, o_h0_at, o_h0_copies, o_h0_literals, o_h0_parts, o_h0_to_count, o_h0_to_held_f) → va_P (dC, dI) vwCl [(h0, .inr (5, [.ref h0_input, w_h0_words, w_h0_settings, .ref h0_to, w_h0_blocks, .int h0_broken, .int h0_brokenAt, .int h0_at, .int h0_end, .int h0_begin, .int h0_copies, .int h0_literals, .int h0_parts, w_h0_frameBegin, w_h0_flags, w_h0_width, w_h0_size])), (h0_input, .inr (2, [.ref h0_input_held, .int h0_input_count])), (h0_input_held, .inl (cB, h0_input_held_n, .inl h0_input_held_f)), (h0_to, .inr (2, [.ref h0_to_held, .int h0_to_count])), (h0_to_held, .inl (cB, h0_to_held_n, .inl h0_to_held_f))] H → va_D A [(h0, .inr (5, [.ref h0_input, w_h0_words, w_h0_settings, .ref h0_to, w_h0_blocks, .int h0_broken, .int h0_brokenAt, .int h0_at, .int h0_end, .int h0_begin, .int h0_copies, .int h0_literals, .int h0_parts, w_h0_frameBegin, w_h0_flags, w_h0_width, w_h0_size])), (h0_input, .inr (2, [.ref h0_input_held, .int h0_input_count])), (h0_input_held, .inl (cB, h0_input_held_n, .inl h0_input_held_f)), (h0_to, .inr (2, [.ref h0_to_held, .int h0_to_count])), (h0_to_held, .inl (cB, h0_to_held_n, .inl h0_to_held_f))] → va_S A s.heap H locs → lv_has ls 8 [(0, .ref h0), (1, .int a1), (2, .int h0_at), (3, .int v3_2), (4, .int v4_4), (5, .int j5_6)] → W p l e (rm_Opener_openElement) s m ([.ref h0, .int a1] : List Value).toArray below meth c H locs 0 0 Q (F0 m 58 ls []) := by
      intro j5_6 H locs ls hf hP hD hS hl
      unfold m_Opener_openElement_J58 at hf
      refine lv_aload_n hx hb dX6_openElement_58 rfl (lv_at hl 0 rfl) ?_
      refine lv_dup hx hb dX6_openElement_59 rfl ?_
      refine va_get (D := (dC, dI)) (ci := 5) (v := .int h0_at) (C := RX6) (T := TX6) (N := 17) hx hb hts inG_X6 hown hK hP 0 rfl rfl 7 (by decide) (hts _ kw_296) (fun _ h9 => h9) rfl dX6_openElement_60 ?_
      refine lv_iconst (v := 1) hx hb dX6_openElement_63 (by decide) ?_
      refine lv_iadd hx hb dX6_openElement_64 ?_
      refine lv_topi (fun p_7 e_p_7 => ?_)
      replace hf := bnd_at e_p_7 hf
      refine va_put (D := (dC, dI)) (ci := 5) (v := .int p_7) (ty := .int) (C := RX6) (T := TX6) (N := 17) hx hb hts inG_X6 tyX6 tyX6_ok nmX6 hown hK hP hD hS 0 rfl rfl 7 (by decide) (hts _ kw_296) (fun _ h9 => h9) rfl (by decide +kernel) rfl rfl (Nat.le_of_ble_eq_true rfl) dX6_openElement_65 (fun H locs hP hD hS => ?_)
      have hP : va_P (dC, dI) vwCl [(h0, .inr (5, [.ref h0_input, w_h0_words, w_h0_settings, .ref h0_to, w_h0_blocks, .int h0_broken, .int h0_brokenAt, .int p_7, .int h0_end, .int h0_begin, .int h0_copies, .int h0_literals, .int h0_parts, w_h0_frameBegin, w_h0_flags, w_h0_width, w_h0_size])), (h0_input, .inr (2, [.ref h0_input_held, .int h0_input_count])), (h0_input_held, .inl (cB, h0_input_held_n, .inl h0_input_held_f)), (h0_to, .inr (2, [.ref h0_to_held, .int h0_to_count])), (h0_to_held, .inl (cB, h0_to_held_n, .inl h0_to_held_f))] H := hP
      have hD : va_D A [(h0, .inr (5, [.ref h0_input, w_h0_words, w_h0_settings, .ref h0_to, w_h0_blocks, .int h0_broken, .int h0_brokenAt, .int p_7, .int h0_end, .int h0_begin, .int h0_copies, .int h0_literals, .int h0_parts, w_h0_frameBegin, w_h0_flags, w_h0_width, w_h0_size])), (h0_input, .inr (2, [.ref h0_input_held, .int h0_input_count])), (h0_input_held, .inl (cB, h0_input_held_n, .inl h0_input_held_f)), (h0_to, .inr (2, [.ref h0_to_held, .int h0_to_count])), (h0_to_held, .inl (cB, h0_to_held_n, .inl h0_to_held_f))] := hD
      refine lv_aload_n hx hb dX6_openElement_68 rfl (lv_at hl 0 rfl) ?_
      refine lv_iload hx hb dX6_openElement_69 (lv_at hl 5 rfl) ?_
      obtain ⟨r8, hc, hf⟩ := bind_some hf
      refine nx_i (rn_V (As := [.int j5_6]) (rest := []) (n := 1) (ci := 5) (q0 := 0) ⟨hx, hb, hml, hown, hts⟩ (c_Opener_lacks (l := l) (dC := dC) (dI := dI) (cB := cB) (cI := cI) (h0 := h0) (a1 := j5_6) (w_h0_input := (.ref h0_input)) (w_h0_words := (w_h0_words)) (w_h0_settings := (w_h0_settings)) (w_h0_to := (.ref h0_to)) (w_h0_blocks := (w_h0_blocks)) (w_h0_broken := (.int h0_broken)) (w_h0_brokenAt := (.int h0_brokenAt)) (h0_at := p_7) (h0_end := h0_end) (w_h0_begin := (.int h0_begin)) (w_h0_copies := (.int h0_copies)) (w_h0_literals := (.int h0_literals)) (w_h0_parts := (.int h0_parts)) (w_h0_frameBegin := (w_h0_frameBegin)) (w_h0_flags := (w_h0_flags)) (w_h0_width := (w_h0_width)) (w_h0_size := (w_h0_size))  (o_r := r8) hc) (wV kw_867 kw_869 kw_25 kw_92 kw_870) (by decide +kernel) ⟨Nat.le_of_ble_eq_true rfl, Nat.le_of_ble_eq_true rfl⟩ hK hP hD hN hT hS (va_free (wc := [(h0, .inr (5, [.ref h0_input, w_h0_words, w_h0_settings, .ref h0_to, w_h0_blocks, .int h0_broken, .int h0_brokenAt, .int p_7, .int h0_end, .int h0_begin, .int h0_copies, .int h0_literals, .int h0_parts, w_h0_frameBegin, w_h0_flags, w_h0_width, w_h0_size]))]) hD hS hA [0] rfl) [0] rfl (by decide) rfl rfl rfl hl.1 rfl (lv_room (Nat.le_of_ble_eq_true rfl)) dX6_openElement_71 ⟨Nat.le_of_ble_eq_true rfl, Nat.le_of_ble_eq_true rfl⟩) hP hD hS hA (wr := [(h0_input, .inr (2, [.ref h0_input_held, .int h0_input_count])), (h0_input_held, .inl (cB, h0_input_held_n, .inl h0_input_held_f)), (h0_to, .inr (2, [.ref h0_to_held, .int h0_to_count])), (h0_to_held, .inl (cB, h0_to_held_n, .inl h0_to_held_f))]) (w1 := [(h0, .inr (5, [.ref h0_input, w_h0_words, w_h0_settings, .ref h0_to, w_h0_blocks, .int h0_broken, .int h0_brokenAt, .int p_7, .int h0_end, .int h0_begin, .int h0_copies, .int h0_literals, .int h0_parts, w_h0_frameBegin, w_h0_flags, w_h0_width, w_h0_size]))]) (ws' := [(h0, .inr (5, [.ref h0_input, w_h0_words, w_h0_settings, .ref h0_to, w_h0_blocks, .int h0_broken, .int h0_brokenAt, .int p_7, .int h0_end, .int h0_begin, .int h0_copies, .int h0_literals, .int h0_parts, w_h0_frameBegin, w_h0_flags, w_h0_width, w_h0_size])), (h0_input, .inr (2, [.ref h0_input_held, .int h0_input_count])), (h0_input_held, .inl (cB, h0_input_held_n, .inl h0_input_held_f)), (h0_to, .inr (2, [.ref h0_to_held, .int h0_to_count])), (h0_to_held, .inl (cB, h0_to_held_n, .inl h0_to_held_f))]) [0] [1, 2, 3, 4] [4, 0, 1, 2, 3] rfl rfl (by decide) (by decide) rfl (by decide) (fun H locs hP hD hS => ?_)
      refine lv_if_eq (tgt := 87) hx hb dX6_openElement_74 (by decide) (fun c_74 => ?_) (fun c_74 => ?_)
      · replace hf := if_t c_74 hf
        refine lv_aload_n hx hb dX6_openElement_87 rfl (lv_at hl 0 rfl) ?_
        refine va_get (D := (dC, dI)) (ci := 5) (v := .ref h0_input) (C := RX6) (T := TX6) (N := 17) hx hb hts inG_X6 hown hK hP 0 rfl rfl 0 (by decide) (hts _ kw_289) (fun _ h9 => h9) rfl dX6_openElement_88 ?_
        refine lv_aload_n hx hb dX6_openElement_91 rfl (lv_at hl 0 rfl) ?_
        refine va_get (D := (dC, dI)) (ci := 5) (v := .int p_7) (C := RX6) (T := TX6) (N := 17) hx hb hts inG_X6 hown hK hP 0 rfl rfl 7 (by decide) (hts _ kw_296) (fun _ h9 => h9) rfl dX6_openElement_92 ?_
        refine lv_iload hx hb dX6_openElement_95 (lv_at hl 5 rfl) ?_
        obtain ⟨r9, hc, hf⟩ := bind_some hf
        refine nx_l (rn_V (As := [.int p_7, .int j5_6]) (rest := []) (n := 2) (ci := 2) (q0 := 0) ⟨hx, hb, hml, hown, hts⟩ (c_Bytes_number (l := l) (dC := dC) (dI := dI) (cB := cB) (cI := cI) (h0 := h0_input) (a1 := p_7) (a2 := j5_6) (h0_held := h0_input_held) (h0_count := h0_input_count) (h0_held_n := h0_input_held_n) (h0_held_f := h0_input_held_f)  (o_r := r9) hc) (wV kw_889 kw_890 kw_891 kw_83 kw_892) (by decide +kernel) ⟨Nat.le_of_ble_eq_true rfl, Nat.le_of_ble_eq_true rfl⟩ hK hP hD hN hT hS (va_free (wc := [(h0_input, .inr (2, [.ref h0_input_held, .int h0_input_count])), (h0_input_held, .inl (cB, h0_input_held_n, .inl h0_input_held_f))]) hD hS hA [1, 2] rfl) [1, 2] rfl (by decide) rfl rfl rfl hl.1 rfl (lv_room (Nat.le_of_ble_eq_true rfl)) dX6_openElement_97 ⟨Nat.le_of_ble_eq_true rfl, Nat.le_of_ble_eq_true rfl⟩) hP hD hS hA (wr := [(h0, .inr (5, [.ref h0_input, w_h0_words, w_h0_settings, .ref h0_to, w_h0_blocks, .int h0_broken, .int h0_brokenAt, .int p_7, .int h0_end, .int h0_begin, .int h0_copies, .int h0_literals, .int h0_parts, w_h0_frameBegin, w_h0_flags, w_h0_width, w_h0_size])), (h0_to, .inr (2, [.ref h0_to_held, .int h0_to_count])), (h0_to_held, .inl (cB, h0_to_held_n, .inl h0_to_held_f))]) (w1 := [(h0_input, .inr (2, [.ref h0_input_held, .int h0_input_count])), (h0_input_held, .inl (cB, h0_input_held_n, .inl h0_input_held_f))]) (ws' := [(h0, .inr (5, [.ref h0_input, w_h0_words, w_h0_settings, .ref h0_to, w_h0_blocks, .int h0_broken, .int h0_brokenAt, .int p_7, .int h0_end, .int h0_begin, .int h0_copies, .int h0_literals, .int h0_parts, w_h0_frameBegin, w_h0_flags, w_h0_width, w_h0_size])), (h0_input, .inr (2, [.ref h0_input_held, .int h0_input_count])), (h0_input_held, .inl (cB, h0_input_held_n, .inl h0_input_held_f)), (h0_to, .inr (2, [.ref h0_to_held, .int h0_to_count])), (h0_to_held, .inl (cB, h0_to_held_n, .inl h0_to_held_f))]) [1, 2] [0, 3, 4] [0, 3, 4, 1, 2] rfl rfl (by decide) (by decide) rfl (by decide) (fun H locs hP hD hS => ?_)
        refine lv_lstore (lv' := [(6, .long r9), (0, .ref h0), (1, .int a1), (2, .int h0_at), (3, .int v3_2), (4, .int v4_4), (5, .int j5_6)]) hx hb dX6_openElement_100 hl (by decide) rfl (fun ls hl => ?_)
        refine lv_aload_n hx hb dX6_openElement_102 rfl (lv_at hl 1 rfl) ?_
        refine lv_dup hx hb dX6_openElement_103 rfl ?_
        refine va_get (D := (dC, dI)) (ci := 5) (v := .int p_7) (C := RX6) (T := TX6) (N := 17) hx hb hts inG_X6 hown hK hP 0 rfl rfl 7 (by decide) (hts _ kw_296) (fun _ h9 => h9) rfl dX6_openElement_104 ?_
        refine lv_iload hx hb dX6_openElement_107 (lv_at hl 6 rfl) ?_
        refine lv_iadd hx hb dX6_openElement_109 ?_
        refine lv_topi (fun p_10 e_p_10 => ?_)
        replace hf := bnd_at e_p_10 hf
        refine va_put (D := (dC, dI)) (ci := 5) (v := .int p_10) (ty := .int) (C := RX6) (T := TX6) (N := 17) hx hb hts inG_X6 tyX6 tyX6_ok nmX6 hown hK hP hD hS 0 rfl rfl 7 (by decide) (hts _ kw_296) (fun _ h9 => h9) rfl (by decide +kernel) rfl rfl (Nat.le_of_ble_eq_true rfl) dX6_openElement_110 (fun H locs hP hD hS => ?_)
        have hP : va_P (dC, dI) vwCl [(h0, .inr (5, [.ref h0_input, w_h0_words, w_h0_settings, .ref h0_to, w_h0_blocks, .int h0_broken, .int h0_brokenAt, .int p_10, .int h0_end, .int h0_begin, .int h0_copies, .int h0_literals, .int h0_parts, w_h0_frameBegin, w_h0_flags, w_h0_width, w_h0_size])), (h0_input, .inr (2, [.ref h0_input_held, .int h0_input_count])), (h0_input_held, .inl (cB, h0_input_held_n, .inl h0_input_held_f)), (h0_to, .inr (2, [.ref h0_to_held, .int h0_to_count])), (h0_to_held, .inl (cB, h0_to_held_n, .inl h0_to_held_f))] H := hP
        have hD : va_D A [(h0, .inr (5, [.ref h0_input, w_h0_words, w_h0_settings, .ref h0_to, w_h0_blocks, .int h0_broken, .int h0_brokenAt, .int p_10, .int h0_end, .int h0_begin, .int h0_copies, .int h0_literals, .int h0_parts, w_h0_frameBegin, w_h0_flags, w_h0_width, w_h0_size])), (h0_input, .inr (2, [.ref h0_input_held, .int h0_input_count])), (h0_input_held, .inl (cB, h0_input_held_n, .inl h0_input_held_f)), (h0_to, .inr (2, [.ref h0_to_held, .int h0_to_count])), (h0_to_held, .inl (cB, h0_to_held_n, .inl h0_to_held_f))] := hD
        refine lv_aload_n hx hb dX6_openElement_113 rfl (lv_at hl 1 rfl) ?_
        refine lv_dup hx hb dX6_openElement_114 rfl ?_
        refine va_get (D := (dC, dI)) (ci := 5) (v := .int h0_parts) (C := RX6) (T := TX6) (N := 17) hx hb hts inG_X6 hown hK hP 0 rfl rfl 12 (by decide) (hts _ kw_301) (fun _ h9 => h9) rfl dX6_openElement_115 ?_
        refine lv_iconst (v := 1) hx hb dX6_openElement_118 (by decide) ?_
        refine lv_iadd hx hb dX6_openElement_119 ?_
        refine lv_topi (fun p_11 e_p_11 => ?_)
        replace hf := bnd_at e_p_11 hf
        refine va_put (D := (dC, dI)) (ci := 5) (v := .int p_11) (ty := .int) (C := RX6) (T := TX6) (N := 17) hx hb hts inG_X6 tyX6 tyX6_ok nmX6 hown hK hP hD hS 0 rfl rfl 12 (by decide) (hts _ kw_301) (fun _ h9 => h9) rfl (by decide +kernel) rfl rfl (Nat.le_of_ble_eq_true rfl) dX6_openElement_120 (fun H locs hP hD hS => ?_)
        have hP : va_P (dC, dI) vwCl [(h0, .inr (5, [.ref h0_input, w_h0_words, w_h0_settings, .ref h0_to, w_h0_blocks, .int h0_broken, .int h0_brokenAt, .int p_10, .int h0_end, .int h0_begin, .int h0_copies, .int h0_literals, .int p_11, w_h0_frameBegin, w_h0_flags, w_h0_width, w_h0_size])), (h0_input, .inr (2, [.ref h0_input_held, .int h0_input_count])), (h0_input_held, .inl (cB, h0_input_held_n, .inl h0_input_held_f)), (h0_to, .inr (2, [.ref h0_to_held, .int h0_to_count])), (h0_to_held, .inl (cB, h0_to_held_n, .inl h0_to_held_f))] H := hP
        have hD : va_D A [(h0, .inr (5, [.ref h0_input, w_h0_words, w_h0_settings, .ref h0_to, w_h0_blocks, .int h0_broken, .int h0_brokenAt, .int p_10, .int h0_end, .int h0_begin, .int h0_copies, .int h0_literals, .int p_11, w_h0_frameBegin, w_h0_flags, w_h0_width, w_h0_size])), (h0_input, .inr (2, [.ref h0_input_held, .int h0_input_count])), (h0_input_held, .inl (cB, h0_input_held_n, .inl h0_input_held_f)), (h0_to, .inr (2, [.ref h0_to_held, .int h0_to_count])), (h0_to_held, .inl (cB, h0_to_held_n, .inl h0_to_held_f))] := hD
        refine lv_iload_n hx hb dX6_openElement_123 rfl (lv_at hl 4 rfl) ?_
        refine lv_if_ne (tgt := 149) hx hb dX6_openElement_124 (by decide) (fun c_124 => ?_) (fun c_124 => ?_)
        · replace hf := if_f c_124 hf
          refine lv_iload_n hx hb dX6_openElement_149 rfl (lv_at hl 4 rfl) ?_
          refine lv_iconst (v := 1) hx hb dX6_openElement_150 (by decide) ?_
          refine lv_icmp_ne (tgt := 181) hx hb dX6_openElement_151 (by decide) (fun c_151 => ?_) (fun c_151 => ?_)
          · replace hf := if_f c_151 hf
            refine lv_aload_n hx hb dX6_openElement_181 rfl (lv_at hl 1 rfl) ?_
            refine lv_iload_n hx hb dX6_openElement_182 rfl (lv_at hl 3 rfl) ?_
            refine lv_iload hx hb dX6_openElement_183 (lv_at hl 5 rfl) ?_
            refine lv_iconst (v := 1) hx hb dX6_openElement_185 (by decide) ?_
            refine lv_iadd hx hb dX6_openElement_186 ?_
            refine lv_lload hx hb dX6_openElement_187 (lv_at hl 0 rfl) ?_
            refine lv_iload_n hx hb dX6_openElement_189 rfl (lv_at hl 2 rfl) ?_
            obtain ⟨x, hc, hf⟩ := bind_some hf
            obtain ⟨r12, u13, u14, u15, u16, u17⟩ := x
            dsimp only at hf
            refine nx_i (rn_V (As := [.int h0_at, .int (v4_4 + (1 : Int32)), .long r9, .int a1]) (rest := []) (n := 4) (ci := 5) (q0 := 0) ⟨hx, hb, hml, hown, hts⟩ (c_Opener_openOffset (l := l) (dC := dC) (dI := dI) (cB := cB) (cI := cI) (h0 := h0) (a1 := h0_at) (a2 := (v4_4 + (1 : Int32))) (a3 := r9) (a4 := a1) (h0_to := h0_to) (h0_to_held := h0_to_held) (w_h0_input := (.ref h0_input)) (w_h0_words := (w_h0_words)) (w_h0_settings := (w_h0_settings)) (w_h0_blocks := (w_h0_blocks)) (h0_broken := h0_broken) (h0_brokenAt := h0_brokenAt) (w_h0_at := (.int p_10)) (w_h0_end := (.int h0_end)) (h0_begin := h0_begin) (h0_copies := h0_copies) (w_h0_literals := (.int h0_literals)) (w_h0_parts := (.int p_11)) (w_h0_frameBegin := (w_h0_frameBegin)) (w_h0_flags := (w_h0_flags)) (w_h0_width := (w_h0_width)) (w_h0_size := (w_h0_size)) (h0_to_count := h0_to_count) (h0_to_held_n := h0_to_held_n) (h0_to_held_f := h0_to_held_f) (o_h0_broken := u13) (o_h0_brokenAt := u14) (o_h0_copies := u15) (o_h0_to_count := u16) (o_h0_to_held_f := u17) (o_r := r12) hc) (wV kw_969 kw_971 kw_43 kw_92 kw_972) (by decide +kernel) ⟨Nat.le_of_ble_eq_true rfl, Nat.le_of_ble_eq_true rfl⟩ hK hP hD hN hT hS (va_free (wc := [(h0, .inr (5, [.ref h0_input, w_h0_words, w_h0_settings, .ref h0_to, w_h0_blocks, .int h0_broken, .int h0_brokenAt, .int p_10, .int h0_end, .int h0_begin, .int h0_copies, .int h0_literals, .int p_11, w_h0_frameBegin, w_h0_flags, w_h0_width, w_h0_size])), (h0_to, .inr (2, [.ref h0_to_held, .int h0_to_count])), (h0_to_held, .inl (cB, h0_to_held_n, .inl h0_to_held_f))]) hD hS hA [0, 3, 4] rfl) [0, 3, 4] rfl (by decide) rfl rfl rfl hl.1 rfl (lv_room (Nat.le_of_ble_eq_true rfl)) dX6_openElement_190 ⟨Nat.le_of_ble_eq_true rfl, Nat.le_of_ble_eq_true rfl⟩) hP hD hS hA (wr := [(h0_input, .inr (2, [.ref h0_input_held, .int h0_input_count])), (h0_input_held, .inl (cB, h0_input_held_n, .inl h0_input_held_f))]) (w1 := [(h0, .inr (5, [.ref h0_input, w_h0_words, w_h0_settings, .ref h0_to, w_h0_blocks, .int u13, .int u14, .int p_10, .int h0_end, .int h0_begin, .int u15, .int h0_literals, .int p_11, w_h0_frameBegin, w_h0_flags, w_h0_width, w_h0_size])), (h0_to, .inr (2, [.ref h0_to_held, .int u16])), (h0_to_held, .inl (cB, h0_to_held_n, .inl u17))]) (ws' := [(h0, .inr (5, [.ref h0_input, w_h0_words, w_h0_settings, .ref h0_to, w_h0_blocks, .int u13, .int u14, .int p_10, .int h0_end, .int h0_begin, .int u15, .int h0_literals, .int p_11, w_h0_frameBegin, w_h0_flags, w_h0_width, w_h0_size])), (h0_input, .inr (2, [.ref h0_input_held, .int h0_input_count])), (h0_input_held, .inl (cB, h0_input_held_n, .inl h0_input_held_f)), (h0_to, .inr (2, [.ref h0_to_held, .int u16])), (h0_to_held, .inl (cB, h0_to_held_n, .inl u17))]) [0, 3, 4] [1, 2] [2, 0, 1, 3, 4] rfl rfl (by decide) (by decide) rfl (by decide) (fun H locs hP hD hS => ?_)
            obtain ⟨hzb, hf⟩ := bch_some hf
            obtain ⟨rfl, hq_1⟩ := Prod.mk.inj (Option.some.inj hf)
            obtain ⟨rfl, hq_2⟩ := Prod.mk.inj hq_1
            obtain ⟨rfl, hq_3⟩ := Prod.mk.inj hq_2
            obtain ⟨rfl, hq_4⟩ := Prod.mk.inj hq_3
            obtain ⟨rfl, hq_5⟩ := Prod.mk.inj hq_4
            obtain ⟨rfl, hq_6⟩ := Prod.mk.inj hq_5
            obtain ⟨rfl, hq_7⟩ := Prod.mk.inj hq_6
            obtain ⟨rfl, hq_8⟩ := Prod.mk.inj hq_7
            obtain rfl := hq_8
            exact rt_z hQ hx hb hr hzb hlocks hP hD hS dX6_openElement_193
          · replace hf := if_t c_151 hf
            refine lv_aload_n hx hb dX6_openElement_154 rfl (lv_at hl 1 rfl) ?_
            refine lv_iload_n hx hb dX6_openElement_155 rfl (lv_at hl 3 rfl) ?_
            refine lv_iconst (v := 4) hx hb dX6_openElement_156 (by decide) ?_
            refine lv_iload hx hb dX6_openElement_157 (lv_at hl 5 rfl) ?_
            refine lv_bipush (v := 8) hx hb dX6_openElement_159 (by decide) ?_
            refine lv_irem hx hb dX6_openElement_161 (by decide) ?_
            refine lv_iadd hx hb dX6_openElement_162 ?_
            refine lv_sipush (v := 256) hx hb dX6_openElement_163 (by decide) ?_
            refine lv_iload hx hb dX6_openElement_166 (lv_at hl 5 rfl) ?_
            refine lv_bipush (v := 8) hx hb dX6_openElement_168 (by decide) ?_
            refine lv_idiv hx hb dX6_openElement_170 (by decide) ?_
            refine lv_imul hx hb dX6_openElement_171 ?_
            refine lv_i2l (v := (((256 : Int32) * (v4_4 / (8 : Int32))).toInt64)) hx hb dX6_openElement_172 rfl ?_
            refine lv_lload hx hb dX6_openElement_173 (lv_at hl 0 rfl) ?_
            refine lv_ladd hx hb dX6_openElement_175 ?_
            refine lv_iload_n hx hb dX6_openElement_176 rfl (lv_at hl 2 rfl) ?_
            obtain ⟨x, hc, hf⟩ := bind_some hf
            obtain ⟨r18, u19, u20, u21, u22, u23⟩ := x
            dsimp only at hf
            refine nx_i (rn_V (As := [.int h0_at, .int ((4 : Int32) + (irem v4_4 (8 : Int32))), .long ((((256 : Int32) * (v4_4 / (8 : Int32))).toInt64) + r9), .int a1]) (rest := []) (n := 4) (ci := 5) (q0 := 0) ⟨hx, hb, hml, hown, hts⟩ (c_Opener_openOffset (l := l) (dC := dC) (dI := dI) (cB := cB) (cI := cI) (h0 := h0) (a1 := h0_at) (a2 := ((4 : Int32) + (irem v4_4 (8 : Int32)))) (a3 := ((((256 : Int32) * (v4_4 / (8 : Int32))).toInt64) + r9)) (a4 := a1) (h0_to := h0_to) (h0_to_held := h0_to_held) (w_h0_input := (.ref h0_input)) (w_h0_words := (w_h0_words)) (w_h0_settings := (w_h0_settings)) (w_h0_blocks := (w_h0_blocks)) (h0_broken := h0_broken) (h0_brokenAt := h0_brokenAt) (w_h0_at := (.int p_10)) (w_h0_end := (.int h0_end)) (h0_begin := h0_begin) (h0_copies := h0_copies) (w_h0_literals := (.int h0_literals)) (w_h0_parts := (.int p_11)) (w_h0_frameBegin := (w_h0_frameBegin)) (w_h0_flags := (w_h0_flags)) (w_h0_width := (w_h0_width)) (w_h0_size := (w_h0_size)) (h0_to_count := h0_to_count) (h0_to_held_n := h0_to_held_n) (h0_to_held_f := h0_to_held_f) (o_h0_broken := u19) (o_h0_brokenAt := u20) (o_h0_copies := u21) (o_h0_to_count := u22) (o_h0_to_held_f := u23) (o_r := r18) hc) (wV kw_969 kw_971 kw_43 kw_92 kw_972) (by decide +kernel) ⟨Nat.le_of_ble_eq_true rfl, Nat.le_of_ble_eq_true rfl⟩ hK hP hD hN hT hS (va_free (wc := [(h0, .inr (5, [.ref h0_input, w_h0_words, w_h0_settings, .ref h0_to, w_h0_blocks, .int h0_broken, .int h0_brokenAt, .int p_10, .int h0_end, .int h0_begin, .int h0_copies, .int h0_literals, .int p_11, w_h0_frameBegin, w_h0_flags, w_h0_width, w_h0_size])), (h0_to, .inr (2, [.ref h0_to_held, .int h0_to_count])), (h0_to_held, .inl (cB, h0_to_held_n, .inl h0_to_held_f))]) hD hS hA [0, 3, 4] rfl) [0, 3, 4] rfl (by decide) rfl rfl rfl hl.1 rfl (lv_room (Nat.le_of_ble_eq_true rfl)) dX6_openElement_177 ⟨Nat.le_of_ble_eq_true rfl, Nat.le_of_ble_eq_true rfl⟩) hP hD hS hA (wr := [(h0_input, .inr (2, [.ref h0_input_held, .int h0_input_count])), (h0_input_held, .inl (cB, h0_input_held_n, .inl h0_input_held_f))]) (w1 := [(h0, .inr (5, [.ref h0_input, w_h0_words, w_h0_settings, .ref h0_to, w_h0_blocks, .int u19, .int u20, .int p_10, .int h0_end, .int h0_begin, .int u21, .int h0_literals, .int p_11, w_h0_frameBegin, w_h0_flags, w_h0_width, w_h0_size])), (h0_to, .inr (2, [.ref h0_to_held, .int u22])), (h0_to_held, .inl (cB, h0_to_held_n, .inl u23))]) (ws' := [(h0, .inr (5, [.ref h0_input, w_h0_words, w_h0_settings, .ref h0_to, w_h0_blocks, .int u19, .int u20, .int p_10, .int h0_end, .int h0_begin, .int u21, .int h0_literals, .int p_11, w_h0_frameBegin, w_h0_flags, w_h0_width, w_h0_size])), (h0_input, .inr (2, [.ref h0_input_held, .int h0_input_count])), (h0_input_held, .inl (cB, h0_input_held_n, .inl h0_input_held_f)), (h0_to, .inr (2, [.ref h0_to_held, .int u22])), (h0_to_held, .inl (cB, h0_to_held_n, .inl u23))]) [0, 3, 4] [1, 2] [2, 0, 1, 3, 4] rfl rfl (by decide) (by decide) rfl (by decide) (fun H locs hP hD hS => ?_)
            obtain ⟨hzb, hf⟩ := bch_some hf
            obtain ⟨rfl, hq_1⟩ := Prod.mk.inj (Option.some.inj hf)
            obtain ⟨rfl, hq_2⟩ := Prod.mk.inj hq_1
            obtain ⟨rfl, hq_3⟩ := Prod.mk.inj hq_2
            obtain ⟨rfl, hq_4⟩ := Prod.mk.inj hq_3
            obtain ⟨rfl, hq_5⟩ := Prod.mk.inj hq_4
            obtain ⟨rfl, hq_6⟩ := Prod.mk.inj hq_5
            obtain ⟨rfl, hq_7⟩ := Prod.mk.inj hq_6
            obtain ⟨rfl, hq_8⟩ := Prod.mk.inj hq_7
            obtain rfl := hq_8
            exact rt_z hQ hx hb hr hzb hlocks hP hD hS dX6_openElement_180
        · replace hf := if_t c_124 hf
          refine lv_aload_n hx hb dX6_openElement_127 rfl (lv_at hl 1 rfl) ?_
          refine lv_iload_n hx hb dX6_openElement_128 rfl (lv_at hl 3 rfl) ?_
          refine lv_lconst (v := 1) hx hb dX6_openElement_129 (by decide) ?_
          refine lv_iload hx hb dX6_openElement_130 (lv_at hl 6 rfl) ?_
          have hJ_143 : ∀ (s24 : Int64) (H : Heap) (locs : List Loc) (ls : Array Slot), m_Opener_openElement_J143 a1 h0_broken h0_brokenAt h0_at h0_end h0_copies h0_literals h0_input_count h0_input_held_n h0_input_held_f h0_to_count h0_to_held_n h0_to_held_f p_10 p_11 s24 = some (o_r, o_h0_broken, o_h0_brokenAt, o_h0_at, o_h0_copies, o_h0_literals, o_h0_parts, o_h0_to_count, o_h0_to_held_f) → va_P (dC, dI) vwCl [(h0, .inr (5, [.ref h0_input, w_h0_words, w_h0_settings, .ref h0_to, w_h0_blocks, .int h0_broken, .int h0_brokenAt, .int p_10, .int h0_end, .int h0_begin, .int h0_copies, .int h0_literals, .int p_11, w_h0_frameBegin, w_h0_flags, w_h0_width, w_h0_size])), (h0_input, .inr (2, [.ref h0_input_held, .int h0_input_count])), (h0_input_held, .inl (cB, h0_input_held_n, .inl h0_input_held_f)), (h0_to, .inr (2, [.ref h0_to_held, .int h0_to_count])), (h0_to_held, .inl (cB, h0_to_held_n, .inl h0_to_held_f))] H → va_D A [(h0, .inr (5, [.ref h0_input, w_h0_words, w_h0_settings, .ref h0_to, w_h0_blocks, .int h0_broken, .int h0_brokenAt, .int p_10, .int h0_end, .int h0_begin, .int h0_copies, .int h0_literals, .int p_11, w_h0_frameBegin, w_h0_flags, w_h0_width, w_h0_size])), (h0_input, .inr (2, [.ref h0_input_held, .int h0_input_count])), (h0_input_held, .inl (cB, h0_input_held_n, .inl h0_input_held_f)), (h0_to, .inr (2, [.ref h0_to_held, .int h0_to_count])), (h0_to_held, .inl (cB, h0_to_held_n, .inl h0_to_held_f))] → va_S A s.heap H locs → lv_has ls 8 [(1, .int a1)] → W p l e (rm_Opener_openElement) s m ([.ref h0, .int a1] : List Value).toArray below meth c H locs 0 0 Q (F0 m 143 ls [.long s24, .long (1 : Int64), .int h0_at, .ref h0]) := by
            intro s24 H locs ls hf hP hD hS hl
            unfold m_Opener_openElement_J143 at hf
            refine lv_ladd hx hb dX6_openElement_143 ?_
            refine lv_iload_n hx hb dX6_openElement_144 rfl (lv_at hl 0 rfl) ?_
            obtain ⟨x, hc, hf⟩ := bind_some hf
            obtain ⟨r25, u26, u27, u28, u29, u30, u31⟩ := x
            dsimp only at hf
            refine nx_i (rn_V (As := [.int h0_at, .long ((1 : Int64) + s24), .int a1]) (rest := []) (n := 3) (ci := 5) (q0 := 0) ⟨hx, hb, hml, hown, hts⟩ (c_Opener_openLiterals (l := l) (dC := dC) (dI := dI) (cB := cB) (cI := cI) (h0 := h0) (a1 := h0_at) (a2 := ((1 : Int64) + s24)) (a3 := a1) (h0_to := h0_to) (h0_input := h0_input) (h0_to_held := h0_to_held) (h0_input_held := h0_input_held) (w_h0_words := (w_h0_words)) (w_h0_settings := (w_h0_settings)) (w_h0_blocks := (w_h0_blocks)) (h0_broken := h0_broken) (h0_brokenAt := h0_brokenAt) (h0_at := p_10) (h0_end := h0_end) (w_h0_begin := (.int h0_begin)) (w_h0_copies := (.int h0_copies)) (h0_literals := h0_literals) (w_h0_parts := (.int p_11)) (w_h0_frameBegin := (w_h0_frameBegin)) (w_h0_flags := (w_h0_flags)) (w_h0_width := (w_h0_width)) (w_h0_size := (w_h0_size)) (h0_to_count := h0_to_count) (h0_input_count := h0_input_count) (h0_to_held_n := h0_to_held_n) (h0_to_held_f := h0_to_held_f) (h0_input_held_n := h0_input_held_n) (h0_input_held_f := h0_input_held_f) (o_h0_broken := u26) (o_h0_brokenAt := u27) (o_h0_at := u28) (o_h0_literals := u29) (o_h0_to_count := u30) (o_h0_to_held_f := u31) (o_r := r25) hc) (wV kw_965 kw_967 kw_42 kw_92 kw_968) (by decide +kernel) ⟨Nat.le_of_ble_eq_true rfl, Nat.le_of_ble_eq_true rfl⟩ hK hP hD hN hT hS (va_free (wc := [(h0, .inr (5, [.ref h0_input, w_h0_words, w_h0_settings, .ref h0_to, w_h0_blocks, .int h0_broken, .int h0_brokenAt, .int p_10, .int h0_end, .int h0_begin, .int h0_copies, .int h0_literals, .int p_11, w_h0_frameBegin, w_h0_flags, w_h0_width, w_h0_size])), (h0_to, .inr (2, [.ref h0_to_held, .int h0_to_count])), (h0_input, .inr (2, [.ref h0_input_held, .int h0_input_count])), (h0_to_held, .inl (cB, h0_to_held_n, .inl h0_to_held_f)), (h0_input_held, .inl (cB, h0_input_held_n, .inl h0_input_held_f))]) hD hS hA [0, 3, 1, 4, 2] rfl) [0, 3, 1, 4, 2] rfl (by decide) rfl rfl rfl hl.1 rfl (lv_room (Nat.le_of_ble_eq_true rfl)) dX6_openElement_145 ⟨Nat.le_of_ble_eq_true rfl, Nat.le_of_ble_eq_true rfl⟩) hP hD hS hA (wr := []) (w1 := [(h0, .inr (5, [.ref h0_input, w_h0_words, w_h0_settings, .ref h0_to, w_h0_blocks, .int u26, .int u27, .int u28, .int h0_end, .int h0_begin, .int h0_copies, .int u29, .int p_11, w_h0_frameBegin, w_h0_flags, w_h0_width, w_h0_size])), (h0_to, .inr (2, [.ref h0_to_held, .int u30])), (h0_input, .inr (2, [.ref h0_input_held, .int h0_input_count])), (h0_to_held, .inl (cB, h0_to_held_n, .inl u31)), (h0_input_held, .inl (cB, h0_input_held_n, .inl h0_input_held_f))]) (ws' := [(h0, .inr (5, [.ref h0_input, w_h0_words, w_h0_settings, .ref h0_to, w_h0_blocks, .int u26, .int u27, .int u28, .int h0_end, .int h0_begin, .int h0_copies, .int u29, .int p_11, w_h0_frameBegin, w_h0_flags, w_h0_width, w_h0_size])), (h0_input, .inr (2, [.ref h0_input_held, .int h0_input_count])), (h0_input_held, .inl (cB, h0_input_held_n, .inl h0_input_held_f)), (h0_to, .inr (2, [.ref h0_to_held, .int u30])), (h0_to_held, .inl (cB, h0_to_held_n, .inl u31))]) [0, 3, 1, 4, 2] [] [0, 2, 4, 1, 3] rfl rfl (by decide) (by decide) rfl (by decide) (fun H locs hP hD hS => ?_)
            obtain ⟨hzb, hf⟩ := bch_some hf
            obtain ⟨rfl, hq_1⟩ := Prod.mk.inj (Option.some.inj hf)
            obtain ⟨rfl, hq_2⟩ := Prod.mk.inj hq_1
            obtain ⟨rfl, hq_3⟩ := Prod.mk.inj hq_2
            obtain ⟨rfl, hq_4⟩ := Prod.mk.inj hq_3
            obtain ⟨rfl, hq_5⟩ := Prod.mk.inj hq_4
            obtain ⟨rfl, hq_6⟩ := Prod.mk.inj hq_5
            obtain ⟨rfl, hq_7⟩ := Prod.mk.inj hq_6
            obtain ⟨rfl, hq_8⟩ := Prod.mk.inj hq_7
            obtain rfl := hq_8
            exact rt_z hQ hx hb hr hzb hlocks hP hD hS dX6_openElement_148
          refine lv_if_ne (tgt := 141) hx hb dX6_openElement_132 (by decide) (fun c_132 => ?_) (fun c_132 => ?_)
          · replace hf := if_f c_132 hf
            refine lv_lload hx hb dX6_openElement_141 (lv_at hl 0 rfl) ?_
            exact hJ_143 r9 _ _ _ hf hP hD hS (lv_sub hl [2] rfl)
          · replace hf := if_t c_132 hf
            refine lv_iload hx hb dX6_openElement_135 (lv_at hl 5 rfl) ?_
            refine lv_i2l (v := (v4_4.toInt64)) hx hb dX6_openElement_137 rfl ?_
            refine lv_goto (tgt := 143) hx hb dX6_openElement_138 (by decide) ?_
            exact hJ_143 (v4_4.toInt64) _ _ _ hf hP hD hS (lv_sub hl [2] rfl)
      · replace hf := if_f c_74 hf
        refine lv_aload_n hx hb dX6_openElement_77 rfl (lv_at hl 0 rfl) ?_
        refine lv_iconst (v := 1) hx hb dX6_openElement_78 (by decide) ?_
        refine lv_aload_n hx hb dX6_openElement_79 rfl (lv_at hl 0 rfl) ?_
        refine va_get (D := (dC, dI)) (ci := 5) (v := .int h0_end) (C := RX6) (T := TX6) (N := 17) hx hb hts inG_X6 hown hK hP 0 rfl rfl 8 (by decide) (hts _ kw_297) (fun _ h9 => h9) rfl dX6_openElement_80 ?_
        obtain ⟨x, hc, hf⟩ := bind_some hf
        obtain ⟨r32, u33, u34⟩ := x
        dsimp only at hf
        refine nx_i (rn_V (As := [.int (1 : Int32), .int h0_end]) (rest := []) (n := 2) (ci := 5) (q0 := 0) ⟨hx, hb, hml, hown, hts⟩ (c_Opener_breaks (l := l) (dC := dC) (dI := dI) (cB := cB) (cI := cI) (h0 := h0) (a1 := (1 : Int32)) (a2 := h0_end) (w_h0_input := (.ref h0_input)) (w_h0_words := (w_h0_words)) (w_h0_settings := (w_h0_settings)) (w_h0_to := (.ref h0_to)) (w_h0_blocks := (w_h0_blocks)) (h0_broken := h0_broken) (h0_brokenAt := h0_brokenAt) (w_h0_at := (.int p_7)) (w_h0_end := (.int h0_end)) (w_h0_begin := (.int h0_begin)) (w_h0_copies := (.int h0_copies)) (w_h0_literals := (.int h0_literals)) (w_h0_parts := (.int h0_parts)) (w_h0_frameBegin := (w_h0_frameBegin)) (w_h0_flags := (w_h0_flags)) (w_h0_width := (w_h0_width)) (w_h0_size := (w_h0_size)) (o_h0_broken := u33) (o_h0_brokenAt := u34) (o_r := r32) hc) (wV kw_871 kw_873 kw_26 kw_92 kw_874) (by decide +kernel) ⟨Nat.le_of_ble_eq_true rfl, Nat.le_of_ble_eq_true rfl⟩ hK hP hD hN hT hS (va_free (wc := [(h0, .inr (5, [.ref h0_input, w_h0_words, w_h0_settings, .ref h0_to, w_h0_blocks, .int h0_broken, .int h0_brokenAt, .int p_7, .int h0_end, .int h0_begin, .int h0_copies, .int h0_literals, .int h0_parts, w_h0_frameBegin, w_h0_flags, w_h0_width, w_h0_size]))]) hD hS hA [0] rfl) [0] rfl (by decide) rfl rfl rfl hl.1 rfl (lv_room (Nat.le_of_ble_eq_true rfl)) dX6_openElement_83 ⟨Nat.le_of_ble_eq_true rfl, Nat.le_of_ble_eq_true rfl⟩) hP hD hS hA (wr := [(h0_input, .inr (2, [.ref h0_input_held, .int h0_input_count])), (h0_input_held, .inl (cB, h0_input_held_n, .inl h0_input_held_f)), (h0_to, .inr (2, [.ref h0_to_held, .int h0_to_count])), (h0_to_held, .inl (cB, h0_to_held_n, .inl h0_to_held_f))]) (w1 := [(h0, .inr (5, [.ref h0_input, w_h0_words, w_h0_settings, .ref h0_to, w_h0_blocks, .int u33, .int u34, .int p_7, .int h0_end, .int h0_begin, .int h0_copies, .int h0_literals, .int h0_parts, w_h0_frameBegin, w_h0_flags, w_h0_width, w_h0_size]))]) (ws' := [(h0, .inr (5, [.ref h0_input, w_h0_words, w_h0_settings, .ref h0_to, w_h0_blocks, .int u33, .int u34, .int p_7, .int h0_end, .int h0_begin, .int h0_copies, .int h0_literals, .int h0_parts, w_h0_frameBegin, w_h0_flags, w_h0_width, w_h0_size])), (h0_input, .inr (2, [.ref h0_input_held, .int h0_input_count])), (h0_input_held, .inl (cB, h0_input_held_n, .inl h0_input_held_f)), (h0_to, .inr (2, [.ref h0_to_held, .int h0_to_count])), (h0_to_held, .inl (cB, h0_to_held_n, .inl h0_to_held_f))]) [0] [1, 2, 3, 4] [4, 0, 1, 2, 3] rfl rfl (by decide) (by decide) rfl (by decide) (fun H locs hP hD hS => ?_)
        obtain ⟨hzb, hf⟩ := bch_some hf
        obtain ⟨rfl, hq_1⟩ := Prod.mk.inj (Option.some.inj hf)
        obtain ⟨rfl, hq_2⟩ := Prod.mk.inj hq_1
        obtain ⟨rfl, hq_3⟩ := Prod.mk.inj hq_2
        obtain ⟨rfl, hq_4⟩ := Prod.mk.inj hq_3
        obtain ⟨rfl, hq_5⟩ := Prod.mk.inj hq_4
        obtain ⟨rfl, hq_6⟩ := Prod.mk.inj hq_5
        obtain ⟨rfl, hq_7⟩ := Prod.mk.inj hq_6
        obtain ⟨rfl, hq_8⟩ := Prod.mk.inj hq_7
        obtain rfl := hq_8
        exact rt_z hQ hx hb hr hzb hlocks hP hD hS dX6_openElement_86
    refine lv_if_ne (tgt := 58) hx hb dX6_openElement_41 (by decide) (fun c_41 => ?_) (fun c_41 => ?_)
    · replace hf := if_f c_41 hf
      exact hJ_58 s5 _ _ _ hf hP hD hS (lv_sub hl [1, 2, 3, 4, 5, 0] rfl)
    · replace hf := if_t c_41 hf
      refine lv_iload hx hb dX6_openElement_44 (lv_at hl 5 rfl) ?_
      refine lv_bipush (v := 60) hx hb dX6_openElement_46 (by decide) ?_
      refine lv_icmp_lt (tgt := 58) hx hb dX6_openElement_48 (by decide) (fun c_48 => ?_) (fun c_48 => ?_)
      · replace hf := if_t c_48 hf
        exact hJ_58 s5 _ _ _ hf hP hD hS (lv_sub hl [1, 2, 3, 4, 5, 0] rfl)
      · replace hf := if_f c_48 hf
        refine lv_iload hx hb dX6_openElement_51 (lv_at hl 5 rfl) ?_
        refine lv_bipush (v := 59) hx hb dX6_openElement_53 (by decide) ?_
        refine lv_isub hx hb dX6_openElement_55 ?_
        refine lv_topi (fun v5_35 e_v5_35 => ?_)
        replace hf := bnd_at e_v5_35 hf
        refine lv_istore (lv' := [(5, .int v5_35), (0, .ref h0), (1, .int a1), (2, .int h0_at), (3, .int v3_2), (4, .int v4_4)]) hx hb dX6_openElement_56 hl (by decide) rfl (fun ls hl => ?_)
        exact hJ_58 v5_35 _ _ _ hf hP hD hS (lv_sub hl [1, 2, 3, 4, 5, 0] rfl)
  refine lv_icmp_ne (tgt := 37) hx hb dX6_openElement_30 (by decide) (fun c_30 => ?_) (fun c_30 => ?_)
  · replace hf := if_f c_30 hf
    refine lv_iload_n hx hb dX6_openElement_37 rfl (lv_at hl 1 rfl) ?_
    exact hJ_38 v3_2 _ _ _ hf hP hD hS (lv_sub hl [3, 4, 2, 1, 0] rfl)
  · replace hf := if_t c_30 hf
    refine lv_iconst (v := 4) hx hb dX6_openElement_33 (by decide) ?_
    refine lv_goto (tgt := 38) hx hb dX6_openElement_34 (by decide) ?_
    exact hJ_38 (4 : Int32) _ _ _ hf hP hD hS (lv_sub hl [3, 4, 2, 1, 0] rfl)

