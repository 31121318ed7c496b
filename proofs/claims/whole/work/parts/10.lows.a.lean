theorem dX5_start_0 : decode cX5_start 0 = .ok (.aload_n 0, 1) := by decide +kernel
theorem dX5_start_1 : decode cX5_start 1 = .ok (.iload_n 1, 1) := by decide +kernel
theorem dX5_start_2 : decode cX5_start 2 = .ok (.sipush 4000, 3) := by decide +kernel
theorem dX5_start_5 : decode cX5_start 5 = .ok (.invokestatic 25, 3) := by decide +kernel
theorem dX5_start_8 : decode cX5_start 8 = .ok (.putfield 31, 3) := by decide +kernel
theorem dX5_start_11 : decode cX5_start 11 = .ok (.return_, 1) := by decide +kernel
def m_Lows_start (a1 : Int32) : Option (Int32) :=
  bnd (imin a1 (4000 : Int32)) fun p_1 =>
  some p_1
def rm_Lows_start : Room := { frames := 1, cells := 0, slots := 0, locals := 14 }
set_option maxHeartbeats 4000000 in
set_option maxRecDepth 100000 in
theorem c_Lows_start {l : Launch} {dC : Nat → ClassId} {dI : Nat → Nat → Nat} {cB cI : ClassId} {sz : Nat} {h0 : Nat} {a1 : Int32} {w_h0_lastOfEquals : Value} {w_h0_value : Value} {w_h0_leastOnward : Value} {w_h0_leastSoFar : Value} {h0_last : Int32} {o_h0_last : Int32} (hf : m_Lows_start a1 = some o_h0_last) : Met l yX5_start (Cond.code yX5_start cX5_start 2 none :: lw_G) rm_Lows_start (PreC (dC, dI) [(cB, .byte), (cI, .int)] [.ref h0, .int a1] sz [(h0, .inr (4, [w_h0_lastOfEquals, w_h0_value, w_h0_leastOnward, w_h0_leastSoFar, .int h0_last]))]) (QcV (dC, dI) [(h0, .inr (4, [w_h0_lastOfEquals, w_h0_value, w_h0_leastOnward, w_h0_leastSoFar, .int o_h0_last]))] (va_A [(h0, .inr (4, [w_h0_lastOfEquals, w_h0_value, w_h0_leastOnward, w_h0_leastSoFar, .int h0_last]))] sz)) 0 0 (va_A [(h0, .inr (4, [w_h0_lastOfEquals, w_h0_value, w_h0_leastOnward, w_h0_leastSoFar, .int h0_last]))] sz) := by
  refine met_of (Qf := fun A => QcV (dC, dI) [(h0, .inr (4, [w_h0_lastOfEquals, w_h0_value, w_h0_leastOnward, w_h0_leastSoFar, .int o_h0_last]))] A) (by decide) (Nat.le_of_ble_eq_true rfl) ?_
  intro p e s m below meth c A ls Q hx hb hr hml hown hts hlocks hnm hP hK hD hN hT hA hl hQ
  have hown : s.vm.findClass RX5 = some m.cls := hown
  have hS : va_S A s.heap s.heap [] := va_S.rf
  have hl : lv_has ls 2 [(0, .ref h0), (1, .int a1)] := hl
  unfold m_Lows_start at hf
  refine lv_aload_n hx hb dX5_start_0 rfl (lv_at hl 0 rfl) ?_
  refine lv_iload_n hx hb dX5_start_1 rfl (lv_at hl 1 rfl) ?_
  refine lv_sipush (v := 4000) hx hb dX5_start_2 (by decide) ?_
  refine va_mmin hx hb (hml.trans hl.1.symm) hown (hts _ kw_507) (hts _ kw_488) (hts _ kw_84) (hts _ kw_489) (Nat.le_of_ble_eq_true rfl) (Nat.le_of_ble_eq_true rfl) (Nat.le_of_ble_eq_true rfl) (Nat.le_of_ble_eq_true rfl) dX5_start_5 ?_
  refine lv_topi (fun p_1 e_p_1 => ?_)
  replace hf := bnd_at e_p_1 hf
  refine va_put (D := (dC, dI)) (ci := 4) (v := .int p_1) (ty := .int) (C := RX5) (T := TX5) (N := 5) hx hb hts inG_X5 tyX5 tyX5_ok nmX5 hown hK hP hD hS 0 rfl rfl 4 (by decide) (hts _ kw_197) (fun _ h9 => h9) rfl (by decide +kernel) rfl rfl (Nat.le_of_ble_eq_true rfl) dX5_start_8 (fun H locs hP hD hS => ?_)
  have hP : va_P (dC, dI) vwCl [(h0, .inr (4, [w_h0_lastOfEquals, w_h0_value, w_h0_leastOnward, w_h0_leastSoFar, .int p_1]))] H := hP
  have hD : va_D A [(h0, .inr (4, [w_h0_lastOfEquals, w_h0_value, w_h0_leastOnward, w_h0_leastSoFar, .int p_1]))] := hD
  obtain rfl := Option.some.inj hf
  exact rt_v hQ hx hb hr hlocks hP hD hS dX5_start_11

theorem dX5_valueAt_0 : decode cX5_valueAt 0 = .ok (.iload_n 1, 1) := by decide +kernel
theorem dX5_valueAt_1 : decode cX5_valueAt 1 = .ok (.ifCond .lt 11, 3) := by decide +kernel
theorem dX5_valueAt_4 : decode cX5_valueAt 4 = .ok (.iload_n 1, 1) := by decide +kernel
theorem dX5_valueAt_5 : decode cX5_valueAt 5 = .ok (.aload_n 0, 1) := by decide +kernel
theorem dX5_valueAt_6 : decode cX5_valueAt 6 = .ok (.getfield 31, 3) := by decide +kernel
theorem dX5_valueAt_9 : decode cX5_valueAt 9 = .ok (.if_icmp .le 7, 3) := by decide +kernel
theorem dX5_valueAt_12 : decode cX5_valueAt 12 = .ok (.iconst 0, 1) := by decide +kernel
theorem dX5_valueAt_13 : decode cX5_valueAt 13 = .ok (.goto 9, 3) := by decide +kernel
theorem dX5_valueAt_16 : decode cX5_valueAt 16 = .ok (.aload_n 0, 1) := by decide +kernel
theorem dX5_valueAt_17 : decode cX5_valueAt 17 = .ok (.getfield 9, 3) := by decide +kernel
theorem dX5_valueAt_20 : decode cX5_valueAt 20 = .ok (.iload_n 1, 1) := by decide +kernel
theorem dX5_valueAt_21 : decode cX5_valueAt 21 = .ok (.iaload, 1) := by decide +kernel
theorem dX5_valueAt_22 : decode cX5_valueAt 22 = .ok (.ireturn, 1) := by decide +kernel
def m_Lows_valueAt (a1 : Int32) (h0_last : Int32) (h0_value_n : Nat) (h0_value_f : Nat → Int32) : Option (Int32) :=
  if a1 < 0 then
    some (0 : Int32)
  else
    if a1 ≤ h0_last then
      chk a1 h0_value_n <|
      some (h0_value_f a1.toNatClampNeg)
    else
      some (0 : Int32)
def rm_Lows_valueAt : Room := { frames := 0, cells := 0, slots := 0, locals := 0 }
set_option maxHeartbeats 4000000 in
set_option maxRecDepth 100000 in
theorem c_Lows_valueAt {l : Launch} {dC : Nat → ClassId} {dI : Nat → Nat → Nat} {cB cI : ClassId} {sz : Nat} {h0 : Nat} {a1 : Int32} {h0_value : Nat} {w_h0_lastOfEquals : Value} {w_h0_leastOnward : Value} {w_h0_leastSoFar : Value} {h0_last : Int32} {h0_value_n : Nat} {h0_value_f : Nat → Int32} {o_r : Int32} (hf : m_Lows_valueAt a1 h0_last h0_value_n h0_value_f = some o_r) : Met l yX5_valueAt (Cond.code yX5_valueAt cX5_valueAt 2 (some .int) :: lw_G) rm_Lows_valueAt (PreC (dC, dI) [(cB, .byte), (cI, .int)] [.ref h0, .int a1] sz [(h0, .inr (4, [w_h0_lastOfEquals, .ref h0_value, w_h0_leastOnward, w_h0_leastSoFar, .int h0_last])), (h0_value, .inl (cI, h0_value_n, .inl h0_value_f))]) (QcI o_r (dC, dI) [(h0, .inr (4, [w_h0_lastOfEquals, .ref h0_value, w_h0_leastOnward, w_h0_leastSoFar, .int h0_last])), (h0_value, .inl (cI, h0_value_n, .inl h0_value_f))] (va_A [(h0, .inr (4, [w_h0_lastOfEquals, .ref h0_value, w_h0_leastOnward, w_h0_leastSoFar, .int h0_last])), (h0_value, .inl (cI, h0_value_n, .inl h0_value_f))] sz)) 0 0 (va_A [(h0, .inr (4, [w_h0_lastOfEquals, .ref h0_value, w_h0_leastOnward, w_h0_leastSoFar, .int h0_last])), (h0_value, .inl (cI, h0_value_n, .inl h0_value_f))] sz) := by
  refine met_of (Qf := fun A => QcI o_r (dC, dI) [(h0, .inr (4, [w_h0_lastOfEquals, .ref h0_value, w_h0_leastOnward, w_h0_leastSoFar, .int h0_last])), (h0_value, .inl (cI, h0_value_n, .inl h0_value_f))] A) (by decide) (Nat.le_of_ble_eq_true rfl) ?_
  intro p e s m below meth c A ls Q hx hb hr hml hown hts hlocks hnm hP hK hD hN hT hA hl hQ
  have hown : s.vm.findClass RX5 = some m.cls := hown
  have hS : va_S A s.heap s.heap [] := va_S.rf
  have hl : lv_has ls 2 [(0, .ref h0), (1, .int a1)] := hl
  unfold m_Lows_valueAt at hf
  refine lv_iload_n hx hb dX5_valueAt_0 rfl (lv_at hl 1 rfl) ?_
  refine lv_if_lt (tgt := 12) hx hb dX5_valueAt_1 (by decide) (fun c_1 => ?_) (fun c_1 => ?_)
  · replace hf := if_t c_1 hf
    refine lv_iconst (v := 0) hx hb dX5_valueAt_12 (by decide) ?_
    refine lv_goto (tgt := 22) hx hb dX5_valueAt_13 (by decide) ?_
    obtain rfl := Option.some.inj hf
    exact rt_i hQ hx hb hr hlocks hP hD hS dX5_valueAt_22
  · replace hf := if_f c_1 hf
    refine lv_iload_n hx hb dX5_valueAt_4 rfl (lv_at hl 1 rfl) ?_
    refine lv_aload_n hx hb dX5_valueAt_5 rfl (lv_at hl 0 rfl) ?_
    refine va_get (D := (dC, dI)) (ci := 4) (v := .int h0_last) (C := RX5) (T := TX5) (N := 5) hx hb hts inG_X5 hown hK hP 0 rfl rfl 4 (by decide) (hts _ kw_197) (fun _ h9 => h9) rfl dX5_valueAt_6 ?_
    refine lv_icmp_le (tgt := 16) hx hb dX5_valueAt_9 (by decide) (fun c_9 => ?_) (fun c_9 => ?_)
    · replace hf := if_t c_9 hf
      refine lv_aload_n hx hb dX5_valueAt_16 rfl (lv_at hl 0 rfl) ?_
      refine va_get (D := (dC, dI)) (ci := 4) (v := .ref h0_value) (C := RX5) (T := TX5) (N := 5) hx hb hts inG_X5 hown hK hP 0 rfl rfl 1 (by decide) (hts _ kw_194) (fun _ h9 => h9) rfl dX5_valueAt_17 ?_
      refine lv_iload_n hx hb dX5_valueAt_20 rfl (lv_at hl 1 rfl) ?_
      obtain ⟨hin, hf⟩ := chk_some hf
      refine va_iald hx hb hK hP 1 1 rfl rfl hin dX5_valueAt_21 ?_
      obtain rfl := Option.some.inj hf
      exact rt_i hQ hx hb hr hlocks hP hD hS dX5_valueAt_22
    · replace hf := if_f c_9 hf
      refine lv_iconst (v := 0) hx hb dX5_valueAt_12 (by decide) ?_
      refine lv_goto (tgt := 22) hx hb dX5_valueAt_13 (by decide) ?_
      obtain rfl := Option.some.inj hf
      exact rt_i hQ hx hb hr hlocks hP hD hS dX5_valueAt_22

theorem dX5_better_0 : decode cX5_better 0 = .ok (.aload_n 0, 1) := by decide +kernel
theorem dX5_better_1 : decode cX5_better 1 = .ok (.getfield 9, 3) := by decide +kernel
theorem dX5_better_4 : decode cX5_better 4 = .ok (.iload_n 1, 1) := by decide +kernel
theorem dX5_better_5 : decode cX5_better 5 = .ok (.iaload, 1) := by decide +kernel
theorem dX5_better_6 : decode cX5_better 6 = .ok (.aload_n 0, 1) := by decide +kernel
theorem dX5_better_7 : decode cX5_better 7 = .ok (.getfield 9, 3) := by decide +kernel
theorem dX5_better_10 : decode cX5_better 10 = .ok (.iload_n 2, 1) := by decide +kernel
theorem dX5_better_11 : decode cX5_better 11 = .ok (.iaload, 1) := by decide +kernel
theorem dX5_better_12 : decode cX5_better 12 = .ok (.if_icmp .ne 16, 3) := by decide +kernel
theorem dX5_better_15 : decode cX5_better 15 = .ok (.aload_n 0, 1) := by decide +kernel
theorem dX5_better_16 : decode cX5_better 16 = .ok (.getfield 21, 3) := by decide +kernel
theorem dX5_better_19 : decode cX5_better 19 = .ok (.ifCond .eq 7, 3) := by decide +kernel
theorem dX5_better_22 : decode cX5_better 22 = .ok (.iload_n 2, 1) := by decide +kernel
theorem dX5_better_23 : decode cX5_better 23 = .ok (.goto 4, 3) := by decide +kernel
theorem dX5_better_26 : decode cX5_better 26 = .ok (.iload_n 1, 1) := by decide +kernel
theorem dX5_better_27 : decode cX5_better 27 = .ok (.ireturn, 1) := by decide +kernel
theorem dX5_better_28 : decode cX5_better 28 = .ok (.aload_n 0, 1) := by decide +kernel
theorem dX5_better_29 : decode cX5_better 29 = .ok (.getfield 9, 3) := by decide +kernel
theorem dX5_better_32 : decode cX5_better 32 = .ok (.iload_n 1, 1) := by decide +kernel
theorem dX5_better_33 : decode cX5_better 33 = .ok (.iaload, 1) := by decide +kernel
theorem dX5_better_34 : decode cX5_better 34 = .ok (.aload_n 0, 1) := by decide +kernel
theorem dX5_better_35 : decode cX5_better 35 = .ok (.getfield 9, 3) := by decide +kernel
theorem dX5_better_38 : decode cX5_better 38 = .ok (.iload_n 2, 1) := by decide +kernel
theorem dX5_better_39 : decode cX5_better 39 = .ok (.iaload, 1) := by decide +kernel
theorem dX5_better_40 : decode cX5_better 40 = .ok (.if_icmp .ge 7, 3) := by decide +kernel
theorem dX5_better_43 : decode cX5_better 43 = .ok (.iload_n 1, 1) := by decide +kernel
theorem dX5_better_44 : decode cX5_better 44 = .ok (.goto 4, 3) := by decide +kernel
theorem dX5_better_47 : decode cX5_better 47 = .ok (.iload_n 2, 1) := by decide +kernel
theorem dX5_better_48 : decode cX5_better 48 = .ok (.ireturn, 1) := by decide +kernel
def m_Lows_better (a1 : Int32) (a2 : Int32) (h0_lastOfEquals : Int32) (h0_value_n : Nat) (h0_value_f : Nat → Int32) : Option (Int32) :=
  chk a1 h0_value_n <|
  chk a2 h0_value_n <|
  if (h0_value_f a1.toNatClampNeg) = (h0_value_f a2.toNatClampNeg) then
    if h0_lastOfEquals = 0 then
      some a1
    else
      some a2
  else
    chk a1 h0_value_n <|
    chk a2 h0_value_n <|
    if (h0_value_f a2.toNatClampNeg) ≤ (h0_value_f a1.toNatClampNeg) then
      some a2
    else
      some a1
def rm_Lows_better : Room := { frames := 0, cells := 0, slots := 0, locals := 0 }
set_option maxHeartbeats 4000000 in
set_option maxRecDepth 100000 in
theorem c_Lows_better {l : Launch} {dC : Nat → ClassId} {dI : Nat → Nat → Nat} {cB cI : ClassId} {sz : Nat} {h0 : Nat} {a1 : Int32} {a2 : Int32} {h0_value : Nat} {h0_lastOfEquals : Int32} {w_h0_leastOnward : Value} {w_h0_leastSoFar : Value} {w_h0_last : Value} {h0_value_n : Nat} {h0_value_f : Nat → Int32} {o_r : Int32} (hf : m_Lows_better a1 a2 h0_lastOfEquals h0_value_n h0_value_f = some o_r) : Met l yX5_better (Cond.code yX5_better cX5_better 3 (some .int) :: lw_G) rm_Lows_better (PreC (dC, dI) [(cB, .byte), (cI, .int)] [.ref h0, .int a1, .int a2] sz [(h0, .inr (4, [.int h0_lastOfEquals, .ref h0_value, w_h0_leastOnward, w_h0_leastSoFar, w_h0_last])), (h0_value, .inl (cI, h0_value_n, .inl h0_value_f))]) (QcI o_r (dC, dI) [(h0, .inr (4, [.int h0_lastOfEquals, .ref h0_value, w_h0_leastOnward, w_h0_leastSoFar, w_h0_last])), (h0_value, .inl (cI, h0_value_n, .inl h0_value_f))] (va_A [(h0, .inr (4, [.int h0_lastOfEquals, .ref h0_value, w_h0_leastOnward, w_h0_leastSoFar, w_h0_last])), (h0_value, .inl (cI, h0_value_n, .inl h0_value_f))] sz)) 0 0 (va_A [(h0, .inr (4, [.int h0_lastOfEquals, .ref h0_value, w_h0_leastOnward, w_h0_leastSoFar, w_h0_last])), (h0_value, .inl (cI, h0_value_n, .inl h0_value_f))] sz) := by
  refine met_of (Qf := fun A => QcI o_r (dC, dI) [(h0, .inr (4, [.int h0_lastOfEquals, .ref h0_value, w_h0_leastOnward, w_h0_leastSoFar, w_h0_last])), (h0_value, .inl (cI, h0_value_n, .inl h0_value_f))] A) (by decide) (Nat.le_of_ble_eq_true rfl) ?_
  intro p e s m below meth c A ls Q hx hb hr hml hown hts hlocks hnm hP hK hD hN hT hA hl hQ
  have hown : s.vm.findClass RX5 = some m.cls := hown
  have hS : va_S A s.heap s.heap [] := va_S.rf
  have hl : lv_has ls 3 [(0, .ref h0), (1, .int a1), (2, .int a2)] := hl
  unfold m_Lows_better at hf
  refine lv_aload_n hx hb dX5_better_0 rfl (lv_at hl 0 rfl) ?_
  refine va_get (D := (dC, dI)) (ci := 4) (v := .ref h0_value) (C := RX5) (T := TX5) (N := 5) hx hb hts inG_X5 hown hK hP 0 rfl rfl 1 (by decide) (hts _ kw_194) (fun _ h9 => h9) rfl dX5_better_1 ?_
  refine lv_iload_n hx hb dX5_better_4 rfl (lv_at hl 1 rfl) ?_
  obtain ⟨hin, hf⟩ := chk_some hf
  refine va_iald hx hb hK hP 1 1 rfl rfl hin dX5_better_5 ?_
  refine lv_aload_n hx hb dX5_better_6 rfl (lv_at hl 0 rfl) ?_
  refine va_get (D := (dC, dI)) (ci := 4) (v := .ref h0_value) (C := RX5) (T := TX5) (N := 5) hx hb hts inG_X5 hown hK hP 0 rfl rfl 1 (by decide) (hts _ kw_194) (fun _ h9 => h9) rfl dX5_better_7 ?_
  refine lv_iload_n hx hb dX5_better_10 rfl (lv_at hl 2 rfl) ?_
  obtain ⟨hin, hf⟩ := chk_some hf
  refine va_iald hx hb hK hP 1 1 rfl rfl hin dX5_better_11 ?_
  refine lv_icmp_ne (tgt := 28) hx hb dX5_better_12 (by decide) (fun c_12 => ?_) (fun c_12 => ?_)
  · replace hf := if_f c_12 hf
    refine lv_aload_n hx hb dX5_better_28 rfl (lv_at hl 0 rfl) ?_
    refine va_get (D := (dC, dI)) (ci := 4) (v := .ref h0_value) (C := RX5) (T := TX5) (N := 5) hx hb hts inG_X5 hown hK hP 0 rfl rfl 1 (by decide) (hts _ kw_194) (fun _ h9 => h9) rfl dX5_better_29 ?_
    refine lv_iload_n hx hb dX5_better_32 rfl (lv_at hl 1 rfl) ?_
    obtain ⟨hin, hf⟩ := chk_some hf
    refine va_iald hx hb hK hP 1 1 rfl rfl hin dX5_better_33 ?_
    refine lv_aload_n hx hb dX5_better_34 rfl (lv_at hl 0 rfl) ?_
    refine va_get (D := (dC, dI)) (ci := 4) (v := .ref h0_value) (C := RX5) (T := TX5) (N := 5) hx hb hts inG_X5 hown hK hP 0 rfl rfl 1 (by decide) (hts _ kw_194) (fun _ h9 => h9) rfl dX5_better_35 ?_
    refine lv_iload_n hx hb dX5_better_38 rfl (lv_at hl 2 rfl) ?_
    obtain ⟨hin, hf⟩ := chk_some hf
    refine va_iald hx hb hK hP 1 1 rfl rfl hin dX5_better_39 ?_
    refine lv_icmp_ge (tgt := 47) hx hb dX5_better_40 (by decide) (fun c_40 => ?_) (fun c_40 => ?_)
    · replace hf := if_t c_40 hf
      refine lv_iload_n hx hb dX5_better_47 rfl (lv_at hl 2 rfl) ?_
      obtain rfl := Option.some.inj hf
      exact rt_i hQ hx hb hr hlocks hP hD hS dX5_better_48
    · replace hf := if_f c_40 hf
      refine lv_iload_n hx hb dX5_better_43 rfl (lv_at hl 1 rfl) ?_
      refine lv_goto (tgt := 48) hx hb dX5_better_44 (by decide) ?_
      obtain rfl := Option.some.inj hf
      exact rt_i hQ hx hb hr hlocks hP hD hS dX5_better_48
  · replace hf := if_t c_12 hf
    refine lv_aload_n hx hb dX5_better_15 rfl (lv_at hl 0 rfl) ?_
    refine va_get (D := (dC, dI)) (ci := 4) (v := .int h0_lastOfEquals) (C := RX5) (T := TX5) (N := 5) hx hb hts inG_X5 hown hK hP 0 rfl rfl 0 (by decide) (hts _ kw_193) (fun _ h9 => h9) rfl dX5_better_16 ?_
    refine lv_if_eq (tgt := 26) hx hb dX5_better_19 (by decide) (fun c_19 => ?_) (fun c_19 => ?_)
    · replace hf := if_t c_19 hf
      refine lv_iload_n hx hb dX5_better_26 rfl (lv_at hl 1 rfl) ?_
      obtain rfl := Option.some.inj hf
      exact rt_i hQ hx hb hr hlocks hP hD hS dX5_better_27
    · replace hf := if_f c_19 hf
      refine lv_iload_n hx hb dX5_better_22 rfl (lv_at hl 2 rfl) ?_
      refine lv_goto (tgt := 27) hx hb dX5_better_23 (by decide) ?_
      obtain rfl := Option.some.inj hf
      exact rt_i hQ hx hb hr hlocks hP hD hS dX5_better_27

theorem dX5_put_0 : decode cX5_put 0 = .ok (.iload_n 1, 1) := by decide +kernel
theorem dX5_put_1 : decode cX5_put 1 = .ok (.ifCond .lt 11, 3) := by decide +kernel
theorem dX5_put_4 : decode cX5_put 4 = .ok (.iload_n 1, 1) := by decide +kernel
theorem dX5_put_5 : decode cX5_put 5 = .ok (.aload_n 0, 1) := by decide +kernel
theorem dX5_put_6 : decode cX5_put 6 = .ok (.getfield 31, 3) := by decide +kernel
theorem dX5_put_9 : decode cX5_put 9 = .ok (.if_icmp .le 4, 3) := by decide +kernel
theorem dX5_put_12 : decode cX5_put 12 = .ok (.return_, 1) := by decide +kernel
theorem dX5_put_13 : decode cX5_put 13 = .ok (.aload_n 0, 1) := by decide +kernel
theorem dX5_put_14 : decode cX5_put 14 = .ok (.getfield 9, 3) := by decide +kernel
theorem dX5_put_17 : decode cX5_put 17 = .ok (.iload_n 1, 1) := by decide +kernel
theorem dX5_put_18 : decode cX5_put 18 = .ok (.iload_n 2, 1) := by decide +kernel
theorem dX5_put_19 : decode cX5_put 19 = .ok (.iastore, 1) := by decide +kernel
theorem dX5_put_20 : decode cX5_put 20 = .ok (.iload_n 1, 1) := by decide +kernel
theorem dX5_put_21 : decode cX5_put 21 = .ok (.aload_n 0, 1) := by decide +kernel
theorem dX5_put_22 : decode cX5_put 22 = .ok (.getfield 31, 3) := by decide +kernel
theorem dX5_put_25 : decode cX5_put 25 = .ok (.if_icmp .eq 12, 3) := by decide +kernel
theorem dX5_put_28 : decode cX5_put 28 = .ok (.iload_n 1, 1) := by decide +kernel
theorem dX5_put_29 : decode cX5_put 29 = .ok (.bipush 64, 2) := by decide +kernel
theorem dX5_put_31 : decode cX5_put 31 = .ok (.irem, 1) := by decide +kernel
theorem dX5_put_32 : decode cX5_put 32 = .ok (.bipush 63, 2) := by decide +kernel
theorem dX5_put_34 : decode cX5_put 34 = .ok (.if_icmp .ne 7, 3) := by decide +kernel
theorem dX5_put_37 : decode cX5_put 37 = .ok (.iconst 1, 1) := by decide +kernel
theorem dX5_put_38 : decode cX5_put 38 = .ok (.goto 4, 3) := by decide +kernel
theorem dX5_put_41 : decode cX5_put 41 = .ok (.iconst 0, 1) := by decide +kernel
theorem dX5_put_42 : decode cX5_put 42 = .ok (.istore_n 3, 1) := by decide +kernel
theorem dX5_put_43 : decode cX5_put 43 = .ok (.aload_n 0, 1) := by decide +kernel
theorem dX5_put_44 : decode cX5_put 44 = .ok (.getfield 15, 3) := by decide +kernel
theorem dX5_put_47 : decode cX5_put 47 = .ok (.iload_n 1, 1) := by decide +kernel
theorem dX5_put_48 : decode cX5_put 48 = .ok (.iload_n 3, 1) := by decide +kernel
theorem dX5_put_49 : decode cX5_put 49 = .ok (.ifCond .eq 7, 3) := by decide +kernel
theorem dX5_put_52 : decode cX5_put 52 = .ok (.iload_n 1, 1) := by decide +kernel
theorem dX5_put_53 : decode cX5_put 53 = .ok (.goto 16, 3) := by decide +kernel
theorem dX5_put_56 : decode cX5_put 56 = .ok (.aload_n 0, 1) := by decide +kernel
theorem dX5_put_57 : decode cX5_put 57 = .ok (.iload_n 1, 1) := by decide +kernel
theorem dX5_put_58 : decode cX5_put 58 = .ok (.aload_n 0, 1) := by decide +kernel
theorem dX5_put_59 : decode cX5_put 59 = .ok (.getfield 15, 3) := by decide +kernel
theorem dX5_put_62 : decode cX5_put 62 = .ok (.iload_n 1, 1) := by decide +kernel
theorem dX5_put_63 : decode cX5_put 63 = .ok (.iconst 1, 1) := by decide +kernel
theorem dX5_put_64 : decode cX5_put 64 = .ok (.iadd, 1) := by decide +kernel
theorem dX5_put_65 : decode cX5_put 65 = .ok (.iaload, 1) := by decide +kernel
theorem dX5_put_66 : decode cX5_put 66 = .ok (.invokevirtual 35, 3) := by decide +kernel
theorem dX5_put_69 : decode cX5_put 69 = .ok (.iastore, 1) := by decide +kernel
theorem dX5_put_70 : decode cX5_put 70 = .ok (.iload_n 1, 1) := by decide +kernel
theorem dX5_put_71 : decode cX5_put 71 = .ok (.bipush 64, 2) := by decide +kernel
theorem dX5_put_73 : decode cX5_put 73 = .ok (.irem, 1) := by decide +kernel
theorem dX5_put_74 : decode cX5_put 74 = .ok (.ifCond .ne 61, 3) := by decide +kernel
theorem dX5_put_77 : decode cX5_put 77 = .ok (.aload_n 0, 1) := by decide +kernel
theorem dX5_put_78 : decode cX5_put 78 = .ok (.getfield 18, 3) := by decide +kernel
theorem dX5_put_81 : decode cX5_put 81 = .ok (.iload_n 1, 1) := by decide +kernel
theorem dX5_put_82 : decode cX5_put 82 = .ok (.iload_n 1, 1) := by decide +kernel
theorem dX5_put_83 : decode cX5_put 83 = .ok (.iastore, 1) := by decide +kernel
theorem dX5_put_84 : decode cX5_put 84 = .ok (.iload_n 1, 1) := by decide +kernel
theorem dX5_put_85 : decode cX5_put 85 = .ok (.iconst 1, 1) := by decide +kernel
theorem dX5_put_86 : decode cX5_put 86 = .ok (.iadd, 1) := by decide +kernel
theorem dX5_put_87 : decode cX5_put 87 = .ok (.istore 4, 2) := by decide +kernel
theorem dX5_put_89 : decode cX5_put 89 = .ok (.iload 4, 2) := by decide +kernel
theorem dX5_put_91 : decode cX5_put 91 = .ok (.iload_n 1, 1) := by decide +kernel
theorem dX5_put_92 : decode cX5_put 92 = .ok (.bipush 64, 2) := by decide +kernel
theorem dX5_put_94 : decode cX5_put 94 = .ok (.iadd, 1) := by decide +kernel
theorem dX5_put_95 : decode cX5_put 95 = .ok (.if_icmp .ge 40, 3) := by decide +kernel
theorem dX5_put_98 : decode cX5_put 98 = .ok (.iload 4, 2) := by decide +kernel
theorem dX5_put_100 : decode cX5_put 100 = .ok (.aload_n 0, 1) := by decide +kernel
theorem dX5_put_101 : decode cX5_put 101 = .ok (.getfield 31, 3) := by decide +kernel
theorem dX5_put_104 : decode cX5_put 104 = .ok (.if_icmp .gt 31, 3) := by decide +kernel
theorem dX5_put_107 : decode cX5_put 107 = .ok (.aload_n 0, 1) := by decide +kernel
theorem dX5_put_108 : decode cX5_put 108 = .ok (.getfield 18, 3) := by decide +kernel
theorem dX5_put_111 : decode cX5_put 111 = .ok (.iload 4, 2) := by decide +kernel
theorem dX5_put_113 : decode cX5_put 113 = .ok (.aload_n 0, 1) := by decide +kernel
theorem dX5_put_114 : decode cX5_put 114 = .ok (.aload_n 0, 1) := by decide +kernel
theorem dX5_put_115 : decode cX5_put 115 = .ok (.getfield 18, 3) := by decide +kernel
theorem dX5_put_118 : decode cX5_put 118 = .ok (.iload 4, 2) := by decide +kernel
theorem dX5_put_120 : decode cX5_put 120 = .ok (.iconst 1, 1) := by decide +kernel
theorem dX5_put_121 : decode cX5_put 121 = .ok (.isub, 1) := by decide +kernel
theorem dX5_put_122 : decode cX5_put 122 = .ok (.iaload, 1) := by decide +kernel
theorem dX5_put_123 : decode cX5_put 123 = .ok (.iload 4, 2) := by decide +kernel
theorem dX5_put_125 : decode cX5_put 125 = .ok (.invokevirtual 35, 3) := by decide +kernel
theorem dX5_put_128 : decode cX5_put 128 = .ok (.iastore, 1) := by decide +kernel
theorem dX5_put_129 : decode cX5_put 129 = .ok (.iinc 4 1, 3) := by decide +kernel
theorem dX5_put_132 : decode cX5_put 132 = .ok (.goto (-43), 3) := by decide +kernel
theorem dX5_put_135 : decode cX5_put 135 = .ok (.return_, 1) := by decide +kernel
def m_Lows_put_E135 (a1 : Int32) (a2 : Int32) (h0_value_f : Nat → Int32) (h0_leastOnward_f : Nat → Int32) (s2 : Int32) (f4 : Nat → Int32) : Option ((Nat → Int32) × (Nat → Int32) × (Nat → Int32)) :=
  some ((upd h0_value_f a1.toNatClampNeg a2), (upd h0_leastOnward_f a1.toNatClampNeg s2), f4)
def m_Lows_put_B89 (a1 : Int32) (a2 : Int32) (h0_lastOfEquals : Int32) (h0_last : Int32) (h0_value_n : Nat) (h0_value_f : Nat → Int32) (h0_leastSoFar_n : Nat) (f5 : Nat → Int32) (j4_6 : Int32) : Option (((Nat → Int32) × Int32) ⊕ ((Nat → Int32))) :=
  if (a1 + (64 : Int32)) ≤ j4_6 then
    some (.inr f5)
  else
    if h0_last < j4_6 then
      some (.inr f5)
    else
      chk (j4_6 - (1 : Int32)) h0_leastSoFar_n <|
      (m_Lows_better (f5 (j4_6 - (1 : Int32)).toNatClampNeg) j4_6 h0_lastOfEquals h0_value_n (upd h0_value_f a1.toNatClampNeg a2)).bind fun r7 =>
      chk j4_6 h0_leastSoFar_n <|
      bnd (j4_6 + (1 : Int32)) fun v4_8 =>
      some (.inl ((upd f5 j4_6.toNatClampNeg r7), v4_8))
def m_Lows_put_J69 (a1 : Int32) (a2 : Int32) (h0_lastOfEquals : Int32) (h0_last : Int32) (h0_value_n : Nat) (h0_value_f : Nat → Int32) (h0_leastOnward_n : Nat) (h0_leastOnward_f : Nat → Int32) (h0_leastSoFar_n : Nat) (h0_leastSoFar_f : Nat → Int32) (s2 : Int32) : Option ((Nat → Int32) × (Nat → Int32) × (Nat → Int32)) :=
  chk a1 h0_leastOnward_n <|
  if (irem a1 (64 : Int32)) = 0 then
    chk a1 h0_leastSoFar_n <|
    bnd (a1 + (1 : Int32)) fun v4_3 =>
    (iter (fun st => m_Lows_put_B89 a1 a2 h0_lastOfEquals h0_last h0_value_n h0_value_f h0_leastSoFar_n st.1 st.2) FU ((upd h0_leastSoFar_f a1.toNatClampNeg a1), v4_3)).bind fun o => m_Lows_put_E135 a1 a2 h0_value_f h0_leastOnward_f s2 o
  else
    some ((upd h0_value_f a1.toNatClampNeg a2), (upd h0_leastOnward_f a1.toNatClampNeg s2), h0_leastSoFar_f)
def m_Lows_put_J42 (a1 : Int32) (a2 : Int32) (h0_lastOfEquals : Int32) (h0_last : Int32) (h0_value_n : Nat) (h0_value_f : Nat → Int32) (h0_leastOnward_n : Nat) (h0_leastOnward_f : Nat → Int32) (h0_leastSoFar_n : Nat) (h0_leastSoFar_f : Nat → Int32) (s1 : Int32) : Option ((Nat → Int32) × (Nat → Int32) × (Nat → Int32)) :=
  if s1 = 0 then
    chk (a1 + (1 : Int32)) h0_leastOnward_n <|
    (m_Lows_better a1 (h0_leastOnward_f (a1 + (1 : Int32)).toNatClampNeg) h0_lastOfEquals h0_value_n (upd h0_value_f a1.toNatClampNeg a2)).bind fun r9 =>
    m_Lows_put_J69 a1 a2 h0_lastOfEquals h0_last h0_value_n h0_value_f h0_leastOnward_n h0_leastOnward_f h0_leastSoFar_n h0_leastSoFar_f r9
  else
    m_Lows_put_J69 a1 a2 h0_lastOfEquals h0_last h0_value_n h0_value_f h0_leastOnward_n h0_leastOnward_f h0_leastSoFar_n h0_leastSoFar_f a1
def m_Lows_put (a1 : Int32) (a2 : Int32) (h0_lastOfEquals : Int32) (h0_last : Int32) (h0_value_n : Nat) (h0_value_f : Nat → Int32) (h0_leastOnward_n : Nat) (h0_leastOnward_f : Nat → Int32) (h0_leastSoFar_n : Nat) (h0_leastSoFar_f : Nat → Int32) : Option ((Nat → Int32) × (Nat → Int32) × (Nat → Int32)) :=
  if a1 < 0 then
    some (h0_value_f, h0_leastOnward_f, h0_leastSoFar_f)
  else
    if a1 ≤ h0_last then
      chk a1 h0_value_n <|
      if a1 = h0_last then
        m_Lows_put_J42 a1 a2 h0_lastOfEquals h0_last h0_value_n h0_value_f h0_leastOnward_n h0_leastOnward_f h0_leastSoFar_n h0_leastSoFar_f (1 : Int32)
      else
        if (irem a1 (64 : Int32)) = (63 : Int32) then
          m_Lows_put_J42 a1 a2 h0_lastOfEquals h0_last h0_value_n h0_value_f h0_leastOnward_n h0_leastOnward_f h0_leastSoFar_n h0_leastSoFar_f (1 : Int32)
        else
          m_Lows_put_J42 a1 a2 h0_lastOfEquals h0_last h0_value_n h0_value_f h0_leastOnward_n h0_leastOnward_f h0_leastSoFar_n h0_leastSoFar_f (0 : Int32)
    else
      some (h0_value_f, h0_leastOnward_f, h0_leastSoFar_f)
def rm_Lows_put : Room := { frames := 1, cells := 0, slots := 0, locals := 22 }
set_option maxHeartbeats 4000000 in
set_option maxRecDepth 100000 in
theorem c_Lows_put {l : Launch} {dC : Nat → ClassId} {dI : Nat → Nat → Nat} {cB cI : ClassId} {sz : Nat} {h0 : Nat} {a1 : Int32} {a2 : Int32} {h0_value : Nat} {h0_leastOnward : Nat} {h0_leastSoFar : Nat} {h0_lastOfEquals : Int32} {h0_last : Int32} {h0_value_n : Nat} {h0_value_f : Nat → Int32} {h0_leastOnward_n : Nat} {h0_leastOnward_f : Nat → Int32} {h0_leastSoFar_n : Nat} {h0_leastSoFar_f : Nat → Int32} {o_h0_value_f : Nat → Int32} {o_h0_leastOnward_f : Nat → Int32} {o_h0_leastSoFar_f : Nat → Int32} (hf : m_Lows_put a1 a2 h0_lastOfEquals h0_last h0_value_n h0_value_f h0_leastOnward_n h0_leastOnward_f h0_leastSoFar_n h0_leastSoFar_f = some (o_h0_value_f, o_h0_leastOnward_f, o_h0_leastSoFar_f)) : Met l yX5_put (Cond.code yX5_put cX5_put 5 none :: lw_G) rm_Lows_put (PreC (dC, dI) [(cB, .byte), (cI, .int)] [.ref h0, .int a1, .int a2] sz [(h0, .inr (4, [.int h0_lastOfEquals, .ref h0_value, .ref h0_leastOnward, .ref h0_leastSoFar, .int h0_last])), (h0_value, .inl (cI, h0_value_n, .inl h0_value_f)), (h0_leastOnward, .inl (cI, h0_leastOnward_n, .inl h0_leastOnward_f)), (h0_leastSoFar, .inl (cI, h0_leastSoFar_n, .inl h0_leastSoFar_f))]) (QcV (dC, dI) [(h0, .inr (4, [.int h0_lastOfEquals, .ref h0_value, .ref h0_leastOnward, .ref h0_leastSoFar, .int h0_last])), (h0_value, .inl (cI, h0_value_n, .inl o_h0_value_f)), (h0_leastOnward, .inl (cI, h0_leastOnward_n, .inl o_h0_leastOnward_f)), (h0_leastSoFar, .inl (cI, h0_leastSoFar_n, .inl o_h0_leastSoFar_f))] (va_A [(h0, .inr (4, [.int h0_lastOfEquals, .ref h0_value, .ref h0_leastOnward, .ref h0_leastSoFar, .int h0_last])), (h0_value, .inl (cI, h0_value_n, .inl h0_value_f)), (h0_leastOnward, .inl (cI, h0_leastOnward_n, .inl h0_leastOnward_f)), (h0_leastSoFar, .inl (cI, h0_leastSoFar_n, .inl h0_leastSoFar_f))] sz)) 0 0 (va_A [(h0, .inr (4, [.int h0_lastOfEquals, .ref h0_value, .ref h0_leastOnward, .ref h0_leastSoFar, .int h0_last])), (h0_value, .inl (cI, h0_value_n, .inl h0_value_f)), (h0_leastOnward, .inl (cI, h0_leastOnward_n, .inl h0_leastOnward_f)), (h0_leastSoFar, .inl (cI, h0_leastSoFar_n, .inl h0_leastSoFar_f))] sz) := by
  refine met_of (Qf := fun A => QcV (dC, dI) [(h0, .inr (4, [.int h0_lastOfEquals, .ref h0_value, .ref h0_leastOnward, .ref h0_leastSoFar, .int h0_last])), (h0_value, .inl (cI, h0_value_n, .inl o_h0_value_f)), (h0_leastOnward, .inl (cI, h0_leastOnward_n, .inl o_h0_leastOnward_f)), (h0_leastSoFar, .inl (cI, h0_leastSoFar_n, .inl o_h0_leastSoFar_f))] A) (by decide) (Nat.le_of_ble_eq_true rfl) ?_
  intro p e s m below meth c A ls Q hx hb hr hml hown hts hlocks hnm hP hK hD hN hT hA hl hQ
  have hown : s.vm.findClass RX5 = some m.cls := hown
  have hS : va_S A s.heap s.heap [] := va_S.rf
  have hl : lv_has ls 5 [(0, .ref h0), (1, .int a1), (2, .int a2)] := hl
  unfold m_Lows_put at hf
  refine lv_iload_n hx hb dX5_put_0 rfl (lv_at hl 1 rfl) ?_
  refine lv_if_lt (tgt := 12) hx hb dX5_put_1 (by decide) (fun c_1 => ?_) (fun c_1 => ?_)
  · replace hf := if_t c_1 hf
    obtain ⟨rfl, hq_1⟩ := Prod.mk.inj (Option.some.inj hf)
    obtain ⟨rfl, hq_2⟩ := Prod.mk.inj hq_1
    obtain rfl := hq_2
    exact rt_v hQ hx hb hr hlocks hP hD hS dX5_put_12
  · replace hf := if_f c_1 hf
    refine lv_iload_n hx hb dX5_put_4 rfl (lv_at hl 1 rfl) ?_
    refine lv_aload_n hx hb dX5_put_5 rfl (lv_at hl 0 rfl) ?_
    refine va_get (D := (dC, dI)) (ci := 4) (v := .int h0_last) (C := RX5) (T := TX5) (N := 5) hx hb hts inG_X5 hown hK hP 0 rfl rfl 4 (by decide) (hts _ kw_197) (fun _ h9 => h9) rfl dX5_put_6 ?_
    refine lv_icmp_le (tgt := 13) hx hb dX5_put_9 (by decide) (fun c_9 => ?_) (fun c_9 => ?_)
    · replace hf := if_t c_9 hf
      refine lv_aload_n hx hb dX5_put_13 rfl (lv_at hl 0 rfl) ?_
      refine va_get (D := (dC, dI)) (ci := 4) (v := .ref h0_value) (C := RX5) (T := TX5) (N := 5) hx hb hts inG_X5 hown hK hP 0 rfl rfl 1 (by decide) (hts _ kw_194) (fun _ h9 => h9) rfl dX5_put_14 ?_
      refine lv_iload_n hx hb dX5_put_17 rfl (lv_at hl 1 rfl) ?_
      refine lv_iload_n hx hb dX5_put_18 rfl (lv_at hl 2 rfl) ?_
      obtain ⟨hin, hf⟩ := chk_some hf
      refine va_iast hx hb hK hP hD hS 1 1 rfl rfl hin dX5_put_19 (fun H locs hP hD hS => ?_)
      have hP : va_P (dC, dI) vwCl [(h0, .inr (4, [.int h0_lastOfEquals, .ref h0_value, .ref h0_leastOnward, .ref h0_leastSoFar, .int h0_last])), (h0_value, .inl (cI, h0_value_n, .inl (upd h0_value_f a1.toNatClampNeg a2))), (h0_leastOnward, .inl (cI, h0_leastOnward_n, .inl h0_leastOnward_f)), (h0_leastSoFar, .inl (cI, h0_leastSoFar_n, .inl h0_leastSoFar_f))] H := hP
      have hD : va_D A [(h0, .inr (4, [.int h0_lastOfEquals, .ref h0_value, .ref h0_leastOnward, .ref h0_leastSoFar, .int h0_last])), (h0_value, .inl (cI, h0_value_n, .inl (upd h0_value_f a1.toNatClampNeg a2))), (h0_leastOnward, .inl (cI, h0_leastOnward_n, .inl h0_leastOnward_f)), (h0_leastSoFar, .inl (cI, h0_leastSoFar_n, .inl h0_leastSoFar_f))] := hD
      refine lv_iload_n hx hb dX5_put_20 rfl (lv_at hl 1 rfl) ?_
      refine lv_aload_n hx hb dX5_put_21 rfl (lv_at hl 0 rfl) ?_
      refine va_get (D := (dC, dI)) (ci := 4) (v := .int h0_last) (C := RX5) (T := TX5) (N := 5) hx hb hts inG_X5 hown hK hP 0 rfl rfl 4 (by decide) (hts _ kw_197) (fun _ h9 => h9) rfl dX5_put_22 ?_
      have hJ_42 : ∀ (s1 : Int32) (H : Heap) (locs : List Loc) (ls : Array Slot), m_Lows_put_J42 a1 a2 h0_lastOfEquals h0_last h0_value_n h0_value_f h0_leastOnward_n h0_leastOnward_f h0_leastSoFar_n h0_leastSoFar_f s1 = some (o_h0_value_f, o_h0_leastOnward_f, o_h0_leastSoFar_f) → va_P (dC, dI) vwCl [(h0, .inr (4, [.int h0_lastOfEquals, .ref h0_value, .ref h0_leastOnward, .ref h0_leastSoFar, .int h0_last])), (h0_value, .inl (cI, h0_value_n, .inl (upd h0_value_f a1.toNatClampNeg a2))), (h0_leastOnward, .inl (cI, h0_leastOnward_n, .inl h0_leastOnward_f)), (h0_leastSoFar, .inl (cI, h0_leastSoFar_n, .inl h0_leastSoFar_f))] H → va_D A [(h0, .inr (4, [.int h0_lastOfEquals, .ref h0_value, .ref h0_leastOnward, .ref h0_leastSoFar, .int h0_last])), (h0_value, .inl (cI, h0_value_n, .inl (upd h0_value_f a1.toNatClampNeg a2))), (h0_leastOnward, .inl (cI, h0_leastOnward_n, .inl h0_leastOnward_f)), (h0_leastSoFar, .inl (cI, h0_leastSoFar_n, .inl h0_leastSoFar_f))] → va_S A s.heap H locs → lv_has ls 5 [(0, .ref h0), (1, .int a1)] → W p l e (rm_Lows_put) s m ([.ref h0, .int a1, .int a2] : List Value).toArray below meth c H locs 0 0 Q (F0 m 42 ls [.int s1]) := by
        intro s1 H locs ls hf hP hD hS hl
        unfold m_Lows_put_J42 at hf
        refine lv_istore_n (lv' := [(3, .int s1), (0, .ref h0), (1, .int a1)]) hx hb dX5_put_42 rfl hl (by decide) rfl (fun ls hl => ?_)
        refine lv_aload_n hx hb dX5_put_43 rfl (lv_at hl 1 rfl) ?_
        refine va_get (D := (dC, dI)) (ci := 4) (v := .ref h0_leastOnward) (C := RX5) (T := TX5) (N := 5) hx hb hts inG_X5 hown hK hP 0 rfl rfl 2 (by decide) (hts _ kw_195) (fun _ h9 => h9) rfl dX5_put_44 ?_
        refine lv_iload_n hx hb dX5_put_47 rfl (lv_at hl 2 rfl) ?_
        refine lv_iload_n hx hb dX5_put_48 rfl (lv_at hl 0 rfl) ?_
        have hJ_69 : ∀ (s2 : Int32) (H : Heap) (locs : List Loc) (ls : Array Slot), m_Lows_put_J69 a1 a2 h0_lastOfEquals h0_last h0_value_n h0_value_f h0_leastOnward_n h0_leastOnward_f h0_leastSoFar_n h0_leastSoFar_f s2 = some (o_h0_value_f, o_h0_leastOnward_f, o_h0_leastSoFar_f) → va_P (dC, dI) vwCl [(h0, .inr (4, [.int h0_lastOfEquals, .ref h0_value, .ref h0_leastOnward, .ref h0_leastSoFar, .int h0_last])), (h0_value, .inl (cI, h0_value_n, .inl (upd h0_value_f a1.toNatClampNeg a2))), (h0_leastOnward, .inl (cI, h0_leastOnward_n, .inl h0_leastOnward_f)), (h0_leastSoFar, .inl (cI, h0_leastSoFar_n, .inl h0_leastSoFar_f))] H → va_D A [(h0, .inr (4, [.int h0_lastOfEquals, .ref h0_value, .ref h0_leastOnward, .ref h0_leastSoFar, .int h0_last])), (h0_value, .inl (cI, h0_value_n, .inl (upd h0_value_f a1.toNatClampNeg a2))), (h0_leastOnward, .inl (cI, h0_leastOnward_n, .inl h0_leastOnward_f)), (h0_leastSoFar, .inl (cI, h0_leastSoFar_n, .inl h0_leastSoFar_f))] → va_S A s.heap H locs → lv_has ls 5 [(0, .ref h0), (1, .int a1)] → W p l e (rm_Lows_put) s m ([.ref h0, .int a1, .int a2] : List Value).toArray below meth c H locs 0 0 Q (F0 m 69 ls [.int s2, .int a1, .ref h0_leastOnward]) := by
          intro s2 H locs ls hf hP hD hS hl
          unfold m_Lows_put_J69 at hf
          obtain ⟨hin, hf⟩ := chk_some hf
          refine va_iast hx hb hK hP hD hS 2 1 rfl rfl hin dX5_put_69 (fun H locs hP hD hS => ?_)
          have hP : va_P (dC, dI) vwCl [(h0, .inr (4, [.int h0_lastOfEquals, .ref h0_value, .ref h0_leastOnward, .ref h0_leastSoFar, .int h0_last])), (h0_value, .inl (cI, h0_value_n, .inl (upd h0_value_f a1.toNatClampNeg a2))), (h0_leastOnward, .inl (cI, h0_leastOnward_n, .inl (upd h0_leastOnward_f a1.toNatClampNeg s2))), (h0_leastSoFar, .inl (cI, h0_leastSoFar_n, .inl h0_leastSoFar_f))] H := hP
          have hD : va_D A [(h0, .inr (4, [.int h0_lastOfEquals, .ref h0_value, .ref h0_leastOnward, .ref h0_leastSoFar, .int h0_last])), (h0_value, .inl (cI, h0_value_n, .inl (upd h0_value_f a1.toNatClampNeg a2))), (h0_leastOnward, .inl (cI, h0_leastOnward_n, .inl (upd h0_leastOnward_f a1.toNatClampNeg s2))), (h0_leastSoFar, .inl (cI, h0_leastSoFar_n, .inl h0_leastSoFar_f))] := hD
          refine lv_iload_n hx hb dX5_put_70 rfl (lv_at hl 1 rfl) ?_
          refine lv_bipush (v := 64) hx hb dX5_put_71 (by decide) ?_
          refine lv_irem hx hb dX5_put_73 (by decide) ?_
          refine lv_if_ne (tgt := 135) hx hb dX5_put_74 (by decide) (fun c_74 => ?_) (fun c_74 => ?_)
          · replace hf := if_f c_74 hf
            obtain ⟨rfl, hq_1⟩ := Prod.mk.inj (Option.some.inj hf)
            obtain ⟨rfl, hq_2⟩ := Prod.mk.inj hq_1
            obtain rfl := hq_2
            exact rt_v hQ hx hb hr hlocks hP hD hS dX5_put_135
          · replace hf := if_t c_74 hf
            refine lv_aload_n hx hb dX5_put_77 rfl (lv_at hl 0 rfl) ?_
            refine va_get (D := (dC, dI)) (ci := 4) (v := .ref h0_leastSoFar) (C := RX5) (T := TX5) (N := 5) hx hb hts inG_X5 hown hK hP 0 rfl rfl 3 (by decide) (hts _ kw_196) (fun _ h9 => h9) rfl dX5_put_78 ?_
            refine lv_iload_n hx hb dX5_put_81 rfl (lv_at hl 1 rfl) ?_
            refine lv_iload_n hx hb dX5_put_82 rfl (lv_at hl 1 rfl) ?_
            obtain ⟨hin, hf⟩ := chk_some hf
            refine va_iast hx hb hK hP hD hS 3 1 rfl rfl hin dX5_put_83 (fun H locs hP hD hS => ?_)
            have hP : va_P (dC, dI) vwCl [(h0, .inr (4, [.int h0_lastOfEquals, .ref h0_value, .ref h0_leastOnward, .ref h0_leastSoFar, .int h0_last])), (h0_value, .inl (cI, h0_value_n, .inl (upd h0_value_f a1.toNatClampNeg a2))), (h0_leastOnward, .inl (cI, h0_leastOnward_n, .inl (upd h0_leastOnward_f a1.toNatClampNeg s2))), (h0_leastSoFar, .inl (cI, h0_leastSoFar_n, .inl (upd h0_leastSoFar_f a1.toNatClampNeg a1)))] H := hP
            have hD : va_D A [(h0, .inr (4, [.int h0_lastOfEquals, .ref h0_value, .ref h0_leastOnward, .ref h0_leastSoFar, .int h0_last])), (h0_value, .inl (cI, h0_value_n, .inl (upd h0_value_f a1.toNatClampNeg a2))), (h0_leastOnward, .inl (cI, h0_leastOnward_n, .inl (upd h0_leastOnward_f a1.toNatClampNeg s2))), (h0_leastSoFar, .inl (cI, h0_leastSoFar_n, .inl (upd h0_leastSoFar_f a1.toNatClampNeg a1)))] := hD
            refine lv_iload_n hx hb dX5_put_84 rfl (lv_at hl 1 rfl) ?_
            refine lv_iconst (v := 1) hx hb dX5_put_85 (by decide) ?_
            refine lv_iadd hx hb dX5_put_86 ?_
            refine lv_topi (fun v4_3 e_v4_3 => ?_)
            replace hf := bnd_at e_v4_3 hf
            refine lv_istore (lv' := [(4, .int v4_3), (0, .ref h0), (1, .int a1)]) hx hb dX5_put_87 hl (by decide) rfl (fun ls hl => ?_)
            have hJ_135 : ∀ (f4 : Nat → Int32) (H : Heap) (locs : List Loc) (ls : Array Slot), m_Lows_put_E135 a1 a2 h0_value_f h0_leastOnward_f s2 f4 = some (o_h0_value_f, o_h0_leastOnward_f, o_h0_leastSoFar_f) → va_P (dC, dI) vwCl [(h0, .inr (4, [.int h0_lastOfEquals, .ref h0_value, .ref h0_leastOnward, .ref h0_leastSoFar, .int h0_last])), (h0_value, .inl (cI, h0_value_n, .inl (upd h0_value_f a1.toNatClampNeg a2))), (h0_leastOnward, .inl (cI, h0_leastOnward_n, .inl (upd h0_leastOnward_f a1.toNatClampNeg s2))), (h0_leastSoFar, .inl (cI, h0_leastSoFar_n, .inl f4))] H → va_D A [(h0, .inr (4, [.int h0_lastOfEquals, .ref h0_value, .ref h0_leastOnward, .ref h0_leastSoFar, .int h0_last])), (h0_value, .inl (cI, h0_value_n, .inl (upd h0_value_f a1.toNatClampNeg a2))), (h0_leastOnward, .inl (cI, h0_leastOnward_n, .inl (upd h0_leastOnward_f a1.toNatClampNeg s2))), (h0_leastSoFar, .inl (cI, h0_leastSoFar_n, .inl f4))] → va_S A s.heap H locs → lv_has ls 5 [] → W p l e (rm_Lows_put) s m ([.ref h0, .int a1, .int a2] : List Value).toArray below meth c H locs 0 0 Q (F0 m 135 ls []) := by
              intro f4 H locs ls hf hP hD hS hl
              unfold m_Lows_put_E135 at hf
              obtain ⟨rfl, hq_1⟩ := Prod.mk.inj (Option.some.inj hf)
              obtain ⟨rfl, hq_2⟩ := Prod.mk.inj hq_1
              obtain rfl := hq_2
              exact rt_v hQ hx hb hr hlocks hP hD hS dX5_put_135
            obtain ⟨o_89, hi_89, hk_89⟩ := bind_some hf
            have hL_89 : ∀ (n : Nat) (f5 : Nat → Int32) (j4_6 : Int32) (H : Heap) (locs : List Loc) (ls : Array Slot), iter (fun st => m_Lows_put_B89 a1 a2 h0_lastOfEquals h0_last h0_value_n h0_value_f h0_leastSoFar_n st.1 st.2) n (f5, j4_6) = some o_89 → va_P (dC, dI) vwCl [(h0, .inr (4, [.int h0_lastOfEquals, .ref h0_value, .ref h0_leastOnward, .ref h0_leastSoFar, .int h0_last])), (h0_value, .inl (cI, h0_value_n, .inl (upd h0_value_f a1.toNatClampNeg a2))), (h0_leastOnward, .inl (cI, h0_leastOnward_n, .inl (upd h0_leastOnward_f a1.toNatClampNeg s2))), (h0_leastSoFar, .inl (cI, h0_leastSoFar_n, .inl f5))] H → va_D A [(h0, .inr (4, [.int h0_lastOfEquals, .ref h0_value, .ref h0_leastOnward, .ref h0_leastSoFar, .int h0_last])), (h0_value, .inl (cI, h0_value_n, .inl (upd h0_value_f a1.toNatClampNeg a2))), (h0_leastOnward, .inl (cI, h0_leastOnward_n, .inl (upd h0_leastOnward_f a1.toNatClampNeg s2))), (h0_leastSoFar, .inl (cI, h0_leastSoFar_n, .inl f5))] → va_S A s.heap H locs → lv_has ls 5 [(0, .ref h0), (1, .int a1), (4, .int j4_6)] → W p l e (rm_Lows_put) s m ([.ref h0, .int a1, .int a2] : List Value).toArray below meth c H locs 0 0 Q (F0 m 89 ls []) := by
              intro n
              induction n with
              | zero => intro f5 j4_6 H locs ls hf; exact absurd hf (fun z => by cases z)
              | succ n ih_89 =>
                intro f5 j4_6 H locs ls hf hP hD hS hl
                obtain ⟨r_89, hf, hr_89⟩ := iter_succ hf
                have hf : m_Lows_put_B89 a1 a2 h0_lastOfEquals h0_last h0_value_n h0_value_f h0_leastSoFar_n f5 j4_6 = some r_89 := hf
                unfold m_Lows_put_B89 at hf
                refine lv_iload hx hb dX5_put_89 (lv_at hl 2 rfl) ?_
                refine lv_iload_n hx hb dX5_put_91 rfl (lv_at hl 1 rfl) ?_
                refine lv_bipush (v := 64) hx hb dX5_put_92 (by decide) ?_
                refine lv_iadd hx hb dX5_put_94 ?_
                refine lv_icmp_ge (tgt := 135) hx hb dX5_put_95 (by decide) (fun c_95 => ?_) (fun c_95 => ?_)
                · replace hf := if_t c_95 hf
                  have hf : m_Lows_put_E135 a1 a2 h0_value_f h0_leastOnward_f s2 f5 = some (o_h0_value_f, o_h0_leastOnward_f, o_h0_leastSoFar_f) := by have hq := hk_89; rw [iter_exit hf hr_89] at hq; exact hq
                  exact hJ_135 f5 _ _ _ hf hP hD hS (lv_sub hl [] rfl)
                · replace hf := if_f c_95 hf
                  refine lv_iload hx hb dX5_put_98 (lv_at hl 2 rfl) ?_
                  refine lv_aload_n hx hb dX5_put_100 rfl (lv_at hl 0 rfl) ?_
                  refine va_get (D := (dC, dI)) (ci := 4) (v := .int h0_last) (C := RX5) (T := TX5) (N := 5) hx hb hts inG_X5 hown hK hP 0 rfl rfl 4 (by decide) (hts _ kw_197) (fun _ h9 => h9) rfl dX5_put_101 ?_
                  refine lv_icmp_gt (tgt := 135) hx hb dX5_put_104 (by decide) (fun c_104 => ?_) (fun c_104 => ?_)
                  · replace hf := if_t c_104 hf
                    have hf : m_Lows_put_E135 a1 a2 h0_value_f h0_leastOnward_f s2 f5 = some (o_h0_value_f, o_h0_leastOnward_f, o_h0_leastSoFar_f) := by have hq := hk_89; rw [iter_exit hf hr_89] at hq; exact hq
                    exact hJ_135 f5 _ _ _ hf hP hD hS (lv_sub hl [] rfl)
                  · replace hf := if_f c_104 hf
                    refine lv_aload_n hx hb dX5_put_107 rfl (lv_at hl 0 rfl) ?_
                    refine va_get (D := (dC, dI)) (ci := 4) (v := .ref h0_leastSoFar) (C := RX5) (T := TX5) (N := 5) hx hb hts inG_X5 hown hK hP 0 rfl rfl 3 (by decide) (hts _ kw_196) (fun _ h9 => h9) rfl dX5_put_108 ?_
                    refine lv_iload hx hb dX5_put_111 (lv_at hl 2 rfl) ?_
                    refine lv_aload_n hx hb dX5_put_113 rfl (lv_at hl 0 rfl) ?_
                    refine lv_aload_n hx hb dX5_put_114 rfl (lv_at hl 0 rfl) ?_
                    refine va_get (D := (dC, dI)) (ci := 4) (v := .ref h0_leastSoFar) (C := RX5) (T := TX5) (N := 5) hx hb hts inG_X5 hown hK hP 0 rfl rfl 3 (by decide) (hts _ kw_196) (fun _ h9 => h9) rfl dX5_put_115 ?_
                    refine lv_iload hx hb dX5_put_118 (lv_at hl 2 rfl) ?_
                    refine lv_iconst (v := 1) hx hb dX5_put_120 (by decide) ?_
                    refine lv_isub hx hb dX5_put_121 ?_
                    obtain ⟨hin, hf⟩ := chk_some hf
                    refine va_iald hx hb hK hP 3 1 rfl rfl hin dX5_put_122 ?_
                    refine lv_iload hx hb dX5_put_123 (lv_at hl 2 rfl) ?_
                    obtain ⟨r7, hc, hf⟩ := bind_some hf
                    refine nx_i (rn_V (As := [.int (f5 (j4_6 - (1 : Int32)).toNatClampNeg), .int j4_6]) (rest := [.int j4_6, .ref h0_leastSoFar]) (n := 2) (ci := 4) (q0 := 0) ⟨hx, hb, hml, hown, hts⟩ (c_Lows_better (l := l) (dC := dC) (dI := dI) (cB := cB) (cI := cI) (h0 := h0) (a1 := (f5 (j4_6 - (1 : Int32)).toNatClampNeg)) (a2 := j4_6) (h0_value := h0_value) (h0_lastOfEquals := h0_lastOfEquals) (w_h0_leastOnward := (.ref h0_leastOnward)) (w_h0_leastSoFar := (.ref h0_leastSoFar)) (w_h0_last := (.int h0_last)) (h0_value_n := h0_value_n) (h0_value_f := (upd h0_value_f a1.toNatClampNeg a2))  (o_r := r7) hc) (wV kw_589 kw_591 kw_5 kw_91 kw_592) (by decide +kernel) ⟨Nat.le_of_ble_eq_true rfl, Nat.le_of_ble_eq_true rfl⟩ hK hP hD hN hT hS (va_free (wc := [(h0, .inr (4, [.int h0_lastOfEquals, .ref h0_value, .ref h0_leastOnward, .ref h0_leastSoFar, .int h0_last])), (h0_value, .inl (cI, h0_value_n, .inl (upd h0_value_f a1.toNatClampNeg a2)))]) hD hS hA [0, 1] rfl) [0, 1] rfl (by decide) rfl rfl rfl hl.1 rfl (lv_room (Nat.le_of_ble_eq_true rfl)) dX5_put_125 ⟨Nat.le_of_ble_eq_true rfl, Nat.le_of_ble_eq_true rfl⟩) hP hD hS hA (wr := [(h0_leastOnward, .inl (cI, h0_leastOnward_n, .inl (upd h0_leastOnward_f a1.toNatClampNeg s2))), (h0_leastSoFar, .inl (cI, h0_leastSoFar_n, .inl f5))]) (w1 := [(h0, .inr (4, [.int h0_lastOfEquals, .ref h0_value, .ref h0_leastOnward, .ref h0_leastSoFar, .int h0_last])), (h0_value, .inl (cI, h0_value_n, .inl (upd h0_value_f a1.toNatClampNeg a2)))]) (ws' := [(h0, .inr (4, [.int h0_lastOfEquals, .ref h0_value, .ref h0_leastOnward, .ref h0_leastSoFar, .int h0_last])), (h0_value, .inl (cI, h0_value_n, .inl (upd h0_value_f a1.toNatClampNeg a2))), (h0_leastOnward, .inl (cI, h0_leastOnward_n, .inl (upd h0_leastOnward_f a1.toNatClampNeg s2))), (h0_leastSoFar, .inl (cI, h0_leastSoFar_n, .inl f5))]) [0, 1] [2, 3] [2, 3, 0, 1] rfl rfl (by decide) (by decide) rfl (by decide) (fun H locs hP hD hS => ?_)
                    obtain ⟨hin, hf⟩ := chk_some hf
                    refine va_iast hx hb hK hP hD hS 3 1 rfl rfl hin dX5_put_128 (fun H locs hP hD hS => ?_)
                    have hP : va_P (dC, dI) vwCl [(h0, .inr (4, [.int h0_lastOfEquals, .ref h0_value, .ref h0_leastOnward, .ref h0_leastSoFar, .int h0_last])), (h0_value, .inl (cI, h0_value_n, .inl (upd h0_value_f a1.toNatClampNeg a2))), (h0_leastOnward, .inl (cI, h0_leastOnward_n, .inl (upd h0_leastOnward_f a1.toNatClampNeg s2))), (h0_leastSoFar, .inl (cI, h0_leastSoFar_n, .inl (upd f5 j4_6.toNatClampNeg r7)))] H := hP
                    have hD : va_D A [(h0, .inr (4, [.int h0_lastOfEquals, .ref h0_value, .ref h0_leastOnward, .ref h0_leastSoFar, .int h0_last])), (h0_value, .inl (cI, h0_value_n, .inl (upd h0_value_f a1.toNatClampNeg a2))), (h0_leastOnward, .inl (cI, h0_leastOnward_n, .inl (upd h0_leastOnward_f a1.toNatClampNeg s2))), (h0_leastSoFar, .inl (cI, h0_leastSoFar_n, .inl (upd f5 j4_6.toNatClampNeg r7)))] := hD
                    obtain ⟨v4_8, e_v4_8⟩ : ∃ y : Int32, y = (j4_6 + (1 : Int32)) := ⟨_, rfl⟩
                    replace hf := bnd_at e_v4_8 hf
                    refine lv_iinc (v := v4_8) (lv' := [(4, .int v4_8), (0, .ref h0), (1, .int a1)]) hx hb dX5_put_129 hl (k := 2) rfl (by rw [e_v4_8]; rfl) (by decide) rfl (fun ls hl => ?_)
                    refine lv_goto (tgt := 89) hx hb dX5_put_132 (by decide) ?_
                    exact ih_89 (upd f5 j4_6.toNatClampNeg r7) v4_8 _ _ _ (iter_back hf hr_89) hP hD hS (lv_sub hl [1, 2, 0] rfl)
            exact hL_89 FU (upd h0_leastSoFar_f a1.toNatClampNeg a1) v4_3 _ _ _ hi_89 hP hD hS (lv_sub hl [1, 2, 0] rfl)
        refine lv_if_eq (tgt := 56) hx hb dX5_put_49 (by decide) (fun c_49 => ?_) (fun c_49 => ?_)
        · replace hf := if_t c_49 hf
          refine lv_aload_n hx hb dX5_put_56 rfl (lv_at hl 1 rfl) ?_
          refine lv_iload_n hx hb dX5_put_57 rfl (lv_at hl 2 rfl) ?_
          refine lv_aload_n hx hb dX5_put_58 rfl (lv_at hl 1 rfl) ?_
          refine va_get (D := (dC, dI)) (ci := 4) (v := .ref h0_leastOnward) (C := RX5) (T := TX5) (N := 5) hx hb hts inG_X5 hown hK hP 0 rfl rfl 2 (by decide) (hts _ kw_195) (fun _ h9 => h9) rfl dX5_put_59 ?_
          refine lv_iload_n hx hb dX5_put_62 rfl (lv_at hl 2 rfl) ?_
          refine lv_iconst (v := 1) hx hb dX5_put_63 (by decide) ?_
          refine lv_iadd hx hb dX5_put_64 ?_
          obtain ⟨hin, hf⟩ := chk_some hf
          refine va_iald hx hb hK hP 2 1 rfl rfl hin dX5_put_65 ?_
          obtain ⟨r9, hc, hf⟩ := bind_some hf
          refine nx_i (rn_V (As := [.int a1, .int (h0_leastOnward_f (a1 + (1 : Int32)).toNatClampNeg)]) (rest := [.int a1, .ref h0_leastOnward]) (n := 2) (ci := 4) (q0 := 0) ⟨hx, hb, hml, hown, hts⟩ (c_Lows_better (l := l) (dC := dC) (dI := dI) (cB := cB) (cI := cI) (h0 := h0) (a1 := a1) (a2 := (h0_leastOnward_f (a1 + (1 : Int32)).toNatClampNeg)) (h0_value := h0_value) (h0_lastOfEquals := h0_lastOfEquals) (w_h0_leastOnward := (.ref h0_leastOnward)) (w_h0_leastSoFar := (.ref h0_leastSoFar)) (w_h0_last := (.int h0_last)) (h0_value_n := h0_value_n) (h0_value_f := (upd h0_value_f a1.toNatClampNeg a2))  (o_r := r9) hc) (wV kw_589 kw_591 kw_5 kw_91 kw_592) (by decide +kernel) ⟨Nat.le_of_ble_eq_true rfl, Nat.le_of_ble_eq_true rfl⟩ hK hP hD hN hT hS (va_free (wc := [(h0, .inr (4, [.int h0_lastOfEquals, .ref h0_value, .ref h0_leastOnward, .ref h0_leastSoFar, .int h0_last])), (h0_value, .inl (cI, h0_value_n, .inl (upd h0_value_f a1.toNatClampNeg a2)))]) hD hS hA [0, 1] rfl) [0, 1] rfl (by decide) rfl rfl rfl hl.1 rfl (lv_room (Nat.le_of_ble_eq_true rfl)) dX5_put_66 ⟨Nat.le_of_ble_eq_true rfl, Nat.le_of_ble_eq_true rfl⟩) hP hD hS hA (wr := [(h0_leastOnward, .inl (cI, h0_leastOnward_n, .inl h0_leastOnward_f)), (h0_leastSoFar, .inl (cI, h0_leastSoFar_n, .inl h0_leastSoFar_f))]) (w1 := [(h0, .inr (4, [.int h0_lastOfEquals, .ref h0_value, .ref h0_leastOnward, .ref h0_leastSoFar, .int h0_last])), (h0_value, .inl (cI, h0_value_n, .inl (upd h0_value_f a1.toNatClampNeg a2)))]) (ws' := [(h0, .inr (4, [.int h0_lastOfEquals, .ref h0_value, .ref h0_leastOnward, .ref h0_leastSoFar, .int h0_last])), (h0_value, .inl (cI, h0_value_n, .inl (upd h0_value_f a1.toNatClampNeg a2))), (h0_leastOnward, .inl (cI, h0_leastOnward_n, .inl h0_leastOnward_f)), (h0_leastSoFar, .inl (cI, h0_leastSoFar_n, .inl h0_leastSoFar_f))]) [0, 1] [2, 3] [2, 3, 0, 1] rfl rfl (by decide) (by decide) rfl (by decide) (fun H locs hP hD hS => ?_)
          exact hJ_69 r9 _ _ _ hf hP hD hS (lv_sub hl [1, 2] rfl)
        · replace hf := if_f c_49 hf
          refine lv_iload_n hx hb dX5_put_52 rfl (lv_at hl 2 rfl) ?_
          refine lv_goto (tgt := 69) hx hb dX5_put_53 (by decide) ?_
          exact hJ_69 a1 _ _ _ hf hP hD hS (lv_sub hl [1, 2] rfl)
      refine lv_icmp_eq (tgt := 37) hx hb dX5_put_25 (by decide) (fun c_25 => ?_) (fun c_25 => ?_)
      · replace hf := if_t c_25 hf
        refine lv_iconst (v := 1) hx hb dX5_put_37 (by decide) ?_
        refine lv_goto (tgt := 42) hx hb dX5_put_38 (by decide) ?_
        exact hJ_42 (1 : Int32) _ _ _ hf hP hD hS (lv_sub hl [0, 1] rfl)
      · replace hf := if_f c_25 hf
        refine lv_iload_n hx hb dX5_put_28 rfl (lv_at hl 1 rfl) ?_
        refine lv_bipush (v := 64) hx hb dX5_put_29 (by decide) ?_
        refine lv_irem hx hb dX5_put_31 (by decide) ?_
        refine lv_bipush (v := 63) hx hb dX5_put_32 (by decide) ?_
        refine lv_icmp_ne (tgt := 41) hx hb dX5_put_34 (by decide) (fun c_34 => ?_) (fun c_34 => ?_)
        · replace hf := if_f c_34 hf
          refine lv_iconst (v := 0) hx hb dX5_put_41 (by decide) ?_
          exact hJ_42 (0 : Int32) _ _ _ hf hP hD hS (lv_sub hl [0, 1] rfl)
        · replace hf := if_t c_34 hf
          refine lv_iconst (v := 1) hx hb dX5_put_37 (by decide) ?_
          refine lv_goto (tgt := 42) hx hb dX5_put_38 (by decide) ?_
          exact hJ_42 (1 : Int32) _ _ _ hf hP hD hS (lv_sub hl [0, 1] rfl)
    · replace hf := if_f c_9 hf
      obtain ⟨rfl, hq_1⟩ := Prod.mk.inj (Option.some.inj hf)
      obtain ⟨rfl, hq_2⟩ := Prod.mk.inj hq_1
      obtain rfl := hq_2
      exact rt_v hQ hx hb hr hlocks hP hD hS dX5_put_12

theorem dX5_placeOfLeast_0 : decode cX5_placeOfLeast 0 = .ok (.iload_n 1, 1) := by decide +kernel
theorem dX5_placeOfLeast_1 : decode cX5_placeOfLeast 1 = .ok (.ifCond .lt 16, 3) := by decide +kernel
theorem dX5_placeOfLeast_4 : decode cX5_placeOfLeast 4 = .ok (.iload_n 2, 1) := by decide +kernel
theorem dX5_placeOfLeast_5 : decode cX5_placeOfLeast 5 = .ok (.aload_n 0, 1) := by decide +kernel
theorem dX5_placeOfLeast_6 : decode cX5_placeOfLeast 6 = .ok (.getfield 31, 3) := by decide +kernel
theorem dX5_placeOfLeast_9 : decode cX5_placeOfLeast 9 = .ok (.if_icmp .gt 8, 3) := by decide +kernel
theorem dX5_placeOfLeast_12 : decode cX5_placeOfLeast 12 = .ok (.iload_n 1, 1) := by decide +kernel
theorem dX5_placeOfLeast_13 : decode cX5_placeOfLeast 13 = .ok (.iload_n 2, 1) := by decide +kernel
theorem dX5_placeOfLeast_14 : decode cX5_placeOfLeast 14 = .ok (.if_icmp .le 5, 3) := by decide +kernel
theorem dX5_placeOfLeast_17 : decode cX5_placeOfLeast 17 = .ok (.iconst 0, 1) := by decide +kernel
theorem dX5_placeOfLeast_18 : decode cX5_placeOfLeast 18 = .ok (.ireturn, 1) := by decide +kernel
theorem dX5_placeOfLeast_19 : decode cX5_placeOfLeast 19 = .ok (.iload_n 1, 1) := by decide +kernel
theorem dX5_placeOfLeast_20 : decode cX5_placeOfLeast 20 = .ok (.istore_n 3, 1) := by decide +kernel
theorem dX5_placeOfLeast_21 : decode cX5_placeOfLeast 21 = .ok (.iload_n 1, 1) := by decide +kernel
theorem dX5_placeOfLeast_22 : decode cX5_placeOfLeast 22 = .ok (.bipush 64, 2) := by decide +kernel
theorem dX5_placeOfLeast_24 : decode cX5_placeOfLeast 24 = .ok (.idiv, 1) := by decide +kernel
theorem dX5_placeOfLeast_25 : decode cX5_placeOfLeast 25 = .ok (.iload_n 2, 1) := by decide +kernel
theorem dX5_placeOfLeast_26 : decode cX5_placeOfLeast 26 = .ok (.bipush 64, 2) := by decide +kernel
theorem dX5_placeOfLeast_28 : decode cX5_placeOfLeast 28 = .ok (.idiv, 1) := by decide +kernel
theorem dX5_placeOfLeast_29 : decode cX5_placeOfLeast 29 = .ok (.if_icmp .ne 30, 3) := by decide +kernel
theorem dX5_placeOfLeast_32 : decode cX5_placeOfLeast 32 = .ok (.iload_n 1, 1) := by decide +kernel
theorem dX5_placeOfLeast_33 : decode cX5_placeOfLeast 33 = .ok (.iconst 1, 1) := by decide +kernel
theorem dX5_placeOfLeast_34 : decode cX5_placeOfLeast 34 = .ok (.iadd, 1) := by decide +kernel
theorem dX5_placeOfLeast_35 : decode cX5_placeOfLeast 35 = .ok (.istore 4, 2) := by decide +kernel
theorem dX5_placeOfLeast_37 : decode cX5_placeOfLeast 37 = .ok (.iload 4, 2) := by decide +kernel
theorem dX5_placeOfLeast_39 : decode cX5_placeOfLeast 39 = .ok (.iload_n 2, 1) := by decide +kernel
theorem dX5_placeOfLeast_40 : decode cX5_placeOfLeast 40 = .ok (.if_icmp .gt 17, 3) := by decide +kernel
theorem dX5_placeOfLeast_43 : decode cX5_placeOfLeast 43 = .ok (.aload_n 0, 1) := by decide +kernel
theorem dX5_placeOfLeast_44 : decode cX5_placeOfLeast 44 = .ok (.iload_n 3, 1) := by decide +kernel
theorem dX5_placeOfLeast_45 : decode cX5_placeOfLeast 45 = .ok (.iload 4, 2) := by decide +kernel
theorem dX5_placeOfLeast_47 : decode cX5_placeOfLeast 47 = .ok (.invokevirtual 35, 3) := by decide +kernel
theorem dX5_placeOfLeast_50 : decode cX5_placeOfLeast 50 = .ok (.istore_n 3, 1) := by decide +kernel
theorem dX5_placeOfLeast_51 : decode cX5_placeOfLeast 51 = .ok (.iinc 4 1, 3) := by decide +kernel
theorem dX5_placeOfLeast_54 : decode cX5_placeOfLeast 54 = .ok (.goto (-17), 3) := by decide +kernel
theorem dX5_placeOfLeast_57 : decode cX5_placeOfLeast 57 = .ok (.iload_n 3, 1) := by decide +kernel
theorem dX5_placeOfLeast_58 : decode cX5_placeOfLeast 58 = .ok (.ireturn, 1) := by decide +kernel
theorem dX5_placeOfLeast_59 : decode cX5_placeOfLeast 59 = .ok (.aload_n 0, 1) := by decide +kernel
theorem dX5_placeOfLeast_60 : decode cX5_placeOfLeast 60 = .ok (.getfield 15, 3) := by decide +kernel
theorem dX5_placeOfLeast_63 : decode cX5_placeOfLeast 63 = .ok (.iload_n 1, 1) := by decide +kernel
theorem dX5_placeOfLeast_64 : decode cX5_placeOfLeast 64 = .ok (.iaload, 1) := by decide +kernel
theorem dX5_placeOfLeast_65 : decode cX5_placeOfLeast 65 = .ok (.istore_n 3, 1) := by decide +kernel
theorem dX5_placeOfLeast_66 : decode cX5_placeOfLeast 66 = .ok (.iload_n 1, 1) := by decide +kernel
theorem dX5_placeOfLeast_67 : decode cX5_placeOfLeast 67 = .ok (.bipush 64, 2) := by decide +kernel
theorem dX5_placeOfLeast_69 : decode cX5_placeOfLeast 69 = .ok (.idiv, 1) := by decide +kernel
theorem dX5_placeOfLeast_70 : decode cX5_placeOfLeast 70 = .ok (.iconst 1, 1) := by decide +kernel
theorem dX5_placeOfLeast_71 : decode cX5_placeOfLeast 71 = .ok (.iadd, 1) := by decide +kernel
theorem dX5_placeOfLeast_72 : decode cX5_placeOfLeast 72 = .ok (.istore 4, 2) := by decide +kernel
theorem dX5_placeOfLeast_74 : decode cX5_placeOfLeast 74 = .ok (.iload 4, 2) := by decide +kernel
theorem dX5_placeOfLeast_76 : decode cX5_placeOfLeast 76 = .ok (.iload_n 2, 1) := by decide +kernel
theorem dX5_placeOfLeast_77 : decode cX5_placeOfLeast 77 = .ok (.bipush 64, 2) := by decide +kernel
theorem dX5_placeOfLeast_79 : decode cX5_placeOfLeast 79 = .ok (.idiv, 1) := by decide +kernel
theorem dX5_placeOfLeast_80 : decode cX5_placeOfLeast 80 = .ok (.if_icmp .ge 25, 3) := by decide +kernel
theorem dX5_placeOfLeast_83 : decode cX5_placeOfLeast 83 = .ok (.aload_n 0, 1) := by decide +kernel
theorem dX5_placeOfLeast_84 : decode cX5_placeOfLeast 84 = .ok (.iload_n 3, 1) := by decide +kernel
theorem dX5_placeOfLeast_85 : decode cX5_placeOfLeast 85 = .ok (.aload_n 0, 1) := by decide +kernel
theorem dX5_placeOfLeast_86 : decode cX5_placeOfLeast 86 = .ok (.getfield 15, 3) := by decide +kernel
theorem dX5_placeOfLeast_89 : decode cX5_placeOfLeast 89 = .ok (.iload 4, 2) := by decide +kernel
theorem dX5_placeOfLeast_91 : decode cX5_placeOfLeast 91 = .ok (.bipush 64, 2) := by decide +kernel
theorem dX5_placeOfLeast_93 : decode cX5_placeOfLeast 93 = .ok (.imul, 1) := by decide +kernel
theorem dX5_placeOfLeast_94 : decode cX5_placeOfLeast 94 = .ok (.iaload, 1) := by decide +kernel
theorem dX5_placeOfLeast_95 : decode cX5_placeOfLeast 95 = .ok (.invokevirtual 35, 3) := by decide +kernel
theorem dX5_placeOfLeast_98 : decode cX5_placeOfLeast 98 = .ok (.istore_n 3, 1) := by decide +kernel
theorem dX5_placeOfLeast_99 : decode cX5_placeOfLeast 99 = .ok (.iinc 4 1, 3) := by decide +kernel
theorem dX5_placeOfLeast_102 : decode cX5_placeOfLeast 102 = .ok (.goto (-28), 3) := by decide +kernel
theorem dX5_placeOfLeast_105 : decode cX5_placeOfLeast 105 = .ok (.aload_n 0, 1) := by decide +kernel
theorem dX5_placeOfLeast_106 : decode cX5_placeOfLeast 106 = .ok (.iload_n 3, 1) := by decide +kernel
theorem dX5_placeOfLeast_107 : decode cX5_placeOfLeast 107 = .ok (.aload_n 0, 1) := by decide +kernel
theorem dX5_placeOfLeast_108 : decode cX5_placeOfLeast 108 = .ok (.getfield 18, 3) := by decide +kernel
theorem dX5_placeOfLeast_111 : decode cX5_placeOfLeast 111 = .ok (.iload_n 2, 1) := by decide +kernel
theorem dX5_placeOfLeast_112 : decode cX5_placeOfLeast 112 = .ok (.iaload, 1) := by decide +kernel
theorem dX5_placeOfLeast_113 : decode cX5_placeOfLeast 113 = .ok (.invokevirtual 35, 3) := by decide +kernel
theorem dX5_placeOfLeast_116 : decode cX5_placeOfLeast 116 = .ok (.ireturn, 1) := by decide +kernel
def m_Lows_placeOfLeast_B74 (a2 : Int32) (h0_lastOfEquals : Int32) (h0_value_n : Nat) (h0_value_f : Nat → Int32) (h0_leastOnward_n : Nat) (h0_leastOnward_f : Nat → Int32) (h0_leastSoFar_n : Nat) (h0_leastSoFar_f : Nat → Int32) (j3_3 : Int32) (j4_4 : Int32) : Option ((Int32 × Int32) ⊕ ((((Int32))))) :=
  if (a2 / (64 : Int32)) ≤ j4_4 then
    chk a2 h0_leastSoFar_n <|
    (m_Lows_better j3_3 (h0_leastSoFar_f a2.toNatClampNeg) h0_lastOfEquals h0_value_n h0_value_f).bind fun r5 =>
    some (.inr r5)
  else
    chk (j4_4 * (64 : Int32)) h0_leastOnward_n <|
    (m_Lows_better j3_3 (h0_leastOnward_f (j4_4 * (64 : Int32)).toNatClampNeg) h0_lastOfEquals h0_value_n h0_value_f).bind fun r6 =>
    bnd (j4_4 + (1 : Int32)) fun v4_7 =>
    some (.inl (r6, v4_7))
def m_Lows_placeOfLeast_B37 (a2 : Int32) (h0_lastOfEquals : Int32) (h0_value_n : Nat) (h0_value_f : Nat → Int32) (j3_9 : Int32) (j4_10 : Int32) : Option ((Int32 × Int32) ⊕ ((((Int32))))) :=
  if a2 < j4_10 then
    some (.inr j3_9)
  else
    (m_Lows_better j3_9 j4_10 h0_lastOfEquals h0_value_n h0_value_f).bind fun r11 =>
    bnd (j4_10 + (1 : Int32)) fun v4_12 =>
    some (.inl (r11, v4_12))
def m_Lows_placeOfLeast (a1 : Int32) (a2 : Int32) (h0_lastOfEquals : Int32) (h0_last : Int32) (h0_value_n : Nat) (h0_value_f : Nat → Int32) (h0_leastOnward_n : Nat) (h0_leastOnward_f : Nat → Int32) (h0_leastSoFar_n : Nat) (h0_leastSoFar_f : Nat → Int32) : Option (Int32) :=
  if a1 < 0 then
    some (0 : Int32)
  else
    if h0_last < a2 then
      some (0 : Int32)
    else
      if a1 ≤ a2 then
        if (a1 / (64 : Int32)) = (a2 / (64 : Int32)) then
          bnd (a1 + (1 : Int32)) fun v4_8 =>
          (iter (fun st => m_Lows_placeOfLeast_B37 a2 h0_lastOfEquals h0_value_n h0_value_f st.1 st.2) FU (a1, v4_8)).bind fun o => some o
        else
          chk a1 h0_leastOnward_n <|
          bnd (h0_leastOnward_f a1.toNatClampNeg) fun v3_1 =>
          bnd ((a1 / (64 : Int32)) + (1 : Int32)) fun v4_2 =>
          (iter (fun st => m_Lows_placeOfLeast_B74 a2 h0_lastOfEquals h0_value_n h0_value_f h0_leastOnward_n h0_leastOnward_f h0_leastSoFar_n h0_leastSoFar_f st.1 st.2) FU (v3_1, v4_2)).bind fun o => some o
      else
        some (0 : Int32)
def rm_Lows_placeOfLeast : Room := { frames := 1, cells := 0, slots := 0, locals := 22 }
set_option maxHeartbeats 4000000 in
set_option maxRecDepth 100000 in
theorem c_Lows_placeOfLeast {l : Launch} {dC : Nat → ClassId} {dI : Nat → Nat → Nat} {cB cI : ClassId} {sz : Nat} {h0 : Nat} {a1 : Int32} {a2 : Int32} {h0_value : Nat} {h0_leastOnward : Nat} {h0_leastSoFar : Nat} {h0_lastOfEquals : Int32} {h0_last : Int32} {h0_value_n : Nat} {h0_value_f : Nat → Int32} {h0_leastOnward_n : Nat} {h0_leastOnward_f : Nat → Int32} {h0_leastSoFar_n : Nat} {h0_leastSoFar_f : Nat → Int32} {o_r : Int32} (hf : m_Lows_placeOfLeast a1 a2 h0_lastOfEquals h0_last h0_value_n h0_value_f h0_leastOnward_n h0_leastOnward_f h0_leastSoFar_n h0_leastSoFar_f = some o_r) : Met l yX5_placeOfLeast (Cond.code yX5_placeOfLeast cX5_placeOfLeast 5 (some .int) :: lw_G) rm_Lows_placeOfLeast (PreC (dC, dI) [(cB, .byte), (cI, .int)] [.ref h0, .int a1, .int a2] sz [(h0, .inr (4, [.int h0_lastOfEquals, .ref h0_value, .ref h0_leastOnward, .ref h0_leastSoFar, .int h0_last])), (h0_value, .inl (cI, h0_value_n, .inl h0_value_f)), (h0_leastOnward, .inl (cI, h0_leastOnward_n, .inl h0_leastOnward_f)), (h0_leastSoFar, .inl (cI, h0_leastSoFar_n, .inl h0_leastSoFar_f))]) (QcI o_r (dC, dI) [(h0, .inr (4, [.int h0_lastOfEquals, .ref h0_value, .ref h0_leastOnward, .ref h0_leastSoFar, .int h0_last])), (h0_value, .inl (cI, h0_value_n, .inl h0_value_f)), (h0_leastOnward, .inl (cI, h0_leastOnward_n, .inl h0_leastOnward_f)), (h0_leastSoFar, .inl (cI, h0_leastSoFar_n, .inl h0_leastSoFar_f))] (va_A [(h0, .inr (4, [.int h0_lastOfEquals, .ref h0_value, .ref h0_leastOnward, .ref h0_leastSoFar, .int h0_last])), (h0_value, .inl (cI, h0_value_n, .inl h0_value_f)), (h0_leastOnward, .inl (cI, h0_leastOnward_n, .inl h0_leastOnward_f)), (h0_leastSoFar, .inl (cI, h0_leastSoFar_n, .inl h0_leastSoFar_f))] sz)) 0 0 (va_A [(h0, .inr (4, [.int h0_lastOfEquals, .ref h0_value, .ref h0_leastOnward, .ref h0_leastSoFar, .int h0_last])), (h0_value, .inl (cI, h0_value_n, .inl h0_value_f)), (h0_leastOnward, .inl (cI, h0_leastOnward_n, .inl h0_leastOnward_f)), (h0_leastSoFar, .inl (cI, h0_leastSoFar_n, .inl h0_leastSoFar_f))] sz) := by
  refine met_of (Qf := fun A => QcI o_r (dC, dI) [(h0, .inr (4, [.int h0_lastOfEquals, .ref h0_value, .ref h0_leastOnward, .ref h0_leastSoFar, .int h0_last])), (h0_value, .inl (cI, h0_value_n, .inl h0_value_f)), (h0_leastOnward, .inl (cI, h0_leastOnward_n, .inl h0_leastOnward_f)), (h0_leastSoFar, .inl (cI, h0_leastSoFar_n, .inl h0_leastSoFar_f))] A) (by decide) (Nat.le_of_ble_eq_true rfl) ?_
  intro p e s m below meth c A ls Q hx hb hr hml hown hts hlocks hnm hP hK hD hN hT hA hl hQ
  have hown : s.vm.findClass RX5 = some m.cls := hown
  have hS : va_S A s.heap s.heap [] := va_S.rf
  have hl : lv_has ls 5 [(0, .ref h0), (1, .int a1), (2, .int a2)] := hl
  unfold m_Lows_placeOfLeast at hf
  refine lv_iload_n hx hb dX5_placeOfLeast_0 rfl (lv_at hl 1 rfl) ?_
  refine lv_if_lt (tgt := 17) hx hb dX5_placeOfLeast_1 (by decide) (fun c_1 => ?_) (fun c_1 => ?_)
  · replace hf := if_t c_1 hf
    refine lv_iconst (v := 0) hx hb dX5_placeOfLeast_17 (by decide) ?_
    obtain rfl := Option.some.inj hf
    exact rt_i hQ hx hb hr hlocks hP hD hS dX5_placeOfLeast_18
  · replace hf := if_f c_1 hf
    refine lv_iload_n hx hb dX5_placeOfLeast_4 rfl (lv_at hl 2 rfl) ?_
    refine lv_aload_n hx hb dX5_placeOfLeast_5 rfl (lv_at hl 0 rfl) ?_
    refine va_get (D := (dC, dI)) (ci := 4) (v := .int h0_last) (C := RX5) (T := TX5) (N := 5) hx hb hts inG_X5 hown hK hP 0 rfl rfl 4 (by decide) (hts _ kw_197) (fun _ h9 => h9) rfl dX5_placeOfLeast_6 ?_
    refine lv_icmp_gt (tgt := 17) hx hb dX5_placeOfLeast_9 (by decide) (fun c_9 => ?_) (fun c_9 => ?_)
    · replace hf := if_t c_9 hf
      refine lv_iconst (v := 0) hx hb dX5_placeOfLeast_17 (by decide) ?_
      obtain rfl := Option.some.inj hf
      exact rt_i hQ hx hb hr hlocks hP hD hS dX5_placeOfLeast_18
    · replace hf := if_f c_9 hf
      refine lv_iload_n hx hb dX5_placeOfLeast_12 rfl (lv_at hl 1 rfl) ?_
      refine lv_iload_n hx hb dX5_placeOfLeast_13 rfl (lv_at hl 2 rfl) ?_
      refine lv_icmp_le (tgt := 19) hx hb dX5_placeOfLeast_14 (by decide) (fun c_14 => ?_) (fun c_14 => ?_)
      · replace hf := if_t c_14 hf
        refine lv_iload_n hx hb dX5_placeOfLeast_19 rfl (lv_at hl 1 rfl) ?_
        refine lv_istore_n (lv' := [(3, .int a1), (0, .ref h0), (1, .int a1), (2, .int a2)]) hx hb dX5_placeOfLeast_20 rfl hl (by decide) rfl (fun ls hl => ?_)
        refine lv_iload_n hx hb dX5_placeOfLeast_21 rfl (lv_at hl 2 rfl) ?_
        refine lv_bipush (v := 64) hx hb dX5_placeOfLeast_22 (by decide) ?_
        refine lv_idiv hx hb dX5_placeOfLeast_24 (by decide) ?_
        refine lv_iload_n hx hb dX5_placeOfLeast_25 rfl (lv_at hl 3 rfl) ?_
        refine lv_bipush (v := 64) hx hb dX5_placeOfLeast_26 (by decide) ?_
        refine lv_idiv hx hb dX5_placeOfLeast_28 (by decide) ?_
        refine lv_icmp_ne (tgt := 59) hx hb dX5_placeOfLeast_29 (by decide) (fun c_29 => ?_) (fun c_29 => ?_)
        · replace hf := if_f c_29 hf
          refine lv_aload_n hx hb dX5_placeOfLeast_59 rfl (lv_at hl 1 rfl) ?_
          refine va_get (D := (dC, dI)) (ci := 4) (v := .ref h0_leastOnward) (C := RX5) (T := TX5) (N := 5) hx hb hts inG_X5 hown hK hP 0 rfl rfl 2 (by decide) (hts _ kw_195) (fun _ h9 => h9) rfl dX5_placeOfLeast_60 ?_
          refine lv_iload_n hx hb dX5_placeOfLeast_63 rfl (lv_at hl 2 rfl) ?_
          obtain ⟨hin, hf⟩ := chk_some hf
          refine va_iald hx hb hK hP 2 1 rfl rfl hin dX5_placeOfLeast_64 ?_
          refine lv_topi (fun v3_1 e_v3_1 => ?_)
          replace hf := bnd_at e_v3_1 hf
          refine lv_istore_n (lv' := [(3, .int v3_1), (0, .ref h0), (1, .int a1), (2, .int a2)]) hx hb dX5_placeOfLeast_65 rfl hl (by decide) rfl (fun ls hl => ?_)
          refine lv_iload_n hx hb dX5_placeOfLeast_66 rfl (lv_at hl 2 rfl) ?_
          refine lv_bipush (v := 64) hx hb dX5_placeOfLeast_67 (by decide) ?_
          refine lv_idiv hx hb dX5_placeOfLeast_69 (by decide) ?_
          refine lv_iconst (v := 1) hx hb dX5_placeOfLeast_70 (by decide) ?_
          refine lv_iadd hx hb dX5_placeOfLeast_71 ?_
          refine lv_topi (fun v4_2 e_v4_2 => ?_)
          replace hf := bnd_at e_v4_2 hf
          refine lv_istore (lv' := [(4, .int v4_2), (3, .int v3_1), (0, .ref h0), (1, .int a1), (2, .int a2)]) hx hb dX5_placeOfLeast_72 hl (by decide) rfl (fun ls hl => ?_)
          obtain ⟨o_74, hi_74, hk_74⟩ := bind_some hf
          have hL_74 : ∀ (n : Nat) (j3_3 : Int32) (j4_4 : Int32) (H : Heap) (locs : List Loc) (ls : Array Slot), iter (fun st => m_Lows_placeOfLeast_B74 a2 h0_lastOfEquals h0_value_n h0_value_f h0_leastOnward_n h0_leastOnward_f h0_leastSoFar_n h0_leastSoFar_f st.1 st.2) n (j3_3, j4_4) = some o_74 → va_P (dC, dI) vwCl [(h0, .inr (4, [.int h0_lastOfEquals, .ref h0_value, .ref h0_leastOnward, .ref h0_leastSoFar, .int h0_last])), (h0_value, .inl (cI, h0_value_n, .inl h0_value_f)), (h0_leastOnward, .inl (cI, h0_leastOnward_n, .inl h0_leastOnward_f)), (h0_leastSoFar, .inl (cI, h0_leastSoFar_n, .inl h0_leastSoFar_f))] H → va_D A [(h0, .inr (4, [.int h0_lastOfEquals, .ref h0_value, .ref h0_leastOnward, .ref h0_leastSoFar, .int h0_last])), (h0_value, .inl (cI, h0_value_n, .inl h0_value_f)), (h0_leastOnward, .inl (cI, h0_leastOnward_n, .inl h0_leastOnward_f)), (h0_leastSoFar, .inl (cI, h0_leastSoFar_n, .inl h0_leastSoFar_f))] → va_S A s.heap H locs → lv_has ls 5 [(0, .ref h0), (2, .int a2), (3, .int j3_3), (4, .int j4_4)] → W p l e (rm_Lows_placeOfLeast) s m ([.ref h0, .int a1, .int a2] : List Value).toArray below meth c H locs 0 0 Q (F0 m 74 ls []) := by
            intro n
            induction n with
            | zero => intro j3_3 j4_4 H locs ls hf; exact absurd hf (fun z => by cases z)
            | succ n ih_74 =>
              intro j3_3 j4_4 H locs ls hf hP hD hS hl
              obtain ⟨r_74, hf, hr_74⟩ := iter_succ hf
              have hf : m_Lows_placeOfLeast_B74 a2 h0_lastOfEquals h0_value_n h0_value_f h0_leastOnward_n h0_leastOnward_f h0_leastSoFar_n h0_leastSoFar_f j3_3 j4_4 = some r_74 := hf
              unfold m_Lows_placeOfLeast_B74 at hf
              refine lv_iload hx hb dX5_placeOfLeast_74 (lv_at hl 3 rfl) ?_
              refine lv_iload_n hx hb dX5_placeOfLeast_76 rfl (lv_at hl 1 rfl) ?_
              refine lv_bipush (v := 64) hx hb dX5_placeOfLeast_77 (by decide) ?_
              refine lv_idiv hx hb dX5_placeOfLeast_79 (by decide) ?_
              refine lv_icmp_ge (tgt := 105) hx hb dX5_placeOfLeast_80 (by decide) (fun c_80 => ?_) (fun c_80 => ?_)
              · replace hf := if_t c_80 hf
                refine lv_aload_n hx hb dX5_placeOfLeast_105 rfl (lv_at hl 0 rfl) ?_
                refine lv_iload_n hx hb dX5_placeOfLeast_106 rfl (lv_at hl 2 rfl) ?_
                refine lv_aload_n hx hb dX5_placeOfLeast_107 rfl (lv_at hl 0 rfl) ?_
                refine va_get (D := (dC, dI)) (ci := 4) (v := .ref h0_leastSoFar) (C := RX5) (T := TX5) (N := 5) hx hb hts inG_X5 hown hK hP 0 rfl rfl 3 (by decide) (hts _ kw_196) (fun _ h9 => h9) rfl dX5_placeOfLeast_108 ?_
                refine lv_iload_n hx hb dX5_placeOfLeast_111 rfl (lv_at hl 1 rfl) ?_
                obtain ⟨hin, hf⟩ := chk_some hf
                refine va_iald hx hb hK hP 3 1 rfl rfl hin dX5_placeOfLeast_112 ?_
                obtain ⟨r5, hc, hf⟩ := bind_some hf
                refine nx_i (rn_V (As := [.int j3_3, .int (h0_leastSoFar_f a2.toNatClampNeg)]) (rest := []) (n := 2) (ci := 4) (q0 := 0) ⟨hx, hb, hml, hown, hts⟩ (c_Lows_better (l := l) (dC := dC) (dI := dI) (cB := cB) (cI := cI) (h0 := h0) (a1 := j3_3) (a2 := (h0_leastSoFar_f a2.toNatClampNeg)) (h0_value := h0_value) (h0_lastOfEquals := h0_lastOfEquals) (w_h0_leastOnward := (.ref h0_leastOnward)) (w_h0_leastSoFar := (.ref h0_leastSoFar)) (w_h0_last := (.int h0_last)) (h0_value_n := h0_value_n) (h0_value_f := h0_value_f)  (o_r := r5) hc) (wV kw_589 kw_591 kw_5 kw_91 kw_592) (by decide +kernel) ⟨Nat.le_of_ble_eq_true rfl, Nat.le_of_ble_eq_true rfl⟩ hK hP hD hN hT hS (va_free (wc := [(h0, .inr (4, [.int h0_lastOfEquals, .ref h0_value, .ref h0_leastOnward, .ref h0_leastSoFar, .int h0_last])), (h0_value, .inl (cI, h0_value_n, .inl h0_value_f))]) hD hS hA [0, 1] rfl) [0, 1] rfl (by decide) rfl rfl rfl hl.1 rfl (lv_room (Nat.le_of_ble_eq_true rfl)) dX5_placeOfLeast_113 ⟨Nat.le_of_ble_eq_true rfl, Nat.le_of_ble_eq_true rfl⟩) hP hD hS hA (wr := [(h0_leastOnward, .inl (cI, h0_leastOnward_n, .inl h0_leastOnward_f)), (h0_leastSoFar, .inl (cI, h0_leastSoFar_n, .inl h0_leastSoFar_f))]) (w1 := [(h0, .inr (4, [.int h0_lastOfEquals, .ref h0_value, .ref h0_leastOnward, .ref h0_leastSoFar, .int h0_last])), (h0_value, .inl (cI, h0_value_n, .inl h0_value_f))]) (ws' := [(h0, .inr (4, [.int h0_lastOfEquals, .ref h0_value, .ref h0_leastOnward, .ref h0_leastSoFar, .int h0_last])), (h0_value, .inl (cI, h0_value_n, .inl h0_value_f)), (h0_leastOnward, .inl (cI, h0_leastOnward_n, .inl h0_leastOnward_f)), (h0_leastSoFar, .inl (cI, h0_leastSoFar_n, .inl h0_leastSoFar_f))]) [0, 1] [2, 3] [2, 3, 0, 1] rfl rfl (by decide) (by decide) rfl (by decide) (fun H locs hP hD hS => ?_)
                replace hf : some r5 = some o_r := by have hq := hk_74; rw [iter_exit hf hr_74] at hq; exact hq
                obtain rfl := Option.some.inj hf
                exact rt_i hQ hx hb hr hlocks hP hD hS dX5_placeOfLeast_116
              · replace hf := if_f c_80 hf
                refine lv_aload_n hx hb dX5_placeOfLeast_83 rfl (lv_at hl 0 rfl) ?_
                refine lv_iload_n hx hb dX5_placeOfLeast_84 rfl (lv_at hl 2 rfl) ?_
                refine lv_aload_n hx hb dX5_placeOfLeast_85 rfl (lv_at hl 0 rfl) ?_
                refine va_get (D := (dC, dI)) (ci := 4) (v := .ref h0_leastOnward) (C := RX5) (T := TX5) (N := 5) hx hb hts inG_X5 hown hK hP 0 rfl rfl 2 (by decide) (hts _ kw_195) (fun _ h9 => h9) rfl dX5_placeOfLeast_86 ?_
                refine lv_iload hx hb dX5_placeOfLeast_89 (lv_at hl 3 rfl) ?_
                refine lv_bipush (v := 64) hx hb dX5_placeOfLeast_91 (by decide) ?_
                refine lv_imul hx hb dX5_placeOfLeast_93 ?_
                obtain ⟨hin, hf⟩ := chk_some hf
                refine va_iald hx hb hK hP 2 1 rfl rfl hin dX5_placeOfLeast_94 ?_
                obtain ⟨r6, hc, hf⟩ := bind_some hf
                refine nx_i (rn_V (As := [.int j3_3, .int (h0_leastOnward_f (j4_4 * (64 : Int32)).toNatClampNeg)]) (rest := []) (n := 2) (ci := 4) (q0 := 0) ⟨hx, hb, hml, hown, hts⟩ (c_Lows_better (l := l) (dC := dC) (dI := dI) (cB := cB) (cI := cI) (h0 := h0) (a1 := j3_3) (a2 := (h0_leastOnward_f (j4_4 * (64 : Int32)).toNatClampNeg)) (h0_value := h0_value) (h0_lastOfEquals := h0_lastOfEquals) (w_h0_leastOnward := (.ref h0_leastOnward)) (w_h0_leastSoFar := (.ref h0_leastSoFar)) (w_h0_last := (.int h0_last)) (h0_value_n := h0_value_n) (h0_value_f := h0_value_f)  (o_r := r6) hc) (wV kw_589 kw_591 kw_5 kw_91 kw_592) (by decide +kernel) ⟨Nat.le_of_ble_eq_true rfl, Nat.le_of_ble_eq_true rfl⟩ hK hP hD hN hT hS (va_free (wc := [(h0, .inr (4, [.int h0_lastOfEquals, .ref h0_value, .ref h0_leastOnward, .ref h0_leastSoFar, .int h0_last])), (h0_value, .inl (cI, h0_value_n, .inl h0_value_f))]) hD hS hA [0, 1] rfl) [0, 1] rfl (by decide) rfl rfl rfl hl.1 rfl (lv_room (Nat.le_of_ble_eq_true rfl)) dX5_placeOfLeast_95 ⟨Nat.le_of_ble_eq_true rfl, Nat.le_of_ble_eq_true rfl⟩) hP hD hS hA (wr := [(h0_leastOnward, .inl (cI, h0_leastOnward_n, .inl h0_leastOnward_f)), (h0_leastSoFar, .inl (cI, h0_leastSoFar_n, .inl h0_leastSoFar_f))]) (w1 := [(h0, .inr (4, [.int h0_lastOfEquals, .ref h0_value, .ref h0_leastOnward, .ref h0_leastSoFar, .int h0_last])), (h0_value, .inl (cI, h0_value_n, .inl h0_value_f))]) (ws' := [(h0, .inr (4, [.int h0_lastOfEquals, .ref h0_value, .ref h0_leastOnward, .ref h0_leastSoFar, .int h0_last])), (h0_value, .inl (cI, h0_value_n, .inl h0_value_f)), (h0_leastOnward, .inl (cI, h0_leastOnward_n, .inl h0_leastOnward_f)), (h0_leastSoFar, .inl (cI, h0_leastSoFar_n, .inl h0_leastSoFar_f))]) [0, 1] [2, 3] [2, 3, 0, 1] rfl rfl (by decide) (by decide) rfl (by decide) (fun H locs hP hD hS => ?_)
                refine lv_istore_n (lv' := [(3, .int r6), (0, .ref h0), (2, .int a2), (4, .int j4_4)]) hx hb dX5_placeOfLeast_98 rfl hl (by decide) rfl (fun ls hl => ?_)
                obtain ⟨v4_7, e_v4_7⟩ : ∃ y : Int32, y = (j4_4 + (1 : Int32)) := ⟨_, rfl⟩
                replace hf := bnd_at e_v4_7 hf
                refine lv_iinc (v := v4_7) (lv' := [(4, .int v4_7), (3, .int r6), (0, .ref h0), (2, .int a2)]) hx hb dX5_placeOfLeast_99 hl (k := 3) rfl (by rw [e_v4_7]; rfl) (by decide) rfl (fun ls hl => ?_)
                refine lv_goto (tgt := 74) hx hb dX5_placeOfLeast_102 (by decide) ?_
                exact ih_74 r6 v4_7 _ _ _ (iter_back hf hr_74) hP hD hS (lv_sub hl [2, 3, 1, 0] rfl)
          exact hL_74 FU v3_1 v4_2 _ _ _ hi_74 hP hD hS (lv_sub hl [2, 4, 1, 0] rfl)
        · replace hf := if_t c_29 hf
          refine lv_iload_n hx hb dX5_placeOfLeast_32 rfl (lv_at hl 2 rfl) ?_
          refine lv_iconst (v := 1) hx hb dX5_placeOfLeast_33 (by decide) ?_
          refine lv_iadd hx hb dX5_placeOfLeast_34 ?_
          refine lv_topi (fun v4_8 e_v4_8 => ?_)
          replace hf := bnd_at e_v4_8 hf
          refine lv_istore (lv' := [(4, .int v4_8), (3, .int a1), (0, .ref h0), (1, .int a1), (2, .int a2)]) hx hb dX5_placeOfLeast_35 hl (by decide) rfl (fun ls hl => ?_)
          obtain ⟨o_37, hi_37, hk_37⟩ := bind_some hf
          have hL_37 : ∀ (n : Nat) (j3_9 : Int32) (j4_10 : Int32) (H : Heap) (locs : List Loc) (ls : Array Slot), iter (fun st => m_Lows_placeOfLeast_B37 a2 h0_lastOfEquals h0_value_n h0_value_f st.1 st.2) n (j3_9, j4_10) = some o_37 → va_P (dC, dI) vwCl [(h0, .inr (4, [.int h0_lastOfEquals, .ref h0_value, .ref h0_leastOnward, .ref h0_leastSoFar, .int h0_last])), (h0_value, .inl (cI, h0_value_n, .inl h0_value_f)), (h0_leastOnward, .inl (cI, h0_leastOnward_n, .inl h0_leastOnward_f)), (h0_leastSoFar, .inl (cI, h0_leastSoFar_n, .inl h0_leastSoFar_f))] H → va_D A [(h0, .inr (4, [.int h0_lastOfEquals, .ref h0_value, .ref h0_leastOnward, .ref h0_leastSoFar, .int h0_last])), (h0_value, .inl (cI, h0_value_n, .inl h0_value_f)), (h0_leastOnward, .inl (cI, h0_leastOnward_n, .inl h0_leastOnward_f)), (h0_leastSoFar, .inl (cI, h0_leastSoFar_n, .inl h0_leastSoFar_f))] → va_S A s.heap H locs → lv_has ls 5 [(0, .ref h0), (2, .int a2), (3, .int j3_9), (4, .int j4_10)] → W p l e (rm_Lows_placeOfLeast) s m ([.ref h0, .int a1, .int a2] : List Value).toArray below meth c H locs 0 0 Q (F0 m 37 ls []) := by
            intro n
            induction n with
            | zero => intro j3_9 j4_10 H locs ls hf; exact absurd hf (fun z => by cases z)
            | succ n ih_37 =>
              intro j3_9 j4_10 H locs ls hf hP hD hS hl
              obtain ⟨r_37, hf, hr_37⟩ := iter_succ hf
              have hf : m_Lows_placeOfLeast_B37 a2 h0_lastOfEquals h0_value_n h0_value_f j3_9 j4_10 = some r_37 := hf
              unfold m_Lows_placeOfLeast_B37 at hf
              refine lv_iload hx hb dX5_placeOfLeast_37 (lv_at hl 3 rfl) ?_
              refine lv_iload_n hx hb dX5_placeOfLeast_39 rfl (lv_at hl 1 rfl) ?_
              refine lv_icmp_gt (tgt := 57) hx hb dX5_placeOfLeast_40 (by decide) (fun c_40 => ?_) (fun c_40 => ?_)
              · replace hf := if_t c_40 hf
                refine lv_iload_n hx hb dX5_placeOfLeast_57 rfl (lv_at hl 2 rfl) ?_
                replace hf : some j3_9 = some o_r := by have hq := hk_37; rw [iter_exit hf hr_37] at hq; exact hq
                obtain rfl := Option.some.inj hf
                exact rt_i hQ hx hb hr hlocks hP hD hS dX5_placeOfLeast_58
              · replace hf := if_f c_40 hf
                refine lv_aload_n hx hb dX5_placeOfLeast_43 rfl (lv_at hl 0 rfl) ?_
                refine lv_iload_n hx hb dX5_placeOfLeast_44 rfl (lv_at hl 2 rfl) ?_
                refine lv_iload hx hb dX5_placeOfLeast_45 (lv_at hl 3 rfl) ?_
                obtain ⟨r11, hc, hf⟩ := bind_some hf
                refine nx_i (rn_V (As := [.int j3_9, .int j4_10]) (rest := []) (n := 2) (ci := 4) (q0 := 0) ⟨hx, hb, hml, hown, hts⟩ (c_Lows_better (l := l) (dC := dC) (dI := dI) (cB := cB) (cI := cI) (h0 := h0) (a1 := j3_9) (a2 := j4_10) (h0_value := h0_value) (h0_lastOfEquals := h0_lastOfEquals) (w_h0_leastOnward := (.ref h0_leastOnward)) (w_h0_leastSoFar := (.ref h0_leastSoFar)) (w_h0_last := (.int h0_last)) (h0_value_n := h0_value_n) (h0_value_f := h0_value_f)  (o_r := r11) hc) (wV kw_589 kw_591 kw_5 kw_91 kw_592) (by decide +kernel) ⟨Nat.le_of_ble_eq_true rfl, Nat.le_of_ble_eq_true rfl⟩ hK hP hD hN hT hS (va_free (wc := [(h0, .inr (4, [.int h0_lastOfEquals, .ref h0_value, .ref h0_leastOnward, .ref h0_leastSoFar, .int h0_last])), (h0_value, .inl (cI, h0_value_n, .inl h0_value_f))]) hD hS hA [0, 1] rfl) [0, 1] rfl (by decide) rfl rfl rfl hl.1 rfl (lv_room (Nat.le_of_ble_eq_true rfl)) dX5_placeOfLeast_47 ⟨Nat.le_of_ble_eq_true rfl, Nat.le_of_ble_eq_true rfl⟩) hP hD hS hA (wr := [(h0_leastOnward, .inl (cI, h0_leastOnward_n, .inl h0_leastOnward_f)), (h0_leastSoFar, .inl (cI, h0_leastSoFar_n, .inl h0_leastSoFar_f))]) (w1 := [(h0, .inr (4, [.int h0_lastOfEquals, .ref h0_value, .ref h0_leastOnward, .ref h0_leastSoFar, .int h0_last])), (h0_value, .inl (cI, h0_value_n, .inl h0_value_f))]) (ws' := [(h0, .inr (4, [.int h0_lastOfEquals, .ref h0_value, .ref h0_leastOnward, .ref h0_leastSoFar, .int h0_last])), (h0_value, .inl (cI, h0_value_n, .inl h0_value_f)), (h0_leastOnward, .inl (cI, h0_leastOnward_n, .inl h0_leastOnward_f)), (h0_leastSoFar, .inl (cI, h0_leastSoFar_n, .inl h0_leastSoFar_f))]) [0, 1] [2, 3] [2, 3, 0, 1] rfl rfl (by decide) (by decide) rfl (by decide) (fun H locs hP hD hS => ?_)
                refine lv_istore_n (lv' := [(3, .int r11), (0, .ref h0), (2, .int a2), (4, .int j4_10)]) hx hb dX5_placeOfLeast_50 rfl hl (by decide) rfl (fun ls hl => ?_)
                obtain ⟨v4_12, e_v4_12⟩ : ∃ y : Int32, y = (j4_10 + (1 : Int32)) := ⟨_, rfl⟩
                replace hf := bnd_at e_v4_12 hf
                refine lv_iinc (v := v4_12) (lv' := [(4, .int v4_12), (3, .int r11), (0, .ref h0), (2, .int a2)]) hx hb dX5_placeOfLeast_51 hl (k := 3) rfl (by rw [e_v4_12]; rfl) (by decide) rfl (fun ls hl => ?_)
                refine lv_goto (tgt := 37) hx hb dX5_placeOfLeast_54 (by decide) ?_
                exact ih_37 r11 v4_12 _ _ _ (iter_back hf hr_37) hP hD hS (lv_sub hl [2, 3, 1, 0] rfl)
          exact hL_37 FU a1 v4_8 _ _ _ hi_37 hP hD hS (lv_sub hl [2, 4, 1, 0] rfl)
      · replace hf := if_f c_14 hf
        refine lv_iconst (v := 0) hx hb dX5_placeOfLeast_17 (by decide) ?_
        obtain rfl := Option.some.inj hf
        exact rt_i hQ hx hb hr hlocks hP hD hS dX5_placeOfLeast_18

