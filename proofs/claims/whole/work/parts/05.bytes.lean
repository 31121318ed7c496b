theorem dX2_size_0 : decode cX2_size 0 = .ok (.aload_n 0, 1) := by decide +kernel
theorem dX2_size_1 : decode cX2_size 1 = .ok (.getfield 19, 3) := by decide +kernel
theorem dX2_size_4 : decode cX2_size 4 = .ok (.ireturn, 1) := by decide +kernel
def m_Bytes_size (h0_count : Int32) : Option (Int32) :=
  some h0_count
def rm_Bytes_size : Room := { frames := 0, cells := 0, slots := 0, locals := 0 }
set_option maxHeartbeats 4000000 in
set_option maxRecDepth 100000 in
theorem c_Bytes_size {l : Launch} {dC : Nat → ClassId} {dI : Nat → Nat → Nat} {cB cI : ClassId} {sz : Nat} {h0 : Nat} {w_h0_held : Value} {h0_count : Int32} {o_r : Int32} (hf : m_Bytes_size h0_count = some o_r) : Met l yX2_size (Cond.code yX2_size cX2_size 1 (some .int) :: lw_G) rm_Bytes_size (PreC (dC, dI) [(cB, .byte), (cI, .int)] [.ref h0] sz [(h0, .inr (2, [w_h0_held, .int h0_count]))]) (QcI o_r (dC, dI) [(h0, .inr (2, [w_h0_held, .int h0_count]))] (va_A [(h0, .inr (2, [w_h0_held, .int h0_count]))] sz)) 0 0 (va_A [(h0, .inr (2, [w_h0_held, .int h0_count]))] sz) := by
  refine met_of (Qf := fun A => QcI o_r (dC, dI) [(h0, .inr (2, [w_h0_held, .int h0_count]))] A) (by decide) (Nat.le_of_ble_eq_true rfl) ?_
  intro p e s m below meth c A ls Q hx hb hr hml hown hts hlocks hnm hP hK hD hN hT hA hl hQ
  have hS : va_S A s.heap s.heap [] := va_S.rf
  have hl : lv_has ls 1 [(0, .ref h0)] := hl
  unfold m_Bytes_size at hf
  refine lv_aload_n hx hb dX2_size_0 rfl (lv_at hl 0 rfl) ?_
  refine va_get (D := (dC, dI)) (ci := 2) (v := .int h0_count) (C := RX2) (T := TX2) (N := 2) hx hb hts inG_X2 hown hK hP 0 rfl rfl 1 (by decide) (hts _ kw_116) (fun _ h9 => h9) rfl dX2_size_1 ?_
  cases hf
  exact rt_i hQ hx hb hr hlocks hP hD hS dX2_size_4

theorem dX2_at_0 : decode cX2_at 0 = .ok (.iload_n 1, 1) := by decide +kernel
theorem dX2_at_1 : decode cX2_at 1 = .ok (.ifCond .lt 11, 3) := by decide +kernel
theorem dX2_at_4 : decode cX2_at 4 = .ok (.iload_n 1, 1) := by decide +kernel
theorem dX2_at_5 : decode cX2_at 5 = .ok (.aload_n 0, 1) := by decide +kernel
theorem dX2_at_6 : decode cX2_at 6 = .ok (.getfield 19, 3) := by decide +kernel
theorem dX2_at_9 : decode cX2_at 9 = .ok (.if_icmp .lt 7, 3) := by decide +kernel
theorem dX2_at_12 : decode cX2_at 12 = .ok (.iconst 0, 1) := by decide +kernel
theorem dX2_at_13 : decode cX2_at 13 = .ok (.goto 13, 3) := by decide +kernel
theorem dX2_at_16 : decode cX2_at 16 = .ok (.aload_n 0, 1) := by decide +kernel
theorem dX2_at_17 : decode cX2_at 17 = .ok (.getfield 13, 3) := by decide +kernel
theorem dX2_at_20 : decode cX2_at 20 = .ok (.iload_n 1, 1) := by decide +kernel
theorem dX2_at_21 : decode cX2_at 21 = .ok (.baload, 1) := by decide +kernel
theorem dX2_at_22 : decode cX2_at 22 = .ok (.sipush 255, 3) := by decide +kernel
theorem dX2_at_25 : decode cX2_at 25 = .ok (.iand, 1) := by decide +kernel
theorem dX2_at_26 : decode cX2_at 26 = .ok (.ireturn, 1) := by decide +kernel
def m_Bytes_at (a1 : Int32) (h0_count : Int32) (h0_held_n : Nat) (h0_held_f : Nat → Int32) : Option (Int32) :=
  if a1 < 0 then
    some (0 : Int32)
  else
    if a1 < h0_count then
      chk a1 h0_held_n <|
      some ((h0_held_f a1.toNatClampNeg) &&& (255 : Int32))
    else
      some (0 : Int32)
def rm_Bytes_at : Room := { frames := 0, cells := 0, slots := 0, locals := 0 }
set_option maxHeartbeats 4000000 in
set_option maxRecDepth 100000 in
theorem c_Bytes_at {l : Launch} {dC : Nat → ClassId} {dI : Nat → Nat → Nat} {cB cI : ClassId} {sz : Nat} {h0 : Nat} {a1 : Int32} {h0_held : Nat} {h0_count : Int32} {h0_held_n : Nat} {h0_held_f : Nat → Int32} {o_r : Int32} (hf : m_Bytes_at a1 h0_count h0_held_n h0_held_f = some o_r) : Met l yX2_at (Cond.code yX2_at cX2_at 2 (some .int) :: lw_G) rm_Bytes_at (PreC (dC, dI) [(cB, .byte), (cI, .int)] [.ref h0, .int a1] sz [(h0, .inr (2, [.ref h0_held, .int h0_count])), (h0_held, .inl (cB, h0_held_n, .inl h0_held_f))]) (QcI o_r (dC, dI) [(h0, .inr (2, [.ref h0_held, .int h0_count])), (h0_held, .inl (cB, h0_held_n, .inl h0_held_f))] (va_A [(h0, .inr (2, [.ref h0_held, .int h0_count])), (h0_held, .inl (cB, h0_held_n, .inl h0_held_f))] sz)) 0 0 (va_A [(h0, .inr (2, [.ref h0_held, .int h0_count])), (h0_held, .inl (cB, h0_held_n, .inl h0_held_f))] sz) := by
  refine met_of (Qf := fun A => QcI o_r (dC, dI) [(h0, .inr (2, [.ref h0_held, .int h0_count])), (h0_held, .inl (cB, h0_held_n, .inl h0_held_f))] A) (by decide) (Nat.le_of_ble_eq_true rfl) ?_
  intro p e s m below meth c A ls Q hx hb hr hml hown hts hlocks hnm hP hK hD hN hT hA hl hQ
  have hS : va_S A s.heap s.heap [] := va_S.rf
  have hl : lv_has ls 2 [(0, .ref h0), (1, .int a1)] := hl
  unfold m_Bytes_at at hf
  refine lv_iload_n hx hb dX2_at_0 rfl (lv_at hl 1 rfl) ?_
  refine lv_if_lt (tgt := 12) hx hb dX2_at_1 (by decide) (fun c_1 => ?_) (fun c_1 => ?_)
  · replace hf := if_t c_1 hf
    refine lv_iconst (v := 0) hx hb dX2_at_12 (by decide) ?_
    refine lv_goto (tgt := 26) hx hb dX2_at_13 (by decide) ?_
    cases hf
    exact rt_i hQ hx hb hr hlocks hP hD hS dX2_at_26
  · replace hf := if_f c_1 hf
    refine lv_iload_n hx hb dX2_at_4 rfl (lv_at hl 1 rfl) ?_
    refine lv_aload_n hx hb dX2_at_5 rfl (lv_at hl 0 rfl) ?_
    refine va_get (D := (dC, dI)) (ci := 2) (v := .int h0_count) (C := RX2) (T := TX2) (N := 2) hx hb hts inG_X2 hown hK hP 0 rfl rfl 1 (by decide) (hts _ kw_116) (fun _ h9 => h9) rfl dX2_at_6 ?_
    refine lv_icmp_lt (tgt := 16) hx hb dX2_at_9 (by decide) (fun c_9 => ?_) (fun c_9 => ?_)
    · replace hf := if_t c_9 hf
      refine lv_aload_n hx hb dX2_at_16 rfl (lv_at hl 0 rfl) ?_
      refine va_get (D := (dC, dI)) (ci := 2) (v := .ref h0_held) (C := RX2) (T := TX2) (N := 2) hx hb hts inG_X2 hown hK hP 0 rfl rfl 0 (by decide) (hts _ kw_115) (fun _ h9 => h9) rfl dX2_at_17 ?_
      refine lv_iload_n hx hb dX2_at_20 rfl (lv_at hl 1 rfl) ?_
      obtain ⟨hin, hf⟩ := chk_some hf
      refine va_bald hx hb hK hP 1 0 rfl rfl hin dX2_at_21 ?_
      refine lv_sipush (v := 255) hx hb dX2_at_22 (by decide) ?_
      refine lv_iand hx hb dX2_at_25 ?_
      cases hf
      exact rt_i hQ hx hb hr hlocks hP hD hS dX2_at_26
    · replace hf := if_f c_9 hf
      refine lv_iconst (v := 0) hx hb dX2_at_12 (by decide) ?_
      refine lv_goto (tgt := 26) hx hb dX2_at_13 (by decide) ?_
      cases hf
      exact rt_i hQ hx hb hr hlocks hP hD hS dX2_at_26

theorem dX2_add_0 : decode cX2_add 0 = .ok (.aload_n 0, 1) := by decide +kernel
theorem dX2_add_1 : decode cX2_add 1 = .ok (.getfield 19, 3) := by decide +kernel
theorem dX2_add_4 : decode cX2_add 4 = .ok (.aload_n 0, 1) := by decide +kernel
theorem dX2_add_5 : decode cX2_add 5 = .ok (.getfield 13, 3) := by decide +kernel
theorem dX2_add_8 : decode cX2_add 8 = .ok (.arraylength, 1) := by decide +kernel
theorem dX2_add_9 : decode cX2_add 9 = .ok (.if_icmp .ge 24, 3) := by decide +kernel
theorem dX2_add_12 : decode cX2_add 12 = .ok (.aload_n 0, 1) := by decide +kernel
theorem dX2_add_13 : decode cX2_add 13 = .ok (.getfield 13, 3) := by decide +kernel
theorem dX2_add_16 : decode cX2_add 16 = .ok (.aload_n 0, 1) := by decide +kernel
theorem dX2_add_17 : decode cX2_add 17 = .ok (.getfield 19, 3) := by decide +kernel
theorem dX2_add_20 : decode cX2_add 20 = .ok (.iload_n 1, 1) := by decide +kernel
theorem dX2_add_21 : decode cX2_add 21 = .ok (.i2b, 1) := by decide +kernel
theorem dX2_add_22 : decode cX2_add 22 = .ok (.bastore, 1) := by decide +kernel
theorem dX2_add_23 : decode cX2_add 23 = .ok (.aload_n 0, 1) := by decide +kernel
theorem dX2_add_24 : decode cX2_add 24 = .ok (.dup, 1) := by decide +kernel
theorem dX2_add_25 : decode cX2_add 25 = .ok (.getfield 19, 3) := by decide +kernel
theorem dX2_add_28 : decode cX2_add 28 = .ok (.iconst 1, 1) := by decide +kernel
theorem dX2_add_29 : decode cX2_add 29 = .ok (.iadd, 1) := by decide +kernel
theorem dX2_add_30 : decode cX2_add 30 = .ok (.putfield 19, 3) := by decide +kernel
theorem dX2_add_33 : decode cX2_add 33 = .ok (.return_, 1) := by decide +kernel
def m_Bytes_add (a1 : Int32) (h0_count : Int32) (h0_held_n : Nat) (h0_held_f : Nat → Int32) : Option (Int32 × (Nat → Int32)) :=
  if (nI h0_held_n) ≤ h0_count then
    some (h0_count, h0_held_f)
  else
    chk h0_count h0_held_n <|
    bnd (h0_count + (1 : Int32)) fun p_1 =>
    some (p_1, (upd h0_held_f h0_count.toNatClampNeg (vp_nar .byte (a1.toInt8.toInt32))))
def rm_Bytes_add : Room := { frames := 0, cells := 0, slots := 0, locals := 0 }
set_option maxHeartbeats 4000000 in
set_option maxRecDepth 100000 in
theorem c_Bytes_add {l : Launch} {dC : Nat → ClassId} {dI : Nat → Nat → Nat} {cB cI : ClassId} {sz : Nat} {h0 : Nat} {a1 : Int32} {h0_held : Nat} {h0_count : Int32} {h0_held_n : Nat} {h0_held_f : Nat → Int32} {o_h0_count : Int32} {o_h0_held_f : Nat → Int32} (hf : m_Bytes_add a1 h0_count h0_held_n h0_held_f = some (o_h0_count, o_h0_held_f)) : Met l yX2_add (Cond.code yX2_add cX2_add 2 none :: lw_G) rm_Bytes_add (PreC (dC, dI) [(cB, .byte), (cI, .int)] [.ref h0, .int a1] sz [(h0, .inr (2, [.ref h0_held, .int h0_count])), (h0_held, .inl (cB, h0_held_n, .inl h0_held_f))]) (QcV (dC, dI) [(h0, .inr (2, [.ref h0_held, .int o_h0_count])), (h0_held, .inl (cB, h0_held_n, .inl o_h0_held_f))] (va_A [(h0, .inr (2, [.ref h0_held, .int h0_count])), (h0_held, .inl (cB, h0_held_n, .inl h0_held_f))] sz)) 0 0 (va_A [(h0, .inr (2, [.ref h0_held, .int h0_count])), (h0_held, .inl (cB, h0_held_n, .inl h0_held_f))] sz) := by
  refine met_of (Qf := fun A => QcV (dC, dI) [(h0, .inr (2, [.ref h0_held, .int o_h0_count])), (h0_held, .inl (cB, h0_held_n, .inl o_h0_held_f))] A) (by decide) (Nat.le_of_ble_eq_true rfl) ?_
  intro p e s m below meth c A ls Q hx hb hr hml hown hts hlocks hnm hP hK hD hN hT hA hl hQ
  have hS : va_S A s.heap s.heap [] := va_S.rf
  have hl : lv_has ls 2 [(0, .ref h0), (1, .int a1)] := hl
  unfold m_Bytes_add at hf
  refine lv_aload_n hx hb dX2_add_0 rfl (lv_at hl 0 rfl) ?_
  refine va_get (D := (dC, dI)) (ci := 2) (v := .int h0_count) (C := RX2) (T := TX2) (N := 2) hx hb hts inG_X2 hown hK hP 0 rfl rfl 1 (by decide) (hts _ kw_116) (fun _ h9 => h9) rfl dX2_add_1 ?_
  refine lv_aload_n hx hb dX2_add_4 rfl (lv_at hl 0 rfl) ?_
  refine va_get (D := (dC, dI)) (ci := 2) (v := .ref h0_held) (C := RX2) (T := TX2) (N := 2) hx hb hts inG_X2 hown hK hP 0 rfl rfl 0 (by decide) (hts _ kw_115) (fun _ h9 => h9) rfl dX2_add_5 ?_
  refine va_alen (v := nI h0_held_n) hx hb hK hP 1 0 rfl rfl rfl dX2_add_8 ?_
  refine lv_icmp_ge (tgt := 33) hx hb dX2_add_9 (by decide) (fun c_9 => ?_) (fun c_9 => ?_)
  · replace hf := if_t c_9 hf
    cases hf
    exact rt_v hQ hx hb hr hlocks hP hD hS dX2_add_33
  · replace hf := if_f c_9 hf
    refine lv_aload_n hx hb dX2_add_12 rfl (lv_at hl 0 rfl) ?_
    refine va_get (D := (dC, dI)) (ci := 2) (v := .ref h0_held) (C := RX2) (T := TX2) (N := 2) hx hb hts inG_X2 hown hK hP 0 rfl rfl 0 (by decide) (hts _ kw_115) (fun _ h9 => h9) rfl dX2_add_13 ?_
    refine lv_aload_n hx hb dX2_add_16 rfl (lv_at hl 0 rfl) ?_
    refine va_get (D := (dC, dI)) (ci := 2) (v := .int h0_count) (C := RX2) (T := TX2) (N := 2) hx hb hts inG_X2 hown hK hP 0 rfl rfl 1 (by decide) (hts _ kw_116) (fun _ h9 => h9) rfl dX2_add_17 ?_
    refine lv_iload_n hx hb dX2_add_20 rfl (lv_at hl 1 rfl) ?_
    refine lv_i2b (v := (a1.toInt8.toInt32)) hx hb dX2_add_21 rfl ?_
    obtain ⟨hin, hf⟩ := chk_some hf
    refine va_bast hx hb hK hP hD hS 1 0 rfl rfl hin dX2_add_22 (fun H locs hP hD hS => ?_)
    have hP : va_P (dC, dI) vwCl [(h0, .inr (2, [.ref h0_held, .int h0_count])), (h0_held, .inl (cB, h0_held_n, .inl (upd h0_held_f h0_count.toNatClampNeg (vp_nar .byte (a1.toInt8.toInt32)))))] H := hP
    have hD : va_D A [(h0, .inr (2, [.ref h0_held, .int h0_count])), (h0_held, .inl (cB, h0_held_n, .inl (upd h0_held_f h0_count.toNatClampNeg (vp_nar .byte (a1.toInt8.toInt32)))))] := hD
    refine lv_aload_n hx hb dX2_add_23 rfl (lv_at hl 0 rfl) ?_
    refine lv_dup hx hb dX2_add_24 rfl ?_
    refine va_get (D := (dC, dI)) (ci := 2) (v := .int h0_count) (C := RX2) (T := TX2) (N := 2) hx hb hts inG_X2 hown hK hP 0 rfl rfl 1 (by decide) (hts _ kw_116) (fun _ h9 => h9) rfl dX2_add_25 ?_
    refine lv_iconst (v := 1) hx hb dX2_add_28 (by decide) ?_
    refine lv_iadd hx hb dX2_add_29 ?_
    refine lv_topi (fun p_1 e_p_1 => ?_)
    replace hf := bnd_at e_p_1 hf
    refine va_put (D := (dC, dI)) (ci := 2) (v := .int p_1) (ty := .int) (C := RX2) (T := TX2) (N := 2) hx hb hts inG_X2 tyX2 tyX2_ok nmX2 hown hK hP hD hS 0 rfl rfl 1 (by decide) (hts _ kw_116) (fun _ h9 => h9) rfl (by decide +kernel) rfl rfl (Nat.le_of_ble_eq_true rfl) dX2_add_30 (fun H locs hP hD hS => ?_)
    have hP : va_P (dC, dI) vwCl [(h0, .inr (2, [.ref h0_held, .int p_1])), (h0_held, .inl (cB, h0_held_n, .inl (upd h0_held_f h0_count.toNatClampNeg (vp_nar .byte (a1.toInt8.toInt32)))))] H := hP
    have hD : va_D A [(h0, .inr (2, [.ref h0_held, .int p_1])), (h0_held, .inl (cB, h0_held_n, .inl (upd h0_held_f h0_count.toNatClampNeg (vp_nar .byte (a1.toInt8.toInt32)))))] := hD
    cases hf
    exact rt_v hQ hx hb hr hlocks hP hD hS dX2_add_33

