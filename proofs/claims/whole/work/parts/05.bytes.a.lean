theorem dX2_size_0 : decode cX2_size 0 = .ok (.aload_n 0, 1) := by decide +kernel
theorem dX2_size_1 : decode cX2_size 1 = .ok (.getfield 19, 3) := by decide +kernel
theorem dX2_size_4 : decode cX2_size 4 = .ok (.ireturn, 1) := by decide +kernel
def m_Bytes_size (h0_count : Int32) : Option (Int32) :=
  some h0_count
def rm_Bytes_size : Room := { frames := 0, cells := 0, slots := 0, locals := 0 }
set_option maxHeartbeats 4000000 in
set_option maxRecDepth 100000 in
theorem c_Bytes_size {l : Launch} {dC : Nat → ClassId} {dI : Nat → Nat → Nat} {cB cI : ClassId} {sz : Nat} {h0 : Nat} {w_h0_held : Value} {h0_count : Int32} {o_r : Int32} (hf : m_Bytes_size h0_count = some o_r) : Met l yX2_size (Cond.code yX2_size cX2_size 1 (some .int) :: lw_G) rm_Bytes_size (PreC (dC, dI) [(cB, .byte), (cI, .int)] [.ref h0] sz [(h0, .inr (2, [w_h0_held, .int h0_count]))]) (QcI o_r (dC, dI) [(h0, .inr (2, [w_h0_held, .int h0_count]))] (va_A [(h0, .inr (2, [w_h0_held, .int h0_count]))] sz)) 0 0 (va_A [(h0, .inr (2, [w_h0_held, .int h0_count]))] sz) := by
  refine met_of (Qf := fun A => QcI o_r (dC, dI) [(h0, .inr (2, [w_h0_held, .int h0_count]))] A) (by decide) (Nat.le_of_ble_eq_true rfl) ?_
  intro p e s m below meth c A ls Q hx hb hr hml hown hts hlocks hnm hP hK hD hN hT hA hl hQ
  have hown : s.vm.findClass RX2 = some m.cls := hown
  have hS : va_S A s.heap s.heap [] := va_S.rf
  have hl : lv_has ls 1 [(0, .ref h0)] := hl
  unfold m_Bytes_size at hf
  refine lv_aload_n hx hb dX2_size_0 rfl (lv_at hl 0 rfl) ?_
  refine va_get (D := (dC, dI)) (ci := 2) (v := .int h0_count) (C := RX2) (T := TX2) (N := 2) hx hb hts inG_X2 hown hK hP 0 rfl rfl 1 (by decide) (hts _ kw_116) (fun _ h9 => h9) rfl dX2_size_1 ?_
  obtain rfl := Option.some.inj hf
  exact rt_i hQ hx hb hr hlocks hP hD hS dX2_size_4

theorem dX2_room_0 : decode cX2_room 0 = .ok (.aload_n 0, 1) := by decide +kernel
theorem dX2_room_1 : decode cX2_room 1 = .ok (.getfield 13, 3) := by decide +kernel
theorem dX2_room_4 : decode cX2_room 4 = .ok (.arraylength, 1) := by decide +kernel
theorem dX2_room_5 : decode cX2_room 5 = .ok (.aload_n 0, 1) := by decide +kernel
theorem dX2_room_6 : decode cX2_room 6 = .ok (.getfield 19, 3) := by decide +kernel
theorem dX2_room_9 : decode cX2_room 9 = .ok (.isub, 1) := by decide +kernel
theorem dX2_room_10 : decode cX2_room 10 = .ok (.ireturn, 1) := by decide +kernel
def m_Bytes_room (h0_count : Int32) (h0_held_n : Nat) : Option (Int32) :=
  some ((nI h0_held_n) - h0_count)
def rm_Bytes_room : Room := { frames := 0, cells := 0, slots := 0, locals := 0 }
set_option maxHeartbeats 4000000 in
set_option maxRecDepth 100000 in
theorem c_Bytes_room {l : Launch} {dC : Nat → ClassId} {dI : Nat → Nat → Nat} {cB cI : ClassId} {sz : Nat} {h0 : Nat} {h0_held : Nat} {h0_count : Int32} {h0_held_n : Nat} {h0_held_f : Nat → Int32} {o_r : Int32} (hf : m_Bytes_room h0_count h0_held_n = some o_r) : Met l yX2_room (Cond.code yX2_room cX2_room 1 (some .int) :: lw_G) rm_Bytes_room (PreC (dC, dI) [(cB, .byte), (cI, .int)] [.ref h0] sz [(h0, .inr (2, [.ref h0_held, .int h0_count])), (h0_held, .inl (cB, h0_held_n, .inl h0_held_f))]) (QcI o_r (dC, dI) [(h0, .inr (2, [.ref h0_held, .int h0_count])), (h0_held, .inl (cB, h0_held_n, .inl h0_held_f))] (va_A [(h0, .inr (2, [.ref h0_held, .int h0_count])), (h0_held, .inl (cB, h0_held_n, .inl h0_held_f))] sz)) 0 0 (va_A [(h0, .inr (2, [.ref h0_held, .int h0_count])), (h0_held, .inl (cB, h0_held_n, .inl h0_held_f))] sz) := by
  refine met_of (Qf := fun A => QcI o_r (dC, dI) [(h0, .inr (2, [.ref h0_held, .int h0_count])), (h0_held, .inl (cB, h0_held_n, .inl h0_held_f))] A) (by decide) (Nat.le_of_ble_eq_true rfl) ?_
  intro p e s m below meth c A ls Q hx hb hr hml hown hts hlocks hnm hP hK hD hN hT hA hl hQ
  have hown : s.vm.findClass RX2 = some m.cls := hown
  have hS : va_S A s.heap s.heap [] := va_S.rf
  have hl : lv_has ls 1 [(0, .ref h0)] := hl
  unfold m_Bytes_room at hf
  refine lv_aload_n hx hb dX2_room_0 rfl (lv_at hl 0 rfl) ?_
  refine va_get (D := (dC, dI)) (ci := 2) (v := .ref h0_held) (C := RX2) (T := TX2) (N := 2) hx hb hts inG_X2 hown hK hP 0 rfl rfl 0 (by decide) (hts _ kw_115) (fun _ h9 => h9) rfl dX2_room_1 ?_
  refine va_alen (v := nI h0_held_n) hx hb hK hP 1 0 rfl rfl rfl dX2_room_4 ?_
  refine lv_aload_n hx hb dX2_room_5 rfl (lv_at hl 0 rfl) ?_
  refine va_get (D := (dC, dI)) (ci := 2) (v := .int h0_count) (C := RX2) (T := TX2) (N := 2) hx hb hts inG_X2 hown hK hP 0 rfl rfl 1 (by decide) (hts _ kw_116) (fun _ h9 => h9) rfl dX2_room_6 ?_
  refine lv_isub hx hb dX2_room_9 ?_
  obtain rfl := Option.some.inj hf
  exact rt_i hQ hx hb hr hlocks hP hD hS dX2_room_10

theorem dX2_at_0 : decode cX2_at 0 = .ok (.iload_n 1, 1) := by decide +kernel
theorem dX2_at_1 : decode cX2_at 1 = .ok (.ifCond .lt 11, 3) := by decide +kernel
theorem dX2_at_4 : decode cX2_at 4 = .ok (.iload_n 1, 1) := by decide +kernel
theorem dX2_at_5 : decode cX2_at 5 = .ok (.aload_n 0, 1) := by decide +kernel
theorem dX2_at_6 : decode cX2_at 6 = .ok (.getfield 19, 3) := by decide +kernel
theorem dX2_at_9 : decode cX2_at 9 = .ok (.if_icmp .lt 7, 3) := by decide +kernel
theorem dX2_at_12 : decode cX2_at 12 = .ok (.iconst 0, 1) := by decide +kernel
theorem dX2_at_13 : decode cX2_at 13 = .ok (.goto 13, 3) := by decide +kernel
theorem dX2_at_16 : decode cX2_at 16 = .ok (.aload_n 0, 1) := by decide +kernel
theorem dX2_at_17 : decode cX2_at 17 = .ok (.getfield 13, 3) := by decide +kernel
theorem dX2_at_20 : decode cX2_at 20 = .ok (.iload_n 1, 1) := by decide +kernel
theorem dX2_at_21 : decode cX2_at 21 = .ok (.baload, 1) := by decide +kernel
theorem dX2_at_22 : decode cX2_at 22 = .ok (.sipush 255, 3) := by decide +kernel
theorem dX2_at_25 : decode cX2_at 25 = .ok (.iand, 1) := by decide +kernel
theorem dX2_at_26 : decode cX2_at 26 = .ok (.ireturn, 1) := by decide +kernel
def m_Bytes_at (a1 : Int32) (h0_count : Int32) (h0_held_n : Nat) (h0_held_f : Nat → Int32) : Option (Int32) :=
  if a1 < 0 then
    some (0 : Int32)
  else
    if a1 < h0_count then
      chk a1 h0_held_n <|
      some ((h0_held_f a1.toNatClampNeg) &&& (255 : Int32))
    else
      some (0 : Int32)
def rm_Bytes_at : Room := { frames := 0, cells := 0, slots := 0, locals := 0 }
set_option maxHeartbeats 4000000 in
set_option maxRecDepth 100000 in
theorem c_Bytes_at {l : Launch} {dC : Nat → ClassId} {dI : Nat → Nat → Nat} {cB cI : ClassId} {sz : Nat} {h0 : Nat} {a1 : Int32} {h0_held : Nat} {h0_count : Int32} {h0_held_n : Nat} {h0_held_f : Nat → Int32} {o_r : Int32} (hf : m_Bytes_at a1 h0_count h0_held_n h0_held_f = some o_r) : Met l yX2_at (Cond.code yX2_at cX2_at 2 (some .int) :: lw_G) rm_Bytes_at (PreC (dC, dI) [(cB, .byte), (cI, .int)] [.ref h0, .int a1] sz [(h0, .inr (2, [.ref h0_held, .int h0_count])), (h0_held, .inl (cB, h0_held_n, .inl h0_held_f))]) (QcI o_r (dC, dI) [(h0, .inr (2, [.ref h0_held, .int h0_count])), (h0_held, .inl (cB, h0_held_n, .inl h0_held_f))] (va_A [(h0, .inr (2, [.ref h0_held, .int h0_count])), (h0_held, .inl (cB, h0_held_n, .inl h0_held_f))] sz)) 0 0 (va_A [(h0, .inr (2, [.ref h0_held, .int h0_count])), (h0_held, .inl (cB, h0_held_n, .inl h0_held_f))] sz) := by
  refine met_of (Qf := fun A => QcI o_r (dC, dI) [(h0, .inr (2, [.ref h0_held, .int h0_count])), (h0_held, .inl (cB, h0_held_n, .inl h0_held_f))] A) (by decide) (Nat.le_of_ble_eq_true rfl) ?_
  intro p e s m below meth c A ls Q hx hb hr hml hown hts hlocks hnm hP hK hD hN hT hA hl hQ
  have hown : s.vm.findClass RX2 = some m.cls := hown
  have hS : va_S A s.heap s.heap [] := va_S.rf
  have hl : lv_has ls 2 [(0, .ref h0), (1, .int a1)] := hl
  unfold m_Bytes_at at hf
  refine lv_iload_n hx hb dX2_at_0 rfl (lv_at hl 1 rfl) ?_
  refine lv_if_lt (tgt := 12) hx hb dX2_at_1 (by decide) (fun c_1 => ?_) (fun c_1 => ?_)
  · replace hf := if_t c_1 hf
    refine lv_iconst (v := 0) hx hb dX2_at_12 (by decide) ?_
    refine lv_goto (tgt := 26) hx hb dX2_at_13 (by decide) ?_
    obtain rfl := Option.some.inj hf
    exact rt_i hQ hx hb hr hlocks hP hD hS dX2_at_26
  · replace hf := if_f c_1 hf
    refine lv_iload_n hx hb dX2_at_4 rfl (lv_at hl 1 rfl) ?_
    refine lv_aload_n hx hb dX2_at_5 rfl (lv_at hl 0 rfl) ?_
    refine va_get (D := (dC, dI)) (ci := 2) (v := .int h0_count) (C := RX2) (T := TX2) (N := 2) hx hb hts inG_X2 hown hK hP 0 rfl rfl 1 (by decide) (hts _ kw_116) (fun _ h9 => h9) rfl dX2_at_6 ?_
    refine lv_icmp_lt (tgt := 16) hx hb dX2_at_9 (by decide) (fun c_9 => ?_) (fun c_9 => ?_)
    · replace hf := if_t c_9 hf
      refine lv_aload_n hx hb dX2_at_16 rfl (lv_at hl 0 rfl) ?_
      refine va_get (D := (dC, dI)) (ci := 2) (v := .ref h0_held) (C := RX2) (T := TX2) (N := 2) hx hb hts inG_X2 hown hK hP 0 rfl rfl 0 (by decide) (hts _ kw_115) (fun _ h9 => h9) rfl dX2_at_17 ?_
      refine lv_iload_n hx hb dX2_at_20 rfl (lv_at hl 1 rfl) ?_
      obtain ⟨hin, hf⟩ := chk_some hf
      refine va_bald hx hb hK hP 1 0 rfl rfl hin dX2_at_21 ?_
      refine lv_sipush (v := 255) hx hb dX2_at_22 (by decide) ?_
      refine lv_iand hx hb dX2_at_25 ?_
      obtain rfl := Option.some.inj hf
      exact rt_i hQ hx hb hr hlocks hP hD hS dX2_at_26
    · replace hf := if_f c_9 hf
      refine lv_iconst (v := 0) hx hb dX2_at_12 (by decide) ?_
      refine lv_goto (tgt := 26) hx hb dX2_at_13 (by decide) ?_
      obtain rfl := Option.some.inj hf
      exact rt_i hQ hx hb hr hlocks hP hD hS dX2_at_26

theorem dX2_number_0 : decode cX2_number 0 = .ok (.lconst 0, 1) := by decide +kernel
theorem dX2_number_1 : decode cX2_number 1 = .ok (.lstore_n 3, 1) := by decide +kernel
theorem dX2_number_2 : decode cX2_number 2 = .ok (.iconst 0, 1) := by decide +kernel
theorem dX2_number_3 : decode cX2_number 3 = .ok (.istore 5, 2) := by decide +kernel
theorem dX2_number_5 : decode cX2_number 5 = .ok (.iload 5, 2) := by decide +kernel
theorem dX2_number_7 : decode cX2_number 7 = .ok (.iload_n 2, 1) := by decide +kernel
theorem dX2_number_8 : decode cX2_number 8 = .ok (.if_icmp .ge 27, 3) := by decide +kernel
theorem dX2_number_11 : decode cX2_number 11 = .ok (.lload_n 3, 1) := by decide +kernel
theorem dX2_number_12 : decode cX2_number 12 = .ok (.aload_n 0, 1) := by decide +kernel
theorem dX2_number_13 : decode cX2_number 13 = .ok (.iload_n 1, 1) := by decide +kernel
theorem dX2_number_14 : decode cX2_number 14 = .ok (.iload 5, 2) := by decide +kernel
theorem dX2_number_16 : decode cX2_number 16 = .ok (.iadd, 1) := by decide +kernel
theorem dX2_number_17 : decode cX2_number 17 = .ok (.invokevirtual 23, 3) := by decide +kernel
theorem dX2_number_20 : decode cX2_number 20 = .ok (.i2l, 1) := by decide +kernel
theorem dX2_number_21 : decode cX2_number 21 = .ok (.bipush 8, 2) := by decide +kernel
theorem dX2_number_23 : decode cX2_number 23 = .ok (.iload 5, 2) := by decide +kernel
theorem dX2_number_25 : decode cX2_number 25 = .ok (.imul, 1) := by decide +kernel
theorem dX2_number_26 : decode cX2_number 26 = .ok (.lshl, 1) := by decide +kernel
theorem dX2_number_27 : decode cX2_number 27 = .ok (.lor, 1) := by decide +kernel
theorem dX2_number_28 : decode cX2_number 28 = .ok (.lstore_n 3, 1) := by decide +kernel
theorem dX2_number_29 : decode cX2_number 29 = .ok (.iinc 5 1, 3) := by decide +kernel
theorem dX2_number_32 : decode cX2_number 32 = .ok (.goto (-27), 3) := by decide +kernel
theorem dX2_number_35 : decode cX2_number 35 = .ok (.lload_n 3, 1) := by decide +kernel
theorem dX2_number_36 : decode cX2_number 36 = .ok (.lreturn, 1) := by decide +kernel
def m_Bytes_number_B5 (a1 : Int32) (a2 : Int32) (h0_count : Int32) (h0_held_n : Nat) (h0_held_f : Nat → Int32) (j3_1 : Int64) (j5_2 : Int32) : Option ((Int64 × Int32) ⊕ ((((Int64))))) :=
  if a2 ≤ j5_2 then
    some (.inr j3_1)
  else
    (m_Bytes_at (a1 + j5_2) h0_count h0_held_n h0_held_f).bind fun r3 =>
    bnd (j3_1 ||| (lshl (r3.toInt64) ((8 : Int32) * j5_2))) fun v3_4 =>
    bnd (j5_2 + (1 : Int32)) fun v5_5 =>
    some (.inl (v3_4, v5_5))
def m_Bytes_number (a1 : Int32) (a2 : Int32) (h0_count : Int32) (h0_held_n : Nat) (h0_held_f : Nat → Int32) : Option (Int64) :=
  (iter (fun st => m_Bytes_number_B5 a1 a2 h0_count h0_held_n h0_held_f st.1 st.2) FU ((0 : Int64), (0 : Int32))).bind fun o => some o
def rm_Bytes_number : Room := { frames := 1, cells := 0, slots := 0, locals := 21 }
set_option maxHeartbeats 4000000 in
set_option maxRecDepth 100000 in
theorem c_Bytes_number {l : Launch} {dC : Nat → ClassId} {dI : Nat → Nat → Nat} {cB cI : ClassId} {sz : Nat} {h0 : Nat} {a1 : Int32} {a2 : Int32} {h0_held : Nat} {h0_count : Int32} {h0_held_n : Nat} {h0_held_f : Nat → Int32} {o_r : Int64} (hf : m_Bytes_number a1 a2 h0_count h0_held_n h0_held_f = some o_r) : Met l yX2_number (Cond.code yX2_number cX2_number 6 (some .long) :: lw_G) rm_Bytes_number (PreC (dC, dI) [(cB, .byte), (cI, .int)] [.ref h0, .int a1, .int a2] sz [(h0, .inr (2, [.ref h0_held, .int h0_count])), (h0_held, .inl (cB, h0_held_n, .inl h0_held_f))]) (QcL o_r (dC, dI) [(h0, .inr (2, [.ref h0_held, .int h0_count])), (h0_held, .inl (cB, h0_held_n, .inl h0_held_f))] (va_A [(h0, .inr (2, [.ref h0_held, .int h0_count])), (h0_held, .inl (cB, h0_held_n, .inl h0_held_f))] sz)) 0 0 (va_A [(h0, .inr (2, [.ref h0_held, .int h0_count])), (h0_held, .inl (cB, h0_held_n, .inl h0_held_f))] sz) := by
  refine met_of (Qf := fun A => QcL o_r (dC, dI) [(h0, .inr (2, [.ref h0_held, .int h0_count])), (h0_held, .inl (cB, h0_held_n, .inl h0_held_f))] A) (by decide) (Nat.le_of_ble_eq_true rfl) ?_
  intro p e s m below meth c A ls Q hx hb hr hml hown hts hlocks hnm hP hK hD hN hT hA hl hQ
  have hown : s.vm.findClass RX2 = some m.cls := hown
  have hS : va_S A s.heap s.heap [] := va_S.rf
  have hl : lv_has ls 6 [(0, .ref h0), (1, .int a1), (2, .int a2)] := hl
  unfold m_Bytes_number at hf
  refine lv_lconst (v := 0) hx hb dX2_number_0 (by decide) ?_
  refine lv_lstore_n (lv' := [(3, .long (0 : Int64)), (0, .ref h0), (1, .int a1), (2, .int a2)]) hx hb dX2_number_1 rfl hl (by decide) rfl (fun ls hl => ?_)
  refine lv_iconst (v := 0) hx hb dX2_number_2 (by decide) ?_
  refine lv_istore (lv' := [(5, .int (0 : Int32)), (3, .long (0 : Int64)), (0, .ref h0), (1, .int a1), (2, .int a2)]) hx hb dX2_number_3 hl (by decide) rfl (fun ls hl => ?_)
  obtain ⟨o_5, hi_5, hk_5⟩ := bind_some hf
  have hL_5 : ∀ (n : Nat) (j3_1 : Int64) (j5_2 : Int32) (H : Heap) (locs : List Loc) (ls : Array Slot), iter (fun st => m_Bytes_number_B5 a1 a2 h0_count h0_held_n h0_held_f st.1 st.2) n (j3_1, j5_2) = some o_5 → va_P (dC, dI) vwCl [(h0, .inr (2, [.ref h0_held, .int h0_count])), (h0_held, .inl (cB, h0_held_n, .inl h0_held_f))] H → va_D A [(h0, .inr (2, [.ref h0_held, .int h0_count])), (h0_held, .inl (cB, h0_held_n, .inl h0_held_f))] → va_S A s.heap H locs → lv_has ls 6 [(0, .ref h0), (1, .int a1), (2, .int a2), (3, .long j3_1), (5, .int j5_2)] → W p l e (rm_Bytes_number) s m ([.ref h0, .int a1, .int a2] : List Value).toArray below meth c H locs 0 0 Q (F0 m 5 ls []) := by
    intro n
    induction n with
    | zero => intro j3_1 j5_2 H locs ls hf; exact absurd hf (fun z => by cases z)
    | succ n ih_5 =>
      intro j3_1 j5_2 H locs ls hf hP hD hS hl
      obtain ⟨r_5, hf, hr_5⟩ := iter_succ hf
      have hf : m_Bytes_number_B5 a1 a2 h0_count h0_held_n h0_held_f j3_1 j5_2 = some r_5 := hf
      unfold m_Bytes_number_B5 at hf
      refine lv_iload hx hb dX2_number_5 (lv_at hl 4 rfl) ?_
      refine lv_iload_n hx hb dX2_number_7 rfl (lv_at hl 2 rfl) ?_
      refine lv_icmp_ge (tgt := 35) hx hb dX2_number_8 (by decide) (fun c_8 => ?_) (fun c_8 => ?_)
      · replace hf := if_t c_8 hf
        refine lv_lload_n hx hb dX2_number_35 rfl (lv_at hl 3 rfl) ?_
        replace hf : some j3_1 = some o_r := by have hq := hk_5; rw [iter_exit hf hr_5] at hq; exact hq
        obtain rfl := Option.some.inj hf
        exact rt_l hQ hx hb hr hlocks hP hD hS dX2_number_36
      · replace hf := if_f c_8 hf
        refine lv_lload_n hx hb dX2_number_11 rfl (lv_at hl 3 rfl) ?_
        refine lv_aload_n hx hb dX2_number_12 rfl (lv_at hl 0 rfl) ?_
        refine lv_iload_n hx hb dX2_number_13 rfl (lv_at hl 1 rfl) ?_
        refine lv_iload hx hb dX2_number_14 (lv_at hl 4 rfl) ?_
        refine lv_iadd hx hb dX2_number_16 ?_
        obtain ⟨r3, hc, hf⟩ := bind_some hf
        refine nx_i (rn_V (As := [.int (a1 + j5_2)]) (rest := [.long j3_1]) (n := 1) (ci := 2) (q0 := 0) ⟨hx, hb, hml, hown, hts⟩ (c_Bytes_at (l := l) (dC := dC) (dI := dI) (cB := cB) (cI := cI) (h0 := h0) (a1 := (a1 + j5_2)) (h0_held := h0_held) (h0_count := h0_count) (h0_held_n := h0_held_n) (h0_held_f := h0_held_f)  (o_r := r3) hc) (wV kw_893 kw_418 kw_419 kw_83 kw_420) (by decide +kernel) ⟨Nat.le_of_ble_eq_true rfl, Nat.le_of_ble_eq_true rfl⟩ hK hP hD hN hT hS (va_free (wc := [(h0, .inr (2, [.ref h0_held, .int h0_count])), (h0_held, .inl (cB, h0_held_n, .inl h0_held_f))]) hD hS hA [0, 1] rfl) [0, 1] rfl (by decide) rfl rfl rfl hl.1 rfl (lv_room (Nat.le_of_ble_eq_true rfl)) dX2_number_17 ⟨Nat.le_of_ble_eq_true rfl, Nat.le_of_ble_eq_true rfl⟩) hP hD hS hA (wr := []) (w1 := [(h0, .inr (2, [.ref h0_held, .int h0_count])), (h0_held, .inl (cB, h0_held_n, .inl h0_held_f))]) (ws' := [(h0, .inr (2, [.ref h0_held, .int h0_count])), (h0_held, .inl (cB, h0_held_n, .inl h0_held_f))]) [0, 1] [] [0, 1] rfl rfl (by decide) (by decide) rfl (by decide) (fun H locs hP hD hS => ?_)
        refine lv_i2l (v := (r3.toInt64)) hx hb dX2_number_20 rfl ?_
        refine lv_bipush (v := 8) hx hb dX2_number_21 (by decide) ?_
        refine lv_iload hx hb dX2_number_23 (lv_at hl 4 rfl) ?_
        refine lv_imul hx hb dX2_number_25 ?_
        refine lv_lshl (v := (lshl (r3.toInt64) ((8 : Int32) * j5_2))) hx hb dX2_number_26 rfl ?_
        refine lv_lor hx hb dX2_number_27 ?_
        refine lv_topl (fun v3_4 e_v3_4 => ?_)
        replace hf := bnd_at e_v3_4 hf
        refine lv_lstore_n (lv' := [(3, .long v3_4), (0, .ref h0), (1, .int a1), (2, .int a2), (5, .int j5_2)]) hx hb dX2_number_28 rfl hl (by decide) rfl (fun ls hl => ?_)
        obtain ⟨v5_5, e_v5_5⟩ : ∃ y : Int32, y = (j5_2 + (1 : Int32)) := ⟨_, rfl⟩
        replace hf := bnd_at e_v5_5 hf
        refine lv_iinc (v := v5_5) (lv' := [(5, .int v5_5), (3, .long v3_4), (0, .ref h0), (1, .int a1), (2, .int a2)]) hx hb dX2_number_29 hl (k := 4) rfl (by rw [e_v5_5]; rfl) (by decide) rfl (fun ls hl => ?_)
        refine lv_goto (tgt := 5) hx hb dX2_number_32 (by decide) ?_
        exact ih_5 v3_4 v5_5 _ _ _ (iter_back hf hr_5) hP hD hS (lv_sub hl [2, 3, 4, 1, 0] rfl)
  exact hL_5 FU (0 : Int64) (0 : Int32) _ _ _ hi_5 hP hD hS (lv_sub hl [2, 3, 4, 1, 0] rfl)

theorem dX2_number32_0 : decode cX2_number32 0 = .ok (.iload_n 1, 1) := by decide +kernel
theorem dX2_number32_1 : decode cX2_number32 1 = .ok (.ifCond .lt 13, 3) := by decide +kernel
theorem dX2_number32_4 : decode cX2_number32 4 = .ok (.iload_n 1, 1) := by decide +kernel
theorem dX2_number32_5 : decode cX2_number32 5 = .ok (.aload_n 0, 1) := by decide +kernel
theorem dX2_number32_6 : decode cX2_number32 6 = .ok (.getfield 19, 3) := by decide +kernel
theorem dX2_number32_9 : decode cX2_number32 9 = .ok (.iconst 4, 1) := by decide +kernel
theorem dX2_number32_10 : decode cX2_number32 10 = .ok (.isub, 1) := by decide +kernel
theorem dX2_number32_11 : decode cX2_number32 11 = .ok (.if_icmp .le 5, 3) := by decide +kernel
theorem dX2_number32_14 : decode cX2_number32 14 = .ok (.iconst 0, 1) := by decide +kernel
theorem dX2_number32_15 : decode cX2_number32 15 = .ok (.ireturn, 1) := by decide +kernel
theorem dX2_number32_16 : decode cX2_number32 16 = .ok (.aload_n 0, 1) := by decide +kernel
theorem dX2_number32_17 : decode cX2_number32 17 = .ok (.getfield 13, 3) := by decide +kernel
theorem dX2_number32_20 : decode cX2_number32 20 = .ok (.iload_n 1, 1) := by decide +kernel
theorem dX2_number32_21 : decode cX2_number32 21 = .ok (.baload, 1) := by decide +kernel
theorem dX2_number32_22 : decode cX2_number32 22 = .ok (.sipush 255, 3) := by decide +kernel
theorem dX2_number32_25 : decode cX2_number32 25 = .ok (.iand, 1) := by decide +kernel
theorem dX2_number32_26 : decode cX2_number32 26 = .ok (.aload_n 0, 1) := by decide +kernel
theorem dX2_number32_27 : decode cX2_number32 27 = .ok (.getfield 13, 3) := by decide +kernel
theorem dX2_number32_30 : decode cX2_number32 30 = .ok (.iload_n 1, 1) := by decide +kernel
theorem dX2_number32_31 : decode cX2_number32 31 = .ok (.iconst 1, 1) := by decide +kernel
theorem dX2_number32_32 : decode cX2_number32 32 = .ok (.iadd, 1) := by decide +kernel
theorem dX2_number32_33 : decode cX2_number32 33 = .ok (.baload, 1) := by decide +kernel
theorem dX2_number32_34 : decode cX2_number32 34 = .ok (.sipush 255, 3) := by decide +kernel
theorem dX2_number32_37 : decode cX2_number32 37 = .ok (.iand, 1) := by decide +kernel
theorem dX2_number32_38 : decode cX2_number32 38 = .ok (.bipush 8, 2) := by decide +kernel
theorem dX2_number32_40 : decode cX2_number32 40 = .ok (.ishl, 1) := by decide +kernel
theorem dX2_number32_41 : decode cX2_number32 41 = .ok (.ior, 1) := by decide +kernel
theorem dX2_number32_42 : decode cX2_number32 42 = .ok (.aload_n 0, 1) := by decide +kernel
theorem dX2_number32_43 : decode cX2_number32 43 = .ok (.getfield 13, 3) := by decide +kernel
theorem dX2_number32_46 : decode cX2_number32 46 = .ok (.iload_n 1, 1) := by decide +kernel
theorem dX2_number32_47 : decode cX2_number32 47 = .ok (.iconst 2, 1) := by decide +kernel
theorem dX2_number32_48 : decode cX2_number32 48 = .ok (.iadd, 1) := by decide +kernel
theorem dX2_number32_49 : decode cX2_number32 49 = .ok (.baload, 1) := by decide +kernel
theorem dX2_number32_50 : decode cX2_number32 50 = .ok (.sipush 255, 3) := by decide +kernel
theorem dX2_number32_53 : decode cX2_number32 53 = .ok (.iand, 1) := by decide +kernel
theorem dX2_number32_54 : decode cX2_number32 54 = .ok (.bipush 16, 2) := by decide +kernel
theorem dX2_number32_56 : decode cX2_number32 56 = .ok (.ishl, 1) := by decide +kernel
theorem dX2_number32_57 : decode cX2_number32 57 = .ok (.ior, 1) := by decide +kernel
theorem dX2_number32_58 : decode cX2_number32 58 = .ok (.aload_n 0, 1) := by decide +kernel
theorem dX2_number32_59 : decode cX2_number32 59 = .ok (.getfield 13, 3) := by decide +kernel
theorem dX2_number32_62 : decode cX2_number32 62 = .ok (.iload_n 1, 1) := by decide +kernel
theorem dX2_number32_63 : decode cX2_number32 63 = .ok (.iconst 3, 1) := by decide +kernel
theorem dX2_number32_64 : decode cX2_number32 64 = .ok (.iadd, 1) := by decide +kernel
theorem dX2_number32_65 : decode cX2_number32 65 = .ok (.baload, 1) := by decide +kernel
theorem dX2_number32_66 : decode cX2_number32 66 = .ok (.sipush 255, 3) := by decide +kernel
theorem dX2_number32_69 : decode cX2_number32 69 = .ok (.iand, 1) := by decide +kernel
theorem dX2_number32_70 : decode cX2_number32 70 = .ok (.bipush 24, 2) := by decide +kernel
theorem dX2_number32_72 : decode cX2_number32 72 = .ok (.ishl, 1) := by decide +kernel
theorem dX2_number32_73 : decode cX2_number32 73 = .ok (.ior, 1) := by decide +kernel
theorem dX2_number32_74 : decode cX2_number32 74 = .ok (.ireturn, 1) := by decide +kernel
def m_Bytes_number32 (a1 : Int32) (h0_count : Int32) (h0_held_n : Nat) (h0_held_f : Nat → Int32) : Option (Int32) :=
  if a1 < 0 then
    some (0 : Int32)
  else
    if a1 ≤ (h0_count - (4 : Int32)) then
      chk a1 h0_held_n <|
      chk (a1 + (1 : Int32)) h0_held_n <|
      chk (a1 + (2 : Int32)) h0_held_n <|
      chk (a1 + (3 : Int32)) h0_held_n <|
      some (((((h0_held_f a1.toNatClampNeg) &&& (255 : Int32)) ||| (ishl ((h0_held_f (a1 + (1 : Int32)).toNatClampNeg) &&& (255 : Int32)) (8 : Int32))) ||| (ishl ((h0_held_f (a1 + (2 : Int32)).toNatClampNeg) &&& (255 : Int32)) (16 : Int32))) ||| (ishl ((h0_held_f (a1 + (3 : Int32)).toNatClampNeg) &&& (255 : Int32)) (24 : Int32)))
    else
      some (0 : Int32)
def rm_Bytes_number32 : Room := { frames := 0, cells := 0, slots := 0, locals := 0 }
set_option maxHeartbeats 4000000 in
set_option maxRecDepth 100000 in
theorem c_Bytes_number32 {l : Launch} {dC : Nat → ClassId} {dI : Nat → Nat → Nat} {cB cI : ClassId} {sz : Nat} {h0 : Nat} {a1 : Int32} {h0_held : Nat} {h0_count : Int32} {h0_held_n : Nat} {h0_held_f : Nat → Int32} {o_r : Int32} (hf : m_Bytes_number32 a1 h0_count h0_held_n h0_held_f = some o_r) : Met l yX2_number32 (Cond.code yX2_number32 cX2_number32 2 (some .int) :: lw_G) rm_Bytes_number32 (PreC (dC, dI) [(cB, .byte), (cI, .int)] [.ref h0, .int a1] sz [(h0, .inr (2, [.ref h0_held, .int h0_count])), (h0_held, .inl (cB, h0_held_n, .inl h0_held_f))]) (QcI o_r (dC, dI) [(h0, .inr (2, [.ref h0_held, .int h0_count])), (h0_held, .inl (cB, h0_held_n, .inl h0_held_f))] (va_A [(h0, .inr (2, [.ref h0_held, .int h0_count])), (h0_held, .inl (cB, h0_held_n, .inl h0_held_f))] sz)) 0 0 (va_A [(h0, .inr (2, [.ref h0_held, .int h0_count])), (h0_held, .inl (cB, h0_held_n, .inl h0_held_f))] sz) := by
  refine met_of (Qf := fun A => QcI o_r (dC, dI) [(h0, .inr (2, [.ref h0_held, .int h0_count])), (h0_held, .inl (cB, h0_held_n, .inl h0_held_f))] A) (by decide) (Nat.le_of_ble_eq_true rfl) ?_
  intro p e s m below meth c A ls Q hx hb hr hml hown hts hlocks hnm hP hK hD hN hT hA hl hQ
  have hown : s.vm.findClass RX2 = some m.cls := hown
  have hS : va_S A s.heap s.heap [] := va_S.rf
  have hl : lv_has ls 2 [(0, .ref h0), (1, .int a1)] := hl
  unfold m_Bytes_number32 at hf
  refine lv_iload_n hx hb dX2_number32_0 rfl (lv_at hl 1 rfl) ?_
  refine lv_if_lt (tgt := 14) hx hb dX2_number32_1 (by decide) (fun c_1 => ?_) (fun c_1 => ?_)
  · replace hf := if_t c_1 hf
    refine lv_iconst (v := 0) hx hb dX2_number32_14 (by decide) ?_
    obtain rfl := Option.some.inj hf
    exact rt_i hQ hx hb hr hlocks hP hD hS dX2_number32_15
  · replace hf := if_f c_1 hf
    refine lv_iload_n hx hb dX2_number32_4 rfl (lv_at hl 1 rfl) ?_
    refine lv_aload_n hx hb dX2_number32_5 rfl (lv_at hl 0 rfl) ?_
    refine va_get (D := (dC, dI)) (ci := 2) (v := .int h0_count) (C := RX2) (T := TX2) (N := 2) hx hb hts inG_X2 hown hK hP 0 rfl rfl 1 (by decide) (hts _ kw_116) (fun _ h9 => h9) rfl dX2_number32_6 ?_
    refine lv_iconst (v := 4) hx hb dX2_number32_9 (by decide) ?_
    refine lv_isub hx hb dX2_number32_10 ?_
    refine lv_icmp_le (tgt := 16) hx hb dX2_number32_11 (by decide) (fun c_11 => ?_) (fun c_11 => ?_)
    · replace hf := if_t c_11 hf
      refine lv_aload_n hx hb dX2_number32_16 rfl (lv_at hl 0 rfl) ?_
      refine va_get (D := (dC, dI)) (ci := 2) (v := .ref h0_held) (C := RX2) (T := TX2) (N := 2) hx hb hts inG_X2 hown hK hP 0 rfl rfl 0 (by decide) (hts _ kw_115) (fun _ h9 => h9) rfl dX2_number32_17 ?_
      refine lv_iload_n hx hb dX2_number32_20 rfl (lv_at hl 1 rfl) ?_
      obtain ⟨hin, hf⟩ := chk_some hf
      refine va_bald hx hb hK hP 1 0 rfl rfl hin dX2_number32_21 ?_
      refine lv_sipush (v := 255) hx hb dX2_number32_22 (by decide) ?_
      refine lv_iand hx hb dX2_number32_25 ?_
      refine lv_aload_n hx hb dX2_number32_26 rfl (lv_at hl 0 rfl) ?_
      refine va_get (D := (dC, dI)) (ci := 2) (v := .ref h0_held) (C := RX2) (T := TX2) (N := 2) hx hb hts inG_X2 hown hK hP 0 rfl rfl 0 (by decide) (hts _ kw_115) (fun _ h9 => h9) rfl dX2_number32_27 ?_
      refine lv_iload_n hx hb dX2_number32_30 rfl (lv_at hl 1 rfl) ?_
      refine lv_iconst (v := 1) hx hb dX2_number32_31 (by decide) ?_
      refine lv_iadd hx hb dX2_number32_32 ?_
      obtain ⟨hin, hf⟩ := chk_some hf
      refine va_bald hx hb hK hP 1 0 rfl rfl hin dX2_number32_33 ?_
      refine lv_sipush (v := 255) hx hb dX2_number32_34 (by decide) ?_
      refine lv_iand hx hb dX2_number32_37 ?_
      refine lv_bipush (v := 8) hx hb dX2_number32_38 (by decide) ?_
      refine lv_ishl hx hb dX2_number32_40 ?_
      refine lv_ior hx hb dX2_number32_41 ?_
      refine lv_aload_n hx hb dX2_number32_42 rfl (lv_at hl 0 rfl) ?_
      refine va_get (D := (dC, dI)) (ci := 2) (v := .ref h0_held) (C := RX2) (T := TX2) (N := 2) hx hb hts inG_X2 hown hK hP 0 rfl rfl 0 (by decide) (hts _ kw_115) (fun _ h9 => h9) rfl dX2_number32_43 ?_
      refine lv_iload_n hx hb dX2_number32_46 rfl (lv_at hl 1 rfl) ?_
      refine lv_iconst (v := 2) hx hb dX2_number32_47 (by decide) ?_
      refine lv_iadd hx hb dX2_number32_48 ?_
      obtain ⟨hin, hf⟩ := chk_some hf
      refine va_bald hx hb hK hP 1 0 rfl rfl hin dX2_number32_49 ?_
      refine lv_sipush (v := 255) hx hb dX2_number32_50 (by decide) ?_
      refine lv_iand hx hb dX2_number32_53 ?_
      refine lv_bipush (v := 16) hx hb dX2_number32_54 (by decide) ?_
      refine lv_ishl hx hb dX2_number32_56 ?_
      refine lv_ior hx hb dX2_number32_57 ?_
      refine lv_aload_n hx hb dX2_number32_58 rfl (lv_at hl 0 rfl) ?_
      refine va_get (D := (dC, dI)) (ci := 2) (v := .ref h0_held) (C := RX2) (T := TX2) (N := 2) hx hb hts inG_X2 hown hK hP 0 rfl rfl 0 (by decide) (hts _ kw_115) (fun _ h9 => h9) rfl dX2_number32_59 ?_
      refine lv_iload_n hx hb dX2_number32_62 rfl (lv_at hl 1 rfl) ?_
      refine lv_iconst (v := 3) hx hb dX2_number32_63 (by decide) ?_
      refine lv_iadd hx hb dX2_number32_64 ?_
      obtain ⟨hin, hf⟩ := chk_some hf
      refine va_bald hx hb hK hP 1 0 rfl rfl hin dX2_number32_65 ?_
      refine lv_sipush (v := 255) hx hb dX2_number32_66 (by decide) ?_
      refine lv_iand hx hb dX2_number32_69 ?_
      refine lv_bipush (v := 24) hx hb dX2_number32_70 (by decide) ?_
      refine lv_ishl hx hb dX2_number32_72 ?_
      refine lv_ior hx hb dX2_number32_73 ?_
      obtain rfl := Option.some.inj hf
      exact rt_i hQ hx hb hr hlocks hP hD hS dX2_number32_74
    · replace hf := if_f c_11 hf
      refine lv_iconst (v := 0) hx hb dX2_number32_14 (by decide) ?_
      obtain rfl := Option.some.inj hf
      exact rt_i hQ hx hb hr hlocks hP hD hS dX2_number32_15

theorem dX2_add_0 : decode cX2_add 0 = .ok (.aload_n 0, 1) := by decide +kernel
theorem dX2_add_1 : decode cX2_add 1 = .ok (.getfield 19, 3) := by decide +kernel
theorem dX2_add_4 : decode cX2_add 4 = .ok (.aload_n 0, 1) := by decide +kernel
theorem dX2_add_5 : decode cX2_add 5 = .ok (.getfield 13, 3) := by decide +kernel
theorem dX2_add_8 : decode cX2_add 8 = .ok (.arraylength, 1) := by decide +kernel
theorem dX2_add_9 : decode cX2_add 9 = .ok (.if_icmp .ge 24, 3) := by decide +kernel
theorem dX2_add_12 : decode cX2_add 12 = .ok (.aload_n 0, 1) := by decide +kernel
theorem dX2_add_13 : decode cX2_add 13 = .ok (.getfield 13, 3) := by decide +kernel
theorem dX2_add_16 : decode cX2_add 16 = .ok (.aload_n 0, 1) := by decide +kernel
theorem dX2_add_17 : decode cX2_add 17 = .ok (.getfield 19, 3) := by decide +kernel
theorem dX2_add_20 : decode cX2_add 20 = .ok (.iload_n 1, 1) := by decide +kernel
theorem dX2_add_21 : decode cX2_add 21 = .ok (.i2b, 1) := by decide +kernel
theorem dX2_add_22 : decode cX2_add 22 = .ok (.bastore, 1) := by decide +kernel
theorem dX2_add_23 : decode cX2_add 23 = .ok (.aload_n 0, 1) := by decide +kernel
theorem dX2_add_24 : decode cX2_add 24 = .ok (.dup, 1) := by decide +kernel
theorem dX2_add_25 : decode cX2_add 25 = .ok (.getfield 19, 3) := by decide +kernel
theorem dX2_add_28 : decode cX2_add 28 = .ok (.iconst 1, 1) := by decide +kernel
theorem dX2_add_29 : decode cX2_add 29 = .ok (.iadd, 1) := by decide +kernel
theorem dX2_add_30 : decode cX2_add 30 = .ok (.putfield 19, 3) := by decide +kernel
theorem dX2_add_33 : decode cX2_add 33 = .ok (.return_, 1) := by decide +kernel
def m_Bytes_add (a1 : Int32) (h0_count : Int32) (h0_held_n : Nat) (h0_held_f : Nat → Int32) : Option (Int32 × (Nat → Int32)) :=
  if (nI h0_held_n) ≤ h0_count then
    some (h0_count, h0_held_f)
  else
    chk h0_count h0_held_n <|
    bnd (h0_count + (1 : Int32)) fun p_1 =>
    some (p_1, (upd h0_held_f h0_count.toNatClampNeg (vp_nar .byte (a1.toInt8.toInt32))))
def rm_Bytes_add : Room := { frames := 0, cells := 0, slots := 0, locals := 0 }
set_option maxHeartbeats 4000000 in
set_option maxRecDepth 100000 in
theorem c_Bytes_add {l : Launch} {dC : Nat → ClassId} {dI : Nat → Nat → Nat} {cB cI : ClassId} {sz : Nat} {h0 : Nat} {a1 : Int32} {h0_held : Nat} {h0_count : Int32} {h0_held_n : Nat} {h0_held_f : Nat → Int32} {o_h0_count : Int32} {o_h0_held_f : Nat → Int32} (hf : m_Bytes_add a1 h0_count h0_held_n h0_held_f = some (o_h0_count, o_h0_held_f)) : Met l yX2_add (Cond.code yX2_add cX2_add 2 none :: lw_G) rm_Bytes_add (PreC (dC, dI) [(cB, .byte), (cI, .int)] [.ref h0, .int a1] sz [(h0, .inr (2, [.ref h0_held, .int h0_count])), (h0_held, .inl (cB, h0_held_n, .inl h0_held_f))]) (QcV (dC, dI) [(h0, .inr (2, [.ref h0_held, .int o_h0_count])), (h0_held, .inl (cB, h0_held_n, .inl o_h0_held_f))] (va_A [(h0, .inr (2, [.ref h0_held, .int h0_count])), (h0_held, .inl (cB, h0_held_n, .inl h0_held_f))] sz)) 0 0 (va_A [(h0, .inr (2, [.ref h0_held, .int h0_count])), (h0_held, .inl (cB, h0_held_n, .inl h0_held_f))] sz) := by
  refine met_of (Qf := fun A => QcV (dC, dI) [(h0, .inr (2, [.ref h0_held, .int o_h0_count])), (h0_held, .inl (cB, h0_held_n, .inl o_h0_held_f))] A) (by decide) (Nat.le_of_ble_eq_true rfl) ?_
  intro p e s m below meth c A ls Q hx hb hr hml hown hts hlocks hnm hP hK hD hN hT hA hl hQ
  have hown : s.vm.findClass RX2 = some m.cls := hown
  have hS : va_S A s.heap s.heap [] := va_S.rf
  have hl : lv_has ls 2 [(0, .ref h0), (1, .int a1)] := hl
  unfold m_Bytes_add at hf
  refine lv_aload_n hx hb dX2_add_0 rfl (lv_at hl 0 rfl) ?_
  refine va_get (D := (dC, dI)) (ci := 2) (v := .int h0_count) (C := RX2) (T := TX2) (N := 2) hx hb hts inG_X2 hown hK hP 0 rfl rfl 1 (by decide) (hts _ kw_116) (fun _ h9 => h9) rfl dX2_add_1 ?_
  refine lv_aload_n hx hb dX2_add_4 rfl (lv_at hl 0 rfl) ?_
  refine va_get (D := (dC, dI)) (ci := 2) (v := .ref h0_held) (C := RX2) (T := TX2) (N := 2) hx hb hts inG_X2 hown hK hP 0 rfl rfl 0 (by decide) (hts _ kw_115) (fun _ h9 => h9) rfl dX2_add_5 ?_
  refine va_alen (v := nI h0_held_n) hx hb hK hP 1 0 rfl rfl rfl dX2_add_8 ?_
  refine lv_icmp_ge (tgt := 33) hx hb dX2_add_9 (by decide) (fun c_9 => ?_) (fun c_9 => ?_)
  · replace hf := if_t c_9 hf
    obtain ⟨rfl, hq_1⟩ := Prod.mk.inj (Option.some.inj hf)
    obtain rfl := hq_1
    exact rt_v hQ hx hb hr hlocks hP hD hS dX2_add_33
  · replace hf := if_f c_9 hf
    refine lv_aload_n hx hb dX2_add_12 rfl (lv_at hl 0 rfl) ?_
    refine va_get (D := (dC, dI)) (ci := 2) (v := .ref h0_held) (C := RX2) (T := TX2) (N := 2) hx hb hts inG_X2 hown hK hP 0 rfl rfl 0 (by decide) (hts _ kw_115) (fun _ h9 => h9) rfl dX2_add_13 ?_
    refine lv_aload_n hx hb dX2_add_16 rfl (lv_at hl 0 rfl) ?_
    refine va_get (D := (dC, dI)) (ci := 2) (v := .int h0_count) (C := RX2) (T := TX2) (N := 2) hx hb hts inG_X2 hown hK hP 0 rfl rfl 1 (by decide) (hts _ kw_116) (fun _ h9 => h9) rfl dX2_add_17 ?_
    refine lv_iload_n hx hb dX2_add_20 rfl (lv_at hl 1 rfl) ?_
    refine lv_i2b (v := (a1.toInt8.toInt32)) hx hb dX2_add_21 rfl ?_
    obtain ⟨hin, hf⟩ := chk_some hf
    refine va_bast hx hb hK hP hD hS 1 0 rfl rfl hin dX2_add_22 (fun H locs hP hD hS => ?_)
    have hP : va_P (dC, dI) vwCl [(h0, .inr (2, [.ref h0_held, .int h0_count])), (h0_held, .inl (cB, h0_held_n, .inl (upd h0_held_f h0_count.toNatClampNeg (vp_nar .byte (a1.toInt8.toInt32)))))] H := hP
    have hD : va_D A [(h0, .inr (2, [.ref h0_held, .int h0_count])), (h0_held, .inl (cB, h0_held_n, .inl (upd h0_held_f h0_count.toNatClampNeg (vp_nar .byte (a1.toInt8.toInt32)))))] := hD
    refine lv_aload_n hx hb dX2_add_23 rfl (lv_at hl 0 rfl) ?_
    refine lv_dup hx hb dX2_add_24 rfl ?_
    refine va_get (D := (dC, dI)) (ci := 2) (v := .int h0_count) (C := RX2) (T := TX2) (N := 2) hx hb hts inG_X2 hown hK hP 0 rfl rfl 1 (by decide) (hts _ kw_116) (fun _ h9 => h9) rfl dX2_add_25 ?_
    refine lv_iconst (v := 1) hx hb dX2_add_28 (by decide) ?_
    refine lv_iadd hx hb dX2_add_29 ?_
    refine lv_topi (fun p_1 e_p_1 => ?_)
    replace hf := bnd_at e_p_1 hf
    refine va_put (D := (dC, dI)) (ci := 2) (v := .int p_1) (ty := .int) (C := RX2) (T := TX2) (N := 2) hx hb hts inG_X2 tyX2 tyX2_ok nmX2 hown hK hP hD hS 0 rfl rfl 1 (by decide) (hts _ kw_116) (fun _ h9 => h9) rfl (by decide +kernel) rfl rfl (Nat.le_of_ble_eq_true rfl) dX2_add_30 (fun H locs hP hD hS => ?_)
    have hP : va_P (dC, dI) vwCl [(h0, .inr (2, [.ref h0_held, .int p_1])), (h0_held, .inl (cB, h0_held_n, .inl (upd h0_held_f h0_count.toNatClampNeg (vp_nar .byte (a1.toInt8.toInt32)))))] H := hP
    have hD : va_D A [(h0, .inr (2, [.ref h0_held, .int p_1])), (h0_held, .inl (cB, h0_held_n, .inl (upd h0_held_f h0_count.toNatClampNeg (vp_nar .byte (a1.toInt8.toInt32)))))] := hD
    obtain ⟨rfl, hq_1⟩ := Prod.mk.inj (Option.some.inj hf)
    obtain rfl := hq_1
    exact rt_v hQ hx hb hr hlocks hP hD hS dX2_add_33

theorem dX2_addNumber_0 : decode cX2_addNumber 0 = .ok (.iconst 0, 1) := by decide +kernel
theorem dX2_addNumber_1 : decode cX2_addNumber 1 = .ok (.istore 4, 2) := by decide +kernel
theorem dX2_addNumber_3 : decode cX2_addNumber 3 = .ok (.iload 4, 2) := by decide +kernel
theorem dX2_addNumber_5 : decode cX2_addNumber 5 = .ok (.iload_n 3, 1) := by decide +kernel
theorem dX2_addNumber_6 : decode cX2_addNumber 6 = .ok (.if_icmp .ge 49, 3) := by decide +kernel
theorem dX2_addNumber_9 : decode cX2_addNumber 9 = .ok (.aload_n 0, 1) := by decide +kernel
theorem dX2_addNumber_10 : decode cX2_addNumber 10 = .ok (.getfield 19, 3) := by decide +kernel
theorem dX2_addNumber_13 : decode cX2_addNumber 13 = .ok (.aload_n 0, 1) := by decide +kernel
theorem dX2_addNumber_14 : decode cX2_addNumber 14 = .ok (.getfield 13, 3) := by decide +kernel
theorem dX2_addNumber_17 : decode cX2_addNumber 17 = .ok (.arraylength, 1) := by decide +kernel
theorem dX2_addNumber_18 : decode cX2_addNumber 18 = .ok (.if_icmp .ge 37, 3) := by decide +kernel
theorem dX2_addNumber_21 : decode cX2_addNumber 21 = .ok (.aload_n 0, 1) := by decide +kernel
theorem dX2_addNumber_22 : decode cX2_addNumber 22 = .ok (.getfield 13, 3) := by decide +kernel
theorem dX2_addNumber_25 : decode cX2_addNumber 25 = .ok (.aload_n 0, 1) := by decide +kernel
theorem dX2_addNumber_26 : decode cX2_addNumber 26 = .ok (.getfield 19, 3) := by decide +kernel
theorem dX2_addNumber_29 : decode cX2_addNumber 29 = .ok (.lload_n 1, 1) := by decide +kernel
theorem dX2_addNumber_30 : decode cX2_addNumber 30 = .ok (.bipush 8, 2) := by decide +kernel
theorem dX2_addNumber_32 : decode cX2_addNumber 32 = .ok (.iload 4, 2) := by decide +kernel
theorem dX2_addNumber_34 : decode cX2_addNumber 34 = .ok (.imul, 1) := by decide +kernel
theorem dX2_addNumber_35 : decode cX2_addNumber 35 = .ok (.lushr, 1) := by decide +kernel
theorem dX2_addNumber_36 : decode cX2_addNumber 36 = .ok (.l2i, 1) := by decide +kernel
theorem dX2_addNumber_37 : decode cX2_addNumber 37 = .ok (.i2b, 1) := by decide +kernel
theorem dX2_addNumber_38 : decode cX2_addNumber 38 = .ok (.bastore, 1) := by decide +kernel
theorem dX2_addNumber_39 : decode cX2_addNumber 39 = .ok (.aload_n 0, 1) := by decide +kernel
theorem dX2_addNumber_40 : decode cX2_addNumber 40 = .ok (.dup, 1) := by decide +kernel
theorem dX2_addNumber_41 : decode cX2_addNumber 41 = .ok (.getfield 19, 3) := by decide +kernel
theorem dX2_addNumber_44 : decode cX2_addNumber 44 = .ok (.iconst 1, 1) := by decide +kernel
theorem dX2_addNumber_45 : decode cX2_addNumber 45 = .ok (.iadd, 1) := by decide +kernel
theorem dX2_addNumber_46 : decode cX2_addNumber 46 = .ok (.putfield 19, 3) := by decide +kernel
theorem dX2_addNumber_49 : decode cX2_addNumber 49 = .ok (.iinc 4 1, 3) := by decide +kernel
theorem dX2_addNumber_52 : decode cX2_addNumber 52 = .ok (.goto (-49), 3) := by decide +kernel
theorem dX2_addNumber_55 : decode cX2_addNumber 55 = .ok (.return_, 1) := by decide +kernel
def m_Bytes_addNumber_E55 (f1 : Nat → Int32) (g2 : Int32) : Option (Int32 × (Nat → Int32)) :=
  some (g2, f1)
def m_Bytes_addNumber_B3 (a1 : Int64) (a2 : Int32) (h0_held_n : Nat) (f3 : Nat → Int32) (g4 : Int32) (j4_5 : Int32) : Option (((Nat → Int32) × Int32 × Int32) ⊕ (((Nat → Int32) × Int32))) :=
  if a2 ≤ j4_5 then
    some (.inr (f3, g4))
  else
    if (nI h0_held_n) ≤ g4 then
      some (.inr (f3, g4))
    else
      chk g4 h0_held_n <|
      bnd (g4 + (1 : Int32)) fun p_6 =>
      bnd (j4_5 + (1 : Int32)) fun v4_7 =>
      some (.inl ((upd f3 g4.toNatClampNeg (vp_nar .byte (((lushr a1 ((8 : Int32) * j4_5)).toInt32).toInt8.toInt32))), p_6, v4_7))
def m_Bytes_addNumber (a1 : Int64) (a2 : Int32) (h0_count : Int32) (h0_held_n : Nat) (h0_held_f : Nat → Int32) : Option (Int32 × (Nat → Int32)) :=
  (iter (fun st => m_Bytes_addNumber_B3 a1 a2 h0_held_n st.1 st.2.1 st.2.2) FU (h0_held_f, h0_count, (0 : Int32))).bind fun o => m_Bytes_addNumber_E55 o.1 o.2
def rm_Bytes_addNumber : Room := { frames := 0, cells := 0, slots := 0, locals := 0 }
set_option maxHeartbeats 4000000 in
set_option maxRecDepth 100000 in
theorem c_Bytes_addNumber {l : Launch} {dC : Nat → ClassId} {dI : Nat → Nat → Nat} {cB cI : ClassId} {sz : Nat} {h0 : Nat} {a1 : Int64} {a2 : Int32} {h0_held : Nat} {h0_count : Int32} {h0_held_n : Nat} {h0_held_f : Nat → Int32} {o_h0_count : Int32} {o_h0_held_f : Nat → Int32} (hf : m_Bytes_addNumber a1 a2 h0_count h0_held_n h0_held_f = some (o_h0_count, o_h0_held_f)) : Met l yX2_addNumber (Cond.code yX2_addNumber cX2_addNumber 5 none :: lw_G) rm_Bytes_addNumber (PreC (dC, dI) [(cB, .byte), (cI, .int)] [.ref h0, .long a1, .int a2] sz [(h0, .inr (2, [.ref h0_held, .int h0_count])), (h0_held, .inl (cB, h0_held_n, .inl h0_held_f))]) (QcV (dC, dI) [(h0, .inr (2, [.ref h0_held, .int o_h0_count])), (h0_held, .inl (cB, h0_held_n, .inl o_h0_held_f))] (va_A [(h0, .inr (2, [.ref h0_held, .int h0_count])), (h0_held, .inl (cB, h0_held_n, .inl h0_held_f))] sz)) 0 0 (va_A [(h0, .inr (2, [.ref h0_held, .int h0_count])), (h0_held, .inl (cB, h0_held_n, .inl h0_held_f))] sz) := by
  refine met_of (Qf := fun A => QcV (dC, dI) [(h0, .inr (2, [.ref h0_held, .int o_h0_count])), (h0_held, .inl (cB, h0_held_n, .inl o_h0_held_f))] A) (by decide) (Nat.le_of_ble_eq_true rfl) ?_
  intro p e s m below meth c A ls Q hx hb hr hml hown hts hlocks hnm hP hK hD hN hT hA hl hQ
  have hown : s.vm.findClass RX2 = some m.cls := hown
  have hS : va_S A s.heap s.heap [] := va_S.rf
  have hl : lv_has ls 5 [(0, .ref h0), (1, .long a1), (3, .int a2)] := hl
  unfold m_Bytes_addNumber at hf
  refine lv_iconst (v := 0) hx hb dX2_addNumber_0 (by decide) ?_
  refine lv_istore (lv' := [(4, .int (0 : Int32)), (0, .ref h0), (1, .long a1), (3, .int a2)]) hx hb dX2_addNumber_1 hl (by decide) rfl (fun ls hl => ?_)
  have hJ_55 : ∀ (f1 : Nat → Int32) (g2 : Int32) (H : Heap) (locs : List Loc) (ls : Array Slot), m_Bytes_addNumber_E55 f1 g2 = some (o_h0_count, o_h0_held_f) → va_P (dC, dI) vwCl [(h0, .inr (2, [.ref h0_held, .int g2])), (h0_held, .inl (cB, h0_held_n, .inl f1))] H → va_D A [(h0, .inr (2, [.ref h0_held, .int g2])), (h0_held, .inl (cB, h0_held_n, .inl f1))] → va_S A s.heap H locs → lv_has ls 5 [] → W p l e (rm_Bytes_addNumber) s m ([.ref h0, .long a1, .int a2] : List Value).toArray below meth c H locs 0 0 Q (F0 m 55 ls []) := by
    intro f1 g2 H locs ls hf hP hD hS hl
    unfold m_Bytes_addNumber_E55 at hf
    obtain ⟨rfl, hq_1⟩ := Prod.mk.inj (Option.some.inj hf)
    obtain rfl := hq_1
    exact rt_v hQ hx hb hr hlocks hP hD hS dX2_addNumber_55
  obtain ⟨o_3, hi_3, hk_3⟩ := bind_some hf
  have hL_3 : ∀ (n : Nat) (f3 : Nat → Int32) (g4 : Int32) (j4_5 : Int32) (H : Heap) (locs : List Loc) (ls : Array Slot), iter (fun st => m_Bytes_addNumber_B3 a1 a2 h0_held_n st.1 st.2.1 st.2.2) n (f3, g4, j4_5) = some o_3 → va_P (dC, dI) vwCl [(h0, .inr (2, [.ref h0_held, .int g4])), (h0_held, .inl (cB, h0_held_n, .inl f3))] H → va_D A [(h0, .inr (2, [.ref h0_held, .int g4])), (h0_held, .inl (cB, h0_held_n, .inl f3))] → va_S A s.heap H locs → lv_has ls 5 [(0, .ref h0), (1, .long a1), (3, .int a2), (4, .int j4_5)] → W p l e (rm_Bytes_addNumber) s m ([.ref h0, .long a1, .int a2] : List Value).toArray below meth c H locs 0 0 Q (F0 m 3 ls []) := by
    intro n
    induction n with
    | zero => intro f3 g4 j4_5 H locs ls hf; exact absurd hf (fun z => by cases z)
    | succ n ih_3 =>
      intro f3 g4 j4_5 H locs ls hf hP hD hS hl
      obtain ⟨r_3, hf, hr_3⟩ := iter_succ hf
      have hf : m_Bytes_addNumber_B3 a1 a2 h0_held_n f3 g4 j4_5 = some r_3 := hf
      unfold m_Bytes_addNumber_B3 at hf
      refine lv_iload hx hb dX2_addNumber_3 (lv_at hl 3 rfl) ?_
      refine lv_iload_n hx hb dX2_addNumber_5 rfl (lv_at hl 2 rfl) ?_
      refine lv_icmp_ge (tgt := 55) hx hb dX2_addNumber_6 (by decide) (fun c_6 => ?_) (fun c_6 => ?_)
      · replace hf := if_t c_6 hf
        have hf : m_Bytes_addNumber_E55 f3 g4 = some (o_h0_count, o_h0_held_f) := by have hq := hk_3; rw [iter_exit hf hr_3] at hq; exact hq
        exact hJ_55 f3 g4 _ _ _ hf hP hD hS (lv_sub hl [] rfl)
      · replace hf := if_f c_6 hf
        refine lv_aload_n hx hb dX2_addNumber_9 rfl (lv_at hl 0 rfl) ?_
        refine va_get (D := (dC, dI)) (ci := 2) (v := .int g4) (C := RX2) (T := TX2) (N := 2) hx hb hts inG_X2 hown hK hP 0 rfl rfl 1 (by decide) (hts _ kw_116) (fun _ h9 => h9) rfl dX2_addNumber_10 ?_
        refine lv_aload_n hx hb dX2_addNumber_13 rfl (lv_at hl 0 rfl) ?_
        refine va_get (D := (dC, dI)) (ci := 2) (v := .ref h0_held) (C := RX2) (T := TX2) (N := 2) hx hb hts inG_X2 hown hK hP 0 rfl rfl 0 (by decide) (hts _ kw_115) (fun _ h9 => h9) rfl dX2_addNumber_14 ?_
        refine va_alen (v := nI h0_held_n) hx hb hK hP 1 0 rfl rfl rfl dX2_addNumber_17 ?_
        refine lv_icmp_ge (tgt := 55) hx hb dX2_addNumber_18 (by decide) (fun c_18 => ?_) (fun c_18 => ?_)
        · replace hf := if_t c_18 hf
          have hf : m_Bytes_addNumber_E55 f3 g4 = some (o_h0_count, o_h0_held_f) := by have hq := hk_3; rw [iter_exit hf hr_3] at hq; exact hq
          exact hJ_55 f3 g4 _ _ _ hf hP hD hS (lv_sub hl [] rfl)
        · replace hf := if_f c_18 hf
          refine lv_aload_n hx hb dX2_addNumber_21 rfl (lv_at hl 0 rfl) ?_
          refine va_get (D := (dC, dI)) (ci := 2) (v := .ref h0_held) (C := RX2) (T := TX2) (N := 2) hx hb hts inG_X2 hown hK hP 0 rfl rfl 0 (by decide) (hts _ kw_115) (fun _ h9 => h9) rfl dX2_addNumber_22 ?_
          refine lv_aload_n hx hb dX2_addNumber_25 rfl (lv_at hl 0 rfl) ?_
          refine va_get (D := (dC, dI)) (ci := 2) (v := .int g4) (C := RX2) (T := TX2) (N := 2) hx hb hts inG_X2 hown hK hP 0 rfl rfl 1 (by decide) (hts _ kw_116) (fun _ h9 => h9) rfl dX2_addNumber_26 ?_
          refine lv_lload_n hx hb dX2_addNumber_29 rfl (lv_at hl 1 rfl) ?_
          refine lv_bipush (v := 8) hx hb dX2_addNumber_30 (by decide) ?_
          refine lv_iload hx hb dX2_addNumber_32 (lv_at hl 3 rfl) ?_
          refine lv_imul hx hb dX2_addNumber_34 ?_
          refine lv_lushr (v := (lushr a1 ((8 : Int32) * j4_5))) hx hb dX2_addNumber_35 rfl ?_
          refine lv_l2i (v := ((lushr a1 ((8 : Int32) * j4_5)).toInt32)) hx hb dX2_addNumber_36 rfl ?_
          refine lv_i2b (v := (((lushr a1 ((8 : Int32) * j4_5)).toInt32).toInt8.toInt32)) hx hb dX2_addNumber_37 rfl ?_
          obtain ⟨hin, hf⟩ := chk_some hf
          refine va_bast hx hb hK hP hD hS 1 0 rfl rfl hin dX2_addNumber_38 (fun H locs hP hD hS => ?_)
          have hP : va_P (dC, dI) vwCl [(h0, .inr (2, [.ref h0_held, .int g4])), (h0_held, .inl (cB, h0_held_n, .inl (upd f3 g4.toNatClampNeg (vp_nar .byte (((lushr a1 ((8 : Int32) * j4_5)).toInt32).toInt8.toInt32)))))] H := hP
          have hD : va_D A [(h0, .inr (2, [.ref h0_held, .int g4])), (h0_held, .inl (cB, h0_held_n, .inl (upd f3 g4.toNatClampNeg (vp_nar .byte (((lushr a1 ((8 : Int32) * j4_5)).toInt32).toInt8.toInt32)))))] := hD
          refine lv_aload_n hx hb dX2_addNumber_39 rfl (lv_at hl 0 rfl) ?_
          refine lv_dup hx hb dX2_addNumber_40 rfl ?_
          refine va_get (D := (dC, dI)) (ci := 2) (v := .int g4) (C := RX2) (T := TX2) (N := 2) hx hb hts inG_X2 hown hK hP 0 rfl rfl 1 (by decide) (hts _ kw_116) (fun _ h9 => h9) rfl dX2_addNumber_41 ?_
          refine lv_iconst (v := 1) hx hb dX2_addNumber_44 (by decide) ?_
          refine lv_iadd hx hb dX2_addNumber_45 ?_
          refine lv_topi (fun p_6 e_p_6 => ?_)
          replace hf := bnd_at e_p_6 hf
          refine va_put (D := (dC, dI)) (ci := 2) (v := .int p_6) (ty := .int) (C := RX2) (T := TX2) (N := 2) hx hb hts inG_X2 tyX2 tyX2_ok nmX2 hown hK hP hD hS 0 rfl rfl 1 (by decide) (hts _ kw_116) (fun _ h9 => h9) rfl (by decide +kernel) rfl rfl (Nat.le_of_ble_eq_true rfl) dX2_addNumber_46 (fun H locs hP hD hS => ?_)
          have hP : va_P (dC, dI) vwCl [(h0, .inr (2, [.ref h0_held, .int p_6])), (h0_held, .inl (cB, h0_held_n, .inl (upd f3 g4.toNatClampNeg (vp_nar .byte (((lushr a1 ((8 : Int32) * j4_5)).toInt32).toInt8.toInt32)))))] H := hP
          have hD : va_D A [(h0, .inr (2, [.ref h0_held, .int p_6])), (h0_held, .inl (cB, h0_held_n, .inl (upd f3 g4.toNatClampNeg (vp_nar .byte (((lushr a1 ((8 : Int32) * j4_5)).toInt32).toInt8.toInt32)))))] := hD
          obtain ⟨v4_7, e_v4_7⟩ : ∃ y : Int32, y = (j4_5 + (1 : Int32)) := ⟨_, rfl⟩
          replace hf := bnd_at e_v4_7 hf
          refine lv_iinc (v := v4_7) (lv' := [(4, .int v4_7), (0, .ref h0), (1, .long a1), (3, .int a2)]) hx hb dX2_addNumber_49 hl (k := 3) rfl (by rw [e_v4_7]; rfl) (by decide) rfl (fun ls hl => ?_)
          refine lv_goto (tgt := 3) hx hb dX2_addNumber_52 (by decide) ?_
          exact ih_3 (upd f3 g4.toNatClampNeg (vp_nar .byte (((lushr a1 ((8 : Int32) * j4_5)).toInt32).toInt8.toInt32))) p_6 v4_7 _ _ _ (iter_back hf hr_3) hP hD hS (lv_sub hl [1, 2, 3, 0] rfl)
  exact hL_3 FU h0_held_f h0_count (0 : Int32) _ _ _ hi_3 hP hD hS (lv_sub hl [1, 2, 3, 0] rfl)

theorem dX2_changeNumber_0 : decode cX2_changeNumber 0 = .ok (.iconst 0, 1) := by decide +kernel
theorem dX2_changeNumber_1 : decode cX2_changeNumber 1 = .ok (.istore 5, 2) := by decide +kernel
theorem dX2_changeNumber_3 : decode cX2_changeNumber 3 = .ok (.iload 5, 2) := by decide +kernel
theorem dX2_changeNumber_5 : decode cX2_changeNumber 5 = .ok (.iload 4, 2) := by decide +kernel
theorem dX2_changeNumber_7 : decode cX2_changeNumber 7 = .ok (.if_icmp .ge 45, 3) := by decide +kernel
theorem dX2_changeNumber_10 : decode cX2_changeNumber 10 = .ok (.iload_n 1, 1) := by decide +kernel
theorem dX2_changeNumber_11 : decode cX2_changeNumber 11 = .ok (.iload 5, 2) := by decide +kernel
theorem dX2_changeNumber_13 : decode cX2_changeNumber 13 = .ok (.iadd, 1) := by decide +kernel
theorem dX2_changeNumber_14 : decode cX2_changeNumber 14 = .ok (.istore 6, 2) := by decide +kernel
theorem dX2_changeNumber_16 : decode cX2_changeNumber 16 = .ok (.iload 6, 2) := by decide +kernel
theorem dX2_changeNumber_18 : decode cX2_changeNumber 18 = .ok (.ifCond .lt 28, 3) := by decide +kernel
theorem dX2_changeNumber_21 : decode cX2_changeNumber 21 = .ok (.iload 6, 2) := by decide +kernel
theorem dX2_changeNumber_23 : decode cX2_changeNumber 23 = .ok (.aload_n 0, 1) := by decide +kernel
theorem dX2_changeNumber_24 : decode cX2_changeNumber 24 = .ok (.getfield 19, 3) := by decide +kernel
theorem dX2_changeNumber_27 : decode cX2_changeNumber 27 = .ok (.if_icmp .ge 19, 3) := by decide +kernel
theorem dX2_changeNumber_30 : decode cX2_changeNumber 30 = .ok (.aload_n 0, 1) := by decide +kernel
theorem dX2_changeNumber_31 : decode cX2_changeNumber 31 = .ok (.getfield 13, 3) := by decide +kernel
theorem dX2_changeNumber_34 : decode cX2_changeNumber 34 = .ok (.iload 6, 2) := by decide +kernel
theorem dX2_changeNumber_36 : decode cX2_changeNumber 36 = .ok (.lload_n 2, 1) := by decide +kernel
theorem dX2_changeNumber_37 : decode cX2_changeNumber 37 = .ok (.bipush 8, 2) := by decide +kernel
theorem dX2_changeNumber_39 : decode cX2_changeNumber 39 = .ok (.iload 5, 2) := by decide +kernel
theorem dX2_changeNumber_41 : decode cX2_changeNumber 41 = .ok (.imul, 1) := by decide +kernel
theorem dX2_changeNumber_42 : decode cX2_changeNumber 42 = .ok (.lushr, 1) := by decide +kernel
theorem dX2_changeNumber_43 : decode cX2_changeNumber 43 = .ok (.l2i, 1) := by decide +kernel
theorem dX2_changeNumber_44 : decode cX2_changeNumber 44 = .ok (.i2b, 1) := by decide +kernel
theorem dX2_changeNumber_45 : decode cX2_changeNumber 45 = .ok (.bastore, 1) := by decide +kernel
theorem dX2_changeNumber_46 : decode cX2_changeNumber 46 = .ok (.iinc 5 1, 3) := by decide +kernel
theorem dX2_changeNumber_49 : decode cX2_changeNumber 49 = .ok (.goto (-46), 3) := by decide +kernel
theorem dX2_changeNumber_52 : decode cX2_changeNumber 52 = .ok (.return_, 1) := by decide +kernel
def m_Bytes_changeNumber_J46 (j5_2 : Int32) (f4 : Nat → Int32) : Option (((Nat → Int32) × Int32) ⊕ ((((Nat → Int32))))) :=
  bnd (j5_2 + (1 : Int32)) fun v5_5 =>
  some (.inl (f4, v5_5))
def m_Bytes_changeNumber_B3 (a1 : Int32) (a2 : Int64) (a3 : Int32) (h0_count : Int32) (h0_held_n : Nat) (f1 : Nat → Int32) (j5_2 : Int32) : Option (((Nat → Int32) × Int32) ⊕ ((((Nat → Int32))))) :=
  if a3 ≤ j5_2 then
    some (.inr f1)
  else
    bnd (a1 + j5_2) fun v6_3 =>
    if v6_3 < 0 then
      m_Bytes_changeNumber_J46 j5_2 f1
    else
      if h0_count ≤ v6_3 then
        m_Bytes_changeNumber_J46 j5_2 f1
      else
        chk v6_3 h0_held_n <|
        m_Bytes_changeNumber_J46 j5_2 (upd f1 v6_3.toNatClampNeg (vp_nar .byte (((lushr a2 ((8 : Int32) * j5_2)).toInt32).toInt8.toInt32)))
def m_Bytes_changeNumber (a1 : Int32) (a2 : Int64) (a3 : Int32) (h0_count : Int32) (h0_held_n : Nat) (h0_held_f : Nat → Int32) : Option (Nat → Int32) :=
  (iter (fun st => m_Bytes_changeNumber_B3 a1 a2 a3 h0_count h0_held_n st.1 st.2) FU (h0_held_f, (0 : Int32))).bind fun o => some o
def rm_Bytes_changeNumber : Room := { frames := 0, cells := 0, slots := 0, locals := 0 }
set_option maxHeartbeats 4000000 in
set_option maxRecDepth 100000 in
theorem c_Bytes_changeNumber {l : Launch} {dC : Nat → ClassId} {dI : Nat → Nat → Nat} {cB cI : ClassId} {sz : Nat} {h0 : Nat} {a1 : Int32} {a2 : Int64} {a3 : Int32} {h0_held : Nat} {h0_count : Int32} {h0_held_n : Nat} {h0_held_f : Nat → Int32} {o_h0_held_f : Nat → Int32} (hf : m_Bytes_changeNumber a1 a2 a3 h0_count h0_held_n h0_held_f = some o_h0_held_f) : Met l yX2_changeNumber (Cond.code yX2_changeNumber cX2_changeNumber 7 none :: lw_G) rm_Bytes_changeNumber (PreC (dC, dI) [(cB, .byte), (cI, .int)] [.ref h0, .int a1, .long a2, .int a3] sz [(h0, .inr (2, [.ref h0_held, .int h0_count])), (h0_held, .inl (cB, h0_held_n, .inl h0_held_f))]) (QcV (dC, dI) [(h0, .inr (2, [.ref h0_held, .int h0_count])), (h0_held, .inl (cB, h0_held_n, .inl o_h0_held_f))] (va_A [(h0, .inr (2, [.ref h0_held, .int h0_count])), (h0_held, .inl (cB, h0_held_n, .inl h0_held_f))] sz)) 0 0 (va_A [(h0, .inr (2, [.ref h0_held, .int h0_count])), (h0_held, .inl (cB, h0_held_n, .inl h0_held_f))] sz) := by
  refine met_of (Qf := fun A => QcV (dC, dI) [(h0, .inr (2, [.ref h0_held, .int h0_count])), (h0_held, .inl (cB, h0_held_n, .inl o_h0_held_f))] A) (by decide) (Nat.le_of_ble_eq_true rfl) ?_
  intro p e s m below meth c A ls Q hx hb hr hml hown hts hlocks hnm hP hK hD hN hT hA hl hQ
  have hown : s.vm.findClass RX2 = some m.cls := hown
  have hS : va_S A s.heap s.heap [] := va_S.rf
  have hl : lv_has ls 7 [(0, .ref h0), (1, .int a1), (2, .long a2), (4, .int a3)] := hl
  unfold m_Bytes_changeNumber at hf
  refine lv_iconst (v := 0) hx hb dX2_changeNumber_0 (by decide) ?_
  refine lv_istore (lv' := [(5, .int (0 : Int32)), (0, .ref h0), (1, .int a1), (2, .long a2), (4, .int a3)]) hx hb dX2_changeNumber_1 hl (by decide) rfl (fun ls hl => ?_)
  obtain ⟨o_3, hi_3, hk_3⟩ := bind_some hf
  have hL_3 : ∀ (n : Nat) (f1 : Nat → Int32) (j5_2 : Int32) (H : Heap) (locs : List Loc) (ls : Array Slot), iter (fun st => m_Bytes_changeNumber_B3 a1 a2 a3 h0_count h0_held_n st.1 st.2) n (f1, j5_2) = some o_3 → va_P (dC, dI) vwCl [(h0, .inr (2, [.ref h0_held, .int h0_count])), (h0_held, .inl (cB, h0_held_n, .inl f1))] H → va_D A [(h0, .inr (2, [.ref h0_held, .int h0_count])), (h0_held, .inl (cB, h0_held_n, .inl f1))] → va_S A s.heap H locs → lv_has ls 7 [(0, .ref h0), (1, .int a1), (2, .long a2), (4, .int a3), (5, .int j5_2)] → W p l e (rm_Bytes_changeNumber) s m ([.ref h0, .int a1, .long a2, .int a3] : List Value).toArray below meth c H locs 0 0 Q (F0 m 3 ls []) := by
    intro n
    induction n with
    | zero => intro f1 j5_2 H locs ls hf; exact absurd hf (fun z => by cases z)
    | succ n ih_3 =>
      intro f1 j5_2 H locs ls hf hP hD hS hl
      obtain ⟨r_3, hf, hr_3⟩ := iter_succ hf
      have hf : m_Bytes_changeNumber_B3 a1 a2 a3 h0_count h0_held_n f1 j5_2 = some r_3 := hf
      unfold m_Bytes_changeNumber_B3 at hf
      refine lv_iload hx hb dX2_changeNumber_3 (lv_at hl 4 rfl) ?_
      refine lv_iload hx hb dX2_changeNumber_5 (lv_at hl 3 rfl) ?_
      refine lv_icmp_ge (tgt := 52) hx hb dX2_changeNumber_7 (by decide) (fun c_7 => ?_) (fun c_7 => ?_)
      · replace hf := if_t c_7 hf
        replace hf : some f1 = some o_h0_held_f := by have hq := hk_3; rw [iter_exit hf hr_3] at hq; exact hq
        obtain rfl := Option.some.inj hf
        exact rt_v hQ hx hb hr hlocks hP hD hS dX2_changeNumber_52
      · replace hf := if_f c_7 hf
        refine lv_iload_n hx hb dX2_changeNumber_10 rfl (lv_at hl 1 rfl) ?_
        refine lv_iload hx hb dX2_changeNumber_11 (lv_at hl 4 rfl) ?_
        refine lv_iadd hx hb dX2_changeNumber_13 ?_
        refine lv_topi (fun v6_3 e_v6_3 => ?_)
        replace hf := bnd_at e_v6_3 hf
        refine lv_istore (lv' := [(6, .int v6_3), (0, .ref h0), (1, .int a1), (2, .long a2), (4, .int a3), (5, .int j5_2)]) hx hb dX2_changeNumber_14 hl (by decide) rfl (fun ls hl => ?_)
        refine lv_iload hx hb dX2_changeNumber_16 (lv_at hl 0 rfl) ?_
        have hJ_46 : ∀ (f4 : Nat → Int32) (H : Heap) (locs : List Loc) (ls : Array Slot), m_Bytes_changeNumber_J46 j5_2 f4 = some r_3 → va_P (dC, dI) vwCl [(h0, .inr (2, [.ref h0_held, .int h0_count])), (h0_held, .inl (cB, h0_held_n, .inl f4))] H → va_D A [(h0, .inr (2, [.ref h0_held, .int h0_count])), (h0_held, .inl (cB, h0_held_n, .inl f4))] → va_S A s.heap H locs → lv_has ls 7 [(0, .ref h0), (1, .int a1), (2, .long a2), (4, .int a3), (5, .int j5_2)] → W p l e (rm_Bytes_changeNumber) s m ([.ref h0, .int a1, .long a2, .int a3] : List Value).toArray below meth c H locs 0 0 Q (F0 m 46 ls []) := by
          intro f4 H locs ls hf hP hD hS hl
          unfold m_Bytes_changeNumber_J46 at hf
          obtain ⟨v5_5, e_v5_5⟩ : ∃ y : Int32, y = (j5_2 + (1 : Int32)) := ⟨_, rfl⟩
          replace hf := bnd_at e_v5_5 hf
          refine lv_iinc (v := v5_5) (lv' := [(5, .int v5_5), (0, .ref h0), (1, .int a1), (2, .long a2), (4, .int a3)]) hx hb dX2_changeNumber_46 hl (k := 4) rfl (by rw [e_v5_5]; rfl) (by decide) rfl (fun ls hl => ?_)
          refine lv_goto (tgt := 3) hx hb dX2_changeNumber_49 (by decide) ?_
          exact ih_3 f4 v5_5 _ _ _ (iter_back hf hr_3) hP hD hS (lv_sub hl [1, 2, 3, 4, 0] rfl)
        refine lv_if_lt (tgt := 46) hx hb dX2_changeNumber_18 (by decide) (fun c_18 => ?_) (fun c_18 => ?_)
        · replace hf := if_t c_18 hf
          exact hJ_46 f1 _ _ _ hf hP hD hS (lv_sub hl [1, 2, 3, 4, 5] rfl)
        · replace hf := if_f c_18 hf
          refine lv_iload hx hb dX2_changeNumber_21 (lv_at hl 0 rfl) ?_
          refine lv_aload_n hx hb dX2_changeNumber_23 rfl (lv_at hl 1 rfl) ?_
          refine va_get (D := (dC, dI)) (ci := 2) (v := .int h0_count) (C := RX2) (T := TX2) (N := 2) hx hb hts inG_X2 hown hK hP 0 rfl rfl 1 (by decide) (hts _ kw_116) (fun _ h9 => h9) rfl dX2_changeNumber_24 ?_
          refine lv_icmp_ge (tgt := 46) hx hb dX2_changeNumber_27 (by decide) (fun c_27 => ?_) (fun c_27 => ?_)
          · replace hf := if_t c_27 hf
            exact hJ_46 f1 _ _ _ hf hP hD hS (lv_sub hl [1, 2, 3, 4, 5] rfl)
          · replace hf := if_f c_27 hf
            refine lv_aload_n hx hb dX2_changeNumber_30 rfl (lv_at hl 1 rfl) ?_
            refine va_get (D := (dC, dI)) (ci := 2) (v := .ref h0_held) (C := RX2) (T := TX2) (N := 2) hx hb hts inG_X2 hown hK hP 0 rfl rfl 0 (by decide) (hts _ kw_115) (fun _ h9 => h9) rfl dX2_changeNumber_31 ?_
            refine lv_iload hx hb dX2_changeNumber_34 (lv_at hl 0 rfl) ?_
            refine lv_lload_n hx hb dX2_changeNumber_36 rfl (lv_at hl 3 rfl) ?_
            refine lv_bipush (v := 8) hx hb dX2_changeNumber_37 (by decide) ?_
            refine lv_iload hx hb dX2_changeNumber_39 (lv_at hl 5 rfl) ?_
            refine lv_imul hx hb dX2_changeNumber_41 ?_
            refine lv_lushr (v := (lushr a2 ((8 : Int32) * j5_2))) hx hb dX2_changeNumber_42 rfl ?_
            refine lv_l2i (v := ((lushr a2 ((8 : Int32) * j5_2)).toInt32)) hx hb dX2_changeNumber_43 rfl ?_
            refine lv_i2b (v := (((lushr a2 ((8 : Int32) * j5_2)).toInt32).toInt8.toInt32)) hx hb dX2_changeNumber_44 rfl ?_
            obtain ⟨hin, hf⟩ := chk_some hf
            refine va_bast hx hb hK hP hD hS 1 0 rfl rfl hin dX2_changeNumber_45 (fun H locs hP hD hS => ?_)
            have hP : va_P (dC, dI) vwCl [(h0, .inr (2, [.ref h0_held, .int h0_count])), (h0_held, .inl (cB, h0_held_n, .inl (upd f1 v6_3.toNatClampNeg (vp_nar .byte (((lushr a2 ((8 : Int32) * j5_2)).toInt32).toInt8.toInt32)))))] H := hP
            have hD : va_D A [(h0, .inr (2, [.ref h0_held, .int h0_count])), (h0_held, .inl (cB, h0_held_n, .inl (upd f1 v6_3.toNatClampNeg (vp_nar .byte (((lushr a2 ((8 : Int32) * j5_2)).toInt32).toInt8.toInt32)))))] := hD
            exact hJ_46 (upd f1 v6_3.toNatClampNeg (vp_nar .byte (((lushr a2 ((8 : Int32) * j5_2)).toInt32).toInt8.toInt32))) _ _ _ hf hP hD hS (lv_sub hl [1, 2, 3, 4, 5] rfl)
  exact hL_3 FU h0_held_f (0 : Int32) _ _ _ hi_3 hP hD hS (lv_sub hl [1, 2, 3, 4, 0] rfl)

theorem dX2_addHighestFirst_0 : decode cX2_addHighestFirst 0 = .ok (.bipush 24, 2) := by decide +kernel
theorem dX2_addHighestFirst_2 : decode cX2_addHighestFirst 2 = .ok (.istore_n 2, 1) := by decide +kernel
theorem dX2_addHighestFirst_3 : decode cX2_addHighestFirst 3 = .ok (.iload_n 2, 1) := by decide +kernel
theorem dX2_addHighestFirst_4 : decode cX2_addHighestFirst 4 = .ok (.ifCond .lt 16, 3) := by decide +kernel
theorem dX2_addHighestFirst_7 : decode cX2_addHighestFirst 7 = .ok (.aload_n 0, 1) := by decide +kernel
theorem dX2_addHighestFirst_8 : decode cX2_addHighestFirst 8 = .ok (.iload_n 1, 1) := by decide +kernel
theorem dX2_addHighestFirst_9 : decode cX2_addHighestFirst 9 = .ok (.iload_n 2, 1) := by decide +kernel
theorem dX2_addHighestFirst_10 : decode cX2_addHighestFirst 10 = .ok (.iushr, 1) := by decide +kernel
theorem dX2_addHighestFirst_11 : decode cX2_addHighestFirst 11 = .ok (.invokevirtual 27, 3) := by decide +kernel
theorem dX2_addHighestFirst_14 : decode cX2_addHighestFirst 14 = .ok (.iinc 2 (-8), 3) := by decide +kernel
theorem dX2_addHighestFirst_17 : decode cX2_addHighestFirst 17 = .ok (.goto (-14), 3) := by decide +kernel
theorem dX2_addHighestFirst_20 : decode cX2_addHighestFirst 20 = .ok (.return_, 1) := by decide +kernel
def m_Bytes_addHighestFirst_B3 (a1 : Int32) (h0_held_n : Nat) (f1 : Nat → Int32) (g2 : Int32) (j2_3 : Int32) : Option (((Nat → Int32) × Int32 × Int32) ⊕ ((((Int32 × (Nat → Int32)))))) :=
  if j2_3 < 0 then
    some (.inr (g2, f1))
  else
    (m_Bytes_add (iushr a1 j2_3) g2 h0_held_n f1).bind fun (u4, u5) =>
    bnd (j2_3 + (-8 : Int32)) fun v2_6 =>
    some (.inl (u5, u4, v2_6))
def m_Bytes_addHighestFirst (a1 : Int32) (h0_count : Int32) (h0_held_n : Nat) (h0_held_f : Nat → Int32) : Option (Int32 × (Nat → Int32)) :=
  (iter (fun st => m_Bytes_addHighestFirst_B3 a1 h0_held_n st.1 st.2.1 st.2.2) FU (h0_held_f, h0_count, (24 : Int32))).bind fun o => some o
def rm_Bytes_addHighestFirst : Room := { frames := 1, cells := 0, slots := 0, locals := 21 }
set_option maxHeartbeats 4000000 in
set_option maxRecDepth 100000 in
theorem c_Bytes_addHighestFirst {l : Launch} {dC : Nat → ClassId} {dI : Nat → Nat → Nat} {cB cI : ClassId} {sz : Nat} {h0 : Nat} {a1 : Int32} {h0_held : Nat} {h0_count : Int32} {h0_held_n : Nat} {h0_held_f : Nat → Int32} {o_h0_count : Int32} {o_h0_held_f : Nat → Int32} (hf : m_Bytes_addHighestFirst a1 h0_count h0_held_n h0_held_f = some (o_h0_count, o_h0_held_f)) : Met l yX2_addHighestFirst (Cond.code yX2_addHighestFirst cX2_addHighestFirst 3 none :: lw_G) rm_Bytes_addHighestFirst (PreC (dC, dI) [(cB, .byte), (cI, .int)] [.ref h0, .int a1] sz [(h0, .inr (2, [.ref h0_held, .int h0_count])), (h0_held, .inl (cB, h0_held_n, .inl h0_held_f))]) (QcV (dC, dI) [(h0, .inr (2, [.ref h0_held, .int o_h0_count])), (h0_held, .inl (cB, h0_held_n, .inl o_h0_held_f))] (va_A [(h0, .inr (2, [.ref h0_held, .int h0_count])), (h0_held, .inl (cB, h0_held_n, .inl h0_held_f))] sz)) 0 0 (va_A [(h0, .inr (2, [.ref h0_held, .int h0_count])), (h0_held, .inl (cB, h0_held_n, .inl h0_held_f))] sz) := by
  refine met_of (Qf := fun A => QcV (dC, dI) [(h0, .inr (2, [.ref h0_held, .int o_h0_count])), (h0_held, .inl (cB, h0_held_n, .inl o_h0_held_f))] A) (by decide) (Nat.le_of_ble_eq_true rfl) ?_
  intro p e s m below meth c A ls Q hx hb hr hml hown hts hlocks hnm hP hK hD hN hT hA hl hQ
  have hown : s.vm.findClass RX2 = some m.cls := hown
  have hS : va_S A s.heap s.heap [] := va_S.rf
  have hl : lv_has ls 3 [(0, .ref h0), (1, .int a1)] := hl
  unfold m_Bytes_addHighestFirst at hf
  refine lv_bipush (v := 24) hx hb dX2_addHighestFirst_0 (by decide) ?_
  refine lv_istore_n (lv' := [(2, .int (24 : Int32)), (0, .ref h0), (1, .int a1)]) hx hb dX2_addHighestFirst_2 rfl hl (by decide) rfl (fun ls hl => ?_)
  obtain ⟨o_3, hi_3, hk_3⟩ := bind_some hf
  have hL_3 : ∀ (n : Nat) (f1 : Nat → Int32) (g2 : Int32) (j2_3 : Int32) (H : Heap) (locs : List Loc) (ls : Array Slot), iter (fun st => m_Bytes_addHighestFirst_B3 a1 h0_held_n st.1 st.2.1 st.2.2) n (f1, g2, j2_3) = some o_3 → va_P (dC, dI) vwCl [(h0, .inr (2, [.ref h0_held, .int g2])), (h0_held, .inl (cB, h0_held_n, .inl f1))] H → va_D A [(h0, .inr (2, [.ref h0_held, .int g2])), (h0_held, .inl (cB, h0_held_n, .inl f1))] → va_S A s.heap H locs → lv_has ls 3 [(0, .ref h0), (1, .int a1), (2, .int j2_3)] → W p l e (rm_Bytes_addHighestFirst) s m ([.ref h0, .int a1] : List Value).toArray below meth c H locs 0 0 Q (F0 m 3 ls []) := by
    intro n
    induction n with
    | zero => intro f1 g2 j2_3 H locs ls hf; exact absurd hf (fun z => by cases z)
    | succ n ih_3 =>
      intro f1 g2 j2_3 H locs ls hf hP hD hS hl
      obtain ⟨r_3, hf, hr_3⟩ := iter_succ hf
      have hf : m_Bytes_addHighestFirst_B3 a1 h0_held_n f1 g2 j2_3 = some r_3 := hf
      unfold m_Bytes_addHighestFirst_B3 at hf
      refine lv_iload_n hx hb dX2_addHighestFirst_3 rfl (lv_at hl 2 rfl) ?_
      refine lv_if_lt (tgt := 20) hx hb dX2_addHighestFirst_4 (by decide) (fun c_4 => ?_) (fun c_4 => ?_)
      · replace hf := if_t c_4 hf
        replace hf : some (g2, f1) = some (o_h0_count, o_h0_held_f) := by have hq := hk_3; rw [iter_exit hf hr_3] at hq; exact hq
        obtain ⟨rfl, hq_1⟩ := Prod.mk.inj (Option.some.inj hf)
        obtain rfl := hq_1
        exact rt_v hQ hx hb hr hlocks hP hD hS dX2_addHighestFirst_20
      · replace hf := if_f c_4 hf
        refine lv_aload_n hx hb dX2_addHighestFirst_7 rfl (lv_at hl 0 rfl) ?_
        refine lv_iload_n hx hb dX2_addHighestFirst_8 rfl (lv_at hl 1 rfl) ?_
        refine lv_iload_n hx hb dX2_addHighestFirst_9 rfl (lv_at hl 2 rfl) ?_
        refine lv_iushr (v := (iushr a1 j2_3)) hx hb dX2_addHighestFirst_10 rfl ?_
        obtain ⟨x, hc, hf⟩ := bind_some hf
        obtain ⟨u4, u5⟩ := x
        dsimp only at hf
        refine nx_v (rn_V (As := [.int (iushr a1 j2_3)]) (rest := []) (n := 1) (ci := 2) (q0 := 0) ⟨hx, hb, hml, hown, hts⟩ (c_Bytes_add (l := l) (dC := dC) (dI := dI) (cB := cB) (cI := cI) (h0 := h0) (a1 := (iushr a1 j2_3)) (h0_held := h0_held) (h0_count := g2) (h0_held_n := h0_held_n) (h0_held_f := f1) (o_h0_count := u4) (o_h0_held_f := u5) hc) (wV kw_397 kw_398 kw_399 kw_83 kw_400) (by decide +kernel) ⟨Nat.le_of_ble_eq_true rfl, Nat.le_of_ble_eq_true rfl⟩ hK hP hD hN hT hS (va_free (wc := [(h0, .inr (2, [.ref h0_held, .int g2])), (h0_held, .inl (cB, h0_held_n, .inl f1))]) hD hS hA [0, 1] rfl) [0, 1] rfl (by decide) rfl rfl rfl hl.1 rfl (lv_room (Nat.le_of_ble_eq_true rfl)) dX2_addHighestFirst_11 ⟨Nat.le_of_ble_eq_true rfl, Nat.le_of_ble_eq_true rfl⟩) hP hD hS hA (wr := []) (w1 := [(h0, .inr (2, [.ref h0_held, .int u4])), (h0_held, .inl (cB, h0_held_n, .inl u5))]) (ws' := [(h0, .inr (2, [.ref h0_held, .int u4])), (h0_held, .inl (cB, h0_held_n, .inl u5))]) [0, 1] [] [0, 1] rfl rfl (by decide) (by decide) rfl (by decide) (fun H locs hP hD hS => ?_)
        obtain ⟨v2_6, e_v2_6⟩ : ∃ y : Int32, y = (j2_3 + (-8 : Int32)) := ⟨_, rfl⟩
        replace hf := bnd_at e_v2_6 hf
        refine lv_iinc (v := v2_6) (lv' := [(2, .int v2_6), (0, .ref h0), (1, .int a1)]) hx hb dX2_addHighestFirst_14 hl (k := 2) rfl (by rw [e_v2_6]; rfl) (by decide) rfl (fun ls hl => ?_)
        refine lv_goto (tgt := 3) hx hb dX2_addHighestFirst_17 (by decide) ?_
        exact ih_3 u5 u4 v2_6 _ _ _ (iter_back hf hr_3) hP hD hS (lv_sub hl [1, 2, 0] rfl)
  exact hL_3 FU h0_held_f h0_count (24 : Int32) _ _ _ hi_3 hP hD hS (lv_sub hl [1, 2, 0] rfl)

theorem dX2_addArray_0 : decode cX2_addArray 0 = .ok (.iload_n 2, 1) := by decide +kernel
theorem dX2_addArray_1 : decode cX2_addArray 1 = .ok (.ifCond .lt 53, 3) := by decide +kernel
theorem dX2_addArray_4 : decode cX2_addArray 4 = .ok (.iload_n 3, 1) := by decide +kernel
theorem dX2_addArray_5 : decode cX2_addArray 5 = .ok (.ifCond .lt 49, 3) := by decide +kernel
theorem dX2_addArray_8 : decode cX2_addArray 8 = .ok (.iload_n 3, 1) := by decide +kernel
theorem dX2_addArray_9 : decode cX2_addArray 9 = .ok (.aload_n 1, 1) := by decide +kernel
theorem dX2_addArray_10 : decode cX2_addArray 10 = .ok (.arraylength, 1) := by decide +kernel
theorem dX2_addArray_11 : decode cX2_addArray 11 = .ok (.iload_n 2, 1) := by decide +kernel
theorem dX2_addArray_12 : decode cX2_addArray 12 = .ok (.isub, 1) := by decide +kernel
theorem dX2_addArray_13 : decode cX2_addArray 13 = .ok (.if_icmp .gt 41, 3) := by decide +kernel
theorem dX2_addArray_16 : decode cX2_addArray 16 = .ok (.iload_n 3, 1) := by decide +kernel
theorem dX2_addArray_17 : decode cX2_addArray 17 = .ok (.aload_n 0, 1) := by decide +kernel
theorem dX2_addArray_18 : decode cX2_addArray 18 = .ok (.getfield 13, 3) := by decide +kernel
theorem dX2_addArray_21 : decode cX2_addArray 21 = .ok (.arraylength, 1) := by decide +kernel
theorem dX2_addArray_22 : decode cX2_addArray 22 = .ok (.aload_n 0, 1) := by decide +kernel
theorem dX2_addArray_23 : decode cX2_addArray 23 = .ok (.getfield 19, 3) := by decide +kernel
theorem dX2_addArray_26 : decode cX2_addArray 26 = .ok (.isub, 1) := by decide +kernel
theorem dX2_addArray_27 : decode cX2_addArray 27 = .ok (.if_icmp .gt 27, 3) := by decide +kernel
theorem dX2_addArray_30 : decode cX2_addArray 30 = .ok (.aload_n 1, 1) := by decide +kernel
theorem dX2_addArray_31 : decode cX2_addArray 31 = .ok (.iload_n 2, 1) := by decide +kernel
theorem dX2_addArray_32 : decode cX2_addArray 32 = .ok (.aload_n 0, 1) := by decide +kernel
theorem dX2_addArray_33 : decode cX2_addArray 33 = .ok (.getfield 13, 3) := by decide +kernel
theorem dX2_addArray_36 : decode cX2_addArray 36 = .ok (.aload_n 0, 1) := by decide +kernel
theorem dX2_addArray_37 : decode cX2_addArray 37 = .ok (.getfield 19, 3) := by decide +kernel
theorem dX2_addArray_40 : decode cX2_addArray 40 = .ok (.iload_n 3, 1) := by decide +kernel
theorem dX2_addArray_41 : decode cX2_addArray 41 = .ok (.invokestatic 31, 3) := by decide +kernel
theorem dX2_addArray_44 : decode cX2_addArray 44 = .ok (.aload_n 0, 1) := by decide +kernel
theorem dX2_addArray_45 : decode cX2_addArray 45 = .ok (.dup, 1) := by decide +kernel
theorem dX2_addArray_46 : decode cX2_addArray 46 = .ok (.getfield 19, 3) := by decide +kernel
theorem dX2_addArray_49 : decode cX2_addArray 49 = .ok (.iload_n 3, 1) := by decide +kernel
theorem dX2_addArray_50 : decode cX2_addArray 50 = .ok (.iadd, 1) := by decide +kernel
theorem dX2_addArray_51 : decode cX2_addArray 51 = .ok (.putfield 19, 3) := by decide +kernel
theorem dX2_addArray_54 : decode cX2_addArray 54 = .ok (.return_, 1) := by decide +kernel
def m_Bytes_addArray (a2 : Int32) (a3 : Int32) (h0_count : Int32) (h1_n : Nat) (h1_f : Nat → Int32) (h0_held_n : Nat) (h0_held_f : Nat → Int32) : Option (Int32 × (Nat → Int32)) :=
  if a2 < 0 then
    some (h0_count, h0_held_f)
  else
    if a3 < 0 then
      some (h0_count, h0_held_f)
    else
      if ((nI h1_n) - a2) < a3 then
        some (h0_count, h0_held_f)
      else
        if ((nI h0_held_n) - h0_count) < a3 then
          some (h0_count, h0_held_f)
        else
          acb h1_n h0_held_n h1_f h0_held_f a2 h0_count a3 fun f1 =>
          bnd (h0_count + a3) fun p_2 =>
          some (p_2, f1)
def rm_Bytes_addArray : Room := { frames := 1, cells := 0, slots := 0, locals := 40 }
set_option maxHeartbeats 4000000 in
set_option maxRecDepth 100000 in
theorem c_Bytes_addArray {l : Launch} {dC : Nat → ClassId} {dI : Nat → Nat → Nat} {cB cI : ClassId} {sz : Nat} {h0 : Nat} {h1 : Nat} {a2 : Int32} {a3 : Int32} {h0_held : Nat} {h0_count : Int32} {h1_n : Nat} {h1_f : Nat → Int32} {h0_held_n : Nat} {h0_held_f : Nat → Int32} {o_h0_count : Int32} {o_h0_held_f : Nat → Int32} (hf : m_Bytes_addArray a2 a3 h0_count h1_n h1_f h0_held_n h0_held_f = some (o_h0_count, o_h0_held_f)) : Met l yX2_addArray (Cond.code yX2_addArray cX2_addArray 4 none :: lw_G) rm_Bytes_addArray (PreC (dC, dI) [(cB, .byte), (cI, .int)] [.ref h0, .ref h1, .int a2, .int a3] sz [(h0, .inr (2, [.ref h0_held, .int h0_count])), (h1, .inl (cB, h1_n, .inl h1_f)), (h0_held, .inl (cB, h0_held_n, .inl h0_held_f))]) (QcV (dC, dI) [(h0, .inr (2, [.ref h0_held, .int o_h0_count])), (h1, .inl (cB, h1_n, .inl h1_f)), (h0_held, .inl (cB, h0_held_n, .inl o_h0_held_f))] (va_A [(h0, .inr (2, [.ref h0_held, .int h0_count])), (h1, .inl (cB, h1_n, .inl h1_f)), (h0_held, .inl (cB, h0_held_n, .inl h0_held_f))] sz)) 0 0 (va_A [(h0, .inr (2, [.ref h0_held, .int h0_count])), (h1, .inl (cB, h1_n, .inl h1_f)), (h0_held, .inl (cB, h0_held_n, .inl h0_held_f))] sz) := by
  refine met_of (Qf := fun A => QcV (dC, dI) [(h0, .inr (2, [.ref h0_held, .int o_h0_count])), (h1, .inl (cB, h1_n, .inl h1_f)), (h0_held, .inl (cB, h0_held_n, .inl o_h0_held_f))] A) (by decide) (Nat.le_of_ble_eq_true rfl) ?_
  intro p e s m below meth c A ls Q hx hb hr hml hown hts hlocks hnm hP hK hD hN hT hA hl hQ
  have hown : s.vm.findClass RX2 = some m.cls := hown
  have hS : va_S A s.heap s.heap [] := va_S.rf
  have hl : lv_has ls 4 [(0, .ref h0), (1, .ref h1), (2, .int a2), (3, .int a3)] := hl
  unfold m_Bytes_addArray at hf
  refine lv_iload_n hx hb dX2_addArray_0 rfl (lv_at hl 2 rfl) ?_
  refine lv_if_lt (tgt := 54) hx hb dX2_addArray_1 (by decide) (fun c_1 => ?_) (fun c_1 => ?_)
  · replace hf := if_t c_1 hf
    obtain ⟨rfl, hq_1⟩ := Prod.mk.inj (Option.some.inj hf)
    obtain rfl := hq_1
    exact rt_v hQ hx hb hr hlocks hP hD hS dX2_addArray_54
  · replace hf := if_f c_1 hf
    refine lv_iload_n hx hb dX2_addArray_4 rfl (lv_at hl 3 rfl) ?_
    refine lv_if_lt (tgt := 54) hx hb dX2_addArray_5 (by decide) (fun c_5 => ?_) (fun c_5 => ?_)
    · replace hf := if_t c_5 hf
      obtain ⟨rfl, hq_1⟩ := Prod.mk.inj (Option.some.inj hf)
      obtain rfl := hq_1
      exact rt_v hQ hx hb hr hlocks hP hD hS dX2_addArray_54
    · replace hf := if_f c_5 hf
      refine lv_iload_n hx hb dX2_addArray_8 rfl (lv_at hl 3 rfl) ?_
      refine lv_aload_n hx hb dX2_addArray_9 rfl (lv_at hl 1 rfl) ?_
      refine va_alen (v := nI h1_n) hx hb hK hP 1 0 rfl rfl rfl dX2_addArray_10 ?_
      refine lv_iload_n hx hb dX2_addArray_11 rfl (lv_at hl 2 rfl) ?_
      refine lv_isub hx hb dX2_addArray_12 ?_
      refine lv_icmp_gt (tgt := 54) hx hb dX2_addArray_13 (by decide) (fun c_13 => ?_) (fun c_13 => ?_)
      · replace hf := if_t c_13 hf
        obtain ⟨rfl, hq_1⟩ := Prod.mk.inj (Option.some.inj hf)
        obtain rfl := hq_1
        exact rt_v hQ hx hb hr hlocks hP hD hS dX2_addArray_54
      · replace hf := if_f c_13 hf
        refine lv_iload_n hx hb dX2_addArray_16 rfl (lv_at hl 3 rfl) ?_
        refine lv_aload_n hx hb dX2_addArray_17 rfl (lv_at hl 0 rfl) ?_
        refine va_get (D := (dC, dI)) (ci := 2) (v := .ref h0_held) (C := RX2) (T := TX2) (N := 2) hx hb hts inG_X2 hown hK hP 0 rfl rfl 0 (by decide) (hts _ kw_115) (fun _ h9 => h9) rfl dX2_addArray_18 ?_
        refine va_alen (v := nI h0_held_n) hx hb hK hP 2 0 rfl rfl rfl dX2_addArray_21 ?_
        refine lv_aload_n hx hb dX2_addArray_22 rfl (lv_at hl 0 rfl) ?_
        refine va_get (D := (dC, dI)) (ci := 2) (v := .int h0_count) (C := RX2) (T := TX2) (N := 2) hx hb hts inG_X2 hown hK hP 0 rfl rfl 1 (by decide) (hts _ kw_116) (fun _ h9 => h9) rfl dX2_addArray_23 ?_
        refine lv_isub hx hb dX2_addArray_26 ?_
        refine lv_icmp_gt (tgt := 54) hx hb dX2_addArray_27 (by decide) (fun c_27 => ?_) (fun c_27 => ?_)
        · replace hf := if_t c_27 hf
          obtain ⟨rfl, hq_1⟩ := Prod.mk.inj (Option.some.inj hf)
          obtain rfl := hq_1
          exact rt_v hQ hx hb hr hlocks hP hD hS dX2_addArray_54
        · replace hf := if_f c_27 hf
          refine lv_aload_n hx hb dX2_addArray_30 rfl (lv_at hl 1 rfl) ?_
          refine lv_iload_n hx hb dX2_addArray_31 rfl (lv_at hl 2 rfl) ?_
          refine lv_aload_n hx hb dX2_addArray_32 rfl (lv_at hl 0 rfl) ?_
          refine va_get (D := (dC, dI)) (ci := 2) (v := .ref h0_held) (C := RX2) (T := TX2) (N := 2) hx hb hts inG_X2 hown hK hP 0 rfl rfl 0 (by decide) (hts _ kw_115) (fun _ h9 => h9) rfl dX2_addArray_33 ?_
          refine lv_aload_n hx hb dX2_addArray_36 rfl (lv_at hl 0 rfl) ?_
          refine va_get (D := (dC, dI)) (ci := 2) (v := .int h0_count) (C := RX2) (T := TX2) (N := 2) hx hb hts inG_X2 hown hK hP 0 rfl rfl 1 (by decide) (hts _ kw_116) (fun _ h9 => h9) rfl dX2_addArray_37 ?_
          refine lv_iload_n hx hb dX2_addArray_40 rfl (lv_at hl 3 rfl) ?_
          obtain ⟨⟨hc1, hc2, hc3, hc4, hc5, hc6⟩, hf⟩ := acb_some hf
          refine va_copyi (ty := .byte) hx hb (hml.trans hl.1.symm) hown (hts _ kw_434) (hts _ kw_436) (hts _ kw_435) (hts _ kw_95) hK hP hD hS 1 2 0 0 rfl rfl rfl rfl rfl hc1 hc2 hc3 hc4 hc5 hc6 (Nat.le_of_ble_eq_true rfl) (Nat.le_of_ble_eq_true rfl) dX2_addArray_41 (fun H locs hP hD hS => ?_)
          have hP : va_P (dC, dI) vwCl [(h0, .inr (2, [.ref h0_held, .int h0_count])), (h1, .inl (cB, h1_n, .inl h1_f)), (h0_held, .inl (cB, h0_held_n, .inl (va_cpy h1_f h0_held_f a2.toNatClampNeg h0_count.toNatClampNeg a3.toNatClampNeg)))] H := hP
          have hD : va_D A [(h0, .inr (2, [.ref h0_held, .int h0_count])), (h1, .inl (cB, h1_n, .inl h1_f)), (h0_held, .inl (cB, h0_held_n, .inl (va_cpy h1_f h0_held_f a2.toNatClampNeg h0_count.toNatClampNeg a3.toNatClampNeg)))] := hD
          generalize (va_cpy h1_f h0_held_f a2.toNatClampNeg h0_count.toNatClampNeg a3.toNatClampNeg) = f1 at hP hD hf
          refine lv_aload_n hx hb dX2_addArray_44 rfl (lv_at hl 0 rfl) ?_
          refine lv_dup hx hb dX2_addArray_45 rfl ?_
          refine va_get (D := (dC, dI)) (ci := 2) (v := .int h0_count) (C := RX2) (T := TX2) (N := 2) hx hb hts inG_X2 hown hK hP 0 rfl rfl 1 (by decide) (hts _ kw_116) (fun _ h9 => h9) rfl dX2_addArray_46 ?_
          refine lv_iload_n hx hb dX2_addArray_49 rfl (lv_at hl 3 rfl) ?_
          refine lv_iadd hx hb dX2_addArray_50 ?_
          refine lv_topi (fun p_2 e_p_2 => ?_)
          replace hf := bnd_at e_p_2 hf
          refine va_put (D := (dC, dI)) (ci := 2) (v := .int p_2) (ty := .int) (C := RX2) (T := TX2) (N := 2) hx hb hts inG_X2 tyX2 tyX2_ok nmX2 hown hK hP hD hS 0 rfl rfl 1 (by decide) (hts _ kw_116) (fun _ h9 => h9) rfl (by decide +kernel) rfl rfl (Nat.le_of_ble_eq_true rfl) dX2_addArray_51 (fun H locs hP hD hS => ?_)
          have hP : va_P (dC, dI) vwCl [(h0, .inr (2, [.ref h0_held, .int p_2])), (h1, .inl (cB, h1_n, .inl h1_f)), (h0_held, .inl (cB, h0_held_n, .inl f1))] H := hP
          have hD : va_D A [(h0, .inr (2, [.ref h0_held, .int p_2])), (h1, .inl (cB, h1_n, .inl h1_f)), (h0_held, .inl (cB, h0_held_n, .inl f1))] := hD
          obtain ⟨rfl, hq_1⟩ := Prod.mk.inj (Option.some.inj hf)
          obtain rfl := hq_1
          exact rt_v hQ hx hb hr hlocks hP hD hS dX2_addArray_54

theorem dX2_addRange_0 : decode cX2_addRange 0 = .ok (.iload_n 2, 1) := by decide +kernel
theorem dX2_addRange_1 : decode cX2_addRange 1 = .ok (.ifCond .lt 58, 3) := by decide +kernel
theorem dX2_addRange_4 : decode cX2_addRange 4 = .ok (.iload_n 3, 1) := by decide +kernel
theorem dX2_addRange_5 : decode cX2_addRange 5 = .ok (.ifCond .lt 54, 3) := by decide +kernel
theorem dX2_addRange_8 : decode cX2_addRange 8 = .ok (.iload_n 3, 1) := by decide +kernel
theorem dX2_addRange_9 : decode cX2_addRange 9 = .ok (.aload_n 1, 1) := by decide +kernel
theorem dX2_addRange_10 : decode cX2_addRange 10 = .ok (.getfield 19, 3) := by decide +kernel
theorem dX2_addRange_13 : decode cX2_addRange 13 = .ok (.iload_n 2, 1) := by decide +kernel
theorem dX2_addRange_14 : decode cX2_addRange 14 = .ok (.isub, 1) := by decide +kernel
theorem dX2_addRange_15 : decode cX2_addRange 15 = .ok (.if_icmp .gt 44, 3) := by decide +kernel
theorem dX2_addRange_18 : decode cX2_addRange 18 = .ok (.iload_n 3, 1) := by decide +kernel
theorem dX2_addRange_19 : decode cX2_addRange 19 = .ok (.aload_n 0, 1) := by decide +kernel
theorem dX2_addRange_20 : decode cX2_addRange 20 = .ok (.getfield 13, 3) := by decide +kernel
theorem dX2_addRange_23 : decode cX2_addRange 23 = .ok (.arraylength, 1) := by decide +kernel
theorem dX2_addRange_24 : decode cX2_addRange 24 = .ok (.aload_n 0, 1) := by decide +kernel
theorem dX2_addRange_25 : decode cX2_addRange 25 = .ok (.getfield 19, 3) := by decide +kernel
theorem dX2_addRange_28 : decode cX2_addRange 28 = .ok (.isub, 1) := by decide +kernel
theorem dX2_addRange_29 : decode cX2_addRange 29 = .ok (.if_icmp .gt 30, 3) := by decide +kernel
theorem dX2_addRange_32 : decode cX2_addRange 32 = .ok (.aload_n 1, 1) := by decide +kernel
theorem dX2_addRange_33 : decode cX2_addRange 33 = .ok (.getfield 13, 3) := by decide +kernel
theorem dX2_addRange_36 : decode cX2_addRange 36 = .ok (.iload_n 2, 1) := by decide +kernel
theorem dX2_addRange_37 : decode cX2_addRange 37 = .ok (.aload_n 0, 1) := by decide +kernel
theorem dX2_addRange_38 : decode cX2_addRange 38 = .ok (.getfield 13, 3) := by decide +kernel
theorem dX2_addRange_41 : decode cX2_addRange 41 = .ok (.aload_n 0, 1) := by decide +kernel
theorem dX2_addRange_42 : decode cX2_addRange 42 = .ok (.getfield 19, 3) := by decide +kernel
theorem dX2_addRange_45 : decode cX2_addRange 45 = .ok (.iload_n 3, 1) := by decide +kernel
theorem dX2_addRange_46 : decode cX2_addRange 46 = .ok (.invokestatic 31, 3) := by decide +kernel
theorem dX2_addRange_49 : decode cX2_addRange 49 = .ok (.aload_n 0, 1) := by decide +kernel
theorem dX2_addRange_50 : decode cX2_addRange 50 = .ok (.dup, 1) := by decide +kernel
theorem dX2_addRange_51 : decode cX2_addRange 51 = .ok (.getfield 19, 3) := by decide +kernel
theorem dX2_addRange_54 : decode cX2_addRange 54 = .ok (.iload_n 3, 1) := by decide +kernel
theorem dX2_addRange_55 : decode cX2_addRange 55 = .ok (.iadd, 1) := by decide +kernel
theorem dX2_addRange_56 : decode cX2_addRange 56 = .ok (.putfield 19, 3) := by decide +kernel
theorem dX2_addRange_59 : decode cX2_addRange 59 = .ok (.return_, 1) := by decide +kernel
def m_Bytes_addRange (a2 : Int32) (a3 : Int32) (h0_count : Int32) (h1_count : Int32) (h0_held_n : Nat) (h0_held_f : Nat → Int32) (h1_held_n : Nat) (h1_held_f : Nat → Int32) : Option (Int32 × (Nat → Int32)) :=
  if a2 < 0 then
    some (h0_count, h0_held_f)
  else
    if a3 < 0 then
      some (h0_count, h0_held_f)
    else
      if (h1_count - a2) < a3 then
        some (h0_count, h0_held_f)
      else
        if ((nI h0_held_n) - h0_count) < a3 then
          some (h0_count, h0_held_f)
        else
          acb h1_held_n h0_held_n h1_held_f h0_held_f a2 h0_count a3 fun f1 =>
          bnd (h0_count + a3) fun p_2 =>
          some (p_2, f1)
def rm_Bytes_addRange : Room := { frames := 1, cells := 0, slots := 0, locals := 40 }
set_option maxHeartbeats 4000000 in
set_option maxRecDepth 100000 in
theorem c_Bytes_addRange {l : Launch} {dC : Nat → ClassId} {dI : Nat → Nat → Nat} {cB cI : ClassId} {sz : Nat} {h0 : Nat} {h1 : Nat} {a2 : Int32} {a3 : Int32} {h0_held : Nat} {h1_held : Nat} {h0_count : Int32} {h1_count : Int32} {h0_held_n : Nat} {h0_held_f : Nat → Int32} {h1_held_n : Nat} {h1_held_f : Nat → Int32} {o_h0_count : Int32} {o_h0_held_f : Nat → Int32} (hf : m_Bytes_addRange a2 a3 h0_count h1_count h0_held_n h0_held_f h1_held_n h1_held_f = some (o_h0_count, o_h0_held_f)) : Met l yX2_addRange (Cond.code yX2_addRange cX2_addRange 4 none :: lw_G) rm_Bytes_addRange (PreC (dC, dI) [(cB, .byte), (cI, .int)] [.ref h0, .ref h1, .int a2, .int a3] sz [(h0, .inr (2, [.ref h0_held, .int h0_count])), (h1, .inr (2, [.ref h1_held, .int h1_count])), (h0_held, .inl (cB, h0_held_n, .inl h0_held_f)), (h1_held, .inl (cB, h1_held_n, .inl h1_held_f))]) (QcV (dC, dI) [(h0, .inr (2, [.ref h0_held, .int o_h0_count])), (h1, .inr (2, [.ref h1_held, .int h1_count])), (h0_held, .inl (cB, h0_held_n, .inl o_h0_held_f)), (h1_held, .inl (cB, h1_held_n, .inl h1_held_f))] (va_A [(h0, .inr (2, [.ref h0_held, .int h0_count])), (h1, .inr (2, [.ref h1_held, .int h1_count])), (h0_held, .inl (cB, h0_held_n, .inl h0_held_f)), (h1_held, .inl (cB, h1_held_n, .inl h1_held_f))] sz)) 0 0 (va_A [(h0, .inr (2, [.ref h0_held, .int h0_count])), (h1, .inr (2, [.ref h1_held, .int h1_count])), (h0_held, .inl (cB, h0_held_n, .inl h0_held_f)), (h1_held, .inl (cB, h1_held_n, .inl h1_held_f))] sz) := by
  refine met_of (Qf := fun A => QcV (dC, dI) [(h0, .inr (2, [.ref h0_held, .int o_h0_count])), (h1, .inr (2, [.ref h1_held, .int h1_count])), (h0_held, .inl (cB, h0_held_n, .inl o_h0_held_f)), (h1_held, .inl (cB, h1_held_n, .inl h1_held_f))] A) (by decide) (Nat.le_of_ble_eq_true rfl) ?_
  intro p e s m below meth c A ls Q hx hb hr hml hown hts hlocks hnm hP hK hD hN hT hA hl hQ
  have hown : s.vm.findClass RX2 = some m.cls := hown
  have hS : va_S A s.heap s.heap [] := va_S.rf
  have hl : lv_has ls 4 [(0, .ref h0), (1, .ref h1), (2, .int a2), (3, .int a3)] := hl
  unfold m_Bytes_addRange at hf
  refine lv_iload_n hx hb dX2_addRange_0 rfl (lv_at hl 2 rfl) ?_
  refine lv_if_lt (tgt := 59) hx hb dX2_addRange_1 (by decide) (fun c_1 => ?_) (fun c_1 => ?_)
  · replace hf := if_t c_1 hf
    obtain ⟨rfl, hq_1⟩ := Prod.mk.inj (Option.some.inj hf)
    obtain rfl := hq_1
    exact rt_v hQ hx hb hr hlocks hP hD hS dX2_addRange_59
  · replace hf := if_f c_1 hf
    refine lv_iload_n hx hb dX2_addRange_4 rfl (lv_at hl 3 rfl) ?_
    refine lv_if_lt (tgt := 59) hx hb dX2_addRange_5 (by decide) (fun c_5 => ?_) (fun c_5 => ?_)
    · replace hf := if_t c_5 hf
      obtain ⟨rfl, hq_1⟩ := Prod.mk.inj (Option.some.inj hf)
      obtain rfl := hq_1
      exact rt_v hQ hx hb hr hlocks hP hD hS dX2_addRange_59
    · replace hf := if_f c_5 hf
      refine lv_iload_n hx hb dX2_addRange_8 rfl (lv_at hl 3 rfl) ?_
      refine lv_aload_n hx hb dX2_addRange_9 rfl (lv_at hl 1 rfl) ?_
      refine va_get (D := (dC, dI)) (ci := 2) (v := .int h1_count) (C := RX2) (T := TX2) (N := 2) hx hb hts inG_X2 hown hK hP 1 rfl rfl 1 (by decide) (hts _ kw_116) (fun _ h9 => h9) rfl dX2_addRange_10 ?_
      refine lv_iload_n hx hb dX2_addRange_13 rfl (lv_at hl 2 rfl) ?_
      refine lv_isub hx hb dX2_addRange_14 ?_
      refine lv_icmp_gt (tgt := 59) hx hb dX2_addRange_15 (by decide) (fun c_15 => ?_) (fun c_15 => ?_)
      · replace hf := if_t c_15 hf
        obtain ⟨rfl, hq_1⟩ := Prod.mk.inj (Option.some.inj hf)
        obtain rfl := hq_1
        exact rt_v hQ hx hb hr hlocks hP hD hS dX2_addRange_59
      · replace hf := if_f c_15 hf
        refine lv_iload_n hx hb dX2_addRange_18 rfl (lv_at hl 3 rfl) ?_
        refine lv_aload_n hx hb dX2_addRange_19 rfl (lv_at hl 0 rfl) ?_
        refine va_get (D := (dC, dI)) (ci := 2) (v := .ref h0_held) (C := RX2) (T := TX2) (N := 2) hx hb hts inG_X2 hown hK hP 0 rfl rfl 0 (by decide) (hts _ kw_115) (fun _ h9 => h9) rfl dX2_addRange_20 ?_
        refine va_alen (v := nI h0_held_n) hx hb hK hP 2 0 rfl rfl rfl dX2_addRange_23 ?_
        refine lv_aload_n hx hb dX2_addRange_24 rfl (lv_at hl 0 rfl) ?_
        refine va_get (D := (dC, dI)) (ci := 2) (v := .int h0_count) (C := RX2) (T := TX2) (N := 2) hx hb hts inG_X2 hown hK hP 0 rfl rfl 1 (by decide) (hts _ kw_116) (fun _ h9 => h9) rfl dX2_addRange_25 ?_
        refine lv_isub hx hb dX2_addRange_28 ?_
        refine lv_icmp_gt (tgt := 59) hx hb dX2_addRange_29 (by decide) (fun c_29 => ?_) (fun c_29 => ?_)
        · replace hf := if_t c_29 hf
          obtain ⟨rfl, hq_1⟩ := Prod.mk.inj (Option.some.inj hf)
          obtain rfl := hq_1
          exact rt_v hQ hx hb hr hlocks hP hD hS dX2_addRange_59
        · replace hf := if_f c_29 hf
          refine lv_aload_n hx hb dX2_addRange_32 rfl (lv_at hl 1 rfl) ?_
          refine va_get (D := (dC, dI)) (ci := 2) (v := .ref h1_held) (C := RX2) (T := TX2) (N := 2) hx hb hts inG_X2 hown hK hP 1 rfl rfl 0 (by decide) (hts _ kw_115) (fun _ h9 => h9) rfl dX2_addRange_33 ?_
          refine lv_iload_n hx hb dX2_addRange_36 rfl (lv_at hl 2 rfl) ?_
          refine lv_aload_n hx hb dX2_addRange_37 rfl (lv_at hl 0 rfl) ?_
          refine va_get (D := (dC, dI)) (ci := 2) (v := .ref h0_held) (C := RX2) (T := TX2) (N := 2) hx hb hts inG_X2 hown hK hP 0 rfl rfl 0 (by decide) (hts _ kw_115) (fun _ h9 => h9) rfl dX2_addRange_38 ?_
          refine lv_aload_n hx hb dX2_addRange_41 rfl (lv_at hl 0 rfl) ?_
          refine va_get (D := (dC, dI)) (ci := 2) (v := .int h0_count) (C := RX2) (T := TX2) (N := 2) hx hb hts inG_X2 hown hK hP 0 rfl rfl 1 (by decide) (hts _ kw_116) (fun _ h9 => h9) rfl dX2_addRange_42 ?_
          refine lv_iload_n hx hb dX2_addRange_45 rfl (lv_at hl 3 rfl) ?_
          obtain ⟨⟨hc1, hc2, hc3, hc4, hc5, hc6⟩, hf⟩ := acb_some hf
          refine va_copyi (ty := .byte) hx hb (hml.trans hl.1.symm) hown (hts _ kw_434) (hts _ kw_436) (hts _ kw_435) (hts _ kw_95) hK hP hD hS 3 2 0 0 rfl rfl rfl rfl rfl hc1 hc2 hc3 hc4 hc5 hc6 (Nat.le_of_ble_eq_true rfl) (Nat.le_of_ble_eq_true rfl) dX2_addRange_46 (fun H locs hP hD hS => ?_)
          have hP : va_P (dC, dI) vwCl [(h0, .inr (2, [.ref h0_held, .int h0_count])), (h1, .inr (2, [.ref h1_held, .int h1_count])), (h0_held, .inl (cB, h0_held_n, .inl (va_cpy h1_held_f h0_held_f a2.toNatClampNeg h0_count.toNatClampNeg a3.toNatClampNeg))), (h1_held, .inl (cB, h1_held_n, .inl h1_held_f))] H := hP
          have hD : va_D A [(h0, .inr (2, [.ref h0_held, .int h0_count])), (h1, .inr (2, [.ref h1_held, .int h1_count])), (h0_held, .inl (cB, h0_held_n, .inl (va_cpy h1_held_f h0_held_f a2.toNatClampNeg h0_count.toNatClampNeg a3.toNatClampNeg))), (h1_held, .inl (cB, h1_held_n, .inl h1_held_f))] := hD
          generalize (va_cpy h1_held_f h0_held_f a2.toNatClampNeg h0_count.toNatClampNeg a3.toNatClampNeg) = f1 at hP hD hf
          refine lv_aload_n hx hb dX2_addRange_49 rfl (lv_at hl 0 rfl) ?_
          refine lv_dup hx hb dX2_addRange_50 rfl ?_
          refine va_get (D := (dC, dI)) (ci := 2) (v := .int h0_count) (C := RX2) (T := TX2) (N := 2) hx hb hts inG_X2 hown hK hP 0 rfl rfl 1 (by decide) (hts _ kw_116) (fun _ h9 => h9) rfl dX2_addRange_51 ?_
          refine lv_iload_n hx hb dX2_addRange_54 rfl (lv_at hl 3 rfl) ?_
          refine lv_iadd hx hb dX2_addRange_55 ?_
          refine lv_topi (fun p_2 e_p_2 => ?_)
          replace hf := bnd_at e_p_2 hf
          refine va_put (D := (dC, dI)) (ci := 2) (v := .int p_2) (ty := .int) (C := RX2) (T := TX2) (N := 2) hx hb hts inG_X2 tyX2 tyX2_ok nmX2 hown hK hP hD hS 0 rfl rfl 1 (by decide) (hts _ kw_116) (fun _ h9 => h9) rfl (by decide +kernel) rfl rfl (Nat.le_of_ble_eq_true rfl) dX2_addRange_56 (fun H locs hP hD hS => ?_)
          have hP : va_P (dC, dI) vwCl [(h0, .inr (2, [.ref h0_held, .int p_2])), (h1, .inr (2, [.ref h1_held, .int h1_count])), (h0_held, .inl (cB, h0_held_n, .inl f1)), (h1_held, .inl (cB, h1_held_n, .inl h1_held_f))] H := hP
          have hD : va_D A [(h0, .inr (2, [.ref h0_held, .int p_2])), (h1, .inr (2, [.ref h1_held, .int h1_count])), (h0_held, .inl (cB, h0_held_n, .inl f1)), (h1_held, .inl (cB, h1_held_n, .inl h1_held_f))] := hD
          obtain ⟨rfl, hq_1⟩ := Prod.mk.inj (Option.some.inj hf)
          obtain rfl := hq_1
          exact rt_v hQ hx hb hr hlocks hP hD hS dX2_addRange_59

theorem dX2_addAgain_0 : decode cX2_addAgain 0 = .ok (.iload_n 1, 1) := by decide +kernel
theorem dX2_addAgain_1 : decode cX2_addAgain 1 = .ok (.iconst 1, 1) := by decide +kernel
theorem dX2_addAgain_2 : decode cX2_addAgain 2 = .ok (.if_icmp .lt 25, 3) := by decide +kernel
theorem dX2_addAgain_5 : decode cX2_addAgain 5 = .ok (.iload_n 1, 1) := by decide +kernel
theorem dX2_addAgain_6 : decode cX2_addAgain 6 = .ok (.aload_n 0, 1) := by decide +kernel
theorem dX2_addAgain_7 : decode cX2_addAgain 7 = .ok (.getfield 19, 3) := by decide +kernel
theorem dX2_addAgain_10 : decode cX2_addAgain 10 = .ok (.if_icmp .gt 17, 3) := by decide +kernel
theorem dX2_addAgain_13 : decode cX2_addAgain 13 = .ok (.iload_n 2, 1) := by decide +kernel
theorem dX2_addAgain_14 : decode cX2_addAgain 14 = .ok (.aload_n 0, 1) := by decide +kernel
theorem dX2_addAgain_15 : decode cX2_addAgain 15 = .ok (.getfield 13, 3) := by decide +kernel
theorem dX2_addAgain_18 : decode cX2_addAgain 18 = .ok (.arraylength, 1) := by decide +kernel
theorem dX2_addAgain_19 : decode cX2_addAgain 19 = .ok (.aload_n 0, 1) := by decide +kernel
theorem dX2_addAgain_20 : decode cX2_addAgain 20 = .ok (.getfield 19, 3) := by decide +kernel
theorem dX2_addAgain_23 : decode cX2_addAgain 23 = .ok (.isub, 1) := by decide +kernel
theorem dX2_addAgain_24 : decode cX2_addAgain 24 = .ok (.if_icmp .le 4, 3) := by decide +kernel
theorem dX2_addAgain_27 : decode cX2_addAgain 27 = .ok (.return_, 1) := by decide +kernel
theorem dX2_addAgain_28 : decode cX2_addAgain 28 = .ok (.iconst 0, 1) := by decide +kernel
theorem dX2_addAgain_29 : decode cX2_addAgain 29 = .ok (.istore_n 3, 1) := by decide +kernel
theorem dX2_addAgain_30 : decode cX2_addAgain 30 = .ok (.iload_n 3, 1) := by decide +kernel
theorem dX2_addAgain_31 : decode cX2_addAgain 31 = .ok (.iload_n 2, 1) := by decide +kernel
theorem dX2_addAgain_32 : decode cX2_addAgain 32 = .ok (.if_icmp .ge 39, 3) := by decide +kernel
theorem dX2_addAgain_35 : decode cX2_addAgain 35 = .ok (.aload_n 0, 1) := by decide +kernel
theorem dX2_addAgain_36 : decode cX2_addAgain 36 = .ok (.getfield 13, 3) := by decide +kernel
theorem dX2_addAgain_39 : decode cX2_addAgain 39 = .ok (.aload_n 0, 1) := by decide +kernel
theorem dX2_addAgain_40 : decode cX2_addAgain 40 = .ok (.getfield 19, 3) := by decide +kernel
theorem dX2_addAgain_43 : decode cX2_addAgain 43 = .ok (.aload_n 0, 1) := by decide +kernel
theorem dX2_addAgain_44 : decode cX2_addAgain 44 = .ok (.getfield 13, 3) := by decide +kernel
theorem dX2_addAgain_47 : decode cX2_addAgain 47 = .ok (.aload_n 0, 1) := by decide +kernel
theorem dX2_addAgain_48 : decode cX2_addAgain 48 = .ok (.getfield 19, 3) := by decide +kernel
theorem dX2_addAgain_51 : decode cX2_addAgain 51 = .ok (.iload_n 1, 1) := by decide +kernel
theorem dX2_addAgain_52 : decode cX2_addAgain 52 = .ok (.isub, 1) := by decide +kernel
theorem dX2_addAgain_53 : decode cX2_addAgain 53 = .ok (.baload, 1) := by decide +kernel
theorem dX2_addAgain_54 : decode cX2_addAgain 54 = .ok (.bastore, 1) := by decide +kernel
theorem dX2_addAgain_55 : decode cX2_addAgain 55 = .ok (.aload_n 0, 1) := by decide +kernel
theorem dX2_addAgain_56 : decode cX2_addAgain 56 = .ok (.dup, 1) := by decide +kernel
theorem dX2_addAgain_57 : decode cX2_addAgain 57 = .ok (.getfield 19, 3) := by decide +kernel
theorem dX2_addAgain_60 : decode cX2_addAgain 60 = .ok (.iconst 1, 1) := by decide +kernel
theorem dX2_addAgain_61 : decode cX2_addAgain 61 = .ok (.iadd, 1) := by decide +kernel
theorem dX2_addAgain_62 : decode cX2_addAgain 62 = .ok (.putfield 19, 3) := by decide +kernel
theorem dX2_addAgain_65 : decode cX2_addAgain 65 = .ok (.iinc 3 1, 3) := by decide +kernel
theorem dX2_addAgain_68 : decode cX2_addAgain 68 = .ok (.goto (-38), 3) := by decide +kernel
theorem dX2_addAgain_71 : decode cX2_addAgain 71 = .ok (.return_, 1) := by decide +kernel
def m_Bytes_addAgain_B30 (a1 : Int32) (a2 : Int32) (h0_held_n : Nat) (f1 : Nat → Int32) (g2 : Int32) (j3_3 : Int32) : Option (((Nat → Int32) × Int32 × Int32) ⊕ ((((Int32 × (Nat → Int32)))))) :=
  if a2 ≤ j3_3 then
    some (.inr (g2, f1))
  else
    chk (g2 - a1) h0_held_n <|
    chk g2 h0_held_n <|
    bnd (g2 + (1 : Int32)) fun p_4 =>
    bnd (j3_3 + (1 : Int32)) fun v3_5 =>
    some (.inl ((upd f1 g2.toNatClampNeg (vp_nar .byte (f1 (g2 - a1).toNatClampNeg))), p_4, v3_5))
def m_Bytes_addAgain (a1 : Int32) (a2 : Int32) (h0_count : Int32) (h0_held_n : Nat) (h0_held_f : Nat → Int32) : Option (Int32 × (Nat → Int32)) :=
  if a1 < (1 : Int32) then
    some (h0_count, h0_held_f)
  else
    if h0_count < a1 then
      some (h0_count, h0_held_f)
    else
      if a2 ≤ ((nI h0_held_n) - h0_count) then
        (iter (fun st => m_Bytes_addAgain_B30 a1 a2 h0_held_n st.1 st.2.1 st.2.2) FU (h0_held_f, h0_count, (0 : Int32))).bind fun o => some o
      else
        some (h0_count, h0_held_f)
def rm_Bytes_addAgain : Room := { frames := 0, cells := 0, slots := 0, locals := 0 }
set_option maxHeartbeats 4000000 in
set_option maxRecDepth 100000 in
theorem c_Bytes_addAgain {l : Launch} {dC : Nat → ClassId} {dI : Nat → Nat → Nat} {cB cI : ClassId} {sz : Nat} {h0 : Nat} {a1 : Int32} {a2 : Int32} {h0_held : Nat} {h0_count : Int32} {h0_held_n : Nat} {h0_held_f : Nat → Int32} {o_h0_count : Int32} {o_h0_held_f : Nat → Int32} (hf : m_Bytes_addAgain a1 a2 h0_count h0_held_n h0_held_f = some (o_h0_count, o_h0_held_f)) : Met l yX2_addAgain (Cond.code yX2_addAgain cX2_addAgain 4 none :: lw_G) rm_Bytes_addAgain (PreC (dC, dI) [(cB, .byte), (cI, .int)] [.ref h0, .int a1, .int a2] sz [(h0, .inr (2, [.ref h0_held, .int h0_count])), (h0_held, .inl (cB, h0_held_n, .inl h0_held_f))]) (QcV (dC, dI) [(h0, .inr (2, [.ref h0_held, .int o_h0_count])), (h0_held, .inl (cB, h0_held_n, .inl o_h0_held_f))] (va_A [(h0, .inr (2, [.ref h0_held, .int h0_count])), (h0_held, .inl (cB, h0_held_n, .inl h0_held_f))] sz)) 0 0 (va_A [(h0, .inr (2, [.ref h0_held, .int h0_count])), (h0_held, .inl (cB, h0_held_n, .inl h0_held_f))] sz) := by
  refine met_of (Qf := fun A => QcV (dC, dI) [(h0, .inr (2, [.ref h0_held, .int o_h0_count])), (h0_held, .inl (cB, h0_held_n, .inl o_h0_held_f))] A) (by decide) (Nat.le_of_ble_eq_true rfl) ?_
  intro p e s m below meth c A ls Q hx hb hr hml hown hts hlocks hnm hP hK hD hN hT hA hl hQ
  have hown : s.vm.findClass RX2 = some m.cls := hown
  have hS : va_S A s.heap s.heap [] := va_S.rf
  have hl : lv_has ls 4 [(0, .ref h0), (1, .int a1), (2, .int a2)] := hl
  unfold m_Bytes_addAgain at hf
  refine lv_iload_n hx hb dX2_addAgain_0 rfl (lv_at hl 1 rfl) ?_
  refine lv_iconst (v := 1) hx hb dX2_addAgain_1 (by decide) ?_
  refine lv_icmp_lt (tgt := 27) hx hb dX2_addAgain_2 (by decide) (fun c_2 => ?_) (fun c_2 => ?_)
  · replace hf := if_t c_2 hf
    obtain ⟨rfl, hq_1⟩ := Prod.mk.inj (Option.some.inj hf)
    obtain rfl := hq_1
    exact rt_v hQ hx hb hr hlocks hP hD hS dX2_addAgain_27
  · replace hf := if_f c_2 hf
    refine lv_iload_n hx hb dX2_addAgain_5 rfl (lv_at hl 1 rfl) ?_
    refine lv_aload_n hx hb dX2_addAgain_6 rfl (lv_at hl 0 rfl) ?_
    refine va_get (D := (dC, dI)) (ci := 2) (v := .int h0_count) (C := RX2) (T := TX2) (N := 2) hx hb hts inG_X2 hown hK hP 0 rfl rfl 1 (by decide) (hts _ kw_116) (fun _ h9 => h9) rfl dX2_addAgain_7 ?_
    refine lv_icmp_gt (tgt := 27) hx hb dX2_addAgain_10 (by decide) (fun c_10 => ?_) (fun c_10 => ?_)
    · replace hf := if_t c_10 hf
      obtain ⟨rfl, hq_1⟩ := Prod.mk.inj (Option.some.inj hf)
      obtain rfl := hq_1
      exact rt_v hQ hx hb hr hlocks hP hD hS dX2_addAgain_27
    · replace hf := if_f c_10 hf
      refine lv_iload_n hx hb dX2_addAgain_13 rfl (lv_at hl 2 rfl) ?_
      refine lv_aload_n hx hb dX2_addAgain_14 rfl (lv_at hl 0 rfl) ?_
      refine va_get (D := (dC, dI)) (ci := 2) (v := .ref h0_held) (C := RX2) (T := TX2) (N := 2) hx hb hts inG_X2 hown hK hP 0 rfl rfl 0 (by decide) (hts _ kw_115) (fun _ h9 => h9) rfl dX2_addAgain_15 ?_
      refine va_alen (v := nI h0_held_n) hx hb hK hP 1 0 rfl rfl rfl dX2_addAgain_18 ?_
      refine lv_aload_n hx hb dX2_addAgain_19 rfl (lv_at hl 0 rfl) ?_
      refine va_get (D := (dC, dI)) (ci := 2) (v := .int h0_count) (C := RX2) (T := TX2) (N := 2) hx hb hts inG_X2 hown hK hP 0 rfl rfl 1 (by decide) (hts _ kw_116) (fun _ h9 => h9) rfl dX2_addAgain_20 ?_
      refine lv_isub hx hb dX2_addAgain_23 ?_
      refine lv_icmp_le (tgt := 28) hx hb dX2_addAgain_24 (by decide) (fun c_24 => ?_) (fun c_24 => ?_)
      · replace hf := if_t c_24 hf
        refine lv_iconst (v := 0) hx hb dX2_addAgain_28 (by decide) ?_
        refine lv_istore_n (lv' := [(3, .int (0 : Int32)), (0, .ref h0), (1, .int a1), (2, .int a2)]) hx hb dX2_addAgain_29 rfl hl (by decide) rfl (fun ls hl => ?_)
        obtain ⟨o_30, hi_30, hk_30⟩ := bind_some hf
        have hL_30 : ∀ (n : Nat) (f1 : Nat → Int32) (g2 : Int32) (j3_3 : Int32) (H : Heap) (locs : List Loc) (ls : Array Slot), iter (fun st => m_Bytes_addAgain_B30 a1 a2 h0_held_n st.1 st.2.1 st.2.2) n (f1, g2, j3_3) = some o_30 → va_P (dC, dI) vwCl [(h0, .inr (2, [.ref h0_held, .int g2])), (h0_held, .inl (cB, h0_held_n, .inl f1))] H → va_D A [(h0, .inr (2, [.ref h0_held, .int g2])), (h0_held, .inl (cB, h0_held_n, .inl f1))] → va_S A s.heap H locs → lv_has ls 4 [(0, .ref h0), (1, .int a1), (2, .int a2), (3, .int j3_3)] → W p l e (rm_Bytes_addAgain) s m ([.ref h0, .int a1, .int a2] : List Value).toArray below meth c H locs 0 0 Q (F0 m 30 ls []) := by
          intro n
          induction n with
          | zero => intro f1 g2 j3_3 H locs ls hf; exact absurd hf (fun z => by cases z)
          | succ n ih_30 =>
            intro f1 g2 j3_3 H locs ls hf hP hD hS hl
            obtain ⟨r_30, hf, hr_30⟩ := iter_succ hf
            have hf : m_Bytes_addAgain_B30 a1 a2 h0_held_n f1 g2 j3_3 = some r_30 := hf
            unfold m_Bytes_addAgain_B30 at hf
            refine lv_iload_n hx hb dX2_addAgain_30 rfl (lv_at hl 3 rfl) ?_
            refine lv_iload_n hx hb dX2_addAgain_31 rfl (lv_at hl 2 rfl) ?_
            refine lv_icmp_ge (tgt := 71) hx hb dX2_addAgain_32 (by decide) (fun c_32 => ?_) (fun c_32 => ?_)
            · replace hf := if_t c_32 hf
              replace hf : some (g2, f1) = some (o_h0_count, o_h0_held_f) := by have hq := hk_30; rw [iter_exit hf hr_30] at hq; exact hq
              obtain ⟨rfl, hq_1⟩ := Prod.mk.inj (Option.some.inj hf)
              obtain rfl := hq_1
              exact rt_v hQ hx hb hr hlocks hP hD hS dX2_addAgain_71
            · replace hf := if_f c_32 hf
              refine lv_aload_n hx hb dX2_addAgain_35 rfl (lv_at hl 0 rfl) ?_
              refine va_get (D := (dC, dI)) (ci := 2) (v := .ref h0_held) (C := RX2) (T := TX2) (N := 2) hx hb hts inG_X2 hown hK hP 0 rfl rfl 0 (by decide) (hts _ kw_115) (fun _ h9 => h9) rfl dX2_addAgain_36 ?_
              refine lv_aload_n hx hb dX2_addAgain_39 rfl (lv_at hl 0 rfl) ?_
              refine va_get (D := (dC, dI)) (ci := 2) (v := .int g2) (C := RX2) (T := TX2) (N := 2) hx hb hts inG_X2 hown hK hP 0 rfl rfl 1 (by decide) (hts _ kw_116) (fun _ h9 => h9) rfl dX2_addAgain_40 ?_
              refine lv_aload_n hx hb dX2_addAgain_43 rfl (lv_at hl 0 rfl) ?_
              refine va_get (D := (dC, dI)) (ci := 2) (v := .ref h0_held) (C := RX2) (T := TX2) (N := 2) hx hb hts inG_X2 hown hK hP 0 rfl rfl 0 (by decide) (hts _ kw_115) (fun _ h9 => h9) rfl dX2_addAgain_44 ?_
              refine lv_aload_n hx hb dX2_addAgain_47 rfl (lv_at hl 0 rfl) ?_
              refine va_get (D := (dC, dI)) (ci := 2) (v := .int g2) (C := RX2) (T := TX2) (N := 2) hx hb hts inG_X2 hown hK hP 0 rfl rfl 1 (by decide) (hts _ kw_116) (fun _ h9 => h9) rfl dX2_addAgain_48 ?_
              refine lv_iload_n hx hb dX2_addAgain_51 rfl (lv_at hl 1 rfl) ?_
              refine lv_isub hx hb dX2_addAgain_52 ?_
              obtain ⟨hin, hf⟩ := chk_some hf
              refine va_bald hx hb hK hP 1 0 rfl rfl hin dX2_addAgain_53 ?_
              obtain ⟨hin, hf⟩ := chk_some hf
              refine va_bast hx hb hK hP hD hS 1 0 rfl rfl hin dX2_addAgain_54 (fun H locs hP hD hS => ?_)
              have hP : va_P (dC, dI) vwCl [(h0, .inr (2, [.ref h0_held, .int g2])), (h0_held, .inl (cB, h0_held_n, .inl (upd f1 g2.toNatClampNeg (vp_nar .byte (f1 (g2 - a1).toNatClampNeg)))))] H := hP
              have hD : va_D A [(h0, .inr (2, [.ref h0_held, .int g2])), (h0_held, .inl (cB, h0_held_n, .inl (upd f1 g2.toNatClampNeg (vp_nar .byte (f1 (g2 - a1).toNatClampNeg)))))] := hD
              refine lv_aload_n hx hb dX2_addAgain_55 rfl (lv_at hl 0 rfl) ?_
              refine lv_dup hx hb dX2_addAgain_56 rfl ?_
              refine va_get (D := (dC, dI)) (ci := 2) (v := .int g2) (C := RX2) (T := TX2) (N := 2) hx hb hts inG_X2 hown hK hP 0 rfl rfl 1 (by decide) (hts _ kw_116) (fun _ h9 => h9) rfl dX2_addAgain_57 ?_
              refine lv_iconst (v := 1) hx hb dX2_addAgain_60 (by decide) ?_
              refine lv_iadd hx hb dX2_addAgain_61 ?_
              refine lv_topi (fun p_4 e_p_4 => ?_)
              replace hf := bnd_at e_p_4 hf
              refine va_put (D := (dC, dI)) (ci := 2) (v := .int p_4) (ty := .int) (C := RX2) (T := TX2) (N := 2) hx hb hts inG_X2 tyX2 tyX2_ok nmX2 hown hK hP hD hS 0 rfl rfl 1 (by decide) (hts _ kw_116) (fun _ h9 => h9) rfl (by decide +kernel) rfl rfl (Nat.le_of_ble_eq_true rfl) dX2_addAgain_62 (fun H locs hP hD hS => ?_)
              have hP : va_P (dC, dI) vwCl [(h0, .inr (2, [.ref h0_held, .int p_4])), (h0_held, .inl (cB, h0_held_n, .inl (upd f1 g2.toNatClampNeg (vp_nar .byte (f1 (g2 - a1).toNatClampNeg)))))] H := hP
              have hD : va_D A [(h0, .inr (2, [.ref h0_held, .int p_4])), (h0_held, .inl (cB, h0_held_n, .inl (upd f1 g2.toNatClampNeg (vp_nar .byte (f1 (g2 - a1).toNatClampNeg)))))] := hD
              obtain ⟨v3_5, e_v3_5⟩ : ∃ y : Int32, y = (j3_3 + (1 : Int32)) := ⟨_, rfl⟩
              replace hf := bnd_at e_v3_5 hf
              refine lv_iinc (v := v3_5) (lv' := [(3, .int v3_5), (0, .ref h0), (1, .int a1), (2, .int a2)]) hx hb dX2_addAgain_65 hl (k := 3) rfl (by rw [e_v3_5]; rfl) (by decide) rfl (fun ls hl => ?_)
              refine lv_goto (tgt := 30) hx hb dX2_addAgain_68 (by decide) ?_
              exact ih_30 (upd f1 g2.toNatClampNeg (vp_nar .byte (f1 (g2 - a1).toNatClampNeg))) p_4 v3_5 _ _ _ (iter_back hf hr_30) hP hD hS (lv_sub hl [1, 2, 3, 0] rfl)
        exact hL_30 FU h0_held_f h0_count (0 : Int32) _ _ _ hi_30 hP hD hS (lv_sub hl [1, 2, 3, 0] rfl)
      · replace hf := if_f c_24 hf
        obtain ⟨rfl, hq_1⟩ := Prod.mk.inj (Option.some.inj hf)
        obtain rfl := hq_1
        exact rt_v hQ hx hb hr hlocks hP hD hS dX2_addAgain_27

theorem dX2_keep_0 : decode cX2_keep 0 = .ok (.iload_n 1, 1) := by decide +kernel
theorem dX2_keep_1 : decode cX2_keep 1 = .ok (.ifCond .lt 16, 3) := by decide +kernel
theorem dX2_keep_4 : decode cX2_keep 4 = .ok (.iload_n 1, 1) := by decide +kernel
theorem dX2_keep_5 : decode cX2_keep 5 = .ok (.aload_n 0, 1) := by decide +kernel
theorem dX2_keep_6 : decode cX2_keep 6 = .ok (.getfield 19, 3) := by decide +kernel
theorem dX2_keep_9 : decode cX2_keep 9 = .ok (.if_icmp .ge 8, 3) := by decide +kernel
theorem dX2_keep_12 : decode cX2_keep 12 = .ok (.aload_n 0, 1) := by decide +kernel
theorem dX2_keep_13 : decode cX2_keep 13 = .ok (.iload_n 1, 1) := by decide +kernel
theorem dX2_keep_14 : decode cX2_keep 14 = .ok (.putfield 19, 3) := by decide +kernel
theorem dX2_keep_17 : decode cX2_keep 17 = .ok (.return_, 1) := by decide +kernel
def m_Bytes_keep (a1 : Int32) (h0_count : Int32) : Option (Int32) :=
  if a1 < 0 then
    some h0_count
  else
    if h0_count ≤ a1 then
      some h0_count
    else
      some a1
def rm_Bytes_keep : Room := { frames := 0, cells := 0, slots := 0, locals := 0 }
set_option maxHeartbeats 4000000 in
set_option maxRecDepth 100000 in
theorem c_Bytes_keep {l : Launch} {dC : Nat → ClassId} {dI : Nat → Nat → Nat} {cB cI : ClassId} {sz : Nat} {h0 : Nat} {a1 : Int32} {w_h0_held : Value} {h0_count : Int32} {o_h0_count : Int32} (hf : m_Bytes_keep a1 h0_count = some o_h0_count) : Met l yX2_keep (Cond.code yX2_keep cX2_keep 2 none :: lw_G) rm_Bytes_keep (PreC (dC, dI) [(cB, .byte), (cI, .int)] [.ref h0, .int a1] sz [(h0, .inr (2, [w_h0_held, .int h0_count]))]) (QcV (dC, dI) [(h0, .inr (2, [w_h0_held, .int o_h0_count]))] (va_A [(h0, .inr (2, [w_h0_held, .int h0_count]))] sz)) 0 0 (va_A [(h0, .inr (2, [w_h0_held, .int h0_count]))] sz) := by
  refine met_of (Qf := fun A => QcV (dC, dI) [(h0, .inr (2, [w_h0_held, .int o_h0_count]))] A) (by decide) (Nat.le_of_ble_eq_true rfl) ?_
  intro p e s m below meth c A ls Q hx hb hr hml hown hts hlocks hnm hP hK hD hN hT hA hl hQ
  have hown : s.vm.findClass RX2 = some m.cls := hown
  have hS : va_S A s.heap s.heap [] := va_S.rf
  have hl : lv_has ls 2 [(0, .ref h0), (1, .int a1)] := hl
  unfold m_Bytes_keep at hf
  refine lv_iload_n hx hb dX2_keep_0 rfl (lv_at hl 1 rfl) ?_
  refine lv_if_lt (tgt := 17) hx hb dX2_keep_1 (by decide) (fun c_1 => ?_) (fun c_1 => ?_)
  · replace hf := if_t c_1 hf
    obtain rfl := Option.some.inj hf
    exact rt_v hQ hx hb hr hlocks hP hD hS dX2_keep_17
  · replace hf := if_f c_1 hf
    refine lv_iload_n hx hb dX2_keep_4 rfl (lv_at hl 1 rfl) ?_
    refine lv_aload_n hx hb dX2_keep_5 rfl (lv_at hl 0 rfl) ?_
    refine va_get (D := (dC, dI)) (ci := 2) (v := .int h0_count) (C := RX2) (T := TX2) (N := 2) hx hb hts inG_X2 hown hK hP 0 rfl rfl 1 (by decide) (hts _ kw_116) (fun _ h9 => h9) rfl dX2_keep_6 ?_
    refine lv_icmp_ge (tgt := 17) hx hb dX2_keep_9 (by decide) (fun c_9 => ?_) (fun c_9 => ?_)
    · replace hf := if_t c_9 hf
      obtain rfl := Option.some.inj hf
      exact rt_v hQ hx hb hr hlocks hP hD hS dX2_keep_17
    · replace hf := if_f c_9 hf
      refine lv_aload_n hx hb dX2_keep_12 rfl (lv_at hl 0 rfl) ?_
      refine lv_iload_n hx hb dX2_keep_13 rfl (lv_at hl 1 rfl) ?_
      refine va_put (D := (dC, dI)) (ci := 2) (v := .int a1) (ty := .int) (C := RX2) (T := TX2) (N := 2) hx hb hts inG_X2 tyX2 tyX2_ok nmX2 hown hK hP hD hS 0 rfl rfl 1 (by decide) (hts _ kw_116) (fun _ h9 => h9) rfl (by decide +kernel) rfl rfl (Nat.le_of_ble_eq_true rfl) dX2_keep_14 (fun H locs hP hD hS => ?_)
      have hP : va_P (dC, dI) vwCl [(h0, .inr (2, [w_h0_held, .int a1]))] H := hP
      have hD : va_D A [(h0, .inr (2, [w_h0_held, .int a1]))] := hD
      obtain rfl := Option.some.inj hf
      exact rt_v hQ hx hb hr hlocks hP hD hS dX2_keep_17

theorem dX2_become_0 : decode cX2_become 0 = .ok (.aload_n 0, 1) := by decide +kernel
theorem dX2_become_1 : decode cX2_become 1 = .ok (.iconst 0, 1) := by decide +kernel
theorem dX2_become_2 : decode cX2_become 2 = .ok (.invokevirtual 37, 3) := by decide +kernel
theorem dX2_become_5 : decode cX2_become 5 = .ok (.aload_n 0, 1) := by decide +kernel
theorem dX2_become_6 : decode cX2_become 6 = .ok (.aload_n 1, 1) := by decide +kernel
theorem dX2_become_7 : decode cX2_become 7 = .ok (.iconst 0, 1) := by decide +kernel
theorem dX2_become_8 : decode cX2_become 8 = .ok (.aload_n 1, 1) := by decide +kernel
theorem dX2_become_9 : decode cX2_become 9 = .ok (.getfield 19, 3) := by decide +kernel
theorem dX2_become_12 : decode cX2_become 12 = .ok (.invokevirtual 40, 3) := by decide +kernel
theorem dX2_become_15 : decode cX2_become 15 = .ok (.return_, 1) := by decide +kernel
def m_Bytes_become (h0_count : Int32) (h1_count : Int32) (h0_held_n : Nat) (h0_held_f : Nat → Int32) (h1_held_n : Nat) (h1_held_f : Nat → Int32) : Option (Int32 × (Nat → Int32)) :=
  (m_Bytes_keep (0 : Int32) h0_count).bind fun u1 =>
  (m_Bytes_addRange (0 : Int32) h1_count u1 h1_count h0_held_n h0_held_f h1_held_n h1_held_f).bind fun (u2, u3) =>
  some (u2, u3)
def rm_Bytes_become : Room := { frames := 2, cells := 0, slots := 0, locals := 63 }
set_option maxHeartbeats 4000000 in
set_option maxRecDepth 100000 in
theorem c_Bytes_become {l : Launch} {dC : Nat → ClassId} {dI : Nat → Nat → Nat} {cB cI : ClassId} {sz : Nat} {h0 : Nat} {h1 : Nat} {h0_held : Nat} {h1_held : Nat} {h0_count : Int32} {h1_count : Int32} {h0_held_n : Nat} {h0_held_f : Nat → Int32} {h1_held_n : Nat} {h1_held_f : Nat → Int32} {o_h0_count : Int32} {o_h0_held_f : Nat → Int32} (hf : m_Bytes_become h0_count h1_count h0_held_n h0_held_f h1_held_n h1_held_f = some (o_h0_count, o_h0_held_f)) : Met l yX2_become (Cond.code yX2_become cX2_become 2 none :: lw_G) rm_Bytes_become (PreC (dC, dI) [(cB, .byte), (cI, .int)] [.ref h0, .ref h1] sz [(h0, .inr (2, [.ref h0_held, .int h0_count])), (h1, .inr (2, [.ref h1_held, .int h1_count])), (h0_held, .inl (cB, h0_held_n, .inl h0_held_f)), (h1_held, .inl (cB, h1_held_n, .inl h1_held_f))]) (QcV (dC, dI) [(h0, .inr (2, [.ref h0_held, .int o_h0_count])), (h1, .inr (2, [.ref h1_held, .int h1_count])), (h0_held, .inl (cB, h0_held_n, .inl o_h0_held_f)), (h1_held, .inl (cB, h1_held_n, .inl h1_held_f))] (va_A [(h0, .inr (2, [.ref h0_held, .int h0_count])), (h1, .inr (2, [.ref h1_held, .int h1_count])), (h0_held, .inl (cB, h0_held_n, .inl h0_held_f)), (h1_held, .inl (cB, h1_held_n, .inl h1_held_f))] sz)) 0 0 (va_A [(h0, .inr (2, [.ref h0_held, .int h0_count])), (h1, .inr (2, [.ref h1_held, .int h1_count])), (h0_held, .inl (cB, h0_held_n, .inl h0_held_f)), (h1_held, .inl (cB, h1_held_n, .inl h1_held_f))] sz) := by
  refine met_of (Qf := fun A => QcV (dC, dI) [(h0, .inr (2, [.ref h0_held, .int o_h0_count])), (h1, .inr (2, [.ref h1_held, .int h1_count])), (h0_held, .inl (cB, h0_held_n, .inl o_h0_held_f)), (h1_held, .inl (cB, h1_held_n, .inl h1_held_f))] A) (by decide) (Nat.le_of_ble_eq_true rfl) ?_
  intro p e s m below meth c A ls Q hx hb hr hml hown hts hlocks hnm hP hK hD hN hT hA hl hQ
  have hown : s.vm.findClass RX2 = some m.cls := hown
  have hS : va_S A s.heap s.heap [] := va_S.rf
  have hl : lv_has ls 2 [(0, .ref h0), (1, .ref h1)] := hl
  unfold m_Bytes_become at hf
  refine lv_aload_n hx hb dX2_become_0 rfl (lv_at hl 0 rfl) ?_
  refine lv_iconst (v := 0) hx hb dX2_become_1 (by decide) ?_
  obtain ⟨u1, hc, hf⟩ := bind_some hf
  refine nx_v (rn_V (As := [.int (0 : Int32)]) (rest := []) (n := 1) (ci := 2) (q0 := 0) ⟨hx, hb, hml, hown, hts⟩ (c_Bytes_keep (l := l) (dC := dC) (dI := dI) (cB := cB) (cI := cI) (h0 := h0) (a1 := (0 : Int32)) (w_h0_held := (.ref h0_held)) (h0_count := h0_count) (o_h0_count := u1) hc) (wV kw_429 kw_410 kw_411 kw_83 kw_412) (by decide +kernel) ⟨Nat.le_of_ble_eq_true rfl, Nat.le_of_ble_eq_true rfl⟩ hK hP hD hN hT hS (va_free (wc := [(h0, .inr (2, [.ref h0_held, .int h0_count]))]) hD hS hA [0] rfl) [0] rfl (by decide) rfl rfl rfl hl.1 rfl (lv_room (Nat.le_of_ble_eq_true rfl)) dX2_become_2 ⟨Nat.le_of_ble_eq_true rfl, Nat.le_of_ble_eq_true rfl⟩) hP hD hS hA (wr := [(h1, .inr (2, [.ref h1_held, .int h1_count])), (h0_held, .inl (cB, h0_held_n, .inl h0_held_f)), (h1_held, .inl (cB, h1_held_n, .inl h1_held_f))]) (w1 := [(h0, .inr (2, [.ref h0_held, .int u1]))]) (ws' := [(h0, .inr (2, [.ref h0_held, .int u1])), (h1, .inr (2, [.ref h1_held, .int h1_count])), (h0_held, .inl (cB, h0_held_n, .inl h0_held_f)), (h1_held, .inl (cB, h1_held_n, .inl h1_held_f))]) [0] [1, 2, 3] [3, 0, 1, 2] rfl rfl (by decide) (by decide) rfl (by decide) (fun H locs hP hD hS => ?_)
  refine lv_aload_n hx hb dX2_become_5 rfl (lv_at hl 0 rfl) ?_
  refine lv_aload_n hx hb dX2_become_6 rfl (lv_at hl 1 rfl) ?_
  refine lv_iconst (v := 0) hx hb dX2_become_7 (by decide) ?_
  refine lv_aload_n hx hb dX2_become_8 rfl (lv_at hl 1 rfl) ?_
  refine va_get (D := (dC, dI)) (ci := 2) (v := .int h1_count) (C := RX2) (T := TX2) (N := 2) hx hb hts inG_X2 hown hK hP 1 rfl rfl 1 (by decide) (hts _ kw_116) (fun _ h9 => h9) rfl dX2_become_9 ?_
  obtain ⟨x, hc, hf⟩ := bind_some hf
  obtain ⟨u2, u3⟩ := x
  dsimp only at hf
  refine nx_v (rn_V (As := [.ref h1, .int (0 : Int32), .int h1_count]) (rest := []) (n := 3) (ci := 2) (q0 := 0) ⟨hx, hb, hml, hown, hts⟩ (c_Bytes_addRange (l := l) (dC := dC) (dI := dI) (cB := cB) (cI := cI) (h0 := h0) (h1 := h1) (a2 := (0 : Int32)) (a3 := h1_count) (h0_held := h0_held) (h1_held := h1_held) (h0_count := u1) (h1_count := h1_count) (h0_held_n := h0_held_n) (h0_held_f := h0_held_f) (h1_held_n := h1_held_n) (h1_held_f := h1_held_f) (o_h0_count := u2) (o_h0_held_f := u3) hc) (wV kw_430 kw_431 kw_432 kw_83 kw_433) (by decide +kernel) ⟨Nat.le_of_ble_eq_true rfl, Nat.le_of_ble_eq_true rfl⟩ hK hP hD hN hT hS (va_free (wc := [(h0, .inr (2, [.ref h0_held, .int u1])), (h1, .inr (2, [.ref h1_held, .int h1_count])), (h0_held, .inl (cB, h0_held_n, .inl h0_held_f)), (h1_held, .inl (cB, h1_held_n, .inl h1_held_f))]) hD hS hA [0, 1, 2, 3] rfl) [0, 1, 2, 3] rfl (by decide) rfl rfl rfl hl.1 rfl (lv_room (Nat.le_of_ble_eq_true rfl)) dX2_become_12 ⟨Nat.le_of_ble_eq_true rfl, Nat.le_of_ble_eq_true rfl⟩) hP hD hS hA (wr := []) (w1 := [(h0, .inr (2, [.ref h0_held, .int u2])), (h1, .inr (2, [.ref h1_held, .int h1_count])), (h0_held, .inl (cB, h0_held_n, .inl u3)), (h1_held, .inl (cB, h1_held_n, .inl h1_held_f))]) (ws' := [(h0, .inr (2, [.ref h0_held, .int u2])), (h1, .inr (2, [.ref h1_held, .int h1_count])), (h0_held, .inl (cB, h0_held_n, .inl u3)), (h1_held, .inl (cB, h1_held_n, .inl h1_held_f))]) [0, 1, 2, 3] [] [0, 1, 2, 3] rfl rfl (by decide) (by decide) rfl (by decide) (fun H locs hP hD hS => ?_)
  obtain ⟨rfl, hq_1⟩ := Prod.mk.inj (Option.some.inj hf)
  obtain rfl := hq_1
  exact rt_v hQ hx hb hr hlocks hP hD hS dX2_become_15

