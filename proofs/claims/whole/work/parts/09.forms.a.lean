theorem dX8_limitAt_0 : decode cX8_limitAt 0 = .ok (.iload_n 1, 1) := by decide +kernel
theorem dX8_limitAt_1 : decode cX8_limitAt 1 = .ok (.iload_n 2, 1) := by decide +kernel
theorem dX8_limitAt_2 : decode cX8_limitAt 2 = .ok (.bipush 12, 2) := by decide +kernel
theorem dX8_limitAt_4 : decode cX8_limitAt 4 = .ok (.isub, 1) := by decide +kernel
theorem dX8_limitAt_5 : decode cX8_limitAt 5 = .ok (.if_icmp .gt 11, 3) := by decide +kernel
theorem dX8_limitAt_8 : decode cX8_limitAt 8 = .ok (.iload_n 2, 1) := by decide +kernel
theorem dX8_limitAt_9 : decode cX8_limitAt 9 = .ok (.iconst 5, 1) := by decide +kernel
theorem dX8_limitAt_10 : decode cX8_limitAt 10 = .ok (.isub, 1) := by decide +kernel
theorem dX8_limitAt_11 : decode cX8_limitAt 11 = .ok (.iload_n 1, 1) := by decide +kernel
theorem dX8_limitAt_12 : decode cX8_limitAt 12 = .ok (.isub, 1) := by decide +kernel
theorem dX8_limitAt_13 : decode cX8_limitAt 13 = .ok (.goto 4, 3) := by decide +kernel
theorem dX8_limitAt_16 : decode cX8_limitAt 16 = .ok (.iconst 0, 1) := by decide +kernel
theorem dX8_limitAt_17 : decode cX8_limitAt 17 = .ok (.ireturn, 1) := by decide +kernel
def m_Sequences_limitAt (a1 : Int32) (a2 : Int32) : Option (Int32) :=
  if (a2 - (12 : Int32)) < a1 then
    some (0 : Int32)
  else
    some ((a2 - (5 : Int32)) - a1)
def rm_Sequences_limitAt : Room := { frames := 0, cells := 0, slots := 0, locals := 0 }
set_option maxHeartbeats 4000000 in
set_option maxRecDepth 100000 in
theorem c_Sequences_limitAt {l : Launch} {dC : Nat → ClassId} {dI : Nat → Nat → Nat} {cB cI : ClassId} {sz : Nat} {h0 : Nat} {a1 : Int32} {a2 : Int32} {o_r : Int32} (hf : m_Sequences_limitAt a1 a2 = some o_r) : Met l yX8_limitAt (Cond.code yX8_limitAt cX8_limitAt 3 (some .int) :: lw_G) rm_Sequences_limitAt (PreC (dC, dI) [(cB, .byte), (cI, .int)] [.ref h0, .int a1, .int a2] sz [(h0, .inr (7, []))]) (QcI o_r (dC, dI) [(h0, .inr (7, []))] (va_A [(h0, .inr (7, []))] sz)) 0 0 (va_A [(h0, .inr (7, []))] sz) := by
  refine met_of (Qf := fun A => QcI o_r (dC, dI) [(h0, .inr (7, []))] A) (by decide) (Nat.le_of_ble_eq_true rfl) ?_
  intro p e s m below meth c A ls Q hx hb hr hml hown hts hlocks hnm hP hK hD hN hT hA hl hQ
  have hown : s.vm.findClass RX8 = some m.cls := hown
  have hS : va_S A s.heap s.heap [] := va_S.rf
  have hl : lv_has ls 3 [(0, .ref h0), (1, .int a1), (2, .int a2)] := hl
  unfold m_Sequences_limitAt at hf
  refine lv_iload_n hx hb dX8_limitAt_0 rfl (lv_at hl 1 rfl) ?_
  refine lv_iload_n hx hb dX8_limitAt_1 rfl (lv_at hl 2 rfl) ?_
  refine lv_bipush (v := 12) hx hb dX8_limitAt_2 (by decide) ?_
  refine lv_isub hx hb dX8_limitAt_4 ?_
  refine lv_icmp_gt (tgt := 16) hx hb dX8_limitAt_5 (by decide) (fun c_5 => ?_) (fun c_5 => ?_)
  · replace hf := if_t c_5 hf
    refine lv_iconst (v := 0) hx hb dX8_limitAt_16 (by decide) ?_
    obtain rfl := Option.some.inj hf
    exact rt_i hQ hx hb hr hlocks hP hD hS dX8_limitAt_17
  · replace hf := if_f c_5 hf
    refine lv_iload_n hx hb dX8_limitAt_8 rfl (lv_at hl 2 rfl) ?_
    refine lv_iconst (v := 5) hx hb dX8_limitAt_9 (by decide) ?_
    refine lv_isub hx hb dX8_limitAt_10 ?_
    refine lv_iload_n hx hb dX8_limitAt_11 rfl (lv_at hl 1 rfl) ?_
    refine lv_isub hx hb dX8_limitAt_12 ?_
    refine lv_goto (tgt := 17) hx hb dX8_limitAt_13 (by decide) ?_
    obtain rfl := Option.some.inj hf
    exact rt_i hQ hx hb hr hlocks hP hD hS dX8_limitAt_17

theorem dX8_pieceOf_0 : decode cX8_pieceOf 0 = .ok (.iload_n 1, 1) := by decide +kernel
theorem dX8_pieceOf_1 : decode cX8_pieceOf 1 = .ok (.ireturn, 1) := by decide +kernel
def m_Sequences_pieceOf (a1 : Int32) : Option (Int32) :=
  some a1
def rm_Sequences_pieceOf : Room := { frames := 0, cells := 0, slots := 0, locals := 0 }
set_option maxHeartbeats 4000000 in
set_option maxRecDepth 100000 in
theorem c_Sequences_pieceOf {l : Launch} {dC : Nat → ClassId} {dI : Nat → Nat → Nat} {cB cI : ClassId} {sz : Nat} {h0 : Nat} {a1 : Int32} {o_r : Int32} (hf : m_Sequences_pieceOf a1 = some o_r) : Met l yX8_pieceOf (Cond.code yX8_pieceOf cX8_pieceOf 2 (some .int) :: lw_G) rm_Sequences_pieceOf (PreC (dC, dI) [(cB, .byte), (cI, .int)] [.ref h0, .int a1] sz [(h0, .inr (7, []))]) (QcI o_r (dC, dI) [(h0, .inr (7, []))] (va_A [(h0, .inr (7, []))] sz)) 0 0 (va_A [(h0, .inr (7, []))] sz) := by
  refine met_of (Qf := fun A => QcI o_r (dC, dI) [(h0, .inr (7, []))] A) (by decide) (Nat.le_of_ble_eq_true rfl) ?_
  intro p e s m below meth c A ls Q hx hb hr hml hown hts hlocks hnm hP hK hD hN hT hA hl hQ
  have hown : s.vm.findClass RX8 = some m.cls := hown
  have hS : va_S A s.heap s.heap [] := va_S.rf
  have hl : lv_has ls 2 [(0, .ref h0), (1, .int a1)] := hl
  unfold m_Sequences_pieceOf at hf
  refine lv_iload_n hx hb dX8_pieceOf_0 rfl (lv_at hl 1 rfl) ?_
  obtain rfl := Option.some.inj hf
  exact rt_i hQ hx hb hr hlocks hP hD hS dX8_pieceOf_1

theorem dX8_leastCopy_0 : decode cX8_leastCopy 0 = .ok (.iconst 4, 1) := by decide +kernel
theorem dX8_leastCopy_1 : decode cX8_leastCopy 1 = .ok (.ireturn, 1) := by decide +kernel
def m_Sequences_leastCopy : Option (Int32) :=
  some (4 : Int32)
def rm_Sequences_leastCopy : Room := { frames := 0, cells := 0, slots := 0, locals := 0 }
set_option maxHeartbeats 4000000 in
set_option maxRecDepth 100000 in
theorem c_Sequences_leastCopy {l : Launch} {dC : Nat → ClassId} {dI : Nat → Nat → Nat} {cB cI : ClassId} {sz : Nat} {h0 : Nat} {o_r : Int32} (hf : m_Sequences_leastCopy = some o_r) : Met l yX8_leastCopy (Cond.code yX8_leastCopy cX8_leastCopy 1 (some .int) :: lw_G) rm_Sequences_leastCopy (PreC (dC, dI) [(cB, .byte), (cI, .int)] [.ref h0] sz [(h0, .inr (7, []))]) (QcI o_r (dC, dI) [(h0, .inr (7, []))] (va_A [(h0, .inr (7, []))] sz)) 0 0 (va_A [(h0, .inr (7, []))] sz) := by
  refine met_of (Qf := fun A => QcI o_r (dC, dI) [(h0, .inr (7, []))] A) (by decide) (Nat.le_of_ble_eq_true rfl) ?_
  intro p e s m below meth c A ls Q hx hb hr hml hown hts hlocks hnm hP hK hD hN hT hA hl hQ
  have hown : s.vm.findClass RX8 = some m.cls := hown
  have hS : va_S A s.heap s.heap [] := va_S.rf
  have hl : lv_has ls 1 [(0, .ref h0)] := hl
  unfold m_Sequences_leastCopy at hf
  refine lv_iconst (v := 4) hx hb dX8_leastCopy_0 (by decide) ?_
  obtain rfl := Option.some.inj hf
  exact rt_i hQ hx hb hr hlocks hP hD hS dX8_leastCopy_1

theorem dX8_mostCopy_0 : decode cX8_mostCopy 0 = .ok (.sipush 4000, 3) := by decide +kernel
theorem dX8_mostCopy_3 : decode cX8_mostCopy 3 = .ok (.ireturn, 1) := by decide +kernel
def m_Sequences_mostCopy : Option (Int32) :=
  some (4000 : Int32)
def rm_Sequences_mostCopy : Room := { frames := 0, cells := 0, slots := 0, locals := 0 }
set_option maxHeartbeats 4000000 in
set_option maxRecDepth 100000 in
theorem c_Sequences_mostCopy {l : Launch} {dC : Nat → ClassId} {dI : Nat → Nat → Nat} {cB cI : ClassId} {sz : Nat} {h0 : Nat} {o_r : Int32} (hf : m_Sequences_mostCopy = some o_r) : Met l yX8_mostCopy (Cond.code yX8_mostCopy cX8_mostCopy 1 (some .int) :: lw_G) rm_Sequences_mostCopy (PreC (dC, dI) [(cB, .byte), (cI, .int)] [.ref h0] sz [(h0, .inr (7, []))]) (QcI o_r (dC, dI) [(h0, .inr (7, []))] (va_A [(h0, .inr (7, []))] sz)) 0 0 (va_A [(h0, .inr (7, []))] sz) := by
  refine met_of (Qf := fun A => QcI o_r (dC, dI) [(h0, .inr (7, []))] A) (by decide) (Nat.le_of_ble_eq_true rfl) ?_
  intro p e s m below meth c A ls Q hx hb hr hml hown hts hlocks hnm hP hK hD hN hT hA hl hQ
  have hown : s.vm.findClass RX8 = some m.cls := hown
  have hS : va_S A s.heap s.heap [] := va_S.rf
  have hl : lv_has ls 1 [(0, .ref h0)] := hl
  unfold m_Sequences_mostCopy at hf
  refine lv_sipush (v := 4000) hx hb dX8_mostCopy_0 (by decide) ?_
  obtain rfl := Option.some.inj hf
  exact rt_i hQ hx hb hr hlocks hP hD hS dX8_mostCopy_3

theorem dX8_addedBytes_0 : decode cX8_addedBytes 0 = .ok (.iload_n 0, 1) := by decide +kernel
theorem dX8_addedBytes_1 : decode cX8_addedBytes 1 = .ok (.bipush 15, 2) := by decide +kernel
theorem dX8_addedBytes_3 : decode cX8_addedBytes 3 = .ok (.if_icmp .ge 7, 3) := by decide +kernel
theorem dX8_addedBytes_6 : decode cX8_addedBytes 6 = .ok (.iconst 0, 1) := by decide +kernel
theorem dX8_addedBytes_7 : decode cX8_addedBytes 7 = .ok (.goto 13, 3) := by decide +kernel
theorem dX8_addedBytes_10 : decode cX8_addedBytes 10 = .ok (.iconst 1, 1) := by decide +kernel
theorem dX8_addedBytes_11 : decode cX8_addedBytes 11 = .ok (.iload_n 0, 1) := by decide +kernel
theorem dX8_addedBytes_12 : decode cX8_addedBytes 12 = .ok (.bipush 15, 2) := by decide +kernel
theorem dX8_addedBytes_14 : decode cX8_addedBytes 14 = .ok (.isub, 1) := by decide +kernel
theorem dX8_addedBytes_15 : decode cX8_addedBytes 15 = .ok (.sipush 255, 3) := by decide +kernel
theorem dX8_addedBytes_18 : decode cX8_addedBytes 18 = .ok (.idiv, 1) := by decide +kernel
theorem dX8_addedBytes_19 : decode cX8_addedBytes 19 = .ok (.iadd, 1) := by decide +kernel
theorem dX8_addedBytes_20 : decode cX8_addedBytes 20 = .ok (.ireturn, 1) := by decide +kernel
def m_Sequences_addedBytes (a0 : Int32) : Option (Int32) :=
  if (15 : Int32) ≤ a0 then
    some ((1 : Int32) + ((a0 - (15 : Int32)) / (255 : Int32)))
  else
    some (0 : Int32)
def rm_Sequences_addedBytes : Room := { frames := 0, cells := 0, slots := 0, locals := 0 }
set_option maxHeartbeats 4000000 in
set_option maxRecDepth 100000 in
theorem c_Sequences_addedBytes {l : Launch} {dC : Nat → ClassId} {dI : Nat → Nat → Nat} {cB cI : ClassId} {sz : Nat} {a0 : Int32} {o_r : Int32} (hf : m_Sequences_addedBytes a0 = some o_r) : Met l yX8_addedBytes (Cond.code yX8_addedBytes cX8_addedBytes 1 (some .int) :: lw_G) rm_Sequences_addedBytes (PreC (dC, dI) [(cB, .byte), (cI, .int)] [.int a0] sz []) (QcI o_r (dC, dI) [] (va_A [] sz)) 0 0 (va_A [] sz) := by
  refine met_of (Qf := fun A => QcI o_r (dC, dI) [] A) (by decide) (Nat.le_of_ble_eq_true rfl) ?_
  intro p e s m below meth c A ls Q hx hb hr hml hown hts hlocks hnm hP hK hD hN hT hA hl hQ
  have hown : s.vm.findClass RX8 = some m.cls := hown
  have hS : va_S A s.heap s.heap [] := va_S.rf
  have hl : lv_has ls 1 [(0, .int a0)] := hl
  unfold m_Sequences_addedBytes at hf
  refine lv_iload_n hx hb dX8_addedBytes_0 rfl (lv_at hl 0 rfl) ?_
  refine lv_bipush (v := 15) hx hb dX8_addedBytes_1 (by decide) ?_
  refine lv_icmp_ge (tgt := 10) hx hb dX8_addedBytes_3 (by decide) (fun c_3 => ?_) (fun c_3 => ?_)
  · replace hf := if_t c_3 hf
    refine lv_iconst (v := 1) hx hb dX8_addedBytes_10 (by decide) ?_
    refine lv_iload_n hx hb dX8_addedBytes_11 rfl (lv_at hl 0 rfl) ?_
    refine lv_bipush (v := 15) hx hb dX8_addedBytes_12 (by decide) ?_
    refine lv_isub hx hb dX8_addedBytes_14 ?_
    refine lv_sipush (v := 255) hx hb dX8_addedBytes_15 (by decide) ?_
    refine lv_idiv hx hb dX8_addedBytes_18 (by decide) ?_
    refine lv_iadd hx hb dX8_addedBytes_19 ?_
    obtain rfl := Option.some.inj hf
    exact rt_i hQ hx hb hr hlocks hP hD hS dX8_addedBytes_20
  · replace hf := if_f c_3 hf
    refine lv_iconst (v := 0) hx hb dX8_addedBytes_6 (by decide) ?_
    refine lv_goto (tgt := 20) hx hb dX8_addedBytes_7 (by decide) ?_
    obtain rfl := Option.some.inj hf
    exact rt_i hQ hx hb hr hlocks hP hD hS dX8_addedBytes_20

theorem dX8_headOf_0 : decode cX8_headOf 0 = .ok (.iconst 1, 1) := by decide +kernel
theorem dX8_headOf_1 : decode cX8_headOf 1 = .ok (.iload_n 1, 1) := by decide +kernel
theorem dX8_headOf_2 : decode cX8_headOf 2 = .ok (.invokestatic 9, 3) := by decide +kernel
theorem dX8_headOf_5 : decode cX8_headOf 5 = .ok (.iadd, 1) := by decide +kernel
theorem dX8_headOf_6 : decode cX8_headOf 6 = .ok (.ireturn, 1) := by decide +kernel
def m_Sequences_headOf (a1 : Int32) : Option (Int32) :=
  (m_Sequences_addedBytes a1).bind fun r1 =>
  some ((1 : Int32) + r1)
def rm_Sequences_headOf : Room := { frames := 1, cells := 0, slots := 0, locals := 20 }
set_option maxHeartbeats 4000000 in
set_option maxRecDepth 100000 in
theorem c_Sequences_headOf {l : Launch} {dC : Nat → ClassId} {dI : Nat → Nat → Nat} {cB cI : ClassId} {sz : Nat} {h0 : Nat} {a1 : Int32} {o_r : Int32} (hf : m_Sequences_headOf a1 = some o_r) : Met l yX8_headOf (Cond.code yX8_headOf cX8_headOf 2 (some .int) :: lw_G) rm_Sequences_headOf (PreC (dC, dI) [(cB, .byte), (cI, .int)] [.ref h0, .int a1] sz [(h0, .inr (7, []))]) (QcI o_r (dC, dI) [(h0, .inr (7, []))] (va_A [(h0, .inr (7, []))] sz)) 0 0 (va_A [(h0, .inr (7, []))] sz) := by
  refine met_of (Qf := fun A => QcI o_r (dC, dI) [(h0, .inr (7, []))] A) (by decide) (Nat.le_of_ble_eq_true rfl) ?_
  intro p e s m below meth c A ls Q hx hb hr hml hown hts hlocks hnm hP hK hD hN hT hA hl hQ
  have hown : s.vm.findClass RX8 = some m.cls := hown
  have hS : va_S A s.heap s.heap [] := va_S.rf
  have hl : lv_has ls 2 [(0, .ref h0), (1, .int a1)] := hl
  unfold m_Sequences_headOf at hf
  refine lv_iconst (v := 1) hx hb dX8_headOf_0 (by decide) ?_
  refine lv_iload_n hx hb dX8_headOf_1 rfl (lv_at hl 1 rfl) ?_
  obtain ⟨r1, hc, hf⟩ := bind_some hf
  refine nx_i (rn_S (As := [.int a1]) (rest := [.int (1 : Int32)]) (n := 1) ⟨hx, hb, hml, hown, hts⟩ (c_Sequences_addedBytes (l := l) (dC := dC) (dI := dI) (cB := cB) (cI := cI) (a0 := a1)  (o_r := r1) hc) (wS kw_602 kw_603 kw_88 kw_604) (by decide +kernel) ⟨Nat.le_of_ble_eq_true rfl, Nat.le_of_ble_eq_true rfl⟩ hK hP hD hN hT hS (va_free (wc := []) hD hS hA [] rfl) [] rfl (by decide) rfl hl.1 rfl (lv_room (Nat.le_of_ble_eq_true rfl)) dX8_headOf_2 ⟨Nat.le_of_ble_eq_true rfl, Nat.le_of_ble_eq_true rfl⟩) hP hD hS hA (wr := [(h0, .inr (7, []))]) (w1 := []) (ws' := [(h0, .inr (7, []))]) [] [0] [0] rfl rfl (by decide) (by decide) rfl (by decide) (fun H locs hP hD hS => ?_)
  refine lv_iadd hx hb dX8_headOf_5 ?_
  obtain rfl := Option.some.inj hf
  exact rt_i hQ hx hb hr hlocks hP hD hS dX8_headOf_6

theorem dX8_sameHeadTo_0 : decode cX8_sameHeadTo 0 = .ok (.iload_n 1, 1) := by decide +kernel
theorem dX8_sameHeadTo_1 : decode cX8_sameHeadTo 1 = .ok (.bipush 15, 2) := by decide +kernel
theorem dX8_sameHeadTo_3 : decode cX8_sameHeadTo 3 = .ok (.if_icmp .ge 8, 3) := by decide +kernel
theorem dX8_sameHeadTo_6 : decode cX8_sameHeadTo 6 = .ok (.bipush 14, 2) := by decide +kernel
theorem dX8_sameHeadTo_8 : decode cX8_sameHeadTo 8 = .ok (.goto 17, 3) := by decide +kernel
theorem dX8_sameHeadTo_11 : decode cX8_sameHeadTo 11 = .ok (.iload_n 1, 1) := by decide +kernel
theorem dX8_sameHeadTo_12 : decode cX8_sameHeadTo 12 = .ok (.sipush 254, 3) := by decide +kernel
theorem dX8_sameHeadTo_15 : decode cX8_sameHeadTo 15 = .ok (.iadd, 1) := by decide +kernel
theorem dX8_sameHeadTo_16 : decode cX8_sameHeadTo 16 = .ok (.iload_n 1, 1) := by decide +kernel
theorem dX8_sameHeadTo_17 : decode cX8_sameHeadTo 17 = .ok (.bipush 15, 2) := by decide +kernel
theorem dX8_sameHeadTo_19 : decode cX8_sameHeadTo 19 = .ok (.isub, 1) := by decide +kernel
theorem dX8_sameHeadTo_20 : decode cX8_sameHeadTo 20 = .ok (.sipush 255, 3) := by decide +kernel
theorem dX8_sameHeadTo_23 : decode cX8_sameHeadTo 23 = .ok (.irem, 1) := by decide +kernel
theorem dX8_sameHeadTo_24 : decode cX8_sameHeadTo 24 = .ok (.isub, 1) := by decide +kernel
theorem dX8_sameHeadTo_25 : decode cX8_sameHeadTo 25 = .ok (.ireturn, 1) := by decide +kernel
def m_Sequences_sameHeadTo (a1 : Int32) : Option (Int32) :=
  if (15 : Int32) ≤ a1 then
    some ((a1 + (254 : Int32)) - (irem (a1 - (15 : Int32)) (255 : Int32)))
  else
    some (14 : Int32)
def rm_Sequences_sameHeadTo : Room := { frames := 0, cells := 0, slots := 0, locals := 0 }
set_option maxHeartbeats 4000000 in
set_option maxRecDepth 100000 in
theorem c_Sequences_sameHeadTo {l : Launch} {dC : Nat → ClassId} {dI : Nat → Nat → Nat} {cB cI : ClassId} {sz : Nat} {h0 : Nat} {a1 : Int32} {o_r : Int32} (hf : m_Sequences_sameHeadTo a1 = some o_r) : Met l yX8_sameHeadTo (Cond.code yX8_sameHeadTo cX8_sameHeadTo 2 (some .int) :: lw_G) rm_Sequences_sameHeadTo (PreC (dC, dI) [(cB, .byte), (cI, .int)] [.ref h0, .int a1] sz [(h0, .inr (7, []))]) (QcI o_r (dC, dI) [(h0, .inr (7, []))] (va_A [(h0, .inr (7, []))] sz)) 0 0 (va_A [(h0, .inr (7, []))] sz) := by
  refine met_of (Qf := fun A => QcI o_r (dC, dI) [(h0, .inr (7, []))] A) (by decide) (Nat.le_of_ble_eq_true rfl) ?_
  intro p e s m below meth c A ls Q hx hb hr hml hown hts hlocks hnm hP hK hD hN hT hA hl hQ
  have hown : s.vm.findClass RX8 = some m.cls := hown
  have hS : va_S A s.heap s.heap [] := va_S.rf
  have hl : lv_has ls 2 [(0, .ref h0), (1, .int a1)] := hl
  unfold m_Sequences_sameHeadTo at hf
  refine lv_iload_n hx hb dX8_sameHeadTo_0 rfl (lv_at hl 1 rfl) ?_
  refine lv_bipush (v := 15) hx hb dX8_sameHeadTo_1 (by decide) ?_
  refine lv_icmp_ge (tgt := 11) hx hb dX8_sameHeadTo_3 (by decide) (fun c_3 => ?_) (fun c_3 => ?_)
  · replace hf := if_t c_3 hf
    refine lv_iload_n hx hb dX8_sameHeadTo_11 rfl (lv_at hl 1 rfl) ?_
    refine lv_sipush (v := 254) hx hb dX8_sameHeadTo_12 (by decide) ?_
    refine lv_iadd hx hb dX8_sameHeadTo_15 ?_
    refine lv_iload_n hx hb dX8_sameHeadTo_16 rfl (lv_at hl 1 rfl) ?_
    refine lv_bipush (v := 15) hx hb dX8_sameHeadTo_17 (by decide) ?_
    refine lv_isub hx hb dX8_sameHeadTo_19 ?_
    refine lv_sipush (v := 255) hx hb dX8_sameHeadTo_20 (by decide) ?_
    refine lv_irem hx hb dX8_sameHeadTo_23 (by decide) ?_
    refine lv_isub hx hb dX8_sameHeadTo_24 ?_
    obtain rfl := Option.some.inj hf
    exact rt_i hQ hx hb hr hlocks hP hD hS dX8_sameHeadTo_25
  · replace hf := if_f c_3 hf
    refine lv_bipush (v := 14) hx hb dX8_sameHeadTo_6 (by decide) ?_
    refine lv_goto (tgt := 25) hx hb dX8_sameHeadTo_8 (by decide) ?_
    obtain rfl := Option.some.inj hf
    exact rt_i hQ hx hb hr hlocks hP hD hS dX8_sameHeadTo_25

theorem dX8_mostClose_0 : decode cX8_mostClose 0 = .ok (.iconst 0, 1) := by decide +kernel
theorem dX8_mostClose_1 : decode cX8_mostClose 1 = .ok (.ireturn, 1) := by decide +kernel
def m_Sequences_mostClose : Option (Int32) :=
  some (0 : Int32)
def rm_Sequences_mostClose : Room := { frames := 0, cells := 0, slots := 0, locals := 0 }
set_option maxHeartbeats 4000000 in
set_option maxRecDepth 100000 in
theorem c_Sequences_mostClose {l : Launch} {dC : Nat → ClassId} {dI : Nat → Nat → Nat} {cB cI : ClassId} {sz : Nat} {h0 : Nat} {o_r : Int32} (hf : m_Sequences_mostClose = some o_r) : Met l yX8_mostClose (Cond.code yX8_mostClose cX8_mostClose 1 (some .int) :: lw_G) rm_Sequences_mostClose (PreC (dC, dI) [(cB, .byte), (cI, .int)] [.ref h0] sz [(h0, .inr (7, []))]) (QcI o_r (dC, dI) [(h0, .inr (7, []))] (va_A [(h0, .inr (7, []))] sz)) 0 0 (va_A [(h0, .inr (7, []))] sz) := by
  refine met_of (Qf := fun A => QcI o_r (dC, dI) [(h0, .inr (7, []))] A) (by decide) (Nat.le_of_ble_eq_true rfl) ?_
  intro p e s m below meth c A ls Q hx hb hr hml hown hts hlocks hnm hP hK hD hN hT hA hl hQ
  have hown : s.vm.findClass RX8 = some m.cls := hown
  have hS : va_S A s.heap s.heap [] := va_S.rf
  have hl : lv_has ls 1 [(0, .ref h0)] := hl
  unfold m_Sequences_mostClose at hf
  refine lv_iconst (v := 0) hx hb dX8_mostClose_0 (by decide) ?_
  obtain rfl := Option.some.inj hf
  exact rt_i hQ hx hb hr hlocks hP hD hS dX8_mostClose_1

theorem dX8_closeSpan_0 : decode cX8_closeSpan 0 = .ok (.iconst 0, 1) := by decide +kernel
theorem dX8_closeSpan_1 : decode cX8_closeSpan 1 = .ok (.ireturn, 1) := by decide +kernel
def m_Sequences_closeSpan : Option (Int32) :=
  some (0 : Int32)
def rm_Sequences_closeSpan : Room := { frames := 0, cells := 0, slots := 0, locals := 0 }
set_option maxHeartbeats 4000000 in
set_option maxRecDepth 100000 in
theorem c_Sequences_closeSpan {l : Launch} {dC : Nat → ClassId} {dI : Nat → Nat → Nat} {cB cI : ClassId} {sz : Nat} {h0 : Nat} {o_r : Int32} (hf : m_Sequences_closeSpan = some o_r) : Met l yX8_closeSpan (Cond.code yX8_closeSpan cX8_closeSpan 1 (some .int) :: lw_G) rm_Sequences_closeSpan (PreC (dC, dI) [(cB, .byte), (cI, .int)] [.ref h0] sz [(h0, .inr (7, []))]) (QcI o_r (dC, dI) [(h0, .inr (7, []))] (va_A [(h0, .inr (7, []))] sz)) 0 0 (va_A [(h0, .inr (7, []))] sz) := by
  refine met_of (Qf := fun A => QcI o_r (dC, dI) [(h0, .inr (7, []))] A) (by decide) (Nat.le_of_ble_eq_true rfl) ?_
  intro p e s m below meth c A ls Q hx hb hr hml hown hts hlocks hnm hP hK hD hN hT hA hl hQ
  have hown : s.vm.findClass RX8 = some m.cls := hown
  have hS : va_S A s.heap s.heap [] := va_S.rf
  have hl : lv_has ls 1 [(0, .ref h0)] := hl
  unfold m_Sequences_closeSpan at hf
  refine lv_iconst (v := 0) hx hb dX8_closeSpan_0 (by decide) ?_
  obtain rfl := Option.some.inj hf
  exact rt_i hQ hx hb hr hlocks hP hD hS dX8_closeSpan_1

theorem dX8_copyCost_0 : decode cX8_copyCost 0 = .ok (.iconst 2, 1) := by decide +kernel
theorem dX8_copyCost_1 : decode cX8_copyCost 1 = .ok (.iload_n 1, 1) := by decide +kernel
theorem dX8_copyCost_2 : decode cX8_copyCost 2 = .ok (.iconst 4, 1) := by decide +kernel
theorem dX8_copyCost_3 : decode cX8_copyCost 3 = .ok (.isub, 1) := by decide +kernel
theorem dX8_copyCost_4 : decode cX8_copyCost 4 = .ok (.invokestatic 9, 3) := by decide +kernel
theorem dX8_copyCost_7 : decode cX8_copyCost 7 = .ok (.iadd, 1) := by decide +kernel
theorem dX8_copyCost_8 : decode cX8_copyCost 8 = .ok (.ireturn, 1) := by decide +kernel
def m_Sequences_copyCost (a1 : Int32) : Option (Int32) :=
  (m_Sequences_addedBytes (a1 - (4 : Int32))).bind fun r1 =>
  some ((2 : Int32) + r1)
def rm_Sequences_copyCost : Room := { frames := 1, cells := 0, slots := 0, locals := 20 }
set_option maxHeartbeats 4000000 in
set_option maxRecDepth 100000 in
theorem c_Sequences_copyCost {l : Launch} {dC : Nat → ClassId} {dI : Nat → Nat → Nat} {cB cI : ClassId} {sz : Nat} {h0 : Nat} {a1 : Int32} {a2 : Int32} {o_r : Int32} (hf : m_Sequences_copyCost a1 = some o_r) : Met l yX8_copyCost (Cond.code yX8_copyCost cX8_copyCost 3 (some .int) :: lw_G) rm_Sequences_copyCost (PreC (dC, dI) [(cB, .byte), (cI, .int)] [.ref h0, .int a1, .int a2] sz [(h0, .inr (7, []))]) (QcI o_r (dC, dI) [(h0, .inr (7, []))] (va_A [(h0, .inr (7, []))] sz)) 0 0 (va_A [(h0, .inr (7, []))] sz) := by
  refine met_of (Qf := fun A => QcI o_r (dC, dI) [(h0, .inr (7, []))] A) (by decide) (Nat.le_of_ble_eq_true rfl) ?_
  intro p e s m below meth c A ls Q hx hb hr hml hown hts hlocks hnm hP hK hD hN hT hA hl hQ
  have hown : s.vm.findClass RX8 = some m.cls := hown
  have hS : va_S A s.heap s.heap [] := va_S.rf
  have hl : lv_has ls 3 [(0, .ref h0), (1, .int a1), (2, .int a2)] := hl
  unfold m_Sequences_copyCost at hf
  refine lv_iconst (v := 2) hx hb dX8_copyCost_0 (by decide) ?_
  refine lv_iload_n hx hb dX8_copyCost_1 rfl (lv_at hl 1 rfl) ?_
  refine lv_iconst (v := 4) hx hb dX8_copyCost_2 (by decide) ?_
  refine lv_isub hx hb dX8_copyCost_3 ?_
  obtain ⟨r1, hc, hf⟩ := bind_some hf
  refine nx_i (rn_S (As := [.int (a1 - (4 : Int32))]) (rest := [.int (2 : Int32)]) (n := 1) ⟨hx, hb, hml, hown, hts⟩ (c_Sequences_addedBytes (l := l) (dC := dC) (dI := dI) (cB := cB) (cI := cI) (a0 := (a1 - (4 : Int32)))  (o_r := r1) hc) (wS kw_602 kw_603 kw_88 kw_604) (by decide +kernel) ⟨Nat.le_of_ble_eq_true rfl, Nat.le_of_ble_eq_true rfl⟩ hK hP hD hN hT hS (va_free (wc := []) hD hS hA [] rfl) [] rfl (by decide) rfl hl.1 rfl (lv_room (Nat.le_of_ble_eq_true rfl)) dX8_copyCost_4 ⟨Nat.le_of_ble_eq_true rfl, Nat.le_of_ble_eq_true rfl⟩) hP hD hS hA (wr := [(h0, .inr (7, []))]) (w1 := []) (ws' := [(h0, .inr (7, []))]) [] [0] [0] rfl rfl (by decide) (by decide) rfl (by decide) (fun H locs hP hD hS => ?_)
  refine lv_iadd hx hb dX8_copyCost_7 ?_
  obtain rfl := Option.some.inj hf
  exact rt_i hQ hx hb hr hlocks hP hD hS dX8_copyCost_8

theorem dX8_sameCostTo_0 : decode cX8_sameCostTo 0 = .ok (.iconst 4, 1) := by decide +kernel
theorem dX8_sameCostTo_1 : decode cX8_sameCostTo 1 = .ok (.aload_n 0, 1) := by decide +kernel
theorem dX8_sameCostTo_2 : decode cX8_sameCostTo 2 = .ok (.iload_n 1, 1) := by decide +kernel
theorem dX8_sameCostTo_3 : decode cX8_sameCostTo 3 = .ok (.iconst 4, 1) := by decide +kernel
theorem dX8_sameCostTo_4 : decode cX8_sameCostTo 4 = .ok (.isub, 1) := by decide +kernel
theorem dX8_sameCostTo_5 : decode cX8_sameCostTo 5 = .ok (.invokevirtual 15, 3) := by decide +kernel
theorem dX8_sameCostTo_8 : decode cX8_sameCostTo 8 = .ok (.iadd, 1) := by decide +kernel
theorem dX8_sameCostTo_9 : decode cX8_sameCostTo 9 = .ok (.ireturn, 1) := by decide +kernel
def m_Sequences_sameCostTo (a1 : Int32) : Option (Int32) :=
  (m_Sequences_sameHeadTo (a1 - (4 : Int32))).bind fun r1 =>
  some ((4 : Int32) + r1)
def rm_Sequences_sameCostTo : Room := { frames := 1, cells := 0, slots := 0, locals := 21 }
set_option maxHeartbeats 4000000 in
set_option maxRecDepth 100000 in
theorem c_Sequences_sameCostTo {l : Launch} {dC : Nat → ClassId} {dI : Nat → Nat → Nat} {cB cI : ClassId} {sz : Nat} {h0 : Nat} {a1 : Int32} {a2 : Int32} {o_r : Int32} (hf : m_Sequences_sameCostTo a1 = some o_r) : Met l yX8_sameCostTo (Cond.code yX8_sameCostTo cX8_sameCostTo 3 (some .int) :: lw_G) rm_Sequences_sameCostTo (PreC (dC, dI) [(cB, .byte), (cI, .int)] [.ref h0, .int a1, .int a2] sz [(h0, .inr (7, []))]) (QcI o_r (dC, dI) [(h0, .inr (7, []))] (va_A [(h0, .inr (7, []))] sz)) 0 0 (va_A [(h0, .inr (7, []))] sz) := by
  refine met_of (Qf := fun A => QcI o_r (dC, dI) [(h0, .inr (7, []))] A) (by decide) (Nat.le_of_ble_eq_true rfl) ?_
  intro p e s m below meth c A ls Q hx hb hr hml hown hts hlocks hnm hP hK hD hN hT hA hl hQ
  have hown : s.vm.findClass RX8 = some m.cls := hown
  have hS : va_S A s.heap s.heap [] := va_S.rf
  have hl : lv_has ls 3 [(0, .ref h0), (1, .int a1), (2, .int a2)] := hl
  unfold m_Sequences_sameCostTo at hf
  refine lv_iconst (v := 4) hx hb dX8_sameCostTo_0 (by decide) ?_
  refine lv_aload_n hx hb dX8_sameCostTo_1 rfl (lv_at hl 0 rfl) ?_
  refine lv_iload_n hx hb dX8_sameCostTo_2 rfl (lv_at hl 1 rfl) ?_
  refine lv_iconst (v := 4) hx hb dX8_sameCostTo_3 (by decide) ?_
  refine lv_isub hx hb dX8_sameCostTo_4 ?_
  obtain ⟨r1, hc, hf⟩ := bind_some hf
  refine nx_i (rn_V (As := [.int (a1 - (4 : Int32))]) (rest := [.int (4 : Int32)]) (n := 1) (ci := 7) (q0 := 0) ⟨hx, hb, hml, hown, hts⟩ (c_Sequences_sameHeadTo (l := l) (dC := dC) (dI := dI) (cB := cB) (cI := cI) (h0 := h0) (a1 := (a1 - (4 : Int32)))  (o_r := r1) hc) (wV kw_581 kw_582 kw_583 kw_88 kw_584) (by decide +kernel) ⟨Nat.le_of_ble_eq_true rfl, Nat.le_of_ble_eq_true rfl⟩ hK hP hD hN hT hS (va_free (wc := [(h0, .inr (7, []))]) hD hS hA [0] rfl) [0] rfl (by decide) rfl rfl rfl hl.1 rfl (lv_room (Nat.le_of_ble_eq_true rfl)) dX8_sameCostTo_5 ⟨Nat.le_of_ble_eq_true rfl, Nat.le_of_ble_eq_true rfl⟩) hP hD hS hA (wr := []) (w1 := [(h0, .inr (7, []))]) (ws' := [(h0, .inr (7, []))]) [0] [] [0] rfl rfl (by decide) (by decide) rfl (by decide) (fun H locs hP hD hS => ?_)
  refine lv_iadd hx hb dX8_sameCostTo_8 ?_
  obtain rfl := Option.some.inj hf
  exact rt_i hQ hx hb hr hlocks hP hD hS dX8_sameCostTo_9

theorem dX8_writeHead_0 : decode cX8_writeHead 0 = .ok (.return_, 1) := by decide +kernel
def m_Sequences_writeHead : Option (Unit) :=
  some ()
def rm_Sequences_writeHead : Room := { frames := 0, cells := 0, slots := 0, locals := 0 }
set_option maxHeartbeats 4000000 in
set_option maxRecDepth 100000 in
theorem c_Sequences_writeHead {l : Launch} {dC : Nat → ClassId} {dI : Nat → Nat → Nat} {cB cI : ClassId} {sz : Nat} {h0 : Nat} {h1 : Nat} {a2 : Int32} (hf : m_Sequences_writeHead = some ()) : Met l yX8_writeHead (Cond.code yX8_writeHead cX8_writeHead 3 none :: lw_G) rm_Sequences_writeHead (PreC (dC, dI) [(cB, .byte), (cI, .int)] [.ref h0, .ref h1, .int a2] sz [(h0, .inr (7, []))]) (QcV (dC, dI) [(h0, .inr (7, []))] (va_A [(h0, .inr (7, []))] sz)) 0 0 (va_A [(h0, .inr (7, []))] sz) := by
  refine met_of (Qf := fun A => QcV (dC, dI) [(h0, .inr (7, []))] A) (by decide) (Nat.le_of_ble_eq_true rfl) ?_
  intro p e s m below meth c A ls Q hx hb hr hml hown hts hlocks hnm hP hK hD hN hT hA hl hQ
  have hown : s.vm.findClass RX8 = some m.cls := hown
  have hS : va_S A s.heap s.heap [] := va_S.rf
  have hl : lv_has ls 3 [(0, .ref h0), (1, .ref h1), (2, .int a2)] := hl
  unfold m_Sequences_writeHead at hf
  exact rt_v hQ hx hb hr hlocks hP hD hS dX8_writeHead_0

theorem dX8_writeAdded_0 : decode cX8_writeAdded 0 = .ok (.iload_n 1, 1) := by decide +kernel
theorem dX8_writeAdded_1 : decode cX8_writeAdded 1 = .ok (.bipush 15, 2) := by decide +kernel
theorem dX8_writeAdded_3 : decode cX8_writeAdded 3 = .ok (.isub, 1) := by decide +kernel
theorem dX8_writeAdded_4 : decode cX8_writeAdded 4 = .ok (.istore_n 2, 1) := by decide +kernel
theorem dX8_writeAdded_5 : decode cX8_writeAdded 5 = .ok (.iload_n 2, 1) := by decide +kernel
theorem dX8_writeAdded_6 : decode cX8_writeAdded 6 = .ok (.sipush 255, 3) := by decide +kernel
theorem dX8_writeAdded_9 : decode cX8_writeAdded 9 = .ok (.if_icmp .lt 19, 3) := by decide +kernel
theorem dX8_writeAdded_12 : decode cX8_writeAdded 12 = .ok (.aload_n 0, 1) := by decide +kernel
theorem dX8_writeAdded_13 : decode cX8_writeAdded 13 = .ok (.sipush 255, 3) := by decide +kernel
theorem dX8_writeAdded_16 : decode cX8_writeAdded 16 = .ok (.invokevirtual 27, 3) := by decide +kernel
theorem dX8_writeAdded_19 : decode cX8_writeAdded 19 = .ok (.iinc 2 (-255), 6) := by decide +kernel
theorem dX8_writeAdded_25 : decode cX8_writeAdded 25 = .ok (.goto (-20), 3) := by decide +kernel
theorem dX8_writeAdded_28 : decode cX8_writeAdded 28 = .ok (.iload_n 2, 1) := by decide +kernel
theorem dX8_writeAdded_29 : decode cX8_writeAdded 29 = .ok (.ifCond .lt 8, 3) := by decide +kernel
theorem dX8_writeAdded_32 : decode cX8_writeAdded 32 = .ok (.aload_n 0, 1) := by decide +kernel
theorem dX8_writeAdded_33 : decode cX8_writeAdded 33 = .ok (.iload_n 2, 1) := by decide +kernel
theorem dX8_writeAdded_34 : decode cX8_writeAdded 34 = .ok (.invokevirtual 27, 3) := by decide +kernel
theorem dX8_writeAdded_37 : decode cX8_writeAdded 37 = .ok (.return_, 1) := by decide +kernel
def m_Sequences_writeAdded_B5 (h0_held_n : Nat) (f2 : Nat → Int32) (g3 : Int32) (j2_4 : Int32) : Option (((Nat → Int32) × Int32 × Int32) ⊕ ((((Int32 × (Nat → Int32)))))) :=
  if j2_4 < (255 : Int32) then
    if j2_4 < 0 then
      some (.inr (g3, f2))
    else
      (m_Bytes_add j2_4 g3 h0_held_n f2).bind fun (u5, u6) =>
      some (.inr (u5, u6))
  else
    (m_Bytes_add (255 : Int32) g3 h0_held_n f2).bind fun (u7, u8) =>
    bnd (j2_4 + (-255 : Int32)) fun v2_9 =>
    some (.inl (u8, u7, v2_9))
def m_Sequences_writeAdded (a1 : Int32) (h0_count : Int32) (h0_held_n : Nat) (h0_held_f : Nat → Int32) : Option (Int32 × (Nat → Int32)) :=
  bnd (a1 - (15 : Int32)) fun v2_1 =>
  (iter (fun st => m_Sequences_writeAdded_B5 h0_held_n st.1 st.2.1 st.2.2) FU (h0_held_f, h0_count, v2_1)).bind fun o => some o
def rm_Sequences_writeAdded : Room := { frames := 1, cells := 0, slots := 0, locals := 21 }
set_option maxHeartbeats 4000000 in
set_option maxRecDepth 100000 in
theorem c_Sequences_writeAdded {l : Launch} {dC : Nat → ClassId} {dI : Nat → Nat → Nat} {cB cI : ClassId} {sz : Nat} {h0 : Nat} {a1 : Int32} {h0_held : Nat} {h0_count : Int32} {h0_held_n : Nat} {h0_held_f : Nat → Int32} {o_h0_count : Int32} {o_h0_held_f : Nat → Int32} (hf : m_Sequences_writeAdded a1 h0_count h0_held_n h0_held_f = some (o_h0_count, o_h0_held_f)) : Met l yX8_writeAdded (Cond.code yX8_writeAdded cX8_writeAdded 3 none :: lw_G) rm_Sequences_writeAdded (PreC (dC, dI) [(cB, .byte), (cI, .int)] [.ref h0, .int a1] sz [(h0, .inr (2, [.ref h0_held, .int h0_count])), (h0_held, .inl (cB, h0_held_n, .inl h0_held_f))]) (QcV (dC, dI) [(h0, .inr (2, [.ref h0_held, .int o_h0_count])), (h0_held, .inl (cB, h0_held_n, .inl o_h0_held_f))] (va_A [(h0, .inr (2, [.ref h0_held, .int h0_count])), (h0_held, .inl (cB, h0_held_n, .inl h0_held_f))] sz)) 0 0 (va_A [(h0, .inr (2, [.ref h0_held, .int h0_count])), (h0_held, .inl (cB, h0_held_n, .inl h0_held_f))] sz) := by
  refine met_of (Qf := fun A => QcV (dC, dI) [(h0, .inr (2, [.ref h0_held, .int o_h0_count])), (h0_held, .inl (cB, h0_held_n, .inl o_h0_held_f))] A) (by decide) (Nat.le_of_ble_eq_true rfl) ?_
  intro p e s m below meth c A ls Q hx hb hr hml hown hts hlocks hnm hP hK hD hN hT hA hl hQ
  have hown : s.vm.findClass RX8 = some m.cls := hown
  have hS : va_S A s.heap s.heap [] := va_S.rf
  have hl : lv_has ls 3 [(0, .ref h0), (1, .int a1)] := hl
  unfold m_Sequences_writeAdded at hf
  refine lv_iload_n hx hb dX8_writeAdded_0 rfl (lv_at hl 1 rfl) ?_
  refine lv_bipush (v := 15) hx hb dX8_writeAdded_1 (by decide) ?_
  refine lv_isub hx hb dX8_writeAdded_3 ?_
  refine lv_topi (fun v2_1 e_v2_1 => ?_)
  replace hf := bnd_at e_v2_1 hf
  refine lv_istore_n (lv' := [(2, .int v2_1), (0, .ref h0), (1, .int a1)]) hx hb dX8_writeAdded_4 rfl hl (by decide) rfl (fun ls hl => ?_)
  obtain ⟨o_5, hi_5, hk_5⟩ := bind_some hf
  have hL_5 : ∀ (n : Nat) (f2 : Nat → Int32) (g3 : Int32) (j2_4 : Int32) (H : Heap) (locs : List Loc) (ls : Array Slot), iter (fun st => m_Sequences_writeAdded_B5 h0_held_n st.1 st.2.1 st.2.2) n (f2, g3, j2_4) = some o_5 → va_P (dC, dI) vwCl [(h0, .inr (2, [.ref h0_held, .int g3])), (h0_held, .inl (cB, h0_held_n, .inl f2))] H → va_D A [(h0, .inr (2, [.ref h0_held, .int g3])), (h0_held, .inl (cB, h0_held_n, .inl f2))] → va_S A s.heap H locs → lv_has ls 3 [(0, .ref h0), (2, .int j2_4)] → W p l e (rm_Sequences_writeAdded) s m ([.ref h0, .int a1] : List Value).toArray below meth c H locs 0 0 Q (F0 m 5 ls []) := by
    intro n
    induction n with
    | zero => intro f2 g3 j2_4 H locs ls hf; exact absurd hf (fun z => by cases z)
    | succ n ih_5 =>
      intro f2 g3 j2_4 H locs ls hf hP hD hS hl
      obtain ⟨r_5, hf, hr_5⟩ := iter_succ hf
      have hf : m_Sequences_writeAdded_B5 h0_held_n f2 g3 j2_4 = some r_5 := hf
      unfold m_Sequences_writeAdded_B5 at hf
      refine lv_iload_n hx hb dX8_writeAdded_5 rfl (lv_at hl 1 rfl) ?_
      refine lv_sipush (v := 255) hx hb dX8_writeAdded_6 (by decide) ?_
      refine lv_icmp_lt (tgt := 28) hx hb dX8_writeAdded_9 (by decide) (fun c_9 => ?_) (fun c_9 => ?_)
      · replace hf := if_t c_9 hf
        refine lv_iload_n hx hb dX8_writeAdded_28 rfl (lv_at hl 1 rfl) ?_
        refine lv_if_lt (tgt := 37) hx hb dX8_writeAdded_29 (by decide) (fun c_29 => ?_) (fun c_29 => ?_)
        · replace hf := if_t c_29 hf
          replace hf : some (g3, f2) = some (o_h0_count, o_h0_held_f) := by have hq := hk_5; rw [iter_exit hf hr_5] at hq; exact hq
          obtain ⟨rfl, hq_1⟩ := Prod.mk.inj (Option.some.inj hf)
          obtain rfl := hq_1
          exact rt_v hQ hx hb hr hlocks hP hD hS dX8_writeAdded_37
        · replace hf := if_f c_29 hf
          refine lv_aload_n hx hb dX8_writeAdded_32 rfl (lv_at hl 0 rfl) ?_
          refine lv_iload_n hx hb dX8_writeAdded_33 rfl (lv_at hl 1 rfl) ?_
          obtain ⟨x, hc, hf⟩ := bind_some hf
          obtain ⟨u5, u6⟩ := x
          dsimp only at hf
          refine nx_v (rn_V (As := [.int j2_4]) (rest := []) (n := 1) (ci := 2) (q0 := 0) ⟨hx, hb, hml, hown, hts⟩ (c_Bytes_add (l := l) (dC := dC) (dI := dI) (cB := cB) (cI := cI) (h0 := h0) (a1 := j2_4) (h0_held := h0_held) (h0_count := g3) (h0_held_n := h0_held_n) (h0_held_f := f2) (o_h0_count := u5) (o_h0_held_f := u6) hc) (wV kw_718 kw_398 kw_399 kw_83 kw_400) (by decide +kernel) ⟨Nat.le_of_ble_eq_true rfl, Nat.le_of_ble_eq_true rfl⟩ hK hP hD hN hT hS (va_free (wc := [(h0, .inr (2, [.ref h0_held, .int g3])), (h0_held, .inl (cB, h0_held_n, .inl f2))]) hD hS hA [0, 1] rfl) [0, 1] rfl (by decide) rfl rfl rfl hl.1 rfl (lv_room (Nat.le_of_ble_eq_true rfl)) dX8_writeAdded_34 ⟨Nat.le_of_ble_eq_true rfl, Nat.le_of_ble_eq_true rfl⟩) hP hD hS hA (wr := []) (w1 := [(h0, .inr (2, [.ref h0_held, .int u5])), (h0_held, .inl (cB, h0_held_n, .inl u6))]) (ws' := [(h0, .inr (2, [.ref h0_held, .int u5])), (h0_held, .inl (cB, h0_held_n, .inl u6))]) [0, 1] [] [0, 1] rfl rfl (by decide) (by decide) rfl (by decide) (fun H locs hP hD hS => ?_)
          replace hf : some (u5, u6) = some (o_h0_count, o_h0_held_f) := by have hq := hk_5; rw [iter_exit hf hr_5] at hq; exact hq
          obtain ⟨rfl, hq_1⟩ := Prod.mk.inj (Option.some.inj hf)
          obtain rfl := hq_1
          exact rt_v hQ hx hb hr hlocks hP hD hS dX8_writeAdded_37
      · replace hf := if_f c_9 hf
        refine lv_aload_n hx hb dX8_writeAdded_12 rfl (lv_at hl 0 rfl) ?_
        refine lv_sipush (v := 255) hx hb dX8_writeAdded_13 (by decide) ?_
        obtain ⟨x, hc, hf⟩ := bind_some hf
        obtain ⟨u7, u8⟩ := x
        dsimp only at hf
        refine nx_v (rn_V (As := [.int (255 : Int32)]) (rest := []) (n := 1) (ci := 2) (q0 := 0) ⟨hx, hb, hml, hown, hts⟩ (c_Bytes_add (l := l) (dC := dC) (dI := dI) (cB := cB) (cI := cI) (h0 := h0) (a1 := (255 : Int32)) (h0_held := h0_held) (h0_count := g3) (h0_held_n := h0_held_n) (h0_held_f := f2) (o_h0_count := u7) (o_h0_held_f := u8) hc) (wV kw_718 kw_398 kw_399 kw_83 kw_400) (by decide +kernel) ⟨Nat.le_of_ble_eq_true rfl, Nat.le_of_ble_eq_true rfl⟩ hK hP hD hN hT hS (va_free (wc := [(h0, .inr (2, [.ref h0_held, .int g3])), (h0_held, .inl (cB, h0_held_n, .inl f2))]) hD hS hA [0, 1] rfl) [0, 1] rfl (by decide) rfl rfl rfl hl.1 rfl (lv_room (Nat.le_of_ble_eq_true rfl)) dX8_writeAdded_16 ⟨Nat.le_of_ble_eq_true rfl, Nat.le_of_ble_eq_true rfl⟩) hP hD hS hA (wr := []) (w1 := [(h0, .inr (2, [.ref h0_held, .int u7])), (h0_held, .inl (cB, h0_held_n, .inl u8))]) (ws' := [(h0, .inr (2, [.ref h0_held, .int u7])), (h0_held, .inl (cB, h0_held_n, .inl u8))]) [0, 1] [] [0, 1] rfl rfl (by decide) (by decide) rfl (by decide) (fun H locs hP hD hS => ?_)
        obtain ⟨v2_9, e_v2_9⟩ : ∃ y : Int32, y = (j2_4 + (-255 : Int32)) := ⟨_, rfl⟩
        replace hf := bnd_at e_v2_9 hf
        refine lv_iincW (v := v2_9) (lv' := [(2, .int v2_9), (0, .ref h0)]) hx hb dX8_writeAdded_19 hl (k := 1) rfl (by rw [e_v2_9]; rfl) (by decide) rfl (fun ls hl => ?_)
        refine lv_goto (tgt := 5) hx hb dX8_writeAdded_25 (by decide) ?_
        exact ih_5 u8 u7 v2_9 _ _ _ (iter_back hf hr_5) hP hD hS (lv_sub hl [1, 0] rfl)
  exact hL_5 FU h0_held_f h0_count v2_1 _ _ _ hi_5 hP hD hS (lv_sub hl [1, 0] rfl)

theorem dX8_write_0 : decode cX8_write 0 = .ok (.iload 5, 2) := by decide +kernel
theorem dX8_write_2 : decode cX8_write 2 = .ok (.iconst 4, 1) := by decide +kernel
theorem dX8_write_3 : decode cX8_write 3 = .ok (.isub, 1) := by decide +kernel
theorem dX8_write_4 : decode cX8_write 4 = .ok (.iconst 0, 1) := by decide +kernel
theorem dX8_write_5 : decode cX8_write 5 = .ok (.invokestatic 18, 3) := by decide +kernel
theorem dX8_write_8 : decode cX8_write 8 = .ok (.istore 7, 2) := by decide +kernel
theorem dX8_write_10 : decode cX8_write 10 = .ok (.aload_n 2, 1) := by decide +kernel
theorem dX8_write_11 : decode cX8_write 11 = .ok (.bipush 16, 2) := by decide +kernel
theorem dX8_write_13 : decode cX8_write 13 = .ok (.iload 4, 2) := by decide +kernel
theorem dX8_write_15 : decode cX8_write 15 = .ok (.bipush 15, 2) := by decide +kernel
theorem dX8_write_17 : decode cX8_write 17 = .ok (.invokestatic 24, 3) := by decide +kernel
theorem dX8_write_20 : decode cX8_write 20 = .ok (.imul, 1) := by decide +kernel
theorem dX8_write_21 : decode cX8_write 21 = .ok (.iload 7, 2) := by decide +kernel
theorem dX8_write_23 : decode cX8_write 23 = .ok (.bipush 15, 2) := by decide +kernel
theorem dX8_write_25 : decode cX8_write 25 = .ok (.invokestatic 24, 3) := by decide +kernel
theorem dX8_write_28 : decode cX8_write 28 = .ok (.iadd, 1) := by decide +kernel
theorem dX8_write_29 : decode cX8_write 29 = .ok (.invokevirtual 27, 3) := by decide +kernel
theorem dX8_write_32 : decode cX8_write 32 = .ok (.aload_n 2, 1) := by decide +kernel
theorem dX8_write_33 : decode cX8_write 33 = .ok (.iload 4, 2) := by decide +kernel
theorem dX8_write_35 : decode cX8_write 35 = .ok (.invokestatic 33, 3) := by decide +kernel
theorem dX8_write_38 : decode cX8_write 38 = .ok (.aload_n 1, 1) := by decide +kernel
theorem dX8_write_39 : decode cX8_write 39 = .ok (.aload_n 2, 1) := by decide +kernel
theorem dX8_write_40 : decode cX8_write 40 = .ok (.iload_n 3, 1) := by decide +kernel
theorem dX8_write_41 : decode cX8_write 41 = .ok (.iload 4, 2) := by decide +kernel
theorem dX8_write_43 : decode cX8_write 43 = .ok (.invokevirtual 37, 3) := by decide +kernel
theorem dX8_write_46 : decode cX8_write 46 = .ok (.iload 5, 2) := by decide +kernel
theorem dX8_write_48 : decode cX8_write 48 = .ok (.ifCond .le 17, 3) := by decide +kernel
theorem dX8_write_51 : decode cX8_write 51 = .ok (.aload_n 2, 1) := by decide +kernel
theorem dX8_write_52 : decode cX8_write 52 = .ok (.iload 6, 2) := by decide +kernel
theorem dX8_write_54 : decode cX8_write 54 = .ok (.i2l, 1) := by decide +kernel
theorem dX8_write_55 : decode cX8_write 55 = .ok (.iconst 2, 1) := by decide +kernel
theorem dX8_write_56 : decode cX8_write 56 = .ok (.invokevirtual 43, 3) := by decide +kernel
theorem dX8_write_59 : decode cX8_write 59 = .ok (.aload_n 2, 1) := by decide +kernel
theorem dX8_write_60 : decode cX8_write 60 = .ok (.iload 7, 2) := by decide +kernel
theorem dX8_write_62 : decode cX8_write 62 = .ok (.invokestatic 33, 3) := by decide +kernel
theorem dX8_write_65 : decode cX8_write 65 = .ok (.iconst 1, 1) := by decide +kernel
theorem dX8_write_66 : decode cX8_write 66 = .ok (.ireturn, 1) := by decide +kernel
def m_Sequences_write (a3 : Int32) (a4 : Int32) (a5 : Int32) (a6 : Int32) (h2_count : Int32) (h2_held_n : Nat) (h2_held_f : Nat → Int32) (h1_held_n : Nat) (h1_held_f : Nat → Int32) : Option (Int32 × Int32 × (Nat → Int32)) :=
  bnd (imax (a5 - (4 : Int32)) (0 : Int32)) fun v7_1 =>
  (m_Bytes_add (((16 : Int32) * (imin a4 (15 : Int32))) + (imin v7_1 (15 : Int32))) h2_count h2_held_n h2_held_f).bind fun (u2, u3) =>
  (m_Sequences_writeAdded a4 u2 h2_held_n u3).bind fun (u4, u5) =>
  (m_Text_copyTo a3 a4 u4 h1_held_n h1_held_f h2_held_n u5).bind fun (u6, u7) =>
  if a5 ≤ 0 then
    some ((1 : Int32), u6, u7)
  else
    (m_Bytes_addNumber (a6.toInt64) (2 : Int32) u6 h2_held_n u7).bind fun (u8, u9) =>
    (m_Sequences_writeAdded v7_1 u8 h2_held_n u9).bind fun (u10, u11) =>
    some ((1 : Int32), u10, u11)
def rm_Sequences_write : Room := { frames := 3, cells := 0, slots := 0, locals := 86 }
set_option maxHeartbeats 4000000 in
set_option maxRecDepth 100000 in
theorem c_Sequences_write {l : Launch} {dC : Nat → ClassId} {dI : Nat → Nat → Nat} {cB cI : ClassId} {sz : Nat} {h0 : Nat} {h1 : Nat} {h2 : Nat} {a3 : Int32} {a4 : Int32} {a5 : Int32} {a6 : Int32} {h2_held : Nat} {h1_held : Nat} {h2_count : Int32} {h2_held_n : Nat} {h2_held_f : Nat → Int32} {w_h1_before : Value} {w_h1_latest : Value} {w_h1_count : Value} {w_h1_foundOffset : Value} {w_h1_downPlace : Value} {w_h1_downLimit : Value} {w_h1_downMost : Value} {w_h1_downOffset : Value} {h1_held_n : Nat} {h1_held_f : Nat → Int32} {o_r : Int32} {o_h2_count : Int32} {o_h2_held_f : Nat → Int32} (hf : m_Sequences_write a3 a4 a5 a6 h2_count h2_held_n h2_held_f h1_held_n h1_held_f = some (o_r, o_h2_count, o_h2_held_f)) : Met l yX8_write (Cond.code yX8_write cX8_write 8 (some .int) :: lw_G) rm_Sequences_write (PreC (dC, dI) [(cB, .byte), (cI, .int)] [.ref h0, .ref h1, .ref h2, .int a3, .int a4, .int a5, .int a6] sz [(h0, .inr (7, [])), (h2, .inr (2, [.ref h2_held, .int h2_count])), (h2_held, .inl (cB, h2_held_n, .inl h2_held_f)), (h1, .inr (8, [.ref h1_held, w_h1_before, w_h1_latest, w_h1_count, w_h1_foundOffset, w_h1_downPlace, w_h1_downLimit, w_h1_downMost, w_h1_downOffset])), (h1_held, .inl (cB, h1_held_n, .inl h1_held_f))]) (QcI o_r (dC, dI) [(h0, .inr (7, [])), (h2, .inr (2, [.ref h2_held, .int o_h2_count])), (h2_held, .inl (cB, h2_held_n, .inl o_h2_held_f)), (h1, .inr (8, [.ref h1_held, w_h1_before, w_h1_latest, w_h1_count, w_h1_foundOffset, w_h1_downPlace, w_h1_downLimit, w_h1_downMost, w_h1_downOffset])), (h1_held, .inl (cB, h1_held_n, .inl h1_held_f))] (va_A [(h0, .inr (7, [])), (h2, .inr (2, [.ref h2_held, .int h2_count])), (h2_held, .inl (cB, h2_held_n, .inl h2_held_f)), (h1, .inr (8, [.ref h1_held, w_h1_before, w_h1_latest, w_h1_count, w_h1_foundOffset, w_h1_downPlace, w_h1_downLimit, w_h1_downMost, w_h1_downOffset])), (h1_held, .inl (cB, h1_held_n, .inl h1_held_f))] sz)) 0 0 (va_A [(h0, .inr (7, [])), (h2, .inr (2, [.ref h2_held, .int h2_count])), (h2_held, .inl (cB, h2_held_n, .inl h2_held_f)), (h1, .inr (8, [.ref h1_held, w_h1_before, w_h1_latest, w_h1_count, w_h1_foundOffset, w_h1_downPlace, w_h1_downLimit, w_h1_downMost, w_h1_downOffset])), (h1_held, .inl (cB, h1_held_n, .inl h1_held_f))] sz) := by
  refine met_of (Qf := fun A => QcI o_r (dC, dI) [(h0, .inr (7, [])), (h2, .inr (2, [.ref h2_held, .int o_h2_count])), (h2_held, .inl (cB, h2_held_n, .inl o_h2_held_f)), (h1, .inr (8, [.ref h1_held, w_h1_before, w_h1_latest, w_h1_count, w_h1_foundOffset, w_h1_downPlace, w_h1_downLimit, w_h1_downMost, w_h1_downOffset])), (h1_held, .inl (cB, h1_held_n, .inl h1_held_f))] A) (by decide) (Nat.le_of_ble_eq_true rfl) ?_
  intro p e s m below meth c A ls Q hx hb hr hml hown hts hlocks hnm hP hK hD hN hT hA hl hQ
  have hown : s.vm.findClass RX8 = some m.cls := hown
  have hS : va_S A s.heap s.heap [] := va_S.rf
  have hl : lv_has ls 8 [(0, .ref h0), (1, .ref h1), (2, .ref h2), (3, .int a3), (4, .int a4), (5, .int a5), (6, .int a6)] := hl
  unfold m_Sequences_write at hf
  refine lv_iload hx hb dX8_write_0 (lv_at hl 5 rfl) ?_
  refine lv_iconst (v := 4) hx hb dX8_write_2 (by decide) ?_
  refine lv_isub hx hb dX8_write_3 ?_
  refine lv_iconst (v := 0) hx hb dX8_write_4 (by decide) ?_
  refine va_mmax hx hb (hml.trans hl.1.symm) hown (hts _ kw_716) (hts _ kw_113) (hts _ kw_84) (hts _ kw_114) (Nat.le_of_ble_eq_true rfl) (Nat.le_of_ble_eq_true rfl) (Nat.le_of_ble_eq_true rfl) (Nat.le_of_ble_eq_true rfl) dX8_write_5 ?_
  refine lv_topi (fun v7_1 e_v7_1 => ?_)
  replace hf := bnd_at e_v7_1 hf
  refine lv_istore (lv' := [(7, .int v7_1), (0, .ref h0), (1, .ref h1), (2, .ref h2), (3, .int a3), (4, .int a4), (5, .int a5), (6, .int a6)]) hx hb dX8_write_8 hl (by decide) rfl (fun ls hl => ?_)
  refine lv_aload_n hx hb dX8_write_10 rfl (lv_at hl 3 rfl) ?_
  refine lv_bipush (v := 16) hx hb dX8_write_11 (by decide) ?_
  refine lv_iload hx hb dX8_write_13 (lv_at hl 5 rfl) ?_
  refine lv_bipush (v := 15) hx hb dX8_write_15 (by decide) ?_
  refine va_mmin hx hb (hml.trans hl.1.symm) hown (hts _ kw_717) (hts _ kw_488) (hts _ kw_84) (hts _ kw_489) (Nat.le_of_ble_eq_true rfl) (Nat.le_of_ble_eq_true rfl) (Nat.le_of_ble_eq_true rfl) (Nat.le_of_ble_eq_true rfl) dX8_write_17 ?_
  refine lv_imul hx hb dX8_write_20 ?_
  refine lv_iload hx hb dX8_write_21 (lv_at hl 0 rfl) ?_
  refine lv_bipush (v := 15) hx hb dX8_write_23 (by decide) ?_
  refine va_mmin hx hb (hml.trans hl.1.symm) hown (hts _ kw_717) (hts _ kw_488) (hts _ kw_84) (hts _ kw_489) (Nat.le_of_ble_eq_true rfl) (Nat.le_of_ble_eq_true rfl) (Nat.le_of_ble_eq_true rfl) (Nat.le_of_ble_eq_true rfl) dX8_write_25 ?_
  refine lv_iadd hx hb dX8_write_28 ?_
  obtain ⟨x, hc, hf⟩ := bind_some hf
  obtain ⟨u2, u3⟩ := x
  dsimp only at hf
  refine nx_v (rn_V (As := [.int (((16 : Int32) * (imin a4 (15 : Int32))) + (imin v7_1 (15 : Int32)))]) (rest := []) (n := 1) (ci := 2) (q0 := 0) ⟨hx, hb, hml, hown, hts⟩ (c_Bytes_add (l := l) (dC := dC) (dI := dI) (cB := cB) (cI := cI) (h0 := h2) (a1 := (((16 : Int32) * (imin a4 (15 : Int32))) + (imin v7_1 (15 : Int32)))) (h0_held := h2_held) (h0_count := h2_count) (h0_held_n := h2_held_n) (h0_held_f := h2_held_f) (o_h0_count := u2) (o_h0_held_f := u3) hc) (wV kw_718 kw_398 kw_399 kw_83 kw_400) (by decide +kernel) ⟨Nat.le_of_ble_eq_true rfl, Nat.le_of_ble_eq_true rfl⟩ hK hP hD hN hT hS (va_free (wc := [(h2, .inr (2, [.ref h2_held, .int h2_count])), (h2_held, .inl (cB, h2_held_n, .inl h2_held_f))]) hD hS hA [1, 2] rfl) [1, 2] rfl (by decide) rfl rfl rfl hl.1 rfl (lv_room (Nat.le_of_ble_eq_true rfl)) dX8_write_29 ⟨Nat.le_of_ble_eq_true rfl, Nat.le_of_ble_eq_true rfl⟩) hP hD hS hA (wr := [(h0, .inr (7, [])), (h1, .inr (8, [.ref h1_held, w_h1_before, w_h1_latest, w_h1_count, w_h1_foundOffset, w_h1_downPlace, w_h1_downLimit, w_h1_downMost, w_h1_downOffset])), (h1_held, .inl (cB, h1_held_n, .inl h1_held_f))]) (w1 := [(h2, .inr (2, [.ref h2_held, .int u2])), (h2_held, .inl (cB, h2_held_n, .inl u3))]) (ws' := [(h0, .inr (7, [])), (h2, .inr (2, [.ref h2_held, .int u2])), (h2_held, .inl (cB, h2_held_n, .inl u3)), (h1, .inr (8, [.ref h1_held, w_h1_before, w_h1_latest, w_h1_count, w_h1_foundOffset, w_h1_downPlace, w_h1_downLimit, w_h1_downMost, w_h1_downOffset])), (h1_held, .inl (cB, h1_held_n, .inl h1_held_f))]) [1, 2] [0, 3, 4] [0, 3, 4, 1, 2] rfl rfl (by decide) (by decide) rfl (by decide) (fun H locs hP hD hS => ?_)
  refine lv_aload_n hx hb dX8_write_32 rfl (lv_at hl 3 rfl) ?_
  refine lv_iload hx hb dX8_write_33 (lv_at hl 5 rfl) ?_
  obtain ⟨x, hc, hf⟩ := bind_some hf
  obtain ⟨u4, u5⟩ := x
  dsimp only at hf
  refine nx_v (rn_S (As := [.ref h2, .int a4]) (rest := []) (n := 2) ⟨hx, hb, hml, hown, hts⟩ (c_Sequences_writeAdded (l := l) (dC := dC) (dI := dI) (cB := cB) (cI := cI) (h0 := h2) (a1 := a4) (h0_held := h2_held) (h0_count := u2) (h0_held_n := h2_held_n) (h0_held_f := u3) (o_h0_count := u4) (o_h0_held_f := u5) hc) (wS kw_719 kw_720 kw_88 kw_721) (by decide +kernel) ⟨Nat.le_of_ble_eq_true rfl, Nat.le_of_ble_eq_true rfl⟩ hK hP hD hN hT hS (va_free (wc := [(h2, .inr (2, [.ref h2_held, .int u2])), (h2_held, .inl (cB, h2_held_n, .inl u3))]) hD hS hA [1, 2] rfl) [1, 2] rfl (by decide) rfl hl.1 rfl (lv_room (Nat.le_of_ble_eq_true rfl)) dX8_write_35 ⟨Nat.le_of_ble_eq_true rfl, Nat.le_of_ble_eq_true rfl⟩) hP hD hS hA (wr := [(h0, .inr (7, [])), (h1, .inr (8, [.ref h1_held, w_h1_before, w_h1_latest, w_h1_count, w_h1_foundOffset, w_h1_downPlace, w_h1_downLimit, w_h1_downMost, w_h1_downOffset])), (h1_held, .inl (cB, h1_held_n, .inl h1_held_f))]) (w1 := [(h2, .inr (2, [.ref h2_held, .int u4])), (h2_held, .inl (cB, h2_held_n, .inl u5))]) (ws' := [(h0, .inr (7, [])), (h2, .inr (2, [.ref h2_held, .int u4])), (h2_held, .inl (cB, h2_held_n, .inl u5)), (h1, .inr (8, [.ref h1_held, w_h1_before, w_h1_latest, w_h1_count, w_h1_foundOffset, w_h1_downPlace, w_h1_downLimit, w_h1_downMost, w_h1_downOffset])), (h1_held, .inl (cB, h1_held_n, .inl h1_held_f))]) [1, 2] [0, 3, 4] [0, 3, 4, 1, 2] rfl rfl (by decide) (by decide) rfl (by decide) (fun H locs hP hD hS => ?_)
  refine lv_aload_n hx hb dX8_write_38 rfl (lv_at hl 2 rfl) ?_
  refine lv_aload_n hx hb dX8_write_39 rfl (lv_at hl 3 rfl) ?_
  refine lv_iload_n hx hb dX8_write_40 rfl (lv_at hl 4 rfl) ?_
  refine lv_iload hx hb dX8_write_41 (lv_at hl 5 rfl) ?_
  obtain ⟨x, hc, hf⟩ := bind_some hf
  obtain ⟨u6, u7⟩ := x
  dsimp only at hf
  refine nx_v (rn_V (As := [.ref h2, .int a3, .int a4]) (rest := []) (n := 3) (ci := 8) (q0 := 0) ⟨hx, hb, hml, hown, hts⟩ (c_Text_copyTo (l := l) (dC := dC) (dI := dI) (cB := cB) (cI := cI) (h0 := h1) (h1 := h2) (a2 := a3) (a3 := a4) (h0_held := h1_held) (h1_held := h2_held) (w_h0_before := (w_h1_before)) (w_h0_latest := (w_h1_latest)) (w_h0_count := (w_h1_count)) (w_h0_foundOffset := (w_h1_foundOffset)) (w_h0_downPlace := (w_h1_downPlace)) (w_h0_downLimit := (w_h1_downLimit)) (w_h0_downMost := (w_h1_downMost)) (w_h0_downOffset := (w_h1_downOffset)) (h1_count := u4) (h0_held_n := h1_held_n) (h0_held_f := h1_held_f) (h1_held_n := h2_held_n) (h1_held_f := u5) (o_h1_count := u6) (o_h1_held_f := u7) hc) (wV kw_722 kw_703 kw_704 kw_85 kw_705) (by decide +kernel) ⟨Nat.le_of_ble_eq_true rfl, Nat.le_of_ble_eq_true rfl⟩ hK hP hD hN hT hS (va_free (wc := [(h1, .inr (8, [.ref h1_held, w_h1_before, w_h1_latest, w_h1_count, w_h1_foundOffset, w_h1_downPlace, w_h1_downLimit, w_h1_downMost, w_h1_downOffset])), (h2, .inr (2, [.ref h2_held, .int u4])), (h1_held, .inl (cB, h1_held_n, .inl h1_held_f)), (h2_held, .inl (cB, h2_held_n, .inl u5))]) hD hS hA [3, 1, 4, 2] rfl) [3, 1, 4, 2] rfl (by decide) rfl rfl rfl hl.1 rfl (lv_room (Nat.le_of_ble_eq_true rfl)) dX8_write_43 ⟨Nat.le_of_ble_eq_true rfl, Nat.le_of_ble_eq_true rfl⟩) hP hD hS hA (wr := [(h0, .inr (7, []))]) (w1 := [(h1, .inr (8, [.ref h1_held, w_h1_before, w_h1_latest, w_h1_count, w_h1_foundOffset, w_h1_downPlace, w_h1_downLimit, w_h1_downMost, w_h1_downOffset])), (h2, .inr (2, [.ref h2_held, .int u6])), (h1_held, .inl (cB, h1_held_n, .inl h1_held_f)), (h2_held, .inl (cB, h2_held_n, .inl u7))]) (ws' := [(h0, .inr (7, [])), (h2, .inr (2, [.ref h2_held, .int u6])), (h2_held, .inl (cB, h2_held_n, .inl u7)), (h1, .inr (8, [.ref h1_held, w_h1_before, w_h1_latest, w_h1_count, w_h1_foundOffset, w_h1_downPlace, w_h1_downLimit, w_h1_downMost, w_h1_downOffset])), (h1_held, .inl (cB, h1_held_n, .inl h1_held_f))]) [3, 1, 4, 2] [0] [0, 2, 4, 1, 3] rfl rfl (by decide) (by decide) rfl (by decide) (fun H locs hP hD hS => ?_)
  refine lv_iload hx hb dX8_write_46 (lv_at hl 6 rfl) ?_
  refine lv_if_le (tgt := 65) hx hb dX8_write_48 (by decide) (fun c_48 => ?_) (fun c_48 => ?_)
  · replace hf := if_t c_48 hf
    refine lv_iconst (v := 1) hx hb dX8_write_65 (by decide) ?_
    obtain ⟨rfl, hq_1⟩ := Prod.mk.inj (Option.some.inj hf)
    obtain ⟨rfl, hq_2⟩ := Prod.mk.inj hq_1
    obtain rfl := hq_2
    exact rt_i hQ hx hb hr hlocks hP hD hS dX8_write_66
  · replace hf := if_f c_48 hf
    refine lv_aload_n hx hb dX8_write_51 rfl (lv_at hl 3 rfl) ?_
    refine lv_iload hx hb dX8_write_52 (lv_at hl 7 rfl) ?_
    refine lv_i2l (v := (a6.toInt64)) hx hb dX8_write_54 rfl ?_
    refine lv_iconst (v := 2) hx hb dX8_write_55 (by decide) ?_
    obtain ⟨x, hc, hf⟩ := bind_some hf
    obtain ⟨u8, u9⟩ := x
    dsimp only at hf
    refine nx_v (rn_V (As := [.long (a6.toInt64), .int (2 : Int32)]) (rest := []) (n := 2) (ci := 2) (q0 := 0) ⟨hx, hb, hml, hown, hts⟩ (c_Bytes_addNumber (l := l) (dC := dC) (dI := dI) (cB := cB) (cI := cI) (h0 := h2) (a1 := (a6.toInt64)) (a2 := (2 : Int32)) (h0_held := h2_held) (h0_count := u6) (h0_held_n := h2_held_n) (h0_held_f := u7) (o_h0_count := u8) (o_h0_held_f := u9) hc) (wV kw_723 kw_699 kw_700 kw_83 kw_701) (by decide +kernel) ⟨Nat.le_of_ble_eq_true rfl, Nat.le_of_ble_eq_true rfl⟩ hK hP hD hN hT hS (va_free (wc := [(h2, .inr (2, [.ref h2_held, .int u6])), (h2_held, .inl (cB, h2_held_n, .inl u7))]) hD hS hA [1, 2] rfl) [1, 2] rfl (by decide) rfl rfl rfl hl.1 rfl (lv_room (Nat.le_of_ble_eq_true rfl)) dX8_write_56 ⟨Nat.le_of_ble_eq_true rfl, Nat.le_of_ble_eq_true rfl⟩) hP hD hS hA (wr := [(h0, .inr (7, [])), (h1, .inr (8, [.ref h1_held, w_h1_before, w_h1_latest, w_h1_count, w_h1_foundOffset, w_h1_downPlace, w_h1_downLimit, w_h1_downMost, w_h1_downOffset])), (h1_held, .inl (cB, h1_held_n, .inl h1_held_f))]) (w1 := [(h2, .inr (2, [.ref h2_held, .int u8])), (h2_held, .inl (cB, h2_held_n, .inl u9))]) (ws' := [(h0, .inr (7, [])), (h2, .inr (2, [.ref h2_held, .int u8])), (h2_held, .inl (cB, h2_held_n, .inl u9)), (h1, .inr (8, [.ref h1_held, w_h1_before, w_h1_latest, w_h1_count, w_h1_foundOffset, w_h1_downPlace, w_h1_downLimit, w_h1_downMost, w_h1_downOffset])), (h1_held, .inl (cB, h1_held_n, .inl h1_held_f))]) [1, 2] [0, 3, 4] [0, 3, 4, 1, 2] rfl rfl (by decide) (by decide) rfl (by decide) (fun H locs hP hD hS => ?_)
    refine lv_aload_n hx hb dX8_write_59 rfl (lv_at hl 3 rfl) ?_
    refine lv_iload hx hb dX8_write_60 (lv_at hl 0 rfl) ?_
    obtain ⟨x, hc, hf⟩ := bind_some hf
    obtain ⟨u10, u11⟩ := x
    dsimp only at hf
    refine nx_v (rn_S (As := [.ref h2, .int v7_1]) (rest := []) (n := 2) ⟨hx, hb, hml, hown, hts⟩ (c_Sequences_writeAdded (l := l) (dC := dC) (dI := dI) (cB := cB) (cI := cI) (h0 := h2) (a1 := v7_1) (h0_held := h2_held) (h0_count := u8) (h0_held_n := h2_held_n) (h0_held_f := u9) (o_h0_count := u10) (o_h0_held_f := u11) hc) (wS kw_719 kw_720 kw_88 kw_721) (by decide +kernel) ⟨Nat.le_of_ble_eq_true rfl, Nat.le_of_ble_eq_true rfl⟩ hK hP hD hN hT hS (va_free (wc := [(h2, .inr (2, [.ref h2_held, .int u8])), (h2_held, .inl (cB, h2_held_n, .inl u9))]) hD hS hA [1, 2] rfl) [1, 2] rfl (by decide) rfl hl.1 rfl (lv_room (Nat.le_of_ble_eq_true rfl)) dX8_write_62 ⟨Nat.le_of_ble_eq_true rfl, Nat.le_of_ble_eq_true rfl⟩) hP hD hS hA (wr := [(h0, .inr (7, [])), (h1, .inr (8, [.ref h1_held, w_h1_before, w_h1_latest, w_h1_count, w_h1_foundOffset, w_h1_downPlace, w_h1_downLimit, w_h1_downMost, w_h1_downOffset])), (h1_held, .inl (cB, h1_held_n, .inl h1_held_f))]) (w1 := [(h2, .inr (2, [.ref h2_held, .int u10])), (h2_held, .inl (cB, h2_held_n, .inl u11))]) (ws' := [(h0, .inr (7, [])), (h2, .inr (2, [.ref h2_held, .int u10])), (h2_held, .inl (cB, h2_held_n, .inl u11)), (h1, .inr (8, [.ref h1_held, w_h1_before, w_h1_latest, w_h1_count, w_h1_foundOffset, w_h1_downPlace, w_h1_downLimit, w_h1_downMost, w_h1_downOffset])), (h1_held, .inl (cB, h1_held_n, .inl h1_held_f))]) [1, 2] [0, 3, 4] [0, 3, 4, 1, 2] rfl rfl (by decide) (by decide) rfl (by decide) (fun H locs hP hD hS => ?_)
    refine lv_iconst (v := 1) hx hb dX8_write_65 (by decide) ?_
    obtain ⟨rfl, hq_1⟩ := Prod.mk.inj (Option.some.inj hf)
    obtain ⟨rfl, hq_2⟩ := Prod.mk.inj hq_1
    obtain rfl := hq_2
    exact rt_i hQ hx hb hr hlocks hP hD hS dX8_write_66

theorem dX3_limitAt_0 : decode cX3_limitAt 0 = .ok (.iload_n 2, 1) := by decide +kernel
theorem dX3_limitAt_1 : decode cX3_limitAt 1 = .ok (.iload_n 1, 1) := by decide +kernel
theorem dX3_limitAt_2 : decode cX3_limitAt 2 = .ok (.isub, 1) := by decide +kernel
theorem dX3_limitAt_3 : decode cX3_limitAt 3 = .ok (.ireturn, 1) := by decide +kernel
def m_Elements_limitAt (a1 : Int32) (a2 : Int32) : Option (Int32) :=
  some (a2 - a1)
def rm_Elements_limitAt : Room := { frames := 0, cells := 0, slots := 0, locals := 0 }
set_option maxHeartbeats 4000000 in
set_option maxRecDepth 100000 in
theorem c_Elements_limitAt {l : Launch} {dC : Nat → ClassId} {dI : Nat → Nat → Nat} {cB cI : ClassId} {sz : Nat} {h0 : Nat} {a1 : Int32} {a2 : Int32} {o_r : Int32} (hf : m_Elements_limitAt a1 a2 = some o_r) : Met l yX3_limitAt (Cond.code yX3_limitAt cX3_limitAt 3 (some .int) :: lw_G) rm_Elements_limitAt (PreC (dC, dI) [(cB, .byte), (cI, .int)] [.ref h0, .int a1, .int a2] sz [(h0, .inr (3, []))]) (QcI o_r (dC, dI) [(h0, .inr (3, []))] (va_A [(h0, .inr (3, []))] sz)) 0 0 (va_A [(h0, .inr (3, []))] sz) := by
  refine met_of (Qf := fun A => QcI o_r (dC, dI) [(h0, .inr (3, []))] A) (by decide) (Nat.le_of_ble_eq_true rfl) ?_
  intro p e s m below meth c A ls Q hx hb hr hml hown hts hlocks hnm hP hK hD hN hT hA hl hQ
  have hown : s.vm.findClass RX3 = some m.cls := hown
  have hS : va_S A s.heap s.heap [] := va_S.rf
  have hl : lv_has ls 3 [(0, .ref h0), (1, .int a1), (2, .int a2)] := hl
  unfold m_Elements_limitAt at hf
  refine lv_iload_n hx hb dX3_limitAt_0 rfl (lv_at hl 2 rfl) ?_
  refine lv_iload_n hx hb dX3_limitAt_1 rfl (lv_at hl 1 rfl) ?_
  refine lv_isub hx hb dX3_limitAt_2 ?_
  obtain rfl := Option.some.inj hf
  exact rt_i hQ hx hb hr hlocks hP hD hS dX3_limitAt_3

theorem dX3_pieceOf_0 : decode cX3_pieceOf 0 = .ok (.iload_n 1, 1) := by decide +kernel
theorem dX3_pieceOf_1 : decode cX3_pieceOf 1 = .ok (.bipush 68, 2) := by decide +kernel
theorem dX3_pieceOf_3 : decode cX3_pieceOf 3 = .ok (.if_icmp .lt 6, 3) := by decide +kernel
theorem dX3_pieceOf_6 : decode cX3_pieceOf 6 = .ok (.bipush 64, 2) := by decide +kernel
theorem dX3_pieceOf_8 : decode cX3_pieceOf 8 = .ok (.ireturn, 1) := by decide +kernel
theorem dX3_pieceOf_9 : decode cX3_pieceOf 9 = .ok (.iload_n 1, 1) := by decide +kernel
theorem dX3_pieceOf_10 : decode cX3_pieceOf 10 = .ok (.bipush 64, 2) := by decide +kernel
theorem dX3_pieceOf_12 : decode cX3_pieceOf 12 = .ok (.if_icmp .le 8, 3) := by decide +kernel
theorem dX3_pieceOf_15 : decode cX3_pieceOf 15 = .ok (.bipush 60, 2) := by decide +kernel
theorem dX3_pieceOf_17 : decode cX3_pieceOf 17 = .ok (.goto 4, 3) := by decide +kernel
theorem dX3_pieceOf_20 : decode cX3_pieceOf 20 = .ok (.iload_n 1, 1) := by decide +kernel
theorem dX3_pieceOf_21 : decode cX3_pieceOf 21 = .ok (.ireturn, 1) := by decide +kernel
def m_Elements_pieceOf (a1 : Int32) : Option (Int32) :=
  if a1 < (68 : Int32) then
    if a1 ≤ (64 : Int32) then
      some a1
    else
      some (60 : Int32)
  else
    some (64 : Int32)
def rm_Elements_pieceOf : Room := { frames := 0, cells := 0, slots := 0, locals := 0 }
set_option maxHeartbeats 4000000 in
set_option maxRecDepth 100000 in
theorem c_Elements_pieceOf {l : Launch} {dC : Nat → ClassId} {dI : Nat → Nat → Nat} {cB cI : ClassId} {sz : Nat} {h0 : Nat} {a1 : Int32} {o_r : Int32} (hf : m_Elements_pieceOf a1 = some o_r) : Met l yX3_pieceOf (Cond.code yX3_pieceOf cX3_pieceOf 2 (some .int) :: lw_G) rm_Elements_pieceOf (PreC (dC, dI) [(cB, .byte), (cI, .int)] [.ref h0, .int a1] sz [(h0, .inr (3, []))]) (QcI o_r (dC, dI) [(h0, .inr (3, []))] (va_A [(h0, .inr (3, []))] sz)) 0 0 (va_A [(h0, .inr (3, []))] sz) := by
  refine met_of (Qf := fun A => QcI o_r (dC, dI) [(h0, .inr (3, []))] A) (by decide) (Nat.le_of_ble_eq_true rfl) ?_
  intro p e s m below meth c A ls Q hx hb hr hml hown hts hlocks hnm hP hK hD hN hT hA hl hQ
  have hown : s.vm.findClass RX3 = some m.cls := hown
  have hS : va_S A s.heap s.heap [] := va_S.rf
  have hl : lv_has ls 2 [(0, .ref h0), (1, .int a1)] := hl
  unfold m_Elements_pieceOf at hf
  refine lv_iload_n hx hb dX3_pieceOf_0 rfl (lv_at hl 1 rfl) ?_
  refine lv_bipush (v := 68) hx hb dX3_pieceOf_1 (by decide) ?_
  refine lv_icmp_lt (tgt := 9) hx hb dX3_pieceOf_3 (by decide) (fun c_3 => ?_) (fun c_3 => ?_)
  · replace hf := if_t c_3 hf
    refine lv_iload_n hx hb dX3_pieceOf_9 rfl (lv_at hl 1 rfl) ?_
    refine lv_bipush (v := 64) hx hb dX3_pieceOf_10 (by decide) ?_
    refine lv_icmp_le (tgt := 20) hx hb dX3_pieceOf_12 (by decide) (fun c_12 => ?_) (fun c_12 => ?_)
    · replace hf := if_t c_12 hf
      refine lv_iload_n hx hb dX3_pieceOf_20 rfl (lv_at hl 1 rfl) ?_
      obtain rfl := Option.some.inj hf
      exact rt_i hQ hx hb hr hlocks hP hD hS dX3_pieceOf_21
    · replace hf := if_f c_12 hf
      refine lv_bipush (v := 60) hx hb dX3_pieceOf_15 (by decide) ?_
      refine lv_goto (tgt := 21) hx hb dX3_pieceOf_17 (by decide) ?_
      obtain rfl := Option.some.inj hf
      exact rt_i hQ hx hb hr hlocks hP hD hS dX3_pieceOf_21
  · replace hf := if_f c_3 hf
    refine lv_bipush (v := 64) hx hb dX3_pieceOf_6 (by decide) ?_
    obtain rfl := Option.some.inj hf
    exact rt_i hQ hx hb hr hlocks hP hD hS dX3_pieceOf_8

theorem dX3_leastCopy_0 : decode cX3_leastCopy 0 = .ok (.iconst 1, 1) := by decide +kernel
theorem dX3_leastCopy_1 : decode cX3_leastCopy 1 = .ok (.ireturn, 1) := by decide +kernel
def m_Elements_leastCopy : Option (Int32) :=
  some (1 : Int32)
def rm_Elements_leastCopy : Room := { frames := 0, cells := 0, slots := 0, locals := 0 }
set_option maxHeartbeats 4000000 in
set_option maxRecDepth 100000 in
theorem c_Elements_leastCopy {l : Launch} {dC : Nat → ClassId} {dI : Nat → Nat → Nat} {cB cI : ClassId} {sz : Nat} {h0 : Nat} {o_r : Int32} (hf : m_Elements_leastCopy = some o_r) : Met l yX3_leastCopy (Cond.code yX3_leastCopy cX3_leastCopy 1 (some .int) :: lw_G) rm_Elements_leastCopy (PreC (dC, dI) [(cB, .byte), (cI, .int)] [.ref h0] sz [(h0, .inr (3, []))]) (QcI o_r (dC, dI) [(h0, .inr (3, []))] (va_A [(h0, .inr (3, []))] sz)) 0 0 (va_A [(h0, .inr (3, []))] sz) := by
  refine met_of (Qf := fun A => QcI o_r (dC, dI) [(h0, .inr (3, []))] A) (by decide) (Nat.le_of_ble_eq_true rfl) ?_
  intro p e s m below meth c A ls Q hx hb hr hml hown hts hlocks hnm hP hK hD hN hT hA hl hQ
  have hown : s.vm.findClass RX3 = some m.cls := hown
  have hS : va_S A s.heap s.heap [] := va_S.rf
  have hl : lv_has ls 1 [(0, .ref h0)] := hl
  unfold m_Elements_leastCopy at hf
  refine lv_iconst (v := 1) hx hb dX3_leastCopy_0 (by decide) ?_
  obtain rfl := Option.some.inj hf
  exact rt_i hQ hx hb hr hlocks hP hD hS dX3_leastCopy_1

theorem dX3_mostCopy_0 : decode cX3_mostCopy 0 = .ok (.bipush 64, 2) := by decide +kernel
theorem dX3_mostCopy_2 : decode cX3_mostCopy 2 = .ok (.ireturn, 1) := by decide +kernel
def m_Elements_mostCopy : Option (Int32) :=
  some (64 : Int32)
def rm_Elements_mostCopy : Room := { frames := 0, cells := 0, slots := 0, locals := 0 }
set_option maxHeartbeats 4000000 in
set_option maxRecDepth 100000 in
theorem c_Elements_mostCopy {l : Launch} {dC : Nat → ClassId} {dI : Nat → Nat → Nat} {cB cI : ClassId} {sz : Nat} {h0 : Nat} {o_r : Int32} (hf : m_Elements_mostCopy = some o_r) : Met l yX3_mostCopy (Cond.code yX3_mostCopy cX3_mostCopy 1 (some .int) :: lw_G) rm_Elements_mostCopy (PreC (dC, dI) [(cB, .byte), (cI, .int)] [.ref h0] sz [(h0, .inr (3, []))]) (QcI o_r (dC, dI) [(h0, .inr (3, []))] (va_A [(h0, .inr (3, []))] sz)) 0 0 (va_A [(h0, .inr (3, []))] sz) := by
  refine met_of (Qf := fun A => QcI o_r (dC, dI) [(h0, .inr (3, []))] A) (by decide) (Nat.le_of_ble_eq_true rfl) ?_
  intro p e s m below meth c A ls Q hx hb hr hml hown hts hlocks hnm hP hK hD hN hT hA hl hQ
  have hown : s.vm.findClass RX3 = some m.cls := hown
  have hS : va_S A s.heap s.heap [] := va_S.rf
  have hl : lv_has ls 1 [(0, .ref h0)] := hl
  unfold m_Elements_mostCopy at hf
  refine lv_bipush (v := 64) hx hb dX3_mostCopy_0 (by decide) ?_
  obtain rfl := Option.some.inj hf
  exact rt_i hQ hx hb hr hlocks hP hD hS dX3_mostCopy_2

theorem dX3_headOf_0 : decode cX3_headOf 0 = .ok (.iload_n 1, 1) := by decide +kernel
theorem dX3_headOf_1 : decode cX3_headOf 1 = .ok (.bipush 60, 2) := by decide +kernel
theorem dX3_headOf_3 : decode cX3_headOf 3 = .ok (.if_icmp .gt 13, 3) := by decide +kernel
theorem dX3_headOf_6 : decode cX3_headOf 6 = .ok (.iload_n 1, 1) := by decide +kernel
theorem dX3_headOf_7 : decode cX3_headOf 7 = .ok (.ifCond .ne 7, 3) := by decide +kernel
theorem dX3_headOf_10 : decode cX3_headOf 10 = .ok (.iconst 0, 1) := by decide +kernel
theorem dX3_headOf_11 : decode cX3_headOf 11 = .ok (.goto 4, 3) := by decide +kernel
theorem dX3_headOf_14 : decode cX3_headOf 14 = .ok (.iconst 1, 1) := by decide +kernel
theorem dX3_headOf_15 : decode cX3_headOf 15 = .ok (.ireturn, 1) := by decide +kernel
theorem dX3_headOf_16 : decode cX3_headOf 16 = .ok (.iload_n 1, 1) := by decide +kernel
theorem dX3_headOf_17 : decode cX3_headOf 17 = .ok (.sipush 256, 3) := by decide +kernel
theorem dX3_headOf_20 : decode cX3_headOf 20 = .ok (.if_icmp .gt 7, 3) := by decide +kernel
theorem dX3_headOf_23 : decode cX3_headOf 23 = .ok (.iconst 2, 1) := by decide +kernel
theorem dX3_headOf_24 : decode cX3_headOf 24 = .ok (.goto 4, 3) := by decide +kernel
theorem dX3_headOf_27 : decode cX3_headOf 27 = .ok (.iconst 3, 1) := by decide +kernel
theorem dX3_headOf_28 : decode cX3_headOf 28 = .ok (.ireturn, 1) := by decide +kernel
def m_Elements_headOf (a1 : Int32) : Option (Int32) :=
  if (60 : Int32) < a1 then
    if (256 : Int32) < a1 then
      some (3 : Int32)
    else
      some (2 : Int32)
  else
    if a1 = 0 then
      some (0 : Int32)
    else
      some (1 : Int32)
def rm_Elements_headOf : Room := { frames := 0, cells := 0, slots := 0, locals := 0 }
set_option maxHeartbeats 4000000 in
set_option maxRecDepth 100000 in
theorem c_Elements_headOf {l : Launch} {dC : Nat → ClassId} {dI : Nat → Nat → Nat} {cB cI : ClassId} {sz : Nat} {h0 : Nat} {a1 : Int32} {o_r : Int32} (hf : m_Elements_headOf a1 = some o_r) : Met l yX3_headOf (Cond.code yX3_headOf cX3_headOf 2 (some .int) :: lw_G) rm_Elements_headOf (PreC (dC, dI) [(cB, .byte), (cI, .int)] [.ref h0, .int a1] sz [(h0, .inr (3, []))]) (QcI o_r (dC, dI) [(h0, .inr (3, []))] (va_A [(h0, .inr (3, []))] sz)) 0 0 (va_A [(h0, .inr (3, []))] sz) := by
  refine met_of (Qf := fun A => QcI o_r (dC, dI) [(h0, .inr (3, []))] A) (by decide) (Nat.le_of_ble_eq_true rfl) ?_
  intro p e s m below meth c A ls Q hx hb hr hml hown hts hlocks hnm hP hK hD hN hT hA hl hQ
  have hown : s.vm.findClass RX3 = some m.cls := hown
  have hS : va_S A s.heap s.heap [] := va_S.rf
  have hl : lv_has ls 2 [(0, .ref h0), (1, .int a1)] := hl
  unfold m_Elements_headOf at hf
  refine lv_iload_n hx hb dX3_headOf_0 rfl (lv_at hl 1 rfl) ?_
  refine lv_bipush (v := 60) hx hb dX3_headOf_1 (by decide) ?_
  refine lv_icmp_gt (tgt := 16) hx hb dX3_headOf_3 (by decide) (fun c_3 => ?_) (fun c_3 => ?_)
  · replace hf := if_t c_3 hf
    refine lv_iload_n hx hb dX3_headOf_16 rfl (lv_at hl 1 rfl) ?_
    refine lv_sipush (v := 256) hx hb dX3_headOf_17 (by decide) ?_
    refine lv_icmp_gt (tgt := 27) hx hb dX3_headOf_20 (by decide) (fun c_20 => ?_) (fun c_20 => ?_)
    · replace hf := if_t c_20 hf
      refine lv_iconst (v := 3) hx hb dX3_headOf_27 (by decide) ?_
      obtain rfl := Option.some.inj hf
      exact rt_i hQ hx hb hr hlocks hP hD hS dX3_headOf_28
    · replace hf := if_f c_20 hf
      refine lv_iconst (v := 2) hx hb dX3_headOf_23 (by decide) ?_
      refine lv_goto (tgt := 28) hx hb dX3_headOf_24 (by decide) ?_
      obtain rfl := Option.some.inj hf
      exact rt_i hQ hx hb hr hlocks hP hD hS dX3_headOf_28
  · replace hf := if_f c_3 hf
    refine lv_iload_n hx hb dX3_headOf_6 rfl (lv_at hl 1 rfl) ?_
    refine lv_if_ne (tgt := 14) hx hb dX3_headOf_7 (by decide) (fun c_7 => ?_) (fun c_7 => ?_)
    · replace hf := if_f c_7 hf
      refine lv_iconst (v := 1) hx hb dX3_headOf_14 (by decide) ?_
      obtain rfl := Option.some.inj hf
      exact rt_i hQ hx hb hr hlocks hP hD hS dX3_headOf_15
    · replace hf := if_t c_7 hf
      refine lv_iconst (v := 0) hx hb dX3_headOf_10 (by decide) ?_
      refine lv_goto (tgt := 15) hx hb dX3_headOf_11 (by decide) ?_
      obtain rfl := Option.some.inj hf
      exact rt_i hQ hx hb hr hlocks hP hD hS dX3_headOf_15

theorem dX3_sameHeadTo_0 : decode cX3_sameHeadTo 0 = .ok (.iload_n 1, 1) := by decide +kernel
theorem dX3_sameHeadTo_1 : decode cX3_sameHeadTo 1 = .ok (.bipush 60, 2) := by decide +kernel
theorem dX3_sameHeadTo_3 : decode cX3_sameHeadTo 3 = .ok (.if_icmp .gt 14, 3) := by decide +kernel
theorem dX3_sameHeadTo_6 : decode cX3_sameHeadTo 6 = .ok (.iload_n 1, 1) := by decide +kernel
theorem dX3_sameHeadTo_7 : decode cX3_sameHeadTo 7 = .ok (.ifCond .ne 7, 3) := by decide +kernel
theorem dX3_sameHeadTo_10 : decode cX3_sameHeadTo 10 = .ok (.iconst 0, 1) := by decide +kernel
theorem dX3_sameHeadTo_11 : decode cX3_sameHeadTo 11 = .ok (.goto 5, 3) := by decide +kernel
theorem dX3_sameHeadTo_14 : decode cX3_sameHeadTo 14 = .ok (.bipush 60, 2) := by decide +kernel
theorem dX3_sameHeadTo_16 : decode cX3_sameHeadTo 16 = .ok (.ireturn, 1) := by decide +kernel
theorem dX3_sameHeadTo_17 : decode cX3_sameHeadTo 17 = .ok (.iload_n 1, 1) := by decide +kernel
theorem dX3_sameHeadTo_18 : decode cX3_sameHeadTo 18 = .ok (.sipush 256, 3) := by decide +kernel
theorem dX3_sameHeadTo_21 : decode cX3_sameHeadTo 21 = .ok (.if_icmp .gt 9, 3) := by decide +kernel
theorem dX3_sameHeadTo_24 : decode cX3_sameHeadTo 24 = .ok (.sipush 256, 3) := by decide +kernel
theorem dX3_sameHeadTo_27 : decode cX3_sameHeadTo 27 = .ok (.goto 5, 3) := by decide +kernel
theorem dX3_sameHeadTo_30 : decode cX3_sameHeadTo 30 = .ok (.ldc 11, 2) := by decide +kernel
theorem dX3_sameHeadTo_32 : decode cX3_sameHeadTo 32 = .ok (.ireturn, 1) := by decide +kernel
def m_Elements_sameHeadTo (a1 : Int32) : Option (Int32) :=
  if (60 : Int32) < a1 then
    if (256 : Int32) < a1 then
      some (65536 : Int32)
    else
      some (256 : Int32)
  else
    if a1 = 0 then
      some (0 : Int32)
    else
      some (60 : Int32)
def rm_Elements_sameHeadTo : Room := { frames := 0, cells := 0, slots := 0, locals := 0 }
set_option maxHeartbeats 4000000 in
set_option maxRecDepth 100000 in
theorem c_Elements_sameHeadTo {l : Launch} {dC : Nat → ClassId} {dI : Nat → Nat → Nat} {cB cI : ClassId} {sz : Nat} {h0 : Nat} {a1 : Int32} {o_r : Int32} (hf : m_Elements_sameHeadTo a1 = some o_r) : Met l yX3_sameHeadTo (Cond.code yX3_sameHeadTo cX3_sameHeadTo 2 (some .int) :: lw_G) rm_Elements_sameHeadTo (PreC (dC, dI) [(cB, .byte), (cI, .int)] [.ref h0, .int a1] sz [(h0, .inr (3, []))]) (QcI o_r (dC, dI) [(h0, .inr (3, []))] (va_A [(h0, .inr (3, []))] sz)) 0 0 (va_A [(h0, .inr (3, []))] sz) := by
  refine met_of (Qf := fun A => QcI o_r (dC, dI) [(h0, .inr (3, []))] A) (by decide) (Nat.le_of_ble_eq_true rfl) ?_
  intro p e s m below meth c A ls Q hx hb hr hml hown hts hlocks hnm hP hK hD hN hT hA hl hQ
  have hown : s.vm.findClass RX3 = some m.cls := hown
  have hS : va_S A s.heap s.heap [] := va_S.rf
  have hl : lv_has ls 2 [(0, .ref h0), (1, .int a1)] := hl
  unfold m_Elements_sameHeadTo at hf
  refine lv_iload_n hx hb dX3_sameHeadTo_0 rfl (lv_at hl 1 rfl) ?_
  refine lv_bipush (v := 60) hx hb dX3_sameHeadTo_1 (by decide) ?_
  refine lv_icmp_gt (tgt := 17) hx hb dX3_sameHeadTo_3 (by decide) (fun c_3 => ?_) (fun c_3 => ?_)
  · replace hf := if_t c_3 hf
    refine lv_iload_n hx hb dX3_sameHeadTo_17 rfl (lv_at hl 1 rfl) ?_
    refine lv_sipush (v := 256) hx hb dX3_sameHeadTo_18 (by decide) ?_
    refine lv_icmp_gt (tgt := 30) hx hb dX3_sameHeadTo_21 (by decide) (fun c_21 => ?_) (fun c_21 => ?_)
    · replace hf := if_t c_21 hf
      refine lv_ldc hx hb hown (hts _ kw_623) dX3_sameHeadTo_30 ?_
      obtain rfl := Option.some.inj hf
      exact rt_i hQ hx hb hr hlocks hP hD hS dX3_sameHeadTo_32
    · replace hf := if_f c_21 hf
      refine lv_sipush (v := 256) hx hb dX3_sameHeadTo_24 (by decide) ?_
      refine lv_goto (tgt := 32) hx hb dX3_sameHeadTo_27 (by decide) ?_
      obtain rfl := Option.some.inj hf
      exact rt_i hQ hx hb hr hlocks hP hD hS dX3_sameHeadTo_32
  · replace hf := if_f c_3 hf
    refine lv_iload_n hx hb dX3_sameHeadTo_6 rfl (lv_at hl 1 rfl) ?_
    refine lv_if_ne (tgt := 14) hx hb dX3_sameHeadTo_7 (by decide) (fun c_7 => ?_) (fun c_7 => ?_)
    · replace hf := if_f c_7 hf
      refine lv_bipush (v := 60) hx hb dX3_sameHeadTo_14 (by decide) ?_
      obtain rfl := Option.some.inj hf
      exact rt_i hQ hx hb hr hlocks hP hD hS dX3_sameHeadTo_16
    · replace hf := if_t c_7 hf
      refine lv_iconst (v := 0) hx hb dX3_sameHeadTo_10 (by decide) ?_
      refine lv_goto (tgt := 16) hx hb dX3_sameHeadTo_11 (by decide) ?_
      obtain rfl := Option.some.inj hf
      exact rt_i hQ hx hb hr hlocks hP hD hS dX3_sameHeadTo_16

theorem dX3_mostClose_0 : decode cX3_mostClose 0 = .ok (.bipush 11, 2) := by decide +kernel
theorem dX3_mostClose_2 : decode cX3_mostClose 2 = .ok (.ireturn, 1) := by decide +kernel
def m_Elements_mostClose : Option (Int32) :=
  some (11 : Int32)
def rm_Elements_mostClose : Room := { frames := 0, cells := 0, slots := 0, locals := 0 }
set_option maxHeartbeats 4000000 in
set_option maxRecDepth 100000 in
theorem c_Elements_mostClose {l : Launch} {dC : Nat → ClassId} {dI : Nat → Nat → Nat} {cB cI : ClassId} {sz : Nat} {h0 : Nat} {o_r : Int32} (hf : m_Elements_mostClose = some o_r) : Met l yX3_mostClose (Cond.code yX3_mostClose cX3_mostClose 1 (some .int) :: lw_G) rm_Elements_mostClose (PreC (dC, dI) [(cB, .byte), (cI, .int)] [.ref h0] sz [(h0, .inr (3, []))]) (QcI o_r (dC, dI) [(h0, .inr (3, []))] (va_A [(h0, .inr (3, []))] sz)) 0 0 (va_A [(h0, .inr (3, []))] sz) := by
  refine met_of (Qf := fun A => QcI o_r (dC, dI) [(h0, .inr (3, []))] A) (by decide) (Nat.le_of_ble_eq_true rfl) ?_
  intro p e s m below meth c A ls Q hx hb hr hml hown hts hlocks hnm hP hK hD hN hT hA hl hQ
  have hown : s.vm.findClass RX3 = some m.cls := hown
  have hS : va_S A s.heap s.heap [] := va_S.rf
  have hl : lv_has ls 1 [(0, .ref h0)] := hl
  unfold m_Elements_mostClose at hf
  refine lv_bipush (v := 11) hx hb dX3_mostClose_0 (by decide) ?_
  obtain rfl := Option.some.inj hf
  exact rt_i hQ hx hb hr hlocks hP hD hS dX3_mostClose_2

theorem dX3_closeSpan_0 : decode cX3_closeSpan 0 = .ok (.sipush 2047, 3) := by decide +kernel
theorem dX3_closeSpan_3 : decode cX3_closeSpan 3 = .ok (.ireturn, 1) := by decide +kernel
def m_Elements_closeSpan : Option (Int32) :=
  some (2047 : Int32)
def rm_Elements_closeSpan : Room := { frames := 0, cells := 0, slots := 0, locals := 0 }
set_option maxHeartbeats 4000000 in
set_option maxRecDepth 100000 in
theorem c_Elements_closeSpan {l : Launch} {dC : Nat → ClassId} {dI : Nat → Nat → Nat} {cB cI : ClassId} {sz : Nat} {h0 : Nat} {o_r : Int32} (hf : m_Elements_closeSpan = some o_r) : Met l yX3_closeSpan (Cond.code yX3_closeSpan cX3_closeSpan 1 (some .int) :: lw_G) rm_Elements_closeSpan (PreC (dC, dI) [(cB, .byte), (cI, .int)] [.ref h0] sz [(h0, .inr (3, []))]) (QcI o_r (dC, dI) [(h0, .inr (3, []))] (va_A [(h0, .inr (3, []))] sz)) 0 0 (va_A [(h0, .inr (3, []))] sz) := by
  refine met_of (Qf := fun A => QcI o_r (dC, dI) [(h0, .inr (3, []))] A) (by decide) (Nat.le_of_ble_eq_true rfl) ?_
  intro p e s m below meth c A ls Q hx hb hr hml hown hts hlocks hnm hP hK hD hN hT hA hl hQ
  have hown : s.vm.findClass RX3 = some m.cls := hown
  have hS : va_S A s.heap s.heap [] := va_S.rf
  have hl : lv_has ls 1 [(0, .ref h0)] := hl
  unfold m_Elements_closeSpan at hf
  refine lv_sipush (v := 2047) hx hb dX3_closeSpan_0 (by decide) ?_
  obtain rfl := Option.some.inj hf
  exact rt_i hQ hx hb hr hlocks hP hD hS dX3_closeSpan_3

theorem dX3_copyCost_0 : decode cX3_copyCost 0 = .ok (.iload_n 1, 1) := by decide +kernel
theorem dX3_copyCost_1 : decode cX3_copyCost 1 = .ok (.iconst 4, 1) := by decide +kernel
theorem dX3_copyCost_2 : decode cX3_copyCost 2 = .ok (.if_icmp .lt 12, 3) := by decide +kernel
theorem dX3_copyCost_5 : decode cX3_copyCost 5 = .ok (.iload_n 1, 1) := by decide +kernel
theorem dX3_copyCost_6 : decode cX3_copyCost 6 = .ok (.iload_n 2, 1) := by decide +kernel
theorem dX3_copyCost_7 : decode cX3_copyCost 7 = .ok (.if_icmp .gt 7, 3) := by decide +kernel
theorem dX3_copyCost_10 : decode cX3_copyCost 10 = .ok (.iconst 2, 1) := by decide +kernel
theorem dX3_copyCost_11 : decode cX3_copyCost 11 = .ok (.goto 4, 3) := by decide +kernel
theorem dX3_copyCost_14 : decode cX3_copyCost 14 = .ok (.iconst 3, 1) := by decide +kernel
theorem dX3_copyCost_15 : decode cX3_copyCost 15 = .ok (.ireturn, 1) := by decide +kernel
def m_Elements_copyCost (a1 : Int32) (a2 : Int32) : Option (Int32) :=
  if a1 < (4 : Int32) then
    some (3 : Int32)
  else
    if a2 < a1 then
      some (3 : Int32)
    else
      some (2 : Int32)
def rm_Elements_copyCost : Room := { frames := 0, cells := 0, slots := 0, locals := 0 }
set_option maxHeartbeats 4000000 in
set_option maxRecDepth 100000 in
theorem c_Elements_copyCost {l : Launch} {dC : Nat → ClassId} {dI : Nat → Nat → Nat} {cB cI : ClassId} {sz : Nat} {h0 : Nat} {a1 : Int32} {a2 : Int32} {o_r : Int32} (hf : m_Elements_copyCost a1 a2 = some o_r) : Met l yX3_copyCost (Cond.code yX3_copyCost cX3_copyCost 3 (some .int) :: lw_G) rm_Elements_copyCost (PreC (dC, dI) [(cB, .byte), (cI, .int)] [.ref h0, .int a1, .int a2] sz [(h0, .inr (3, []))]) (QcI o_r (dC, dI) [(h0, .inr (3, []))] (va_A [(h0, .inr (3, []))] sz)) 0 0 (va_A [(h0, .inr (3, []))] sz) := by
  refine met_of (Qf := fun A => QcI o_r (dC, dI) [(h0, .inr (3, []))] A) (by decide) (Nat.le_of_ble_eq_true rfl) ?_
  intro p e s m below meth c A ls Q hx hb hr hml hown hts hlocks hnm hP hK hD hN hT hA hl hQ
  have hown : s.vm.findClass RX3 = some m.cls := hown
  have hS : va_S A s.heap s.heap [] := va_S.rf
  have hl : lv_has ls 3 [(0, .ref h0), (1, .int a1), (2, .int a2)] := hl
  unfold m_Elements_copyCost at hf
  refine lv_iload_n hx hb dX3_copyCost_0 rfl (lv_at hl 1 rfl) ?_
  refine lv_iconst (v := 4) hx hb dX3_copyCost_1 (by decide) ?_
  refine lv_icmp_lt (tgt := 14) hx hb dX3_copyCost_2 (by decide) (fun c_2 => ?_) (fun c_2 => ?_)
  · replace hf := if_t c_2 hf
    refine lv_iconst (v := 3) hx hb dX3_copyCost_14 (by decide) ?_
    obtain rfl := Option.some.inj hf
    exact rt_i hQ hx hb hr hlocks hP hD hS dX3_copyCost_15
  · replace hf := if_f c_2 hf
    refine lv_iload_n hx hb dX3_copyCost_5 rfl (lv_at hl 1 rfl) ?_
    refine lv_iload_n hx hb dX3_copyCost_6 rfl (lv_at hl 2 rfl) ?_
    refine lv_icmp_gt (tgt := 14) hx hb dX3_copyCost_7 (by decide) (fun c_7 => ?_) (fun c_7 => ?_)
    · replace hf := if_t c_7 hf
      refine lv_iconst (v := 3) hx hb dX3_copyCost_14 (by decide) ?_
      obtain rfl := Option.some.inj hf
      exact rt_i hQ hx hb hr hlocks hP hD hS dX3_copyCost_15
    · replace hf := if_f c_7 hf
      refine lv_iconst (v := 2) hx hb dX3_copyCost_10 (by decide) ?_
      refine lv_goto (tgt := 15) hx hb dX3_copyCost_11 (by decide) ?_
      obtain rfl := Option.some.inj hf
      exact rt_i hQ hx hb hr hlocks hP hD hS dX3_copyCost_15

theorem dX3_sameCostTo_0 : decode cX3_sameCostTo 0 = .ok (.iload_n 1, 1) := by decide +kernel
theorem dX3_sameCostTo_1 : decode cX3_sameCostTo 1 = .ok (.iconst 4, 1) := by decide +kernel
theorem dX3_sameCostTo_2 : decode cX3_sameCostTo 2 = .ok (.if_icmp .ge 5, 3) := by decide +kernel
theorem dX3_sameCostTo_5 : decode cX3_sameCostTo 5 = .ok (.iconst 3, 1) := by decide +kernel
theorem dX3_sameCostTo_6 : decode cX3_sameCostTo 6 = .ok (.ireturn, 1) := by decide +kernel
theorem dX3_sameCostTo_7 : decode cX3_sameCostTo 7 = .ok (.iload_n 1, 1) := by decide +kernel
theorem dX3_sameCostTo_8 : decode cX3_sameCostTo 8 = .ok (.iload_n 2, 1) := by decide +kernel
theorem dX3_sameCostTo_9 : decode cX3_sameCostTo 9 = .ok (.if_icmp .gt 7, 3) := by decide +kernel
theorem dX3_sameCostTo_12 : decode cX3_sameCostTo 12 = .ok (.iload_n 2, 1) := by decide +kernel
theorem dX3_sameCostTo_13 : decode cX3_sameCostTo 13 = .ok (.goto 5, 3) := by decide +kernel
theorem dX3_sameCostTo_16 : decode cX3_sameCostTo 16 = .ok (.bipush 64, 2) := by decide +kernel
theorem dX3_sameCostTo_18 : decode cX3_sameCostTo 18 = .ok (.ireturn, 1) := by decide +kernel
def m_Elements_sameCostTo (a1 : Int32) (a2 : Int32) : Option (Int32) :=
  if (4 : Int32) ≤ a1 then
    if a2 < a1 then
      some (64 : Int32)
    else
      some a2
  else
    some (3 : Int32)
def rm_Elements_sameCostTo : Room := { frames := 0, cells := 0, slots := 0, locals := 0 }
set_option maxHeartbeats 4000000 in
set_option maxRecDepth 100000 in
theorem c_Elements_sameCostTo {l : Launch} {dC : Nat → ClassId} {dI : Nat → Nat → Nat} {cB cI : ClassId} {sz : Nat} {h0 : Nat} {a1 : Int32} {a2 : Int32} {o_r : Int32} (hf : m_Elements_sameCostTo a1 a2 = some o_r) : Met l yX3_sameCostTo (Cond.code yX3_sameCostTo cX3_sameCostTo 3 (some .int) :: lw_G) rm_Elements_sameCostTo (PreC (dC, dI) [(cB, .byte), (cI, .int)] [.ref h0, .int a1, .int a2] sz [(h0, .inr (3, []))]) (QcI o_r (dC, dI) [(h0, .inr (3, []))] (va_A [(h0, .inr (3, []))] sz)) 0 0 (va_A [(h0, .inr (3, []))] sz) := by
  refine met_of (Qf := fun A => QcI o_r (dC, dI) [(h0, .inr (3, []))] A) (by decide) (Nat.le_of_ble_eq_true rfl) ?_
  intro p e s m below meth c A ls Q hx hb hr hml hown hts hlocks hnm hP hK hD hN hT hA hl hQ
  have hown : s.vm.findClass RX3 = some m.cls := hown
  have hS : va_S A s.heap s.heap [] := va_S.rf
  have hl : lv_has ls 3 [(0, .ref h0), (1, .int a1), (2, .int a2)] := hl
  unfold m_Elements_sameCostTo at hf
  refine lv_iload_n hx hb dX3_sameCostTo_0 rfl (lv_at hl 1 rfl) ?_
  refine lv_iconst (v := 4) hx hb dX3_sameCostTo_1 (by decide) ?_
  refine lv_icmp_ge (tgt := 7) hx hb dX3_sameCostTo_2 (by decide) (fun c_2 => ?_) (fun c_2 => ?_)
  · replace hf := if_t c_2 hf
    refine lv_iload_n hx hb dX3_sameCostTo_7 rfl (lv_at hl 1 rfl) ?_
    refine lv_iload_n hx hb dX3_sameCostTo_8 rfl (lv_at hl 2 rfl) ?_
    refine lv_icmp_gt (tgt := 16) hx hb dX3_sameCostTo_9 (by decide) (fun c_9 => ?_) (fun c_9 => ?_)
    · replace hf := if_t c_9 hf
      refine lv_bipush (v := 64) hx hb dX3_sameCostTo_16 (by decide) ?_
      obtain rfl := Option.some.inj hf
      exact rt_i hQ hx hb hr hlocks hP hD hS dX3_sameCostTo_18
    · replace hf := if_f c_9 hf
      refine lv_iload_n hx hb dX3_sameCostTo_12 rfl (lv_at hl 2 rfl) ?_
      refine lv_goto (tgt := 18) hx hb dX3_sameCostTo_13 (by decide) ?_
      obtain rfl := Option.some.inj hf
      exact rt_i hQ hx hb hr hlocks hP hD hS dX3_sameCostTo_18
  · replace hf := if_f c_2 hf
    refine lv_iconst (v := 3) hx hb dX3_sameCostTo_5 (by decide) ?_
    obtain rfl := Option.some.inj hf
    exact rt_i hQ hx hb hr hlocks hP hD hS dX3_sameCostTo_6

theorem dX3_writeHead_0 : decode cX3_writeHead 0 = .ok (.iload_n 2, 1) := by decide +kernel
theorem dX3_writeHead_1 : decode cX3_writeHead 1 = .ok (.istore_n 3, 1) := by decide +kernel
theorem dX3_writeHead_2 : decode cX3_writeHead 2 = .ok (.iload_n 3, 1) := by decide +kernel
theorem dX3_writeHead_3 : decode cX3_writeHead 3 = .ok (.sipush 128, 3) := by decide +kernel
theorem dX3_writeHead_6 : decode cX3_writeHead 6 = .ok (.if_icmp .lt 24, 3) := by decide +kernel
theorem dX3_writeHead_9 : decode cX3_writeHead 9 = .ok (.aload_n 1, 1) := by decide +kernel
theorem dX3_writeHead_10 : decode cX3_writeHead 10 = .ok (.sipush 128, 3) := by decide +kernel
theorem dX3_writeHead_13 : decode cX3_writeHead 13 = .ok (.iload_n 3, 1) := by decide +kernel
theorem dX3_writeHead_14 : decode cX3_writeHead 14 = .ok (.sipush 128, 3) := by decide +kernel
theorem dX3_writeHead_17 : decode cX3_writeHead 17 = .ok (.irem, 1) := by decide +kernel
theorem dX3_writeHead_18 : decode cX3_writeHead 18 = .ok (.iadd, 1) := by decide +kernel
theorem dX3_writeHead_19 : decode cX3_writeHead 19 = .ok (.invokevirtual 12, 3) := by decide +kernel
theorem dX3_writeHead_22 : decode cX3_writeHead 22 = .ok (.iload_n 3, 1) := by decide +kernel
theorem dX3_writeHead_23 : decode cX3_writeHead 23 = .ok (.bipush 7, 2) := by decide +kernel
theorem dX3_writeHead_25 : decode cX3_writeHead 25 = .ok (.ishr, 1) := by decide +kernel
theorem dX3_writeHead_26 : decode cX3_writeHead 26 = .ok (.istore_n 3, 1) := by decide +kernel
theorem dX3_writeHead_27 : decode cX3_writeHead 27 = .ok (.goto (-25), 3) := by decide +kernel
theorem dX3_writeHead_30 : decode cX3_writeHead 30 = .ok (.aload_n 1, 1) := by decide +kernel
theorem dX3_writeHead_31 : decode cX3_writeHead 31 = .ok (.iload_n 3, 1) := by decide +kernel
theorem dX3_writeHead_32 : decode cX3_writeHead 32 = .ok (.invokevirtual 12, 3) := by decide +kernel
theorem dX3_writeHead_35 : decode cX3_writeHead 35 = .ok (.return_, 1) := by decide +kernel
def m_Elements_writeHead_B2 (h1_held_n : Nat) (f1 : Nat → Int32) (g2 : Int32) (j3_3 : Int32) : Option (((Nat → Int32) × Int32 × Int32) ⊕ ((((Int32 × (Nat → Int32)))))) :=
  if j3_3 < (128 : Int32) then
    (m_Bytes_add j3_3 g2 h1_held_n f1).bind fun (u4, u5) =>
    some (.inr (u4, u5))
  else
    (m_Bytes_add ((128 : Int32) + (irem j3_3 (128 : Int32))) g2 h1_held_n f1).bind fun (u6, u7) =>
    bnd (ishr j3_3 (7 : Int32)) fun v3_8 =>
    some (.inl (u7, u6, v3_8))
def m_Elements_writeHead (a2 : Int32) (h1_count : Int32) (h1_held_n : Nat) (h1_held_f : Nat → Int32) : Option (Int32 × (Nat → Int32)) :=
  (iter (fun st => m_Elements_writeHead_B2 h1_held_n st.1 st.2.1 st.2.2) FU (h1_held_f, h1_count, a2)).bind fun o => some o
def rm_Elements_writeHead : Room := { frames := 1, cells := 0, slots := 0, locals := 21 }
set_option maxHeartbeats 4000000 in
set_option maxRecDepth 100000 in
theorem c_Elements_writeHead {l : Launch} {dC : Nat → ClassId} {dI : Nat → Nat → Nat} {cB cI : ClassId} {sz : Nat} {h0 : Nat} {h1 : Nat} {a2 : Int32} {h1_held : Nat} {h1_count : Int32} {h1_held_n : Nat} {h1_held_f : Nat → Int32} {o_h1_count : Int32} {o_h1_held_f : Nat → Int32} (hf : m_Elements_writeHead a2 h1_count h1_held_n h1_held_f = some (o_h1_count, o_h1_held_f)) : Met l yX3_writeHead (Cond.code yX3_writeHead cX3_writeHead 4 none :: lw_G) rm_Elements_writeHead (PreC (dC, dI) [(cB, .byte), (cI, .int)] [.ref h0, .ref h1, .int a2] sz [(h0, .inr (3, [])), (h1, .inr (2, [.ref h1_held, .int h1_count])), (h1_held, .inl (cB, h1_held_n, .inl h1_held_f))]) (QcV (dC, dI) [(h0, .inr (3, [])), (h1, .inr (2, [.ref h1_held, .int o_h1_count])), (h1_held, .inl (cB, h1_held_n, .inl o_h1_held_f))] (va_A [(h0, .inr (3, [])), (h1, .inr (2, [.ref h1_held, .int h1_count])), (h1_held, .inl (cB, h1_held_n, .inl h1_held_f))] sz)) 0 0 (va_A [(h0, .inr (3, [])), (h1, .inr (2, [.ref h1_held, .int h1_count])), (h1_held, .inl (cB, h1_held_n, .inl h1_held_f))] sz) := by
  refine met_of (Qf := fun A => QcV (dC, dI) [(h0, .inr (3, [])), (h1, .inr (2, [.ref h1_held, .int o_h1_count])), (h1_held, .inl (cB, h1_held_n, .inl o_h1_held_f))] A) (by decide) (Nat.le_of_ble_eq_true rfl) ?_
  intro p e s m below meth c A ls Q hx hb hr hml hown hts hlocks hnm hP hK hD hN hT hA hl hQ
  have hown : s.vm.findClass RX3 = some m.cls := hown
  have hS : va_S A s.heap s.heap [] := va_S.rf
  have hl : lv_has ls 4 [(0, .ref h0), (1, .ref h1), (2, .int a2)] := hl
  unfold m_Elements_writeHead at hf
  refine lv_iload_n hx hb dX3_writeHead_0 rfl (lv_at hl 2 rfl) ?_
  refine lv_istore_n (lv' := [(3, .int a2), (0, .ref h0), (1, .ref h1), (2, .int a2)]) hx hb dX3_writeHead_1 rfl hl (by decide) rfl (fun ls hl => ?_)
  obtain ⟨o_2, hi_2, hk_2⟩ := bind_some hf
  have hL_2 : ∀ (n : Nat) (f1 : Nat → Int32) (g2 : Int32) (j3_3 : Int32) (H : Heap) (locs : List Loc) (ls : Array Slot), iter (fun st => m_Elements_writeHead_B2 h1_held_n st.1 st.2.1 st.2.2) n (f1, g2, j3_3) = some o_2 → va_P (dC, dI) vwCl [(h0, .inr (3, [])), (h1, .inr (2, [.ref h1_held, .int g2])), (h1_held, .inl (cB, h1_held_n, .inl f1))] H → va_D A [(h0, .inr (3, [])), (h1, .inr (2, [.ref h1_held, .int g2])), (h1_held, .inl (cB, h1_held_n, .inl f1))] → va_S A s.heap H locs → lv_has ls 4 [(1, .ref h1), (3, .int j3_3)] → W p l e (rm_Elements_writeHead) s m ([.ref h0, .ref h1, .int a2] : List Value).toArray below meth c H locs 0 0 Q (F0 m 2 ls []) := by
    intro n
    induction n with
    | zero => intro f1 g2 j3_3 H locs ls hf; exact absurd hf (fun z => by cases z)
    | succ n ih_2 =>
      intro f1 g2 j3_3 H locs ls hf hP hD hS hl
      obtain ⟨r_2, hf, hr_2⟩ := iter_succ hf
      have hf : m_Elements_writeHead_B2 h1_held_n f1 g2 j3_3 = some r_2 := hf
      unfold m_Elements_writeHead_B2 at hf
      refine lv_iload_n hx hb dX3_writeHead_2 rfl (lv_at hl 1 rfl) ?_
      refine lv_sipush (v := 128) hx hb dX3_writeHead_3 (by decide) ?_
      refine lv_icmp_lt (tgt := 30) hx hb dX3_writeHead_6 (by decide) (fun c_6 => ?_) (fun c_6 => ?_)
      · replace hf := if_t c_6 hf
        refine lv_aload_n hx hb dX3_writeHead_30 rfl (lv_at hl 0 rfl) ?_
        refine lv_iload_n hx hb dX3_writeHead_31 rfl (lv_at hl 1 rfl) ?_
        obtain ⟨x, hc, hf⟩ := bind_some hf
        obtain ⟨u4, u5⟩ := x
        dsimp only at hf
        refine nx_v (rn_V (As := [.int j3_3]) (rest := []) (n := 1) (ci := 2) (q0 := 0) ⟨hx, hb, hml, hown, hts⟩ (c_Bytes_add (l := l) (dC := dC) (dI := dI) (cB := cB) (cI := cI) (h0 := h1) (a1 := j3_3) (h0_held := h1_held) (h0_count := g2) (h0_held_n := h1_held_n) (h0_held_f := f1) (o_h0_count := u4) (o_h0_held_f := u5) hc) (wV kw_675 kw_398 kw_399 kw_83 kw_400) (by decide +kernel) ⟨Nat.le_of_ble_eq_true rfl, Nat.le_of_ble_eq_true rfl⟩ hK hP hD hN hT hS (va_free (wc := [(h1, .inr (2, [.ref h1_held, .int g2])), (h1_held, .inl (cB, h1_held_n, .inl f1))]) hD hS hA [1, 2] rfl) [1, 2] rfl (by decide) rfl rfl rfl hl.1 rfl (lv_room (Nat.le_of_ble_eq_true rfl)) dX3_writeHead_32 ⟨Nat.le_of_ble_eq_true rfl, Nat.le_of_ble_eq_true rfl⟩) hP hD hS hA (wr := [(h0, .inr (3, []))]) (w1 := [(h1, .inr (2, [.ref h1_held, .int u4])), (h1_held, .inl (cB, h1_held_n, .inl u5))]) (ws' := [(h0, .inr (3, [])), (h1, .inr (2, [.ref h1_held, .int u4])), (h1_held, .inl (cB, h1_held_n, .inl u5))]) [1, 2] [0] [0, 1, 2] rfl rfl (by decide) (by decide) rfl (by decide) (fun H locs hP hD hS => ?_)
        replace hf : some (u4, u5) = some (o_h1_count, o_h1_held_f) := by have hq := hk_2; rw [iter_exit hf hr_2] at hq; exact hq
        obtain ⟨rfl, hq_1⟩ := Prod.mk.inj (Option.some.inj hf)
        obtain rfl := hq_1
        exact rt_v hQ hx hb hr hlocks hP hD hS dX3_writeHead_35
      · replace hf := if_f c_6 hf
        refine lv_aload_n hx hb dX3_writeHead_9 rfl (lv_at hl 0 rfl) ?_
        refine lv_sipush (v := 128) hx hb dX3_writeHead_10 (by decide) ?_
        refine lv_iload_n hx hb dX3_writeHead_13 rfl (lv_at hl 1 rfl) ?_
        refine lv_sipush (v := 128) hx hb dX3_writeHead_14 (by decide) ?_
        refine lv_irem hx hb dX3_writeHead_17 (by decide) ?_
        refine lv_iadd hx hb dX3_writeHead_18 ?_
        obtain ⟨x, hc, hf⟩ := bind_some hf
        obtain ⟨u6, u7⟩ := x
        dsimp only at hf
        refine nx_v (rn_V (As := [.int ((128 : Int32) + (irem j3_3 (128 : Int32)))]) (rest := []) (n := 1) (ci := 2) (q0 := 0) ⟨hx, hb, hml, hown, hts⟩ (c_Bytes_add (l := l) (dC := dC) (dI := dI) (cB := cB) (cI := cI) (h0 := h1) (a1 := ((128 : Int32) + (irem j3_3 (128 : Int32)))) (h0_held := h1_held) (h0_count := g2) (h0_held_n := h1_held_n) (h0_held_f := f1) (o_h0_count := u6) (o_h0_held_f := u7) hc) (wV kw_675 kw_398 kw_399 kw_83 kw_400) (by decide +kernel) ⟨Nat.le_of_ble_eq_true rfl, Nat.le_of_ble_eq_true rfl⟩ hK hP hD hN hT hS (va_free (wc := [(h1, .inr (2, [.ref h1_held, .int g2])), (h1_held, .inl (cB, h1_held_n, .inl f1))]) hD hS hA [1, 2] rfl) [1, 2] rfl (by decide) rfl rfl rfl hl.1 rfl (lv_room (Nat.le_of_ble_eq_true rfl)) dX3_writeHead_19 ⟨Nat.le_of_ble_eq_true rfl, Nat.le_of_ble_eq_true rfl⟩) hP hD hS hA (wr := [(h0, .inr (3, []))]) (w1 := [(h1, .inr (2, [.ref h1_held, .int u6])), (h1_held, .inl (cB, h1_held_n, .inl u7))]) (ws' := [(h0, .inr (3, [])), (h1, .inr (2, [.ref h1_held, .int u6])), (h1_held, .inl (cB, h1_held_n, .inl u7))]) [1, 2] [0] [0, 1, 2] rfl rfl (by decide) (by decide) rfl (by decide) (fun H locs hP hD hS => ?_)
        refine lv_iload_n hx hb dX3_writeHead_22 rfl (lv_at hl 1 rfl) ?_
        refine lv_bipush (v := 7) hx hb dX3_writeHead_23 (by decide) ?_
        refine lv_ishr hx hb dX3_writeHead_25 ?_
        refine lv_topi (fun v3_8 e_v3_8 => ?_)
        replace hf := bnd_at e_v3_8 hf
        refine lv_istore_n (lv' := [(3, .int v3_8), (1, .ref h1)]) hx hb dX3_writeHead_26 rfl hl (by decide) rfl (fun ls hl => ?_)
        refine lv_goto (tgt := 2) hx hb dX3_writeHead_27 (by decide) ?_
        exact ih_2 u7 u6 v3_8 _ _ _ (iter_back hf hr_2) hP hD hS (lv_sub hl [1, 0] rfl)
  exact hL_2 FU h1_held_f h1_count a2 _ _ _ hi_2 hP hD hS (lv_sub hl [2, 0] rfl)

theorem dX3_writeCopy_0 : decode cX3_writeCopy 0 = .ok (.iload_n 1, 1) := by decide +kernel
theorem dX3_writeCopy_1 : decode cX3_writeCopy 1 = .ok (.iconst 4, 1) := by decide +kernel
theorem dX3_writeCopy_2 : decode cX3_writeCopy 2 = .ok (.if_icmp .lt 44, 3) := by decide +kernel
theorem dX3_writeCopy_5 : decode cX3_writeCopy 5 = .ok (.iload_n 1, 1) := by decide +kernel
theorem dX3_writeCopy_6 : decode cX3_writeCopy 6 = .ok (.bipush 11, 2) := by decide +kernel
theorem dX3_writeCopy_8 : decode cX3_writeCopy 8 = .ok (.if_icmp .gt 38, 3) := by decide +kernel
theorem dX3_writeCopy_11 : decode cX3_writeCopy 11 = .ok (.iload_n 2, 1) := by decide +kernel
theorem dX3_writeCopy_12 : decode cX3_writeCopy 12 = .ok (.sipush 2047, 3) := by decide +kernel
theorem dX3_writeCopy_15 : decode cX3_writeCopy 15 = .ok (.if_icmp .gt 31, 3) := by decide +kernel
theorem dX3_writeCopy_18 : decode cX3_writeCopy 18 = .ok (.aload_n 0, 1) := by decide +kernel
theorem dX3_writeCopy_19 : decode cX3_writeCopy 19 = .ok (.bipush 32, 2) := by decide +kernel
theorem dX3_writeCopy_21 : decode cX3_writeCopy 21 = .ok (.iload_n 2, 1) := by decide +kernel
theorem dX3_writeCopy_22 : decode cX3_writeCopy 22 = .ok (.sipush 256, 3) := by decide +kernel
theorem dX3_writeCopy_25 : decode cX3_writeCopy 25 = .ok (.idiv, 1) := by decide +kernel
theorem dX3_writeCopy_26 : decode cX3_writeCopy 26 = .ok (.imul, 1) := by decide +kernel
theorem dX3_writeCopy_27 : decode cX3_writeCopy 27 = .ok (.iconst 4, 1) := by decide +kernel
theorem dX3_writeCopy_28 : decode cX3_writeCopy 28 = .ok (.iload_n 1, 1) := by decide +kernel
theorem dX3_writeCopy_29 : decode cX3_writeCopy 29 = .ok (.iconst 4, 1) := by decide +kernel
theorem dX3_writeCopy_30 : decode cX3_writeCopy 30 = .ok (.isub, 1) := by decide +kernel
theorem dX3_writeCopy_31 : decode cX3_writeCopy 31 = .ok (.imul, 1) := by decide +kernel
theorem dX3_writeCopy_32 : decode cX3_writeCopy 32 = .ok (.iadd, 1) := by decide +kernel
theorem dX3_writeCopy_33 : decode cX3_writeCopy 33 = .ok (.iconst 1, 1) := by decide +kernel
theorem dX3_writeCopy_34 : decode cX3_writeCopy 34 = .ok (.iadd, 1) := by decide +kernel
theorem dX3_writeCopy_35 : decode cX3_writeCopy 35 = .ok (.invokevirtual 12, 3) := by decide +kernel
theorem dX3_writeCopy_38 : decode cX3_writeCopy 38 = .ok (.aload_n 0, 1) := by decide +kernel
theorem dX3_writeCopy_39 : decode cX3_writeCopy 39 = .ok (.iload_n 2, 1) := by decide +kernel
theorem dX3_writeCopy_40 : decode cX3_writeCopy 40 = .ok (.invokevirtual 12, 3) := by decide +kernel
theorem dX3_writeCopy_43 : decode cX3_writeCopy 43 = .ok (.goto 21, 3) := by decide +kernel
theorem dX3_writeCopy_46 : decode cX3_writeCopy 46 = .ok (.aload_n 0, 1) := by decide +kernel
theorem dX3_writeCopy_47 : decode cX3_writeCopy 47 = .ok (.iconst 4, 1) := by decide +kernel
theorem dX3_writeCopy_48 : decode cX3_writeCopy 48 = .ok (.iload_n 1, 1) := by decide +kernel
theorem dX3_writeCopy_49 : decode cX3_writeCopy 49 = .ok (.iconst 1, 1) := by decide +kernel
theorem dX3_writeCopy_50 : decode cX3_writeCopy 50 = .ok (.isub, 1) := by decide +kernel
theorem dX3_writeCopy_51 : decode cX3_writeCopy 51 = .ok (.imul, 1) := by decide +kernel
theorem dX3_writeCopy_52 : decode cX3_writeCopy 52 = .ok (.iconst 2, 1) := by decide +kernel
theorem dX3_writeCopy_53 : decode cX3_writeCopy 53 = .ok (.iadd, 1) := by decide +kernel
theorem dX3_writeCopy_54 : decode cX3_writeCopy 54 = .ok (.invokevirtual 12, 3) := by decide +kernel
theorem dX3_writeCopy_57 : decode cX3_writeCopy 57 = .ok (.aload_n 0, 1) := by decide +kernel
theorem dX3_writeCopy_58 : decode cX3_writeCopy 58 = .ok (.iload_n 2, 1) := by decide +kernel
theorem dX3_writeCopy_59 : decode cX3_writeCopy 59 = .ok (.i2l, 1) := by decide +kernel
theorem dX3_writeCopy_60 : decode cX3_writeCopy 60 = .ok (.iconst 2, 1) := by decide +kernel
theorem dX3_writeCopy_61 : decode cX3_writeCopy 61 = .ok (.invokevirtual 22, 3) := by decide +kernel
theorem dX3_writeCopy_64 : decode cX3_writeCopy 64 = .ok (.return_, 1) := by decide +kernel
def m_Elements_writeCopy_J46 (a1 : Int32) (a2 : Int32) (h0_count : Int32) (h0_held_n : Nat) (h0_held_f : Nat → Int32) : Option (Int32 × (Nat → Int32)) :=
  (m_Bytes_add (((4 : Int32) * (a1 - (1 : Int32))) + (2 : Int32)) h0_count h0_held_n h0_held_f).bind fun (u1, u2) =>
  (m_Bytes_addNumber (a2.toInt64) (2 : Int32) u1 h0_held_n u2).bind fun (u3, u4) =>
  some (u3, u4)
def m_Elements_writeCopy (a1 : Int32) (a2 : Int32) (h0_count : Int32) (h0_held_n : Nat) (h0_held_f : Nat → Int32) : Option (Int32 × (Nat → Int32)) :=
  if a1 < (4 : Int32) then
    m_Elements_writeCopy_J46 a1 a2 h0_count h0_held_n h0_held_f
  else
    if (11 : Int32) < a1 then
      m_Elements_writeCopy_J46 a1 a2 h0_count h0_held_n h0_held_f
    else
      if (2047 : Int32) < a2 then
        m_Elements_writeCopy_J46 a1 a2 h0_count h0_held_n h0_held_f
      else
        (m_Bytes_add ((((32 : Int32) * (a2 / (256 : Int32))) + ((4 : Int32) * (a1 - (4 : Int32)))) + (1 : Int32)) h0_count h0_held_n h0_held_f).bind fun (u5, u6) =>
        (m_Bytes_add a2 u5 h0_held_n u6).bind fun (u7, u8) =>
        some (u7, u8)
def rm_Elements_writeCopy : Room := { frames := 1, cells := 0, slots := 0, locals := 24 }
set_option maxHeartbeats 4000000 in
set_option maxRecDepth 100000 in
theorem c_Elements_writeCopy {l : Launch} {dC : Nat → ClassId} {dI : Nat → Nat → Nat} {cB cI : ClassId} {sz : Nat} {h0 : Nat} {a1 : Int32} {a2 : Int32} {h0_held : Nat} {h0_count : Int32} {h0_held_n : Nat} {h0_held_f : Nat → Int32} {o_h0_count : Int32} {o_h0_held_f : Nat → Int32} (hf : m_Elements_writeCopy a1 a2 h0_count h0_held_n h0_held_f = some (o_h0_count, o_h0_held_f)) : Met l yX3_writeCopy (Cond.code yX3_writeCopy cX3_writeCopy 3 none :: lw_G) rm_Elements_writeCopy (PreC (dC, dI) [(cB, .byte), (cI, .int)] [.ref h0, .int a1, .int a2] sz [(h0, .inr (2, [.ref h0_held, .int h0_count])), (h0_held, .inl (cB, h0_held_n, .inl h0_held_f))]) (QcV (dC, dI) [(h0, .inr (2, [.ref h0_held, .int o_h0_count])), (h0_held, .inl (cB, h0_held_n, .inl o_h0_held_f))] (va_A [(h0, .inr (2, [.ref h0_held, .int h0_count])), (h0_held, .inl (cB, h0_held_n, .inl h0_held_f))] sz)) 0 0 (va_A [(h0, .inr (2, [.ref h0_held, .int h0_count])), (h0_held, .inl (cB, h0_held_n, .inl h0_held_f))] sz) := by
  refine met_of (Qf := fun A => QcV (dC, dI) [(h0, .inr (2, [.ref h0_held, .int o_h0_count])), (h0_held, .inl (cB, h0_held_n, .inl o_h0_held_f))] A) (by decide) (Nat.le_of_ble_eq_true rfl) ?_
  intro p e s m below meth c A ls Q hx hb hr hml hown hts hlocks hnm hP hK hD hN hT hA hl hQ
  have hown : s.vm.findClass RX3 = some m.cls := hown
  have hS : va_S A s.heap s.heap [] := va_S.rf
  have hl : lv_has ls 3 [(0, .ref h0), (1, .int a1), (2, .int a2)] := hl
  unfold m_Elements_writeCopy at hf
  refine lv_iload_n hx hb dX3_writeCopy_0 rfl (lv_at hl 1 rfl) ?_
  refine lv_iconst (v := 4) hx hb dX3_writeCopy_1 (by decide) ?_
  have hJ_46 : ∀ (H : Heap) (locs : List Loc) (ls : Array Slot), m_Elements_writeCopy_J46 a1 a2 h0_count h0_held_n h0_held_f = some (o_h0_count, o_h0_held_f) → va_P (dC, dI) vwCl [(h0, .inr (2, [.ref h0_held, .int h0_count])), (h0_held, .inl (cB, h0_held_n, .inl h0_held_f))] H → va_D A [(h0, .inr (2, [.ref h0_held, .int h0_count])), (h0_held, .inl (cB, h0_held_n, .inl h0_held_f))] → va_S A s.heap H locs → lv_has ls 3 [(0, .ref h0), (1, .int a1), (2, .int a2)] → W p l e (rm_Elements_writeCopy) s m ([.ref h0, .int a1, .int a2] : List Value).toArray below meth c H locs 0 0 Q (F0 m 46 ls []) := by
    intro  H locs ls hf hP hD hS hl
    unfold m_Elements_writeCopy_J46 at hf
    refine lv_aload_n hx hb dX3_writeCopy_46 rfl (lv_at hl 0 rfl) ?_
    refine lv_iconst (v := 4) hx hb dX3_writeCopy_47 (by decide) ?_
    refine lv_iload_n hx hb dX3_writeCopy_48 rfl (lv_at hl 1 rfl) ?_
    refine lv_iconst (v := 1) hx hb dX3_writeCopy_49 (by decide) ?_
    refine lv_isub hx hb dX3_writeCopy_50 ?_
    refine lv_imul hx hb dX3_writeCopy_51 ?_
    refine lv_iconst (v := 2) hx hb dX3_writeCopy_52 (by decide) ?_
    refine lv_iadd hx hb dX3_writeCopy_53 ?_
    obtain ⟨x, hc, hf⟩ := bind_some hf
    obtain ⟨u1, u2⟩ := x
    dsimp only at hf
    refine nx_v (rn_V (As := [.int (((4 : Int32) * (a1 - (1 : Int32))) + (2 : Int32))]) (rest := []) (n := 1) (ci := 2) (q0 := 0) ⟨hx, hb, hml, hown, hts⟩ (c_Bytes_add (l := l) (dC := dC) (dI := dI) (cB := cB) (cI := cI) (h0 := h0) (a1 := (((4 : Int32) * (a1 - (1 : Int32))) + (2 : Int32))) (h0_held := h0_held) (h0_count := h0_count) (h0_held_n := h0_held_n) (h0_held_f := h0_held_f) (o_h0_count := u1) (o_h0_held_f := u2) hc) (wV kw_675 kw_398 kw_399 kw_83 kw_400) (by decide +kernel) ⟨Nat.le_of_ble_eq_true rfl, Nat.le_of_ble_eq_true rfl⟩ hK hP hD hN hT hS (va_free (wc := [(h0, .inr (2, [.ref h0_held, .int h0_count])), (h0_held, .inl (cB, h0_held_n, .inl h0_held_f))]) hD hS hA [0, 1] rfl) [0, 1] rfl (by decide) rfl rfl rfl hl.1 rfl (lv_room (Nat.le_of_ble_eq_true rfl)) dX3_writeCopy_54 ⟨Nat.le_of_ble_eq_true rfl, Nat.le_of_ble_eq_true rfl⟩) hP hD hS hA (wr := []) (w1 := [(h0, .inr (2, [.ref h0_held, .int u1])), (h0_held, .inl (cB, h0_held_n, .inl u2))]) (ws' := [(h0, .inr (2, [.ref h0_held, .int u1])), (h0_held, .inl (cB, h0_held_n, .inl u2))]) [0, 1] [] [0, 1] rfl rfl (by decide) (by decide) rfl (by decide) (fun H locs hP hD hS => ?_)
    refine lv_aload_n hx hb dX3_writeCopy_57 rfl (lv_at hl 0 rfl) ?_
    refine lv_iload_n hx hb dX3_writeCopy_58 rfl (lv_at hl 2 rfl) ?_
    refine lv_i2l (v := (a2.toInt64)) hx hb dX3_writeCopy_59 rfl ?_
    refine lv_iconst (v := 2) hx hb dX3_writeCopy_60 (by decide) ?_
    obtain ⟨x, hc, hf⟩ := bind_some hf
    obtain ⟨u3, u4⟩ := x
    dsimp only at hf
    refine nx_v (rn_V (As := [.long (a2.toInt64), .int (2 : Int32)]) (rest := []) (n := 2) (ci := 2) (q0 := 0) ⟨hx, hb, hml, hown, hts⟩ (c_Bytes_addNumber (l := l) (dC := dC) (dI := dI) (cB := cB) (cI := cI) (h0 := h0) (a1 := (a2.toInt64)) (a2 := (2 : Int32)) (h0_held := h0_held) (h0_count := u1) (h0_held_n := h0_held_n) (h0_held_f := u2) (o_h0_count := u3) (o_h0_held_f := u4) hc) (wV kw_698 kw_699 kw_700 kw_83 kw_701) (by decide +kernel) ⟨Nat.le_of_ble_eq_true rfl, Nat.le_of_ble_eq_true rfl⟩ hK hP hD hN hT hS (va_free (wc := [(h0, .inr (2, [.ref h0_held, .int u1])), (h0_held, .inl (cB, h0_held_n, .inl u2))]) hD hS hA [0, 1] rfl) [0, 1] rfl (by decide) rfl rfl rfl hl.1 rfl (lv_room (Nat.le_of_ble_eq_true rfl)) dX3_writeCopy_61 ⟨Nat.le_of_ble_eq_true rfl, Nat.le_of_ble_eq_true rfl⟩) hP hD hS hA (wr := []) (w1 := [(h0, .inr (2, [.ref h0_held, .int u3])), (h0_held, .inl (cB, h0_held_n, .inl u4))]) (ws' := [(h0, .inr (2, [.ref h0_held, .int u3])), (h0_held, .inl (cB, h0_held_n, .inl u4))]) [0, 1] [] [0, 1] rfl rfl (by decide) (by decide) rfl (by decide) (fun H locs hP hD hS => ?_)
    obtain ⟨rfl, hq_1⟩ := Prod.mk.inj (Option.some.inj hf)
    obtain rfl := hq_1
    exact rt_v hQ hx hb hr hlocks hP hD hS dX3_writeCopy_64
  refine lv_icmp_lt (tgt := 46) hx hb dX3_writeCopy_2 (by decide) (fun c_2 => ?_) (fun c_2 => ?_)
  · replace hf := if_t c_2 hf
    exact hJ_46  _ _ _ hf hP hD hS (lv_sub hl [0, 1, 2] rfl)
  · replace hf := if_f c_2 hf
    refine lv_iload_n hx hb dX3_writeCopy_5 rfl (lv_at hl 1 rfl) ?_
    refine lv_bipush (v := 11) hx hb dX3_writeCopy_6 (by decide) ?_
    refine lv_icmp_gt (tgt := 46) hx hb dX3_writeCopy_8 (by decide) (fun c_8 => ?_) (fun c_8 => ?_)
    · replace hf := if_t c_8 hf
      exact hJ_46  _ _ _ hf hP hD hS (lv_sub hl [0, 1, 2] rfl)
    · replace hf := if_f c_8 hf
      refine lv_iload_n hx hb dX3_writeCopy_11 rfl (lv_at hl 2 rfl) ?_
      refine lv_sipush (v := 2047) hx hb dX3_writeCopy_12 (by decide) ?_
      refine lv_icmp_gt (tgt := 46) hx hb dX3_writeCopy_15 (by decide) (fun c_15 => ?_) (fun c_15 => ?_)
      · replace hf := if_t c_15 hf
        exact hJ_46  _ _ _ hf hP hD hS (lv_sub hl [0, 1, 2] rfl)
      · replace hf := if_f c_15 hf
        refine lv_aload_n hx hb dX3_writeCopy_18 rfl (lv_at hl 0 rfl) ?_
        refine lv_bipush (v := 32) hx hb dX3_writeCopy_19 (by decide) ?_
        refine lv_iload_n hx hb dX3_writeCopy_21 rfl (lv_at hl 2 rfl) ?_
        refine lv_sipush (v := 256) hx hb dX3_writeCopy_22 (by decide) ?_
        refine lv_idiv hx hb dX3_writeCopy_25 (by decide) ?_
        refine lv_imul hx hb dX3_writeCopy_26 ?_
        refine lv_iconst (v := 4) hx hb dX3_writeCopy_27 (by decide) ?_
        refine lv_iload_n hx hb dX3_writeCopy_28 rfl (lv_at hl 1 rfl) ?_
        refine lv_iconst (v := 4) hx hb dX3_writeCopy_29 (by decide) ?_
        refine lv_isub hx hb dX3_writeCopy_30 ?_
        refine lv_imul hx hb dX3_writeCopy_31 ?_
        refine lv_iadd hx hb dX3_writeCopy_32 ?_
        refine lv_iconst (v := 1) hx hb dX3_writeCopy_33 (by decide) ?_
        refine lv_iadd hx hb dX3_writeCopy_34 ?_
        obtain ⟨x, hc, hf⟩ := bind_some hf
        obtain ⟨u5, u6⟩ := x
        dsimp only at hf
        refine nx_v (rn_V (As := [.int ((((32 : Int32) * (a2 / (256 : Int32))) + ((4 : Int32) * (a1 - (4 : Int32)))) + (1 : Int32))]) (rest := []) (n := 1) (ci := 2) (q0 := 0) ⟨hx, hb, hml, hown, hts⟩ (c_Bytes_add (l := l) (dC := dC) (dI := dI) (cB := cB) (cI := cI) (h0 := h0) (a1 := ((((32 : Int32) * (a2 / (256 : Int32))) + ((4 : Int32) * (a1 - (4 : Int32)))) + (1 : Int32))) (h0_held := h0_held) (h0_count := h0_count) (h0_held_n := h0_held_n) (h0_held_f := h0_held_f) (o_h0_count := u5) (o_h0_held_f := u6) hc) (wV kw_675 kw_398 kw_399 kw_83 kw_400) (by decide +kernel) ⟨Nat.le_of_ble_eq_true rfl, Nat.le_of_ble_eq_true rfl⟩ hK hP hD hN hT hS (va_free (wc := [(h0, .inr (2, [.ref h0_held, .int h0_count])), (h0_held, .inl (cB, h0_held_n, .inl h0_held_f))]) hD hS hA [0, 1] rfl) [0, 1] rfl (by decide) rfl rfl rfl hl.1 rfl (lv_room (Nat.le_of_ble_eq_true rfl)) dX3_writeCopy_35 ⟨Nat.le_of_ble_eq_true rfl, Nat.le_of_ble_eq_true rfl⟩) hP hD hS hA (wr := []) (w1 := [(h0, .inr (2, [.ref h0_held, .int u5])), (h0_held, .inl (cB, h0_held_n, .inl u6))]) (ws' := [(h0, .inr (2, [.ref h0_held, .int u5])), (h0_held, .inl (cB, h0_held_n, .inl u6))]) [0, 1] [] [0, 1] rfl rfl (by decide) (by decide) rfl (by decide) (fun H locs hP hD hS => ?_)
        refine lv_aload_n hx hb dX3_writeCopy_38 rfl (lv_at hl 0 rfl) ?_
        refine lv_iload_n hx hb dX3_writeCopy_39 rfl (lv_at hl 2 rfl) ?_
        obtain ⟨x, hc, hf⟩ := bind_some hf
        obtain ⟨u7, u8⟩ := x
        dsimp only at hf
        refine nx_v (rn_V (As := [.int a2]) (rest := []) (n := 1) (ci := 2) (q0 := 0) ⟨hx, hb, hml, hown, hts⟩ (c_Bytes_add (l := l) (dC := dC) (dI := dI) (cB := cB) (cI := cI) (h0 := h0) (a1 := a2) (h0_held := h0_held) (h0_count := u5) (h0_held_n := h0_held_n) (h0_held_f := u6) (o_h0_count := u7) (o_h0_held_f := u8) hc) (wV kw_675 kw_398 kw_399 kw_83 kw_400) (by decide +kernel) ⟨Nat.le_of_ble_eq_true rfl, Nat.le_of_ble_eq_true rfl⟩ hK hP hD hN hT hS (va_free (wc := [(h0, .inr (2, [.ref h0_held, .int u5])), (h0_held, .inl (cB, h0_held_n, .inl u6))]) hD hS hA [0, 1] rfl) [0, 1] rfl (by decide) rfl rfl rfl hl.1 rfl (lv_room (Nat.le_of_ble_eq_true rfl)) dX3_writeCopy_40 ⟨Nat.le_of_ble_eq_true rfl, Nat.le_of_ble_eq_true rfl⟩) hP hD hS hA (wr := []) (w1 := [(h0, .inr (2, [.ref h0_held, .int u7])), (h0_held, .inl (cB, h0_held_n, .inl u8))]) (ws' := [(h0, .inr (2, [.ref h0_held, .int u7])), (h0_held, .inl (cB, h0_held_n, .inl u8))]) [0, 1] [] [0, 1] rfl rfl (by decide) (by decide) rfl (by decide) (fun H locs hP hD hS => ?_)
        refine lv_goto (tgt := 64) hx hb dX3_writeCopy_43 (by decide) ?_
        obtain ⟨rfl, hq_1⟩ := Prod.mk.inj (Option.some.inj hf)
        obtain rfl := hq_1
        exact rt_v hQ hx hb hr hlocks hP hD hS dX3_writeCopy_64

theorem dX3_write_0 : decode cX3_write 0 = .ok (.iconst 0, 1) := by decide +kernel
theorem dX3_write_1 : decode cX3_write 1 = .ok (.istore 7, 2) := by decide +kernel
theorem dX3_write_3 : decode cX3_write 3 = .ok (.iload 4, 2) := by decide +kernel
theorem dX3_write_5 : decode cX3_write 5 = .ok (.ifCond .le 58, 3) := by decide +kernel
theorem dX3_write_8 : decode cX3_write 8 = .ok (.aload_n 0, 1) := by decide +kernel
theorem dX3_write_9 : decode cX3_write 9 = .ok (.iload 4, 2) := by decide +kernel
theorem dX3_write_11 : decode cX3_write 11 = .ok (.invokevirtual 18, 3) := by decide +kernel
theorem dX3_write_14 : decode cX3_write 14 = .ok (.iconst 1, 1) := by decide +kernel
theorem dX3_write_15 : decode cX3_write 15 = .ok (.isub, 1) := by decide +kernel
theorem dX3_write_16 : decode cX3_write 16 = .ok (.istore 8, 2) := by decide +kernel
theorem dX3_write_18 : decode cX3_write 18 = .ok (.aload_n 2, 1) := by decide +kernel
theorem dX3_write_19 : decode cX3_write 19 = .ok (.iconst 4, 1) := by decide +kernel
theorem dX3_write_20 : decode cX3_write 20 = .ok (.iload 8, 2) := by decide +kernel
theorem dX3_write_22 : decode cX3_write 22 = .ok (.ifCond .ne 10, 3) := by decide +kernel
theorem dX3_write_25 : decode cX3_write 25 = .ok (.iload 4, 2) := by decide +kernel
theorem dX3_write_27 : decode cX3_write 27 = .ok (.iconst 1, 1) := by decide +kernel
theorem dX3_write_28 : decode cX3_write 28 = .ok (.isub, 1) := by decide +kernel
theorem dX3_write_29 : decode cX3_write 29 = .ok (.goto 8, 3) := by decide +kernel
theorem dX3_write_32 : decode cX3_write 32 = .ok (.bipush 59, 2) := by decide +kernel
theorem dX3_write_34 : decode cX3_write 34 = .ok (.iload 8, 2) := by decide +kernel
theorem dX3_write_36 : decode cX3_write 36 = .ok (.iadd, 1) := by decide +kernel
theorem dX3_write_37 : decode cX3_write 37 = .ok (.imul, 1) := by decide +kernel
theorem dX3_write_38 : decode cX3_write 38 = .ok (.invokevirtual 12, 3) := by decide +kernel
theorem dX3_write_41 : decode cX3_write 41 = .ok (.aload_n 2, 1) := by decide +kernel
theorem dX3_write_42 : decode cX3_write 42 = .ok (.iload 4, 2) := by decide +kernel
theorem dX3_write_44 : decode cX3_write 44 = .ok (.iconst 1, 1) := by decide +kernel
theorem dX3_write_45 : decode cX3_write 45 = .ok (.isub, 1) := by decide +kernel
theorem dX3_write_46 : decode cX3_write 46 = .ok (.i2l, 1) := by decide +kernel
theorem dX3_write_47 : decode cX3_write 47 = .ok (.iload 8, 2) := by decide +kernel
theorem dX3_write_49 : decode cX3_write 49 = .ok (.invokevirtual 22, 3) := by decide +kernel
theorem dX3_write_52 : decode cX3_write 52 = .ok (.aload_n 1, 1) := by decide +kernel
theorem dX3_write_53 : decode cX3_write 53 = .ok (.aload_n 2, 1) := by decide +kernel
theorem dX3_write_54 : decode cX3_write 54 = .ok (.iload_n 3, 1) := by decide +kernel
theorem dX3_write_55 : decode cX3_write 55 = .ok (.iload 4, 2) := by decide +kernel
theorem dX3_write_57 : decode cX3_write 57 = .ok (.invokevirtual 26, 3) := by decide +kernel
theorem dX3_write_60 : decode cX3_write 60 = .ok (.iinc 7 1, 3) := by decide +kernel
theorem dX3_write_63 : decode cX3_write 63 = .ok (.iload 5, 2) := by decide +kernel
theorem dX3_write_65 : decode cX3_write 65 = .ok (.ifCond .le 14, 3) := by decide +kernel
theorem dX3_write_68 : decode cX3_write 68 = .ok (.aload_n 2, 1) := by decide +kernel
theorem dX3_write_69 : decode cX3_write 69 = .ok (.iload 5, 2) := by decide +kernel
theorem dX3_write_71 : decode cX3_write 71 = .ok (.iload 6, 2) := by decide +kernel
theorem dX3_write_73 : decode cX3_write 73 = .ok (.invokestatic 32, 3) := by decide +kernel
theorem dX3_write_76 : decode cX3_write 76 = .ok (.iinc 7 1, 3) := by decide +kernel
theorem dX3_write_79 : decode cX3_write 79 = .ok (.iload 7, 2) := by decide +kernel
theorem dX3_write_81 : decode cX3_write 81 = .ok (.ireturn, 1) := by decide +kernel
def m_Elements_write_J63 (a5 : Int32) (a6 : Int32) (h2_held_n : Nat) (f1 : Nat → Int32) (g2 : Int32) (j7_3 : Int32) : Option (Int32 × Int32 × (Nat → Int32)) :=
  if a5 ≤ 0 then
    some (j7_3, g2, f1)
  else
    (m_Elements_writeCopy a5 a6 g2 h2_held_n f1).bind fun (u4, u5) =>
    bnd (j7_3 + (1 : Int32)) fun v7_6 =>
    some (v7_6, u4, u5)
def m_Elements_write_J37 (a3 : Int32) (a4 : Int32) (a5 : Int32) (a6 : Int32) (h2_count : Int32) (h2_held_n : Nat) (h2_held_f : Nat → Int32) (h1_held_n : Nat) (h1_held_f : Nat → Int32) (v8_8 : Int32) (s9 : Int32) : Option (Int32 × Int32 × (Nat → Int32)) :=
  (m_Bytes_add ((4 : Int32) * s9) h2_count h2_held_n h2_held_f).bind fun (u10, u11) =>
  (m_Bytes_addNumber ((a4 - (1 : Int32)).toInt64) v8_8 u10 h2_held_n u11).bind fun (u12, u13) =>
  (m_Text_copyTo a3 a4 u12 h1_held_n h1_held_f h2_held_n u13).bind fun (u14, u15) =>
  bnd ((0 : Int32) + (1 : Int32)) fun v7_16 =>
  m_Elements_write_J63 a5 a6 h2_held_n u15 u14 v7_16
def m_Elements_write (a3 : Int32) (a4 : Int32) (a5 : Int32) (a6 : Int32) (h2_count : Int32) (h2_held_n : Nat) (h2_held_f : Nat → Int32) (h1_held_n : Nat) (h1_held_f : Nat → Int32) : Option (Int32 × Int32 × (Nat → Int32)) :=
  if a4 ≤ 0 then
    m_Elements_write_J63 a5 a6 h2_held_n h2_held_f h2_count (0 : Int32)
  else
    (m_Elements_headOf a4).bind fun r7 =>
    bnd (r7 - (1 : Int32)) fun v8_8 =>
    if v8_8 = 0 then
      m_Elements_write_J37 a3 a4 a5 a6 h2_count h2_held_n h2_held_f h1_held_n h1_held_f v8_8 (a4 - (1 : Int32))
    else
      m_Elements_write_J37 a3 a4 a5 a6 h2_count h2_held_n h2_held_f h1_held_n h1_held_f v8_8 ((59 : Int32) + v8_8)
def rm_Elements_write : Room := { frames := 3, cells := 0, slots := 0, locals := 86 }
set_option maxHeartbeats 4000000 in
set_option maxRecDepth 100000 in
theorem c_Elements_write {l : Launch} {dC : Nat → ClassId} {dI : Nat → Nat → Nat} {cB cI : ClassId} {sz : Nat} {h0 : Nat} {h1 : Nat} {h2 : Nat} {a3 : Int32} {a4 : Int32} {a5 : Int32} {a6 : Int32} {h2_held : Nat} {h1_held : Nat} {h2_count : Int32} {h2_held_n : Nat} {h2_held_f : Nat → Int32} {w_h1_before : Value} {w_h1_latest : Value} {w_h1_count : Value} {w_h1_foundOffset : Value} {w_h1_downPlace : Value} {w_h1_downLimit : Value} {w_h1_downMost : Value} {w_h1_downOffset : Value} {h1_held_n : Nat} {h1_held_f : Nat → Int32} {o_r : Int32} {o_h2_count : Int32} {o_h2_held_f : Nat → Int32} (hf : m_Elements_write a3 a4 a5 a6 h2_count h2_held_n h2_held_f h1_held_n h1_held_f = some (o_r, o_h2_count, o_h2_held_f)) : Met l yX3_write (Cond.code yX3_write cX3_write 9 (some .int) :: lw_G) rm_Elements_write (PreC (dC, dI) [(cB, .byte), (cI, .int)] [.ref h0, .ref h1, .ref h2, .int a3, .int a4, .int a5, .int a6] sz [(h0, .inr (3, [])), (h2, .inr (2, [.ref h2_held, .int h2_count])), (h2_held, .inl (cB, h2_held_n, .inl h2_held_f)), (h1, .inr (8, [.ref h1_held, w_h1_before, w_h1_latest, w_h1_count, w_h1_foundOffset, w_h1_downPlace, w_h1_downLimit, w_h1_downMost, w_h1_downOffset])), (h1_held, .inl (cB, h1_held_n, .inl h1_held_f))]) (QcI o_r (dC, dI) [(h0, .inr (3, [])), (h2, .inr (2, [.ref h2_held, .int o_h2_count])), (h2_held, .inl (cB, h2_held_n, .inl o_h2_held_f)), (h1, .inr (8, [.ref h1_held, w_h1_before, w_h1_latest, w_h1_count, w_h1_foundOffset, w_h1_downPlace, w_h1_downLimit, w_h1_downMost, w_h1_downOffset])), (h1_held, .inl (cB, h1_held_n, .inl h1_held_f))] (va_A [(h0, .inr (3, [])), (h2, .inr (2, [.ref h2_held, .int h2_count])), (h2_held, .inl (cB, h2_held_n, .inl h2_held_f)), (h1, .inr (8, [.ref h1_held, w_h1_before, w_h1_latest, w_h1_count, w_h1_foundOffset, w_h1_downPlace, w_h1_downLimit, w_h1_downMost, w_h1_downOffset])), (h1_held, .inl (cB, h1_held_n, .inl h1_held_f))] sz)) 0 0 (va_A [(h0, .inr (3, [])), (h2, .inr (2, [.ref h2_held, .int h2_count])), (h2_held, .inl (cB, h2_held_n, .inl h2_held_f)), (h1, .inr (8, [.ref h1_held, w_h1_before, w_h1_latest, w_h1_count, w_h1_foundOffset, w_h1_downPlace, w_h1_downLimit, w_h1_downMost, w_h1_downOffset])), (h1_held, .inl (cB, h1_held_n, .inl h1_held_f))] sz) := by
  refine met_of (Qf := fun A => QcI o_r (dC, dI) [(h0, .inr (3, [])), (h2, .inr (2, [.ref h2_held, .int o_h2_count])), (h2_held, .inl (cB, h2_held_n, .inl o_h2_held_f)), (h1, .inr (8, [.ref h1_held, w_h1_before, w_h1_latest, w_h1_count, w_h1_foundOffset, w_h1_downPlace, w_h1_downLimit, w_h1_downMost, w_h1_downOffset])), (h1_held, .inl (cB, h1_held_n, .inl h1_held_f))] A) (by decide) (Nat.le_of_ble_eq_true rfl) ?_
  intro p e s m below meth c A ls Q hx hb hr hml hown hts hlocks hnm hP hK hD hN hT hA hl hQ
  have hown : s.vm.findClass RX3 = some m.cls := hown
  have hS : va_S A s.heap s.heap [] := va_S.rf
  have hl : lv_has ls 9 [(0, .ref h0), (1, .ref h1), (2, .ref h2), (3, .int a3), (4, .int a4), (5, .int a5), (6, .int a6)] := hl
  unfold m_Elements_write at hf
  refine lv_iconst (v := 0) hx hb dX3_write_0 (by decide) ?_
  refine lv_istore (lv' := [(7, .int (0 : Int32)), (0, .ref h0), (1, .ref h1), (2, .ref h2), (3, .int a3), (4, .int a4), (5, .int a5), (6, .int a6)]) hx hb dX3_write_1 hl (by decide) rfl (fun ls hl => ?_)
  refine lv_iload hx hb dX3_write_3 (lv_at hl 5 rfl) ?_
  have hJ_63 : ∀ (f1 : Nat → Int32) (g2 : Int32) (j7_3 : Int32) (H : Heap) (locs : List Loc) (ls : Array Slot), m_Elements_write_J63 a5 a6 h2_held_n f1 g2 j7_3 = some (o_r, o_h2_count, o_h2_held_f) → va_P (dC, dI) vwCl [(h0, .inr (3, [])), (h2, .inr (2, [.ref h2_held, .int g2])), (h2_held, .inl (cB, h2_held_n, .inl f1)), (h1, .inr (8, [.ref h1_held, w_h1_before, w_h1_latest, w_h1_count, w_h1_foundOffset, w_h1_downPlace, w_h1_downLimit, w_h1_downMost, w_h1_downOffset])), (h1_held, .inl (cB, h1_held_n, .inl h1_held_f))] H → va_D A [(h0, .inr (3, [])), (h2, .inr (2, [.ref h2_held, .int g2])), (h2_held, .inl (cB, h2_held_n, .inl f1)), (h1, .inr (8, [.ref h1_held, w_h1_before, w_h1_latest, w_h1_count, w_h1_foundOffset, w_h1_downPlace, w_h1_downLimit, w_h1_downMost, w_h1_downOffset])), (h1_held, .inl (cB, h1_held_n, .inl h1_held_f))] → va_S A s.heap H locs → lv_has ls 9 [(2, .ref h2), (5, .int a5), (6, .int a6), (7, .int j7_3)] → W p l e (rm_Elements_write) s m ([.ref h0, .ref h1, .ref h2, .int a3, .int a4, .int a5, .int a6] : List Value).toArray below meth c H locs 0 0 Q (F0 m 63 ls []) := by
    intro f1 g2 j7_3 H locs ls hf hP hD hS hl
    unfold m_Elements_write_J63 at hf
    refine lv_iload hx hb dX3_write_63 (lv_at hl 1 rfl) ?_
    refine lv_if_le (tgt := 79) hx hb dX3_write_65 (by decide) (fun c_65 => ?_) (fun c_65 => ?_)
    · replace hf := if_t c_65 hf
      refine lv_iload hx hb dX3_write_79 (lv_at hl 3 rfl) ?_
      obtain ⟨rfl, hq_1⟩ := Prod.mk.inj (Option.some.inj hf)
      obtain ⟨rfl, hq_2⟩ := Prod.mk.inj hq_1
      obtain rfl := hq_2
      exact rt_i hQ hx hb hr hlocks hP hD hS dX3_write_81
    · replace hf := if_f c_65 hf
      refine lv_aload_n hx hb dX3_write_68 rfl (lv_at hl 0 rfl) ?_
      refine lv_iload hx hb dX3_write_69 (lv_at hl 1 rfl) ?_
      refine lv_iload hx hb dX3_write_71 (lv_at hl 2 rfl) ?_
      obtain ⟨x, hc, hf⟩ := bind_some hf
      obtain ⟨u4, u5⟩ := x
      dsimp only at hf
      refine nx_v (rn_S (As := [.ref h2, .int a5, .int a6]) (rest := []) (n := 3) ⟨hx, hb, hml, hown, hts⟩ (c_Elements_writeCopy (l := l) (dC := dC) (dI := dI) (cB := cB) (cI := cI) (h0 := h2) (a1 := a5) (a2 := a6) (h0_held := h2_held) (h0_count := g2) (h0_held_n := h2_held_n) (h0_held_f := f1) (o_h0_count := u4) (o_h0_held_f := u5) hc) (wS kw_710 kw_711 kw_89 kw_712) (by decide +kernel) ⟨Nat.le_of_ble_eq_true rfl, Nat.le_of_ble_eq_true rfl⟩ hK hP hD hN hT hS (va_free (wc := [(h2, .inr (2, [.ref h2_held, .int g2])), (h2_held, .inl (cB, h2_held_n, .inl f1))]) hD hS hA [1, 2] rfl) [1, 2] rfl (by decide) rfl hl.1 rfl (lv_room (Nat.le_of_ble_eq_true rfl)) dX3_write_73 ⟨Nat.le_of_ble_eq_true rfl, Nat.le_of_ble_eq_true rfl⟩) hP hD hS hA (wr := [(h0, .inr (3, [])), (h1, .inr (8, [.ref h1_held, w_h1_before, w_h1_latest, w_h1_count, w_h1_foundOffset, w_h1_downPlace, w_h1_downLimit, w_h1_downMost, w_h1_downOffset])), (h1_held, .inl (cB, h1_held_n, .inl h1_held_f))]) (w1 := [(h2, .inr (2, [.ref h2_held, .int u4])), (h2_held, .inl (cB, h2_held_n, .inl u5))]) (ws' := [(h0, .inr (3, [])), (h2, .inr (2, [.ref h2_held, .int u4])), (h2_held, .inl (cB, h2_held_n, .inl u5)), (h1, .inr (8, [.ref h1_held, w_h1_before, w_h1_latest, w_h1_count, w_h1_foundOffset, w_h1_downPlace, w_h1_downLimit, w_h1_downMost, w_h1_downOffset])), (h1_held, .inl (cB, h1_held_n, .inl h1_held_f))]) [1, 2] [0, 3, 4] [0, 3, 4, 1, 2] rfl rfl (by decide) (by decide) rfl (by decide) (fun H locs hP hD hS => ?_)
      obtain ⟨v7_6, e_v7_6⟩ : ∃ y : Int32, y = (j7_3 + (1 : Int32)) := ⟨_, rfl⟩
      replace hf := bnd_at e_v7_6 hf
      refine lv_iinc (v := v7_6) (lv' := [(7, .int v7_6), (2, .ref h2), (5, .int a5), (6, .int a6)]) hx hb dX3_write_76 hl (k := 3) rfl (by rw [e_v7_6]; rfl) (by decide) rfl (fun ls hl => ?_)
      refine lv_iload hx hb dX3_write_79 (lv_at hl 0 rfl) ?_
      obtain ⟨rfl, hq_1⟩ := Prod.mk.inj (Option.some.inj hf)
      obtain ⟨rfl, hq_2⟩ := Prod.mk.inj hq_1
      obtain rfl := hq_2
      exact rt_i hQ hx hb hr hlocks hP hD hS dX3_write_81
  refine lv_if_le (tgt := 63) hx hb dX3_write_5 (by decide) (fun c_5 => ?_) (fun c_5 => ?_)
  · replace hf := if_t c_5 hf
    exact hJ_63 h2_held_f h2_count (0 : Int32) _ _ _ hf hP hD hS (lv_sub hl [3, 6, 7, 0] rfl)
  · replace hf := if_f c_5 hf
    refine lv_aload_n hx hb dX3_write_8 rfl (lv_at hl 1 rfl) ?_
    refine lv_iload hx hb dX3_write_9 (lv_at hl 5 rfl) ?_
    obtain ⟨r7, hc, hf⟩ := bind_some hf
    refine nx_i (rn_V (As := [.int a4]) (rest := []) (n := 1) (ci := 3) (q0 := 0) ⟨hx, hb, hml, hown, hts⟩ (c_Elements_headOf (l := l) (dC := dC) (dI := dI) (cB := cB) (cI := cI) (h0 := h0) (a1 := a4)  (o_r := r7) hc) (wV kw_697 kw_629 kw_1426 kw_89 kw_630) (by decide +kernel) ⟨Nat.le_of_ble_eq_true rfl, Nat.le_of_ble_eq_true rfl⟩ hK hP hD hN hT hS (va_free (wc := [(h0, .inr (3, []))]) hD hS hA [0] rfl) [0] rfl (by decide) rfl rfl rfl hl.1 rfl (lv_room (Nat.le_of_ble_eq_true rfl)) dX3_write_11 ⟨Nat.le_of_ble_eq_true rfl, Nat.le_of_ble_eq_true rfl⟩) hP hD hS hA (wr := [(h2, .inr (2, [.ref h2_held, .int h2_count])), (h2_held, .inl (cB, h2_held_n, .inl h2_held_f)), (h1, .inr (8, [.ref h1_held, w_h1_before, w_h1_latest, w_h1_count, w_h1_foundOffset, w_h1_downPlace, w_h1_downLimit, w_h1_downMost, w_h1_downOffset])), (h1_held, .inl (cB, h1_held_n, .inl h1_held_f))]) (w1 := [(h0, .inr (3, []))]) (ws' := [(h0, .inr (3, [])), (h2, .inr (2, [.ref h2_held, .int h2_count])), (h2_held, .inl (cB, h2_held_n, .inl h2_held_f)), (h1, .inr (8, [.ref h1_held, w_h1_before, w_h1_latest, w_h1_count, w_h1_foundOffset, w_h1_downPlace, w_h1_downLimit, w_h1_downMost, w_h1_downOffset])), (h1_held, .inl (cB, h1_held_n, .inl h1_held_f))]) [0] [1, 2, 3, 4] [4, 0, 1, 2, 3] rfl rfl (by decide) (by decide) rfl (by decide) (fun H locs hP hD hS => ?_)
    refine lv_iconst (v := 1) hx hb dX3_write_14 (by decide) ?_
    refine lv_isub hx hb dX3_write_15 ?_
    refine lv_topi (fun v8_8 e_v8_8 => ?_)
    replace hf := bnd_at e_v8_8 hf
    refine lv_istore (lv' := [(8, .int v8_8), (7, .int (0 : Int32)), (0, .ref h0), (1, .ref h1), (2, .ref h2), (3, .int a3), (4, .int a4), (5, .int a5), (6, .int a6)]) hx hb dX3_write_16 hl (by decide) rfl (fun ls hl => ?_)
    refine lv_aload_n hx hb dX3_write_18 rfl (lv_at hl 4 rfl) ?_
    refine lv_iconst (v := 4) hx hb dX3_write_19 (by decide) ?_
    refine lv_iload hx hb dX3_write_20 (lv_at hl 0 rfl) ?_
    have hJ_37 : ∀ (s9 : Int32) (H : Heap) (locs : List Loc) (ls : Array Slot), m_Elements_write_J37 a3 a4 a5 a6 h2_count h2_held_n h2_held_f h1_held_n h1_held_f v8_8 s9 = some (o_r, o_h2_count, o_h2_held_f) → va_P (dC, dI) vwCl [(h0, .inr (3, [])), (h2, .inr (2, [.ref h2_held, .int h2_count])), (h2_held, .inl (cB, h2_held_n, .inl h2_held_f)), (h1, .inr (8, [.ref h1_held, w_h1_before, w_h1_latest, w_h1_count, w_h1_foundOffset, w_h1_downPlace, w_h1_downLimit, w_h1_downMost, w_h1_downOffset])), (h1_held, .inl (cB, h1_held_n, .inl h1_held_f))] H → va_D A [(h0, .inr (3, [])), (h2, .inr (2, [.ref h2_held, .int h2_count])), (h2_held, .inl (cB, h2_held_n, .inl h2_held_f)), (h1, .inr (8, [.ref h1_held, w_h1_before, w_h1_latest, w_h1_count, w_h1_foundOffset, w_h1_downPlace, w_h1_downLimit, w_h1_downMost, w_h1_downOffset])), (h1_held, .inl (cB, h1_held_n, .inl h1_held_f))] → va_S A s.heap H locs → lv_has ls 9 [(1, .ref h1), (2, .ref h2), (3, .int a3), (4, .int a4), (5, .int a5), (6, .int a6), (7, .int (0 : Int32)), (8, .int v8_8)] → W p l e (rm_Elements_write) s m ([.ref h0, .ref h1, .ref h2, .int a3, .int a4, .int a5, .int a6] : List Value).toArray below meth c H locs 0 0 Q (F0 m 37 ls [.int s9, .int (4 : Int32), .ref h2]) := by
      intro s9 H locs ls hf hP hD hS hl
      unfold m_Elements_write_J37 at hf
      refine lv_imul hx hb dX3_write_37 ?_
      obtain ⟨x, hc, hf⟩ := bind_some hf
      obtain ⟨u10, u11⟩ := x
      dsimp only at hf
      refine nx_v (rn_V (As := [.int ((4 : Int32) * s9)]) (rest := []) (n := 1) (ci := 2) (q0 := 0) ⟨hx, hb, hml, hown, hts⟩ (c_Bytes_add (l := l) (dC := dC) (dI := dI) (cB := cB) (cI := cI) (h0 := h2) (a1 := ((4 : Int32) * s9)) (h0_held := h2_held) (h0_count := h2_count) (h0_held_n := h2_held_n) (h0_held_f := h2_held_f) (o_h0_count := u10) (o_h0_held_f := u11) hc) (wV kw_675 kw_398 kw_399 kw_83 kw_400) (by decide +kernel) ⟨Nat.le_of_ble_eq_true rfl, Nat.le_of_ble_eq_true rfl⟩ hK hP hD hN hT hS (va_free (wc := [(h2, .inr (2, [.ref h2_held, .int h2_count])), (h2_held, .inl (cB, h2_held_n, .inl h2_held_f))]) hD hS hA [1, 2] rfl) [1, 2] rfl (by decide) rfl rfl rfl hl.1 rfl (lv_room (Nat.le_of_ble_eq_true rfl)) dX3_write_38 ⟨Nat.le_of_ble_eq_true rfl, Nat.le_of_ble_eq_true rfl⟩) hP hD hS hA (wr := [(h0, .inr (3, [])), (h1, .inr (8, [.ref h1_held, w_h1_before, w_h1_latest, w_h1_count, w_h1_foundOffset, w_h1_downPlace, w_h1_downLimit, w_h1_downMost, w_h1_downOffset])), (h1_held, .inl (cB, h1_held_n, .inl h1_held_f))]) (w1 := [(h2, .inr (2, [.ref h2_held, .int u10])), (h2_held, .inl (cB, h2_held_n, .inl u11))]) (ws' := [(h0, .inr (3, [])), (h2, .inr (2, [.ref h2_held, .int u10])), (h2_held, .inl (cB, h2_held_n, .inl u11)), (h1, .inr (8, [.ref h1_held, w_h1_before, w_h1_latest, w_h1_count, w_h1_foundOffset, w_h1_downPlace, w_h1_downLimit, w_h1_downMost, w_h1_downOffset])), (h1_held, .inl (cB, h1_held_n, .inl h1_held_f))]) [1, 2] [0, 3, 4] [0, 3, 4, 1, 2] rfl rfl (by decide) (by decide) rfl (by decide) (fun H locs hP hD hS => ?_)
      refine lv_aload_n hx hb dX3_write_41 rfl (lv_at hl 1 rfl) ?_
      refine lv_iload hx hb dX3_write_42 (lv_at hl 3 rfl) ?_
      refine lv_iconst (v := 1) hx hb dX3_write_44 (by decide) ?_
      refine lv_isub hx hb dX3_write_45 ?_
      refine lv_i2l (v := ((a4 - (1 : Int32)).toInt64)) hx hb dX3_write_46 rfl ?_
      refine lv_iload hx hb dX3_write_47 (lv_at hl 7 rfl) ?_
      obtain ⟨x, hc, hf⟩ := bind_some hf
      obtain ⟨u12, u13⟩ := x
      dsimp only at hf
      refine nx_v (rn_V (As := [.long ((a4 - (1 : Int32)).toInt64), .int v8_8]) (rest := []) (n := 2) (ci := 2) (q0 := 0) ⟨hx, hb, hml, hown, hts⟩ (c_Bytes_addNumber (l := l) (dC := dC) (dI := dI) (cB := cB) (cI := cI) (h0 := h2) (a1 := ((a4 - (1 : Int32)).toInt64)) (a2 := v8_8) (h0_held := h2_held) (h0_count := u10) (h0_held_n := h2_held_n) (h0_held_f := u11) (o_h0_count := u12) (o_h0_held_f := u13) hc) (wV kw_698 kw_699 kw_700 kw_83 kw_701) (by decide +kernel) ⟨Nat.le_of_ble_eq_true rfl, Nat.le_of_ble_eq_true rfl⟩ hK hP hD hN hT hS (va_free (wc := [(h2, .inr (2, [.ref h2_held, .int u10])), (h2_held, .inl (cB, h2_held_n, .inl u11))]) hD hS hA [1, 2] rfl) [1, 2] rfl (by decide) rfl rfl rfl hl.1 rfl (lv_room (Nat.le_of_ble_eq_true rfl)) dX3_write_49 ⟨Nat.le_of_ble_eq_true rfl, Nat.le_of_ble_eq_true rfl⟩) hP hD hS hA (wr := [(h0, .inr (3, [])), (h1, .inr (8, [.ref h1_held, w_h1_before, w_h1_latest, w_h1_count, w_h1_foundOffset, w_h1_downPlace, w_h1_downLimit, w_h1_downMost, w_h1_downOffset])), (h1_held, .inl (cB, h1_held_n, .inl h1_held_f))]) (w1 := [(h2, .inr (2, [.ref h2_held, .int u12])), (h2_held, .inl (cB, h2_held_n, .inl u13))]) (ws' := [(h0, .inr (3, [])), (h2, .inr (2, [.ref h2_held, .int u12])), (h2_held, .inl (cB, h2_held_n, .inl u13)), (h1, .inr (8, [.ref h1_held, w_h1_before, w_h1_latest, w_h1_count, w_h1_foundOffset, w_h1_downPlace, w_h1_downLimit, w_h1_downMost, w_h1_downOffset])), (h1_held, .inl (cB, h1_held_n, .inl h1_held_f))]) [1, 2] [0, 3, 4] [0, 3, 4, 1, 2] rfl rfl (by decide) (by decide) rfl (by decide) (fun H locs hP hD hS => ?_)
      refine lv_aload_n hx hb dX3_write_52 rfl (lv_at hl 0 rfl) ?_
      refine lv_aload_n hx hb dX3_write_53 rfl (lv_at hl 1 rfl) ?_
      refine lv_iload_n hx hb dX3_write_54 rfl (lv_at hl 2 rfl) ?_
      refine lv_iload hx hb dX3_write_55 (lv_at hl 3 rfl) ?_
      obtain ⟨x, hc, hf⟩ := bind_some hf
      obtain ⟨u14, u15⟩ := x
      dsimp only at hf
      refine nx_v (rn_V (As := [.ref h2, .int a3, .int a4]) (rest := []) (n := 3) (ci := 8) (q0 := 0) ⟨hx, hb, hml, hown, hts⟩ (c_Text_copyTo (l := l) (dC := dC) (dI := dI) (cB := cB) (cI := cI) (h0 := h1) (h1 := h2) (a2 := a3) (a3 := a4) (h0_held := h1_held) (h1_held := h2_held) (w_h0_before := (w_h1_before)) (w_h0_latest := (w_h1_latest)) (w_h0_count := (w_h1_count)) (w_h0_foundOffset := (w_h1_foundOffset)) (w_h0_downPlace := (w_h1_downPlace)) (w_h0_downLimit := (w_h1_downLimit)) (w_h0_downMost := (w_h1_downMost)) (w_h0_downOffset := (w_h1_downOffset)) (h1_count := u12) (h0_held_n := h1_held_n) (h0_held_f := h1_held_f) (h1_held_n := h2_held_n) (h1_held_f := u13) (o_h1_count := u14) (o_h1_held_f := u15) hc) (wV kw_702 kw_703 kw_704 kw_85 kw_705) (by decide +kernel) ⟨Nat.le_of_ble_eq_true rfl, Nat.le_of_ble_eq_true rfl⟩ hK hP hD hN hT hS (va_free (wc := [(h1, .inr (8, [.ref h1_held, w_h1_before, w_h1_latest, w_h1_count, w_h1_foundOffset, w_h1_downPlace, w_h1_downLimit, w_h1_downMost, w_h1_downOffset])), (h2, .inr (2, [.ref h2_held, .int u12])), (h1_held, .inl (cB, h1_held_n, .inl h1_held_f)), (h2_held, .inl (cB, h2_held_n, .inl u13))]) hD hS hA [3, 1, 4, 2] rfl) [3, 1, 4, 2] rfl (by decide) rfl rfl rfl hl.1 rfl (lv_room (Nat.le_of_ble_eq_true rfl)) dX3_write_57 ⟨Nat.le_of_ble_eq_true rfl, Nat.le_of_ble_eq_true rfl⟩) hP hD hS hA (wr := [(h0, .inr (3, []))]) (w1 := [(h1, .inr (8, [.ref h1_held, w_h1_before, w_h1_latest, w_h1_count, w_h1_foundOffset, w_h1_downPlace, w_h1_downLimit, w_h1_downMost, w_h1_downOffset])), (h2, .inr (2, [.ref h2_held, .int u14])), (h1_held, .inl (cB, h1_held_n, .inl h1_held_f)), (h2_held, .inl (cB, h2_held_n, .inl u15))]) (ws' := [(h0, .inr (3, [])), (h2, .inr (2, [.ref h2_held, .int u14])), (h2_held, .inl (cB, h2_held_n, .inl u15)), (h1, .inr (8, [.ref h1_held, w_h1_before, w_h1_latest, w_h1_count, w_h1_foundOffset, w_h1_downPlace, w_h1_downLimit, w_h1_downMost, w_h1_downOffset])), (h1_held, .inl (cB, h1_held_n, .inl h1_held_f))]) [3, 1, 4, 2] [0] [0, 2, 4, 1, 3] rfl rfl (by decide) (by decide) rfl (by decide) (fun H locs hP hD hS => ?_)
      obtain ⟨v7_16, e_v7_16⟩ : ∃ y : Int32, y = ((0 : Int32) + (1 : Int32)) := ⟨_, rfl⟩
      replace hf := bnd_at e_v7_16 hf
      refine lv_iinc (v := v7_16) (lv' := [(7, .int v7_16), (1, .ref h1), (2, .ref h2), (3, .int a3), (4, .int a4), (5, .int a5), (6, .int a6), (8, .int v8_8)]) hx hb dX3_write_60 hl (k := 6) rfl (by rw [e_v7_16]; rfl) (by decide) rfl (fun ls hl => ?_)
      exact hJ_63 u15 u14 v7_16 _ _ _ hf hP hD hS (lv_sub hl [2, 5, 6, 0] rfl)
    refine lv_if_ne (tgt := 32) hx hb dX3_write_22 (by decide) (fun c_22 => ?_) (fun c_22 => ?_)
    · replace hf := if_f c_22 hf
      refine lv_bipush (v := 59) hx hb dX3_write_32 (by decide) ?_
      refine lv_iload hx hb dX3_write_34 (lv_at hl 0 rfl) ?_
      refine lv_iadd hx hb dX3_write_36 ?_
      exact hJ_37 ((59 : Int32) + v8_8) _ _ _ hf hP hD hS (lv_sub hl [3, 4, 5, 6, 7, 8, 1, 0] rfl)
    · replace hf := if_t c_22 hf
      refine lv_iload hx hb dX3_write_25 (lv_at hl 6 rfl) ?_
      refine lv_iconst (v := 1) hx hb dX3_write_27 (by decide) ?_
      refine lv_isub hx hb dX3_write_28 ?_
      refine lv_goto (tgt := 37) hx hb dX3_write_29 (by decide) ?_
      exact hJ_37 (a4 - (1 : Int32)) _ _ _ hf hP hD hS (lv_sub hl [3, 4, 5, 6, 7, 8, 1, 0] rfl)

