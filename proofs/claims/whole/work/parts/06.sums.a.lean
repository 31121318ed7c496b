theorem dX9_mixed_0 : decode cX9_mixed 0 = .ok (.iload_n 0, 1) := by decide +kernel
theorem dX9_mixed_1 : decode cX9_mixed 1 = .ok (.iload_n 1, 1) := by decide +kernel
theorem dX9_mixed_2 : decode cX9_mixed 2 = .ok (.ldc 30, 2) := by decide +kernel
theorem dX9_mixed_4 : decode cX9_mixed 4 = .ok (.imul, 1) := by decide +kernel
theorem dX9_mixed_5 : decode cX9_mixed 5 = .ok (.iadd, 1) := by decide +kernel
theorem dX9_mixed_6 : decode cX9_mixed 6 = .ok (.istore_n 2, 1) := by decide +kernel
theorem dX9_mixed_7 : decode cX9_mixed 7 = .ok (.iload_n 2, 1) := by decide +kernel
theorem dX9_mixed_8 : decode cX9_mixed 8 = .ok (.bipush 13, 2) := by decide +kernel
theorem dX9_mixed_10 : decode cX9_mixed 10 = .ok (.ishl, 1) := by decide +kernel
theorem dX9_mixed_11 : decode cX9_mixed 11 = .ok (.iload_n 2, 1) := by decide +kernel
theorem dX9_mixed_12 : decode cX9_mixed 12 = .ok (.bipush 19, 2) := by decide +kernel
theorem dX9_mixed_14 : decode cX9_mixed 14 = .ok (.iushr, 1) := by decide +kernel
theorem dX9_mixed_15 : decode cX9_mixed 15 = .ok (.ior, 1) := by decide +kernel
theorem dX9_mixed_16 : decode cX9_mixed 16 = .ok (.ldc 29, 2) := by decide +kernel
theorem dX9_mixed_18 : decode cX9_mixed 18 = .ok (.imul, 1) := by decide +kernel
theorem dX9_mixed_19 : decode cX9_mixed 19 = .ok (.ireturn, 1) := by decide +kernel
def m_Sums_mixed (a0 : Int32) (a1 : Int32) : Option (Int32) :=
  bnd (a0 + (a1 * (-2048144777 : Int32))) fun v2_1 =>
  some (((ishl v2_1 (13 : Int32)) ||| (iushr v2_1 (19 : Int32))) * (-1640531535 : Int32))
def rm_Sums_mixed : Room := { frames := 0, cells := 0, slots := 0, locals := 0 }
set_option maxHeartbeats 4000000 in
set_option maxRecDepth 100000 in
theorem c_Sums_mixed {l : Launch} {dC : Nat → ClassId} {dI : Nat → Nat → Nat} {cB cI : ClassId} {sz : Nat} {a0 : Int32} {a1 : Int32} {o_r : Int32} (hf : m_Sums_mixed a0 a1 = some o_r) : Met l yX9_mixed (Cond.code yX9_mixed cX9_mixed 3 (some .int) :: lw_G) rm_Sums_mixed (PreC (dC, dI) [(cB, .byte), (cI, .int)] [.int a0, .int a1] sz []) (QcI o_r (dC, dI) [] (va_A [] sz)) 0 0 (va_A [] sz) := by
  refine met_of (Qf := fun A => QcI o_r (dC, dI) [] A) (by decide) (Nat.le_of_ble_eq_true rfl) ?_
  intro p e s m below meth c A ls Q hx hb hr hml hown hts hlocks hnm hP hK hD hN hT hA hl hQ
  have hown : s.vm.findClass RX9 = some m.cls := hown
  have hS : va_S A s.heap s.heap [] := va_S.rf
  have hl : lv_has ls 3 [(0, .int a0), (1, .int a1)] := hl
  unfold m_Sums_mixed at hf
  refine lv_iload_n hx hb dX9_mixed_0 rfl (lv_at hl 0 rfl) ?_
  refine lv_iload_n hx hb dX9_mixed_1 rfl (lv_at hl 1 rfl) ?_
  refine lv_ldc hx hb hown (hts _ kw_754) dX9_mixed_2 ?_
  refine lv_imul hx hb dX9_mixed_4 ?_
  refine lv_iadd hx hb dX9_mixed_5 ?_
  refine lv_topi (fun v2_1 e_v2_1 => ?_)
  replace hf := bnd_at e_v2_1 hf
  refine lv_istore_n (lv' := [(2, .int v2_1), (0, .int a0), (1, .int a1)]) hx hb dX9_mixed_6 rfl hl (by decide) rfl (fun ls hl => ?_)
  refine lv_iload_n hx hb dX9_mixed_7 rfl (lv_at hl 0 rfl) ?_
  refine lv_bipush (v := 13) hx hb dX9_mixed_8 (by decide) ?_
  refine lv_ishl hx hb dX9_mixed_10 ?_
  refine lv_iload_n hx hb dX9_mixed_11 rfl (lv_at hl 0 rfl) ?_
  refine lv_bipush (v := 19) hx hb dX9_mixed_12 (by decide) ?_
  refine lv_iushr (v := (iushr v2_1 (19 : Int32))) hx hb dX9_mixed_14 rfl ?_
  refine lv_ior hx hb dX9_mixed_15 ?_
  refine lv_ldc hx hb hown (hts _ kw_763) dX9_mixed_16 ?_
  refine lv_imul hx hb dX9_mixed_18 ?_
  obtain rfl := Option.some.inj hf
  exact rt_i hQ hx hb hr hlocks hP hD hS dX9_mixed_19

theorem dX9_turned_0 : decode cX9_turned 0 = .ok (.iload_n 0, 1) := by decide +kernel
theorem dX9_turned_1 : decode cX9_turned 1 = .ok (.iload_n 1, 1) := by decide +kernel
theorem dX9_turned_2 : decode cX9_turned 2 = .ok (.ishl, 1) := by decide +kernel
theorem dX9_turned_3 : decode cX9_turned 3 = .ok (.iload_n 0, 1) := by decide +kernel
theorem dX9_turned_4 : decode cX9_turned 4 = .ok (.bipush 32, 2) := by decide +kernel
theorem dX9_turned_6 : decode cX9_turned 6 = .ok (.iload_n 1, 1) := by decide +kernel
theorem dX9_turned_7 : decode cX9_turned 7 = .ok (.isub, 1) := by decide +kernel
theorem dX9_turned_8 : decode cX9_turned 8 = .ok (.iushr, 1) := by decide +kernel
theorem dX9_turned_9 : decode cX9_turned 9 = .ok (.ior, 1) := by decide +kernel
theorem dX9_turned_10 : decode cX9_turned 10 = .ok (.ireturn, 1) := by decide +kernel
def m_Sums_turned (a0 : Int32) (a1 : Int32) : Option (Int32) :=
  some ((ishl a0 a1) ||| (iushr a0 ((32 : Int32) - a1)))
def rm_Sums_turned : Room := { frames := 0, cells := 0, slots := 0, locals := 0 }
set_option maxHeartbeats 4000000 in
set_option maxRecDepth 100000 in
theorem c_Sums_turned {l : Launch} {dC : Nat → ClassId} {dI : Nat → Nat → Nat} {cB cI : ClassId} {sz : Nat} {a0 : Int32} {a1 : Int32} {o_r : Int32} (hf : m_Sums_turned a0 a1 = some o_r) : Met l yX9_turned (Cond.code yX9_turned cX9_turned 2 (some .int) :: lw_G) rm_Sums_turned (PreC (dC, dI) [(cB, .byte), (cI, .int)] [.int a0, .int a1] sz []) (QcI o_r (dC, dI) [] (va_A [] sz)) 0 0 (va_A [] sz) := by
  refine met_of (Qf := fun A => QcI o_r (dC, dI) [] A) (by decide) (Nat.le_of_ble_eq_true rfl) ?_
  intro p e s m below meth c A ls Q hx hb hr hml hown hts hlocks hnm hP hK hD hN hT hA hl hQ
  have hown : s.vm.findClass RX9 = some m.cls := hown
  have hS : va_S A s.heap s.heap [] := va_S.rf
  have hl : lv_has ls 2 [(0, .int a0), (1, .int a1)] := hl
  unfold m_Sums_turned at hf
  refine lv_iload_n hx hb dX9_turned_0 rfl (lv_at hl 0 rfl) ?_
  refine lv_iload_n hx hb dX9_turned_1 rfl (lv_at hl 1 rfl) ?_
  refine lv_ishl hx hb dX9_turned_2 ?_
  refine lv_iload_n hx hb dX9_turned_3 rfl (lv_at hl 0 rfl) ?_
  refine lv_bipush (v := 32) hx hb dX9_turned_4 (by decide) ?_
  refine lv_iload_n hx hb dX9_turned_6 rfl (lv_at hl 1 rfl) ?_
  refine lv_isub hx hb dX9_turned_7 ?_
  refine lv_iushr (v := (iushr a0 ((32 : Int32) - a1))) hx hb dX9_turned_8 rfl ?_
  refine lv_ior hx hb dX9_turned_9 ?_
  obtain rfl := Option.some.inj hf
  exact rt_i hQ hx hb hr hlocks hP hD hS dX9_turned_10

theorem dX9_sixteens_0 : decode cX9_sixteens 0 = .ok (.ldc 31, 2) := by decide +kernel
theorem dX9_sixteens_2 : decode cX9_sixteens 2 = .ok (.istore_n 3, 1) := by decide +kernel
theorem dX9_sixteens_3 : decode cX9_sixteens 3 = .ok (.ldc 30, 2) := by decide +kernel
theorem dX9_sixteens_5 : decode cX9_sixteens 5 = .ok (.istore 4, 2) := by decide +kernel
theorem dX9_sixteens_7 : decode cX9_sixteens 7 = .ok (.iconst 0, 1) := by decide +kernel
theorem dX9_sixteens_8 : decode cX9_sixteens 8 = .ok (.istore 5, 2) := by decide +kernel
theorem dX9_sixteens_10 : decode cX9_sixteens 10 = .ok (.ldc 32, 2) := by decide +kernel
theorem dX9_sixteens_12 : decode cX9_sixteens 12 = .ok (.istore 6, 2) := by decide +kernel
theorem dX9_sixteens_14 : decode cX9_sixteens 14 = .ok (.iload_n 1, 1) := by decide +kernel
theorem dX9_sixteens_15 : decode cX9_sixteens 15 = .ok (.istore 7, 2) := by decide +kernel
theorem dX9_sixteens_17 : decode cX9_sixteens 17 = .ok (.iload 7, 2) := by decide +kernel
theorem dX9_sixteens_19 : decode cX9_sixteens 19 = .ok (.iload_n 1, 1) := by decide +kernel
theorem dX9_sixteens_20 : decode cX9_sixteens 20 = .ok (.iload_n 2, 1) := by decide +kernel
theorem dX9_sixteens_21 : decode cX9_sixteens 21 = .ok (.iadd, 1) := by decide +kernel
theorem dX9_sixteens_22 : decode cX9_sixteens 22 = .ok (.if_icmp .ge 67, 3) := by decide +kernel
theorem dX9_sixteens_25 : decode cX9_sixteens 25 = .ok (.iload_n 3, 1) := by decide +kernel
theorem dX9_sixteens_26 : decode cX9_sixteens 26 = .ok (.aload_n 0, 1) := by decide +kernel
theorem dX9_sixteens_27 : decode cX9_sixteens 27 = .ok (.iload 7, 2) := by decide +kernel
theorem dX9_sixteens_29 : decode cX9_sixteens 29 = .ok (.invokevirtual 14, 3) := by decide +kernel
theorem dX9_sixteens_32 : decode cX9_sixteens 32 = .ok (.invokestatic 33, 3) := by decide +kernel
theorem dX9_sixteens_35 : decode cX9_sixteens 35 = .ok (.istore_n 3, 1) := by decide +kernel
theorem dX9_sixteens_36 : decode cX9_sixteens 36 = .ok (.iload 4, 2) := by decide +kernel
theorem dX9_sixteens_38 : decode cX9_sixteens 38 = .ok (.aload_n 0, 1) := by decide +kernel
theorem dX9_sixteens_39 : decode cX9_sixteens 39 = .ok (.iload 7, 2) := by decide +kernel
theorem dX9_sixteens_41 : decode cX9_sixteens 41 = .ok (.iconst 4, 1) := by decide +kernel
theorem dX9_sixteens_42 : decode cX9_sixteens 42 = .ok (.iadd, 1) := by decide +kernel
theorem dX9_sixteens_43 : decode cX9_sixteens 43 = .ok (.invokevirtual 14, 3) := by decide +kernel
theorem dX9_sixteens_46 : decode cX9_sixteens 46 = .ok (.invokestatic 33, 3) := by decide +kernel
theorem dX9_sixteens_49 : decode cX9_sixteens 49 = .ok (.istore 4, 2) := by decide +kernel
theorem dX9_sixteens_51 : decode cX9_sixteens 51 = .ok (.iload 5, 2) := by decide +kernel
theorem dX9_sixteens_53 : decode cX9_sixteens 53 = .ok (.aload_n 0, 1) := by decide +kernel
theorem dX9_sixteens_54 : decode cX9_sixteens 54 = .ok (.iload 7, 2) := by decide +kernel
theorem dX9_sixteens_56 : decode cX9_sixteens 56 = .ok (.bipush 8, 2) := by decide +kernel
theorem dX9_sixteens_58 : decode cX9_sixteens 58 = .ok (.iadd, 1) := by decide +kernel
theorem dX9_sixteens_59 : decode cX9_sixteens 59 = .ok (.invokevirtual 14, 3) := by decide +kernel
theorem dX9_sixteens_62 : decode cX9_sixteens 62 = .ok (.invokestatic 33, 3) := by decide +kernel
theorem dX9_sixteens_65 : decode cX9_sixteens 65 = .ok (.istore 5, 2) := by decide +kernel
theorem dX9_sixteens_67 : decode cX9_sixteens 67 = .ok (.iload 6, 2) := by decide +kernel
theorem dX9_sixteens_69 : decode cX9_sixteens 69 = .ok (.aload_n 0, 1) := by decide +kernel
theorem dX9_sixteens_70 : decode cX9_sixteens 70 = .ok (.iload 7, 2) := by decide +kernel
theorem dX9_sixteens_72 : decode cX9_sixteens 72 = .ok (.bipush 12, 2) := by decide +kernel
theorem dX9_sixteens_74 : decode cX9_sixteens 74 = .ok (.iadd, 1) := by decide +kernel
theorem dX9_sixteens_75 : decode cX9_sixteens 75 = .ok (.invokevirtual 14, 3) := by decide +kernel
theorem dX9_sixteens_78 : decode cX9_sixteens 78 = .ok (.invokestatic 33, 3) := by decide +kernel
theorem dX9_sixteens_81 : decode cX9_sixteens 81 = .ok (.istore 6, 2) := by decide +kernel
theorem dX9_sixteens_83 : decode cX9_sixteens 83 = .ok (.iinc 7 16, 3) := by decide +kernel
theorem dX9_sixteens_86 : decode cX9_sixteens 86 = .ok (.goto (-69), 3) := by decide +kernel
theorem dX9_sixteens_89 : decode cX9_sixteens 89 = .ok (.iload_n 3, 1) := by decide +kernel
theorem dX9_sixteens_90 : decode cX9_sixteens 90 = .ok (.iconst 1, 1) := by decide +kernel
theorem dX9_sixteens_91 : decode cX9_sixteens 91 = .ok (.invokestatic 21, 3) := by decide +kernel
theorem dX9_sixteens_94 : decode cX9_sixteens 94 = .ok (.iload 4, 2) := by decide +kernel
theorem dX9_sixteens_96 : decode cX9_sixteens 96 = .ok (.bipush 7, 2) := by decide +kernel
theorem dX9_sixteens_98 : decode cX9_sixteens 98 = .ok (.invokestatic 21, 3) := by decide +kernel
theorem dX9_sixteens_101 : decode cX9_sixteens 101 = .ok (.iadd, 1) := by decide +kernel
theorem dX9_sixteens_102 : decode cX9_sixteens 102 = .ok (.iload 5, 2) := by decide +kernel
theorem dX9_sixteens_104 : decode cX9_sixteens 104 = .ok (.bipush 12, 2) := by decide +kernel
theorem dX9_sixteens_106 : decode cX9_sixteens 106 = .ok (.invokestatic 21, 3) := by decide +kernel
theorem dX9_sixteens_109 : decode cX9_sixteens 109 = .ok (.iadd, 1) := by decide +kernel
theorem dX9_sixteens_110 : decode cX9_sixteens 110 = .ok (.iload 6, 2) := by decide +kernel
theorem dX9_sixteens_112 : decode cX9_sixteens 112 = .ok (.bipush 18, 2) := by decide +kernel
theorem dX9_sixteens_114 : decode cX9_sixteens 114 = .ok (.invokestatic 21, 3) := by decide +kernel
theorem dX9_sixteens_117 : decode cX9_sixteens 117 = .ok (.iadd, 1) := by decide +kernel
theorem dX9_sixteens_118 : decode cX9_sixteens 118 = .ok (.ireturn, 1) := by decide +kernel
def m_Sums_sixteens_E89 (j3_1 : Int32) (j4_2 : Int32) (j5_3 : Int32) (j6_4 : Int32) : Option (Int32) :=
  (m_Sums_turned j3_1 (1 : Int32)).bind fun r5 =>
  (m_Sums_turned j4_2 (7 : Int32)).bind fun r6 =>
  (m_Sums_turned j5_3 (12 : Int32)).bind fun r7 =>
  (m_Sums_turned j6_4 (18 : Int32)).bind fun r8 =>
  some (((r5 + r6) + r7) + r8)
def m_Sums_sixteens_B17 (a1 : Int32) (a2 : Int32) (h0_count : Int32) (h0_held_n : Nat) (h0_held_f : Nat → Int32) (j3_9 : Int32) (j4_10 : Int32) (j5_11 : Int32) (j6_12 : Int32) (j7_13 : Int32) : Option ((Int32 × Int32 × Int32 × Int32 × Int32) ⊕ ((Int32 × Int32 × Int32 × Int32))) :=
  if (a1 + a2) ≤ j7_13 then
    some (.inr (j3_9, j4_10, j5_11, j6_12))
  else
    (m_Bytes_number32 j7_13 h0_count h0_held_n h0_held_f).bind fun r14 =>
    (m_Sums_mixed j3_9 r14).bind fun r15 =>
    (m_Bytes_number32 (j7_13 + (4 : Int32)) h0_count h0_held_n h0_held_f).bind fun r16 =>
    (m_Sums_mixed j4_10 r16).bind fun r17 =>
    (m_Bytes_number32 (j7_13 + (8 : Int32)) h0_count h0_held_n h0_held_f).bind fun r18 =>
    (m_Sums_mixed j5_11 r18).bind fun r19 =>
    (m_Bytes_number32 (j7_13 + (12 : Int32)) h0_count h0_held_n h0_held_f).bind fun r20 =>
    (m_Sums_mixed j6_12 r20).bind fun r21 =>
    bnd (j7_13 + (16 : Int32)) fun v7_22 =>
    some (.inl (r15, r17, r19, r21, v7_22))
def m_Sums_sixteens (a1 : Int32) (a2 : Int32) (h0_count : Int32) (h0_held_n : Nat) (h0_held_f : Nat → Int32) : Option (Int32) :=
  (iter (fun st => m_Sums_sixteens_B17 a1 a2 h0_count h0_held_n h0_held_f st.1 st.2.1 st.2.2.1 st.2.2.2.1 st.2.2.2.2) FU ((606290984 : Int32), (-2048144777 : Int32), (0 : Int32), (1640531535 : Int32), a1)).bind fun o => m_Sums_sixteens_E89 o.1 o.2.1 o.2.2.1 o.2.2.2
def rm_Sums_sixteens : Room := { frames := 1, cells := 0, slots := 0, locals := 22 }
set_option maxHeartbeats 4000000 in
set_option maxRecDepth 100000 in
theorem c_Sums_sixteens {l : Launch} {dC : Nat → ClassId} {dI : Nat → Nat → Nat} {cB cI : ClassId} {sz : Nat} {h0 : Nat} {a1 : Int32} {a2 : Int32} {h0_held : Nat} {h0_count : Int32} {h0_held_n : Nat} {h0_held_f : Nat → Int32} {o_r : Int32} (hf : m_Sums_sixteens a1 a2 h0_count h0_held_n h0_held_f = some o_r) : Met l yX9_sixteens (Cond.code yX9_sixteens cX9_sixteens 8 (some .int) :: lw_G) rm_Sums_sixteens (PreC (dC, dI) [(cB, .byte), (cI, .int)] [.ref h0, .int a1, .int a2] sz [(h0, .inr (2, [.ref h0_held, .int h0_count])), (h0_held, .inl (cB, h0_held_n, .inl h0_held_f))]) (QcI o_r (dC, dI) [(h0, .inr (2, [.ref h0_held, .int h0_count])), (h0_held, .inl (cB, h0_held_n, .inl h0_held_f))] (va_A [(h0, .inr (2, [.ref h0_held, .int h0_count])), (h0_held, .inl (cB, h0_held_n, .inl h0_held_f))] sz)) 0 0 (va_A [(h0, .inr (2, [.ref h0_held, .int h0_count])), (h0_held, .inl (cB, h0_held_n, .inl h0_held_f))] sz) := by
  refine met_of (Qf := fun A => QcI o_r (dC, dI) [(h0, .inr (2, [.ref h0_held, .int h0_count])), (h0_held, .inl (cB, h0_held_n, .inl h0_held_f))] A) (by decide) (Nat.le_of_ble_eq_true rfl) ?_
  intro p e s m below meth c A ls Q hx hb hr hml hown hts hlocks hnm hP hK hD hN hT hA hl hQ
  have hown : s.vm.findClass RX9 = some m.cls := hown
  have hS : va_S A s.heap s.heap [] := va_S.rf
  have hl : lv_has ls 8 [(0, .ref h0), (1, .int a1), (2, .int a2)] := hl
  unfold m_Sums_sixteens at hf
  refine lv_ldc hx hb hown (hts _ kw_753) dX9_sixteens_0 ?_
  refine lv_istore_n (lv' := [(3, .int (606290984 : Int32)), (0, .ref h0), (1, .int a1), (2, .int a2)]) hx hb dX9_sixteens_2 rfl hl (by decide) rfl (fun ls hl => ?_)
  refine lv_ldc hx hb hown (hts _ kw_754) dX9_sixteens_3 ?_
  refine lv_istore (lv' := [(4, .int (-2048144777 : Int32)), (3, .int (606290984 : Int32)), (0, .ref h0), (1, .int a1), (2, .int a2)]) hx hb dX9_sixteens_5 hl (by decide) rfl (fun ls hl => ?_)
  refine lv_iconst (v := 0) hx hb dX9_sixteens_7 (by decide) ?_
  refine lv_istore (lv' := [(5, .int (0 : Int32)), (4, .int (-2048144777 : Int32)), (3, .int (606290984 : Int32)), (0, .ref h0), (1, .int a1), (2, .int a2)]) hx hb dX9_sixteens_8 hl (by decide) rfl (fun ls hl => ?_)
  refine lv_ldc hx hb hown (hts _ kw_755) dX9_sixteens_10 ?_
  refine lv_istore (lv' := [(6, .int (1640531535 : Int32)), (5, .int (0 : Int32)), (4, .int (-2048144777 : Int32)), (3, .int (606290984 : Int32)), (0, .ref h0), (1, .int a1), (2, .int a2)]) hx hb dX9_sixteens_12 hl (by decide) rfl (fun ls hl => ?_)
  refine lv_iload_n hx hb dX9_sixteens_14 rfl (lv_at hl 5 rfl) ?_
  refine lv_istore (lv' := [(7, .int a1), (6, .int (1640531535 : Int32)), (5, .int (0 : Int32)), (4, .int (-2048144777 : Int32)), (3, .int (606290984 : Int32)), (0, .ref h0), (1, .int a1), (2, .int a2)]) hx hb dX9_sixteens_15 hl (by decide) rfl (fun ls hl => ?_)
  have hJ_89 : ∀ (j3_1 : Int32) (j4_2 : Int32) (j5_3 : Int32) (j6_4 : Int32) (H : Heap) (locs : List Loc) (ls : Array Slot), m_Sums_sixteens_E89 j3_1 j4_2 j5_3 j6_4 = some o_r → va_P (dC, dI) vwCl [(h0, .inr (2, [.ref h0_held, .int h0_count])), (h0_held, .inl (cB, h0_held_n, .inl h0_held_f))] H → va_D A [(h0, .inr (2, [.ref h0_held, .int h0_count])), (h0_held, .inl (cB, h0_held_n, .inl h0_held_f))] → va_S A s.heap H locs → lv_has ls 8 [(3, .int j3_1), (4, .int j4_2), (5, .int j5_3), (6, .int j6_4)] → W p l e (rm_Sums_sixteens) s m ([.ref h0, .int a1, .int a2] : List Value).toArray below meth c H locs 0 0 Q (F0 m 89 ls []) := by
    intro j3_1 j4_2 j5_3 j6_4 H locs ls hf hP hD hS hl
    unfold m_Sums_sixteens_E89 at hf
    refine lv_iload_n hx hb dX9_sixteens_89 rfl (lv_at hl 0 rfl) ?_
    refine lv_iconst (v := 1) hx hb dX9_sixteens_90 (by decide) ?_
    obtain ⟨r5, hc, hf⟩ := bind_some hf
    refine nx_i (rn_S (As := [.int j3_1, .int (1 : Int32)]) (rest := []) (n := 2) ⟨hx, hb, hml, hown, hts⟩ (c_Sums_turned (l := l) (dC := dC) (dI := dI) (cB := cB) (cI := cI) (a0 := j3_1) (a1 := (1 : Int32))  (o_r := r5) hc) (wS kw_764 kw_765 kw_97 kw_766) (by decide +kernel) ⟨Nat.le_of_ble_eq_true rfl, Nat.le_of_ble_eq_true rfl⟩ hK hP hD hN hT hS (va_free (wc := []) hD hS hA [] rfl) [] rfl (by decide) rfl hl.1 rfl (lv_room (Nat.le_of_ble_eq_true rfl)) dX9_sixteens_91 ⟨Nat.le_of_ble_eq_true rfl, Nat.le_of_ble_eq_true rfl⟩) hP hD hS hA (wr := [(h0, .inr (2, [.ref h0_held, .int h0_count])), (h0_held, .inl (cB, h0_held_n, .inl h0_held_f))]) (w1 := []) (ws' := [(h0, .inr (2, [.ref h0_held, .int h0_count])), (h0_held, .inl (cB, h0_held_n, .inl h0_held_f))]) [] [0, 1] [0, 1] rfl rfl (by decide) (by decide) rfl (by decide) (fun H locs hP hD hS => ?_)
    refine lv_iload hx hb dX9_sixteens_94 (lv_at hl 1 rfl) ?_
    refine lv_bipush (v := 7) hx hb dX9_sixteens_96 (by decide) ?_
    obtain ⟨r6, hc, hf⟩ := bind_some hf
    refine nx_i (rn_S (As := [.int j4_2, .int (7 : Int32)]) (rest := [.int r5]) (n := 2) ⟨hx, hb, hml, hown, hts⟩ (c_Sums_turned (l := l) (dC := dC) (dI := dI) (cB := cB) (cI := cI) (a0 := j4_2) (a1 := (7 : Int32))  (o_r := r6) hc) (wS kw_764 kw_765 kw_97 kw_766) (by decide +kernel) ⟨Nat.le_of_ble_eq_true rfl, Nat.le_of_ble_eq_true rfl⟩ hK hP hD hN hT hS (va_free (wc := []) hD hS hA [] rfl) [] rfl (by decide) rfl hl.1 rfl (lv_room (Nat.le_of_ble_eq_true rfl)) dX9_sixteens_98 ⟨Nat.le_of_ble_eq_true rfl, Nat.le_of_ble_eq_true rfl⟩) hP hD hS hA (wr := [(h0, .inr (2, [.ref h0_held, .int h0_count])), (h0_held, .inl (cB, h0_held_n, .inl h0_held_f))]) (w1 := []) (ws' := [(h0, .inr (2, [.ref h0_held, .int h0_count])), (h0_held, .inl (cB, h0_held_n, .inl h0_held_f))]) [] [0, 1] [0, 1] rfl rfl (by decide) (by decide) rfl (by decide) (fun H locs hP hD hS => ?_)
    refine lv_iadd hx hb dX9_sixteens_101 ?_
    refine lv_iload hx hb dX9_sixteens_102 (lv_at hl 2 rfl) ?_
    refine lv_bipush (v := 12) hx hb dX9_sixteens_104 (by decide) ?_
    obtain ⟨r7, hc, hf⟩ := bind_some hf
    refine nx_i (rn_S (As := [.int j5_3, .int (12 : Int32)]) (rest := [.int (r5 + r6)]) (n := 2) ⟨hx, hb, hml, hown, hts⟩ (c_Sums_turned (l := l) (dC := dC) (dI := dI) (cB := cB) (cI := cI) (a0 := j5_3) (a1 := (12 : Int32))  (o_r := r7) hc) (wS kw_764 kw_765 kw_97 kw_766) (by decide +kernel) ⟨Nat.le_of_ble_eq_true rfl, Nat.le_of_ble_eq_true rfl⟩ hK hP hD hN hT hS (va_free (wc := []) hD hS hA [] rfl) [] rfl (by decide) rfl hl.1 rfl (lv_room (Nat.le_of_ble_eq_true rfl)) dX9_sixteens_106 ⟨Nat.le_of_ble_eq_true rfl, Nat.le_of_ble_eq_true rfl⟩) hP hD hS hA (wr := [(h0, .inr (2, [.ref h0_held, .int h0_count])), (h0_held, .inl (cB, h0_held_n, .inl h0_held_f))]) (w1 := []) (ws' := [(h0, .inr (2, [.ref h0_held, .int h0_count])), (h0_held, .inl (cB, h0_held_n, .inl h0_held_f))]) [] [0, 1] [0, 1] rfl rfl (by decide) (by decide) rfl (by decide) (fun H locs hP hD hS => ?_)
    refine lv_iadd hx hb dX9_sixteens_109 ?_
    refine lv_iload hx hb dX9_sixteens_110 (lv_at hl 3 rfl) ?_
    refine lv_bipush (v := 18) hx hb dX9_sixteens_112 (by decide) ?_
    obtain ⟨r8, hc, hf⟩ := bind_some hf
    refine nx_i (rn_S (As := [.int j6_4, .int (18 : Int32)]) (rest := [.int ((r5 + r6) + r7)]) (n := 2) ⟨hx, hb, hml, hown, hts⟩ (c_Sums_turned (l := l) (dC := dC) (dI := dI) (cB := cB) (cI := cI) (a0 := j6_4) (a1 := (18 : Int32))  (o_r := r8) hc) (wS kw_764 kw_765 kw_97 kw_766) (by decide +kernel) ⟨Nat.le_of_ble_eq_true rfl, Nat.le_of_ble_eq_true rfl⟩ hK hP hD hN hT hS (va_free (wc := []) hD hS hA [] rfl) [] rfl (by decide) rfl hl.1 rfl (lv_room (Nat.le_of_ble_eq_true rfl)) dX9_sixteens_114 ⟨Nat.le_of_ble_eq_true rfl, Nat.le_of_ble_eq_true rfl⟩) hP hD hS hA (wr := [(h0, .inr (2, [.ref h0_held, .int h0_count])), (h0_held, .inl (cB, h0_held_n, .inl h0_held_f))]) (w1 := []) (ws' := [(h0, .inr (2, [.ref h0_held, .int h0_count])), (h0_held, .inl (cB, h0_held_n, .inl h0_held_f))]) [] [0, 1] [0, 1] rfl rfl (by decide) (by decide) rfl (by decide) (fun H locs hP hD hS => ?_)
    refine lv_iadd hx hb dX9_sixteens_117 ?_
    obtain rfl := Option.some.inj hf
    exact rt_i hQ hx hb hr hlocks hP hD hS dX9_sixteens_118
  obtain ⟨o_17, hi_17, hk_17⟩ := bind_some hf
  have hL_17 : ∀ (n : Nat) (j3_9 : Int32) (j4_10 : Int32) (j5_11 : Int32) (j6_12 : Int32) (j7_13 : Int32) (H : Heap) (locs : List Loc) (ls : Array Slot), iter (fun st => m_Sums_sixteens_B17 a1 a2 h0_count h0_held_n h0_held_f st.1 st.2.1 st.2.2.1 st.2.2.2.1 st.2.2.2.2) n (j3_9, j4_10, j5_11, j6_12, j7_13) = some o_17 → va_P (dC, dI) vwCl [(h0, .inr (2, [.ref h0_held, .int h0_count])), (h0_held, .inl (cB, h0_held_n, .inl h0_held_f))] H → va_D A [(h0, .inr (2, [.ref h0_held, .int h0_count])), (h0_held, .inl (cB, h0_held_n, .inl h0_held_f))] → va_S A s.heap H locs → lv_has ls 8 [(0, .ref h0), (1, .int a1), (2, .int a2), (3, .int j3_9), (4, .int j4_10), (5, .int j5_11), (6, .int j6_12), (7, .int j7_13)] → W p l e (rm_Sums_sixteens) s m ([.ref h0, .int a1, .int a2] : List Value).toArray below meth c H locs 0 0 Q (F0 m 17 ls []) := by
    intro n
    induction n with
    | zero => intro j3_9 j4_10 j5_11 j6_12 j7_13 H locs ls hf; exact absurd hf (fun z => by cases z)
    | succ n ih_17 =>
      intro j3_9 j4_10 j5_11 j6_12 j7_13 H locs ls hf hP hD hS hl
      obtain ⟨r_17, hf, hr_17⟩ := iter_succ hf
      have hf : m_Sums_sixteens_B17 a1 a2 h0_count h0_held_n h0_held_f j3_9 j4_10 j5_11 j6_12 j7_13 = some r_17 := hf
      unfold m_Sums_sixteens_B17 at hf
      refine lv_iload hx hb dX9_sixteens_17 (lv_at hl 7 rfl) ?_
      refine lv_iload_n hx hb dX9_sixteens_19 rfl (lv_at hl 1 rfl) ?_
      refine lv_iload_n hx hb dX9_sixteens_20 rfl (lv_at hl 2 rfl) ?_
      refine lv_iadd hx hb dX9_sixteens_21 ?_
      refine lv_icmp_ge (tgt := 89) hx hb dX9_sixteens_22 (by decide) (fun c_22 => ?_) (fun c_22 => ?_)
      · replace hf := if_t c_22 hf
        have hf : m_Sums_sixteens_E89 j3_9 j4_10 j5_11 j6_12 = some o_r := by have hq := hk_17; rw [iter_exit hf hr_17] at hq; exact hq
        exact hJ_89 j3_9 j4_10 j5_11 j6_12 _ _ _ hf hP hD hS (lv_sub hl [3, 4, 5, 6] rfl)
      · replace hf := if_f c_22 hf
        refine lv_iload_n hx hb dX9_sixteens_25 rfl (lv_at hl 3 rfl) ?_
        refine lv_aload_n hx hb dX9_sixteens_26 rfl (lv_at hl 0 rfl) ?_
        refine lv_iload hx hb dX9_sixteens_27 (lv_at hl 7 rfl) ?_
        obtain ⟨r14, hc, hf⟩ := bind_some hf
        refine nx_i (rn_V (As := [.int j7_13]) (rest := [.int j3_9]) (n := 1) (ci := 2) (q0 := 0) ⟨hx, hb, hml, hown, hts⟩ (c_Bytes_number32 (l := l) (dC := dC) (dI := dI) (cB := cB) (cI := cI) (h0 := h0) (a1 := j7_13) (h0_held := h0_held) (h0_count := h0_count) (h0_held_n := h0_held_n) (h0_held_f := h0_held_f)  (o_r := r14) hc) (wV kw_756 kw_757 kw_758 kw_83 kw_759) (by decide +kernel) ⟨Nat.le_of_ble_eq_true rfl, Nat.le_of_ble_eq_true rfl⟩ hK hP hD hN hT hS (va_free (wc := [(h0, .inr (2, [.ref h0_held, .int h0_count])), (h0_held, .inl (cB, h0_held_n, .inl h0_held_f))]) hD hS hA [0, 1] rfl) [0, 1] rfl (by decide) rfl rfl rfl hl.1 rfl (lv_room (Nat.le_of_ble_eq_true rfl)) dX9_sixteens_29 ⟨Nat.le_of_ble_eq_true rfl, Nat.le_of_ble_eq_true rfl⟩) hP hD hS hA (wr := []) (w1 := [(h0, .inr (2, [.ref h0_held, .int h0_count])), (h0_held, .inl (cB, h0_held_n, .inl h0_held_f))]) (ws' := [(h0, .inr (2, [.ref h0_held, .int h0_count])), (h0_held, .inl (cB, h0_held_n, .inl h0_held_f))]) [0, 1] [] [0, 1] rfl rfl (by decide) (by decide) rfl (by decide) (fun H locs hP hD hS => ?_)
        obtain ⟨r15, hc, hf⟩ := bind_some hf
        refine nx_i (rn_S (As := [.int j3_9, .int r14]) (rest := []) (n := 2) ⟨hx, hb, hml, hown, hts⟩ (c_Sums_mixed (l := l) (dC := dC) (dI := dI) (cB := cB) (cI := cI) (a0 := j3_9) (a1 := r14)  (o_r := r15) hc) (wS kw_760 kw_761 kw_97 kw_762) (by decide +kernel) ⟨Nat.le_of_ble_eq_true rfl, Nat.le_of_ble_eq_true rfl⟩ hK hP hD hN hT hS (va_free (wc := []) hD hS hA [] rfl) [] rfl (by decide) rfl hl.1 rfl (lv_room (Nat.le_of_ble_eq_true rfl)) dX9_sixteens_32 ⟨Nat.le_of_ble_eq_true rfl, Nat.le_of_ble_eq_true rfl⟩) hP hD hS hA (wr := [(h0, .inr (2, [.ref h0_held, .int h0_count])), (h0_held, .inl (cB, h0_held_n, .inl h0_held_f))]) (w1 := []) (ws' := [(h0, .inr (2, [.ref h0_held, .int h0_count])), (h0_held, .inl (cB, h0_held_n, .inl h0_held_f))]) [] [0, 1] [0, 1] rfl rfl (by decide) (by decide) rfl (by decide) (fun H locs hP hD hS => ?_)
        refine lv_istore_n (lv' := [(3, .int r15), (0, .ref h0), (1, .int a1), (2, .int a2), (4, .int j4_10), (5, .int j5_11), (6, .int j6_12), (7, .int j7_13)]) hx hb dX9_sixteens_35 rfl hl (by decide) rfl (fun ls hl => ?_)
        refine lv_iload hx hb dX9_sixteens_36 (lv_at hl 4 rfl) ?_
        refine lv_aload_n hx hb dX9_sixteens_38 rfl (lv_at hl 1 rfl) ?_
        refine lv_iload hx hb dX9_sixteens_39 (lv_at hl 7 rfl) ?_
        refine lv_iconst (v := 4) hx hb dX9_sixteens_41 (by decide) ?_
        refine lv_iadd hx hb dX9_sixteens_42 ?_
        obtain ⟨r16, hc, hf⟩ := bind_some hf
        refine nx_i (rn_V (As := [.int (j7_13 + (4 : Int32))]) (rest := [.int j4_10]) (n := 1) (ci := 2) (q0 := 0) ⟨hx, hb, hml, hown, hts⟩ (c_Bytes_number32 (l := l) (dC := dC) (dI := dI) (cB := cB) (cI := cI) (h0 := h0) (a1 := (j7_13 + (4 : Int32))) (h0_held := h0_held) (h0_count := h0_count) (h0_held_n := h0_held_n) (h0_held_f := h0_held_f)  (o_r := r16) hc) (wV kw_756 kw_757 kw_758 kw_83 kw_759) (by decide +kernel) ⟨Nat.le_of_ble_eq_true rfl, Nat.le_of_ble_eq_true rfl⟩ hK hP hD hN hT hS (va_free (wc := [(h0, .inr (2, [.ref h0_held, .int h0_count])), (h0_held, .inl (cB, h0_held_n, .inl h0_held_f))]) hD hS hA [0, 1] rfl) [0, 1] rfl (by decide) rfl rfl rfl hl.1 rfl (lv_room (Nat.le_of_ble_eq_true rfl)) dX9_sixteens_43 ⟨Nat.le_of_ble_eq_true rfl, Nat.le_of_ble_eq_true rfl⟩) hP hD hS hA (wr := []) (w1 := [(h0, .inr (2, [.ref h0_held, .int h0_count])), (h0_held, .inl (cB, h0_held_n, .inl h0_held_f))]) (ws' := [(h0, .inr (2, [.ref h0_held, .int h0_count])), (h0_held, .inl (cB, h0_held_n, .inl h0_held_f))]) [0, 1] [] [0, 1] rfl rfl (by decide) (by decide) rfl (by decide) (fun H locs hP hD hS => ?_)
        obtain ⟨r17, hc, hf⟩ := bind_some hf
        refine nx_i (rn_S (As := [.int j4_10, .int r16]) (rest := []) (n := 2) ⟨hx, hb, hml, hown, hts⟩ (c_Sums_mixed (l := l) (dC := dC) (dI := dI) (cB := cB) (cI := cI) (a0 := j4_10) (a1 := r16)  (o_r := r17) hc) (wS kw_760 kw_761 kw_97 kw_762) (by decide +kernel) ⟨Nat.le_of_ble_eq_true rfl, Nat.le_of_ble_eq_true rfl⟩ hK hP hD hN hT hS (va_free (wc := []) hD hS hA [] rfl) [] rfl (by decide) rfl hl.1 rfl (lv_room (Nat.le_of_ble_eq_true rfl)) dX9_sixteens_46 ⟨Nat.le_of_ble_eq_true rfl, Nat.le_of_ble_eq_true rfl⟩) hP hD hS hA (wr := [(h0, .inr (2, [.ref h0_held, .int h0_count])), (h0_held, .inl (cB, h0_held_n, .inl h0_held_f))]) (w1 := []) (ws' := [(h0, .inr (2, [.ref h0_held, .int h0_count])), (h0_held, .inl (cB, h0_held_n, .inl h0_held_f))]) [] [0, 1] [0, 1] rfl rfl (by decide) (by decide) rfl (by decide) (fun H locs hP hD hS => ?_)
        refine lv_istore (lv' := [(4, .int r17), (3, .int r15), (0, .ref h0), (1, .int a1), (2, .int a2), (5, .int j5_11), (6, .int j6_12), (7, .int j7_13)]) hx hb dX9_sixteens_49 hl (by decide) rfl (fun ls hl => ?_)
        refine lv_iload hx hb dX9_sixteens_51 (lv_at hl 5 rfl) ?_
        refine lv_aload_n hx hb dX9_sixteens_53 rfl (lv_at hl 2 rfl) ?_
        refine lv_iload hx hb dX9_sixteens_54 (lv_at hl 7 rfl) ?_
        refine lv_bipush (v := 8) hx hb dX9_sixteens_56 (by decide) ?_
        refine lv_iadd hx hb dX9_sixteens_58 ?_
        obtain ⟨r18, hc, hf⟩ := bind_some hf
        refine nx_i (rn_V (As := [.int (j7_13 + (8 : Int32))]) (rest := [.int j5_11]) (n := 1) (ci := 2) (q0 := 0) ⟨hx, hb, hml, hown, hts⟩ (c_Bytes_number32 (l := l) (dC := dC) (dI := dI) (cB := cB) (cI := cI) (h0 := h0) (a1 := (j7_13 + (8 : Int32))) (h0_held := h0_held) (h0_count := h0_count) (h0_held_n := h0_held_n) (h0_held_f := h0_held_f)  (o_r := r18) hc) (wV kw_756 kw_757 kw_758 kw_83 kw_759) (by decide +kernel) ⟨Nat.le_of_ble_eq_true rfl, Nat.le_of_ble_eq_true rfl⟩ hK hP hD hN hT hS (va_free (wc := [(h0, .inr (2, [.ref h0_held, .int h0_count])), (h0_held, .inl (cB, h0_held_n, .inl h0_held_f))]) hD hS hA [0, 1] rfl) [0, 1] rfl (by decide) rfl rfl rfl hl.1 rfl (lv_room (Nat.le_of_ble_eq_true rfl)) dX9_sixteens_59 ⟨Nat.le_of_ble_eq_true rfl, Nat.le_of_ble_eq_true rfl⟩) hP hD hS hA (wr := []) (w1 := [(h0, .inr (2, [.ref h0_held, .int h0_count])), (h0_held, .inl (cB, h0_held_n, .inl h0_held_f))]) (ws' := [(h0, .inr (2, [.ref h0_held, .int h0_count])), (h0_held, .inl (cB, h0_held_n, .inl h0_held_f))]) [0, 1] [] [0, 1] rfl rfl (by decide) (by decide) rfl (by decide) (fun H locs hP hD hS => ?_)
        obtain ⟨r19, hc, hf⟩ := bind_some hf
        refine nx_i (rn_S (As := [.int j5_11, .int r18]) (rest := []) (n := 2) ⟨hx, hb, hml, hown, hts⟩ (c_Sums_mixed (l := l) (dC := dC) (dI := dI) (cB := cB) (cI := cI) (a0 := j5_11) (a1 := r18)  (o_r := r19) hc) (wS kw_760 kw_761 kw_97 kw_762) (by decide +kernel) ⟨Nat.le_of_ble_eq_true rfl, Nat.le_of_ble_eq_true rfl⟩ hK hP hD hN hT hS (va_free (wc := []) hD hS hA [] rfl) [] rfl (by decide) rfl hl.1 rfl (lv_room (Nat.le_of_ble_eq_true rfl)) dX9_sixteens_62 ⟨Nat.le_of_ble_eq_true rfl, Nat.le_of_ble_eq_true rfl⟩) hP hD hS hA (wr := [(h0, .inr (2, [.ref h0_held, .int h0_count])), (h0_held, .inl (cB, h0_held_n, .inl h0_held_f))]) (w1 := []) (ws' := [(h0, .inr (2, [.ref h0_held, .int h0_count])), (h0_held, .inl (cB, h0_held_n, .inl h0_held_f))]) [] [0, 1] [0, 1] rfl rfl (by decide) (by decide) rfl (by decide) (fun H locs hP hD hS => ?_)
        refine lv_istore (lv' := [(5, .int r19), (4, .int r17), (3, .int r15), (0, .ref h0), (1, .int a1), (2, .int a2), (6, .int j6_12), (7, .int j7_13)]) hx hb dX9_sixteens_65 hl (by decide) rfl (fun ls hl => ?_)
        refine lv_iload hx hb dX9_sixteens_67 (lv_at hl 6 rfl) ?_
        refine lv_aload_n hx hb dX9_sixteens_69 rfl (lv_at hl 3 rfl) ?_
        refine lv_iload hx hb dX9_sixteens_70 (lv_at hl 7 rfl) ?_
        refine lv_bipush (v := 12) hx hb dX9_sixteens_72 (by decide) ?_
        refine lv_iadd hx hb dX9_sixteens_74 ?_
        obtain ⟨r20, hc, hf⟩ := bind_some hf
        refine nx_i (rn_V (As := [.int (j7_13 + (12 : Int32))]) (rest := [.int j6_12]) (n := 1) (ci := 2) (q0 := 0) ⟨hx, hb, hml, hown, hts⟩ (c_Bytes_number32 (l := l) (dC := dC) (dI := dI) (cB := cB) (cI := cI) (h0 := h0) (a1 := (j7_13 + (12 : Int32))) (h0_held := h0_held) (h0_count := h0_count) (h0_held_n := h0_held_n) (h0_held_f := h0_held_f)  (o_r := r20) hc) (wV kw_756 kw_757 kw_758 kw_83 kw_759) (by decide +kernel) ⟨Nat.le_of_ble_eq_true rfl, Nat.le_of_ble_eq_true rfl⟩ hK hP hD hN hT hS (va_free (wc := [(h0, .inr (2, [.ref h0_held, .int h0_count])), (h0_held, .inl (cB, h0_held_n, .inl h0_held_f))]) hD hS hA [0, 1] rfl) [0, 1] rfl (by decide) rfl rfl rfl hl.1 rfl (lv_room (Nat.le_of_ble_eq_true rfl)) dX9_sixteens_75 ⟨Nat.le_of_ble_eq_true rfl, Nat.le_of_ble_eq_true rfl⟩) hP hD hS hA (wr := []) (w1 := [(h0, .inr (2, [.ref h0_held, .int h0_count])), (h0_held, .inl (cB, h0_held_n, .inl h0_held_f))]) (ws' := [(h0, .inr (2, [.ref h0_held, .int h0_count])), (h0_held, .inl (cB, h0_held_n, .inl h0_held_f))]) [0, 1] [] [0, 1] rfl rfl (by decide) (by decide) rfl (by decide) (fun H locs hP hD hS => ?_)
        obtain ⟨r21, hc, hf⟩ := bind_some hf
        refine nx_i (rn_S (As := [.int j6_12, .int r20]) (rest := []) (n := 2) ⟨hx, hb, hml, hown, hts⟩ (c_Sums_mixed (l := l) (dC := dC) (dI := dI) (cB := cB) (cI := cI) (a0 := j6_12) (a1 := r20)  (o_r := r21) hc) (wS kw_760 kw_761 kw_97 kw_762) (by decide +kernel) ⟨Nat.le_of_ble_eq_true rfl, Nat.le_of_ble_eq_true rfl⟩ hK hP hD hN hT hS (va_free (wc := []) hD hS hA [] rfl) [] rfl (by decide) rfl hl.1 rfl (lv_room (Nat.le_of_ble_eq_true rfl)) dX9_sixteens_78 ⟨Nat.le_of_ble_eq_true rfl, Nat.le_of_ble_eq_true rfl⟩) hP hD hS hA (wr := [(h0, .inr (2, [.ref h0_held, .int h0_count])), (h0_held, .inl (cB, h0_held_n, .inl h0_held_f))]) (w1 := []) (ws' := [(h0, .inr (2, [.ref h0_held, .int h0_count])), (h0_held, .inl (cB, h0_held_n, .inl h0_held_f))]) [] [0, 1] [0, 1] rfl rfl (by decide) (by decide) rfl (by decide) (fun H locs hP hD hS => ?_)
        refine lv_istore (lv' := [(6, .int r21), (5, .int r19), (4, .int r17), (3, .int r15), (0, .ref h0), (1, .int a1), (2, .int a2), (7, .int j7_13)]) hx hb dX9_sixteens_81 hl (by decide) rfl (fun ls hl => ?_)
        obtain ⟨v7_22, e_v7_22⟩ : ∃ y : Int32, y = (j7_13 + (16 : Int32)) := ⟨_, rfl⟩
        replace hf := bnd_at e_v7_22 hf
        refine lv_iinc (v := v7_22) (lv' := [(7, .int v7_22), (6, .int r21), (5, .int r19), (4, .int r17), (3, .int r15), (0, .ref h0), (1, .int a1), (2, .int a2)]) hx hb dX9_sixteens_83 hl (k := 7) rfl (by rw [e_v7_22]; rfl) (by decide) rfl (fun ls hl => ?_)
        refine lv_goto (tgt := 17) hx hb dX9_sixteens_86 (by decide) ?_
        exact ih_17 r15 r17 r19 r21 v7_22 _ _ _ (iter_back hf hr_17) hP hD hS (lv_sub hl [5, 6, 7, 4, 3, 2, 1, 0] rfl)
  exact hL_17 FU (606290984 : Int32) (-2048144777 : Int32) (0 : Int32) (1640531535 : Int32) a1 _ _ _ hi_17 hP hD hS (lv_sub hl [5, 6, 7, 4, 3, 2, 1, 0] rfl)

theorem dX9_sumOf_0 : decode cX9_sumOf 0 = .ok (.iload_n 2, 1) := by decide +kernel
theorem dX9_sumOf_1 : decode cX9_sumOf 1 = .ok (.bipush 16, 2) := by decide +kernel
theorem dX9_sumOf_3 : decode cX9_sumOf 3 = .ok (.if_icmp .lt 12, 3) := by decide +kernel
theorem dX9_sumOf_6 : decode cX9_sumOf 6 = .ok (.iload_n 2, 1) := by decide +kernel
theorem dX9_sumOf_7 : decode cX9_sumOf 7 = .ok (.iload_n 2, 1) := by decide +kernel
theorem dX9_sumOf_8 : decode cX9_sumOf 8 = .ok (.bipush 16, 2) := by decide +kernel
theorem dX9_sumOf_10 : decode cX9_sumOf 10 = .ok (.irem, 1) := by decide +kernel
theorem dX9_sumOf_11 : decode cX9_sumOf 11 = .ok (.isub, 1) := by decide +kernel
theorem dX9_sumOf_12 : decode cX9_sumOf 12 = .ok (.goto 4, 3) := by decide +kernel
theorem dX9_sumOf_15 : decode cX9_sumOf 15 = .ok (.iconst 0, 1) := by decide +kernel
theorem dX9_sumOf_16 : decode cX9_sumOf 16 = .ok (.istore_n 3, 1) := by decide +kernel
theorem dX9_sumOf_17 : decode cX9_sumOf 17 = .ok (.iload_n 3, 1) := by decide +kernel
theorem dX9_sumOf_18 : decode cX9_sumOf 18 = .ok (.ifCond .le 12, 3) := by decide +kernel
theorem dX9_sumOf_21 : decode cX9_sumOf 21 = .ok (.aload_n 0, 1) := by decide +kernel
theorem dX9_sumOf_22 : decode cX9_sumOf 22 = .ok (.iload_n 1, 1) := by decide +kernel
theorem dX9_sumOf_23 : decode cX9_sumOf 23 = .ok (.iload_n 3, 1) := by decide +kernel
theorem dX9_sumOf_24 : decode cX9_sumOf 24 = .ok (.invokestatic 7, 3) := by decide +kernel
theorem dX9_sumOf_27 : decode cX9_sumOf 27 = .ok (.goto 5, 3) := by decide +kernel
theorem dX9_sumOf_30 : decode cX9_sumOf 30 = .ok (.ldc 13, 2) := by decide +kernel
theorem dX9_sumOf_32 : decode cX9_sumOf 32 = .ok (.iload_n 2, 1) := by decide +kernel
theorem dX9_sumOf_33 : decode cX9_sumOf 33 = .ok (.iadd, 1) := by decide +kernel
theorem dX9_sumOf_34 : decode cX9_sumOf 34 = .ok (.istore 4, 2) := by decide +kernel
theorem dX9_sumOf_36 : decode cX9_sumOf 36 = .ok (.iload_n 1, 1) := by decide +kernel
theorem dX9_sumOf_37 : decode cX9_sumOf 37 = .ok (.iload_n 3, 1) := by decide +kernel
theorem dX9_sumOf_38 : decode cX9_sumOf 38 = .ok (.iadd, 1) := by decide +kernel
theorem dX9_sumOf_39 : decode cX9_sumOf 39 = .ok (.istore 5, 2) := by decide +kernel
theorem dX9_sumOf_41 : decode cX9_sumOf 41 = .ok (.iload_n 1, 1) := by decide +kernel
theorem dX9_sumOf_42 : decode cX9_sumOf 42 = .ok (.iload_n 2, 1) := by decide +kernel
theorem dX9_sumOf_43 : decode cX9_sumOf 43 = .ok (.iadd, 1) := by decide +kernel
theorem dX9_sumOf_44 : decode cX9_sumOf 44 = .ok (.istore 6, 2) := by decide +kernel
theorem dX9_sumOf_46 : decode cX9_sumOf 46 = .ok (.iload 6, 2) := by decide +kernel
theorem dX9_sumOf_48 : decode cX9_sumOf 48 = .ok (.iload 5, 2) := by decide +kernel
theorem dX9_sumOf_50 : decode cX9_sumOf 50 = .ok (.isub, 1) := by decide +kernel
theorem dX9_sumOf_51 : decode cX9_sumOf 51 = .ok (.iconst 4, 1) := by decide +kernel
theorem dX9_sumOf_52 : decode cX9_sumOf 52 = .ok (.if_icmp .lt 31, 3) := by decide +kernel
theorem dX9_sumOf_55 : decode cX9_sumOf 55 = .ok (.iload 4, 2) := by decide +kernel
theorem dX9_sumOf_57 : decode cX9_sumOf 57 = .ok (.aload_n 0, 1) := by decide +kernel
theorem dX9_sumOf_58 : decode cX9_sumOf 58 = .ok (.iload 5, 2) := by decide +kernel
theorem dX9_sumOf_60 : decode cX9_sumOf 60 = .ok (.invokevirtual 14, 3) := by decide +kernel
theorem dX9_sumOf_63 : decode cX9_sumOf 63 = .ok (.ldc 20, 2) := by decide +kernel
theorem dX9_sumOf_65 : decode cX9_sumOf 65 = .ok (.imul, 1) := by decide +kernel
theorem dX9_sumOf_66 : decode cX9_sumOf 66 = .ok (.iadd, 1) := by decide +kernel
theorem dX9_sumOf_67 : decode cX9_sumOf 67 = .ok (.bipush 17, 2) := by decide +kernel
theorem dX9_sumOf_69 : decode cX9_sumOf 69 = .ok (.invokestatic 21, 3) := by decide +kernel
theorem dX9_sumOf_72 : decode cX9_sumOf 72 = .ok (.ldc 25, 2) := by decide +kernel
theorem dX9_sumOf_74 : decode cX9_sumOf 74 = .ok (.imul, 1) := by decide +kernel
theorem dX9_sumOf_75 : decode cX9_sumOf 75 = .ok (.istore 4, 2) := by decide +kernel
theorem dX9_sumOf_77 : decode cX9_sumOf 77 = .ok (.iinc 5 4, 3) := by decide +kernel
theorem dX9_sumOf_80 : decode cX9_sumOf 80 = .ok (.goto (-34), 3) := by decide +kernel
theorem dX9_sumOf_83 : decode cX9_sumOf 83 = .ok (.iload 5, 2) := by decide +kernel
theorem dX9_sumOf_85 : decode cX9_sumOf 85 = .ok (.iload 6, 2) := by decide +kernel
theorem dX9_sumOf_87 : decode cX9_sumOf 87 = .ok (.if_icmp .ge 31, 3) := by decide +kernel
theorem dX9_sumOf_90 : decode cX9_sumOf 90 = .ok (.iload 4, 2) := by decide +kernel
theorem dX9_sumOf_92 : decode cX9_sumOf 92 = .ok (.aload_n 0, 1) := by decide +kernel
theorem dX9_sumOf_93 : decode cX9_sumOf 93 = .ok (.iload 5, 2) := by decide +kernel
theorem dX9_sumOf_95 : decode cX9_sumOf 95 = .ok (.invokevirtual 26, 3) := by decide +kernel
theorem dX9_sumOf_98 : decode cX9_sumOf 98 = .ok (.ldc 13, 2) := by decide +kernel
theorem dX9_sumOf_100 : decode cX9_sumOf 100 = .ok (.imul, 1) := by decide +kernel
theorem dX9_sumOf_101 : decode cX9_sumOf 101 = .ok (.iadd, 1) := by decide +kernel
theorem dX9_sumOf_102 : decode cX9_sumOf 102 = .ok (.bipush 11, 2) := by decide +kernel
theorem dX9_sumOf_104 : decode cX9_sumOf 104 = .ok (.invokestatic 21, 3) := by decide +kernel
theorem dX9_sumOf_107 : decode cX9_sumOf 107 = .ok (.ldc 29, 2) := by decide +kernel
theorem dX9_sumOf_109 : decode cX9_sumOf 109 = .ok (.imul, 1) := by decide +kernel
theorem dX9_sumOf_110 : decode cX9_sumOf 110 = .ok (.istore 4, 2) := by decide +kernel
theorem dX9_sumOf_112 : decode cX9_sumOf 112 = .ok (.iinc 5 1, 3) := by decide +kernel
theorem dX9_sumOf_115 : decode cX9_sumOf 115 = .ok (.goto (-32), 3) := by decide +kernel
theorem dX9_sumOf_118 : decode cX9_sumOf 118 = .ok (.iload 4, 2) := by decide +kernel
theorem dX9_sumOf_120 : decode cX9_sumOf 120 = .ok (.iload 4, 2) := by decide +kernel
theorem dX9_sumOf_122 : decode cX9_sumOf 122 = .ok (.bipush 15, 2) := by decide +kernel
theorem dX9_sumOf_124 : decode cX9_sumOf 124 = .ok (.iushr, 1) := by decide +kernel
theorem dX9_sumOf_125 : decode cX9_sumOf 125 = .ok (.ixor, 1) := by decide +kernel
theorem dX9_sumOf_126 : decode cX9_sumOf 126 = .ok (.ldc 30, 2) := by decide +kernel
theorem dX9_sumOf_128 : decode cX9_sumOf 128 = .ok (.imul, 1) := by decide +kernel
theorem dX9_sumOf_129 : decode cX9_sumOf 129 = .ok (.istore 4, 2) := by decide +kernel
theorem dX9_sumOf_131 : decode cX9_sumOf 131 = .ok (.iload 4, 2) := by decide +kernel
theorem dX9_sumOf_133 : decode cX9_sumOf 133 = .ok (.iload 4, 2) := by decide +kernel
theorem dX9_sumOf_135 : decode cX9_sumOf 135 = .ok (.bipush 13, 2) := by decide +kernel
theorem dX9_sumOf_137 : decode cX9_sumOf 137 = .ok (.iushr, 1) := by decide +kernel
theorem dX9_sumOf_138 : decode cX9_sumOf 138 = .ok (.ixor, 1) := by decide +kernel
theorem dX9_sumOf_139 : decode cX9_sumOf 139 = .ok (.ldc 20, 2) := by decide +kernel
theorem dX9_sumOf_141 : decode cX9_sumOf 141 = .ok (.imul, 1) := by decide +kernel
theorem dX9_sumOf_142 : decode cX9_sumOf 142 = .ok (.istore 4, 2) := by decide +kernel
theorem dX9_sumOf_144 : decode cX9_sumOf 144 = .ok (.iload 4, 2) := by decide +kernel
theorem dX9_sumOf_146 : decode cX9_sumOf 146 = .ok (.iload 4, 2) := by decide +kernel
theorem dX9_sumOf_148 : decode cX9_sumOf 148 = .ok (.bipush 16, 2) := by decide +kernel
theorem dX9_sumOf_150 : decode cX9_sumOf 150 = .ok (.iushr, 1) := by decide +kernel
theorem dX9_sumOf_151 : decode cX9_sumOf 151 = .ok (.ixor, 1) := by decide +kernel
theorem dX9_sumOf_152 : decode cX9_sumOf 152 = .ok (.ireturn, 1) := by decide +kernel
def m_Sums_sumOf_E118 (j4_8 : Int32) : Option (Int32) :=
  bnd ((j4_8 ^^^ (iushr j4_8 (15 : Int32))) * (-2048144777 : Int32)) fun v4_9 =>
  bnd ((v4_9 ^^^ (iushr v4_9 (13 : Int32))) * (-1028477379 : Int32)) fun v4_10 =>
  some (v4_10 ^^^ (iushr v4_10 (16 : Int32)))
def m_Sums_sumOf_B83 (h0_count : Int32) (h0_held_n : Nat) (h0_held_f : Nat → Int32) (v6_5 : Int32) (j4_11 : Int32) (j5_12 : Int32) : Option ((Int32 × Int32) ⊕ ((Int32))) :=
  if v6_5 ≤ j5_12 then
    some (.inr j4_11)
  else
    (m_Bytes_at j5_12 h0_count h0_held_n h0_held_f).bind fun r13 =>
    (m_Sums_turned (j4_11 + (r13 * (374761393 : Int32))) (11 : Int32)).bind fun r14 =>
    bnd (r14 * (-1640531535 : Int32)) fun v4_15 =>
    bnd (j5_12 + (1 : Int32)) fun v5_16 =>
    some (.inl (v4_15, v5_16))
def m_Sums_sumOf_E83 (h0_count : Int32) (h0_held_n : Nat) (h0_held_f : Nat → Int32) (v6_5 : Int32) (j4_6 : Int32) (j5_7 : Int32) : Option (Int32) :=
  (iter (fun st => m_Sums_sumOf_B83 h0_count h0_held_n h0_held_f v6_5 st.1 st.2) FU (j4_6, j5_7)).bind fun o => m_Sums_sumOf_E118 o
def m_Sums_sumOf_B46 (h0_count : Int32) (h0_held_n : Nat) (h0_held_f : Nat → Int32) (v6_5 : Int32) (j4_17 : Int32) (j5_18 : Int32) : Option ((Int32 × Int32) ⊕ ((Int32 × Int32))) :=
  if (v6_5 - j5_18) < (4 : Int32) then
    some (.inr (j4_17, j5_18))
  else
    (m_Bytes_number32 j5_18 h0_count h0_held_n h0_held_f).bind fun r19 =>
    (m_Sums_turned (j4_17 + (r19 * (-1028477379 : Int32))) (17 : Int32)).bind fun r20 =>
    bnd (r20 * (668265263 : Int32)) fun v4_21 =>
    bnd (j5_18 + (4 : Int32)) fun v5_22 =>
    some (.inl (v4_21, v5_22))
def m_Sums_sumOf_J32 (a1 : Int32) (a2 : Int32) (h0_count : Int32) (h0_held_n : Nat) (h0_held_f : Nat → Int32) (s1 : Int32) (s2 : Int32) : Option (Int32) :=
  bnd (s2 + a2) fun v4_3 =>
  bnd (a1 + s1) fun v5_4 =>
  bnd (a1 + a2) fun v6_5 =>
  (iter (fun st => m_Sums_sumOf_B46 h0_count h0_held_n h0_held_f v6_5 st.1 st.2) FU (v4_3, v5_4)).bind fun o => m_Sums_sumOf_E83 h0_count h0_held_n h0_held_f v6_5 o.1 o.2
def m_Sums_sumOf_J16 (a1 : Int32) (a2 : Int32) (h0_count : Int32) (h0_held_n : Nat) (h0_held_f : Nat → Int32) (s1 : Int32) : Option (Int32) :=
  if s1 ≤ 0 then
    m_Sums_sumOf_J32 a1 a2 h0_count h0_held_n h0_held_f s1 (374761393 : Int32)
  else
    (m_Sums_sixteens a1 s1 h0_count h0_held_n h0_held_f).bind fun r23 =>
    m_Sums_sumOf_J32 a1 a2 h0_count h0_held_n h0_held_f s1 r23
def m_Sums_sumOf (a1 : Int32) (a2 : Int32) (h0_count : Int32) (h0_held_n : Nat) (h0_held_f : Nat → Int32) : Option (Int32) :=
  if a2 < (16 : Int32) then
    m_Sums_sumOf_J16 a1 a2 h0_count h0_held_n h0_held_f (0 : Int32)
  else
    m_Sums_sumOf_J16 a1 a2 h0_count h0_held_n h0_held_f (a2 - (irem a2 (16 : Int32)))
def rm_Sums_sumOf : Room := { frames := 2, cells := 0, slots := 0, locals := 49 }
set_option maxHeartbeats 4000000 in
set_option maxRecDepth 100000 in
theorem c_Sums_sumOf {l : Launch} {dC : Nat → ClassId} {dI : Nat → Nat → Nat} {cB cI : ClassId} {sz : Nat} {h0 : Nat} {a1 : Int32} {a2 : Int32} {h0_held : Nat} {h0_count : Int32} {h0_held_n : Nat} {h0_held_f : Nat → Int32} {o_r : Int32} (hf : m_Sums_sumOf a1 a2 h0_count h0_held_n h0_held_f = some o_r) : Met l yX9_sumOf (Cond.code yX9_sumOf cX9_sumOf 7 (some .int) :: lw_G) rm_Sums_sumOf (PreC (dC, dI) [(cB, .byte), (cI, .int)] [.ref h0, .int a1, .int a2] sz [(h0, .inr (2, [.ref h0_held, .int h0_count])), (h0_held, .inl (cB, h0_held_n, .inl h0_held_f))]) (QcI o_r (dC, dI) [(h0, .inr (2, [.ref h0_held, .int h0_count])), (h0_held, .inl (cB, h0_held_n, .inl h0_held_f))] (va_A [(h0, .inr (2, [.ref h0_held, .int h0_count])), (h0_held, .inl (cB, h0_held_n, .inl h0_held_f))] sz)) 0 0 (va_A [(h0, .inr (2, [.ref h0_held, .int h0_count])), (h0_held, .inl (cB, h0_held_n, .inl h0_held_f))] sz) := by
  refine met_of (Qf := fun A => QcI o_r (dC, dI) [(h0, .inr (2, [.ref h0_held, .int h0_count])), (h0_held, .inl (cB, h0_held_n, .inl h0_held_f))] A) (by decide) (Nat.le_of_ble_eq_true rfl) ?_
  intro p e s m below meth c A ls Q hx hb hr hml hown hts hlocks hnm hP hK hD hN hT hA hl hQ
  have hown : s.vm.findClass RX9 = some m.cls := hown
  have hS : va_S A s.heap s.heap [] := va_S.rf
  have hl : lv_has ls 7 [(0, .ref h0), (1, .int a1), (2, .int a2)] := hl
  unfold m_Sums_sumOf at hf
  refine lv_iload_n hx hb dX9_sumOf_0 rfl (lv_at hl 2 rfl) ?_
  refine lv_bipush (v := 16) hx hb dX9_sumOf_1 (by decide) ?_
  have hJ_16 : ∀ (s1 : Int32) (H : Heap) (locs : List Loc) (ls : Array Slot), m_Sums_sumOf_J16 a1 a2 h0_count h0_held_n h0_held_f s1 = some o_r → va_P (dC, dI) vwCl [(h0, .inr (2, [.ref h0_held, .int h0_count])), (h0_held, .inl (cB, h0_held_n, .inl h0_held_f))] H → va_D A [(h0, .inr (2, [.ref h0_held, .int h0_count])), (h0_held, .inl (cB, h0_held_n, .inl h0_held_f))] → va_S A s.heap H locs → lv_has ls 7 [(0, .ref h0), (1, .int a1), (2, .int a2)] → W p l e (rm_Sums_sumOf) s m ([.ref h0, .int a1, .int a2] : List Value).toArray below meth c H locs 0 0 Q (F0 m 16 ls [.int s1]) := by
    intro s1 H locs ls hf hP hD hS hl
    unfold m_Sums_sumOf_J16 at hf
    refine lv_istore_n (lv' := [(3, .int s1), (0, .ref h0), (1, .int a1), (2, .int a2)]) hx hb dX9_sumOf_16 rfl hl (by decide) rfl (fun ls hl => ?_)
    refine lv_iload_n hx hb dX9_sumOf_17 rfl (lv_at hl 0 rfl) ?_
    have hJ_32 : ∀ (s2 : Int32) (H : Heap) (locs : List Loc) (ls : Array Slot), m_Sums_sumOf_J32 a1 a2 h0_count h0_held_n h0_held_f s1 s2 = some o_r → va_P (dC, dI) vwCl [(h0, .inr (2, [.ref h0_held, .int h0_count])), (h0_held, .inl (cB, h0_held_n, .inl h0_held_f))] H → va_D A [(h0, .inr (2, [.ref h0_held, .int h0_count])), (h0_held, .inl (cB, h0_held_n, .inl h0_held_f))] → va_S A s.heap H locs → lv_has ls 7 [(0, .ref h0), (1, .int a1), (2, .int a2), (3, .int s1)] → W p l e (rm_Sums_sumOf) s m ([.ref h0, .int a1, .int a2] : List Value).toArray below meth c H locs 0 0 Q (F0 m 32 ls [.int s2]) := by
      intro s2 H locs ls hf hP hD hS hl
      unfold m_Sums_sumOf_J32 at hf
      refine lv_iload_n hx hb dX9_sumOf_32 rfl (lv_at hl 2 rfl) ?_
      refine lv_iadd hx hb dX9_sumOf_33 ?_
      refine lv_topi (fun v4_3 e_v4_3 => ?_)
      replace hf := bnd_at e_v4_3 hf
      refine lv_istore (lv' := [(4, .int v4_3), (0, .ref h0), (1, .int a1), (2, .int a2), (3, .int s1)]) hx hb dX9_sumOf_34 hl (by decide) rfl (fun ls hl => ?_)
      refine lv_iload_n hx hb dX9_sumOf_36 rfl (lv_at hl 2 rfl) ?_
      refine lv_iload_n hx hb dX9_sumOf_37 rfl (lv_at hl 4 rfl) ?_
      refine lv_iadd hx hb dX9_sumOf_38 ?_
      refine lv_topi (fun v5_4 e_v5_4 => ?_)
      replace hf := bnd_at e_v5_4 hf
      refine lv_istore (lv' := [(5, .int v5_4), (4, .int v4_3), (0, .ref h0), (1, .int a1), (2, .int a2), (3, .int s1)]) hx hb dX9_sumOf_39 hl (by decide) rfl (fun ls hl => ?_)
      refine lv_iload_n hx hb dX9_sumOf_41 rfl (lv_at hl 3 rfl) ?_
      refine lv_iload_n hx hb dX9_sumOf_42 rfl (lv_at hl 4 rfl) ?_
      refine lv_iadd hx hb dX9_sumOf_43 ?_
      refine lv_topi (fun v6_5 e_v6_5 => ?_)
      replace hf := bnd_at e_v6_5 hf
      refine lv_istore (lv' := [(6, .int v6_5), (5, .int v5_4), (4, .int v4_3), (0, .ref h0), (1, .int a1), (2, .int a2), (3, .int s1)]) hx hb dX9_sumOf_44 hl (by decide) rfl (fun ls hl => ?_)
      have hJ_83 : ∀ (j4_6 : Int32) (j5_7 : Int32) (H : Heap) (locs : List Loc) (ls : Array Slot), m_Sums_sumOf_E83 h0_count h0_held_n h0_held_f v6_5 j4_6 j5_7 = some o_r → va_P (dC, dI) vwCl [(h0, .inr (2, [.ref h0_held, .int h0_count])), (h0_held, .inl (cB, h0_held_n, .inl h0_held_f))] H → va_D A [(h0, .inr (2, [.ref h0_held, .int h0_count])), (h0_held, .inl (cB, h0_held_n, .inl h0_held_f))] → va_S A s.heap H locs → lv_has ls 7 [(0, .ref h0), (4, .int j4_6), (5, .int j5_7), (6, .int v6_5)] → W p l e (rm_Sums_sumOf) s m ([.ref h0, .int a1, .int a2] : List Value).toArray below meth c H locs 0 0 Q (F0 m 83 ls []) := by
        intro j4_6 j5_7 H locs ls hf hP hD hS hl
        unfold m_Sums_sumOf_E83 at hf
        have hJ_118 : ∀ (j4_8 : Int32) (H : Heap) (locs : List Loc) (ls : Array Slot), m_Sums_sumOf_E118 j4_8 = some o_r → va_P (dC, dI) vwCl [(h0, .inr (2, [.ref h0_held, .int h0_count])), (h0_held, .inl (cB, h0_held_n, .inl h0_held_f))] H → va_D A [(h0, .inr (2, [.ref h0_held, .int h0_count])), (h0_held, .inl (cB, h0_held_n, .inl h0_held_f))] → va_S A s.heap H locs → lv_has ls 7 [(4, .int j4_8)] → W p l e (rm_Sums_sumOf) s m ([.ref h0, .int a1, .int a2] : List Value).toArray below meth c H locs 0 0 Q (F0 m 118 ls []) := by
          intro j4_8 H locs ls hf hP hD hS hl
          unfold m_Sums_sumOf_E118 at hf
          refine lv_iload hx hb dX9_sumOf_118 (lv_at hl 0 rfl) ?_
          refine lv_iload hx hb dX9_sumOf_120 (lv_at hl 0 rfl) ?_
          refine lv_bipush (v := 15) hx hb dX9_sumOf_122 (by decide) ?_
          refine lv_iushr (v := (iushr j4_8 (15 : Int32))) hx hb dX9_sumOf_124 rfl ?_
          refine lv_ixor hx hb dX9_sumOf_125 ?_
          refine lv_ldc hx hb hown (hts _ kw_754) dX9_sumOf_126 ?_
          refine lv_imul hx hb dX9_sumOf_128 ?_
          refine lv_topi (fun v4_9 e_v4_9 => ?_)
          replace hf := bnd_at e_v4_9 hf
          refine lv_istore (lv' := [(4, .int v4_9)]) hx hb dX9_sumOf_129 hl (by decide) rfl (fun ls hl => ?_)
          refine lv_iload hx hb dX9_sumOf_131 (lv_at hl 0 rfl) ?_
          refine lv_iload hx hb dX9_sumOf_133 (lv_at hl 0 rfl) ?_
          refine lv_bipush (v := 13) hx hb dX9_sumOf_135 (by decide) ?_
          refine lv_iushr (v := (iushr v4_9 (13 : Int32))) hx hb dX9_sumOf_137 rfl ?_
          refine lv_ixor hx hb dX9_sumOf_138 ?_
          refine lv_ldc hx hb hown (hts _ kw_768) dX9_sumOf_139 ?_
          refine lv_imul hx hb dX9_sumOf_141 ?_
          refine lv_topi (fun v4_10 e_v4_10 => ?_)
          replace hf := bnd_at e_v4_10 hf
          refine lv_istore (lv' := [(4, .int v4_10)]) hx hb dX9_sumOf_142 hl (by decide) rfl (fun ls hl => ?_)
          refine lv_iload hx hb dX9_sumOf_144 (lv_at hl 0 rfl) ?_
          refine lv_iload hx hb dX9_sumOf_146 (lv_at hl 0 rfl) ?_
          refine lv_bipush (v := 16) hx hb dX9_sumOf_148 (by decide) ?_
          refine lv_iushr (v := (iushr v4_10 (16 : Int32))) hx hb dX9_sumOf_150 rfl ?_
          refine lv_ixor hx hb dX9_sumOf_151 ?_
          obtain rfl := Option.some.inj hf
          exact rt_i hQ hx hb hr hlocks hP hD hS dX9_sumOf_152
        obtain ⟨o_83, hi_83, hk_83⟩ := bind_some hf
        have hL_83 : ∀ (n : Nat) (j4_11 : Int32) (j5_12 : Int32) (H : Heap) (locs : List Loc) (ls : Array Slot), iter (fun st => m_Sums_sumOf_B83 h0_count h0_held_n h0_held_f v6_5 st.1 st.2) n (j4_11, j5_12) = some o_83 → va_P (dC, dI) vwCl [(h0, .inr (2, [.ref h0_held, .int h0_count])), (h0_held, .inl (cB, h0_held_n, .inl h0_held_f))] H → va_D A [(h0, .inr (2, [.ref h0_held, .int h0_count])), (h0_held, .inl (cB, h0_held_n, .inl h0_held_f))] → va_S A s.heap H locs → lv_has ls 7 [(0, .ref h0), (4, .int j4_11), (5, .int j5_12), (6, .int v6_5)] → W p l e (rm_Sums_sumOf) s m ([.ref h0, .int a1, .int a2] : List Value).toArray below meth c H locs 0 0 Q (F0 m 83 ls []) := by
          intro n
          induction n with
          | zero => intro j4_11 j5_12 H locs ls hf; exact absurd hf (fun z => by cases z)
          | succ n ih_83 =>
            intro j4_11 j5_12 H locs ls hf hP hD hS hl
            obtain ⟨r_83, hf, hr_83⟩ := iter_succ hf
            have hf : m_Sums_sumOf_B83 h0_count h0_held_n h0_held_f v6_5 j4_11 j5_12 = some r_83 := hf
            unfold m_Sums_sumOf_B83 at hf
            refine lv_iload hx hb dX9_sumOf_83 (lv_at hl 2 rfl) ?_
            refine lv_iload hx hb dX9_sumOf_85 (lv_at hl 3 rfl) ?_
            refine lv_icmp_ge (tgt := 118) hx hb dX9_sumOf_87 (by decide) (fun c_87 => ?_) (fun c_87 => ?_)
            · replace hf := if_t c_87 hf
              have hf : m_Sums_sumOf_E118 j4_11 = some o_r := by have hq := hk_83; rw [iter_exit hf hr_83] at hq; exact hq
              exact hJ_118 j4_11 _ _ _ hf hP hD hS (lv_sub hl [1] rfl)
            · replace hf := if_f c_87 hf
              refine lv_iload hx hb dX9_sumOf_90 (lv_at hl 1 rfl) ?_
              refine lv_aload_n hx hb dX9_sumOf_92 rfl (lv_at hl 0 rfl) ?_
              refine lv_iload hx hb dX9_sumOf_93 (lv_at hl 2 rfl) ?_
              obtain ⟨r13, hc, hf⟩ := bind_some hf
              refine nx_i (rn_V (As := [.int j5_12]) (rest := [.int j4_11]) (n := 1) (ci := 2) (q0 := 0) ⟨hx, hb, hml, hown, hts⟩ (c_Bytes_at (l := l) (dC := dC) (dI := dI) (cB := cB) (cI := cI) (h0 := h0) (a1 := j5_12) (h0_held := h0_held) (h0_count := h0_count) (h0_held_n := h0_held_n) (h0_held_f := h0_held_f)  (o_r := r13) hc) (wV kw_770 kw_418 kw_419 kw_83 kw_420) (by decide +kernel) ⟨Nat.le_of_ble_eq_true rfl, Nat.le_of_ble_eq_true rfl⟩ hK hP hD hN hT hS (va_free (wc := [(h0, .inr (2, [.ref h0_held, .int h0_count])), (h0_held, .inl (cB, h0_held_n, .inl h0_held_f))]) hD hS hA [0, 1] rfl) [0, 1] rfl (by decide) rfl rfl rfl hl.1 rfl (lv_room (Nat.le_of_ble_eq_true rfl)) dX9_sumOf_95 ⟨Nat.le_of_ble_eq_true rfl, Nat.le_of_ble_eq_true rfl⟩) hP hD hS hA (wr := []) (w1 := [(h0, .inr (2, [.ref h0_held, .int h0_count])), (h0_held, .inl (cB, h0_held_n, .inl h0_held_f))]) (ws' := [(h0, .inr (2, [.ref h0_held, .int h0_count])), (h0_held, .inl (cB, h0_held_n, .inl h0_held_f))]) [0, 1] [] [0, 1] rfl rfl (by decide) (by decide) rfl (by decide) (fun H locs hP hD hS => ?_)
              refine lv_ldc hx hb hown (hts _ kw_767) dX9_sumOf_98 ?_
              refine lv_imul hx hb dX9_sumOf_100 ?_
              refine lv_iadd hx hb dX9_sumOf_101 ?_
              refine lv_bipush (v := 11) hx hb dX9_sumOf_102 (by decide) ?_
              obtain ⟨r14, hc, hf⟩ := bind_some hf
              refine nx_i (rn_S (As := [.int (j4_11 + (r13 * (374761393 : Int32))), .int (11 : Int32)]) (rest := []) (n := 2) ⟨hx, hb, hml, hown, hts⟩ (c_Sums_turned (l := l) (dC := dC) (dI := dI) (cB := cB) (cI := cI) (a0 := (j4_11 + (r13 * (374761393 : Int32)))) (a1 := (11 : Int32))  (o_r := r14) hc) (wS kw_764 kw_765 kw_97 kw_766) (by decide +kernel) ⟨Nat.le_of_ble_eq_true rfl, Nat.le_of_ble_eq_true rfl⟩ hK hP hD hN hT hS (va_free (wc := []) hD hS hA [] rfl) [] rfl (by decide) rfl hl.1 rfl (lv_room (Nat.le_of_ble_eq_true rfl)) dX9_sumOf_104 ⟨Nat.le_of_ble_eq_true rfl, Nat.le_of_ble_eq_true rfl⟩) hP hD hS hA (wr := [(h0, .inr (2, [.ref h0_held, .int h0_count])), (h0_held, .inl (cB, h0_held_n, .inl h0_held_f))]) (w1 := []) (ws' := [(h0, .inr (2, [.ref h0_held, .int h0_count])), (h0_held, .inl (cB, h0_held_n, .inl h0_held_f))]) [] [0, 1] [0, 1] rfl rfl (by decide) (by decide) rfl (by decide) (fun H locs hP hD hS => ?_)
              refine lv_ldc hx hb hown (hts _ kw_763) dX9_sumOf_107 ?_
              refine lv_imul hx hb dX9_sumOf_109 ?_
              refine lv_topi (fun v4_15 e_v4_15 => ?_)
              replace hf := bnd_at e_v4_15 hf
              refine lv_istore (lv' := [(4, .int v4_15), (0, .ref h0), (5, .int j5_12), (6, .int v6_5)]) hx hb dX9_sumOf_110 hl (by decide) rfl (fun ls hl => ?_)
              obtain ⟨v5_16, e_v5_16⟩ : ∃ y : Int32, y = (j5_12 + (1 : Int32)) := ⟨_, rfl⟩
              replace hf := bnd_at e_v5_16 hf
              refine lv_iinc (v := v5_16) (lv' := [(5, .int v5_16), (4, .int v4_15), (0, .ref h0), (6, .int v6_5)]) hx hb dX9_sumOf_112 hl (k := 2) rfl (by rw [e_v5_16]; rfl) (by decide) rfl (fun ls hl => ?_)
              refine lv_goto (tgt := 83) hx hb dX9_sumOf_115 (by decide) ?_
              exact ih_83 v4_15 v5_16 _ _ _ (iter_back hf hr_83) hP hD hS (lv_sub hl [2, 1, 0, 3] rfl)
        exact hL_83 FU j4_6 j5_7 _ _ _ hi_83 hP hD hS (lv_sub hl [0, 1, 2, 3] rfl)
      obtain ⟨o_46, hi_46, hk_46⟩ := bind_some hf
      have hL_46 : ∀ (n : Nat) (j4_17 : Int32) (j5_18 : Int32) (H : Heap) (locs : List Loc) (ls : Array Slot), iter (fun st => m_Sums_sumOf_B46 h0_count h0_held_n h0_held_f v6_5 st.1 st.2) n (j4_17, j5_18) = some o_46 → va_P (dC, dI) vwCl [(h0, .inr (2, [.ref h0_held, .int h0_count])), (h0_held, .inl (cB, h0_held_n, .inl h0_held_f))] H → va_D A [(h0, .inr (2, [.ref h0_held, .int h0_count])), (h0_held, .inl (cB, h0_held_n, .inl h0_held_f))] → va_S A s.heap H locs → lv_has ls 7 [(0, .ref h0), (4, .int j4_17), (5, .int j5_18), (6, .int v6_5)] → W p l e (rm_Sums_sumOf) s m ([.ref h0, .int a1, .int a2] : List Value).toArray below meth c H locs 0 0 Q (F0 m 46 ls []) := by
        intro n
        induction n with
        | zero => intro j4_17 j5_18 H locs ls hf; exact absurd hf (fun z => by cases z)
        | succ n ih_46 =>
          intro j4_17 j5_18 H locs ls hf hP hD hS hl
          obtain ⟨r_46, hf, hr_46⟩ := iter_succ hf
          have hf : m_Sums_sumOf_B46 h0_count h0_held_n h0_held_f v6_5 j4_17 j5_18 = some r_46 := hf
          unfold m_Sums_sumOf_B46 at hf
          refine lv_iload hx hb dX9_sumOf_46 (lv_at hl 3 rfl) ?_
          refine lv_iload hx hb dX9_sumOf_48 (lv_at hl 2 rfl) ?_
          refine lv_isub hx hb dX9_sumOf_50 ?_
          refine lv_iconst (v := 4) hx hb dX9_sumOf_51 (by decide) ?_
          refine lv_icmp_lt (tgt := 83) hx hb dX9_sumOf_52 (by decide) (fun c_52 => ?_) (fun c_52 => ?_)
          · replace hf := if_t c_52 hf
            have hf : m_Sums_sumOf_E83 h0_count h0_held_n h0_held_f v6_5 j4_17 j5_18 = some o_r := by have hq := hk_46; rw [iter_exit hf hr_46] at hq; exact hq
            exact hJ_83 j4_17 j5_18 _ _ _ hf hP hD hS (lv_sub hl [0, 1, 2, 3] rfl)
          · replace hf := if_f c_52 hf
            refine lv_iload hx hb dX9_sumOf_55 (lv_at hl 1 rfl) ?_
            refine lv_aload_n hx hb dX9_sumOf_57 rfl (lv_at hl 0 rfl) ?_
            refine lv_iload hx hb dX9_sumOf_58 (lv_at hl 2 rfl) ?_
            obtain ⟨r19, hc, hf⟩ := bind_some hf
            refine nx_i (rn_V (As := [.int j5_18]) (rest := [.int j4_17]) (n := 1) (ci := 2) (q0 := 0) ⟨hx, hb, hml, hown, hts⟩ (c_Bytes_number32 (l := l) (dC := dC) (dI := dI) (cB := cB) (cI := cI) (h0 := h0) (a1 := j5_18) (h0_held := h0_held) (h0_count := h0_count) (h0_held_n := h0_held_n) (h0_held_f := h0_held_f)  (o_r := r19) hc) (wV kw_756 kw_757 kw_758 kw_83 kw_759) (by decide +kernel) ⟨Nat.le_of_ble_eq_true rfl, Nat.le_of_ble_eq_true rfl⟩ hK hP hD hN hT hS (va_free (wc := [(h0, .inr (2, [.ref h0_held, .int h0_count])), (h0_held, .inl (cB, h0_held_n, .inl h0_held_f))]) hD hS hA [0, 1] rfl) [0, 1] rfl (by decide) rfl rfl rfl hl.1 rfl (lv_room (Nat.le_of_ble_eq_true rfl)) dX9_sumOf_60 ⟨Nat.le_of_ble_eq_true rfl, Nat.le_of_ble_eq_true rfl⟩) hP hD hS hA (wr := []) (w1 := [(h0, .inr (2, [.ref h0_held, .int h0_count])), (h0_held, .inl (cB, h0_held_n, .inl h0_held_f))]) (ws' := [(h0, .inr (2, [.ref h0_held, .int h0_count])), (h0_held, .inl (cB, h0_held_n, .inl h0_held_f))]) [0, 1] [] [0, 1] rfl rfl (by decide) (by decide) rfl (by decide) (fun H locs hP hD hS => ?_)
            refine lv_ldc hx hb hown (hts _ kw_768) dX9_sumOf_63 ?_
            refine lv_imul hx hb dX9_sumOf_65 ?_
            refine lv_iadd hx hb dX9_sumOf_66 ?_
            refine lv_bipush (v := 17) hx hb dX9_sumOf_67 (by decide) ?_
            obtain ⟨r20, hc, hf⟩ := bind_some hf
            refine nx_i (rn_S (As := [.int (j4_17 + (r19 * (-1028477379 : Int32))), .int (17 : Int32)]) (rest := []) (n := 2) ⟨hx, hb, hml, hown, hts⟩ (c_Sums_turned (l := l) (dC := dC) (dI := dI) (cB := cB) (cI := cI) (a0 := (j4_17 + (r19 * (-1028477379 : Int32)))) (a1 := (17 : Int32))  (o_r := r20) hc) (wS kw_764 kw_765 kw_97 kw_766) (by decide +kernel) ⟨Nat.le_of_ble_eq_true rfl, Nat.le_of_ble_eq_true rfl⟩ hK hP hD hN hT hS (va_free (wc := []) hD hS hA [] rfl) [] rfl (by decide) rfl hl.1 rfl (lv_room (Nat.le_of_ble_eq_true rfl)) dX9_sumOf_69 ⟨Nat.le_of_ble_eq_true rfl, Nat.le_of_ble_eq_true rfl⟩) hP hD hS hA (wr := [(h0, .inr (2, [.ref h0_held, .int h0_count])), (h0_held, .inl (cB, h0_held_n, .inl h0_held_f))]) (w1 := []) (ws' := [(h0, .inr (2, [.ref h0_held, .int h0_count])), (h0_held, .inl (cB, h0_held_n, .inl h0_held_f))]) [] [0, 1] [0, 1] rfl rfl (by decide) (by decide) rfl (by decide) (fun H locs hP hD hS => ?_)
            refine lv_ldc hx hb hown (hts _ kw_769) dX9_sumOf_72 ?_
            refine lv_imul hx hb dX9_sumOf_74 ?_
            refine lv_topi (fun v4_21 e_v4_21 => ?_)
            replace hf := bnd_at e_v4_21 hf
            refine lv_istore (lv' := [(4, .int v4_21), (0, .ref h0), (5, .int j5_18), (6, .int v6_5)]) hx hb dX9_sumOf_75 hl (by decide) rfl (fun ls hl => ?_)
            obtain ⟨v5_22, e_v5_22⟩ : ∃ y : Int32, y = (j5_18 + (4 : Int32)) := ⟨_, rfl⟩
            replace hf := bnd_at e_v5_22 hf
            refine lv_iinc (v := v5_22) (lv' := [(5, .int v5_22), (4, .int v4_21), (0, .ref h0), (6, .int v6_5)]) hx hb dX9_sumOf_77 hl (k := 2) rfl (by rw [e_v5_22]; rfl) (by decide) rfl (fun ls hl => ?_)
            refine lv_goto (tgt := 46) hx hb dX9_sumOf_80 (by decide) ?_
            exact ih_46 v4_21 v5_22 _ _ _ (iter_back hf hr_46) hP hD hS (lv_sub hl [2, 1, 0, 3] rfl)
      exact hL_46 FU v4_3 v5_4 _ _ _ hi_46 hP hD hS (lv_sub hl [3, 2, 1, 0] rfl)
    refine lv_if_le (tgt := 30) hx hb dX9_sumOf_18 (by decide) (fun c_18 => ?_) (fun c_18 => ?_)
    · replace hf := if_t c_18 hf
      refine lv_ldc hx hb hown (hts _ kw_767) dX9_sumOf_30 ?_
      exact hJ_32 (374761393 : Int32) _ _ _ hf hP hD hS (lv_sub hl [1, 2, 3, 0] rfl)
    · replace hf := if_f c_18 hf
      refine lv_aload_n hx hb dX9_sumOf_21 rfl (lv_at hl 1 rfl) ?_
      refine lv_iload_n hx hb dX9_sumOf_22 rfl (lv_at hl 2 rfl) ?_
      refine lv_iload_n hx hb dX9_sumOf_23 rfl (lv_at hl 0 rfl) ?_
      obtain ⟨r23, hc, hf⟩ := bind_some hf
      refine nx_i (rn_S (As := [.ref h0, .int a1, .int s1]) (rest := []) (n := 3) ⟨hx, hb, hml, hown, hts⟩ (c_Sums_sixteens (l := l) (dC := dC) (dI := dI) (cB := cB) (cI := cI) (h0 := h0) (a1 := a1) (a2 := s1) (h0_held := h0_held) (h0_count := h0_count) (h0_held_n := h0_held_n) (h0_held_f := h0_held_f)  (o_r := r23) hc) (wS kw_750 kw_751 kw_97 kw_752) (by decide +kernel) ⟨Nat.le_of_ble_eq_true rfl, Nat.le_of_ble_eq_true rfl⟩ hK hP hD hN hT hS (va_free (wc := [(h0, .inr (2, [.ref h0_held, .int h0_count])), (h0_held, .inl (cB, h0_held_n, .inl h0_held_f))]) hD hS hA [0, 1] rfl) [0, 1] rfl (by decide) rfl hl.1 rfl (lv_room (Nat.le_of_ble_eq_true rfl)) dX9_sumOf_24 ⟨Nat.le_of_ble_eq_true rfl, Nat.le_of_ble_eq_true rfl⟩) hP hD hS hA (wr := []) (w1 := [(h0, .inr (2, [.ref h0_held, .int h0_count])), (h0_held, .inl (cB, h0_held_n, .inl h0_held_f))]) (ws' := [(h0, .inr (2, [.ref h0_held, .int h0_count])), (h0_held, .inl (cB, h0_held_n, .inl h0_held_f))]) [0, 1] [] [0, 1] rfl rfl (by decide) (by decide) rfl (by decide) (fun H locs hP hD hS => ?_)
      refine lv_goto (tgt := 32) hx hb dX9_sumOf_27 (by decide) ?_
      exact hJ_32 r23 _ _ _ hf hP hD hS (lv_sub hl [1, 2, 3, 0] rfl)
  refine lv_icmp_lt (tgt := 15) hx hb dX9_sumOf_3 (by decide) (fun c_3 => ?_) (fun c_3 => ?_)
  · replace hf := if_t c_3 hf
    refine lv_iconst (v := 0) hx hb dX9_sumOf_15 (by decide) ?_
    exact hJ_16 (0 : Int32) _ _ _ hf hP hD hS (lv_sub hl [0, 1, 2] rfl)
  · replace hf := if_f c_3 hf
    refine lv_iload_n hx hb dX9_sumOf_6 rfl (lv_at hl 2 rfl) ?_
    refine lv_iload_n hx hb dX9_sumOf_7 rfl (lv_at hl 2 rfl) ?_
    refine lv_bipush (v := 16) hx hb dX9_sumOf_8 (by decide) ?_
    refine lv_irem hx hb dX9_sumOf_10 (by decide) ?_
    refine lv_isub hx hb dX9_sumOf_11 ?_
    refine lv_goto (tgt := 16) hx hb dX9_sumOf_12 (by decide) ?_
    exact hJ_16 (a2 - (irem a2 (16 : Int32))) _ _ _ hf hP hD hS (lv_sub hl [0, 1, 2] rfl)

theorem dX9_crcOf_0 : decode cX9_crcOf 0 = .ok (.iconst (-1), 1) := by decide +kernel
theorem dX9_crcOf_1 : decode cX9_crcOf 1 = .ok (.istore_n 3, 1) := by decide +kernel
theorem dX9_crcOf_2 : decode cX9_crcOf 2 = .ok (.iconst 0, 1) := by decide +kernel
theorem dX9_crcOf_3 : decode cX9_crcOf 3 = .ok (.istore 4, 2) := by decide +kernel
theorem dX9_crcOf_5 : decode cX9_crcOf 5 = .ok (.iload 4, 2) := by decide +kernel
theorem dX9_crcOf_7 : decode cX9_crcOf 7 = .ok (.iload_n 2, 1) := by decide +kernel
theorem dX9_crcOf_8 : decode cX9_crcOf 8 = .ok (.if_icmp .ge 55, 3) := by decide +kernel
theorem dX9_crcOf_11 : decode cX9_crcOf 11 = .ok (.iload_n 3, 1) := by decide +kernel
theorem dX9_crcOf_12 : decode cX9_crcOf 12 = .ok (.aload_n 0, 1) := by decide +kernel
theorem dX9_crcOf_13 : decode cX9_crcOf 13 = .ok (.iload_n 1, 1) := by decide +kernel
theorem dX9_crcOf_14 : decode cX9_crcOf 14 = .ok (.iload 4, 2) := by decide +kernel
theorem dX9_crcOf_16 : decode cX9_crcOf 16 = .ok (.iadd, 1) := by decide +kernel
theorem dX9_crcOf_17 : decode cX9_crcOf 17 = .ok (.invokevirtual 26, 3) := by decide +kernel
theorem dX9_crcOf_20 : decode cX9_crcOf 20 = .ok (.ixor, 1) := by decide +kernel
theorem dX9_crcOf_21 : decode cX9_crcOf 21 = .ok (.istore_n 3, 1) := by decide +kernel
theorem dX9_crcOf_22 : decode cX9_crcOf 22 = .ok (.iconst 0, 1) := by decide +kernel
theorem dX9_crcOf_23 : decode cX9_crcOf 23 = .ok (.istore 5, 2) := by decide +kernel
theorem dX9_crcOf_25 : decode cX9_crcOf 25 = .ok (.iload 5, 2) := by decide +kernel
theorem dX9_crcOf_27 : decode cX9_crcOf 27 = .ok (.bipush 8, 2) := by decide +kernel
theorem dX9_crcOf_29 : decode cX9_crcOf 29 = .ok (.if_icmp .ge 28, 3) := by decide +kernel
theorem dX9_crcOf_32 : decode cX9_crcOf 32 = .ok (.iload_n 3, 1) := by decide +kernel
theorem dX9_crcOf_33 : decode cX9_crcOf 33 = .ok (.iconst 1, 1) := by decide +kernel
theorem dX9_crcOf_34 : decode cX9_crcOf 34 = .ok (.iand, 1) := by decide +kernel
theorem dX9_crcOf_35 : decode cX9_crcOf 35 = .ok (.ifCond .ne 9, 3) := by decide +kernel
theorem dX9_crcOf_38 : decode cX9_crcOf 38 = .ok (.iload_n 3, 1) := by decide +kernel
theorem dX9_crcOf_39 : decode cX9_crcOf 39 = .ok (.iconst 1, 1) := by decide +kernel
theorem dX9_crcOf_40 : decode cX9_crcOf 40 = .ok (.iushr, 1) := by decide +kernel
theorem dX9_crcOf_41 : decode cX9_crcOf 41 = .ok (.goto 9, 3) := by decide +kernel
theorem dX9_crcOf_44 : decode cX9_crcOf 44 = .ok (.iload_n 3, 1) := by decide +kernel
theorem dX9_crcOf_45 : decode cX9_crcOf 45 = .ok (.iconst 1, 1) := by decide +kernel
theorem dX9_crcOf_46 : decode cX9_crcOf 46 = .ok (.iushr, 1) := by decide +kernel
theorem dX9_crcOf_47 : decode cX9_crcOf 47 = .ok (.ldc 36, 2) := by decide +kernel
theorem dX9_crcOf_49 : decode cX9_crcOf 49 = .ok (.ixor, 1) := by decide +kernel
theorem dX9_crcOf_50 : decode cX9_crcOf 50 = .ok (.istore_n 3, 1) := by decide +kernel
theorem dX9_crcOf_51 : decode cX9_crcOf 51 = .ok (.iinc 5 1, 3) := by decide +kernel
theorem dX9_crcOf_54 : decode cX9_crcOf 54 = .ok (.goto (-29), 3) := by decide +kernel
theorem dX9_crcOf_57 : decode cX9_crcOf 57 = .ok (.iinc 4 1, 3) := by decide +kernel
theorem dX9_crcOf_60 : decode cX9_crcOf 60 = .ok (.goto (-55), 3) := by decide +kernel
theorem dX9_crcOf_63 : decode cX9_crcOf 63 = .ok (.iload_n 3, 1) := by decide +kernel
theorem dX9_crcOf_64 : decode cX9_crcOf 64 = .ok (.iconst (-1), 1) := by decide +kernel
theorem dX9_crcOf_65 : decode cX9_crcOf 65 = .ok (.ixor, 1) := by decide +kernel
theorem dX9_crcOf_66 : decode cX9_crcOf 66 = .ok (.ireturn, 1) := by decide +kernel
def m_Sums_crcOf_E57 (j4_2 : Int32) (j3_5 : Int32) : Option ((Int32 × Int32) ⊕ ((((Int32))))) :=
  bnd (j4_2 + (1 : Int32)) fun v4_6 =>
  some (.inl (j3_5, v4_6))
def m_Sums_crcOf_J50 (j5_8 : Int32) (s9 : Int32) : Option ((Int32 × Int32) ⊕ ((Int32))) :=
  bnd (j5_8 + (1 : Int32)) fun v5_10 =>
  some (.inl (s9, v5_10))
def m_Sums_crcOf_B25 (j3_7 : Int32) (j5_8 : Int32) : Option ((Int32 × Int32) ⊕ ((Int32))) :=
  if (8 : Int32) ≤ j5_8 then
    some (.inr j3_7)
  else
    if (j3_7 &&& (1 : Int32)) = 0 then
      m_Sums_crcOf_J50 j5_8 (iushr j3_7 (1 : Int32))
    else
      m_Sums_crcOf_J50 j5_8 ((iushr j3_7 (1 : Int32)) ^^^ (-2097792136 : Int32))
def m_Sums_crcOf_B5 (a1 : Int32) (a2 : Int32) (h0_count : Int32) (h0_held_n : Nat) (h0_held_f : Nat → Int32) (j3_1 : Int32) (j4_2 : Int32) : Option ((Int32 × Int32) ⊕ ((((Int32))))) :=
  if a2 ≤ j4_2 then
    some (.inr (j3_1 ^^^ (-1 : Int32)))
  else
    (m_Bytes_at (a1 + j4_2) h0_count h0_held_n h0_held_f).bind fun r3 =>
    bnd (j3_1 ^^^ r3) fun v3_4 =>
    (iter (fun st => m_Sums_crcOf_B25 st.1 st.2) FU (v3_4, (0 : Int32))).bind fun o => m_Sums_crcOf_E57 j4_2 o
def m_Sums_crcOf (a1 : Int32) (a2 : Int32) (h0_count : Int32) (h0_held_n : Nat) (h0_held_f : Nat → Int32) : Option (Int32) :=
  (iter (fun st => m_Sums_crcOf_B5 a1 a2 h0_count h0_held_n h0_held_f st.1 st.2) FU ((-1 : Int32), (0 : Int32))).bind fun o => some o
def rm_Sums_crcOf : Room := { frames := 1, cells := 0, slots := 0, locals := 21 }
set_option maxHeartbeats 4000000 in
set_option maxRecDepth 100000 in
theorem c_Sums_crcOf {l : Launch} {dC : Nat → ClassId} {dI : Nat → Nat → Nat} {cB cI : ClassId} {sz : Nat} {h0 : Nat} {a1 : Int32} {a2 : Int32} {h0_held : Nat} {h0_count : Int32} {h0_held_n : Nat} {h0_held_f : Nat → Int32} {o_r : Int32} (hf : m_Sums_crcOf a1 a2 h0_count h0_held_n h0_held_f = some o_r) : Met l yX9_crcOf (Cond.code yX9_crcOf cX9_crcOf 6 (some .int) :: lw_G) rm_Sums_crcOf (PreC (dC, dI) [(cB, .byte), (cI, .int)] [.ref h0, .int a1, .int a2] sz [(h0, .inr (2, [.ref h0_held, .int h0_count])), (h0_held, .inl (cB, h0_held_n, .inl h0_held_f))]) (QcI o_r (dC, dI) [(h0, .inr (2, [.ref h0_held, .int h0_count])), (h0_held, .inl (cB, h0_held_n, .inl h0_held_f))] (va_A [(h0, .inr (2, [.ref h0_held, .int h0_count])), (h0_held, .inl (cB, h0_held_n, .inl h0_held_f))] sz)) 0 0 (va_A [(h0, .inr (2, [.ref h0_held, .int h0_count])), (h0_held, .inl (cB, h0_held_n, .inl h0_held_f))] sz) := by
  refine met_of (Qf := fun A => QcI o_r (dC, dI) [(h0, .inr (2, [.ref h0_held, .int h0_count])), (h0_held, .inl (cB, h0_held_n, .inl h0_held_f))] A) (by decide) (Nat.le_of_ble_eq_true rfl) ?_
  intro p e s m below meth c A ls Q hx hb hr hml hown hts hlocks hnm hP hK hD hN hT hA hl hQ
  have hown : s.vm.findClass RX9 = some m.cls := hown
  have hS : va_S A s.heap s.heap [] := va_S.rf
  have hl : lv_has ls 6 [(0, .ref h0), (1, .int a1), (2, .int a2)] := hl
  unfold m_Sums_crcOf at hf
  refine lv_iconst (v := -1) hx hb dX9_crcOf_0 (by decide) ?_
  refine lv_istore_n (lv' := [(3, .int (-1 : Int32)), (0, .ref h0), (1, .int a1), (2, .int a2)]) hx hb dX9_crcOf_1 rfl hl (by decide) rfl (fun ls hl => ?_)
  refine lv_iconst (v := 0) hx hb dX9_crcOf_2 (by decide) ?_
  refine lv_istore (lv' := [(4, .int (0 : Int32)), (3, .int (-1 : Int32)), (0, .ref h0), (1, .int a1), (2, .int a2)]) hx hb dX9_crcOf_3 hl (by decide) rfl (fun ls hl => ?_)
  obtain ⟨o_5, hi_5, hk_5⟩ := bind_some hf
  have hL_5 : ∀ (n : Nat) (j3_1 : Int32) (j4_2 : Int32) (H : Heap) (locs : List Loc) (ls : Array Slot), iter (fun st => m_Sums_crcOf_B5 a1 a2 h0_count h0_held_n h0_held_f st.1 st.2) n (j3_1, j4_2) = some o_5 → va_P (dC, dI) vwCl [(h0, .inr (2, [.ref h0_held, .int h0_count])), (h0_held, .inl (cB, h0_held_n, .inl h0_held_f))] H → va_D A [(h0, .inr (2, [.ref h0_held, .int h0_count])), (h0_held, .inl (cB, h0_held_n, .inl h0_held_f))] → va_S A s.heap H locs → lv_has ls 6 [(0, .ref h0), (1, .int a1), (2, .int a2), (3, .int j3_1), (4, .int j4_2)] → W p l e (rm_Sums_crcOf) s m ([.ref h0, .int a1, .int a2] : List Value).toArray below meth c H locs 0 0 Q (F0 m 5 ls []) := by
    intro n
    induction n with
    | zero => intro j3_1 j4_2 H locs ls hf; exact absurd hf (fun z => by cases z)
    | succ n ih_5 =>
      intro j3_1 j4_2 H locs ls hf hP hD hS hl
      obtain ⟨r_5, hf, hr_5⟩ := iter_succ hf
      have hf : m_Sums_crcOf_B5 a1 a2 h0_count h0_held_n h0_held_f j3_1 j4_2 = some r_5 := hf
      unfold m_Sums_crcOf_B5 at hf
      refine lv_iload hx hb dX9_crcOf_5 (lv_at hl 4 rfl) ?_
      refine lv_iload_n hx hb dX9_crcOf_7 rfl (lv_at hl 2 rfl) ?_
      refine lv_icmp_ge (tgt := 63) hx hb dX9_crcOf_8 (by decide) (fun c_8 => ?_) (fun c_8 => ?_)
      · replace hf := if_t c_8 hf
        refine lv_iload_n hx hb dX9_crcOf_63 rfl (lv_at hl 3 rfl) ?_
        refine lv_iconst (v := -1) hx hb dX9_crcOf_64 (by decide) ?_
        refine lv_ixor hx hb dX9_crcOf_65 ?_
        replace hf : some (j3_1 ^^^ (-1 : Int32)) = some o_r := by have hq := hk_5; rw [iter_exit hf hr_5] at hq; exact hq
        obtain rfl := Option.some.inj hf
        exact rt_i hQ hx hb hr hlocks hP hD hS dX9_crcOf_66
      · replace hf := if_f c_8 hf
        refine lv_iload_n hx hb dX9_crcOf_11 rfl (lv_at hl 3 rfl) ?_
        refine lv_aload_n hx hb dX9_crcOf_12 rfl (lv_at hl 0 rfl) ?_
        refine lv_iload_n hx hb dX9_crcOf_13 rfl (lv_at hl 1 rfl) ?_
        refine lv_iload hx hb dX9_crcOf_14 (lv_at hl 4 rfl) ?_
        refine lv_iadd hx hb dX9_crcOf_16 ?_
        obtain ⟨r3, hc, hf⟩ := bind_some hf
        refine nx_i (rn_V (As := [.int (a1 + j4_2)]) (rest := [.int j3_1]) (n := 1) (ci := 2) (q0 := 0) ⟨hx, hb, hml, hown, hts⟩ (c_Bytes_at (l := l) (dC := dC) (dI := dI) (cB := cB) (cI := cI) (h0 := h0) (a1 := (a1 + j4_2)) (h0_held := h0_held) (h0_count := h0_count) (h0_held_n := h0_held_n) (h0_held_f := h0_held_f)  (o_r := r3) hc) (wV kw_770 kw_418 kw_419 kw_83 kw_420) (by decide +kernel) ⟨Nat.le_of_ble_eq_true rfl, Nat.le_of_ble_eq_true rfl⟩ hK hP hD hN hT hS (va_free (wc := [(h0, .inr (2, [.ref h0_held, .int h0_count])), (h0_held, .inl (cB, h0_held_n, .inl h0_held_f))]) hD hS hA [0, 1] rfl) [0, 1] rfl (by decide) rfl rfl rfl hl.1 rfl (lv_room (Nat.le_of_ble_eq_true rfl)) dX9_crcOf_17 ⟨Nat.le_of_ble_eq_true rfl, Nat.le_of_ble_eq_true rfl⟩) hP hD hS hA (wr := []) (w1 := [(h0, .inr (2, [.ref h0_held, .int h0_count])), (h0_held, .inl (cB, h0_held_n, .inl h0_held_f))]) (ws' := [(h0, .inr (2, [.ref h0_held, .int h0_count])), (h0_held, .inl (cB, h0_held_n, .inl h0_held_f))]) [0, 1] [] [0, 1] rfl rfl (by decide) (by decide) rfl (by decide) (fun H locs hP hD hS => ?_)
        refine lv_ixor hx hb dX9_crcOf_20 ?_
        refine lv_topi (fun v3_4 e_v3_4 => ?_)
        replace hf := bnd_at e_v3_4 hf
        refine lv_istore_n (lv' := [(3, .int v3_4), (0, .ref h0), (1, .int a1), (2, .int a2), (4, .int j4_2)]) hx hb dX9_crcOf_21 rfl hl (by decide) rfl (fun ls hl => ?_)
        refine lv_iconst (v := 0) hx hb dX9_crcOf_22 (by decide) ?_
        refine lv_istore (lv' := [(5, .int (0 : Int32)), (3, .int v3_4), (0, .ref h0), (1, .int a1), (2, .int a2), (4, .int j4_2)]) hx hb dX9_crcOf_23 hl (by decide) rfl (fun ls hl => ?_)
        have hJ_57 : ∀ (j3_5 : Int32) (H : Heap) (locs : List Loc) (ls : Array Slot), m_Sums_crcOf_E57 j4_2 j3_5 = some r_5 → va_P (dC, dI) vwCl [(h0, .inr (2, [.ref h0_held, .int h0_count])), (h0_held, .inl (cB, h0_held_n, .inl h0_held_f))] H → va_D A [(h0, .inr (2, [.ref h0_held, .int h0_count])), (h0_held, .inl (cB, h0_held_n, .inl h0_held_f))] → va_S A s.heap H locs → lv_has ls 6 [(0, .ref h0), (1, .int a1), (2, .int a2), (3, .int j3_5), (4, .int j4_2)] → W p l e (rm_Sums_crcOf) s m ([.ref h0, .int a1, .int a2] : List Value).toArray below meth c H locs 0 0 Q (F0 m 57 ls []) := by
          intro j3_5 H locs ls hf hP hD hS hl
          unfold m_Sums_crcOf_E57 at hf
          obtain ⟨v4_6, e_v4_6⟩ : ∃ y : Int32, y = (j4_2 + (1 : Int32)) := ⟨_, rfl⟩
          replace hf := bnd_at e_v4_6 hf
          refine lv_iinc (v := v4_6) (lv' := [(4, .int v4_6), (0, .ref h0), (1, .int a1), (2, .int a2), (3, .int j3_5)]) hx hb dX9_crcOf_57 hl (k := 4) rfl (by rw [e_v4_6]; rfl) (by decide) rfl (fun ls hl => ?_)
          refine lv_goto (tgt := 5) hx hb dX9_crcOf_60 (by decide) ?_
          exact ih_5 j3_5 v4_6 _ _ _ (iter_back hf hr_5) hP hD hS (lv_sub hl [1, 2, 3, 4, 0] rfl)
        obtain ⟨o_25, hi_25, hk_25⟩ := bind_some hf
        have hL_25 : ∀ (n : Nat) (j3_7 : Int32) (j5_8 : Int32) (H : Heap) (locs : List Loc) (ls : Array Slot), iter (fun st => m_Sums_crcOf_B25 st.1 st.2) n (j3_7, j5_8) = some o_25 → va_P (dC, dI) vwCl [(h0, .inr (2, [.ref h0_held, .int h0_count])), (h0_held, .inl (cB, h0_held_n, .inl h0_held_f))] H → va_D A [(h0, .inr (2, [.ref h0_held, .int h0_count])), (h0_held, .inl (cB, h0_held_n, .inl h0_held_f))] → va_S A s.heap H locs → lv_has ls 6 [(0, .ref h0), (1, .int a1), (2, .int a2), (3, .int j3_7), (4, .int j4_2), (5, .int j5_8)] → W p l e (rm_Sums_crcOf) s m ([.ref h0, .int a1, .int a2] : List Value).toArray below meth c H locs 0 0 Q (F0 m 25 ls []) := by
          intro n
          induction n with
          | zero => intro j3_7 j5_8 H locs ls hf; exact absurd hf (fun z => by cases z)
          | succ n ih_25 =>
            intro j3_7 j5_8 H locs ls hf hP hD hS hl
            obtain ⟨r_25, hf, hr_25⟩ := iter_succ hf
            have hf : m_Sums_crcOf_B25 j3_7 j5_8 = some r_25 := hf
            unfold m_Sums_crcOf_B25 at hf
            refine lv_iload hx hb dX9_crcOf_25 (lv_at hl 5 rfl) ?_
            refine lv_bipush (v := 8) hx hb dX9_crcOf_27 (by decide) ?_
            refine lv_icmp_ge (tgt := 57) hx hb dX9_crcOf_29 (by decide) (fun c_29 => ?_) (fun c_29 => ?_)
            · replace hf := if_t c_29 hf
              have hf : m_Sums_crcOf_E57 j4_2 j3_7 = some r_5 := by have hq := hk_25; rw [iter_exit hf hr_25] at hq; exact hq
              exact hJ_57 j3_7 _ _ _ hf hP hD hS (lv_sub hl [0, 1, 2, 3, 4] rfl)
            · replace hf := if_f c_29 hf
              refine lv_iload_n hx hb dX9_crcOf_32 rfl (lv_at hl 3 rfl) ?_
              refine lv_iconst (v := 1) hx hb dX9_crcOf_33 (by decide) ?_
              refine lv_iand hx hb dX9_crcOf_34 ?_
              have hJ_50 : ∀ (s9 : Int32) (H : Heap) (locs : List Loc) (ls : Array Slot), m_Sums_crcOf_J50 j5_8 s9 = some r_25 → va_P (dC, dI) vwCl [(h0, .inr (2, [.ref h0_held, .int h0_count])), (h0_held, .inl (cB, h0_held_n, .inl h0_held_f))] H → va_D A [(h0, .inr (2, [.ref h0_held, .int h0_count])), (h0_held, .inl (cB, h0_held_n, .inl h0_held_f))] → va_S A s.heap H locs → lv_has ls 6 [(0, .ref h0), (1, .int a1), (2, .int a2), (4, .int j4_2), (5, .int j5_8)] → W p l e (rm_Sums_crcOf) s m ([.ref h0, .int a1, .int a2] : List Value).toArray below meth c H locs 0 0 Q (F0 m 50 ls [.int s9]) := by
                intro s9 H locs ls hf hP hD hS hl
                unfold m_Sums_crcOf_J50 at hf
                refine lv_istore_n (lv' := [(3, .int s9), (0, .ref h0), (1, .int a1), (2, .int a2), (4, .int j4_2), (5, .int j5_8)]) hx hb dX9_crcOf_50 rfl hl (by decide) rfl (fun ls hl => ?_)
                obtain ⟨v5_10, e_v5_10⟩ : ∃ y : Int32, y = (j5_8 + (1 : Int32)) := ⟨_, rfl⟩
                replace hf := bnd_at e_v5_10 hf
                refine lv_iinc (v := v5_10) (lv' := [(5, .int v5_10), (3, .int s9), (0, .ref h0), (1, .int a1), (2, .int a2), (4, .int j4_2)]) hx hb dX9_crcOf_51 hl (k := 5) rfl (by rw [e_v5_10]; rfl) (by decide) rfl (fun ls hl => ?_)
                refine lv_goto (tgt := 25) hx hb dX9_crcOf_54 (by decide) ?_
                exact ih_25 s9 v5_10 _ _ _ (iter_back hf hr_25) hP hD hS (lv_sub hl [2, 3, 4, 1, 5, 0] rfl)
              refine lv_if_ne (tgt := 44) hx hb dX9_crcOf_35 (by decide) (fun c_35 => ?_) (fun c_35 => ?_)
              · replace hf := if_f c_35 hf
                refine lv_iload_n hx hb dX9_crcOf_44 rfl (lv_at hl 3 rfl) ?_
                refine lv_iconst (v := 1) hx hb dX9_crcOf_45 (by decide) ?_
                refine lv_iushr (v := (iushr j3_7 (1 : Int32))) hx hb dX9_crcOf_46 rfl ?_
                refine lv_ldc hx hb hown (hts _ kw_817) dX9_crcOf_47 ?_
                refine lv_ixor hx hb dX9_crcOf_49 ?_
                exact hJ_50 ((iushr j3_7 (1 : Int32)) ^^^ (-2097792136 : Int32)) _ _ _ hf hP hD hS (lv_sub hl [0, 1, 2, 4, 5] rfl)
              · replace hf := if_t c_35 hf
                refine lv_iload_n hx hb dX9_crcOf_38 rfl (lv_at hl 3 rfl) ?_
                refine lv_iconst (v := 1) hx hb dX9_crcOf_39 (by decide) ?_
                refine lv_iushr (v := (iushr j3_7 (1 : Int32))) hx hb dX9_crcOf_40 rfl ?_
                refine lv_goto (tgt := 50) hx hb dX9_crcOf_41 (by decide) ?_
                exact hJ_50 (iushr j3_7 (1 : Int32)) _ _ _ hf hP hD hS (lv_sub hl [0, 1, 2, 4, 5] rfl)
        exact hL_25 FU v3_4 (0 : Int32) _ _ _ hi_25 hP hD hS (lv_sub hl [2, 3, 4, 1, 5, 0] rfl)
  exact hL_5 FU (-1 : Int32) (0 : Int32) _ _ _ hi_5 hP hD hS (lv_sub hl [2, 3, 4, 1, 0] rfl)

theorem dX9_maskedCrcOf_0 : decode cX9_maskedCrcOf 0 = .ok (.aload_n 0, 1) := by decide +kernel
theorem dX9_maskedCrcOf_1 : decode cX9_maskedCrcOf 1 = .ok (.iload_n 1, 1) := by decide +kernel
theorem dX9_maskedCrcOf_2 : decode cX9_maskedCrcOf 2 = .ok (.iload_n 2, 1) := by decide +kernel
theorem dX9_maskedCrcOf_3 : decode cX9_maskedCrcOf 3 = .ok (.invokestatic 37, 3) := by decide +kernel
theorem dX9_maskedCrcOf_6 : decode cX9_maskedCrcOf 6 = .ok (.bipush 17, 2) := by decide +kernel
theorem dX9_maskedCrcOf_8 : decode cX9_maskedCrcOf 8 = .ok (.invokestatic 21, 3) := by decide +kernel
theorem dX9_maskedCrcOf_11 : decode cX9_maskedCrcOf 11 = .ok (.ldc 40, 2) := by decide +kernel
theorem dX9_maskedCrcOf_13 : decode cX9_maskedCrcOf 13 = .ok (.iadd, 1) := by decide +kernel
theorem dX9_maskedCrcOf_14 : decode cX9_maskedCrcOf 14 = .ok (.ireturn, 1) := by decide +kernel
def m_Sums_maskedCrcOf (a1 : Int32) (a2 : Int32) (h0_count : Int32) (h0_held_n : Nat) (h0_held_f : Nat → Int32) : Option (Int32) :=
  (m_Sums_crcOf a1 a2 h0_count h0_held_n h0_held_f).bind fun r1 =>
  (m_Sums_turned r1 (17 : Int32)).bind fun r2 =>
  some (r2 + (-1568478504 : Int32))
def rm_Sums_maskedCrcOf : Room := { frames := 2, cells := 0, slots := 0, locals := 46 }
set_option maxHeartbeats 4000000 in
set_option maxRecDepth 100000 in
theorem c_Sums_maskedCrcOf {l : Launch} {dC : Nat → ClassId} {dI : Nat → Nat → Nat} {cB cI : ClassId} {sz : Nat} {h0 : Nat} {a1 : Int32} {a2 : Int32} {h0_held : Nat} {h0_count : Int32} {h0_held_n : Nat} {h0_held_f : Nat → Int32} {o_r : Int32} (hf : m_Sums_maskedCrcOf a1 a2 h0_count h0_held_n h0_held_f = some o_r) : Met l yX9_maskedCrcOf (Cond.code yX9_maskedCrcOf cX9_maskedCrcOf 3 (some .int) :: lw_G) rm_Sums_maskedCrcOf (PreC (dC, dI) [(cB, .byte), (cI, .int)] [.ref h0, .int a1, .int a2] sz [(h0, .inr (2, [.ref h0_held, .int h0_count])), (h0_held, .inl (cB, h0_held_n, .inl h0_held_f))]) (QcI o_r (dC, dI) [(h0, .inr (2, [.ref h0_held, .int h0_count])), (h0_held, .inl (cB, h0_held_n, .inl h0_held_f))] (va_A [(h0, .inr (2, [.ref h0_held, .int h0_count])), (h0_held, .inl (cB, h0_held_n, .inl h0_held_f))] sz)) 0 0 (va_A [(h0, .inr (2, [.ref h0_held, .int h0_count])), (h0_held, .inl (cB, h0_held_n, .inl h0_held_f))] sz) := by
  refine met_of (Qf := fun A => QcI o_r (dC, dI) [(h0, .inr (2, [.ref h0_held, .int h0_count])), (h0_held, .inl (cB, h0_held_n, .inl h0_held_f))] A) (by decide) (Nat.le_of_ble_eq_true rfl) ?_
  intro p e s m below meth c A ls Q hx hb hr hml hown hts hlocks hnm hP hK hD hN hT hA hl hQ
  have hown : s.vm.findClass RX9 = some m.cls := hown
  have hS : va_S A s.heap s.heap [] := va_S.rf
  have hl : lv_has ls 3 [(0, .ref h0), (1, .int a1), (2, .int a2)] := hl
  unfold m_Sums_maskedCrcOf at hf
  refine lv_aload_n hx hb dX9_maskedCrcOf_0 rfl (lv_at hl 0 rfl) ?_
  refine lv_iload_n hx hb dX9_maskedCrcOf_1 rfl (lv_at hl 1 rfl) ?_
  refine lv_iload_n hx hb dX9_maskedCrcOf_2 rfl (lv_at hl 2 rfl) ?_
  obtain ⟨r1, hc, hf⟩ := bind_some hf
  refine nx_i (rn_S (As := [.ref h0, .int a1, .int a2]) (rest := []) (n := 3) ⟨hx, hb, hml, hown, hts⟩ (c_Sums_crcOf (l := l) (dC := dC) (dI := dI) (cB := cB) (cI := cI) (h0 := h0) (a1 := a1) (a2 := a2) (h0_held := h0_held) (h0_count := h0_count) (h0_held_n := h0_held_n) (h0_held_f := h0_held_f)  (o_r := r1) hc) (wS kw_814 kw_815 kw_97 kw_816) (by decide +kernel) ⟨Nat.le_of_ble_eq_true rfl, Nat.le_of_ble_eq_true rfl⟩ hK hP hD hN hT hS (va_free (wc := [(h0, .inr (2, [.ref h0_held, .int h0_count])), (h0_held, .inl (cB, h0_held_n, .inl h0_held_f))]) hD hS hA [0, 1] rfl) [0, 1] rfl (by decide) rfl hl.1 rfl (lv_room (Nat.le_of_ble_eq_true rfl)) dX9_maskedCrcOf_3 ⟨Nat.le_of_ble_eq_true rfl, Nat.le_of_ble_eq_true rfl⟩) hP hD hS hA (wr := []) (w1 := [(h0, .inr (2, [.ref h0_held, .int h0_count])), (h0_held, .inl (cB, h0_held_n, .inl h0_held_f))]) (ws' := [(h0, .inr (2, [.ref h0_held, .int h0_count])), (h0_held, .inl (cB, h0_held_n, .inl h0_held_f))]) [0, 1] [] [0, 1] rfl rfl (by decide) (by decide) rfl (by decide) (fun H locs hP hD hS => ?_)
  refine lv_bipush (v := 17) hx hb dX9_maskedCrcOf_6 (by decide) ?_
  obtain ⟨r2, hc, hf⟩ := bind_some hf
  refine nx_i (rn_S (As := [.int r1, .int (17 : Int32)]) (rest := []) (n := 2) ⟨hx, hb, hml, hown, hts⟩ (c_Sums_turned (l := l) (dC := dC) (dI := dI) (cB := cB) (cI := cI) (a0 := r1) (a1 := (17 : Int32))  (o_r := r2) hc) (wS kw_764 kw_765 kw_97 kw_766) (by decide +kernel) ⟨Nat.le_of_ble_eq_true rfl, Nat.le_of_ble_eq_true rfl⟩ hK hP hD hN hT hS (va_free (wc := []) hD hS hA [] rfl) [] rfl (by decide) rfl hl.1 rfl (lv_room (Nat.le_of_ble_eq_true rfl)) dX9_maskedCrcOf_8 ⟨Nat.le_of_ble_eq_true rfl, Nat.le_of_ble_eq_true rfl⟩) hP hD hS hA (wr := [(h0, .inr (2, [.ref h0_held, .int h0_count])), (h0_held, .inl (cB, h0_held_n, .inl h0_held_f))]) (w1 := []) (ws' := [(h0, .inr (2, [.ref h0_held, .int h0_count])), (h0_held, .inl (cB, h0_held_n, .inl h0_held_f))]) [] [0, 1] [0, 1] rfl rfl (by decide) (by decide) rfl (by decide) (fun H locs hP hD hS => ?_)
  refine lv_ldc hx hb hown (hts _ kw_818) dX9_maskedCrcOf_11 ?_
  refine lv_iadd hx hb dX9_maskedCrcOf_13 ?_
  obtain rfl := Option.some.inj hf
  exact rt_i hQ hx hb hr hlocks hP hD hS dX9_maskedCrcOf_14

