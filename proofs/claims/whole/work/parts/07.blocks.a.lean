theorem dX1_size_0 : decode cX1_size 0 = .ok (.aload_n 0, 1) := by decide +kernel
theorem dX1_size_1 : decode cX1_size 1 = .ok (.getfield 15, 3) := by decide +kernel
theorem dX1_size_4 : decode cX1_size 4 = .ok (.ireturn, 1) := by decide +kernel
def m_Blocks_size (h0_count : Int32) : Option (Int32) :=
  some h0_count
def rm_Blocks_size : Room := { frames := 0, cells := 0, slots := 0, locals := 0 }
set_option maxHeartbeats 4000000 in
set_option maxRecDepth 100000 in
theorem c_Blocks_size {l : Launch} {dC : Nat → ClassId} {dI : Nat → Nat → Nat} {cB cI : ClassId} {sz : Nat} {h0 : Nat} {w_h0_facts : Value} {h0_count : Int32} {o_r : Int32} (hf : m_Blocks_size h0_count = some o_r) : Met l yX1_size (Cond.code yX1_size cX1_size 1 (some .int) :: lw_G) rm_Blocks_size (PreC (dC, dI) [(cB, .byte), (cI, .int)] [.ref h0] sz [(h0, .inr (1, [w_h0_facts, .int h0_count]))]) (QcI o_r (dC, dI) [(h0, .inr (1, [w_h0_facts, .int h0_count]))] (va_A [(h0, .inr (1, [w_h0_facts, .int h0_count]))] sz)) 0 0 (va_A [(h0, .inr (1, [w_h0_facts, .int h0_count]))] sz) := by
  refine met_of (Qf := fun A => QcI o_r (dC, dI) [(h0, .inr (1, [w_h0_facts, .int h0_count]))] A) (by decide) (Nat.le_of_ble_eq_true rfl) ?_
  intro p e s m below meth c A ls Q hx hb hr hml hown hts hlocks hnm hP hK hD hN hT hA hl hQ
  have hown : s.vm.findClass RX1 = some m.cls := hown
  have hS : va_S A s.heap s.heap [] := va_S.rf
  have hl : lv_has ls 1 [(0, .ref h0)] := hl
  unfold m_Blocks_size at hf
  refine lv_aload_n hx hb dX1_size_0 rfl (lv_at hl 0 rfl) ?_
  refine va_get (D := (dC, dI)) (ci := 1) (v := .int h0_count) (C := RX1) (T := TX1) (N := 2) hx hb hts inG_X1 hown hK hP 0 rfl rfl 1 (by decide) (hts _ kw_348) (fun _ h9 => h9) rfl dX1_size_1 ?_
  obtain rfl := Option.some.inj hf
  exact rt_i hQ hx hb hr hlocks hP hD hS dX1_size_4

theorem dX1_fact_0 : decode cX1_fact 0 = .ok (.iload_n 1, 1) := by decide +kernel
theorem dX1_fact_1 : decode cX1_fact 1 = .ok (.ifCond .lt 21, 3) := by decide +kernel
theorem dX1_fact_4 : decode cX1_fact 4 = .ok (.iload_n 1, 1) := by decide +kernel
theorem dX1_fact_5 : decode cX1_fact 5 = .ok (.aload_n 0, 1) := by decide +kernel
theorem dX1_fact_6 : decode cX1_fact 6 = .ok (.getfield 15, 3) := by decide +kernel
theorem dX1_fact_9 : decode cX1_fact 9 = .ok (.if_icmp .ge 13, 3) := by decide +kernel
theorem dX1_fact_12 : decode cX1_fact 12 = .ok (.iload_n 2, 1) := by decide +kernel
theorem dX1_fact_13 : decode cX1_fact 13 = .ok (.ifCond .lt 9, 3) := by decide +kernel
theorem dX1_fact_16 : decode cX1_fact 16 = .ok (.iload_n 2, 1) := by decide +kernel
theorem dX1_fact_17 : decode cX1_fact 17 = .ok (.bipush 7, 2) := by decide +kernel
theorem dX1_fact_19 : decode cX1_fact 19 = .ok (.if_icmp .lt 7, 3) := by decide +kernel
theorem dX1_fact_22 : decode cX1_fact 22 = .ok (.iconst 0, 1) := by decide +kernel
theorem dX1_fact_23 : decode cX1_fact 23 = .ok (.goto 14, 3) := by decide +kernel
theorem dX1_fact_26 : decode cX1_fact 26 = .ok (.aload_n 0, 1) := by decide +kernel
theorem dX1_fact_27 : decode cX1_fact 27 = .ok (.getfield 11, 3) := by decide +kernel
theorem dX1_fact_30 : decode cX1_fact 30 = .ok (.iload_n 1, 1) := by decide +kernel
theorem dX1_fact_31 : decode cX1_fact 31 = .ok (.bipush 7, 2) := by decide +kernel
theorem dX1_fact_33 : decode cX1_fact 33 = .ok (.imul, 1) := by decide +kernel
theorem dX1_fact_34 : decode cX1_fact 34 = .ok (.iload_n 2, 1) := by decide +kernel
theorem dX1_fact_35 : decode cX1_fact 35 = .ok (.iadd, 1) := by decide +kernel
theorem dX1_fact_36 : decode cX1_fact 36 = .ok (.iaload, 1) := by decide +kernel
theorem dX1_fact_37 : decode cX1_fact 37 = .ok (.ireturn, 1) := by decide +kernel
def m_Blocks_fact (a1 : Int32) (a2 : Int32) (h0_count : Int32) (h0_facts_n : Nat) (h0_facts_f : Nat → Int32) : Option (Int32) :=
  if a1 < 0 then
    some (0 : Int32)
  else
    if h0_count ≤ a1 then
      some (0 : Int32)
    else
      if a2 < 0 then
        some (0 : Int32)
      else
        if a2 < (7 : Int32) then
          chk ((a1 * (7 : Int32)) + a2) h0_facts_n <|
          some (h0_facts_f ((a1 * (7 : Int32)) + a2).toNatClampNeg)
        else
          some (0 : Int32)
def rm_Blocks_fact : Room := { frames := 0, cells := 0, slots := 0, locals := 0 }
set_option maxHeartbeats 4000000 in
set_option maxRecDepth 100000 in
theorem c_Blocks_fact {l : Launch} {dC : Nat → ClassId} {dI : Nat → Nat → Nat} {cB cI : ClassId} {sz : Nat} {h0 : Nat} {a1 : Int32} {a2 : Int32} {h0_facts : Nat} {h0_count : Int32} {h0_facts_n : Nat} {h0_facts_f : Nat → Int32} {o_r : Int32} (hf : m_Blocks_fact a1 a2 h0_count h0_facts_n h0_facts_f = some o_r) : Met l yX1_fact (Cond.code yX1_fact cX1_fact 3 (some .int) :: lw_G) rm_Blocks_fact (PreC (dC, dI) [(cB, .byte), (cI, .int)] [.ref h0, .int a1, .int a2] sz [(h0, .inr (1, [.ref h0_facts, .int h0_count])), (h0_facts, .inl (cI, h0_facts_n, .inl h0_facts_f))]) (QcI o_r (dC, dI) [(h0, .inr (1, [.ref h0_facts, .int h0_count])), (h0_facts, .inl (cI, h0_facts_n, .inl h0_facts_f))] (va_A [(h0, .inr (1, [.ref h0_facts, .int h0_count])), (h0_facts, .inl (cI, h0_facts_n, .inl h0_facts_f))] sz)) 0 0 (va_A [(h0, .inr (1, [.ref h0_facts, .int h0_count])), (h0_facts, .inl (cI, h0_facts_n, .inl h0_facts_f))] sz) := by
  refine met_of (Qf := fun A => QcI o_r (dC, dI) [(h0, .inr (1, [.ref h0_facts, .int h0_count])), (h0_facts, .inl (cI, h0_facts_n, .inl h0_facts_f))] A) (by decide) (Nat.le_of_ble_eq_true rfl) ?_
  intro p e s m below meth c A ls Q hx hb hr hml hown hts hlocks hnm hP hK hD hN hT hA hl hQ
  have hown : s.vm.findClass RX1 = some m.cls := hown
  have hS : va_S A s.heap s.heap [] := va_S.rf
  have hl : lv_has ls 3 [(0, .ref h0), (1, .int a1), (2, .int a2)] := hl
  unfold m_Blocks_fact at hf
  refine lv_iload_n hx hb dX1_fact_0 rfl (lv_at hl 1 rfl) ?_
  refine lv_if_lt (tgt := 22) hx hb dX1_fact_1 (by decide) (fun c_1 => ?_) (fun c_1 => ?_)
  · replace hf := if_t c_1 hf
    refine lv_iconst (v := 0) hx hb dX1_fact_22 (by decide) ?_
    refine lv_goto (tgt := 37) hx hb dX1_fact_23 (by decide) ?_
    obtain rfl := Option.some.inj hf
    exact rt_i hQ hx hb hr hlocks hP hD hS dX1_fact_37
  · replace hf := if_f c_1 hf
    refine lv_iload_n hx hb dX1_fact_4 rfl (lv_at hl 1 rfl) ?_
    refine lv_aload_n hx hb dX1_fact_5 rfl (lv_at hl 0 rfl) ?_
    refine va_get (D := (dC, dI)) (ci := 1) (v := .int h0_count) (C := RX1) (T := TX1) (N := 2) hx hb hts inG_X1 hown hK hP 0 rfl rfl 1 (by decide) (hts _ kw_348) (fun _ h9 => h9) rfl dX1_fact_6 ?_
    refine lv_icmp_ge (tgt := 22) hx hb dX1_fact_9 (by decide) (fun c_9 => ?_) (fun c_9 => ?_)
    · replace hf := if_t c_9 hf
      refine lv_iconst (v := 0) hx hb dX1_fact_22 (by decide) ?_
      refine lv_goto (tgt := 37) hx hb dX1_fact_23 (by decide) ?_
      obtain rfl := Option.some.inj hf
      exact rt_i hQ hx hb hr hlocks hP hD hS dX1_fact_37
    · replace hf := if_f c_9 hf
      refine lv_iload_n hx hb dX1_fact_12 rfl (lv_at hl 2 rfl) ?_
      refine lv_if_lt (tgt := 22) hx hb dX1_fact_13 (by decide) (fun c_13 => ?_) (fun c_13 => ?_)
      · replace hf := if_t c_13 hf
        refine lv_iconst (v := 0) hx hb dX1_fact_22 (by decide) ?_
        refine lv_goto (tgt := 37) hx hb dX1_fact_23 (by decide) ?_
        obtain rfl := Option.some.inj hf
        exact rt_i hQ hx hb hr hlocks hP hD hS dX1_fact_37
      · replace hf := if_f c_13 hf
        refine lv_iload_n hx hb dX1_fact_16 rfl (lv_at hl 2 rfl) ?_
        refine lv_bipush (v := 7) hx hb dX1_fact_17 (by decide) ?_
        refine lv_icmp_lt (tgt := 26) hx hb dX1_fact_19 (by decide) (fun c_19 => ?_) (fun c_19 => ?_)
        · replace hf := if_t c_19 hf
          refine lv_aload_n hx hb dX1_fact_26 rfl (lv_at hl 0 rfl) ?_
          refine va_get (D := (dC, dI)) (ci := 1) (v := .ref h0_facts) (C := RX1) (T := TX1) (N := 2) hx hb hts inG_X1 hown hK hP 0 rfl rfl 0 (by decide) (hts _ kw_347) (fun _ h9 => h9) rfl dX1_fact_27 ?_
          refine lv_iload_n hx hb dX1_fact_30 rfl (lv_at hl 1 rfl) ?_
          refine lv_bipush (v := 7) hx hb dX1_fact_31 (by decide) ?_
          refine lv_imul hx hb dX1_fact_33 ?_
          refine lv_iload_n hx hb dX1_fact_34 rfl (lv_at hl 2 rfl) ?_
          refine lv_iadd hx hb dX1_fact_35 ?_
          obtain ⟨hin, hf⟩ := chk_some hf
          refine va_iald hx hb hK hP 1 1 rfl rfl hin dX1_fact_36 ?_
          obtain rfl := Option.some.inj hf
          exact rt_i hQ hx hb hr hlocks hP hD hS dX1_fact_37
        · replace hf := if_f c_19 hf
          refine lv_iconst (v := 0) hx hb dX1_fact_22 (by decide) ?_
          refine lv_goto (tgt := 37) hx hb dX1_fact_23 (by decide) ?_
          obtain rfl := Option.some.inj hf
          exact rt_i hQ hx hb hr hlocks hP hD hS dX1_fact_37

theorem dX1_clear_0 : decode cX1_clear 0 = .ok (.aload_n 0, 1) := by decide +kernel
theorem dX1_clear_1 : decode cX1_clear 1 = .ok (.iconst 0, 1) := by decide +kernel
theorem dX1_clear_2 : decode cX1_clear 2 = .ok (.putfield 15, 3) := by decide +kernel
theorem dX1_clear_5 : decode cX1_clear 5 = .ok (.return_, 1) := by decide +kernel
def m_Blocks_clear : Option (Int32) :=
  some (0 : Int32)
def rm_Blocks_clear : Room := { frames := 0, cells := 0, slots := 0, locals := 0 }
set_option maxHeartbeats 4000000 in
set_option maxRecDepth 100000 in
theorem c_Blocks_clear {l : Launch} {dC : Nat → ClassId} {dI : Nat → Nat → Nat} {cB cI : ClassId} {sz : Nat} {h0 : Nat} {w_h0_facts : Value} {h0_count : Int32} {o_h0_count : Int32} (hf : m_Blocks_clear = some o_h0_count) : Met l yX1_clear (Cond.code yX1_clear cX1_clear 1 none :: lw_G) rm_Blocks_clear (PreC (dC, dI) [(cB, .byte), (cI, .int)] [.ref h0] sz [(h0, .inr (1, [w_h0_facts, .int h0_count]))]) (QcV (dC, dI) [(h0, .inr (1, [w_h0_facts, .int o_h0_count]))] (va_A [(h0, .inr (1, [w_h0_facts, .int h0_count]))] sz)) 0 0 (va_A [(h0, .inr (1, [w_h0_facts, .int h0_count]))] sz) := by
  refine met_of (Qf := fun A => QcV (dC, dI) [(h0, .inr (1, [w_h0_facts, .int o_h0_count]))] A) (by decide) (Nat.le_of_ble_eq_true rfl) ?_
  intro p e s m below meth c A ls Q hx hb hr hml hown hts hlocks hnm hP hK hD hN hT hA hl hQ
  have hown : s.vm.findClass RX1 = some m.cls := hown
  have hS : va_S A s.heap s.heap [] := va_S.rf
  have hl : lv_has ls 1 [(0, .ref h0)] := hl
  unfold m_Blocks_clear at hf
  refine lv_aload_n hx hb dX1_clear_0 rfl (lv_at hl 0 rfl) ?_
  refine lv_iconst (v := 0) hx hb dX1_clear_1 (by decide) ?_
  refine va_put (D := (dC, dI)) (ci := 1) (v := .int (0 : Int32)) (ty := .int) (C := RX1) (T := TX1) (N := 2) hx hb hts inG_X1 tyX1 tyX1_ok nmX1 hown hK hP hD hS 0 rfl rfl 1 (by decide) (hts _ kw_348) (fun _ h9 => h9) rfl (by decide +kernel) rfl rfl (Nat.le_of_ble_eq_true rfl) dX1_clear_2 (fun H locs hP hD hS => ?_)
  have hP : va_P (dC, dI) vwCl [(h0, .inr (1, [w_h0_facts, .int (0 : Int32)]))] H := hP
  have hD : va_D A [(h0, .inr (1, [w_h0_facts, .int (0 : Int32)]))] := hD
  obtain rfl := Option.some.inj hf
  exact rt_v hQ hx hb hr hlocks hP hD hS dX1_clear_5

theorem dX1_addRow_0 : decode cX1_addRow 0 = .ok (.aload_n 0, 1) := by decide +kernel
theorem dX1_addRow_1 : decode cX1_addRow 1 = .ok (.getfield 15, 3) := by decide +kernel
theorem dX1_addRow_4 : decode cX1_addRow 4 = .ok (.sipush 1000, 3) := by decide +kernel
theorem dX1_addRow_7 : decode cX1_addRow 7 = .ok (.if_icmp .ge 95, 3) := by decide +kernel
theorem dX1_addRow_10 : decode cX1_addRow 10 = .ok (.aload_n 0, 1) := by decide +kernel
theorem dX1_addRow_11 : decode cX1_addRow 11 = .ok (.getfield 15, 3) := by decide +kernel
theorem dX1_addRow_14 : decode cX1_addRow 14 = .ok (.bipush 7, 2) := by decide +kernel
theorem dX1_addRow_16 : decode cX1_addRow 16 = .ok (.imul, 1) := by decide +kernel
theorem dX1_addRow_17 : decode cX1_addRow 17 = .ok (.istore 8, 2) := by decide +kernel
theorem dX1_addRow_19 : decode cX1_addRow 19 = .ok (.aload_n 0, 1) := by decide +kernel
theorem dX1_addRow_20 : decode cX1_addRow 20 = .ok (.getfield 11, 3) := by decide +kernel
theorem dX1_addRow_23 : decode cX1_addRow 23 = .ok (.iload 8, 2) := by decide +kernel
theorem dX1_addRow_25 : decode cX1_addRow 25 = .ok (.iload_n 1, 1) := by decide +kernel
theorem dX1_addRow_26 : decode cX1_addRow 26 = .ok (.iastore, 1) := by decide +kernel
theorem dX1_addRow_27 : decode cX1_addRow 27 = .ok (.aload_n 0, 1) := by decide +kernel
theorem dX1_addRow_28 : decode cX1_addRow 28 = .ok (.getfield 11, 3) := by decide +kernel
theorem dX1_addRow_31 : decode cX1_addRow 31 = .ok (.iload 8, 2) := by decide +kernel
theorem dX1_addRow_33 : decode cX1_addRow 33 = .ok (.iconst 1, 1) := by decide +kernel
theorem dX1_addRow_34 : decode cX1_addRow 34 = .ok (.iadd, 1) := by decide +kernel
theorem dX1_addRow_35 : decode cX1_addRow 35 = .ok (.iload_n 2, 1) := by decide +kernel
theorem dX1_addRow_36 : decode cX1_addRow 36 = .ok (.iastore, 1) := by decide +kernel
theorem dX1_addRow_37 : decode cX1_addRow 37 = .ok (.aload_n 0, 1) := by decide +kernel
theorem dX1_addRow_38 : decode cX1_addRow 38 = .ok (.getfield 11, 3) := by decide +kernel
theorem dX1_addRow_41 : decode cX1_addRow 41 = .ok (.iload 8, 2) := by decide +kernel
theorem dX1_addRow_43 : decode cX1_addRow 43 = .ok (.iconst 2, 1) := by decide +kernel
theorem dX1_addRow_44 : decode cX1_addRow 44 = .ok (.iadd, 1) := by decide +kernel
theorem dX1_addRow_45 : decode cX1_addRow 45 = .ok (.iload_n 3, 1) := by decide +kernel
theorem dX1_addRow_46 : decode cX1_addRow 46 = .ok (.iastore, 1) := by decide +kernel
theorem dX1_addRow_47 : decode cX1_addRow 47 = .ok (.aload_n 0, 1) := by decide +kernel
theorem dX1_addRow_48 : decode cX1_addRow 48 = .ok (.getfield 11, 3) := by decide +kernel
theorem dX1_addRow_51 : decode cX1_addRow 51 = .ok (.iload 8, 2) := by decide +kernel
theorem dX1_addRow_53 : decode cX1_addRow 53 = .ok (.iconst 3, 1) := by decide +kernel
theorem dX1_addRow_54 : decode cX1_addRow 54 = .ok (.iadd, 1) := by decide +kernel
theorem dX1_addRow_55 : decode cX1_addRow 55 = .ok (.iload 4, 2) := by decide +kernel
theorem dX1_addRow_57 : decode cX1_addRow 57 = .ok (.iastore, 1) := by decide +kernel
theorem dX1_addRow_58 : decode cX1_addRow 58 = .ok (.aload_n 0, 1) := by decide +kernel
theorem dX1_addRow_59 : decode cX1_addRow 59 = .ok (.getfield 11, 3) := by decide +kernel
theorem dX1_addRow_62 : decode cX1_addRow 62 = .ok (.iload 8, 2) := by decide +kernel
theorem dX1_addRow_64 : decode cX1_addRow 64 = .ok (.iconst 4, 1) := by decide +kernel
theorem dX1_addRow_65 : decode cX1_addRow 65 = .ok (.iadd, 1) := by decide +kernel
theorem dX1_addRow_66 : decode cX1_addRow 66 = .ok (.iload 5, 2) := by decide +kernel
theorem dX1_addRow_68 : decode cX1_addRow 68 = .ok (.iastore, 1) := by decide +kernel
theorem dX1_addRow_69 : decode cX1_addRow 69 = .ok (.aload_n 0, 1) := by decide +kernel
theorem dX1_addRow_70 : decode cX1_addRow 70 = .ok (.getfield 11, 3) := by decide +kernel
theorem dX1_addRow_73 : decode cX1_addRow 73 = .ok (.iload 8, 2) := by decide +kernel
theorem dX1_addRow_75 : decode cX1_addRow 75 = .ok (.iconst 5, 1) := by decide +kernel
theorem dX1_addRow_76 : decode cX1_addRow 76 = .ok (.iadd, 1) := by decide +kernel
theorem dX1_addRow_77 : decode cX1_addRow 77 = .ok (.iload 6, 2) := by decide +kernel
theorem dX1_addRow_79 : decode cX1_addRow 79 = .ok (.iastore, 1) := by decide +kernel
theorem dX1_addRow_80 : decode cX1_addRow 80 = .ok (.aload_n 0, 1) := by decide +kernel
theorem dX1_addRow_81 : decode cX1_addRow 81 = .ok (.getfield 11, 3) := by decide +kernel
theorem dX1_addRow_84 : decode cX1_addRow 84 = .ok (.iload 8, 2) := by decide +kernel
theorem dX1_addRow_86 : decode cX1_addRow 86 = .ok (.bipush 6, 2) := by decide +kernel
theorem dX1_addRow_88 : decode cX1_addRow 88 = .ok (.iadd, 1) := by decide +kernel
theorem dX1_addRow_89 : decode cX1_addRow 89 = .ok (.iload 7, 2) := by decide +kernel
theorem dX1_addRow_91 : decode cX1_addRow 91 = .ok (.iastore, 1) := by decide +kernel
theorem dX1_addRow_92 : decode cX1_addRow 92 = .ok (.aload_n 0, 1) := by decide +kernel
theorem dX1_addRow_93 : decode cX1_addRow 93 = .ok (.dup, 1) := by decide +kernel
theorem dX1_addRow_94 : decode cX1_addRow 94 = .ok (.getfield 15, 3) := by decide +kernel
theorem dX1_addRow_97 : decode cX1_addRow 97 = .ok (.iconst 1, 1) := by decide +kernel
theorem dX1_addRow_98 : decode cX1_addRow 98 = .ok (.iadd, 1) := by decide +kernel
theorem dX1_addRow_99 : decode cX1_addRow 99 = .ok (.putfield 15, 3) := by decide +kernel
theorem dX1_addRow_102 : decode cX1_addRow 102 = .ok (.return_, 1) := by decide +kernel
def m_Blocks_addRow (a1 : Int32) (a2 : Int32) (a3 : Int32) (a4 : Int32) (a5 : Int32) (a6 : Int32) (a7 : Int32) (h0_count : Int32) (h0_facts_n : Nat) (h0_facts_f : Nat → Int32) : Option (Int32 × (Nat → Int32)) :=
  if (1000 : Int32) ≤ h0_count then
    some (h0_count, h0_facts_f)
  else
    bnd (h0_count * (7 : Int32)) fun v8_1 =>
    chk v8_1 h0_facts_n <|
    chk (v8_1 + (1 : Int32)) h0_facts_n <|
    chk (v8_1 + (2 : Int32)) h0_facts_n <|
    chk (v8_1 + (3 : Int32)) h0_facts_n <|
    chk (v8_1 + (4 : Int32)) h0_facts_n <|
    chk (v8_1 + (5 : Int32)) h0_facts_n <|
    chk (v8_1 + (6 : Int32)) h0_facts_n <|
    bnd (h0_count + (1 : Int32)) fun p_2 =>
    some (p_2, (upd (upd (upd (upd (upd (upd (upd h0_facts_f v8_1.toNatClampNeg a1) (v8_1 + (1 : Int32)).toNatClampNeg a2) (v8_1 + (2 : Int32)).toNatClampNeg a3) (v8_1 + (3 : Int32)).toNatClampNeg a4) (v8_1 + (4 : Int32)).toNatClampNeg a5) (v8_1 + (5 : Int32)).toNatClampNeg a6) (v8_1 + (6 : Int32)).toNatClampNeg a7))
def rm_Blocks_addRow : Room := { frames := 0, cells := 0, slots := 0, locals := 0 }
set_option maxHeartbeats 4000000 in
set_option maxRecDepth 100000 in
theorem c_Blocks_addRow {l : Launch} {dC : Nat → ClassId} {dI : Nat → Nat → Nat} {cB cI : ClassId} {sz : Nat} {h0 : Nat} {a1 : Int32} {a2 : Int32} {a3 : Int32} {a4 : Int32} {a5 : Int32} {a6 : Int32} {a7 : Int32} {h0_facts : Nat} {h0_count : Int32} {h0_facts_n : Nat} {h0_facts_f : Nat → Int32} {o_h0_count : Int32} {o_h0_facts_f : Nat → Int32} (hf : m_Blocks_addRow a1 a2 a3 a4 a5 a6 a7 h0_count h0_facts_n h0_facts_f = some (o_h0_count, o_h0_facts_f)) : Met l yX1_addRow (Cond.code yX1_addRow cX1_addRow 9 none :: lw_G) rm_Blocks_addRow (PreC (dC, dI) [(cB, .byte), (cI, .int)] [.ref h0, .int a1, .int a2, .int a3, .int a4, .int a5, .int a6, .int a7] sz [(h0, .inr (1, [.ref h0_facts, .int h0_count])), (h0_facts, .inl (cI, h0_facts_n, .inl h0_facts_f))]) (QcV (dC, dI) [(h0, .inr (1, [.ref h0_facts, .int o_h0_count])), (h0_facts, .inl (cI, h0_facts_n, .inl o_h0_facts_f))] (va_A [(h0, .inr (1, [.ref h0_facts, .int h0_count])), (h0_facts, .inl (cI, h0_facts_n, .inl h0_facts_f))] sz)) 0 0 (va_A [(h0, .inr (1, [.ref h0_facts, .int h0_count])), (h0_facts, .inl (cI, h0_facts_n, .inl h0_facts_f))] sz) := by
  refine met_of (Qf := fun A => QcV (dC, dI) [(h0, .inr (1, [.ref h0_facts, .int o_h0_count])), (h0_facts, .inl (cI, h0_facts_n, .inl o_h0_facts_f))] A) (by decide) (Nat.le_of_ble_eq_true rfl) ?_
  intro p e s m below meth c A ls Q hx hb hr hml hown hts hlocks hnm hP hK hD hN hT hA hl hQ
  have hown : s.vm.findClass RX1 = some m.cls := hown
  have hS : va_S A s.heap s.heap [] := va_S.rf
  have hl : lv_has ls 9 [(0, .ref h0), (1, .int a1), (2, .int a2), (3, .int a3), (4, .int a4), (5, .int a5), (6, .int a6), (7, .int a7)] := hl
  unfold m_Blocks_addRow at hf
  refine lv_aload_n hx hb dX1_addRow_0 rfl (lv_at hl 0 rfl) ?_
  refine va_get (D := (dC, dI)) (ci := 1) (v := .int h0_count) (C := RX1) (T := TX1) (N := 2) hx hb hts inG_X1 hown hK hP 0 rfl rfl 1 (by decide) (hts _ kw_348) (fun _ h9 => h9) rfl dX1_addRow_1 ?_
  refine lv_sipush (v := 1000) hx hb dX1_addRow_4 (by decide) ?_
  refine lv_icmp_ge (tgt := 102) hx hb dX1_addRow_7 (by decide) (fun c_7 => ?_) (fun c_7 => ?_)
  · replace hf := if_t c_7 hf
    obtain ⟨rfl, hq_1⟩ := Prod.mk.inj (Option.some.inj hf)
    obtain rfl := hq_1
    exact rt_v hQ hx hb hr hlocks hP hD hS dX1_addRow_102
  · replace hf := if_f c_7 hf
    refine lv_aload_n hx hb dX1_addRow_10 rfl (lv_at hl 0 rfl) ?_
    refine va_get (D := (dC, dI)) (ci := 1) (v := .int h0_count) (C := RX1) (T := TX1) (N := 2) hx hb hts inG_X1 hown hK hP 0 rfl rfl 1 (by decide) (hts _ kw_348) (fun _ h9 => h9) rfl dX1_addRow_11 ?_
    refine lv_bipush (v := 7) hx hb dX1_addRow_14 (by decide) ?_
    refine lv_imul hx hb dX1_addRow_16 ?_
    refine lv_topi (fun v8_1 e_v8_1 => ?_)
    replace hf := bnd_at e_v8_1 hf
    refine lv_istore (lv' := [(8, .int v8_1), (0, .ref h0), (1, .int a1), (2, .int a2), (3, .int a3), (4, .int a4), (5, .int a5), (6, .int a6), (7, .int a7)]) hx hb dX1_addRow_17 hl (by decide) rfl (fun ls hl => ?_)
    refine lv_aload_n hx hb dX1_addRow_19 rfl (lv_at hl 1 rfl) ?_
    refine va_get (D := (dC, dI)) (ci := 1) (v := .ref h0_facts) (C := RX1) (T := TX1) (N := 2) hx hb hts inG_X1 hown hK hP 0 rfl rfl 0 (by decide) (hts _ kw_347) (fun _ h9 => h9) rfl dX1_addRow_20 ?_
    refine lv_iload hx hb dX1_addRow_23 (lv_at hl 0 rfl) ?_
    refine lv_iload_n hx hb dX1_addRow_25 rfl (lv_at hl 2 rfl) ?_
    obtain ⟨hin, hf⟩ := chk_some hf
    refine va_iast hx hb hK hP hD hS 1 1 rfl rfl hin dX1_addRow_26 (fun H locs hP hD hS => ?_)
    have hP : va_P (dC, dI) vwCl [(h0, .inr (1, [.ref h0_facts, .int h0_count])), (h0_facts, .inl (cI, h0_facts_n, .inl (upd h0_facts_f v8_1.toNatClampNeg a1)))] H := hP
    have hD : va_D A [(h0, .inr (1, [.ref h0_facts, .int h0_count])), (h0_facts, .inl (cI, h0_facts_n, .inl (upd h0_facts_f v8_1.toNatClampNeg a1)))] := hD
    refine lv_aload_n hx hb dX1_addRow_27 rfl (lv_at hl 1 rfl) ?_
    refine va_get (D := (dC, dI)) (ci := 1) (v := .ref h0_facts) (C := RX1) (T := TX1) (N := 2) hx hb hts inG_X1 hown hK hP 0 rfl rfl 0 (by decide) (hts _ kw_347) (fun _ h9 => h9) rfl dX1_addRow_28 ?_
    refine lv_iload hx hb dX1_addRow_31 (lv_at hl 0 rfl) ?_
    refine lv_iconst (v := 1) hx hb dX1_addRow_33 (by decide) ?_
    refine lv_iadd hx hb dX1_addRow_34 ?_
    refine lv_iload_n hx hb dX1_addRow_35 rfl (lv_at hl 3 rfl) ?_
    obtain ⟨hin, hf⟩ := chk_some hf
    refine va_iast hx hb hK hP hD hS 1 1 rfl rfl hin dX1_addRow_36 (fun H locs hP hD hS => ?_)
    have hP : va_P (dC, dI) vwCl [(h0, .inr (1, [.ref h0_facts, .int h0_count])), (h0_facts, .inl (cI, h0_facts_n, .inl (upd (upd h0_facts_f v8_1.toNatClampNeg a1) (v8_1 + (1 : Int32)).toNatClampNeg a2)))] H := hP
    have hD : va_D A [(h0, .inr (1, [.ref h0_facts, .int h0_count])), (h0_facts, .inl (cI, h0_facts_n, .inl (upd (upd h0_facts_f v8_1.toNatClampNeg a1) (v8_1 + (1 : Int32)).toNatClampNeg a2)))] := hD
    refine lv_aload_n hx hb dX1_addRow_37 rfl (lv_at hl 1 rfl) ?_
    refine va_get (D := (dC, dI)) (ci := 1) (v := .ref h0_facts) (C := RX1) (T := TX1) (N := 2) hx hb hts inG_X1 hown hK hP 0 rfl rfl 0 (by decide) (hts _ kw_347) (fun _ h9 => h9) rfl dX1_addRow_38 ?_
    refine lv_iload hx hb dX1_addRow_41 (lv_at hl 0 rfl) ?_
    refine lv_iconst (v := 2) hx hb dX1_addRow_43 (by decide) ?_
    refine lv_iadd hx hb dX1_addRow_44 ?_
    refine lv_iload_n hx hb dX1_addRow_45 rfl (lv_at hl 4 rfl) ?_
    obtain ⟨hin, hf⟩ := chk_some hf
    refine va_iast hx hb hK hP hD hS 1 1 rfl rfl hin dX1_addRow_46 (fun H locs hP hD hS => ?_)
    have hP : va_P (dC, dI) vwCl [(h0, .inr (1, [.ref h0_facts, .int h0_count])), (h0_facts, .inl (cI, h0_facts_n, .inl (upd (upd (upd h0_facts_f v8_1.toNatClampNeg a1) (v8_1 + (1 : Int32)).toNatClampNeg a2) (v8_1 + (2 : Int32)).toNatClampNeg a3)))] H := hP
    have hD : va_D A [(h0, .inr (1, [.ref h0_facts, .int h0_count])), (h0_facts, .inl (cI, h0_facts_n, .inl (upd (upd (upd h0_facts_f v8_1.toNatClampNeg a1) (v8_1 + (1 : Int32)).toNatClampNeg a2) (v8_1 + (2 : Int32)).toNatClampNeg a3)))] := hD
    refine lv_aload_n hx hb dX1_addRow_47 rfl (lv_at hl 1 rfl) ?_
    refine va_get (D := (dC, dI)) (ci := 1) (v := .ref h0_facts) (C := RX1) (T := TX1) (N := 2) hx hb hts inG_X1 hown hK hP 0 rfl rfl 0 (by decide) (hts _ kw_347) (fun _ h9 => h9) rfl dX1_addRow_48 ?_
    refine lv_iload hx hb dX1_addRow_51 (lv_at hl 0 rfl) ?_
    refine lv_iconst (v := 3) hx hb dX1_addRow_53 (by decide) ?_
    refine lv_iadd hx hb dX1_addRow_54 ?_
    refine lv_iload hx hb dX1_addRow_55 (lv_at hl 5 rfl) ?_
    obtain ⟨hin, hf⟩ := chk_some hf
    refine va_iast hx hb hK hP hD hS 1 1 rfl rfl hin dX1_addRow_57 (fun H locs hP hD hS => ?_)
    have hP : va_P (dC, dI) vwCl [(h0, .inr (1, [.ref h0_facts, .int h0_count])), (h0_facts, .inl (cI, h0_facts_n, .inl (upd (upd (upd (upd h0_facts_f v8_1.toNatClampNeg a1) (v8_1 + (1 : Int32)).toNatClampNeg a2) (v8_1 + (2 : Int32)).toNatClampNeg a3) (v8_1 + (3 : Int32)).toNatClampNeg a4)))] H := hP
    have hD : va_D A [(h0, .inr (1, [.ref h0_facts, .int h0_count])), (h0_facts, .inl (cI, h0_facts_n, .inl (upd (upd (upd (upd h0_facts_f v8_1.toNatClampNeg a1) (v8_1 + (1 : Int32)).toNatClampNeg a2) (v8_1 + (2 : Int32)).toNatClampNeg a3) (v8_1 + (3 : Int32)).toNatClampNeg a4)))] := hD
    refine lv_aload_n hx hb dX1_addRow_58 rfl (lv_at hl 1 rfl) ?_
    refine va_get (D := (dC, dI)) (ci := 1) (v := .ref h0_facts) (C := RX1) (T := TX1) (N := 2) hx hb hts inG_X1 hown hK hP 0 rfl rfl 0 (by decide) (hts _ kw_347) (fun _ h9 => h9) rfl dX1_addRow_59 ?_
    refine lv_iload hx hb dX1_addRow_62 (lv_at hl 0 rfl) ?_
    refine lv_iconst (v := 4) hx hb dX1_addRow_64 (by decide) ?_
    refine lv_iadd hx hb dX1_addRow_65 ?_
    refine lv_iload hx hb dX1_addRow_66 (lv_at hl 6 rfl) ?_
    obtain ⟨hin, hf⟩ := chk_some hf
    refine va_iast hx hb hK hP hD hS 1 1 rfl rfl hin dX1_addRow_68 (fun H locs hP hD hS => ?_)
    have hP : va_P (dC, dI) vwCl [(h0, .inr (1, [.ref h0_facts, .int h0_count])), (h0_facts, .inl (cI, h0_facts_n, .inl (upd (upd (upd (upd (upd h0_facts_f v8_1.toNatClampNeg a1) (v8_1 + (1 : Int32)).toNatClampNeg a2) (v8_1 + (2 : Int32)).toNatClampNeg a3) (v8_1 + (3 : Int32)).toNatClampNeg a4) (v8_1 + (4 : Int32)).toNatClampNeg a5)))] H := hP
    have hD : va_D A [(h0, .inr (1, [.ref h0_facts, .int h0_count])), (h0_facts, .inl (cI, h0_facts_n, .inl (upd (upd (upd (upd (upd h0_facts_f v8_1.toNatClampNeg a1) (v8_1 + (1 : Int32)).toNatClampNeg a2) (v8_1 + (2 : Int32)).toNatClampNeg a3) (v8_1 + (3 : Int32)).toNatClampNeg a4) (v8_1 + (4 : Int32)).toNatClampNeg a5)))] := hD
    refine lv_aload_n hx hb dX1_addRow_69 rfl (lv_at hl 1 rfl) ?_
    refine va_get (D := (dC, dI)) (ci := 1) (v := .ref h0_facts) (C := RX1) (T := TX1) (N := 2) hx hb hts inG_X1 hown hK hP 0 rfl rfl 0 (by decide) (hts _ kw_347) (fun _ h9 => h9) rfl dX1_addRow_70 ?_
    refine lv_iload hx hb dX1_addRow_73 (lv_at hl 0 rfl) ?_
    refine lv_iconst (v := 5) hx hb dX1_addRow_75 (by decide) ?_
    refine lv_iadd hx hb dX1_addRow_76 ?_
    refine lv_iload hx hb dX1_addRow_77 (lv_at hl 7 rfl) ?_
    obtain ⟨hin, hf⟩ := chk_some hf
    refine va_iast hx hb hK hP hD hS 1 1 rfl rfl hin dX1_addRow_79 (fun H locs hP hD hS => ?_)
    have hP : va_P (dC, dI) vwCl [(h0, .inr (1, [.ref h0_facts, .int h0_count])), (h0_facts, .inl (cI, h0_facts_n, .inl (upd (upd (upd (upd (upd (upd h0_facts_f v8_1.toNatClampNeg a1) (v8_1 + (1 : Int32)).toNatClampNeg a2) (v8_1 + (2 : Int32)).toNatClampNeg a3) (v8_1 + (3 : Int32)).toNatClampNeg a4) (v8_1 + (4 : Int32)).toNatClampNeg a5) (v8_1 + (5 : Int32)).toNatClampNeg a6)))] H := hP
    have hD : va_D A [(h0, .inr (1, [.ref h0_facts, .int h0_count])), (h0_facts, .inl (cI, h0_facts_n, .inl (upd (upd (upd (upd (upd (upd h0_facts_f v8_1.toNatClampNeg a1) (v8_1 + (1 : Int32)).toNatClampNeg a2) (v8_1 + (2 : Int32)).toNatClampNeg a3) (v8_1 + (3 : Int32)).toNatClampNeg a4) (v8_1 + (4 : Int32)).toNatClampNeg a5) (v8_1 + (5 : Int32)).toNatClampNeg a6)))] := hD
    refine lv_aload_n hx hb dX1_addRow_80 rfl (lv_at hl 1 rfl) ?_
    refine va_get (D := (dC, dI)) (ci := 1) (v := .ref h0_facts) (C := RX1) (T := TX1) (N := 2) hx hb hts inG_X1 hown hK hP 0 rfl rfl 0 (by decide) (hts _ kw_347) (fun _ h9 => h9) rfl dX1_addRow_81 ?_
    refine lv_iload hx hb dX1_addRow_84 (lv_at hl 0 rfl) ?_
    refine lv_bipush (v := 6) hx hb dX1_addRow_86 (by decide) ?_
    refine lv_iadd hx hb dX1_addRow_88 ?_
    refine lv_iload hx hb dX1_addRow_89 (lv_at hl 8 rfl) ?_
    obtain ⟨hin, hf⟩ := chk_some hf
    refine va_iast hx hb hK hP hD hS 1 1 rfl rfl hin dX1_addRow_91 (fun H locs hP hD hS => ?_)
    have hP : va_P (dC, dI) vwCl [(h0, .inr (1, [.ref h0_facts, .int h0_count])), (h0_facts, .inl (cI, h0_facts_n, .inl (upd (upd (upd (upd (upd (upd (upd h0_facts_f v8_1.toNatClampNeg a1) (v8_1 + (1 : Int32)).toNatClampNeg a2) (v8_1 + (2 : Int32)).toNatClampNeg a3) (v8_1 + (3 : Int32)).toNatClampNeg a4) (v8_1 + (4 : Int32)).toNatClampNeg a5) (v8_1 + (5 : Int32)).toNatClampNeg a6) (v8_1 + (6 : Int32)).toNatClampNeg a7)))] H := hP
    have hD : va_D A [(h0, .inr (1, [.ref h0_facts, .int h0_count])), (h0_facts, .inl (cI, h0_facts_n, .inl (upd (upd (upd (upd (upd (upd (upd h0_facts_f v8_1.toNatClampNeg a1) (v8_1 + (1 : Int32)).toNatClampNeg a2) (v8_1 + (2 : Int32)).toNatClampNeg a3) (v8_1 + (3 : Int32)).toNatClampNeg a4) (v8_1 + (4 : Int32)).toNatClampNeg a5) (v8_1 + (5 : Int32)).toNatClampNeg a6) (v8_1 + (6 : Int32)).toNatClampNeg a7)))] := hD
    refine lv_aload_n hx hb dX1_addRow_92 rfl (lv_at hl 1 rfl) ?_
    refine lv_dup hx hb dX1_addRow_93 rfl ?_
    refine va_get (D := (dC, dI)) (ci := 1) (v := .int h0_count) (C := RX1) (T := TX1) (N := 2) hx hb hts inG_X1 hown hK hP 0 rfl rfl 1 (by decide) (hts _ kw_348) (fun _ h9 => h9) rfl dX1_addRow_94 ?_
    refine lv_iconst (v := 1) hx hb dX1_addRow_97 (by decide) ?_
    refine lv_iadd hx hb dX1_addRow_98 ?_
    refine lv_topi (fun p_2 e_p_2 => ?_)
    replace hf := bnd_at e_p_2 hf
    refine va_put (D := (dC, dI)) (ci := 1) (v := .int p_2) (ty := .int) (C := RX1) (T := TX1) (N := 2) hx hb hts inG_X1 tyX1 tyX1_ok nmX1 hown hK hP hD hS 0 rfl rfl 1 (by decide) (hts _ kw_348) (fun _ h9 => h9) rfl (by decide +kernel) rfl rfl (Nat.le_of_ble_eq_true rfl) dX1_addRow_99 (fun H locs hP hD hS => ?_)
    have hP : va_P (dC, dI) vwCl [(h0, .inr (1, [.ref h0_facts, .int p_2])), (h0_facts, .inl (cI, h0_facts_n, .inl (upd (upd (upd (upd (upd (upd (upd h0_facts_f v8_1.toNatClampNeg a1) (v8_1 + (1 : Int32)).toNatClampNeg a2) (v8_1 + (2 : Int32)).toNatClampNeg a3) (v8_1 + (3 : Int32)).toNatClampNeg a4) (v8_1 + (4 : Int32)).toNatClampNeg a5) (v8_1 + (5 : Int32)).toNatClampNeg a6) (v8_1 + (6 : Int32)).toNatClampNeg a7)))] H := hP
    have hD : va_D A [(h0, .inr (1, [.ref h0_facts, .int p_2])), (h0_facts, .inl (cI, h0_facts_n, .inl (upd (upd (upd (upd (upd (upd (upd h0_facts_f v8_1.toNatClampNeg a1) (v8_1 + (1 : Int32)).toNatClampNeg a2) (v8_1 + (2 : Int32)).toNatClampNeg a3) (v8_1 + (3 : Int32)).toNatClampNeg a4) (v8_1 + (4 : Int32)).toNatClampNeg a5) (v8_1 + (5 : Int32)).toNatClampNeg a6) (v8_1 + (6 : Int32)).toNatClampNeg a7)))] := hD
    obtain ⟨rfl, hq_1⟩ := Prod.mk.inj (Option.some.inj hf)
    obtain rfl := hq_1
    exact rt_v hQ hx hb hr hlocks hP hD hS dX1_addRow_102

theorem dX1_addRaw_0 : decode cX1_addRaw 0 = .ok (.aload_n 0, 1) := by decide +kernel
theorem dX1_addRaw_1 : decode cX1_addRaw 1 = .ok (.iload_n 1, 1) := by decide +kernel
theorem dX1_addRaw_2 : decode cX1_addRaw 2 = .ok (.iload_n 2, 1) := by decide +kernel
theorem dX1_addRaw_3 : decode cX1_addRaw 3 = .ok (.iload_n 2, 1) := by decide +kernel
theorem dX1_addRaw_4 : decode cX1_addRaw 4 = .ok (.iconst 1, 1) := by decide +kernel
theorem dX1_addRaw_5 : decode cX1_addRaw 5 = .ok (.iconst 0, 1) := by decide +kernel
theorem dX1_addRaw_6 : decode cX1_addRaw 6 = .ok (.iload_n 2, 1) := by decide +kernel
theorem dX1_addRaw_7 : decode cX1_addRaw 7 = .ok (.iconst 0, 1) := by decide +kernel
theorem dX1_addRaw_8 : decode cX1_addRaw 8 = .ok (.invokevirtual 19, 3) := by decide +kernel
theorem dX1_addRaw_11 : decode cX1_addRaw 11 = .ok (.return_, 1) := by decide +kernel
def m_Blocks_addRaw (a1 : Int32) (a2 : Int32) (h0_count : Int32) (h0_facts_n : Nat) (h0_facts_f : Nat → Int32) : Option (Int32 × (Nat → Int32)) :=
  (m_Blocks_addRow a1 a2 a2 (1 : Int32) (0 : Int32) a2 (0 : Int32) h0_count h0_facts_n h0_facts_f).bind fun (u1, u2) =>
  some (u1, u2)
def rm_Blocks_addRaw : Room := { frames := 1, cells := 0, slots := 0, locals := 28 }
set_option maxHeartbeats 4000000 in
set_option maxRecDepth 100000 in
theorem c_Blocks_addRaw {l : Launch} {dC : Nat → ClassId} {dI : Nat → Nat → Nat} {cB cI : ClassId} {sz : Nat} {h0 : Nat} {a1 : Int32} {a2 : Int32} {h0_facts : Nat} {h0_count : Int32} {h0_facts_n : Nat} {h0_facts_f : Nat → Int32} {o_h0_count : Int32} {o_h0_facts_f : Nat → Int32} (hf : m_Blocks_addRaw a1 a2 h0_count h0_facts_n h0_facts_f = some (o_h0_count, o_h0_facts_f)) : Met l yX1_addRaw (Cond.code yX1_addRaw cX1_addRaw 3 none :: lw_G) rm_Blocks_addRaw (PreC (dC, dI) [(cB, .byte), (cI, .int)] [.ref h0, .int a1, .int a2] sz [(h0, .inr (1, [.ref h0_facts, .int h0_count])), (h0_facts, .inl (cI, h0_facts_n, .inl h0_facts_f))]) (QcV (dC, dI) [(h0, .inr (1, [.ref h0_facts, .int o_h0_count])), (h0_facts, .inl (cI, h0_facts_n, .inl o_h0_facts_f))] (va_A [(h0, .inr (1, [.ref h0_facts, .int h0_count])), (h0_facts, .inl (cI, h0_facts_n, .inl h0_facts_f))] sz)) 0 0 (va_A [(h0, .inr (1, [.ref h0_facts, .int h0_count])), (h0_facts, .inl (cI, h0_facts_n, .inl h0_facts_f))] sz) := by
  refine met_of (Qf := fun A => QcV (dC, dI) [(h0, .inr (1, [.ref h0_facts, .int o_h0_count])), (h0_facts, .inl (cI, h0_facts_n, .inl o_h0_facts_f))] A) (by decide) (Nat.le_of_ble_eq_true rfl) ?_
  intro p e s m below meth c A ls Q hx hb hr hml hown hts hlocks hnm hP hK hD hN hT hA hl hQ
  have hown : s.vm.findClass RX1 = some m.cls := hown
  have hS : va_S A s.heap s.heap [] := va_S.rf
  have hl : lv_has ls 3 [(0, .ref h0), (1, .int a1), (2, .int a2)] := hl
  unfold m_Blocks_addRaw at hf
  refine lv_aload_n hx hb dX1_addRaw_0 rfl (lv_at hl 0 rfl) ?_
  refine lv_iload_n hx hb dX1_addRaw_1 rfl (lv_at hl 1 rfl) ?_
  refine lv_iload_n hx hb dX1_addRaw_2 rfl (lv_at hl 2 rfl) ?_
  refine lv_iload_n hx hb dX1_addRaw_3 rfl (lv_at hl 2 rfl) ?_
  refine lv_iconst (v := 1) hx hb dX1_addRaw_4 (by decide) ?_
  refine lv_iconst (v := 0) hx hb dX1_addRaw_5 (by decide) ?_
  refine lv_iload_n hx hb dX1_addRaw_6 rfl (lv_at hl 2 rfl) ?_
  refine lv_iconst (v := 0) hx hb dX1_addRaw_7 (by decide) ?_
  obtain ⟨x, hc, hf⟩ := bind_some hf
  obtain ⟨u1, u2⟩ := x
  dsimp only at hf
  refine nx_v (rn_V (As := [.int a1, .int a2, .int a2, .int (1 : Int32), .int (0 : Int32), .int a2, .int (0 : Int32)]) (rest := []) (n := 7) (ci := 1) (q0 := 0) ⟨hx, hb, hml, hown, hts⟩ (c_Blocks_addRow (l := l) (dC := dC) (dI := dI) (cB := cB) (cI := cI) (h0 := h0) (a1 := a1) (a2 := a2) (a3 := a2) (a4 := (1 : Int32)) (a5 := (0 : Int32)) (a6 := a2) (a7 := (0 : Int32)) (h0_facts := h0_facts) (h0_count := h0_count) (h0_facts_n := h0_facts_n) (h0_facts_f := h0_facts_f) (o_h0_count := u1) (o_h0_facts_f := u2) hc) (wV kw_728 kw_730 kw_13 kw_93 kw_731) (by decide +kernel) ⟨Nat.le_of_ble_eq_true rfl, Nat.le_of_ble_eq_true rfl⟩ hK hP hD hN hT hS (va_free (wc := [(h0, .inr (1, [.ref h0_facts, .int h0_count])), (h0_facts, .inl (cI, h0_facts_n, .inl h0_facts_f))]) hD hS hA [0, 1] rfl) [0, 1] rfl (by decide) rfl rfl rfl hl.1 rfl (lv_room (Nat.le_of_ble_eq_true rfl)) dX1_addRaw_8 ⟨Nat.le_of_ble_eq_true rfl, Nat.le_of_ble_eq_true rfl⟩) hP hD hS hA (wr := []) (w1 := [(h0, .inr (1, [.ref h0_facts, .int u1])), (h0_facts, .inl (cI, h0_facts_n, .inl u2))]) (ws' := [(h0, .inr (1, [.ref h0_facts, .int u1])), (h0_facts, .inl (cI, h0_facts_n, .inl u2))]) [0, 1] [] [0, 1] rfl rfl (by decide) (by decide) rfl (by decide) (fun H locs hP hD hS => ?_)
  obtain ⟨rfl, hq_1⟩ := Prod.mk.inj (Option.some.inj hf)
  obtain rfl := hq_1
  exact rt_v hQ hx hb hr hlocks hP hD hS dX1_addRaw_11

theorem dX1_addPacked_0 : decode cX1_addPacked 0 = .ok (.aload_n 0, 1) := by decide +kernel
theorem dX1_addPacked_1 : decode cX1_addPacked 1 = .ok (.iload_n 1, 1) := by decide +kernel
theorem dX1_addPacked_2 : decode cX1_addPacked 2 = .ok (.iload_n 2, 1) := by decide +kernel
theorem dX1_addPacked_3 : decode cX1_addPacked 3 = .ok (.iload_n 3, 1) := by decide +kernel
theorem dX1_addPacked_4 : decode cX1_addPacked 4 = .ok (.iconst 0, 1) := by decide +kernel
theorem dX1_addPacked_5 : decode cX1_addPacked 5 = .ok (.iload 4, 2) := by decide +kernel
theorem dX1_addPacked_7 : decode cX1_addPacked 7 = .ok (.iload 5, 2) := by decide +kernel
theorem dX1_addPacked_9 : decode cX1_addPacked 9 = .ok (.iload 6, 2) := by decide +kernel
theorem dX1_addPacked_11 : decode cX1_addPacked 11 = .ok (.invokevirtual 19, 3) := by decide +kernel
theorem dX1_addPacked_14 : decode cX1_addPacked 14 = .ok (.return_, 1) := by decide +kernel
def m_Blocks_addPacked (a1 : Int32) (a2 : Int32) (a3 : Int32) (a4 : Int32) (a5 : Int32) (a6 : Int32) (h0_count : Int32) (h0_facts_n : Nat) (h0_facts_f : Nat → Int32) : Option (Int32 × (Nat → Int32)) :=
  (m_Blocks_addRow a1 a2 a3 (0 : Int32) a4 a5 a6 h0_count h0_facts_n h0_facts_f).bind fun (u1, u2) =>
  some (u1, u2)
def rm_Blocks_addPacked : Room := { frames := 1, cells := 0, slots := 0, locals := 28 }
set_option maxHeartbeats 4000000 in
set_option maxRecDepth 100000 in
theorem c_Blocks_addPacked {l : Launch} {dC : Nat → ClassId} {dI : Nat → Nat → Nat} {cB cI : ClassId} {sz : Nat} {h0 : Nat} {a1 : Int32} {a2 : Int32} {a3 : Int32} {a4 : Int32} {a5 : Int32} {a6 : Int32} {h0_facts : Nat} {h0_count : Int32} {h0_facts_n : Nat} {h0_facts_f : Nat → Int32} {o_h0_count : Int32} {o_h0_facts_f : Nat → Int32} (hf : m_Blocks_addPacked a1 a2 a3 a4 a5 a6 h0_count h0_facts_n h0_facts_f = some (o_h0_count, o_h0_facts_f)) : Met l yX1_addPacked (Cond.code yX1_addPacked cX1_addPacked 7 none :: lw_G) rm_Blocks_addPacked (PreC (dC, dI) [(cB, .byte), (cI, .int)] [.ref h0, .int a1, .int a2, .int a3, .int a4, .int a5, .int a6] sz [(h0, .inr (1, [.ref h0_facts, .int h0_count])), (h0_facts, .inl (cI, h0_facts_n, .inl h0_facts_f))]) (QcV (dC, dI) [(h0, .inr (1, [.ref h0_facts, .int o_h0_count])), (h0_facts, .inl (cI, h0_facts_n, .inl o_h0_facts_f))] (va_A [(h0, .inr (1, [.ref h0_facts, .int h0_count])), (h0_facts, .inl (cI, h0_facts_n, .inl h0_facts_f))] sz)) 0 0 (va_A [(h0, .inr (1, [.ref h0_facts, .int h0_count])), (h0_facts, .inl (cI, h0_facts_n, .inl h0_facts_f))] sz) := by
  refine met_of (Qf := fun A => QcV (dC, dI) [(h0, .inr (1, [.ref h0_facts, .int o_h0_count])), (h0_facts, .inl (cI, h0_facts_n, .inl o_h0_facts_f))] A) (by decide) (Nat.le_of_ble_eq_true rfl) ?_
  intro p e s m below meth c A ls Q hx hb hr hml hown hts hlocks hnm hP hK hD hN hT hA hl hQ
  have hown : s.vm.findClass RX1 = some m.cls := hown
  have hS : va_S A s.heap s.heap [] := va_S.rf
  have hl : lv_has ls 7 [(0, .ref h0), (1, .int a1), (2, .int a2), (3, .int a3), (4, .int a4), (5, .int a5), (6, .int a6)] := hl
  unfold m_Blocks_addPacked at hf
  refine lv_aload_n hx hb dX1_addPacked_0 rfl (lv_at hl 0 rfl) ?_
  refine lv_iload_n hx hb dX1_addPacked_1 rfl (lv_at hl 1 rfl) ?_
  refine lv_iload_n hx hb dX1_addPacked_2 rfl (lv_at hl 2 rfl) ?_
  refine lv_iload_n hx hb dX1_addPacked_3 rfl (lv_at hl 3 rfl) ?_
  refine lv_iconst (v := 0) hx hb dX1_addPacked_4 (by decide) ?_
  refine lv_iload hx hb dX1_addPacked_5 (lv_at hl 4 rfl) ?_
  refine lv_iload hx hb dX1_addPacked_7 (lv_at hl 5 rfl) ?_
  refine lv_iload hx hb dX1_addPacked_9 (lv_at hl 6 rfl) ?_
  obtain ⟨x, hc, hf⟩ := bind_some hf
  obtain ⟨u1, u2⟩ := x
  dsimp only at hf
  refine nx_v (rn_V (As := [.int a1, .int a2, .int a3, .int (0 : Int32), .int a4, .int a5, .int a6]) (rest := []) (n := 7) (ci := 1) (q0 := 0) ⟨hx, hb, hml, hown, hts⟩ (c_Blocks_addRow (l := l) (dC := dC) (dI := dI) (cB := cB) (cI := cI) (h0 := h0) (a1 := a1) (a2 := a2) (a3 := a3) (a4 := (0 : Int32)) (a5 := a4) (a6 := a5) (a7 := a6) (h0_facts := h0_facts) (h0_count := h0_count) (h0_facts_n := h0_facts_n) (h0_facts_f := h0_facts_f) (o_h0_count := u1) (o_h0_facts_f := u2) hc) (wV kw_728 kw_730 kw_13 kw_93 kw_731) (by decide +kernel) ⟨Nat.le_of_ble_eq_true rfl, Nat.le_of_ble_eq_true rfl⟩ hK hP hD hN hT hS (va_free (wc := [(h0, .inr (1, [.ref h0_facts, .int h0_count])), (h0_facts, .inl (cI, h0_facts_n, .inl h0_facts_f))]) hD hS hA [0, 1] rfl) [0, 1] rfl (by decide) rfl rfl rfl hl.1 rfl (lv_room (Nat.le_of_ble_eq_true rfl)) dX1_addPacked_11 ⟨Nat.le_of_ble_eq_true rfl, Nat.le_of_ble_eq_true rfl⟩) hP hD hS hA (wr := []) (w1 := [(h0, .inr (1, [.ref h0_facts, .int u1])), (h0_facts, .inl (cI, h0_facts_n, .inl u2))]) (ws' := [(h0, .inr (1, [.ref h0_facts, .int u1])), (h0_facts, .inl (cI, h0_facts_n, .inl u2))]) [0, 1] [] [0, 1] rfl rfl (by decide) (by decide) rfl (by decide) (fun H locs hP hD hS => ?_)
  obtain ⟨rfl, hq_1⟩ := Prod.mk.inj (Option.some.inj hf)
  obtain rfl := hq_1
  exact rt_v hQ hx hb hr hlocks hP hD hS dX1_addPacked_14

