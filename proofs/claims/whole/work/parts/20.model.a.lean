theorem dX12_great_0 : decode cX12_great 0 = .ok (.iload_n 0, 1) := by decide +kernel
theorem dX12_great_1 : decode cX12_great 1 = .ok (.iload_n 1, 1) := by decide +kernel
theorem dX12_great_2 : decode cX12_great 2 = .ok (.if_icmp .le 7, 3) := by decide +kernel
theorem dX12_great_5 : decode cX12_great 5 = .ok (.iload_n 0, 1) := by decide +kernel
theorem dX12_great_6 : decode cX12_great 6 = .ok (.goto 4, 3) := by decide +kernel
theorem dX12_great_9 : decode cX12_great 9 = .ok (.iload_n 1, 1) := by decide +kernel
theorem dX12_great_10 : decode cX12_great 10 = .ok (.ireturn, 1) := by decide +kernel
def m_Mo_great (a0 : Int32) (a1 : Int32) : Option (Int32) :=
  if a0 ≤ a1 then
    some a1
  else
    some a0
def rm_Mo_great : Room := { frames := 0, cells := 0, slots := 0, locals := 0 }
set_option maxHeartbeats 4000000 in
set_option maxRecDepth 100000 in
theorem c_Mo_great {l : Launch} {dC : Nat → ClassId} {dI : Nat → Nat → Nat} {cB cI : ClassId} {sz : Nat} {a0 : Int32} {a1 : Int32} {o_r : Int32} (hf : m_Mo_great a0 a1 = some o_r) : Met l yX12_great (Cond.code yX12_great cX12_great 2 (some .int) :: lw_G) rm_Mo_great (PreC (dC, dI) [(cB, .byte), (cI, .int)] [.int a0, .int a1] sz []) (QcI o_r (dC, dI) [] (va_A [] sz)) 0 0 (va_A [] sz) := by
  refine met_of (Qf := fun A => QcI o_r (dC, dI) [] A) (by decide) (Nat.le_of_ble_eq_true rfl) ?_
  intro p e s m below meth c A ls Q hx hb hr hml hown hts hlocks hnm hP hK hD hN hT hA hl hQ
  have hown : s.vm.findClass RX12 = some m.cls := hown
  have hS : va_S A s.heap s.heap [] := va_S.rf
  have hl : lv_has ls 2 [(0, .int a0), (1, .int a1)] := hl
  unfold m_Mo_great at hf
  refine lv_iload_n hx hb dX12_great_0 rfl (lv_at hl 0 rfl) ?_
  refine lv_iload_n hx hb dX12_great_1 rfl (lv_at hl 1 rfl) ?_
  refine lv_icmp_le (tgt := 9) hx hb dX12_great_2 (by decide) (fun c_2 => ?_) (fun c_2 => ?_)
  · replace hf := if_t c_2 hf
    refine lv_iload_n hx hb dX12_great_9 rfl (lv_at hl 1 rfl) ?_
    obtain rfl := Option.some.inj hf
    exact rt_i hQ hx hb hr hlocks hP hD hS dX12_great_10
  · replace hf := if_f c_2 hf
    refine lv_iload_n hx hb dX12_great_5 rfl (lv_at hl 0 rfl) ?_
    refine lv_goto (tgt := 10) hx hb dX12_great_6 (by decide) ?_
    obtain rfl := Option.some.inj hf
    exact rt_i hQ hx hb hr hlocks hP hD hS dX12_great_10

theorem dX12_small_0 : decode cX12_small 0 = .ok (.iload_n 0, 1) := by decide +kernel
theorem dX12_small_1 : decode cX12_small 1 = .ok (.iload_n 1, 1) := by decide +kernel
theorem dX12_small_2 : decode cX12_small 2 = .ok (.if_icmp .ge 7, 3) := by decide +kernel
theorem dX12_small_5 : decode cX12_small 5 = .ok (.iload_n 0, 1) := by decide +kernel
theorem dX12_small_6 : decode cX12_small 6 = .ok (.goto 4, 3) := by decide +kernel
theorem dX12_small_9 : decode cX12_small 9 = .ok (.iload_n 1, 1) := by decide +kernel
theorem dX12_small_10 : decode cX12_small 10 = .ok (.ireturn, 1) := by decide +kernel
def m_Mo_small (a0 : Int32) (a1 : Int32) : Option (Int32) :=
  if a1 ≤ a0 then
    some a1
  else
    some a0
def rm_Mo_small : Room := { frames := 0, cells := 0, slots := 0, locals := 0 }
set_option maxHeartbeats 4000000 in
set_option maxRecDepth 100000 in
theorem c_Mo_small {l : Launch} {dC : Nat → ClassId} {dI : Nat → Nat → Nat} {cB cI : ClassId} {sz : Nat} {a0 : Int32} {a1 : Int32} {o_r : Int32} (hf : m_Mo_small a0 a1 = some o_r) : Met l yX12_small (Cond.code yX12_small cX12_small 2 (some .int) :: lw_G) rm_Mo_small (PreC (dC, dI) [(cB, .byte), (cI, .int)] [.int a0, .int a1] sz []) (QcI o_r (dC, dI) [] (va_A [] sz)) 0 0 (va_A [] sz) := by
  refine met_of (Qf := fun A => QcI o_r (dC, dI) [] A) (by decide) (Nat.le_of_ble_eq_true rfl) ?_
  intro p e s m below meth c A ls Q hx hb hr hml hown hts hlocks hnm hP hK hD hN hT hA hl hQ
  have hown : s.vm.findClass RX12 = some m.cls := hown
  have hS : va_S A s.heap s.heap [] := va_S.rf
  have hl : lv_has ls 2 [(0, .int a0), (1, .int a1)] := hl
  unfold m_Mo_small at hf
  refine lv_iload_n hx hb dX12_small_0 rfl (lv_at hl 0 rfl) ?_
  refine lv_iload_n hx hb dX12_small_1 rfl (lv_at hl 1 rfl) ?_
  refine lv_icmp_ge (tgt := 9) hx hb dX12_small_2 (by decide) (fun c_2 => ?_) (fun c_2 => ?_)
  · replace hf := if_t c_2 hf
    refine lv_iload_n hx hb dX12_small_9 rfl (lv_at hl 1 rfl) ?_
    obtain rfl := Option.some.inj hf
    exact rt_i hQ hx hb hr hlocks hP hD hS dX12_small_10
  · replace hf := if_f c_2 hf
    refine lv_iload_n hx hb dX12_small_5 rfl (lv_at hl 0 rfl) ?_
    refine lv_goto (tgt := 10) hx hb dX12_small_6 (by decide) ?_
    obtain rfl := Option.some.inj hf
    exact rt_i hQ hx hb hr hlocks hP hD hS dX12_small_10

theorem dX12_carry_0 : decode cX12_carry 0 = .ok (.iconst 0, 1) := by decide +kernel
theorem dX12_carry_1 : decode cX12_carry 1 = .ok (.istore 5, 2) := by decide +kernel
theorem dX12_carry_3 : decode cX12_carry 3 = .ok (.iload 5, 2) := by decide +kernel
theorem dX12_carry_5 : decode cX12_carry 5 = .ok (.iload 4, 2) := by decide +kernel
theorem dX12_carry_7 : decode cX12_carry 7 = .ok (.if_icmp .ge 21, 3) := by decide +kernel
theorem dX12_carry_10 : decode cX12_carry 10 = .ok (.aload_n 2, 1) := by decide +kernel
theorem dX12_carry_11 : decode cX12_carry 11 = .ok (.iload_n 3, 1) := by decide +kernel
theorem dX12_carry_12 : decode cX12_carry 12 = .ok (.iload 5, 2) := by decide +kernel
theorem dX12_carry_14 : decode cX12_carry 14 = .ok (.iadd, 1) := by decide +kernel
theorem dX12_carry_15 : decode cX12_carry 15 = .ok (.aload_n 0, 1) := by decide +kernel
theorem dX12_carry_16 : decode cX12_carry 16 = .ok (.iload_n 1, 1) := by decide +kernel
theorem dX12_carry_17 : decode cX12_carry 17 = .ok (.iload 5, 2) := by decide +kernel
theorem dX12_carry_19 : decode cX12_carry 19 = .ok (.iadd, 1) := by decide +kernel
theorem dX12_carry_20 : decode cX12_carry 20 = .ok (.iaload, 1) := by decide +kernel
theorem dX12_carry_21 : decode cX12_carry 21 = .ok (.iastore, 1) := by decide +kernel
theorem dX12_carry_22 : decode cX12_carry 22 = .ok (.iinc 5 1, 3) := by decide +kernel
theorem dX12_carry_25 : decode cX12_carry 25 = .ok (.goto (-22), 3) := by decide +kernel
theorem dX12_carry_28 : decode cX12_carry 28 = .ok (.return_, 1) := by decide +kernel
def m_Mo_carry_B3 (a1 : Int32) (a3 : Int32) (a4 : Int32) (h0_n : Nat) (h0_f : Nat → Int32) (h2_n : Nat) (f1 : Nat → Int32) (j5_2 : Int32) : Option (((Nat → Int32) × Int32) ⊕ ((((Nat → Int32))))) :=
  if a4 ≤ j5_2 then
    some (.inr f1)
  else
    chk (a1 + j5_2) h0_n <|
    chk (a3 + j5_2) h2_n <|
    bnd (j5_2 + (1 : Int32)) fun v5_3 =>
    some (.inl ((upd f1 (a3 + j5_2).toNatClampNeg (h0_f (a1 + j5_2).toNatClampNeg)), v5_3))
def m_Mo_carry (a1 : Int32) (a3 : Int32) (a4 : Int32) (h0_n : Nat) (h0_f : Nat → Int32) (h2_n : Nat) (h2_f : Nat → Int32) : Option (Nat → Int32) :=
  (iter (fun st => m_Mo_carry_B3 a1 a3 a4 h0_n h0_f h2_n st.1 st.2) FU (h2_f, (0 : Int32))).bind fun o => some o
def rm_Mo_carry : Room := { frames := 0, cells := 0, slots := 0, locals := 0 }
set_option maxHeartbeats 4000000 in
set_option maxRecDepth 100000 in
theorem c_Mo_carry {l : Launch} {dC : Nat → ClassId} {dI : Nat → Nat → Nat} {cB cI : ClassId} {sz : Nat} {h0 : Nat} {a1 : Int32} {h2 : Nat} {a3 : Int32} {a4 : Int32} {h0_n : Nat} {h0_f : Nat → Int32} {h2_n : Nat} {h2_f : Nat → Int32} {o_h2_f : Nat → Int32} (hf : m_Mo_carry a1 a3 a4 h0_n h0_f h2_n h2_f = some o_h2_f) : Met l yX12_carry (Cond.code yX12_carry cX12_carry 6 none :: lw_G) rm_Mo_carry (PreC (dC, dI) [(cB, .byte), (cI, .int)] [.ref h0, .int a1, .ref h2, .int a3, .int a4] sz [(h0, .inl (cI, h0_n, .inl h0_f)), (h2, .inl (cI, h2_n, .inl h2_f))]) (QcV (dC, dI) [(h0, .inl (cI, h0_n, .inl h0_f)), (h2, .inl (cI, h2_n, .inl o_h2_f))] (va_A [(h0, .inl (cI, h0_n, .inl h0_f)), (h2, .inl (cI, h2_n, .inl h2_f))] sz)) 0 0 (va_A [(h0, .inl (cI, h0_n, .inl h0_f)), (h2, .inl (cI, h2_n, .inl h2_f))] sz) := by
  refine met_of (Qf := fun A => QcV (dC, dI) [(h0, .inl (cI, h0_n, .inl h0_f)), (h2, .inl (cI, h2_n, .inl o_h2_f))] A) (by decide) (Nat.le_of_ble_eq_true rfl) ?_
  intro p e s m below meth c A ls Q hx hb hr hml hown hts hlocks hnm hP hK hD hN hT hA hl hQ
  have hown : s.vm.findClass RX12 = some m.cls := hown
  have hS : va_S A s.heap s.heap [] := va_S.rf
  have hl : lv_has ls 6 [(0, .ref h0), (1, .int a1), (2, .ref h2), (3, .int a3), (4, .int a4)] := hl
  unfold m_Mo_carry at hf
  refine lv_iconst (v := 0) hx hb dX12_carry_0 (by decide) ?_
  refine lv_istore (lv' := [(5, .int (0 : Int32)), (0, .ref h0), (1, .int a1), (2, .ref h2), (3, .int a3), (4, .int a4)]) hx hb dX12_carry_1 hl (by decide) rfl (fun ls hl => ?_)
  obtain ⟨o_3, hi_3, hk_3⟩ := bind_some hf
  have hL_3 : ∀ (n : Nat) (f1 : Nat → Int32) (j5_2 : Int32) (H : Heap) (locs : List Loc) (ls : Array Slot), iter (fun st => m_Mo_carry_B3 a1 a3 a4 h0_n h0_f h2_n st.1 st.2) n (f1, j5_2) = some o_3 → va_P (dC, dI) vwCl [(h0, .inl (cI, h0_n, .inl h0_f)), (h2, .inl (cI, h2_n, .inl f1))] H → va_D A [(h0, .inl (cI, h0_n, .inl h0_f)), (h2, .inl (cI, h2_n, .inl f1))] → va_S A s.heap H locs → lv_has ls 6 [(0, .ref h0), (1, .int a1), (2, .ref h2), (3, .int a3), (4, .int a4), (5, .int j5_2)] → W p l e (rm_Mo_carry) s m ([.ref h0, .int a1, .ref h2, .int a3, .int a4] : List Value).toArray below meth c H locs 0 0 Q (F0 m 3 ls []) := by
    intro n
    induction n with
    | zero => intro f1 j5_2 H locs ls hf; exact absurd hf (fun z => by cases z)
    | succ n ih_3 =>
      intro f1 j5_2 H locs ls hf hP hD hS hl
      obtain ⟨r_3, hf, hr_3⟩ := iter_succ hf
      have hf : m_Mo_carry_B3 a1 a3 a4 h0_n h0_f h2_n f1 j5_2 = some r_3 := hf
      unfold m_Mo_carry_B3 at hf
      refine lv_iload hx hb dX12_carry_3 (lv_at hl 5 rfl) ?_
      refine lv_iload hx hb dX12_carry_5 (lv_at hl 4 rfl) ?_
      refine lv_icmp_ge (tgt := 28) hx hb dX12_carry_7 (by decide) (fun c_7 => ?_) (fun c_7 => ?_)
      · replace hf := if_t c_7 hf
        replace hf : some f1 = some o_h2_f := by have hq := hk_3; rw [iter_exit hf hr_3] at hq; exact hq
        obtain rfl := Option.some.inj hf
        exact rt_v hQ hx hb hr hlocks hP hD hS dX12_carry_28
      · replace hf := if_f c_7 hf
        refine lv_aload_n hx hb dX12_carry_10 rfl (lv_at hl 2 rfl) ?_
        refine lv_iload_n hx hb dX12_carry_11 rfl (lv_at hl 3 rfl) ?_
        refine lv_iload hx hb dX12_carry_12 (lv_at hl 5 rfl) ?_
        refine lv_iadd hx hb dX12_carry_14 ?_
        refine lv_aload_n hx hb dX12_carry_15 rfl (lv_at hl 0 rfl) ?_
        refine lv_iload_n hx hb dX12_carry_16 rfl (lv_at hl 1 rfl) ?_
        refine lv_iload hx hb dX12_carry_17 (lv_at hl 5 rfl) ?_
        refine lv_iadd hx hb dX12_carry_19 ?_
        obtain ⟨hin, hf⟩ := chk_some hf
        refine va_iald hx hb hK hP 0 1 rfl rfl hin dX12_carry_20 ?_
        obtain ⟨hin, hf⟩ := chk_some hf
        refine va_iast hx hb hK hP hD hS 1 1 rfl rfl hin dX12_carry_21 (fun H locs hP hD hS => ?_)
        have hP : va_P (dC, dI) vwCl [(h0, .inl (cI, h0_n, .inl h0_f)), (h2, .inl (cI, h2_n, .inl (upd f1 (a3 + j5_2).toNatClampNeg (h0_f (a1 + j5_2).toNatClampNeg))))] H := hP
        have hD : va_D A [(h0, .inl (cI, h0_n, .inl h0_f)), (h2, .inl (cI, h2_n, .inl (upd f1 (a3 + j5_2).toNatClampNeg (h0_f (a1 + j5_2).toNatClampNeg))))] := hD
        obtain ⟨v5_3, e_v5_3⟩ : ∃ y : Int32, y = (j5_2 + (1 : Int32)) := ⟨_, rfl⟩
        replace hf := bnd_at e_v5_3 hf
        refine lv_iinc (v := v5_3) (lv' := [(5, .int v5_3), (0, .ref h0), (1, .int a1), (2, .ref h2), (3, .int a3), (4, .int a4)]) hx hb dX12_carry_22 hl (k := 5) rfl (by rw [e_v5_3]; rfl) (by decide) rfl (fun ls hl => ?_)
        refine lv_goto (tgt := 3) hx hb dX12_carry_25 (by decide) ?_
        exact ih_3 (upd f1 (a3 + j5_2).toNatClampNeg (h0_f (a1 + j5_2).toNatClampNeg)) v5_3 _ _ _ (iter_back hf hr_3) hP hD hS (lv_sub hl [1, 2, 3, 4, 5, 0] rfl)
  exact hL_3 FU h2_f (0 : Int32) _ _ _ hi_3 hP hD hS (lv_sub hl [1, 2, 3, 4, 5, 0] rfl)

theorem dX12_in_0 : decode cX12_in 0 = .ok (.lload_n 0, 1) := by decide +kernel
theorem dX12_in_1 : decode cX12_in 1 = .ok (.lload_n 2, 1) := by decide +kernel
theorem dX12_in_2 : decode cX12_in 2 = .ok (.lcmp, 1) := by decide +kernel
theorem dX12_in_3 : decode cX12_in 3 = .ok (.ifCond .lt 14, 3) := by decide +kernel
theorem dX12_in_6 : decode cX12_in 6 = .ok (.lload_n 0, 1) := by decide +kernel
theorem dX12_in_7 : decode cX12_in 7 = .ok (.lload 4, 2) := by decide +kernel
theorem dX12_in_9 : decode cX12_in 9 = .ok (.lcmp, 1) := by decide +kernel
theorem dX12_in_10 : decode cX12_in 10 = .ok (.ifCond .gt 7, 3) := by decide +kernel
theorem dX12_in_13 : decode cX12_in 13 = .ok (.iconst 1, 1) := by decide +kernel
theorem dX12_in_14 : decode cX12_in 14 = .ok (.goto 4, 3) := by decide +kernel
theorem dX12_in_17 : decode cX12_in 17 = .ok (.iconst 0, 1) := by decide +kernel
theorem dX12_in_18 : decode cX12_in 18 = .ok (.ireturn, 1) := by decide +kernel
def m_Mo_in (a0 : Int64) (a1 : Int64) (a2 : Int64) : Option (Int32) :=
  if (lg_cmp a0 a1) < 0 then
    some (0 : Int32)
  else
    if 0 < (lg_cmp a0 a2) then
      some (0 : Int32)
    else
      some (1 : Int32)
def rm_Mo_in : Room := { frames := 0, cells := 0, slots := 0, locals := 0 }
set_option maxHeartbeats 4000000 in
set_option maxRecDepth 100000 in
theorem c_Mo_in {l : Launch} {dC : Nat → ClassId} {dI : Nat → Nat → Nat} {cB cI : ClassId} {sz : Nat} {a0 : Int64} {a1 : Int64} {a2 : Int64} {o_r : Int32} (hf : m_Mo_in a0 a1 a2 = some o_r) : Met l yX12_in (Cond.code yX12_in cX12_in 6 (some .boolean) :: lw_G) rm_Mo_in (PreC (dC, dI) [(cB, .byte), (cI, .int)] [.long a0, .long a1, .long a2] sz []) (QcI o_r (dC, dI) [] (va_A [] sz)) 0 0 (va_A [] sz) := by
  refine met_of (Qf := fun A => QcI o_r (dC, dI) [] A) (by decide) (Nat.le_of_ble_eq_true rfl) ?_
  intro p e s m below meth c A ls Q hx hb hr hml hown hts hlocks hnm hP hK hD hN hT hA hl hQ
  have hown : s.vm.findClass RX12 = some m.cls := hown
  have hS : va_S A s.heap s.heap [] := va_S.rf
  have hl : lv_has ls 6 [(0, .long a0), (2, .long a1), (4, .long a2)] := hl
  unfold m_Mo_in at hf
  refine lv_lload_n hx hb dX12_in_0 rfl (lv_at hl 0 rfl) ?_
  refine lv_lload_n hx hb dX12_in_1 rfl (lv_at hl 1 rfl) ?_
  refine W.lcmp hx hb dX12_in_2 ?_
  refine lv_if_lt (tgt := 17) hx hb dX12_in_3 (by decide) (fun c_3 => ?_) (fun c_3 => ?_)
  · replace hf := if_t c_3 hf
    refine lv_iconst (v := 0) hx hb dX12_in_17 (by decide) ?_
    have hzb : narrow .boolean (.int (0 : Int32)) = .int (0 : Int32) := rfl
    obtain rfl := Option.some.inj hf
    exact rt_z hQ hx hb hr hzb hlocks hP hD hS dX12_in_18
  · replace hf := if_f c_3 hf
    refine lv_lload_n hx hb dX12_in_6 rfl (lv_at hl 0 rfl) ?_
    refine lv_lload hx hb dX12_in_7 (lv_at hl 2 rfl) ?_
    refine W.lcmp hx hb dX12_in_9 ?_
    refine lv_if_gt (tgt := 17) hx hb dX12_in_10 (by decide) (fun c_10 => ?_) (fun c_10 => ?_)
    · replace hf := if_t c_10 hf
      refine lv_iconst (v := 0) hx hb dX12_in_17 (by decide) ?_
      have hzb : narrow .boolean (.int (0 : Int32)) = .int (0 : Int32) := rfl
      obtain rfl := Option.some.inj hf
      exact rt_z hQ hx hb hr hzb hlocks hP hD hS dX12_in_18
    · replace hf := if_f c_10 hf
      refine lv_iconst (v := 1) hx hb dX12_in_13 (by decide) ?_
      refine lv_goto (tgt := 18) hx hb dX12_in_14 (by decide) ?_
      have hzb : narrow .boolean (.int (1 : Int32)) = .int (1 : Int32) := rfl
      obtain rfl := Option.some.inj hf
      exact rt_z hQ hx hb hr hzb hlocks hP hD hS dX12_in_18

theorem dX12_turned_0 : decode cX12_turned 0 = .ok (.iload_n 0, 1) := by decide +kernel
theorem dX12_turned_1 : decode cX12_turned 1 = .ok (.iload_n 1, 1) := by decide +kernel
theorem dX12_turned_2 : decode cX12_turned 2 = .ok (.ishl, 1) := by decide +kernel
theorem dX12_turned_3 : decode cX12_turned 3 = .ok (.iload_n 0, 1) := by decide +kernel
theorem dX12_turned_4 : decode cX12_turned 4 = .ok (.bipush 32, 2) := by decide +kernel
theorem dX12_turned_6 : decode cX12_turned 6 = .ok (.iload_n 1, 1) := by decide +kernel
theorem dX12_turned_7 : decode cX12_turned 7 = .ok (.isub, 1) := by decide +kernel
theorem dX12_turned_8 : decode cX12_turned 8 = .ok (.iushr, 1) := by decide +kernel
theorem dX12_turned_9 : decode cX12_turned 9 = .ok (.ior, 1) := by decide +kernel
theorem dX12_turned_10 : decode cX12_turned 10 = .ok (.ireturn, 1) := by decide +kernel
def m_Mo_turned (a0 : Int32) (a1 : Int32) : Option (Int32) :=
  some ((ishl a0 a1) ||| (iushr a0 ((32 : Int32) - a1)))
def rm_Mo_turned : Room := { frames := 0, cells := 0, slots := 0, locals := 0 }
set_option maxHeartbeats 4000000 in
set_option maxRecDepth 100000 in
theorem c_Mo_turned {l : Launch} {dC : Nat → ClassId} {dI : Nat → Nat → Nat} {cB cI : ClassId} {sz : Nat} {a0 : Int32} {a1 : Int32} {o_r : Int32} (hf : m_Mo_turned a0 a1 = some o_r) : Met l yX12_turned (Cond.code yX12_turned cX12_turned 2 (some .int) :: lw_G) rm_Mo_turned (PreC (dC, dI) [(cB, .byte), (cI, .int)] [.int a0, .int a1] sz []) (QcI o_r (dC, dI) [] (va_A [] sz)) 0 0 (va_A [] sz) := by
  refine met_of (Qf := fun A => QcI o_r (dC, dI) [] A) (by decide) (Nat.le_of_ble_eq_true rfl) ?_
  intro p e s m below meth c A ls Q hx hb hr hml hown hts hlocks hnm hP hK hD hN hT hA hl hQ
  have hown : s.vm.findClass RX12 = some m.cls := hown
  have hS : va_S A s.heap s.heap [] := va_S.rf
  have hl : lv_has ls 2 [(0, .int a0), (1, .int a1)] := hl
  unfold m_Mo_turned at hf
  refine lv_iload_n hx hb dX12_turned_0 rfl (lv_at hl 0 rfl) ?_
  refine lv_iload_n hx hb dX12_turned_1 rfl (lv_at hl 1 rfl) ?_
  refine lv_ishl hx hb dX12_turned_2 ?_
  refine lv_iload_n hx hb dX12_turned_3 rfl (lv_at hl 0 rfl) ?_
  refine lv_bipush (v := 32) hx hb dX12_turned_4 (by decide) ?_
  refine lv_iload_n hx hb dX12_turned_6 rfl (lv_at hl 1 rfl) ?_
  refine lv_isub hx hb dX12_turned_7 ?_
  refine lv_iushr (v := (iushr a0 ((32 : Int32) - a1))) hx hb dX12_turned_8 rfl ?_
  refine lv_ior hx hb dX12_turned_9 ?_
  obtain rfl := Option.some.inj hf
  exact rt_i hQ hx hb hr hlocks hP hD hS dX12_turned_10

theorem dX12_four_0 : decode cX12_four 0 = .ok (.aload_n 0, 1) := by decide +kernel
theorem dX12_four_1 : decode cX12_four 1 = .ok (.iload_n 1, 1) := by decide +kernel
theorem dX12_four_2 : decode cX12_four 2 = .ok (.iaload, 1) := by decide +kernel
theorem dX12_four_3 : decode cX12_four 3 = .ok (.aload_n 0, 1) := by decide +kernel
theorem dX12_four_4 : decode cX12_four 4 = .ok (.iload_n 1, 1) := by decide +kernel
theorem dX12_four_5 : decode cX12_four 5 = .ok (.iconst 1, 1) := by decide +kernel
theorem dX12_four_6 : decode cX12_four 6 = .ok (.iadd, 1) := by decide +kernel
theorem dX12_four_7 : decode cX12_four 7 = .ok (.iaload, 1) := by decide +kernel
theorem dX12_four_8 : decode cX12_four 8 = .ok (.bipush 8, 2) := by decide +kernel
theorem dX12_four_10 : decode cX12_four 10 = .ok (.ishl, 1) := by decide +kernel
theorem dX12_four_11 : decode cX12_four 11 = .ok (.ior, 1) := by decide +kernel
theorem dX12_four_12 : decode cX12_four 12 = .ok (.aload_n 0, 1) := by decide +kernel
theorem dX12_four_13 : decode cX12_four 13 = .ok (.iload_n 1, 1) := by decide +kernel
theorem dX12_four_14 : decode cX12_four 14 = .ok (.iconst 2, 1) := by decide +kernel
theorem dX12_four_15 : decode cX12_four 15 = .ok (.iadd, 1) := by decide +kernel
theorem dX12_four_16 : decode cX12_four 16 = .ok (.iaload, 1) := by decide +kernel
theorem dX12_four_17 : decode cX12_four 17 = .ok (.bipush 16, 2) := by decide +kernel
theorem dX12_four_19 : decode cX12_four 19 = .ok (.ishl, 1) := by decide +kernel
theorem dX12_four_20 : decode cX12_four 20 = .ok (.ior, 1) := by decide +kernel
theorem dX12_four_21 : decode cX12_four 21 = .ok (.aload_n 0, 1) := by decide +kernel
theorem dX12_four_22 : decode cX12_four 22 = .ok (.iload_n 1, 1) := by decide +kernel
theorem dX12_four_23 : decode cX12_four 23 = .ok (.iconst 3, 1) := by decide +kernel
theorem dX12_four_24 : decode cX12_four 24 = .ok (.iadd, 1) := by decide +kernel
theorem dX12_four_25 : decode cX12_four 25 = .ok (.iaload, 1) := by decide +kernel
theorem dX12_four_26 : decode cX12_four 26 = .ok (.bipush 24, 2) := by decide +kernel
theorem dX12_four_28 : decode cX12_four 28 = .ok (.ishl, 1) := by decide +kernel
theorem dX12_four_29 : decode cX12_four 29 = .ok (.ior, 1) := by decide +kernel
theorem dX12_four_30 : decode cX12_four 30 = .ok (.ireturn, 1) := by decide +kernel
def m_Mo_four (a1 : Int32) (h0_n : Nat) (h0_f : Nat → Int32) : Option (Int32) :=
  chk a1 h0_n <|
  chk (a1 + (1 : Int32)) h0_n <|
  chk (a1 + (2 : Int32)) h0_n <|
  chk (a1 + (3 : Int32)) h0_n <|
  some ((((h0_f a1.toNatClampNeg) ||| (ishl (h0_f (a1 + (1 : Int32)).toNatClampNeg) (8 : Int32))) ||| (ishl (h0_f (a1 + (2 : Int32)).toNatClampNeg) (16 : Int32))) ||| (ishl (h0_f (a1 + (3 : Int32)).toNatClampNeg) (24 : Int32)))
def rm_Mo_four : Room := { frames := 0, cells := 0, slots := 0, locals := 0 }
set_option maxHeartbeats 4000000 in
set_option maxRecDepth 100000 in
theorem c_Mo_four {l : Launch} {dC : Nat → ClassId} {dI : Nat → Nat → Nat} {cB cI : ClassId} {sz : Nat} {h0 : Nat} {a1 : Int32} {h0_n : Nat} {h0_f : Nat → Int32} {o_r : Int32} (hf : m_Mo_four a1 h0_n h0_f = some o_r) : Met l yX12_four (Cond.code yX12_four cX12_four 2 (some .int) :: lw_G) rm_Mo_four (PreC (dC, dI) [(cB, .byte), (cI, .int)] [.ref h0, .int a1] sz [(h0, .inl (cI, h0_n, .inl h0_f))]) (QcI o_r (dC, dI) [(h0, .inl (cI, h0_n, .inl h0_f))] (va_A [(h0, .inl (cI, h0_n, .inl h0_f))] sz)) 0 0 (va_A [(h0, .inl (cI, h0_n, .inl h0_f))] sz) := by
  refine met_of (Qf := fun A => QcI o_r (dC, dI) [(h0, .inl (cI, h0_n, .inl h0_f))] A) (by decide) (Nat.le_of_ble_eq_true rfl) ?_
  intro p e s m below meth c A ls Q hx hb hr hml hown hts hlocks hnm hP hK hD hN hT hA hl hQ
  have hown : s.vm.findClass RX12 = some m.cls := hown
  have hS : va_S A s.heap s.heap [] := va_S.rf
  have hl : lv_has ls 2 [(0, .ref h0), (1, .int a1)] := hl
  unfold m_Mo_four at hf
  refine lv_aload_n hx hb dX12_four_0 rfl (lv_at hl 0 rfl) ?_
  refine lv_iload_n hx hb dX12_four_1 rfl (lv_at hl 1 rfl) ?_
  obtain ⟨hin, hf⟩ := chk_some hf
  refine va_iald hx hb hK hP 0 1 rfl rfl hin dX12_four_2 ?_
  refine lv_aload_n hx hb dX12_four_3 rfl (lv_at hl 0 rfl) ?_
  refine lv_iload_n hx hb dX12_four_4 rfl (lv_at hl 1 rfl) ?_
  refine lv_iconst (v := 1) hx hb dX12_four_5 (by decide) ?_
  refine lv_iadd hx hb dX12_four_6 ?_
  obtain ⟨hin, hf⟩ := chk_some hf
  refine va_iald hx hb hK hP 0 1 rfl rfl hin dX12_four_7 ?_
  refine lv_bipush (v := 8) hx hb dX12_four_8 (by decide) ?_
  refine lv_ishl hx hb dX12_four_10 ?_
  refine lv_ior hx hb dX12_four_11 ?_
  refine lv_aload_n hx hb dX12_four_12 rfl (lv_at hl 0 rfl) ?_
  refine lv_iload_n hx hb dX12_four_13 rfl (lv_at hl 1 rfl) ?_
  refine lv_iconst (v := 2) hx hb dX12_four_14 (by decide) ?_
  refine lv_iadd hx hb dX12_four_15 ?_
  obtain ⟨hin, hf⟩ := chk_some hf
  refine va_iald hx hb hK hP 0 1 rfl rfl hin dX12_four_16 ?_
  refine lv_bipush (v := 16) hx hb dX12_four_17 (by decide) ?_
  refine lv_ishl hx hb dX12_four_19 ?_
  refine lv_ior hx hb dX12_four_20 ?_
  refine lv_aload_n hx hb dX12_four_21 rfl (lv_at hl 0 rfl) ?_
  refine lv_iload_n hx hb dX12_four_22 rfl (lv_at hl 1 rfl) ?_
  refine lv_iconst (v := 3) hx hb dX12_four_23 (by decide) ?_
  refine lv_iadd hx hb dX12_four_24 ?_
  obtain ⟨hin, hf⟩ := chk_some hf
  refine va_iald hx hb hK hP 0 1 rfl rfl hin dX12_four_25 ?_
  refine lv_bipush (v := 24) hx hb dX12_four_26 (by decide) ?_
  refine lv_ishl hx hb dX12_four_28 ?_
  refine lv_ior hx hb dX12_four_29 ?_
  obtain rfl := Option.some.inj hf
  exact rt_i hQ hx hb hr hlocks hP hD hS dX12_four_30

theorem dX12_sumOf_0 : decode cX12_sumOf 0 = .ok (.iload_n 1, 1) := by decide +kernel
theorem dX12_sumOf_1 : decode cX12_sumOf 1 = .ok (.istore_n 3, 1) := by decide +kernel
theorem dX12_sumOf_2 : decode cX12_sumOf 2 = .ok (.iload_n 1, 1) := by decide +kernel
theorem dX12_sumOf_3 : decode cX12_sumOf 3 = .ok (.iload_n 2, 1) := by decide +kernel
theorem dX12_sumOf_4 : decode cX12_sumOf 4 = .ok (.iadd, 1) := by decide +kernel
theorem dX12_sumOf_5 : decode cX12_sumOf 5 = .ok (.istore 4, 2) := by decide +kernel
theorem dX12_sumOf_7 : decode cX12_sumOf 7 = .ok (.ldc 3, 2) := by decide +kernel
theorem dX12_sumOf_9 : decode cX12_sumOf 9 = .ok (.istore 5, 2) := by decide +kernel
theorem dX12_sumOf_11 : decode cX12_sumOf 11 = .ok (.iload_n 2, 1) := by decide +kernel
theorem dX12_sumOf_12 : decode cX12_sumOf 12 = .ok (.bipush 16, 2) := by decide +kernel
theorem dX12_sumOf_14 : decode cX12_sumOf 14 = .ok (.if_icmp .lt 157, 3) := by decide +kernel
theorem dX12_sumOf_17 : decode cX12_sumOf 17 = .ok (.ldc 4, 2) := by decide +kernel
theorem dX12_sumOf_19 : decode cX12_sumOf 19 = .ok (.istore 6, 2) := by decide +kernel
theorem dX12_sumOf_21 : decode cX12_sumOf 21 = .ok (.ldc 5, 2) := by decide +kernel
theorem dX12_sumOf_23 : decode cX12_sumOf 23 = .ok (.istore 7, 2) := by decide +kernel
theorem dX12_sumOf_25 : decode cX12_sumOf 25 = .ok (.iconst 0, 1) := by decide +kernel
theorem dX12_sumOf_26 : decode cX12_sumOf 26 = .ok (.istore 8, 2) := by decide +kernel
theorem dX12_sumOf_28 : decode cX12_sumOf 28 = .ok (.ldc 6, 2) := by decide +kernel
theorem dX12_sumOf_30 : decode cX12_sumOf 30 = .ok (.istore 9, 2) := by decide +kernel
theorem dX12_sumOf_32 : decode cX12_sumOf 32 = .ok (.iload 4, 2) := by decide +kernel
theorem dX12_sumOf_34 : decode cX12_sumOf 34 = .ok (.iload_n 3, 1) := by decide +kernel
theorem dX12_sumOf_35 : decode cX12_sumOf 35 = .ok (.isub, 1) := by decide +kernel
theorem dX12_sumOf_36 : decode cX12_sumOf 36 = .ok (.bipush 16, 2) := by decide +kernel
theorem dX12_sumOf_38 : decode cX12_sumOf 38 = .ok (.if_icmp .lt 101, 3) := by decide +kernel
theorem dX12_sumOf_41 : decode cX12_sumOf 41 = .ok (.iload 6, 2) := by decide +kernel
theorem dX12_sumOf_43 : decode cX12_sumOf 43 = .ok (.aload_n 0, 1) := by decide +kernel
theorem dX12_sumOf_44 : decode cX12_sumOf 44 = .ok (.iload_n 3, 1) := by decide +kernel
theorem dX12_sumOf_45 : decode cX12_sumOf 45 = .ok (.invokestatic 7, 3) := by decide +kernel
theorem dX12_sumOf_48 : decode cX12_sumOf 48 = .ok (.ldc 5, 2) := by decide +kernel
theorem dX12_sumOf_50 : decode cX12_sumOf 50 = .ok (.imul, 1) := by decide +kernel
theorem dX12_sumOf_51 : decode cX12_sumOf 51 = .ok (.iadd, 1) := by decide +kernel
theorem dX12_sumOf_52 : decode cX12_sumOf 52 = .ok (.bipush 13, 2) := by decide +kernel
theorem dX12_sumOf_54 : decode cX12_sumOf 54 = .ok (.invokestatic 11, 3) := by decide +kernel
theorem dX12_sumOf_57 : decode cX12_sumOf 57 = .ok (.ldc 15, 2) := by decide +kernel
theorem dX12_sumOf_59 : decode cX12_sumOf 59 = .ok (.imul, 1) := by decide +kernel
theorem dX12_sumOf_60 : decode cX12_sumOf 60 = .ok (.istore 6, 2) := by decide +kernel
theorem dX12_sumOf_62 : decode cX12_sumOf 62 = .ok (.iload 7, 2) := by decide +kernel
theorem dX12_sumOf_64 : decode cX12_sumOf 64 = .ok (.aload_n 0, 1) := by decide +kernel
theorem dX12_sumOf_65 : decode cX12_sumOf 65 = .ok (.iload_n 3, 1) := by decide +kernel
theorem dX12_sumOf_66 : decode cX12_sumOf 66 = .ok (.iconst 4, 1) := by decide +kernel
theorem dX12_sumOf_67 : decode cX12_sumOf 67 = .ok (.iadd, 1) := by decide +kernel
theorem dX12_sumOf_68 : decode cX12_sumOf 68 = .ok (.invokestatic 7, 3) := by decide +kernel
theorem dX12_sumOf_71 : decode cX12_sumOf 71 = .ok (.ldc 5, 2) := by decide +kernel
theorem dX12_sumOf_73 : decode cX12_sumOf 73 = .ok (.imul, 1) := by decide +kernel
theorem dX12_sumOf_74 : decode cX12_sumOf 74 = .ok (.iadd, 1) := by decide +kernel
theorem dX12_sumOf_75 : decode cX12_sumOf 75 = .ok (.bipush 13, 2) := by decide +kernel
theorem dX12_sumOf_77 : decode cX12_sumOf 77 = .ok (.invokestatic 11, 3) := by decide +kernel
theorem dX12_sumOf_80 : decode cX12_sumOf 80 = .ok (.ldc 15, 2) := by decide +kernel
theorem dX12_sumOf_82 : decode cX12_sumOf 82 = .ok (.imul, 1) := by decide +kernel
theorem dX12_sumOf_83 : decode cX12_sumOf 83 = .ok (.istore 7, 2) := by decide +kernel
theorem dX12_sumOf_85 : decode cX12_sumOf 85 = .ok (.iload 8, 2) := by decide +kernel
theorem dX12_sumOf_87 : decode cX12_sumOf 87 = .ok (.aload_n 0, 1) := by decide +kernel
theorem dX12_sumOf_88 : decode cX12_sumOf 88 = .ok (.iload_n 3, 1) := by decide +kernel
theorem dX12_sumOf_89 : decode cX12_sumOf 89 = .ok (.bipush 8, 2) := by decide +kernel
theorem dX12_sumOf_91 : decode cX12_sumOf 91 = .ok (.iadd, 1) := by decide +kernel
theorem dX12_sumOf_92 : decode cX12_sumOf 92 = .ok (.invokestatic 7, 3) := by decide +kernel
theorem dX12_sumOf_95 : decode cX12_sumOf 95 = .ok (.ldc 5, 2) := by decide +kernel
theorem dX12_sumOf_97 : decode cX12_sumOf 97 = .ok (.imul, 1) := by decide +kernel
theorem dX12_sumOf_98 : decode cX12_sumOf 98 = .ok (.iadd, 1) := by decide +kernel
theorem dX12_sumOf_99 : decode cX12_sumOf 99 = .ok (.bipush 13, 2) := by decide +kernel
theorem dX12_sumOf_101 : decode cX12_sumOf 101 = .ok (.invokestatic 11, 3) := by decide +kernel
theorem dX12_sumOf_104 : decode cX12_sumOf 104 = .ok (.ldc 15, 2) := by decide +kernel
theorem dX12_sumOf_106 : decode cX12_sumOf 106 = .ok (.imul, 1) := by decide +kernel
theorem dX12_sumOf_107 : decode cX12_sumOf 107 = .ok (.istore 8, 2) := by decide +kernel
theorem dX12_sumOf_109 : decode cX12_sumOf 109 = .ok (.iload 9, 2) := by decide +kernel
theorem dX12_sumOf_111 : decode cX12_sumOf 111 = .ok (.aload_n 0, 1) := by decide +kernel
theorem dX12_sumOf_112 : decode cX12_sumOf 112 = .ok (.iload_n 3, 1) := by decide +kernel
theorem dX12_sumOf_113 : decode cX12_sumOf 113 = .ok (.bipush 12, 2) := by decide +kernel
theorem dX12_sumOf_115 : decode cX12_sumOf 115 = .ok (.iadd, 1) := by decide +kernel
theorem dX12_sumOf_116 : decode cX12_sumOf 116 = .ok (.invokestatic 7, 3) := by decide +kernel
theorem dX12_sumOf_119 : decode cX12_sumOf 119 = .ok (.ldc 5, 2) := by decide +kernel
theorem dX12_sumOf_121 : decode cX12_sumOf 121 = .ok (.imul, 1) := by decide +kernel
theorem dX12_sumOf_122 : decode cX12_sumOf 122 = .ok (.iadd, 1) := by decide +kernel
theorem dX12_sumOf_123 : decode cX12_sumOf 123 = .ok (.bipush 13, 2) := by decide +kernel
theorem dX12_sumOf_125 : decode cX12_sumOf 125 = .ok (.invokestatic 11, 3) := by decide +kernel
theorem dX12_sumOf_128 : decode cX12_sumOf 128 = .ok (.ldc 15, 2) := by decide +kernel
theorem dX12_sumOf_130 : decode cX12_sumOf 130 = .ok (.imul, 1) := by decide +kernel
theorem dX12_sumOf_131 : decode cX12_sumOf 131 = .ok (.istore 9, 2) := by decide +kernel
theorem dX12_sumOf_133 : decode cX12_sumOf 133 = .ok (.iinc 3 16, 3) := by decide +kernel
theorem dX12_sumOf_136 : decode cX12_sumOf 136 = .ok (.goto (-104), 3) := by decide +kernel
theorem dX12_sumOf_139 : decode cX12_sumOf 139 = .ok (.iload 6, 2) := by decide +kernel
theorem dX12_sumOf_141 : decode cX12_sumOf 141 = .ok (.iconst 1, 1) := by decide +kernel
theorem dX12_sumOf_142 : decode cX12_sumOf 142 = .ok (.invokestatic 11, 3) := by decide +kernel
theorem dX12_sumOf_145 : decode cX12_sumOf 145 = .ok (.iload 7, 2) := by decide +kernel
theorem dX12_sumOf_147 : decode cX12_sumOf 147 = .ok (.bipush 7, 2) := by decide +kernel
theorem dX12_sumOf_149 : decode cX12_sumOf 149 = .ok (.invokestatic 11, 3) := by decide +kernel
theorem dX12_sumOf_152 : decode cX12_sumOf 152 = .ok (.iadd, 1) := by decide +kernel
theorem dX12_sumOf_153 : decode cX12_sumOf 153 = .ok (.iload 8, 2) := by decide +kernel
theorem dX12_sumOf_155 : decode cX12_sumOf 155 = .ok (.bipush 12, 2) := by decide +kernel
theorem dX12_sumOf_157 : decode cX12_sumOf 157 = .ok (.invokestatic 11, 3) := by decide +kernel
theorem dX12_sumOf_160 : decode cX12_sumOf 160 = .ok (.iadd, 1) := by decide +kernel
theorem dX12_sumOf_161 : decode cX12_sumOf 161 = .ok (.iload 9, 2) := by decide +kernel
theorem dX12_sumOf_163 : decode cX12_sumOf 163 = .ok (.bipush 18, 2) := by decide +kernel
theorem dX12_sumOf_165 : decode cX12_sumOf 165 = .ok (.invokestatic 11, 3) := by decide +kernel
theorem dX12_sumOf_168 : decode cX12_sumOf 168 = .ok (.iadd, 1) := by decide +kernel
theorem dX12_sumOf_169 : decode cX12_sumOf 169 = .ok (.istore 5, 2) := by decide +kernel
theorem dX12_sumOf_171 : decode cX12_sumOf 171 = .ok (.iload 5, 2) := by decide +kernel
theorem dX12_sumOf_173 : decode cX12_sumOf 173 = .ok (.iload_n 2, 1) := by decide +kernel
theorem dX12_sumOf_174 : decode cX12_sumOf 174 = .ok (.iadd, 1) := by decide +kernel
theorem dX12_sumOf_175 : decode cX12_sumOf 175 = .ok (.istore 5, 2) := by decide +kernel
theorem dX12_sumOf_177 : decode cX12_sumOf 177 = .ok (.iload 4, 2) := by decide +kernel
theorem dX12_sumOf_179 : decode cX12_sumOf 179 = .ok (.iload_n 3, 1) := by decide +kernel
theorem dX12_sumOf_180 : decode cX12_sumOf 180 = .ok (.isub, 1) := by decide +kernel
theorem dX12_sumOf_181 : decode cX12_sumOf 181 = .ok (.iconst 4, 1) := by decide +kernel
theorem dX12_sumOf_182 : decode cX12_sumOf 182 = .ok (.if_icmp .lt 30, 3) := by decide +kernel
theorem dX12_sumOf_185 : decode cX12_sumOf 185 = .ok (.iload 5, 2) := by decide +kernel
theorem dX12_sumOf_187 : decode cX12_sumOf 187 = .ok (.aload_n 0, 1) := by decide +kernel
theorem dX12_sumOf_188 : decode cX12_sumOf 188 = .ok (.iload_n 3, 1) := by decide +kernel
theorem dX12_sumOf_189 : decode cX12_sumOf 189 = .ok (.invokestatic 7, 3) := by decide +kernel
theorem dX12_sumOf_192 : decode cX12_sumOf 192 = .ok (.ldc 16, 2) := by decide +kernel
theorem dX12_sumOf_194 : decode cX12_sumOf 194 = .ok (.imul, 1) := by decide +kernel
theorem dX12_sumOf_195 : decode cX12_sumOf 195 = .ok (.iadd, 1) := by decide +kernel
theorem dX12_sumOf_196 : decode cX12_sumOf 196 = .ok (.bipush 17, 2) := by decide +kernel
theorem dX12_sumOf_198 : decode cX12_sumOf 198 = .ok (.invokestatic 11, 3) := by decide +kernel
theorem dX12_sumOf_201 : decode cX12_sumOf 201 = .ok (.ldc 17, 2) := by decide +kernel
theorem dX12_sumOf_203 : decode cX12_sumOf 203 = .ok (.imul, 1) := by decide +kernel
theorem dX12_sumOf_204 : decode cX12_sumOf 204 = .ok (.istore 5, 2) := by decide +kernel
theorem dX12_sumOf_206 : decode cX12_sumOf 206 = .ok (.iinc 3 4, 3) := by decide +kernel
theorem dX12_sumOf_209 : decode cX12_sumOf 209 = .ok (.goto (-32), 3) := by decide +kernel
theorem dX12_sumOf_212 : decode cX12_sumOf 212 = .ok (.iload_n 3, 1) := by decide +kernel
theorem dX12_sumOf_213 : decode cX12_sumOf 213 = .ok (.iload 4, 2) := by decide +kernel
theorem dX12_sumOf_215 : decode cX12_sumOf 215 = .ok (.if_icmp .ge 28, 3) := by decide +kernel
theorem dX12_sumOf_218 : decode cX12_sumOf 218 = .ok (.iload 5, 2) := by decide +kernel
theorem dX12_sumOf_220 : decode cX12_sumOf 220 = .ok (.aload_n 0, 1) := by decide +kernel
theorem dX12_sumOf_221 : decode cX12_sumOf 221 = .ok (.iload_n 3, 1) := by decide +kernel
theorem dX12_sumOf_222 : decode cX12_sumOf 222 = .ok (.iaload, 1) := by decide +kernel
theorem dX12_sumOf_223 : decode cX12_sumOf 223 = .ok (.ldc 3, 2) := by decide +kernel
theorem dX12_sumOf_225 : decode cX12_sumOf 225 = .ok (.imul, 1) := by decide +kernel
theorem dX12_sumOf_226 : decode cX12_sumOf 226 = .ok (.iadd, 1) := by decide +kernel
theorem dX12_sumOf_227 : decode cX12_sumOf 227 = .ok (.bipush 11, 2) := by decide +kernel
theorem dX12_sumOf_229 : decode cX12_sumOf 229 = .ok (.invokestatic 11, 3) := by decide +kernel
theorem dX12_sumOf_232 : decode cX12_sumOf 232 = .ok (.ldc 15, 2) := by decide +kernel
theorem dX12_sumOf_234 : decode cX12_sumOf 234 = .ok (.imul, 1) := by decide +kernel
theorem dX12_sumOf_235 : decode cX12_sumOf 235 = .ok (.istore 5, 2) := by decide +kernel
theorem dX12_sumOf_237 : decode cX12_sumOf 237 = .ok (.iinc 3 1, 3) := by decide +kernel
theorem dX12_sumOf_240 : decode cX12_sumOf 240 = .ok (.goto (-28), 3) := by decide +kernel
theorem dX12_sumOf_243 : decode cX12_sumOf 243 = .ok (.iload 5, 2) := by decide +kernel
theorem dX12_sumOf_245 : decode cX12_sumOf 245 = .ok (.iload 5, 2) := by decide +kernel
theorem dX12_sumOf_247 : decode cX12_sumOf 247 = .ok (.bipush 15, 2) := by decide +kernel
theorem dX12_sumOf_249 : decode cX12_sumOf 249 = .ok (.iushr, 1) := by decide +kernel
theorem dX12_sumOf_250 : decode cX12_sumOf 250 = .ok (.ixor, 1) := by decide +kernel
theorem dX12_sumOf_251 : decode cX12_sumOf 251 = .ok (.ldc 5, 2) := by decide +kernel
theorem dX12_sumOf_253 : decode cX12_sumOf 253 = .ok (.imul, 1) := by decide +kernel
theorem dX12_sumOf_254 : decode cX12_sumOf 254 = .ok (.istore 5, 2) := by decide +kernel
theorem dX12_sumOf_256 : decode cX12_sumOf 256 = .ok (.iload 5, 2) := by decide +kernel
theorem dX12_sumOf_258 : decode cX12_sumOf 258 = .ok (.iload 5, 2) := by decide +kernel
theorem dX12_sumOf_260 : decode cX12_sumOf 260 = .ok (.bipush 13, 2) := by decide +kernel
theorem dX12_sumOf_262 : decode cX12_sumOf 262 = .ok (.iushr, 1) := by decide +kernel
theorem dX12_sumOf_263 : decode cX12_sumOf 263 = .ok (.ixor, 1) := by decide +kernel
theorem dX12_sumOf_264 : decode cX12_sumOf 264 = .ok (.ldc 16, 2) := by decide +kernel
theorem dX12_sumOf_266 : decode cX12_sumOf 266 = .ok (.imul, 1) := by decide +kernel
theorem dX12_sumOf_267 : decode cX12_sumOf 267 = .ok (.istore 5, 2) := by decide +kernel
theorem dX12_sumOf_269 : decode cX12_sumOf 269 = .ok (.iload 5, 2) := by decide +kernel
theorem dX12_sumOf_271 : decode cX12_sumOf 271 = .ok (.iload 5, 2) := by decide +kernel
theorem dX12_sumOf_273 : decode cX12_sumOf 273 = .ok (.bipush 16, 2) := by decide +kernel
theorem dX12_sumOf_275 : decode cX12_sumOf 275 = .ok (.iushr, 1) := by decide +kernel
theorem dX12_sumOf_276 : decode cX12_sumOf 276 = .ok (.ixor, 1) := by decide +kernel
theorem dX12_sumOf_277 : decode cX12_sumOf 277 = .ok (.ireturn, 1) := by decide +kernel
def m_Mo_sumOf_E243 (j5_7 : Int32) : Option (Int32) :=
  bnd ((j5_7 ^^^ (iushr j5_7 (15 : Int32))) * (-2048144777 : Int32)) fun v5_8 =>
  bnd ((v5_8 ^^^ (iushr v5_8 (13 : Int32))) * (-1028477379 : Int32)) fun v5_9 =>
  some (v5_9 ^^^ (iushr v5_9 (16 : Int32)))
def m_Mo_sumOf_B212 (h0_n : Nat) (h0_f : Nat → Int32) (v4_1 : Int32) (j3_10 : Int32) (j5_11 : Int32) : Option ((Int32 × Int32) ⊕ ((Int32))) :=
  if v4_1 ≤ j3_10 then
    some (.inr j5_11)
  else
    chk j3_10 h0_n <|
    (m_Mo_turned (j5_11 + ((h0_f j3_10.toNatClampNeg) * (374761393 : Int32))) (11 : Int32)).bind fun r12 =>
    bnd (r12 * (-1640531535 : Int32)) fun v5_13 =>
    bnd (j3_10 + (1 : Int32)) fun v3_14 =>
    some (.inl (v3_14, v5_13))
def m_Mo_sumOf_E212 (h0_n : Nat) (h0_f : Nat → Int32) (v4_1 : Int32) (j3_5 : Int32) (j5_6 : Int32) : Option (Int32) :=
  (iter (fun st => m_Mo_sumOf_B212 h0_n h0_f v4_1 st.1 st.2) FU (j3_5, j5_6)).bind fun o => m_Mo_sumOf_E243 o
def m_Mo_sumOf_B177 (h0_n : Nat) (h0_f : Nat → Int32) (v4_1 : Int32) (j3_15 : Int32) (j5_16 : Int32) : Option ((Int32 × Int32) ⊕ ((Int32 × Int32))) :=
  if (v4_1 - j3_15) < (4 : Int32) then
    some (.inr (j3_15, j5_16))
  else
    (m_Mo_four j3_15 h0_n h0_f).bind fun r17 =>
    (m_Mo_turned (j5_16 + (r17 * (-1028477379 : Int32))) (17 : Int32)).bind fun r18 =>
    bnd (r18 * (668265263 : Int32)) fun v5_19 =>
    bnd (j3_15 + (4 : Int32)) fun v3_20 =>
    some (.inl (v3_20, v5_19))
def m_Mo_sumOf_J171 (a2 : Int32) (h0_n : Nat) (h0_f : Nat → Int32) (v4_1 : Int32) (j3_2 : Int32) (j5_3 : Int32) : Option (Int32) :=
  bnd (j5_3 + a2) fun v5_4 =>
  (iter (fun st => m_Mo_sumOf_B177 h0_n h0_f v4_1 st.1 st.2) FU (j3_2, v5_4)).bind fun o => m_Mo_sumOf_E212 h0_n h0_f v4_1 o.1 o.2
def m_Mo_sumOf_E139 (a2 : Int32) (h0_n : Nat) (h0_f : Nat → Int32) (v4_1 : Int32) (j3_21 : Int32) (j6_22 : Int32) (j7_23 : Int32) (j8_24 : Int32) (j9_25 : Int32) : Option (Int32) :=
  (m_Mo_turned j6_22 (1 : Int32)).bind fun r26 =>
  (m_Mo_turned j7_23 (7 : Int32)).bind fun r27 =>
  (m_Mo_turned j8_24 (12 : Int32)).bind fun r28 =>
  (m_Mo_turned j9_25 (18 : Int32)).bind fun r29 =>
  bnd (((r26 + r27) + r28) + r29) fun v5_30 =>
  m_Mo_sumOf_J171 a2 h0_n h0_f v4_1 j3_21 v5_30
def m_Mo_sumOf_B32 (h0_n : Nat) (h0_f : Nat → Int32) (v4_1 : Int32) (j3_31 : Int32) (j6_32 : Int32) (j7_33 : Int32) (j8_34 : Int32) (j9_35 : Int32) : Option ((Int32 × Int32 × Int32 × Int32 × Int32) ⊕ ((Int32 × Int32 × Int32 × Int32 × Int32))) :=
  if (v4_1 - j3_31) < (16 : Int32) then
    some (.inr (j3_31, j6_32, j7_33, j8_34, j9_35))
  else
    (m_Mo_four j3_31 h0_n h0_f).bind fun r36 =>
    (m_Mo_turned (j6_32 + (r36 * (-2048144777 : Int32))) (13 : Int32)).bind fun r37 =>
    bnd (r37 * (-1640531535 : Int32)) fun v6_38 =>
    (m_Mo_four (j3_31 + (4 : Int32)) h0_n h0_f).bind fun r39 =>
    (m_Mo_turned (j7_33 + (r39 * (-2048144777 : Int32))) (13 : Int32)).bind fun r40 =>
    bnd (r40 * (-1640531535 : Int32)) fun v7_41 =>
    (m_Mo_four (j3_31 + (8 : Int32)) h0_n h0_f).bind fun r42 =>
    (m_Mo_turned (j8_34 + (r42 * (-2048144777 : Int32))) (13 : Int32)).bind fun r43 =>
    bnd (r43 * (-1640531535 : Int32)) fun v8_44 =>
    (m_Mo_four (j3_31 + (12 : Int32)) h0_n h0_f).bind fun r45 =>
    (m_Mo_turned (j9_35 + (r45 * (-2048144777 : Int32))) (13 : Int32)).bind fun r46 =>
    bnd (r46 * (-1640531535 : Int32)) fun v9_47 =>
    bnd (j3_31 + (16 : Int32)) fun v3_48 =>
    some (.inl (v3_48, v6_38, v7_41, v8_44, v9_47))
def m_Mo_sumOf (a1 : Int32) (a2 : Int32) (h0_n : Nat) (h0_f : Nat → Int32) : Option (Int32) :=
  bnd (a1 + a2) fun v4_1 =>
  if a2 < (16 : Int32) then
    m_Mo_sumOf_J171 a2 h0_n h0_f v4_1 a1 (374761393 : Int32)
  else
    (iter (fun st => m_Mo_sumOf_B32 h0_n h0_f v4_1 st.1 st.2.1 st.2.2.1 st.2.2.2.1 st.2.2.2.2) FU (a1, (606290984 : Int32), (-2048144777 : Int32), (0 : Int32), (1640531535 : Int32))).bind fun o => m_Mo_sumOf_E139 a2 h0_n h0_f v4_1 o.1 o.2.1 o.2.2.1 o.2.2.2.1 o.2.2.2.2
def rm_Mo_sumOf : Room := { frames := 1, cells := 0, slots := 0, locals := 21 }
set_option maxHeartbeats 4000000 in
set_option maxRecDepth 100000 in
theorem c_Mo_sumOf {l : Launch} {dC : Nat → ClassId} {dI : Nat → Nat → Nat} {cB cI : ClassId} {sz : Nat} {h0 : Nat} {a1 : Int32} {a2 : Int32} {h0_n : Nat} {h0_f : Nat → Int32} {o_r : Int32} (hf : m_Mo_sumOf a1 a2 h0_n h0_f = some o_r) : Met l yX12_sumOf (Cond.code yX12_sumOf cX12_sumOf 10 (some .int) :: lw_G) rm_Mo_sumOf (PreC (dC, dI) [(cB, .byte), (cI, .int)] [.ref h0, .int a1, .int a2] sz [(h0, .inl (cI, h0_n, .inl h0_f))]) (QcI o_r (dC, dI) [(h0, .inl (cI, h0_n, .inl h0_f))] (va_A [(h0, .inl (cI, h0_n, .inl h0_f))] sz)) 0 0 (va_A [(h0, .inl (cI, h0_n, .inl h0_f))] sz) := by
  refine met_of (Qf := fun A => QcI o_r (dC, dI) [(h0, .inl (cI, h0_n, .inl h0_f))] A) (by decide) (Nat.le_of_ble_eq_true rfl) ?_
  intro p e s m below meth c A ls Q hx hb hr hml hown hts hlocks hnm hP hK hD hN hT hA hl hQ
  have hown : s.vm.findClass RX12 = some m.cls := hown
  have hS : va_S A s.heap s.heap [] := va_S.rf
  have hl : lv_has ls 10 [(0, .ref h0), (1, .int a1), (2, .int a2)] := hl
  unfold m_Mo_sumOf at hf
  refine lv_iload_n hx hb dX12_sumOf_0 rfl (lv_at hl 1 rfl) ?_
  refine lv_istore_n (lv' := [(3, .int a1), (0, .ref h0), (1, .int a1), (2, .int a2)]) hx hb dX12_sumOf_1 rfl hl (by decide) rfl (fun ls hl => ?_)
  refine lv_iload_n hx hb dX12_sumOf_2 rfl (lv_at hl 2 rfl) ?_
  refine lv_iload_n hx hb dX12_sumOf_3 rfl (lv_at hl 3 rfl) ?_
  refine lv_iadd hx hb dX12_sumOf_4 ?_
  refine lv_topi (fun v4_1 e_v4_1 => ?_)
  replace hf := bnd_at e_v4_1 hf
  refine lv_istore (lv' := [(4, .int v4_1), (3, .int a1), (0, .ref h0), (1, .int a1), (2, .int a2)]) hx hb dX12_sumOf_5 hl (by decide) rfl (fun ls hl => ?_)
  refine lv_ldc hx hb hown (hts _ kw_1212) dX12_sumOf_7 ?_
  refine lv_istore (lv' := [(5, .int (374761393 : Int32)), (4, .int v4_1), (3, .int a1), (0, .ref h0), (1, .int a1), (2, .int a2)]) hx hb dX12_sumOf_9 hl (by decide) rfl (fun ls hl => ?_)
  refine lv_iload_n hx hb dX12_sumOf_11 rfl (lv_at hl 5 rfl) ?_
  refine lv_bipush (v := 16) hx hb dX12_sumOf_12 (by decide) ?_
  have hJ_171 : ∀ (j3_2 : Int32) (j5_3 : Int32) (H : Heap) (locs : List Loc) (ls : Array Slot), m_Mo_sumOf_J171 a2 h0_n h0_f v4_1 j3_2 j5_3 = some o_r → va_P (dC, dI) vwCl [(h0, .inl (cI, h0_n, .inl h0_f))] H → va_D A [(h0, .inl (cI, h0_n, .inl h0_f))] → va_S A s.heap H locs → lv_has ls 10 [(0, .ref h0), (2, .int a2), (3, .int j3_2), (4, .int v4_1), (5, .int j5_3)] → W p l e (rm_Mo_sumOf) s m ([.ref h0, .int a1, .int a2] : List Value).toArray below meth c H locs 0 0 Q (F0 m 171 ls []) := by
    intro j3_2 j5_3 H locs ls hf hP hD hS hl
    unfold m_Mo_sumOf_J171 at hf
    refine lv_iload hx hb dX12_sumOf_171 (lv_at hl 4 rfl) ?_
    refine lv_iload_n hx hb dX12_sumOf_173 rfl (lv_at hl 1 rfl) ?_
    refine lv_iadd hx hb dX12_sumOf_174 ?_
    refine lv_topi (fun v5_4 e_v5_4 => ?_)
    replace hf := bnd_at e_v5_4 hf
    refine lv_istore (lv' := [(5, .int v5_4), (0, .ref h0), (2, .int a2), (3, .int j3_2), (4, .int v4_1)]) hx hb dX12_sumOf_175 hl (by decide) rfl (fun ls hl => ?_)
    have hJ_212 : ∀ (j3_5 : Int32) (j5_6 : Int32) (H : Heap) (locs : List Loc) (ls : Array Slot), m_Mo_sumOf_E212 h0_n h0_f v4_1 j3_5 j5_6 = some o_r → va_P (dC, dI) vwCl [(h0, .inl (cI, h0_n, .inl h0_f))] H → va_D A [(h0, .inl (cI, h0_n, .inl h0_f))] → va_S A s.heap H locs → lv_has ls 10 [(0, .ref h0), (3, .int j3_5), (4, .int v4_1), (5, .int j5_6)] → W p l e (rm_Mo_sumOf) s m ([.ref h0, .int a1, .int a2] : List Value).toArray below meth c H locs 0 0 Q (F0 m 212 ls []) := by
      intro j3_5 j5_6 H locs ls hf hP hD hS hl
      unfold m_Mo_sumOf_E212 at hf
      have hJ_243 : ∀ (j5_7 : Int32) (H : Heap) (locs : List Loc) (ls : Array Slot), m_Mo_sumOf_E243 j5_7 = some o_r → va_P (dC, dI) vwCl [(h0, .inl (cI, h0_n, .inl h0_f))] H → va_D A [(h0, .inl (cI, h0_n, .inl h0_f))] → va_S A s.heap H locs → lv_has ls 10 [(5, .int j5_7)] → W p l e (rm_Mo_sumOf) s m ([.ref h0, .int a1, .int a2] : List Value).toArray below meth c H locs 0 0 Q (F0 m 243 ls []) := by
        intro j5_7 H locs ls hf hP hD hS hl
        unfold m_Mo_sumOf_E243 at hf
        refine lv_iload hx hb dX12_sumOf_243 (lv_at hl 0 rfl) ?_
        refine lv_iload hx hb dX12_sumOf_245 (lv_at hl 0 rfl) ?_
        refine lv_bipush (v := 15) hx hb dX12_sumOf_247 (by decide) ?_
        refine lv_iushr (v := (iushr j5_7 (15 : Int32))) hx hb dX12_sumOf_249 rfl ?_
        refine lv_ixor hx hb dX12_sumOf_250 ?_
        refine lv_ldc hx hb hown (hts _ kw_1214) dX12_sumOf_251 ?_
        refine lv_imul hx hb dX12_sumOf_253 ?_
        refine lv_topi (fun v5_8 e_v5_8 => ?_)
        replace hf := bnd_at e_v5_8 hf
        refine lv_istore (lv' := [(5, .int v5_8)]) hx hb dX12_sumOf_254 hl (by decide) rfl (fun ls hl => ?_)
        refine lv_iload hx hb dX12_sumOf_256 (lv_at hl 0 rfl) ?_
        refine lv_iload hx hb dX12_sumOf_258 (lv_at hl 0 rfl) ?_
        refine lv_bipush (v := 13) hx hb dX12_sumOf_260 (by decide) ?_
        refine lv_iushr (v := (iushr v5_8 (13 : Int32))) hx hb dX12_sumOf_262 rfl ?_
        refine lv_ixor hx hb dX12_sumOf_263 ?_
        refine lv_ldc hx hb hown (hts _ kw_1223) dX12_sumOf_264 ?_
        refine lv_imul hx hb dX12_sumOf_266 ?_
        refine lv_topi (fun v5_9 e_v5_9 => ?_)
        replace hf := bnd_at e_v5_9 hf
        refine lv_istore (lv' := [(5, .int v5_9)]) hx hb dX12_sumOf_267 hl (by decide) rfl (fun ls hl => ?_)
        refine lv_iload hx hb dX12_sumOf_269 (lv_at hl 0 rfl) ?_
        refine lv_iload hx hb dX12_sumOf_271 (lv_at hl 0 rfl) ?_
        refine lv_bipush (v := 16) hx hb dX12_sumOf_273 (by decide) ?_
        refine lv_iushr (v := (iushr v5_9 (16 : Int32))) hx hb dX12_sumOf_275 rfl ?_
        refine lv_ixor hx hb dX12_sumOf_276 ?_
        obtain rfl := Option.some.inj hf
        exact rt_i hQ hx hb hr hlocks hP hD hS dX12_sumOf_277
      obtain ⟨o_212, hi_212, hk_212⟩ := bind_some hf
      have hL_212 : ∀ (n : Nat) (j3_10 : Int32) (j5_11 : Int32) (H : Heap) (locs : List Loc) (ls : Array Slot), iter (fun st => m_Mo_sumOf_B212 h0_n h0_f v4_1 st.1 st.2) n (j3_10, j5_11) = some o_212 → va_P (dC, dI) vwCl [(h0, .inl (cI, h0_n, .inl h0_f))] H → va_D A [(h0, .inl (cI, h0_n, .inl h0_f))] → va_S A s.heap H locs → lv_has ls 10 [(0, .ref h0), (3, .int j3_10), (4, .int v4_1), (5, .int j5_11)] → W p l e (rm_Mo_sumOf) s m ([.ref h0, .int a1, .int a2] : List Value).toArray below meth c H locs 0 0 Q (F0 m 212 ls []) := by
        intro n
        induction n with
        | zero => intro j3_10 j5_11 H locs ls hf; exact absurd hf (fun z => by cases z)
        | succ n ih_212 =>
          intro j3_10 j5_11 H locs ls hf hP hD hS hl
          obtain ⟨r_212, hf, hr_212⟩ := iter_succ hf
          have hf : m_Mo_sumOf_B212 h0_n h0_f v4_1 j3_10 j5_11 = some r_212 := hf
          unfold m_Mo_sumOf_B212 at hf
          refine lv_iload_n hx hb dX12_sumOf_212 rfl (lv_at hl 1 rfl) ?_
          refine lv_iload hx hb dX12_sumOf_213 (lv_at hl 2 rfl) ?_
          refine lv_icmp_ge (tgt := 243) hx hb dX12_sumOf_215 (by decide) (fun c_215 => ?_) (fun c_215 => ?_)
          · replace hf := if_t c_215 hf
            have hf : m_Mo_sumOf_E243 j5_11 = some o_r := by have hq := hk_212; rw [iter_exit hf hr_212] at hq; exact hq
            exact hJ_243 j5_11 _ _ _ hf hP hD hS (lv_sub hl [3] rfl)
          · replace hf := if_f c_215 hf
            refine lv_iload hx hb dX12_sumOf_218 (lv_at hl 3 rfl) ?_
            refine lv_aload_n hx hb dX12_sumOf_220 rfl (lv_at hl 0 rfl) ?_
            refine lv_iload_n hx hb dX12_sumOf_221 rfl (lv_at hl 1 rfl) ?_
            obtain ⟨hin, hf⟩ := chk_some hf
            refine va_iald hx hb hK hP 0 1 rfl rfl hin dX12_sumOf_222 ?_
            refine lv_ldc hx hb hown (hts _ kw_1212) dX12_sumOf_223 ?_
            refine lv_imul hx hb dX12_sumOf_225 ?_
            refine lv_iadd hx hb dX12_sumOf_226 ?_
            refine lv_bipush (v := 11) hx hb dX12_sumOf_227 (by decide) ?_
            obtain ⟨r12, hc, hf⟩ := bind_some hf
            refine nx_i (rn_S (As := [.int (j5_11 + ((h0_f j3_10.toNatClampNeg) * (374761393 : Int32))), .int (11 : Int32)]) (rest := []) (n := 2) ⟨hx, hb, hml, hown, hts⟩ (c_Mo_turned (l := l) (dC := dC) (dI := dI) (cB := cB) (cI := cI) (a0 := (j5_11 + ((h0_f j3_10.toNatClampNeg) * (374761393 : Int32)))) (a1 := (11 : Int32))  (o_r := r12) hc) (wS kw_1219 kw_1220 kw_94 kw_1221) (by decide +kernel) ⟨Nat.le_of_ble_eq_true rfl, Nat.le_of_ble_eq_true rfl⟩ hK hP hD hN hT hS (va_free (wc := []) hD hS hA [] rfl) [] rfl (by decide) rfl hl.1 rfl (lv_room (Nat.le_of_ble_eq_true rfl)) dX12_sumOf_229 ⟨Nat.le_of_ble_eq_true rfl, Nat.le_of_ble_eq_true rfl⟩) hP hD hS hA (wr := [(h0, .inl (cI, h0_n, .inl h0_f))]) (w1 := []) (ws' := [(h0, .inl (cI, h0_n, .inl h0_f))]) [] [0] [0] rfl rfl (by decide) (by decide) rfl (by decide) (fun H locs hP hD hS => ?_)
            refine lv_ldc hx hb hown (hts _ kw_1222) dX12_sumOf_232 ?_
            refine lv_imul hx hb dX12_sumOf_234 ?_
            refine lv_topi (fun v5_13 e_v5_13 => ?_)
            replace hf := bnd_at e_v5_13 hf
            refine lv_istore (lv' := [(5, .int v5_13), (0, .ref h0), (3, .int j3_10), (4, .int v4_1)]) hx hb dX12_sumOf_235 hl (by decide) rfl (fun ls hl => ?_)
            obtain ⟨v3_14, e_v3_14⟩ : ∃ y : Int32, y = (j3_10 + (1 : Int32)) := ⟨_, rfl⟩
            replace hf := bnd_at e_v3_14 hf
            refine lv_iinc (v := v3_14) (lv' := [(3, .int v3_14), (5, .int v5_13), (0, .ref h0), (4, .int v4_1)]) hx hb dX12_sumOf_237 hl (k := 2) rfl (by rw [e_v3_14]; rfl) (by decide) rfl (fun ls hl => ?_)
            refine lv_goto (tgt := 212) hx hb dX12_sumOf_240 (by decide) ?_
            exact ih_212 v3_14 v5_13 _ _ _ (iter_back hf hr_212) hP hD hS (lv_sub hl [2, 0, 3, 1] rfl)
      exact hL_212 FU j3_5 j5_6 _ _ _ hi_212 hP hD hS (lv_sub hl [0, 1, 2, 3] rfl)
    obtain ⟨o_177, hi_177, hk_177⟩ := bind_some hf
    have hL_177 : ∀ (n : Nat) (j3_15 : Int32) (j5_16 : Int32) (H : Heap) (locs : List Loc) (ls : Array Slot), iter (fun st => m_Mo_sumOf_B177 h0_n h0_f v4_1 st.1 st.2) n (j3_15, j5_16) = some o_177 → va_P (dC, dI) vwCl [(h0, .inl (cI, h0_n, .inl h0_f))] H → va_D A [(h0, .inl (cI, h0_n, .inl h0_f))] → va_S A s.heap H locs → lv_has ls 10 [(0, .ref h0), (3, .int j3_15), (4, .int v4_1), (5, .int j5_16)] → W p l e (rm_Mo_sumOf) s m ([.ref h0, .int a1, .int a2] : List Value).toArray below meth c H locs 0 0 Q (F0 m 177 ls []) := by
      intro n
      induction n with
      | zero => intro j3_15 j5_16 H locs ls hf; exact absurd hf (fun z => by cases z)
      | succ n ih_177 =>
        intro j3_15 j5_16 H locs ls hf hP hD hS hl
        obtain ⟨r_177, hf, hr_177⟩ := iter_succ hf
        have hf : m_Mo_sumOf_B177 h0_n h0_f v4_1 j3_15 j5_16 = some r_177 := hf
        unfold m_Mo_sumOf_B177 at hf
        refine lv_iload hx hb dX12_sumOf_177 (lv_at hl 2 rfl) ?_
        refine lv_iload_n hx hb dX12_sumOf_179 rfl (lv_at hl 1 rfl) ?_
        refine lv_isub hx hb dX12_sumOf_180 ?_
        refine lv_iconst (v := 4) hx hb dX12_sumOf_181 (by decide) ?_
        refine lv_icmp_lt (tgt := 212) hx hb dX12_sumOf_182 (by decide) (fun c_182 => ?_) (fun c_182 => ?_)
        · replace hf := if_t c_182 hf
          have hf : m_Mo_sumOf_E212 h0_n h0_f v4_1 j3_15 j5_16 = some o_r := by have hq := hk_177; rw [iter_exit hf hr_177] at hq; exact hq
          exact hJ_212 j3_15 j5_16 _ _ _ hf hP hD hS (lv_sub hl [0, 1, 2, 3] rfl)
        · replace hf := if_f c_182 hf
          refine lv_iload hx hb dX12_sumOf_185 (lv_at hl 3 rfl) ?_
          refine lv_aload_n hx hb dX12_sumOf_187 rfl (lv_at hl 0 rfl) ?_
          refine lv_iload_n hx hb dX12_sumOf_188 rfl (lv_at hl 1 rfl) ?_
          obtain ⟨r17, hc, hf⟩ := bind_some hf
          refine nx_i (rn_S (As := [.ref h0, .int j3_15]) (rest := [.int j5_16]) (n := 2) ⟨hx, hb, hml, hown, hts⟩ (c_Mo_four (l := l) (dC := dC) (dI := dI) (cB := cB) (cI := cI) (h0 := h0) (a1 := j3_15) (h0_n := h0_n) (h0_f := h0_f)  (o_r := r17) hc) (wS kw_1216 kw_1217 kw_94 kw_1218) (by decide +kernel) ⟨Nat.le_of_ble_eq_true rfl, Nat.le_of_ble_eq_true rfl⟩ hK hP hD hN hT hS (va_free (wc := [(h0, .inl (cI, h0_n, .inl h0_f))]) hD hS hA [0] rfl) [0] rfl (by decide) rfl hl.1 rfl (lv_room (Nat.le_of_ble_eq_true rfl)) dX12_sumOf_189 ⟨Nat.le_of_ble_eq_true rfl, Nat.le_of_ble_eq_true rfl⟩) hP hD hS hA (wr := []) (w1 := [(h0, .inl (cI, h0_n, .inl h0_f))]) (ws' := [(h0, .inl (cI, h0_n, .inl h0_f))]) [0] [] [0] rfl rfl (by decide) (by decide) rfl (by decide) (fun H locs hP hD hS => ?_)
          refine lv_ldc hx hb hown (hts _ kw_1223) dX12_sumOf_192 ?_
          refine lv_imul hx hb dX12_sumOf_194 ?_
          refine lv_iadd hx hb dX12_sumOf_195 ?_
          refine lv_bipush (v := 17) hx hb dX12_sumOf_196 (by decide) ?_
          obtain ⟨r18, hc, hf⟩ := bind_some hf
          refine nx_i (rn_S (As := [.int (j5_16 + (r17 * (-1028477379 : Int32))), .int (17 : Int32)]) (rest := []) (n := 2) ⟨hx, hb, hml, hown, hts⟩ (c_Mo_turned (l := l) (dC := dC) (dI := dI) (cB := cB) (cI := cI) (a0 := (j5_16 + (r17 * (-1028477379 : Int32)))) (a1 := (17 : Int32))  (o_r := r18) hc) (wS kw_1219 kw_1220 kw_94 kw_1221) (by decide +kernel) ⟨Nat.le_of_ble_eq_true rfl, Nat.le_of_ble_eq_true rfl⟩ hK hP hD hN hT hS (va_free (wc := []) hD hS hA [] rfl) [] rfl (by decide) rfl hl.1 rfl (lv_room (Nat.le_of_ble_eq_true rfl)) dX12_sumOf_198 ⟨Nat.le_of_ble_eq_true rfl, Nat.le_of_ble_eq_true rfl⟩) hP hD hS hA (wr := [(h0, .inl (cI, h0_n, .inl h0_f))]) (w1 := []) (ws' := [(h0, .inl (cI, h0_n, .inl h0_f))]) [] [0] [0] rfl rfl (by decide) (by decide) rfl (by decide) (fun H locs hP hD hS => ?_)
          refine lv_ldc hx hb hown (hts _ kw_1224) dX12_sumOf_201 ?_
          refine lv_imul hx hb dX12_sumOf_203 ?_
          refine lv_topi (fun v5_19 e_v5_19 => ?_)
          replace hf := bnd_at e_v5_19 hf
          refine lv_istore (lv' := [(5, .int v5_19), (0, .ref h0), (3, .int j3_15), (4, .int v4_1)]) hx hb dX12_sumOf_204 hl (by decide) rfl (fun ls hl => ?_)
          obtain ⟨v3_20, e_v3_20⟩ : ∃ y : Int32, y = (j3_15 + (4 : Int32)) := ⟨_, rfl⟩
          replace hf := bnd_at e_v3_20 hf
          refine lv_iinc (v := v3_20) (lv' := [(3, .int v3_20), (5, .int v5_19), (0, .ref h0), (4, .int v4_1)]) hx hb dX12_sumOf_206 hl (k := 2) rfl (by rw [e_v3_20]; rfl) (by decide) rfl (fun ls hl => ?_)
          refine lv_goto (tgt := 177) hx hb dX12_sumOf_209 (by decide) ?_
          exact ih_177 v3_20 v5_19 _ _ _ (iter_back hf hr_177) hP hD hS (lv_sub hl [2, 0, 3, 1] rfl)
    exact hL_177 FU j3_2 v5_4 _ _ _ hi_177 hP hD hS (lv_sub hl [1, 3, 4, 0] rfl)
  refine lv_icmp_lt (tgt := 171) hx hb dX12_sumOf_14 (by decide) (fun c_14 => ?_) (fun c_14 => ?_)
  · replace hf := if_t c_14 hf
    exact hJ_171 a1 (374761393 : Int32) _ _ _ hf hP hD hS (lv_sub hl [3, 5, 2, 1, 0] rfl)
  · replace hf := if_f c_14 hf
    refine lv_ldc hx hb hown (hts _ kw_1213) dX12_sumOf_17 ?_
    refine lv_istore (lv' := [(6, .int (606290984 : Int32)), (5, .int (374761393 : Int32)), (4, .int v4_1), (3, .int a1), (0, .ref h0), (1, .int a1), (2, .int a2)]) hx hb dX12_sumOf_19 hl (by decide) rfl (fun ls hl => ?_)
    refine lv_ldc hx hb hown (hts _ kw_1214) dX12_sumOf_21 ?_
    refine lv_istore (lv' := [(7, .int (-2048144777 : Int32)), (6, .int (606290984 : Int32)), (5, .int (374761393 : Int32)), (4, .int v4_1), (3, .int a1), (0, .ref h0), (1, .int a1), (2, .int a2)]) hx hb dX12_sumOf_23 hl (by decide) rfl (fun ls hl => ?_)
    refine lv_iconst (v := 0) hx hb dX12_sumOf_25 (by decide) ?_
    refine lv_istore (lv' := [(8, .int (0 : Int32)), (7, .int (-2048144777 : Int32)), (6, .int (606290984 : Int32)), (5, .int (374761393 : Int32)), (4, .int v4_1), (3, .int a1), (0, .ref h0), (1, .int a1), (2, .int a2)]) hx hb dX12_sumOf_26 hl (by decide) rfl (fun ls hl => ?_)
    refine lv_ldc hx hb hown (hts _ kw_1215) dX12_sumOf_28 ?_
    refine lv_istore (lv' := [(9, .int (1640531535 : Int32)), (8, .int (0 : Int32)), (7, .int (-2048144777 : Int32)), (6, .int (606290984 : Int32)), (5, .int (374761393 : Int32)), (4, .int v4_1), (3, .int a1), (0, .ref h0), (1, .int a1), (2, .int a2)]) hx hb dX12_sumOf_30 hl (by decide) rfl (fun ls hl => ?_)
    have hJ_139 : ∀ (j3_21 : Int32) (j6_22 : Int32) (j7_23 : Int32) (j8_24 : Int32) (j9_25 : Int32) (H : Heap) (locs : List Loc) (ls : Array Slot), m_Mo_sumOf_E139 a2 h0_n h0_f v4_1 j3_21 j6_22 j7_23 j8_24 j9_25 = some o_r → va_P (dC, dI) vwCl [(h0, .inl (cI, h0_n, .inl h0_f))] H → va_D A [(h0, .inl (cI, h0_n, .inl h0_f))] → va_S A s.heap H locs → lv_has ls 10 [(0, .ref h0), (2, .int a2), (3, .int j3_21), (4, .int v4_1), (6, .int j6_22), (7, .int j7_23), (8, .int j8_24), (9, .int j9_25)] → W p l e (rm_Mo_sumOf) s m ([.ref h0, .int a1, .int a2] : List Value).toArray below meth c H locs 0 0 Q (F0 m 139 ls []) := by
      intro j3_21 j6_22 j7_23 j8_24 j9_25 H locs ls hf hP hD hS hl
      unfold m_Mo_sumOf_E139 at hf
      refine lv_iload hx hb dX12_sumOf_139 (lv_at hl 4 rfl) ?_
      refine lv_iconst (v := 1) hx hb dX12_sumOf_141 (by decide) ?_
      obtain ⟨r26, hc, hf⟩ := bind_some hf
      refine nx_i (rn_S (As := [.int j6_22, .int (1 : Int32)]) (rest := []) (n := 2) ⟨hx, hb, hml, hown, hts⟩ (c_Mo_turned (l := l) (dC := dC) (dI := dI) (cB := cB) (cI := cI) (a0 := j6_22) (a1 := (1 : Int32))  (o_r := r26) hc) (wS kw_1219 kw_1220 kw_94 kw_1221) (by decide +kernel) ⟨Nat.le_of_ble_eq_true rfl, Nat.le_of_ble_eq_true rfl⟩ hK hP hD hN hT hS (va_free (wc := []) hD hS hA [] rfl) [] rfl (by decide) rfl hl.1 rfl (lv_room (Nat.le_of_ble_eq_true rfl)) dX12_sumOf_142 ⟨Nat.le_of_ble_eq_true rfl, Nat.le_of_ble_eq_true rfl⟩) hP hD hS hA (wr := [(h0, .inl (cI, h0_n, .inl h0_f))]) (w1 := []) (ws' := [(h0, .inl (cI, h0_n, .inl h0_f))]) [] [0] [0] rfl rfl (by decide) (by decide) rfl (by decide) (fun H locs hP hD hS => ?_)
      refine lv_iload hx hb dX12_sumOf_145 (lv_at hl 5 rfl) ?_
      refine lv_bipush (v := 7) hx hb dX12_sumOf_147 (by decide) ?_
      obtain ⟨r27, hc, hf⟩ := bind_some hf
      refine nx_i (rn_S (As := [.int j7_23, .int (7 : Int32)]) (rest := [.int r26]) (n := 2) ⟨hx, hb, hml, hown, hts⟩ (c_Mo_turned (l := l) (dC := dC) (dI := dI) (cB := cB) (cI := cI) (a0 := j7_23) (a1 := (7 : Int32))  (o_r := r27) hc) (wS kw_1219 kw_1220 kw_94 kw_1221) (by decide +kernel) ⟨Nat.le_of_ble_eq_true rfl, Nat.le_of_ble_eq_true rfl⟩ hK hP hD hN hT hS (va_free (wc := []) hD hS hA [] rfl) [] rfl (by decide) rfl hl.1 rfl (lv_room (Nat.le_of_ble_eq_true rfl)) dX12_sumOf_149 ⟨Nat.le_of_ble_eq_true rfl, Nat.le_of_ble_eq_true rfl⟩) hP hD hS hA (wr := [(h0, .inl (cI, h0_n, .inl h0_f))]) (w1 := []) (ws' := [(h0, .inl (cI, h0_n, .inl h0_f))]) [] [0] [0] rfl rfl (by decide) (by decide) rfl (by decide) (fun H locs hP hD hS => ?_)
      refine lv_iadd hx hb dX12_sumOf_152 ?_
      refine lv_iload hx hb dX12_sumOf_153 (lv_at hl 6 rfl) ?_
      refine lv_bipush (v := 12) hx hb dX12_sumOf_155 (by decide) ?_
      obtain ⟨r28, hc, hf⟩ := bind_some hf
      refine nx_i (rn_S (As := [.int j8_24, .int (12 : Int32)]) (rest := [.int (r26 + r27)]) (n := 2) ⟨hx, hb, hml, hown, hts⟩ (c_Mo_turned (l := l) (dC := dC) (dI := dI) (cB := cB) (cI := cI) (a0 := j8_24) (a1 := (12 : Int32))  (o_r := r28) hc) (wS kw_1219 kw_1220 kw_94 kw_1221) (by decide +kernel) ⟨Nat.le_of_ble_eq_true rfl, Nat.le_of_ble_eq_true rfl⟩ hK hP hD hN hT hS (va_free (wc := []) hD hS hA [] rfl) [] rfl (by decide) rfl hl.1 rfl (lv_room (Nat.le_of_ble_eq_true rfl)) dX12_sumOf_157 ⟨Nat.le_of_ble_eq_true rfl, Nat.le_of_ble_eq_true rfl⟩) hP hD hS hA (wr := [(h0, .inl (cI, h0_n, .inl h0_f))]) (w1 := []) (ws' := [(h0, .inl (cI, h0_n, .inl h0_f))]) [] [0] [0] rfl rfl (by decide) (by decide) rfl (by decide) (fun H locs hP hD hS => ?_)
      refine lv_iadd hx hb dX12_sumOf_160 ?_
      refine lv_iload hx hb dX12_sumOf_161 (lv_at hl 7 rfl) ?_
      refine lv_bipush (v := 18) hx hb dX12_sumOf_163 (by decide) ?_
      obtain ⟨r29, hc, hf⟩ := bind_some hf
      refine nx_i (rn_S (As := [.int j9_25, .int (18 : Int32)]) (rest := [.int ((r26 + r27) + r28)]) (n := 2) ⟨hx, hb, hml, hown, hts⟩ (c_Mo_turned (l := l) (dC := dC) (dI := dI) (cB := cB) (cI := cI) (a0 := j9_25) (a1 := (18 : Int32))  (o_r := r29) hc) (wS kw_1219 kw_1220 kw_94 kw_1221) (by decide +kernel) ⟨Nat.le_of_ble_eq_true rfl, Nat.le_of_ble_eq_true rfl⟩ hK hP hD hN hT hS (va_free (wc := []) hD hS hA [] rfl) [] rfl (by decide) rfl hl.1 rfl (lv_room (Nat.le_of_ble_eq_true rfl)) dX12_sumOf_165 ⟨Nat.le_of_ble_eq_true rfl, Nat.le_of_ble_eq_true rfl⟩) hP hD hS hA (wr := [(h0, .inl (cI, h0_n, .inl h0_f))]) (w1 := []) (ws' := [(h0, .inl (cI, h0_n, .inl h0_f))]) [] [0] [0] rfl rfl (by decide) (by decide) rfl (by decide) (fun H locs hP hD hS => ?_)
      refine lv_iadd hx hb dX12_sumOf_168 ?_
      refine lv_topi (fun v5_30 e_v5_30 => ?_)
      replace hf := bnd_at e_v5_30 hf
      refine lv_istore (lv' := [(5, .int v5_30), (0, .ref h0), (2, .int a2), (3, .int j3_21), (4, .int v4_1), (6, .int j6_22), (7, .int j7_23), (8, .int j8_24), (9, .int j9_25)]) hx hb dX12_sumOf_169 hl (by decide) rfl (fun ls hl => ?_)
      exact hJ_171 j3_21 v5_30 _ _ _ hf hP hD hS (lv_sub hl [1, 2, 3, 4, 0] rfl)
    obtain ⟨o_32, hi_32, hk_32⟩ := bind_some hf
    have hL_32 : ∀ (n : Nat) (j3_31 : Int32) (j6_32 : Int32) (j7_33 : Int32) (j8_34 : Int32) (j9_35 : Int32) (H : Heap) (locs : List Loc) (ls : Array Slot), iter (fun st => m_Mo_sumOf_B32 h0_n h0_f v4_1 st.1 st.2.1 st.2.2.1 st.2.2.2.1 st.2.2.2.2) n (j3_31, j6_32, j7_33, j8_34, j9_35) = some o_32 → va_P (dC, dI) vwCl [(h0, .inl (cI, h0_n, .inl h0_f))] H → va_D A [(h0, .inl (cI, h0_n, .inl h0_f))] → va_S A s.heap H locs → lv_has ls 10 [(0, .ref h0), (2, .int a2), (3, .int j3_31), (4, .int v4_1), (6, .int j6_32), (7, .int j7_33), (8, .int j8_34), (9, .int j9_35)] → W p l e (rm_Mo_sumOf) s m ([.ref h0, .int a1, .int a2] : List Value).toArray below meth c H locs 0 0 Q (F0 m 32 ls []) := by
      intro n
      induction n with
      | zero => intro j3_31 j6_32 j7_33 j8_34 j9_35 H locs ls hf; exact absurd hf (fun z => by cases z)
      | succ n ih_32 =>
        intro j3_31 j6_32 j7_33 j8_34 j9_35 H locs ls hf hP hD hS hl
        obtain ⟨r_32, hf, hr_32⟩ := iter_succ hf
        have hf : m_Mo_sumOf_B32 h0_n h0_f v4_1 j3_31 j6_32 j7_33 j8_34 j9_35 = some r_32 := hf
        unfold m_Mo_sumOf_B32 at hf
        refine lv_iload hx hb dX12_sumOf_32 (lv_at hl 3 rfl) ?_
        refine lv_iload_n hx hb dX12_sumOf_34 rfl (lv_at hl 2 rfl) ?_
        refine lv_isub hx hb dX12_sumOf_35 ?_
        refine lv_bipush (v := 16) hx hb dX12_sumOf_36 (by decide) ?_
        refine lv_icmp_lt (tgt := 139) hx hb dX12_sumOf_38 (by decide) (fun c_38 => ?_) (fun c_38 => ?_)
        · replace hf := if_t c_38 hf
          have hf : m_Mo_sumOf_E139 a2 h0_n h0_f v4_1 j3_31 j6_32 j7_33 j8_34 j9_35 = some o_r := by have hq := hk_32; rw [iter_exit hf hr_32] at hq; exact hq
          exact hJ_139 j3_31 j6_32 j7_33 j8_34 j9_35 _ _ _ hf hP hD hS (lv_sub hl [0, 1, 2, 3, 4, 5, 6, 7] rfl)
        · replace hf := if_f c_38 hf
          refine lv_iload hx hb dX12_sumOf_41 (lv_at hl 4 rfl) ?_
          refine lv_aload_n hx hb dX12_sumOf_43 rfl (lv_at hl 0 rfl) ?_
          refine lv_iload_n hx hb dX12_sumOf_44 rfl (lv_at hl 2 rfl) ?_
          obtain ⟨r36, hc, hf⟩ := bind_some hf
          refine nx_i (rn_S (As := [.ref h0, .int j3_31]) (rest := [.int j6_32]) (n := 2) ⟨hx, hb, hml, hown, hts⟩ (c_Mo_four (l := l) (dC := dC) (dI := dI) (cB := cB) (cI := cI) (h0 := h0) (a1 := j3_31) (h0_n := h0_n) (h0_f := h0_f)  (o_r := r36) hc) (wS kw_1216 kw_1217 kw_94 kw_1218) (by decide +kernel) ⟨Nat.le_of_ble_eq_true rfl, Nat.le_of_ble_eq_true rfl⟩ hK hP hD hN hT hS (va_free (wc := [(h0, .inl (cI, h0_n, .inl h0_f))]) hD hS hA [0] rfl) [0] rfl (by decide) rfl hl.1 rfl (lv_room (Nat.le_of_ble_eq_true rfl)) dX12_sumOf_45 ⟨Nat.le_of_ble_eq_true rfl, Nat.le_of_ble_eq_true rfl⟩) hP hD hS hA (wr := []) (w1 := [(h0, .inl (cI, h0_n, .inl h0_f))]) (ws' := [(h0, .inl (cI, h0_n, .inl h0_f))]) [0] [] [0] rfl rfl (by decide) (by decide) rfl (by decide) (fun H locs hP hD hS => ?_)
          refine lv_ldc hx hb hown (hts _ kw_1214) dX12_sumOf_48 ?_
          refine lv_imul hx hb dX12_sumOf_50 ?_
          refine lv_iadd hx hb dX12_sumOf_51 ?_
          refine lv_bipush (v := 13) hx hb dX12_sumOf_52 (by decide) ?_
          obtain ⟨r37, hc, hf⟩ := bind_some hf
          refine nx_i (rn_S (As := [.int (j6_32 + (r36 * (-2048144777 : Int32))), .int (13 : Int32)]) (rest := []) (n := 2) ⟨hx, hb, hml, hown, hts⟩ (c_Mo_turned (l := l) (dC := dC) (dI := dI) (cB := cB) (cI := cI) (a0 := (j6_32 + (r36 * (-2048144777 : Int32)))) (a1 := (13 : Int32))  (o_r := r37) hc) (wS kw_1219 kw_1220 kw_94 kw_1221) (by decide +kernel) ⟨Nat.le_of_ble_eq_true rfl, Nat.le_of_ble_eq_true rfl⟩ hK hP hD hN hT hS (va_free (wc := []) hD hS hA [] rfl) [] rfl (by decide) rfl hl.1 rfl (lv_room (Nat.le_of_ble_eq_true rfl)) dX12_sumOf_54 ⟨Nat.le_of_ble_eq_true rfl, Nat.le_of_ble_eq_true rfl⟩) hP hD hS hA (wr := [(h0, .inl (cI, h0_n, .inl h0_f))]) (w1 := []) (ws' := [(h0, .inl (cI, h0_n, .inl h0_f))]) [] [0] [0] rfl rfl (by decide) (by decide) rfl (by decide) (fun H locs hP hD hS => ?_)
          refine lv_ldc hx hb hown (hts _ kw_1222) dX12_sumOf_57 ?_
          refine lv_imul hx hb dX12_sumOf_59 ?_
          refine lv_topi (fun v6_38 e_v6_38 => ?_)
          replace hf := bnd_at e_v6_38 hf
          refine lv_istore (lv' := [(6, .int v6_38), (0, .ref h0), (2, .int a2), (3, .int j3_31), (4, .int v4_1), (7, .int j7_33), (8, .int j8_34), (9, .int j9_35)]) hx hb dX12_sumOf_60 hl (by decide) rfl (fun ls hl => ?_)
          refine lv_iload hx hb dX12_sumOf_62 (lv_at hl 5 rfl) ?_
          refine lv_aload_n hx hb dX12_sumOf_64 rfl (lv_at hl 1 rfl) ?_
          refine lv_iload_n hx hb dX12_sumOf_65 rfl (lv_at hl 3 rfl) ?_
          refine lv_iconst (v := 4) hx hb dX12_sumOf_66 (by decide) ?_
          refine lv_iadd hx hb dX12_sumOf_67 ?_
          obtain ⟨r39, hc, hf⟩ := bind_some hf
          refine nx_i (rn_S (As := [.ref h0, .int (j3_31 + (4 : Int32))]) (rest := [.int j7_33]) (n := 2) ⟨hx, hb, hml, hown, hts⟩ (c_Mo_four (l := l) (dC := dC) (dI := dI) (cB := cB) (cI := cI) (h0 := h0) (a1 := (j3_31 + (4 : Int32))) (h0_n := h0_n) (h0_f := h0_f)  (o_r := r39) hc) (wS kw_1216 kw_1217 kw_94 kw_1218) (by decide +kernel) ⟨Nat.le_of_ble_eq_true rfl, Nat.le_of_ble_eq_true rfl⟩ hK hP hD hN hT hS (va_free (wc := [(h0, .inl (cI, h0_n, .inl h0_f))]) hD hS hA [0] rfl) [0] rfl (by decide) rfl hl.1 rfl (lv_room (Nat.le_of_ble_eq_true rfl)) dX12_sumOf_68 ⟨Nat.le_of_ble_eq_true rfl, Nat.le_of_ble_eq_true rfl⟩) hP hD hS hA (wr := []) (w1 := [(h0, .inl (cI, h0_n, .inl h0_f))]) (ws' := [(h0, .inl (cI, h0_n, .inl h0_f))]) [0] [] [0] rfl rfl (by decide) (by decide) rfl (by decide) (fun H locs hP hD hS => ?_)
          refine lv_ldc hx hb hown (hts _ kw_1214) dX12_sumOf_71 ?_
          refine lv_imul hx hb dX12_sumOf_73 ?_
          refine lv_iadd hx hb dX12_sumOf_74 ?_
          refine lv_bipush (v := 13) hx hb dX12_sumOf_75 (by decide) ?_
          obtain ⟨r40, hc, hf⟩ := bind_some hf
          refine nx_i (rn_S (As := [.int (j7_33 + (r39 * (-2048144777 : Int32))), .int (13 : Int32)]) (rest := []) (n := 2) ⟨hx, hb, hml, hown, hts⟩ (c_Mo_turned (l := l) (dC := dC) (dI := dI) (cB := cB) (cI := cI) (a0 := (j7_33 + (r39 * (-2048144777 : Int32)))) (a1 := (13 : Int32))  (o_r := r40) hc) (wS kw_1219 kw_1220 kw_94 kw_1221) (by decide +kernel) ⟨Nat.le_of_ble_eq_true rfl, Nat.le_of_ble_eq_true rfl⟩ hK hP hD hN hT hS (va_free (wc := []) hD hS hA [] rfl) [] rfl (by decide) rfl hl.1 rfl (lv_room (Nat.le_of_ble_eq_true rfl)) dX12_sumOf_77 ⟨Nat.le_of_ble_eq_true rfl, Nat.le_of_ble_eq_true rfl⟩) hP hD hS hA (wr := [(h0, .inl (cI, h0_n, .inl h0_f))]) (w1 := []) (ws' := [(h0, .inl (cI, h0_n, .inl h0_f))]) [] [0] [0] rfl rfl (by decide) (by decide) rfl (by decide) (fun H locs hP hD hS => ?_)
          refine lv_ldc hx hb hown (hts _ kw_1222) dX12_sumOf_80 ?_
          refine lv_imul hx hb dX12_sumOf_82 ?_
          refine lv_topi (fun v7_41 e_v7_41 => ?_)
          replace hf := bnd_at e_v7_41 hf
          refine lv_istore (lv' := [(7, .int v7_41), (6, .int v6_38), (0, .ref h0), (2, .int a2), (3, .int j3_31), (4, .int v4_1), (8, .int j8_34), (9, .int j9_35)]) hx hb dX12_sumOf_83 hl (by decide) rfl (fun ls hl => ?_)
          refine lv_iload hx hb dX12_sumOf_85 (lv_at hl 6 rfl) ?_
          refine lv_aload_n hx hb dX12_sumOf_87 rfl (lv_at hl 2 rfl) ?_
          refine lv_iload_n hx hb dX12_sumOf_88 rfl (lv_at hl 4 rfl) ?_
          refine lv_bipush (v := 8) hx hb dX12_sumOf_89 (by decide) ?_
          refine lv_iadd hx hb dX12_sumOf_91 ?_
          obtain ⟨r42, hc, hf⟩ := bind_some hf
          refine nx_i (rn_S (As := [.ref h0, .int (j3_31 + (8 : Int32))]) (rest := [.int j8_34]) (n := 2) ⟨hx, hb, hml, hown, hts⟩ (c_Mo_four (l := l) (dC := dC) (dI := dI) (cB := cB) (cI := cI) (h0 := h0) (a1 := (j3_31 + (8 : Int32))) (h0_n := h0_n) (h0_f := h0_f)  (o_r := r42) hc) (wS kw_1216 kw_1217 kw_94 kw_1218) (by decide +kernel) ⟨Nat.le_of_ble_eq_true rfl, Nat.le_of_ble_eq_true rfl⟩ hK hP hD hN hT hS (va_free (wc := [(h0, .inl (cI, h0_n, .inl h0_f))]) hD hS hA [0] rfl) [0] rfl (by decide) rfl hl.1 rfl (lv_room (Nat.le_of_ble_eq_true rfl)) dX12_sumOf_92 ⟨Nat.le_of_ble_eq_true rfl, Nat.le_of_ble_eq_true rfl⟩) hP hD hS hA (wr := []) (w1 := [(h0, .inl (cI, h0_n, .inl h0_f))]) (ws' := [(h0, .inl (cI, h0_n, .inl h0_f))]) [0] [] [0] rfl rfl (by decide) (by decide) rfl (by decide) (fun H locs hP hD hS => ?_)
          refine lv_ldc hx hb hown (hts _ kw_1214) dX12_sumOf_95 ?_
          refine lv_imul hx hb dX12_sumOf_97 ?_
          refine lv_iadd hx hb dX12_sumOf_98 ?_
          refine lv_bipush (v := 13) hx hb dX12_sumOf_99 (by decide) ?_
          obtain ⟨r43, hc, hf⟩ := bind_some hf
          refine nx_i (rn_S (As := [.int (j8_34 + (r42 * (-2048144777 : Int32))), .int (13 : Int32)]) (rest := []) (n := 2) ⟨hx, hb, hml, hown, hts⟩ (c_Mo_turned (l := l) (dC := dC) (dI := dI) (cB := cB) (cI := cI) (a0 := (j8_34 + (r42 * (-2048144777 : Int32)))) (a1 := (13 : Int32))  (o_r := r43) hc) (wS kw_1219 kw_1220 kw_94 kw_1221) (by decide +kernel) ⟨Nat.le_of_ble_eq_true rfl, Nat.le_of_ble_eq_true rfl⟩ hK hP hD hN hT hS (va_free (wc := []) hD hS hA [] rfl) [] rfl (by decide) rfl hl.1 rfl (lv_room (Nat.le_of_ble_eq_true rfl)) dX12_sumOf_101 ⟨Nat.le_of_ble_eq_true rfl, Nat.le_of_ble_eq_true rfl⟩) hP hD hS hA (wr := [(h0, .inl (cI, h0_n, .inl h0_f))]) (w1 := []) (ws' := [(h0, .inl (cI, h0_n, .inl h0_f))]) [] [0] [0] rfl rfl (by decide) (by decide) rfl (by decide) (fun H locs hP hD hS => ?_)
          refine lv_ldc hx hb hown (hts _ kw_1222) dX12_sumOf_104 ?_
          refine lv_imul hx hb dX12_sumOf_106 ?_
          refine lv_topi (fun v8_44 e_v8_44 => ?_)
          replace hf := bnd_at e_v8_44 hf
          refine lv_istore (lv' := [(8, .int v8_44), (7, .int v7_41), (6, .int v6_38), (0, .ref h0), (2, .int a2), (3, .int j3_31), (4, .int v4_1), (9, .int j9_35)]) hx hb dX12_sumOf_107 hl (by decide) rfl (fun ls hl => ?_)
          refine lv_iload hx hb dX12_sumOf_109 (lv_at hl 7 rfl) ?_
          refine lv_aload_n hx hb dX12_sumOf_111 rfl (lv_at hl 3 rfl) ?_
          refine lv_iload_n hx hb dX12_sumOf_112 rfl (lv_at hl 5 rfl) ?_
          refine lv_bipush (v := 12) hx hb dX12_sumOf_113 (by decide) ?_
          refine lv_iadd hx hb dX12_sumOf_115 ?_
          obtain ⟨r45, hc, hf⟩ := bind_some hf
          refine nx_i (rn_S (As := [.ref h0, .int (j3_31 + (12 : Int32))]) (rest := [.int j9_35]) (n := 2) ⟨hx, hb, hml, hown, hts⟩ (c_Mo_four (l := l) (dC := dC) (dI := dI) (cB := cB) (cI := cI) (h0 := h0) (a1 := (j3_31 + (12 : Int32))) (h0_n := h0_n) (h0_f := h0_f)  (o_r := r45) hc) (wS kw_1216 kw_1217 kw_94 kw_1218) (by decide +kernel) ⟨Nat.le_of_ble_eq_true rfl, Nat.le_of_ble_eq_true rfl⟩ hK hP hD hN hT hS (va_free (wc := [(h0, .inl (cI, h0_n, .inl h0_f))]) hD hS hA [0] rfl) [0] rfl (by decide) rfl hl.1 rfl (lv_room (Nat.le_of_ble_eq_true rfl)) dX12_sumOf_116 ⟨Nat.le_of_ble_eq_true rfl, Nat.le_of_ble_eq_true rfl⟩) hP hD hS hA (wr := []) (w1 := [(h0, .inl (cI, h0_n, .inl h0_f))]) (ws' := [(h0, .inl (cI, h0_n, .inl h0_f))]) [0] [] [0] rfl rfl (by decide) (by decide) rfl (by decide) (fun H locs hP hD hS => ?_)
          refine lv_ldc hx hb hown (hts _ kw_1214) dX12_sumOf_119 ?_
          refine lv_imul hx hb dX12_sumOf_121 ?_
          refine lv_iadd hx hb dX12_sumOf_122 ?_
          refine lv_bipush (v := 13) hx hb dX12_sumOf_123 (by decide) ?_
          obtain ⟨r46, hc, hf⟩ := bind_some hf
          refine nx_i (rn_S (As := [.int (j9_35 + (r45 * (-2048144777 : Int32))), .int (13 : Int32)]) (rest := []) (n := 2) ⟨hx, hb, hml, hown, hts⟩ (c_Mo_turned (l := l) (dC := dC) (dI := dI) (cB := cB) (cI := cI) (a0 := (j9_35 + (r45 * (-2048144777 : Int32)))) (a1 := (13 : Int32))  (o_r := r46) hc) (wS kw_1219 kw_1220 kw_94 kw_1221) (by decide +kernel) ⟨Nat.le_of_ble_eq_true rfl, Nat.le_of_ble_eq_true rfl⟩ hK hP hD hN hT hS (va_free (wc := []) hD hS hA [] rfl) [] rfl (by decide) rfl hl.1 rfl (lv_room (Nat.le_of_ble_eq_true rfl)) dX12_sumOf_125 ⟨Nat.le_of_ble_eq_true rfl, Nat.le_of_ble_eq_true rfl⟩) hP hD hS hA (wr := [(h0, .inl (cI, h0_n, .inl h0_f))]) (w1 := []) (ws' := [(h0, .inl (cI, h0_n, .inl h0_f))]) [] [0] [0] rfl rfl (by decide) (by decide) rfl (by decide) (fun H locs hP hD hS => ?_)
          refine lv_ldc hx hb hown (hts _ kw_1222) dX12_sumOf_128 ?_
          refine lv_imul hx hb dX12_sumOf_130 ?_
          refine lv_topi (fun v9_47 e_v9_47 => ?_)
          replace hf := bnd_at e_v9_47 hf
          refine lv_istore (lv' := [(9, .int v9_47), (8, .int v8_44), (7, .int v7_41), (6, .int v6_38), (0, .ref h0), (2, .int a2), (3, .int j3_31), (4, .int v4_1)]) hx hb dX12_sumOf_131 hl (by decide) rfl (fun ls hl => ?_)
          obtain ⟨v3_48, e_v3_48⟩ : ∃ y : Int32, y = (j3_31 + (16 : Int32)) := ⟨_, rfl⟩
          replace hf := bnd_at e_v3_48 hf
          refine lv_iinc (v := v3_48) (lv' := [(3, .int v3_48), (9, .int v9_47), (8, .int v8_44), (7, .int v7_41), (6, .int v6_38), (0, .ref h0), (2, .int a2), (4, .int v4_1)]) hx hb dX12_sumOf_133 hl (k := 6) rfl (by rw [e_v3_48]; rfl) (by decide) rfl (fun ls hl => ?_)
          refine lv_goto (tgt := 32) hx hb dX12_sumOf_136 (by decide) ?_
          exact ih_32 v3_48 v6_38 v7_41 v8_44 v9_47 _ _ _ (iter_back hf hr_32) hP hD hS (lv_sub hl [5, 6, 0, 7, 4, 3, 2, 1] rfl)
    exact hL_32 FU a1 (606290984 : Int32) (-2048144777 : Int32) (0 : Int32) (1640531535 : Int32) _ _ _ hi_32 hP hD hS (lv_sub hl [7, 9, 6, 5, 3, 2, 1, 0] rfl)

theorem dX12_crcOf_0 : decode cX12_crcOf 0 = .ok (.iconst (-1), 1) := by decide +kernel
theorem dX12_crcOf_1 : decode cX12_crcOf 1 = .ok (.istore_n 3, 1) := by decide +kernel
theorem dX12_crcOf_2 : decode cX12_crcOf 2 = .ok (.iload_n 1, 1) := by decide +kernel
theorem dX12_crcOf_3 : decode cX12_crcOf 3 = .ok (.istore 4, 2) := by decide +kernel
theorem dX12_crcOf_5 : decode cX12_crcOf 5 = .ok (.iload 4, 2) := by decide +kernel
theorem dX12_crcOf_7 : decode cX12_crcOf 7 = .ok (.iload_n 1, 1) := by decide +kernel
theorem dX12_crcOf_8 : decode cX12_crcOf 8 = .ok (.iload_n 2, 1) := by decide +kernel
theorem dX12_crcOf_9 : decode cX12_crcOf 9 = .ok (.iadd, 1) := by decide +kernel
theorem dX12_crcOf_10 : decode cX12_crcOf 10 = .ok (.if_icmp .ge 60, 3) := by decide +kernel
theorem dX12_crcOf_13 : decode cX12_crcOf 13 = .ok (.iload_n 3, 1) := by decide +kernel
theorem dX12_crcOf_14 : decode cX12_crcOf 14 = .ok (.aload_n 0, 1) := by decide +kernel
theorem dX12_crcOf_15 : decode cX12_crcOf 15 = .ok (.iload 4, 2) := by decide +kernel
theorem dX12_crcOf_17 : decode cX12_crcOf 17 = .ok (.iaload, 1) := by decide +kernel
theorem dX12_crcOf_18 : decode cX12_crcOf 18 = .ok (.ixor, 1) := by decide +kernel
theorem dX12_crcOf_19 : decode cX12_crcOf 19 = .ok (.istore_n 3, 1) := by decide +kernel
theorem dX12_crcOf_20 : decode cX12_crcOf 20 = .ok (.iconst 0, 1) := by decide +kernel
theorem dX12_crcOf_21 : decode cX12_crcOf 21 = .ok (.istore 5, 2) := by decide +kernel
theorem dX12_crcOf_23 : decode cX12_crcOf 23 = .ok (.iload 5, 2) := by decide +kernel
theorem dX12_crcOf_25 : decode cX12_crcOf 25 = .ok (.bipush 8, 2) := by decide +kernel
theorem dX12_crcOf_27 : decode cX12_crcOf 27 = .ok (.if_icmp .ge 37, 3) := by decide +kernel
theorem dX12_crcOf_30 : decode cX12_crcOf 30 = .ok (.iload_n 3, 1) := by decide +kernel
theorem dX12_crcOf_31 : decode cX12_crcOf 31 = .ok (.iconst 1, 1) := by decide +kernel
theorem dX12_crcOf_32 : decode cX12_crcOf 32 = .ok (.iand, 1) := by decide +kernel
theorem dX12_crcOf_33 : decode cX12_crcOf 33 = .ok (.iconst 1, 1) := by decide +kernel
theorem dX12_crcOf_34 : decode cX12_crcOf 34 = .ok (.if_icmp .ne 7, 3) := by decide +kernel
theorem dX12_crcOf_37 : decode cX12_crcOf 37 = .ok (.iconst 1, 1) := by decide +kernel
theorem dX12_crcOf_38 : decode cX12_crcOf 38 = .ok (.goto 4, 3) := by decide +kernel
theorem dX12_crcOf_41 : decode cX12_crcOf 41 = .ok (.iconst 0, 1) := by decide +kernel
theorem dX12_crcOf_42 : decode cX12_crcOf 42 = .ok (.istore 6, 2) := by decide +kernel
theorem dX12_crcOf_44 : decode cX12_crcOf 44 = .ok (.iload_n 3, 1) := by decide +kernel
theorem dX12_crcOf_45 : decode cX12_crcOf 45 = .ok (.iconst 1, 1) := by decide +kernel
theorem dX12_crcOf_46 : decode cX12_crcOf 46 = .ok (.iushr, 1) := by decide +kernel
theorem dX12_crcOf_47 : decode cX12_crcOf 47 = .ok (.istore_n 3, 1) := by decide +kernel
theorem dX12_crcOf_48 : decode cX12_crcOf 48 = .ok (.iload 6, 2) := by decide +kernel
theorem dX12_crcOf_50 : decode cX12_crcOf 50 = .ok (.ifCond .eq 8, 3) := by decide +kernel
theorem dX12_crcOf_53 : decode cX12_crcOf 53 = .ok (.iload_n 3, 1) := by decide +kernel
theorem dX12_crcOf_54 : decode cX12_crcOf 54 = .ok (.ldc 18, 2) := by decide +kernel
theorem dX12_crcOf_56 : decode cX12_crcOf 56 = .ok (.ixor, 1) := by decide +kernel
theorem dX12_crcOf_57 : decode cX12_crcOf 57 = .ok (.istore_n 3, 1) := by decide +kernel
theorem dX12_crcOf_58 : decode cX12_crcOf 58 = .ok (.iinc 5 1, 3) := by decide +kernel
theorem dX12_crcOf_61 : decode cX12_crcOf 61 = .ok (.goto (-38), 3) := by decide +kernel
theorem dX12_crcOf_64 : decode cX12_crcOf 64 = .ok (.iinc 4 1, 3) := by decide +kernel
theorem dX12_crcOf_67 : decode cX12_crcOf 67 = .ok (.goto (-62), 3) := by decide +kernel
theorem dX12_crcOf_70 : decode cX12_crcOf 70 = .ok (.iload_n 3, 1) := by decide +kernel
theorem dX12_crcOf_71 : decode cX12_crcOf 71 = .ok (.iconst (-1), 1) := by decide +kernel
theorem dX12_crcOf_72 : decode cX12_crcOf 72 = .ok (.ixor, 1) := by decide +kernel
theorem dX12_crcOf_73 : decode cX12_crcOf 73 = .ok (.ireturn, 1) := by decide +kernel
def m_Mo_crcOf_E64 (j4_2 : Int32) (j3_4 : Int32) : Option ((Int32 × Int32) ⊕ ((((Int32))))) :=
  bnd (j4_2 + (1 : Int32)) fun v4_5 =>
  some (.inl (j3_4, v4_5))
def m_Mo_crcOf_J58 (j5_7 : Int32) (j3_10 : Int32) : Option ((Int32 × Int32) ⊕ ((Int32))) :=
  bnd (j5_7 + (1 : Int32)) fun v5_11 =>
  some (.inl (j3_10, v5_11))
def m_Mo_crcOf_J42 (j3_6 : Int32) (j5_7 : Int32) (s8 : Int32) : Option ((Int32 × Int32) ⊕ ((Int32))) :=
  bnd (iushr j3_6 (1 : Int32)) fun v3_9 =>
  if s8 = 0 then
    m_Mo_crcOf_J58 j5_7 v3_9
  else
    bnd (v3_9 ^^^ (-2097792136 : Int32)) fun v3_12 =>
    m_Mo_crcOf_J58 j5_7 v3_12
def m_Mo_crcOf_B23 (j3_6 : Int32) (j5_7 : Int32) : Option ((Int32 × Int32) ⊕ ((Int32))) :=
  if (8 : Int32) ≤ j5_7 then
    some (.inr j3_6)
  else
    if (j3_6 &&& (1 : Int32)) = (1 : Int32) then
      m_Mo_crcOf_J42 j3_6 j5_7 (1 : Int32)
    else
      m_Mo_crcOf_J42 j3_6 j5_7 (0 : Int32)
def m_Mo_crcOf_B5 (a1 : Int32) (a2 : Int32) (h0_n : Nat) (h0_f : Nat → Int32) (j3_1 : Int32) (j4_2 : Int32) : Option ((Int32 × Int32) ⊕ ((((Int32))))) :=
  if (a1 + a2) ≤ j4_2 then
    some (.inr (j3_1 ^^^ (-1 : Int32)))
  else
    chk j4_2 h0_n <|
    bnd (j3_1 ^^^ (h0_f j4_2.toNatClampNeg)) fun v3_3 =>
    (iter (fun st => m_Mo_crcOf_B23 st.1 st.2) FU (v3_3, (0 : Int32))).bind fun o => m_Mo_crcOf_E64 j4_2 o
def m_Mo_crcOf (a1 : Int32) (a2 : Int32) (h0_n : Nat) (h0_f : Nat → Int32) : Option (Int32) :=
  (iter (fun st => m_Mo_crcOf_B5 a1 a2 h0_n h0_f st.1 st.2) FU ((-1 : Int32), a1)).bind fun o => some o
def rm_Mo_crcOf : Room := { frames := 0, cells := 0, slots := 0, locals := 0 }
set_option maxHeartbeats 4000000 in
set_option maxRecDepth 100000 in
theorem c_Mo_crcOf {l : Launch} {dC : Nat → ClassId} {dI : Nat → Nat → Nat} {cB cI : ClassId} {sz : Nat} {h0 : Nat} {a1 : Int32} {a2 : Int32} {h0_n : Nat} {h0_f : Nat → Int32} {o_r : Int32} (hf : m_Mo_crcOf a1 a2 h0_n h0_f = some o_r) : Met l yX12_crcOf (Cond.code yX12_crcOf cX12_crcOf 7 (some .int) :: lw_G) rm_Mo_crcOf (PreC (dC, dI) [(cB, .byte), (cI, .int)] [.ref h0, .int a1, .int a2] sz [(h0, .inl (cI, h0_n, .inl h0_f))]) (QcI o_r (dC, dI) [(h0, .inl (cI, h0_n, .inl h0_f))] (va_A [(h0, .inl (cI, h0_n, .inl h0_f))] sz)) 0 0 (va_A [(h0, .inl (cI, h0_n, .inl h0_f))] sz) := by
  refine met_of (Qf := fun A => QcI o_r (dC, dI) [(h0, .inl (cI, h0_n, .inl h0_f))] A) (by decide) (Nat.le_of_ble_eq_true rfl) ?_
  intro p e s m below meth c A ls Q hx hb hr hml hown hts hlocks hnm hP hK hD hN hT hA hl hQ
  have hown : s.vm.findClass RX12 = some m.cls := hown
  have hS : va_S A s.heap s.heap [] := va_S.rf
  have hl : lv_has ls 7 [(0, .ref h0), (1, .int a1), (2, .int a2)] := hl
  unfold m_Mo_crcOf at hf
  refine lv_iconst (v := -1) hx hb dX12_crcOf_0 (by decide) ?_
  refine lv_istore_n (lv' := [(3, .int (-1 : Int32)), (0, .ref h0), (1, .int a1), (2, .int a2)]) hx hb dX12_crcOf_1 rfl hl (by decide) rfl (fun ls hl => ?_)
  refine lv_iload_n hx hb dX12_crcOf_2 rfl (lv_at hl 2 rfl) ?_
  refine lv_istore (lv' := [(4, .int a1), (3, .int (-1 : Int32)), (0, .ref h0), (1, .int a1), (2, .int a2)]) hx hb dX12_crcOf_3 hl (by decide) rfl (fun ls hl => ?_)
  obtain ⟨o_5, hi_5, hk_5⟩ := bind_some hf
  have hL_5 : ∀ (n : Nat) (j3_1 : Int32) (j4_2 : Int32) (H : Heap) (locs : List Loc) (ls : Array Slot), iter (fun st => m_Mo_crcOf_B5 a1 a2 h0_n h0_f st.1 st.2) n (j3_1, j4_2) = some o_5 → va_P (dC, dI) vwCl [(h0, .inl (cI, h0_n, .inl h0_f))] H → va_D A [(h0, .inl (cI, h0_n, .inl h0_f))] → va_S A s.heap H locs → lv_has ls 7 [(0, .ref h0), (1, .int a1), (2, .int a2), (3, .int j3_1), (4, .int j4_2)] → W p l e (rm_Mo_crcOf) s m ([.ref h0, .int a1, .int a2] : List Value).toArray below meth c H locs 0 0 Q (F0 m 5 ls []) := by
    intro n
    induction n with
    | zero => intro j3_1 j4_2 H locs ls hf; exact absurd hf (fun z => by cases z)
    | succ n ih_5 =>
      intro j3_1 j4_2 H locs ls hf hP hD hS hl
      obtain ⟨r_5, hf, hr_5⟩ := iter_succ hf
      have hf : m_Mo_crcOf_B5 a1 a2 h0_n h0_f j3_1 j4_2 = some r_5 := hf
      unfold m_Mo_crcOf_B5 at hf
      refine lv_iload hx hb dX12_crcOf_5 (lv_at hl 4 rfl) ?_
      refine lv_iload_n hx hb dX12_crcOf_7 rfl (lv_at hl 1 rfl) ?_
      refine lv_iload_n hx hb dX12_crcOf_8 rfl (lv_at hl 2 rfl) ?_
      refine lv_iadd hx hb dX12_crcOf_9 ?_
      refine lv_icmp_ge (tgt := 70) hx hb dX12_crcOf_10 (by decide) (fun c_10 => ?_) (fun c_10 => ?_)
      · replace hf := if_t c_10 hf
        refine lv_iload_n hx hb dX12_crcOf_70 rfl (lv_at hl 3 rfl) ?_
        refine lv_iconst (v := -1) hx hb dX12_crcOf_71 (by decide) ?_
        refine lv_ixor hx hb dX12_crcOf_72 ?_
        replace hf : some (j3_1 ^^^ (-1 : Int32)) = some o_r := by have hq := hk_5; rw [iter_exit hf hr_5] at hq; exact hq
        obtain rfl := Option.some.inj hf
        exact rt_i hQ hx hb hr hlocks hP hD hS dX12_crcOf_73
      · replace hf := if_f c_10 hf
        refine lv_iload_n hx hb dX12_crcOf_13 rfl (lv_at hl 3 rfl) ?_
        refine lv_aload_n hx hb dX12_crcOf_14 rfl (lv_at hl 0 rfl) ?_
        refine lv_iload hx hb dX12_crcOf_15 (lv_at hl 4 rfl) ?_
        obtain ⟨hin, hf⟩ := chk_some hf
        refine va_iald hx hb hK hP 0 1 rfl rfl hin dX12_crcOf_17 ?_
        refine lv_ixor hx hb dX12_crcOf_18 ?_
        refine lv_topi (fun v3_3 e_v3_3 => ?_)
        replace hf := bnd_at e_v3_3 hf
        refine lv_istore_n (lv' := [(3, .int v3_3), (0, .ref h0), (1, .int a1), (2, .int a2), (4, .int j4_2)]) hx hb dX12_crcOf_19 rfl hl (by decide) rfl (fun ls hl => ?_)
        refine lv_iconst (v := 0) hx hb dX12_crcOf_20 (by decide) ?_
        refine lv_istore (lv' := [(5, .int (0 : Int32)), (3, .int v3_3), (0, .ref h0), (1, .int a1), (2, .int a2), (4, .int j4_2)]) hx hb dX12_crcOf_21 hl (by decide) rfl (fun ls hl => ?_)
        have hJ_64 : ∀ (j3_4 : Int32) (H : Heap) (locs : List Loc) (ls : Array Slot), m_Mo_crcOf_E64 j4_2 j3_4 = some r_5 → va_P (dC, dI) vwCl [(h0, .inl (cI, h0_n, .inl h0_f))] H → va_D A [(h0, .inl (cI, h0_n, .inl h0_f))] → va_S A s.heap H locs → lv_has ls 7 [(0, .ref h0), (1, .int a1), (2, .int a2), (3, .int j3_4), (4, .int j4_2)] → W p l e (rm_Mo_crcOf) s m ([.ref h0, .int a1, .int a2] : List Value).toArray below meth c H locs 0 0 Q (F0 m 64 ls []) := by
          intro j3_4 H locs ls hf hP hD hS hl
          unfold m_Mo_crcOf_E64 at hf
          obtain ⟨v4_5, e_v4_5⟩ : ∃ y : Int32, y = (j4_2 + (1 : Int32)) := ⟨_, rfl⟩
          replace hf := bnd_at e_v4_5 hf
          refine lv_iinc (v := v4_5) (lv' := [(4, .int v4_5), (0, .ref h0), (1, .int a1), (2, .int a2), (3, .int j3_4)]) hx hb dX12_crcOf_64 hl (k := 4) rfl (by rw [e_v4_5]; rfl) (by decide) rfl (fun ls hl => ?_)
          refine lv_goto (tgt := 5) hx hb dX12_crcOf_67 (by decide) ?_
          exact ih_5 j3_4 v4_5 _ _ _ (iter_back hf hr_5) hP hD hS (lv_sub hl [1, 2, 3, 4, 0] rfl)
        obtain ⟨o_23, hi_23, hk_23⟩ := bind_some hf
        have hL_23 : ∀ (n : Nat) (j3_6 : Int32) (j5_7 : Int32) (H : Heap) (locs : List Loc) (ls : Array Slot), iter (fun st => m_Mo_crcOf_B23 st.1 st.2) n (j3_6, j5_7) = some o_23 → va_P (dC, dI) vwCl [(h0, .inl (cI, h0_n, .inl h0_f))] H → va_D A [(h0, .inl (cI, h0_n, .inl h0_f))] → va_S A s.heap H locs → lv_has ls 7 [(0, .ref h0), (1, .int a1), (2, .int a2), (3, .int j3_6), (4, .int j4_2), (5, .int j5_7)] → W p l e (rm_Mo_crcOf) s m ([.ref h0, .int a1, .int a2] : List Value).toArray below meth c H locs 0 0 Q (F0 m 23 ls []) := by
          intro n
          induction n with
          | zero => intro j3_6 j5_7 H locs ls hf; exact absurd hf (fun z => by cases z)
          | succ n ih_23 =>
            intro j3_6 j5_7 H locs ls hf hP hD hS hl
            obtain ⟨r_23, hf, hr_23⟩ := iter_succ hf
            have hf : m_Mo_crcOf_B23 j3_6 j5_7 = some r_23 := hf
            unfold m_Mo_crcOf_B23 at hf
            refine lv_iload hx hb dX12_crcOf_23 (lv_at hl 5 rfl) ?_
            refine lv_bipush (v := 8) hx hb dX12_crcOf_25 (by decide) ?_
            refine lv_icmp_ge (tgt := 64) hx hb dX12_crcOf_27 (by decide) (fun c_27 => ?_) (fun c_27 => ?_)
            · replace hf := if_t c_27 hf
              have hf : m_Mo_crcOf_E64 j4_2 j3_6 = some r_5 := by have hq := hk_23; rw [iter_exit hf hr_23] at hq; exact hq
              exact hJ_64 j3_6 _ _ _ hf hP hD hS (lv_sub hl [0, 1, 2, 3, 4] rfl)
            · replace hf := if_f c_27 hf
              refine lv_iload_n hx hb dX12_crcOf_30 rfl (lv_at hl 3 rfl) ?_
              refine lv_iconst (v := 1) hx hb dX12_crcOf_31 (by decide) ?_
              refine lv_iand hx hb dX12_crcOf_32 ?_
              refine lv_iconst (v := 1) hx hb dX12_crcOf_33 (by decide) ?_
              have hJ_42 : ∀ (s8 : Int32) (H : Heap) (locs : List Loc) (ls : Array Slot), m_Mo_crcOf_J42 j3_6 j5_7 s8 = some r_23 → va_P (dC, dI) vwCl [(h0, .inl (cI, h0_n, .inl h0_f))] H → va_D A [(h0, .inl (cI, h0_n, .inl h0_f))] → va_S A s.heap H locs → lv_has ls 7 [(0, .ref h0), (1, .int a1), (2, .int a2), (3, .int j3_6), (4, .int j4_2), (5, .int j5_7)] → W p l e (rm_Mo_crcOf) s m ([.ref h0, .int a1, .int a2] : List Value).toArray below meth c H locs 0 0 Q (F0 m 42 ls [.int s8]) := by
                intro s8 H locs ls hf hP hD hS hl
                unfold m_Mo_crcOf_J42 at hf
                refine lv_istore (lv' := [(6, .int s8), (0, .ref h0), (1, .int a1), (2, .int a2), (3, .int j3_6), (4, .int j4_2), (5, .int j5_7)]) hx hb dX12_crcOf_42 hl (by decide) rfl (fun ls hl => ?_)
                refine lv_iload_n hx hb dX12_crcOf_44 rfl (lv_at hl 4 rfl) ?_
                refine lv_iconst (v := 1) hx hb dX12_crcOf_45 (by decide) ?_
                refine lv_iushr (v := (iushr j3_6 (1 : Int32))) hx hb dX12_crcOf_46 rfl ?_
                refine lv_topi (fun v3_9 e_v3_9 => ?_)
                replace hf := bnd_at e_v3_9 hf
                refine lv_istore_n (lv' := [(3, .int v3_9), (6, .int s8), (0, .ref h0), (1, .int a1), (2, .int a2), (4, .int j4_2), (5, .int j5_7)]) hx hb dX12_crcOf_47 rfl hl (by decide) rfl (fun ls hl => ?_)
                refine lv_iload hx hb dX12_crcOf_48 (lv_at hl 1 rfl) ?_
                have hJ_58 : ∀ (j3_10 : Int32) (H : Heap) (locs : List Loc) (ls : Array Slot), m_Mo_crcOf_J58 j5_7 j3_10 = some r_23 → va_P (dC, dI) vwCl [(h0, .inl (cI, h0_n, .inl h0_f))] H → va_D A [(h0, .inl (cI, h0_n, .inl h0_f))] → va_S A s.heap H locs → lv_has ls 7 [(0, .ref h0), (1, .int a1), (2, .int a2), (3, .int j3_10), (4, .int j4_2), (5, .int j5_7)] → W p l e (rm_Mo_crcOf) s m ([.ref h0, .int a1, .int a2] : List Value).toArray below meth c H locs 0 0 Q (F0 m 58 ls []) := by
                  intro j3_10 H locs ls hf hP hD hS hl
                  unfold m_Mo_crcOf_J58 at hf
                  obtain ⟨v5_11, e_v5_11⟩ : ∃ y : Int32, y = (j5_7 + (1 : Int32)) := ⟨_, rfl⟩
                  replace hf := bnd_at e_v5_11 hf
                  refine lv_iinc (v := v5_11) (lv' := [(5, .int v5_11), (0, .ref h0), (1, .int a1), (2, .int a2), (3, .int j3_10), (4, .int j4_2)]) hx hb dX12_crcOf_58 hl (k := 5) rfl (by rw [e_v5_11]; rfl) (by decide) rfl (fun ls hl => ?_)
                  refine lv_goto (tgt := 23) hx hb dX12_crcOf_61 (by decide) ?_
                  exact ih_23 j3_10 v5_11 _ _ _ (iter_back hf hr_23) hP hD hS (lv_sub hl [1, 2, 3, 4, 5, 0] rfl)
                refine lv_if_eq (tgt := 58) hx hb dX12_crcOf_50 (by decide) (fun c_50 => ?_) (fun c_50 => ?_)
                · replace hf := if_t c_50 hf
                  exact hJ_58 v3_9 _ _ _ hf hP hD hS (lv_sub hl [2, 3, 4, 0, 5, 6] rfl)
                · replace hf := if_f c_50 hf
                  refine lv_iload_n hx hb dX12_crcOf_53 rfl (lv_at hl 0 rfl) ?_
                  refine lv_ldc hx hb hown (hts _ kw_1308) dX12_crcOf_54 ?_
                  refine lv_ixor hx hb dX12_crcOf_56 ?_
                  refine lv_topi (fun v3_12 e_v3_12 => ?_)
                  replace hf := bnd_at e_v3_12 hf
                  refine lv_istore_n (lv' := [(3, .int v3_12), (6, .int s8), (0, .ref h0), (1, .int a1), (2, .int a2), (4, .int j4_2), (5, .int j5_7)]) hx hb dX12_crcOf_57 rfl hl (by decide) rfl (fun ls hl => ?_)
                  exact hJ_58 v3_12 _ _ _ hf hP hD hS (lv_sub hl [2, 3, 4, 0, 5, 6] rfl)
              refine lv_icmp_ne (tgt := 41) hx hb dX12_crcOf_34 (by decide) (fun c_34 => ?_) (fun c_34 => ?_)
              · replace hf := if_f c_34 hf
                refine lv_iconst (v := 0) hx hb dX12_crcOf_41 (by decide) ?_
                exact hJ_42 (0 : Int32) _ _ _ hf hP hD hS (lv_sub hl [0, 1, 2, 3, 4, 5] rfl)
              · replace hf := if_t c_34 hf
                refine lv_iconst (v := 1) hx hb dX12_crcOf_37 (by decide) ?_
                refine lv_goto (tgt := 42) hx hb dX12_crcOf_38 (by decide) ?_
                exact hJ_42 (1 : Int32) _ _ _ hf hP hD hS (lv_sub hl [0, 1, 2, 3, 4, 5] rfl)
        exact hL_23 FU v3_3 (0 : Int32) _ _ _ hi_23 hP hD hS (lv_sub hl [2, 3, 4, 1, 5, 0] rfl)
  exact hL_5 FU (-1 : Int32) a1 _ _ _ hi_5 hP hD hS (lv_sub hl [2, 3, 4, 1, 0] rfl)

theorem dX12_masked_0 : decode cX12_masked 0 = .ok (.iload_n 0, 1) := by decide +kernel
theorem dX12_masked_1 : decode cX12_masked 1 = .ok (.bipush 17, 2) := by decide +kernel
theorem dX12_masked_3 : decode cX12_masked 3 = .ok (.invokestatic 11, 3) := by decide +kernel
theorem dX12_masked_6 : decode cX12_masked 6 = .ok (.ldc 19, 2) := by decide +kernel
theorem dX12_masked_8 : decode cX12_masked 8 = .ok (.iadd, 1) := by decide +kernel
theorem dX12_masked_9 : decode cX12_masked 9 = .ok (.ireturn, 1) := by decide +kernel
def m_Mo_masked (a0 : Int32) : Option (Int32) :=
  (m_Mo_turned a0 (17 : Int32)).bind fun r1 =>
  some (r1 + (-1568478504 : Int32))
def rm_Mo_masked : Room := { frames := 1, cells := 0, slots := 0, locals := 21 }
set_option maxHeartbeats 4000000 in
set_option maxRecDepth 100000 in
theorem c_Mo_masked {l : Launch} {dC : Nat → ClassId} {dI : Nat → Nat → Nat} {cB cI : ClassId} {sz : Nat} {a0 : Int32} {o_r : Int32} (hf : m_Mo_masked a0 = some o_r) : Met l yX12_masked (Cond.code yX12_masked cX12_masked 1 (some .int) :: lw_G) rm_Mo_masked (PreC (dC, dI) [(cB, .byte), (cI, .int)] [.int a0] sz []) (QcI o_r (dC, dI) [] (va_A [] sz)) 0 0 (va_A [] sz) := by
  refine met_of (Qf := fun A => QcI o_r (dC, dI) [] A) (by decide) (Nat.le_of_ble_eq_true rfl) ?_
  intro p e s m below meth c A ls Q hx hb hr hml hown hts hlocks hnm hP hK hD hN hT hA hl hQ
  have hown : s.vm.findClass RX12 = some m.cls := hown
  have hS : va_S A s.heap s.heap [] := va_S.rf
  have hl : lv_has ls 1 [(0, .int a0)] := hl
  unfold m_Mo_masked at hf
  refine lv_iload_n hx hb dX12_masked_0 rfl (lv_at hl 0 rfl) ?_
  refine lv_bipush (v := 17) hx hb dX12_masked_1 (by decide) ?_
  obtain ⟨r1, hc, hf⟩ := bind_some hf
  refine nx_i (rn_S (As := [.int a0, .int (17 : Int32)]) (rest := []) (n := 2) ⟨hx, hb, hml, hown, hts⟩ (c_Mo_turned (l := l) (dC := dC) (dI := dI) (cB := cB) (cI := cI) (a0 := a0) (a1 := (17 : Int32))  (o_r := r1) hc) (wS kw_1219 kw_1220 kw_94 kw_1221) (by decide +kernel) ⟨Nat.le_of_ble_eq_true rfl, Nat.le_of_ble_eq_true rfl⟩ hK hP hD hN hT hS (va_free (wc := []) hD hS hA [] rfl) [] rfl (by decide) rfl hl.1 rfl (lv_room (Nat.le_of_ble_eq_true rfl)) dX12_masked_3 ⟨Nat.le_of_ble_eq_true rfl, Nat.le_of_ble_eq_true rfl⟩) hP hD hS hA (wr := []) (w1 := []) (ws' := []) [] [] [] rfl rfl (by decide) (by decide) rfl (by decide) (fun H locs hP hD hS => ?_)
  refine lv_ldc hx hb hown (hts _ kw_1312) dX12_masked_6 ?_
  refine lv_iadd hx hb dX12_masked_8 ?_
  obtain rfl := Option.some.inj hf
  exact rt_i hQ hx hb hr hlocks hP hD hS dX12_masked_9

theorem dX12_alike_0 : decode cX12_alike 0 = .ok (.iconst 0, 1) := by decide +kernel
theorem dX12_alike_1 : decode cX12_alike 1 = .ok (.istore 5, 2) := by decide +kernel
theorem dX12_alike_3 : decode cX12_alike 3 = .ok (.iload 5, 2) := by decide +kernel
theorem dX12_alike_5 : decode cX12_alike 5 = .ok (.iload 4, 2) := by decide +kernel
theorem dX12_alike_7 : decode cX12_alike 7 = .ok (.if_icmp .ge 38, 3) := by decide +kernel
theorem dX12_alike_10 : decode cX12_alike 10 = .ok (.iload_n 2, 1) := by decide +kernel
theorem dX12_alike_11 : decode cX12_alike 11 = .ok (.iload 5, 2) := by decide +kernel
theorem dX12_alike_13 : decode cX12_alike 13 = .ok (.iadd, 1) := by decide +kernel
theorem dX12_alike_14 : decode cX12_alike 14 = .ok (.iload_n 3, 1) := by decide +kernel
theorem dX12_alike_15 : decode cX12_alike 15 = .ok (.if_icmp .ge 30, 3) := by decide +kernel
theorem dX12_alike_18 : decode cX12_alike 18 = .ok (.aload_n 0, 1) := by decide +kernel
theorem dX12_alike_19 : decode cX12_alike 19 = .ok (.getfield 20, 3) := by decide +kernel
theorem dX12_alike_22 : decode cX12_alike 22 = .ok (.iload_n 1, 1) := by decide +kernel
theorem dX12_alike_23 : decode cX12_alike 23 = .ok (.iload 5, 2) := by decide +kernel
theorem dX12_alike_25 : decode cX12_alike 25 = .ok (.iadd, 1) := by decide +kernel
theorem dX12_alike_26 : decode cX12_alike 26 = .ok (.iaload, 1) := by decide +kernel
theorem dX12_alike_27 : decode cX12_alike 27 = .ok (.aload_n 0, 1) := by decide +kernel
theorem dX12_alike_28 : decode cX12_alike 28 = .ok (.getfield 20, 3) := by decide +kernel
theorem dX12_alike_31 : decode cX12_alike 31 = .ok (.iload_n 2, 1) := by decide +kernel
theorem dX12_alike_32 : decode cX12_alike 32 = .ok (.iload 5, 2) := by decide +kernel
theorem dX12_alike_34 : decode cX12_alike 34 = .ok (.iadd, 1) := by decide +kernel
theorem dX12_alike_35 : decode cX12_alike 35 = .ok (.iaload, 1) := by decide +kernel
theorem dX12_alike_36 : decode cX12_alike 36 = .ok (.if_icmp .ne 9, 3) := by decide +kernel
theorem dX12_alike_39 : decode cX12_alike 39 = .ok (.iinc 5 1, 3) := by decide +kernel
theorem dX12_alike_42 : decode cX12_alike 42 = .ok (.goto (-39), 3) := by decide +kernel
theorem dX12_alike_45 : decode cX12_alike 45 = .ok (.iload 5, 2) := by decide +kernel
theorem dX12_alike_47 : decode cX12_alike 47 = .ok (.ireturn, 1) := by decide +kernel
def m_Mo_alike_E45 (j5_1 : Int32) : Option (Int32) :=
  some j5_1
def m_Mo_alike_B3 (a1 : Int32) (a2 : Int32) (a3 : Int32) (a4 : Int32) (h0_text_n : Nat) (h0_text_f : Nat → Int32) (j5_2 : Int32) : Option ((Int32) ⊕ ((Int32))) :=
  if a4 ≤ j5_2 then
    some (.inr j5_2)
  else
    if a3 ≤ (a2 + j5_2) then
      some (.inr j5_2)
    else
      chk (a1 + j5_2) h0_text_n <|
      chk (a2 + j5_2) h0_text_n <|
      if (h0_text_f (a1 + j5_2).toNatClampNeg) = (h0_text_f (a2 + j5_2).toNatClampNeg) then
        bnd (j5_2 + (1 : Int32)) fun v5_3 =>
        some (.inl v5_3)
      else
        some (.inr j5_2)
def m_Mo_alike (a1 : Int32) (a2 : Int32) (a3 : Int32) (a4 : Int32) (h0_text_n : Nat) (h0_text_f : Nat → Int32) : Option (Int32) :=
  (iter (fun st => m_Mo_alike_B3 a1 a2 a3 a4 h0_text_n h0_text_f st) FU (0 : Int32)).bind fun o => m_Mo_alike_E45 o
def rm_Mo_alike : Room := { frames := 0, cells := 0, slots := 0, locals := 0 }
set_option maxHeartbeats 4000000 in
set_option maxRecDepth 100000 in
theorem c_Mo_alike {l : Launch} {dC : Nat → ClassId} {dI : Nat → Nat → Nat} {cB cI : ClassId} {sz : Nat} {h0 : Nat} {a1 : Int32} {a2 : Int32} {a3 : Int32} {a4 : Int32} {h0_text : Nat} {w_h0_in : Value} {w_h0_inSize : Value} {w_h0_out : Value} {w_h0_outSize : Value} {w_h0_dict : Value} {w_h0_dictSize : Value} {w_h0_told : Value} {w_h0_fresh : Value} {w_h0_freshSize : Value} {w_h0_lean : Value} {w_h0_size : Value} {w_h0_most : Value} {w_h0_offset : Value} {w_h0_copyAt : Value} {w_h0_copies : Value} {w_h0_copyLength : Value} {w_h0_copyOffset : Value} {w_h0_fromHere : Value} {w_h0_withCopy : Value} {w_h0_bestCopy : Value} {w_h0_bestLiterals : Value} {w_h0_copiesOf : Value} {w_h0_literalsOf : Value} {w_h0_partsOf : Value} {w_h0_blocks : Value} {w_h0_blockMany : Value} {w_h0_newBlocks : Value} {w_h0_newMany : Value} {w_h0_rule : Value} {w_h0_place : Value} {w_h0_at : Value} {h0_text_n : Nat} {h0_text_f : Nat → Int32} {o_r : Int32} (hf : m_Mo_alike a1 a2 a3 a4 h0_text_n h0_text_f = some o_r) : Met l yX12_alike (Cond.code yX12_alike cX12_alike 6 (some .int) :: lw_G) rm_Mo_alike (PreC (dC, dI) [(cB, .byte), (cI, .int)] [.ref h0, .int a1, .int a2, .int a3, .int a4] sz [(h0, .inr (10, [w_h0_in, w_h0_inSize, w_h0_out, w_h0_outSize, w_h0_dict, w_h0_dictSize, w_h0_told, w_h0_fresh, w_h0_freshSize, .ref h0_text, w_h0_lean, w_h0_size, w_h0_most, w_h0_offset, w_h0_copyAt, w_h0_copies, w_h0_copyLength, w_h0_copyOffset, w_h0_fromHere, w_h0_withCopy, w_h0_bestCopy, w_h0_bestLiterals, w_h0_copiesOf, w_h0_literalsOf, w_h0_partsOf, w_h0_blocks, w_h0_blockMany, w_h0_newBlocks, w_h0_newMany, w_h0_rule, w_h0_place, w_h0_at])), (h0_text, .inl (cI, h0_text_n, .inl h0_text_f))]) (QcI o_r (dC, dI) [(h0, .inr (10, [w_h0_in, w_h0_inSize, w_h0_out, w_h0_outSize, w_h0_dict, w_h0_dictSize, w_h0_told, w_h0_fresh, w_h0_freshSize, .ref h0_text, w_h0_lean, w_h0_size, w_h0_most, w_h0_offset, w_h0_copyAt, w_h0_copies, w_h0_copyLength, w_h0_copyOffset, w_h0_fromHere, w_h0_withCopy, w_h0_bestCopy, w_h0_bestLiterals, w_h0_copiesOf, w_h0_literalsOf, w_h0_partsOf, w_h0_blocks, w_h0_blockMany, w_h0_newBlocks, w_h0_newMany, w_h0_rule, w_h0_place, w_h0_at])), (h0_text, .inl (cI, h0_text_n, .inl h0_text_f))] (va_A [(h0, .inr (10, [w_h0_in, w_h0_inSize, w_h0_out, w_h0_outSize, w_h0_dict, w_h0_dictSize, w_h0_told, w_h0_fresh, w_h0_freshSize, .ref h0_text, w_h0_lean, w_h0_size, w_h0_most, w_h0_offset, w_h0_copyAt, w_h0_copies, w_h0_copyLength, w_h0_copyOffset, w_h0_fromHere, w_h0_withCopy, w_h0_bestCopy, w_h0_bestLiterals, w_h0_copiesOf, w_h0_literalsOf, w_h0_partsOf, w_h0_blocks, w_h0_blockMany, w_h0_newBlocks, w_h0_newMany, w_h0_rule, w_h0_place, w_h0_at])), (h0_text, .inl (cI, h0_text_n, .inl h0_text_f))] sz)) 0 0 (va_A [(h0, .inr (10, [w_h0_in, w_h0_inSize, w_h0_out, w_h0_outSize, w_h0_dict, w_h0_dictSize, w_h0_told, w_h0_fresh, w_h0_freshSize, .ref h0_text, w_h0_lean, w_h0_size, w_h0_most, w_h0_offset, w_h0_copyAt, w_h0_copies, w_h0_copyLength, w_h0_copyOffset, w_h0_fromHere, w_h0_withCopy, w_h0_bestCopy, w_h0_bestLiterals, w_h0_copiesOf, w_h0_literalsOf, w_h0_partsOf, w_h0_blocks, w_h0_blockMany, w_h0_newBlocks, w_h0_newMany, w_h0_rule, w_h0_place, w_h0_at])), (h0_text, .inl (cI, h0_text_n, .inl h0_text_f))] sz) := by
  refine met_of (Qf := fun A => QcI o_r (dC, dI) [(h0, .inr (10, [w_h0_in, w_h0_inSize, w_h0_out, w_h0_outSize, w_h0_dict, w_h0_dictSize, w_h0_told, w_h0_fresh, w_h0_freshSize, .ref h0_text, w_h0_lean, w_h0_size, w_h0_most, w_h0_offset, w_h0_copyAt, w_h0_copies, w_h0_copyLength, w_h0_copyOffset, w_h0_fromHere, w_h0_withCopy, w_h0_bestCopy, w_h0_bestLiterals, w_h0_copiesOf, w_h0_literalsOf, w_h0_partsOf, w_h0_blocks, w_h0_blockMany, w_h0_newBlocks, w_h0_newMany, w_h0_rule, w_h0_place, w_h0_at])), (h0_text, .inl (cI, h0_text_n, .inl h0_text_f))] A) (by decide) (Nat.le_of_ble_eq_true rfl) ?_
  intro p e s m below meth c A ls Q hx hb hr hml hown hts hlocks hnm hP hK hD hN hT hA hl hQ
  have hown : s.vm.findClass RX12 = some m.cls := hown
  have hS : va_S A s.heap s.heap [] := va_S.rf
  have hl : lv_has ls 6 [(0, .ref h0), (1, .int a1), (2, .int a2), (3, .int a3), (4, .int a4)] := hl
  unfold m_Mo_alike at hf
  refine lv_iconst (v := 0) hx hb dX12_alike_0 (by decide) ?_
  refine lv_istore (lv' := [(5, .int (0 : Int32)), (0, .ref h0), (1, .int a1), (2, .int a2), (3, .int a3), (4, .int a4)]) hx hb dX12_alike_1 hl (by decide) rfl (fun ls hl => ?_)
  have hJ_45 : ∀ (j5_1 : Int32) (H : Heap) (locs : List Loc) (ls : Array Slot), m_Mo_alike_E45 j5_1 = some o_r → va_P (dC, dI) vwCl [(h0, .inr (10, [w_h0_in, w_h0_inSize, w_h0_out, w_h0_outSize, w_h0_dict, w_h0_dictSize, w_h0_told, w_h0_fresh, w_h0_freshSize, .ref h0_text, w_h0_lean, w_h0_size, w_h0_most, w_h0_offset, w_h0_copyAt, w_h0_copies, w_h0_copyLength, w_h0_copyOffset, w_h0_fromHere, w_h0_withCopy, w_h0_bestCopy, w_h0_bestLiterals, w_h0_copiesOf, w_h0_literalsOf, w_h0_partsOf, w_h0_blocks, w_h0_blockMany, w_h0_newBlocks, w_h0_newMany, w_h0_rule, w_h0_place, w_h0_at])), (h0_text, .inl (cI, h0_text_n, .inl h0_text_f))] H → va_D A [(h0, .inr (10, [w_h0_in, w_h0_inSize, w_h0_out, w_h0_outSize, w_h0_dict, w_h0_dictSize, w_h0_told, w_h0_fresh, w_h0_freshSize, .ref h0_text, w_h0_lean, w_h0_size, w_h0_most, w_h0_offset, w_h0_copyAt, w_h0_copies, w_h0_copyLength, w_h0_copyOffset, w_h0_fromHere, w_h0_withCopy, w_h0_bestCopy, w_h0_bestLiterals, w_h0_copiesOf, w_h0_literalsOf, w_h0_partsOf, w_h0_blocks, w_h0_blockMany, w_h0_newBlocks, w_h0_newMany, w_h0_rule, w_h0_place, w_h0_at])), (h0_text, .inl (cI, h0_text_n, .inl h0_text_f))] → va_S A s.heap H locs → lv_has ls 6 [(5, .int j5_1)] → W p l e (rm_Mo_alike) s m ([.ref h0, .int a1, .int a2, .int a3, .int a4] : List Value).toArray below meth c H locs 0 0 Q (F0 m 45 ls []) := by
    intro j5_1 H locs ls hf hP hD hS hl
    unfold m_Mo_alike_E45 at hf
    refine lv_iload hx hb dX12_alike_45 (lv_at hl 0 rfl) ?_
    obtain rfl := Option.some.inj hf
    exact rt_i hQ hx hb hr hlocks hP hD hS dX12_alike_47
  obtain ⟨o_3, hi_3, hk_3⟩ := bind_some hf
  have hL_3 : ∀ (n : Nat) (j5_2 : Int32) (H : Heap) (locs : List Loc) (ls : Array Slot), iter (fun st => m_Mo_alike_B3 a1 a2 a3 a4 h0_text_n h0_text_f st) n j5_2 = some o_3 → va_P (dC, dI) vwCl [(h0, .inr (10, [w_h0_in, w_h0_inSize, w_h0_out, w_h0_outSize, w_h0_dict, w_h0_dictSize, w_h0_told, w_h0_fresh, w_h0_freshSize, .ref h0_text, w_h0_lean, w_h0_size, w_h0_most, w_h0_offset, w_h0_copyAt, w_h0_copies, w_h0_copyLength, w_h0_copyOffset, w_h0_fromHere, w_h0_withCopy, w_h0_bestCopy, w_h0_bestLiterals, w_h0_copiesOf, w_h0_literalsOf, w_h0_partsOf, w_h0_blocks, w_h0_blockMany, w_h0_newBlocks, w_h0_newMany, w_h0_rule, w_h0_place, w_h0_at])), (h0_text, .inl (cI, h0_text_n, .inl h0_text_f))] H → va_D A [(h0, .inr (10, [w_h0_in, w_h0_inSize, w_h0_out, w_h0_outSize, w_h0_dict, w_h0_dictSize, w_h0_told, w_h0_fresh, w_h0_freshSize, .ref h0_text, w_h0_lean, w_h0_size, w_h0_most, w_h0_offset, w_h0_copyAt, w_h0_copies, w_h0_copyLength, w_h0_copyOffset, w_h0_fromHere, w_h0_withCopy, w_h0_bestCopy, w_h0_bestLiterals, w_h0_copiesOf, w_h0_literalsOf, w_h0_partsOf, w_h0_blocks, w_h0_blockMany, w_h0_newBlocks, w_h0_newMany, w_h0_rule, w_h0_place, w_h0_at])), (h0_text, .inl (cI, h0_text_n, .inl h0_text_f))] → va_S A s.heap H locs → lv_has ls 6 [(0, .ref h0), (1, .int a1), (2, .int a2), (3, .int a3), (4, .int a4), (5, .int j5_2)] → W p l e (rm_Mo_alike) s m ([.ref h0, .int a1, .int a2, .int a3, .int a4] : List Value).toArray below meth c H locs 0 0 Q (F0 m 3 ls []) := by
    intro n
    induction n with
    | zero => intro j5_2 H locs ls hf; exact absurd hf (fun z => by cases z)
    | succ n ih_3 =>
      intro j5_2 H locs ls hf hP hD hS hl
      obtain ⟨r_3, hf, hr_3⟩ := iter_succ hf
      have hf : m_Mo_alike_B3 a1 a2 a3 a4 h0_text_n h0_text_f j5_2 = some r_3 := hf
      unfold m_Mo_alike_B3 at hf
      refine lv_iload hx hb dX12_alike_3 (lv_at hl 5 rfl) ?_
      refine lv_iload hx hb dX12_alike_5 (lv_at hl 4 rfl) ?_
      refine lv_icmp_ge (tgt := 45) hx hb dX12_alike_7 (by decide) (fun c_7 => ?_) (fun c_7 => ?_)
      · replace hf := if_t c_7 hf
        have hf : m_Mo_alike_E45 j5_2 = some o_r := by have hq := hk_3; rw [iter_exit hf hr_3] at hq; exact hq
        exact hJ_45 j5_2 _ _ _ hf hP hD hS (lv_sub hl [5] rfl)
      · replace hf := if_f c_7 hf
        refine lv_iload_n hx hb dX12_alike_10 rfl (lv_at hl 2 rfl) ?_
        refine lv_iload hx hb dX12_alike_11 (lv_at hl 5 rfl) ?_
        refine lv_iadd hx hb dX12_alike_13 ?_
        refine lv_iload_n hx hb dX12_alike_14 rfl (lv_at hl 3 rfl) ?_
        refine lv_icmp_ge (tgt := 45) hx hb dX12_alike_15 (by decide) (fun c_15 => ?_) (fun c_15 => ?_)
        · replace hf := if_t c_15 hf
          have hf : m_Mo_alike_E45 j5_2 = some o_r := by have hq := hk_3; rw [iter_exit hf hr_3] at hq; exact hq
          exact hJ_45 j5_2 _ _ _ hf hP hD hS (lv_sub hl [5] rfl)
        · replace hf := if_f c_15 hf
          refine lv_aload_n hx hb dX12_alike_18 rfl (lv_at hl 0 rfl) ?_
          refine va_get (D := (dC, dI)) (ci := 10) (v := .ref h0_text) (C := RX12) (T := TX12) (N := 32) hx hb hts inG_X12 hown hK hP 0 rfl rfl 9 (by decide) (hts _ kw_1061) (fun _ h9 => h9) rfl dX12_alike_19 ?_
          refine lv_iload_n hx hb dX12_alike_22 rfl (lv_at hl 1 rfl) ?_
          refine lv_iload hx hb dX12_alike_23 (lv_at hl 5 rfl) ?_
          refine lv_iadd hx hb dX12_alike_25 ?_
          obtain ⟨hin, hf⟩ := chk_some hf
          refine va_iald hx hb hK hP 1 1 rfl rfl hin dX12_alike_26 ?_
          refine lv_aload_n hx hb dX12_alike_27 rfl (lv_at hl 0 rfl) ?_
          refine va_get (D := (dC, dI)) (ci := 10) (v := .ref h0_text) (C := RX12) (T := TX12) (N := 32) hx hb hts inG_X12 hown hK hP 0 rfl rfl 9 (by decide) (hts _ kw_1061) (fun _ h9 => h9) rfl dX12_alike_28 ?_
          refine lv_iload_n hx hb dX12_alike_31 rfl (lv_at hl 2 rfl) ?_
          refine lv_iload hx hb dX12_alike_32 (lv_at hl 5 rfl) ?_
          refine lv_iadd hx hb dX12_alike_34 ?_
          obtain ⟨hin, hf⟩ := chk_some hf
          refine va_iald hx hb hK hP 1 1 rfl rfl hin dX12_alike_35 ?_
          refine lv_icmp_ne (tgt := 45) hx hb dX12_alike_36 (by decide) (fun c_36 => ?_) (fun c_36 => ?_)
          · replace hf := if_f c_36 hf
            have hf : m_Mo_alike_E45 j5_2 = some o_r := by have hq := hk_3; rw [iter_exit hf hr_3] at hq; exact hq
            exact hJ_45 j5_2 _ _ _ hf hP hD hS (lv_sub hl [5] rfl)
          · replace hf := if_t c_36 hf
            obtain ⟨v5_3, e_v5_3⟩ : ∃ y : Int32, y = (j5_2 + (1 : Int32)) := ⟨_, rfl⟩
            replace hf := bnd_at e_v5_3 hf
            refine lv_iinc (v := v5_3) (lv' := [(5, .int v5_3), (0, .ref h0), (1, .int a1), (2, .int a2), (3, .int a3), (4, .int a4)]) hx hb dX12_alike_39 hl (k := 5) rfl (by rw [e_v5_3]; rfl) (by decide) rfl (fun ls hl => ?_)
            refine lv_goto (tgt := 3) hx hb dX12_alike_42 (by decide) ?_
            exact ih_3 v5_3 _ _ _ (iter_back hf hr_3) hP hD hS (lv_sub hl [1, 2, 3, 4, 5, 0] rfl)
  exact hL_3 FU (0 : Int32) _ _ _ hi_3 hP hD hS (lv_sub hl [1, 2, 3, 4, 5, 0] rfl)

theorem dX12_longestTo_0 : decode cX12_longestTo 0 = .ok (.aload_n 0, 1) := by decide +kernel
theorem dX12_longestTo_1 : decode cX12_longestTo 1 = .ok (.getfield 24, 3) := by decide +kernel
theorem dX12_longestTo_4 : decode cX12_longestTo 4 = .ok (.iload_n 1, 1) := by decide +kernel
theorem dX12_longestTo_5 : decode cX12_longestTo 5 = .ok (.iadd, 1) := by decide +kernel
theorem dX12_longestTo_6 : decode cX12_longestTo 6 = .ok (.istore_n 3, 1) := by decide +kernel
theorem dX12_longestTo_7 : decode cX12_longestTo 7 = .ok (.iconst 0, 1) := by decide +kernel
theorem dX12_longestTo_8 : decode cX12_longestTo 8 = .ok (.istore 4, 2) := by decide +kernel
theorem dX12_longestTo_10 : decode cX12_longestTo 10 = .ok (.iload_n 3, 1) := by decide +kernel
theorem dX12_longestTo_11 : decode cX12_longestTo 11 = .ok (.iconst 1, 1) := by decide +kernel
theorem dX12_longestTo_12 : decode cX12_longestTo 12 = .ok (.isub, 1) := by decide +kernel
theorem dX12_longestTo_13 : decode cX12_longestTo 13 = .ok (.istore 5, 2) := by decide +kernel
theorem dX12_longestTo_15 : decode cX12_longestTo 15 = .ok (.iload 5, 2) := by decide +kernel
theorem dX12_longestTo_17 : decode cX12_longestTo 17 = .ok (.ifCond .lt 30, 3) := by decide +kernel
theorem dX12_longestTo_20 : decode cX12_longestTo 20 = .ok (.iload 4, 2) := by decide +kernel
theorem dX12_longestTo_22 : decode cX12_longestTo 22 = .ok (.aload_n 0, 1) := by decide +kernel
theorem dX12_longestTo_23 : decode cX12_longestTo 23 = .ok (.iload 5, 2) := by decide +kernel
theorem dX12_longestTo_25 : decode cX12_longestTo 25 = .ok (.iload_n 3, 1) := by decide +kernel
theorem dX12_longestTo_26 : decode cX12_longestTo 26 = .ok (.aload_n 0, 1) := by decide +kernel
theorem dX12_longestTo_27 : decode cX12_longestTo 27 = .ok (.getfield 24, 3) := by decide +kernel
theorem dX12_longestTo_30 : decode cX12_longestTo 30 = .ok (.iload_n 2, 1) := by decide +kernel
theorem dX12_longestTo_31 : decode cX12_longestTo 31 = .ok (.iadd, 1) := by decide +kernel
theorem dX12_longestTo_32 : decode cX12_longestTo 32 = .ok (.iload_n 2, 1) := by decide +kernel
theorem dX12_longestTo_33 : decode cX12_longestTo 33 = .ok (.invokevirtual 28, 3) := by decide +kernel
theorem dX12_longestTo_36 : decode cX12_longestTo 36 = .ok (.invokestatic 32, 3) := by decide +kernel
theorem dX12_longestTo_39 : decode cX12_longestTo 39 = .ok (.istore 4, 2) := by decide +kernel
theorem dX12_longestTo_41 : decode cX12_longestTo 41 = .ok (.iinc 5 (-1), 3) := by decide +kernel
theorem dX12_longestTo_44 : decode cX12_longestTo 44 = .ok (.goto (-29), 3) := by decide +kernel
theorem dX12_longestTo_47 : decode cX12_longestTo 47 = .ok (.iload 4, 2) := by decide +kernel
theorem dX12_longestTo_49 : decode cX12_longestTo 49 = .ok (.ireturn, 1) := by decide +kernel
def m_Mo_longestTo_B15 (a2 : Int32) (h0_lean : Int32) (h0_text_n : Nat) (h0_text_f : Nat → Int32) (v3_1 : Int32) (j4_3 : Int32) (j5_4 : Int32) : Option ((Int32 × Int32) ⊕ ((((Int32))))) :=
  if j5_4 < 0 then
    some (.inr j4_3)
  else
    (m_Mo_alike j5_4 v3_1 (h0_lean + a2) a2 h0_text_n h0_text_f).bind fun r5 =>
    (m_Mo_great j4_3 r5).bind fun r6 =>
    bnd (j5_4 + (-1 : Int32)) fun v5_7 =>
    some (.inl (r6, v5_7))
def m_Mo_longestTo (a1 : Int32) (a2 : Int32) (h0_lean : Int32) (h0_text_n : Nat) (h0_text_f : Nat → Int32) : Option (Int32) :=
  bnd (h0_lean + a1) fun v3_1 =>
  bnd (v3_1 - (1 : Int32)) fun v5_2 =>
  (iter (fun st => m_Mo_longestTo_B15 a2 h0_lean h0_text_n h0_text_f v3_1 st.1 st.2) FU ((0 : Int32), v5_2)).bind fun o => some o
def rm_Mo_longestTo : Room := { frames := 1, cells := 0, slots := 0, locals := 25 }
set_option maxHeartbeats 4000000 in
set_option maxRecDepth 100000 in
theorem c_Mo_longestTo {l : Launch} {dC : Nat → ClassId} {dI : Nat → Nat → Nat} {cB cI : ClassId} {sz : Nat} {h0 : Nat} {a1 : Int32} {a2 : Int32} {h0_text : Nat} {w_h0_in : Value} {w_h0_inSize : Value} {w_h0_out : Value} {w_h0_outSize : Value} {w_h0_dict : Value} {w_h0_dictSize : Value} {w_h0_told : Value} {w_h0_fresh : Value} {w_h0_freshSize : Value} {h0_lean : Int32} {w_h0_size : Value} {w_h0_most : Value} {w_h0_offset : Value} {w_h0_copyAt : Value} {w_h0_copies : Value} {w_h0_copyLength : Value} {w_h0_copyOffset : Value} {w_h0_fromHere : Value} {w_h0_withCopy : Value} {w_h0_bestCopy : Value} {w_h0_bestLiterals : Value} {w_h0_copiesOf : Value} {w_h0_literalsOf : Value} {w_h0_partsOf : Value} {w_h0_blocks : Value} {w_h0_blockMany : Value} {w_h0_newBlocks : Value} {w_h0_newMany : Value} {w_h0_rule : Value} {w_h0_place : Value} {w_h0_at : Value} {h0_text_n : Nat} {h0_text_f : Nat → Int32} {o_r : Int32} (hf : m_Mo_longestTo a1 a2 h0_lean h0_text_n h0_text_f = some o_r) : Met l yX12_longestTo (Cond.code yX12_longestTo cX12_longestTo 6 (some .int) :: lw_G) rm_Mo_longestTo (PreC (dC, dI) [(cB, .byte), (cI, .int)] [.ref h0, .int a1, .int a2] sz [(h0, .inr (10, [w_h0_in, w_h0_inSize, w_h0_out, w_h0_outSize, w_h0_dict, w_h0_dictSize, w_h0_told, w_h0_fresh, w_h0_freshSize, .ref h0_text, .int h0_lean, w_h0_size, w_h0_most, w_h0_offset, w_h0_copyAt, w_h0_copies, w_h0_copyLength, w_h0_copyOffset, w_h0_fromHere, w_h0_withCopy, w_h0_bestCopy, w_h0_bestLiterals, w_h0_copiesOf, w_h0_literalsOf, w_h0_partsOf, w_h0_blocks, w_h0_blockMany, w_h0_newBlocks, w_h0_newMany, w_h0_rule, w_h0_place, w_h0_at])), (h0_text, .inl (cI, h0_text_n, .inl h0_text_f))]) (QcI o_r (dC, dI) [(h0, .inr (10, [w_h0_in, w_h0_inSize, w_h0_out, w_h0_outSize, w_h0_dict, w_h0_dictSize, w_h0_told, w_h0_fresh, w_h0_freshSize, .ref h0_text, .int h0_lean, w_h0_size, w_h0_most, w_h0_offset, w_h0_copyAt, w_h0_copies, w_h0_copyLength, w_h0_copyOffset, w_h0_fromHere, w_h0_withCopy, w_h0_bestCopy, w_h0_bestLiterals, w_h0_copiesOf, w_h0_literalsOf, w_h0_partsOf, w_h0_blocks, w_h0_blockMany, w_h0_newBlocks, w_h0_newMany, w_h0_rule, w_h0_place, w_h0_at])), (h0_text, .inl (cI, h0_text_n, .inl h0_text_f))] (va_A [(h0, .inr (10, [w_h0_in, w_h0_inSize, w_h0_out, w_h0_outSize, w_h0_dict, w_h0_dictSize, w_h0_told, w_h0_fresh, w_h0_freshSize, .ref h0_text, .int h0_lean, w_h0_size, w_h0_most, w_h0_offset, w_h0_copyAt, w_h0_copies, w_h0_copyLength, w_h0_copyOffset, w_h0_fromHere, w_h0_withCopy, w_h0_bestCopy, w_h0_bestLiterals, w_h0_copiesOf, w_h0_literalsOf, w_h0_partsOf, w_h0_blocks, w_h0_blockMany, w_h0_newBlocks, w_h0_newMany, w_h0_rule, w_h0_place, w_h0_at])), (h0_text, .inl (cI, h0_text_n, .inl h0_text_f))] sz)) 0 0 (va_A [(h0, .inr (10, [w_h0_in, w_h0_inSize, w_h0_out, w_h0_outSize, w_h0_dict, w_h0_dictSize, w_h0_told, w_h0_fresh, w_h0_freshSize, .ref h0_text, .int h0_lean, w_h0_size, w_h0_most, w_h0_offset, w_h0_copyAt, w_h0_copies, w_h0_copyLength, w_h0_copyOffset, w_h0_fromHere, w_h0_withCopy, w_h0_bestCopy, w_h0_bestLiterals, w_h0_copiesOf, w_h0_literalsOf, w_h0_partsOf, w_h0_blocks, w_h0_blockMany, w_h0_newBlocks, w_h0_newMany, w_h0_rule, w_h0_place, w_h0_at])), (h0_text, .inl (cI, h0_text_n, .inl h0_text_f))] sz) := by
  refine met_of (Qf := fun A => QcI o_r (dC, dI) [(h0, .inr (10, [w_h0_in, w_h0_inSize, w_h0_out, w_h0_outSize, w_h0_dict, w_h0_dictSize, w_h0_told, w_h0_fresh, w_h0_freshSize, .ref h0_text, .int h0_lean, w_h0_size, w_h0_most, w_h0_offset, w_h0_copyAt, w_h0_copies, w_h0_copyLength, w_h0_copyOffset, w_h0_fromHere, w_h0_withCopy, w_h0_bestCopy, w_h0_bestLiterals, w_h0_copiesOf, w_h0_literalsOf, w_h0_partsOf, w_h0_blocks, w_h0_blockMany, w_h0_newBlocks, w_h0_newMany, w_h0_rule, w_h0_place, w_h0_at])), (h0_text, .inl (cI, h0_text_n, .inl h0_text_f))] A) (by decide) (Nat.le_of_ble_eq_true rfl) ?_
  intro p e s m below meth c A ls Q hx hb hr hml hown hts hlocks hnm hP hK hD hN hT hA hl hQ
  have hown : s.vm.findClass RX12 = some m.cls := hown
  have hS : va_S A s.heap s.heap [] := va_S.rf
  have hl : lv_has ls 6 [(0, .ref h0), (1, .int a1), (2, .int a2)] := hl
  unfold m_Mo_longestTo at hf
  refine lv_aload_n hx hb dX12_longestTo_0 rfl (lv_at hl 0 rfl) ?_
  refine va_get (D := (dC, dI)) (ci := 10) (v := .int h0_lean) (C := RX12) (T := TX12) (N := 32) hx hb hts inG_X12 hown hK hP 0 rfl rfl 10 (by decide) (hts _ kw_1062) (fun _ h9 => h9) rfl dX12_longestTo_1 ?_
  refine lv_iload_n hx hb dX12_longestTo_4 rfl (lv_at hl 1 rfl) ?_
  refine lv_iadd hx hb dX12_longestTo_5 ?_
  refine lv_topi (fun v3_1 e_v3_1 => ?_)
  replace hf := bnd_at e_v3_1 hf
  refine lv_istore_n (lv' := [(3, .int v3_1), (0, .ref h0), (1, .int a1), (2, .int a2)]) hx hb dX12_longestTo_6 rfl hl (by decide) rfl (fun ls hl => ?_)
  refine lv_iconst (v := 0) hx hb dX12_longestTo_7 (by decide) ?_
  refine lv_istore (lv' := [(4, .int (0 : Int32)), (3, .int v3_1), (0, .ref h0), (1, .int a1), (2, .int a2)]) hx hb dX12_longestTo_8 hl (by decide) rfl (fun ls hl => ?_)
  refine lv_iload_n hx hb dX12_longestTo_10 rfl (lv_at hl 1 rfl) ?_
  refine lv_iconst (v := 1) hx hb dX12_longestTo_11 (by decide) ?_
  refine lv_isub hx hb dX12_longestTo_12 ?_
  refine lv_topi (fun v5_2 e_v5_2 => ?_)
  replace hf := bnd_at e_v5_2 hf
  refine lv_istore (lv' := [(5, .int v5_2), (4, .int (0 : Int32)), (3, .int v3_1), (0, .ref h0), (1, .int a1), (2, .int a2)]) hx hb dX12_longestTo_13 hl (by decide) rfl (fun ls hl => ?_)
  obtain ⟨o_15, hi_15, hk_15⟩ := bind_some hf
  have hL_15 : ∀ (n : Nat) (j4_3 : Int32) (j5_4 : Int32) (H : Heap) (locs : List Loc) (ls : Array Slot), iter (fun st => m_Mo_longestTo_B15 a2 h0_lean h0_text_n h0_text_f v3_1 st.1 st.2) n (j4_3, j5_4) = some o_15 → va_P (dC, dI) vwCl [(h0, .inr (10, [w_h0_in, w_h0_inSize, w_h0_out, w_h0_outSize, w_h0_dict, w_h0_dictSize, w_h0_told, w_h0_fresh, w_h0_freshSize, .ref h0_text, .int h0_lean, w_h0_size, w_h0_most, w_h0_offset, w_h0_copyAt, w_h0_copies, w_h0_copyLength, w_h0_copyOffset, w_h0_fromHere, w_h0_withCopy, w_h0_bestCopy, w_h0_bestLiterals, w_h0_copiesOf, w_h0_literalsOf, w_h0_partsOf, w_h0_blocks, w_h0_blockMany, w_h0_newBlocks, w_h0_newMany, w_h0_rule, w_h0_place, w_h0_at])), (h0_text, .inl (cI, h0_text_n, .inl h0_text_f))] H → va_D A [(h0, .inr (10, [w_h0_in, w_h0_inSize, w_h0_out, w_h0_outSize, w_h0_dict, w_h0_dictSize, w_h0_told, w_h0_fresh, w_h0_freshSize, .ref h0_text, .int h0_lean, w_h0_size, w_h0_most, w_h0_offset, w_h0_copyAt, w_h0_copies, w_h0_copyLength, w_h0_copyOffset, w_h0_fromHere, w_h0_withCopy, w_h0_bestCopy, w_h0_bestLiterals, w_h0_copiesOf, w_h0_literalsOf, w_h0_partsOf, w_h0_blocks, w_h0_blockMany, w_h0_newBlocks, w_h0_newMany, w_h0_rule, w_h0_place, w_h0_at])), (h0_text, .inl (cI, h0_text_n, .inl h0_text_f))] → va_S A s.heap H locs → lv_has ls 6 [(0, .ref h0), (2, .int a2), (3, .int v3_1), (4, .int j4_3), (5, .int j5_4)] → W p l e (rm_Mo_longestTo) s m ([.ref h0, .int a1, .int a2] : List Value).toArray below meth c H locs 0 0 Q (F0 m 15 ls []) := by
    intro n
    induction n with
    | zero => intro j4_3 j5_4 H locs ls hf; exact absurd hf (fun z => by cases z)
    | succ n ih_15 =>
      intro j4_3 j5_4 H locs ls hf hP hD hS hl
      obtain ⟨r_15, hf, hr_15⟩ := iter_succ hf
      have hf : m_Mo_longestTo_B15 a2 h0_lean h0_text_n h0_text_f v3_1 j4_3 j5_4 = some r_15 := hf
      unfold m_Mo_longestTo_B15 at hf
      refine lv_iload hx hb dX12_longestTo_15 (lv_at hl 4 rfl) ?_
      refine lv_if_lt (tgt := 47) hx hb dX12_longestTo_17 (by decide) (fun c_17 => ?_) (fun c_17 => ?_)
      · replace hf := if_t c_17 hf
        refine lv_iload hx hb dX12_longestTo_47 (lv_at hl 3 rfl) ?_
        replace hf : some j4_3 = some o_r := by have hq := hk_15; rw [iter_exit hf hr_15] at hq; exact hq
        obtain rfl := Option.some.inj hf
        exact rt_i hQ hx hb hr hlocks hP hD hS dX12_longestTo_49
      · replace hf := if_f c_17 hf
        refine lv_iload hx hb dX12_longestTo_20 (lv_at hl 3 rfl) ?_
        refine lv_aload_n hx hb dX12_longestTo_22 rfl (lv_at hl 0 rfl) ?_
        refine lv_iload hx hb dX12_longestTo_23 (lv_at hl 4 rfl) ?_
        refine lv_iload_n hx hb dX12_longestTo_25 rfl (lv_at hl 2 rfl) ?_
        refine lv_aload_n hx hb dX12_longestTo_26 rfl (lv_at hl 0 rfl) ?_
        refine va_get (D := (dC, dI)) (ci := 10) (v := .int h0_lean) (C := RX12) (T := TX12) (N := 32) hx hb hts inG_X12 hown hK hP 0 rfl rfl 10 (by decide) (hts _ kw_1062) (fun _ h9 => h9) rfl dX12_longestTo_27 ?_
        refine lv_iload_n hx hb dX12_longestTo_30 rfl (lv_at hl 1 rfl) ?_
        refine lv_iadd hx hb dX12_longestTo_31 ?_
        refine lv_iload_n hx hb dX12_longestTo_32 rfl (lv_at hl 1 rfl) ?_
        obtain ⟨r5, hc, hf⟩ := bind_some hf
        refine nx_i (rn_V (As := [.int j5_4, .int v3_1, .int (h0_lean + a2), .int a2]) (rest := [.int j4_3]) (n := 4) (ci := 10) (q0 := 0) ⟨hx, hb, hml, hown, hts⟩ (c_Mo_alike (l := l) (dC := dC) (dI := dI) (cB := cB) (cI := cI) (h0 := h0) (a1 := j5_4) (a2 := v3_1) (a3 := (h0_lean + a2)) (a4 := a2) (h0_text := h0_text) (w_h0_in := (w_h0_in)) (w_h0_inSize := (w_h0_inSize)) (w_h0_out := (w_h0_out)) (w_h0_outSize := (w_h0_outSize)) (w_h0_dict := (w_h0_dict)) (w_h0_dictSize := (w_h0_dictSize)) (w_h0_told := (w_h0_told)) (w_h0_fresh := (w_h0_fresh)) (w_h0_freshSize := (w_h0_freshSize)) (w_h0_lean := (.int h0_lean)) (w_h0_size := (w_h0_size)) (w_h0_most := (w_h0_most)) (w_h0_offset := (w_h0_offset)) (w_h0_copyAt := (w_h0_copyAt)) (w_h0_copies := (w_h0_copies)) (w_h0_copyLength := (w_h0_copyLength)) (w_h0_copyOffset := (w_h0_copyOffset)) (w_h0_fromHere := (w_h0_fromHere)) (w_h0_withCopy := (w_h0_withCopy)) (w_h0_bestCopy := (w_h0_bestCopy)) (w_h0_bestLiterals := (w_h0_bestLiterals)) (w_h0_copiesOf := (w_h0_copiesOf)) (w_h0_literalsOf := (w_h0_literalsOf)) (w_h0_partsOf := (w_h0_partsOf)) (w_h0_blocks := (w_h0_blocks)) (w_h0_blockMany := (w_h0_blockMany)) (w_h0_newBlocks := (w_h0_newBlocks)) (w_h0_newMany := (w_h0_newMany)) (w_h0_rule := (w_h0_rule)) (w_h0_place := (w_h0_place)) (w_h0_at := (w_h0_at)) (h0_text_n := h0_text_n) (h0_text_f := h0_text_f)  (o_r := r5) hc) (wV kw_1278 kw_1280 kw_61 kw_94 kw_1281) (by decide +kernel) ⟨Nat.le_of_ble_eq_true rfl, Nat.le_of_ble_eq_true rfl⟩ hK hP hD hN hT hS (va_free (wc := [(h0, .inr (10, [w_h0_in, w_h0_inSize, w_h0_out, w_h0_outSize, w_h0_dict, w_h0_dictSize, w_h0_told, w_h0_fresh, w_h0_freshSize, .ref h0_text, .int h0_lean, w_h0_size, w_h0_most, w_h0_offset, w_h0_copyAt, w_h0_copies, w_h0_copyLength, w_h0_copyOffset, w_h0_fromHere, w_h0_withCopy, w_h0_bestCopy, w_h0_bestLiterals, w_h0_copiesOf, w_h0_literalsOf, w_h0_partsOf, w_h0_blocks, w_h0_blockMany, w_h0_newBlocks, w_h0_newMany, w_h0_rule, w_h0_place, w_h0_at])), (h0_text, .inl (cI, h0_text_n, .inl h0_text_f))]) hD hS hA [0, 1] rfl) [0, 1] rfl (by decide) rfl rfl rfl hl.1 rfl (lv_room (Nat.le_of_ble_eq_true rfl)) dX12_longestTo_33 ⟨Nat.le_of_ble_eq_true rfl, Nat.le_of_ble_eq_true rfl⟩) hP hD hS hA (wr := []) (w1 := [(h0, .inr (10, [w_h0_in, w_h0_inSize, w_h0_out, w_h0_outSize, w_h0_dict, w_h0_dictSize, w_h0_told, w_h0_fresh, w_h0_freshSize, .ref h0_text, .int h0_lean, w_h0_size, w_h0_most, w_h0_offset, w_h0_copyAt, w_h0_copies, w_h0_copyLength, w_h0_copyOffset, w_h0_fromHere, w_h0_withCopy, w_h0_bestCopy, w_h0_bestLiterals, w_h0_copiesOf, w_h0_literalsOf, w_h0_partsOf, w_h0_blocks, w_h0_blockMany, w_h0_newBlocks, w_h0_newMany, w_h0_rule, w_h0_place, w_h0_at])), (h0_text, .inl (cI, h0_text_n, .inl h0_text_f))]) (ws' := [(h0, .inr (10, [w_h0_in, w_h0_inSize, w_h0_out, w_h0_outSize, w_h0_dict, w_h0_dictSize, w_h0_told, w_h0_fresh, w_h0_freshSize, .ref h0_text, .int h0_lean, w_h0_size, w_h0_most, w_h0_offset, w_h0_copyAt, w_h0_copies, w_h0_copyLength, w_h0_copyOffset, w_h0_fromHere, w_h0_withCopy, w_h0_bestCopy, w_h0_bestLiterals, w_h0_copiesOf, w_h0_literalsOf, w_h0_partsOf, w_h0_blocks, w_h0_blockMany, w_h0_newBlocks, w_h0_newMany, w_h0_rule, w_h0_place, w_h0_at])), (h0_text, .inl (cI, h0_text_n, .inl h0_text_f))]) [0, 1] [] [0, 1] rfl rfl (by decide) (by decide) rfl (by decide) (fun H locs hP hD hS => ?_)
        obtain ⟨r6, hc, hf⟩ := bind_some hf
        refine nx_i (rn_S (As := [.int j4_3, .int r5]) (rest := []) (n := 2) ⟨hx, hb, hml, hown, hts⟩ (c_Mo_great (l := l) (dC := dC) (dI := dI) (cB := cB) (cI := cI) (a0 := j4_3) (a1 := r5)  (o_r := r6) hc) (wS kw_1244 kw_1245 kw_94 kw_1246) (by decide +kernel) ⟨Nat.le_of_ble_eq_true rfl, Nat.le_of_ble_eq_true rfl⟩ hK hP hD hN hT hS (va_free (wc := []) hD hS hA [] rfl) [] rfl (by decide) rfl hl.1 rfl (lv_room (Nat.le_of_ble_eq_true rfl)) dX12_longestTo_36 ⟨Nat.le_of_ble_eq_true rfl, Nat.le_of_ble_eq_true rfl⟩) hP hD hS hA (wr := [(h0, .inr (10, [w_h0_in, w_h0_inSize, w_h0_out, w_h0_outSize, w_h0_dict, w_h0_dictSize, w_h0_told, w_h0_fresh, w_h0_freshSize, .ref h0_text, .int h0_lean, w_h0_size, w_h0_most, w_h0_offset, w_h0_copyAt, w_h0_copies, w_h0_copyLength, w_h0_copyOffset, w_h0_fromHere, w_h0_withCopy, w_h0_bestCopy, w_h0_bestLiterals, w_h0_copiesOf, w_h0_literalsOf, w_h0_partsOf, w_h0_blocks, w_h0_blockMany, w_h0_newBlocks, w_h0_newMany, w_h0_rule, w_h0_place, w_h0_at])), (h0_text, .inl (cI, h0_text_n, .inl h0_text_f))]) (w1 := []) (ws' := [(h0, .inr (10, [w_h0_in, w_h0_inSize, w_h0_out, w_h0_outSize, w_h0_dict, w_h0_dictSize, w_h0_told, w_h0_fresh, w_h0_freshSize, .ref h0_text, .int h0_lean, w_h0_size, w_h0_most, w_h0_offset, w_h0_copyAt, w_h0_copies, w_h0_copyLength, w_h0_copyOffset, w_h0_fromHere, w_h0_withCopy, w_h0_bestCopy, w_h0_bestLiterals, w_h0_copiesOf, w_h0_literalsOf, w_h0_partsOf, w_h0_blocks, w_h0_blockMany, w_h0_newBlocks, w_h0_newMany, w_h0_rule, w_h0_place, w_h0_at])), (h0_text, .inl (cI, h0_text_n, .inl h0_text_f))]) [] [0, 1] [0, 1] rfl rfl (by decide) (by decide) rfl (by decide) (fun H locs hP hD hS => ?_)
        refine lv_istore (lv' := [(4, .int r6), (0, .ref h0), (2, .int a2), (3, .int v3_1), (5, .int j5_4)]) hx hb dX12_longestTo_39 hl (by decide) rfl (fun ls hl => ?_)
        obtain ⟨v5_7, e_v5_7⟩ : ∃ y : Int32, y = (j5_4 + (-1 : Int32)) := ⟨_, rfl⟩
        replace hf := bnd_at e_v5_7 hf
        refine lv_iinc (v := v5_7) (lv' := [(5, .int v5_7), (4, .int r6), (0, .ref h0), (2, .int a2), (3, .int v3_1)]) hx hb dX12_longestTo_41 hl (k := 4) rfl (by rw [e_v5_7]; rfl) (by decide) rfl (fun ls hl => ?_)
        refine lv_goto (tgt := 15) hx hb dX12_longestTo_44 (by decide) ?_
        exact ih_15 r6 v5_7 _ _ _ (iter_back hf hr_15) hP hD hS (lv_sub hl [2, 3, 4, 1, 0] rfl)
  exact hL_15 FU (0 : Int32) v5_2 _ _ _ hi_15 hP hD hS (lv_sub hl [3, 5, 2, 1, 0] rfl)

theorem dX12_nearest_0 : decode cX12_nearest 0 = .ok (.aload_n 0, 1) := by decide +kernel
theorem dX12_nearest_1 : decode cX12_nearest 1 = .ok (.getfield 24, 3) := by decide +kernel
theorem dX12_nearest_4 : decode cX12_nearest 4 = .ok (.iload_n 1, 1) := by decide +kernel
theorem dX12_nearest_5 : decode cX12_nearest 5 = .ok (.iadd, 1) := by decide +kernel
theorem dX12_nearest_6 : decode cX12_nearest 6 = .ok (.istore_n 3, 1) := by decide +kernel
theorem dX12_nearest_7 : decode cX12_nearest 7 = .ok (.iload_n 3, 1) := by decide +kernel
theorem dX12_nearest_8 : decode cX12_nearest 8 = .ok (.iconst 1, 1) := by decide +kernel
theorem dX12_nearest_9 : decode cX12_nearest 9 = .ok (.isub, 1) := by decide +kernel
theorem dX12_nearest_10 : decode cX12_nearest 10 = .ok (.istore 4, 2) := by decide +kernel
theorem dX12_nearest_12 : decode cX12_nearest 12 = .ok (.iload 4, 2) := by decide +kernel
theorem dX12_nearest_14 : decode cX12_nearest 14 = .ok (.ifCond .lt 35, 3) := by decide +kernel
theorem dX12_nearest_17 : decode cX12_nearest 17 = .ok (.aload_n 0, 1) := by decide +kernel
theorem dX12_nearest_18 : decode cX12_nearest 18 = .ok (.iload 4, 2) := by decide +kernel
theorem dX12_nearest_20 : decode cX12_nearest 20 = .ok (.iload_n 3, 1) := by decide +kernel
theorem dX12_nearest_21 : decode cX12_nearest 21 = .ok (.aload_n 0, 1) := by decide +kernel
theorem dX12_nearest_22 : decode cX12_nearest 22 = .ok (.getfield 24, 3) := by decide +kernel
theorem dX12_nearest_25 : decode cX12_nearest 25 = .ok (.aload_n 0, 1) := by decide +kernel
theorem dX12_nearest_26 : decode cX12_nearest 26 = .ok (.getfield 35, 3) := by decide +kernel
theorem dX12_nearest_29 : decode cX12_nearest 29 = .ok (.iadd, 1) := by decide +kernel
theorem dX12_nearest_30 : decode cX12_nearest 30 = .ok (.iload_n 2, 1) := by decide +kernel
theorem dX12_nearest_31 : decode cX12_nearest 31 = .ok (.invokevirtual 28, 3) := by decide +kernel
theorem dX12_nearest_34 : decode cX12_nearest 34 = .ok (.iload_n 2, 1) := by decide +kernel
theorem dX12_nearest_35 : decode cX12_nearest 35 = .ok (.if_icmp .ne 8, 3) := by decide +kernel
theorem dX12_nearest_38 : decode cX12_nearest 38 = .ok (.iload_n 3, 1) := by decide +kernel
theorem dX12_nearest_39 : decode cX12_nearest 39 = .ok (.iload 4, 2) := by decide +kernel
theorem dX12_nearest_41 : decode cX12_nearest 41 = .ok (.isub, 1) := by decide +kernel
theorem dX12_nearest_42 : decode cX12_nearest 42 = .ok (.ireturn, 1) := by decide +kernel
theorem dX12_nearest_43 : decode cX12_nearest 43 = .ok (.iinc 4 (-1), 3) := by decide +kernel
theorem dX12_nearest_46 : decode cX12_nearest 46 = .ok (.goto (-34), 3) := by decide +kernel
theorem dX12_nearest_49 : decode cX12_nearest 49 = .ok (.bipush (-2), 2) := by decide +kernel
theorem dX12_nearest_51 : decode cX12_nearest 51 = .ok (.ireturn, 1) := by decide +kernel
def m_Mo_nearest_B12 (a2 : Int32) (h0_lean : Int32) (h0_size : Int32) (h0_text_n : Nat) (h0_text_f : Nat → Int32) (v3_1 : Int32) (j4_3 : Int32) : Option ((Int32) ⊕ ((((Int32))))) :=
  if j4_3 < 0 then
    some (.inr (-2 : Int32))
  else
    (m_Mo_alike j4_3 v3_1 (h0_lean + h0_size) a2 h0_text_n h0_text_f).bind fun r4 =>
    if r4 = a2 then
      some (.inr (v3_1 - j4_3))
    else
      bnd (j4_3 + (-1 : Int32)) fun v4_5 =>
      some (.inl v4_5)
def m_Mo_nearest (a1 : Int32) (a2 : Int32) (h0_lean : Int32) (h0_size : Int32) (h0_text_n : Nat) (h0_text_f : Nat → Int32) : Option (Int32) :=
  bnd (h0_lean + a1) fun v3_1 =>
  bnd (v3_1 - (1 : Int32)) fun v4_2 =>
  (iter (fun st => m_Mo_nearest_B12 a2 h0_lean h0_size h0_text_n h0_text_f v3_1 st) FU v4_2).bind fun o => some o
def rm_Mo_nearest : Room := { frames := 1, cells := 0, slots := 0, locals := 25 }
set_option maxHeartbeats 4000000 in
set_option maxRecDepth 100000 in
theorem c_Mo_nearest {l : Launch} {dC : Nat → ClassId} {dI : Nat → Nat → Nat} {cB cI : ClassId} {sz : Nat} {h0 : Nat} {a1 : Int32} {a2 : Int32} {h0_text : Nat} {w_h0_in : Value} {w_h0_inSize : Value} {w_h0_out : Value} {w_h0_outSize : Value} {w_h0_dict : Value} {w_h0_dictSize : Value} {w_h0_told : Value} {w_h0_fresh : Value} {w_h0_freshSize : Value} {h0_lean : Int32} {h0_size : Int32} {w_h0_most : Value} {w_h0_offset : Value} {w_h0_copyAt : Value} {w_h0_copies : Value} {w_h0_copyLength : Value} {w_h0_copyOffset : Value} {w_h0_fromHere : Value} {w_h0_withCopy : Value} {w_h0_bestCopy : Value} {w_h0_bestLiterals : Value} {w_h0_copiesOf : Value} {w_h0_literalsOf : Value} {w_h0_partsOf : Value} {w_h0_blocks : Value} {w_h0_blockMany : Value} {w_h0_newBlocks : Value} {w_h0_newMany : Value} {w_h0_rule : Value} {w_h0_place : Value} {w_h0_at : Value} {h0_text_n : Nat} {h0_text_f : Nat → Int32} {o_r : Int32} (hf : m_Mo_nearest a1 a2 h0_lean h0_size h0_text_n h0_text_f = some o_r) : Met l yX12_nearest (Cond.code yX12_nearest cX12_nearest 5 (some .int) :: lw_G) rm_Mo_nearest (PreC (dC, dI) [(cB, .byte), (cI, .int)] [.ref h0, .int a1, .int a2] sz [(h0, .inr (10, [w_h0_in, w_h0_inSize, w_h0_out, w_h0_outSize, w_h0_dict, w_h0_dictSize, w_h0_told, w_h0_fresh, w_h0_freshSize, .ref h0_text, .int h0_lean, .int h0_size, w_h0_most, w_h0_offset, w_h0_copyAt, w_h0_copies, w_h0_copyLength, w_h0_copyOffset, w_h0_fromHere, w_h0_withCopy, w_h0_bestCopy, w_h0_bestLiterals, w_h0_copiesOf, w_h0_literalsOf, w_h0_partsOf, w_h0_blocks, w_h0_blockMany, w_h0_newBlocks, w_h0_newMany, w_h0_rule, w_h0_place, w_h0_at])), (h0_text, .inl (cI, h0_text_n, .inl h0_text_f))]) (QcI o_r (dC, dI) [(h0, .inr (10, [w_h0_in, w_h0_inSize, w_h0_out, w_h0_outSize, w_h0_dict, w_h0_dictSize, w_h0_told, w_h0_fresh, w_h0_freshSize, .ref h0_text, .int h0_lean, .int h0_size, w_h0_most, w_h0_offset, w_h0_copyAt, w_h0_copies, w_h0_copyLength, w_h0_copyOffset, w_h0_fromHere, w_h0_withCopy, w_h0_bestCopy, w_h0_bestLiterals, w_h0_copiesOf, w_h0_literalsOf, w_h0_partsOf, w_h0_blocks, w_h0_blockMany, w_h0_newBlocks, w_h0_newMany, w_h0_rule, w_h0_place, w_h0_at])), (h0_text, .inl (cI, h0_text_n, .inl h0_text_f))] (va_A [(h0, .inr (10, [w_h0_in, w_h0_inSize, w_h0_out, w_h0_outSize, w_h0_dict, w_h0_dictSize, w_h0_told, w_h0_fresh, w_h0_freshSize, .ref h0_text, .int h0_lean, .int h0_size, w_h0_most, w_h0_offset, w_h0_copyAt, w_h0_copies, w_h0_copyLength, w_h0_copyOffset, w_h0_fromHere, w_h0_withCopy, w_h0_bestCopy, w_h0_bestLiterals, w_h0_copiesOf, w_h0_literalsOf, w_h0_partsOf, w_h0_blocks, w_h0_blockMany, w_h0_newBlocks, w_h0_newMany, w_h0_rule, w_h0_place, w_h0_at])), (h0_text, .inl (cI, h0_text_n, .inl h0_text_f))] sz)) 0 0 (va_A [(h0, .inr (10, [w_h0_in, w_h0_inSize, w_h0_out, w_h0_outSize, w_h0_dict, w_h0_dictSize, w_h0_told, w_h0_fresh, w_h0_freshSize, .ref h0_text, .int h0_lean, .int h0_size, w_h0_most, w_h0_offset, w_h0_copyAt, w_h0_copies, w_h0_copyLength, w_h0_copyOffset, w_h0_fromHere, w_h0_withCopy, w_h0_bestCopy, w_h0_bestLiterals, w_h0_copiesOf, w_h0_literalsOf, w_h0_partsOf, w_h0_blocks, w_h0_blockMany, w_h0_newBlocks, w_h0_newMany, w_h0_rule, w_h0_place, w_h0_at])), (h0_text, .inl (cI, h0_text_n, .inl h0_text_f))] sz) := by
  refine met_of (Qf := fun A => QcI o_r (dC, dI) [(h0, .inr (10, [w_h0_in, w_h0_inSize, w_h0_out, w_h0_outSize, w_h0_dict, w_h0_dictSize, w_h0_told, w_h0_fresh, w_h0_freshSize, .ref h0_text, .int h0_lean, .int h0_size, w_h0_most, w_h0_offset, w_h0_copyAt, w_h0_copies, w_h0_copyLength, w_h0_copyOffset, w_h0_fromHere, w_h0_withCopy, w_h0_bestCopy, w_h0_bestLiterals, w_h0_copiesOf, w_h0_literalsOf, w_h0_partsOf, w_h0_blocks, w_h0_blockMany, w_h0_newBlocks, w_h0_newMany, w_h0_rule, w_h0_place, w_h0_at])), (h0_text, .inl (cI, h0_text_n, .inl h0_text_f))] A) (by decide) (Nat.le_of_ble_eq_true rfl) ?_
  intro p e s m below meth c A ls Q hx hb hr hml hown hts hlocks hnm hP hK hD hN hT hA hl hQ
  have hown : s.vm.findClass RX12 = some m.cls := hown
  have hS : va_S A s.heap s.heap [] := va_S.rf
  have hl : lv_has ls 5 [(0, .ref h0), (1, .int a1), (2, .int a2)] := hl
  unfold m_Mo_nearest at hf
  refine lv_aload_n hx hb dX12_nearest_0 rfl (lv_at hl 0 rfl) ?_
  refine va_get (D := (dC, dI)) (ci := 10) (v := .int h0_lean) (C := RX12) (T := TX12) (N := 32) hx hb hts inG_X12 hown hK hP 0 rfl rfl 10 (by decide) (hts _ kw_1062) (fun _ h9 => h9) rfl dX12_nearest_1 ?_
  refine lv_iload_n hx hb dX12_nearest_4 rfl (lv_at hl 1 rfl) ?_
  refine lv_iadd hx hb dX12_nearest_5 ?_
  refine lv_topi (fun v3_1 e_v3_1 => ?_)
  replace hf := bnd_at e_v3_1 hf
  refine lv_istore_n (lv' := [(3, .int v3_1), (0, .ref h0), (1, .int a1), (2, .int a2)]) hx hb dX12_nearest_6 rfl hl (by decide) rfl (fun ls hl => ?_)
  refine lv_iload_n hx hb dX12_nearest_7 rfl (lv_at hl 0 rfl) ?_
  refine lv_iconst (v := 1) hx hb dX12_nearest_8 (by decide) ?_
  refine lv_isub hx hb dX12_nearest_9 ?_
  refine lv_topi (fun v4_2 e_v4_2 => ?_)
  replace hf := bnd_at e_v4_2 hf
  refine lv_istore (lv' := [(4, .int v4_2), (3, .int v3_1), (0, .ref h0), (1, .int a1), (2, .int a2)]) hx hb dX12_nearest_10 hl (by decide) rfl (fun ls hl => ?_)
  obtain ⟨o_12, hi_12, hk_12⟩ := bind_some hf
  have hL_12 : ∀ (n : Nat) (j4_3 : Int32) (H : Heap) (locs : List Loc) (ls : Array Slot), iter (fun st => m_Mo_nearest_B12 a2 h0_lean h0_size h0_text_n h0_text_f v3_1 st) n j4_3 = some o_12 → va_P (dC, dI) vwCl [(h0, .inr (10, [w_h0_in, w_h0_inSize, w_h0_out, w_h0_outSize, w_h0_dict, w_h0_dictSize, w_h0_told, w_h0_fresh, w_h0_freshSize, .ref h0_text, .int h0_lean, .int h0_size, w_h0_most, w_h0_offset, w_h0_copyAt, w_h0_copies, w_h0_copyLength, w_h0_copyOffset, w_h0_fromHere, w_h0_withCopy, w_h0_bestCopy, w_h0_bestLiterals, w_h0_copiesOf, w_h0_literalsOf, w_h0_partsOf, w_h0_blocks, w_h0_blockMany, w_h0_newBlocks, w_h0_newMany, w_h0_rule, w_h0_place, w_h0_at])), (h0_text, .inl (cI, h0_text_n, .inl h0_text_f))] H → va_D A [(h0, .inr (10, [w_h0_in, w_h0_inSize, w_h0_out, w_h0_outSize, w_h0_dict, w_h0_dictSize, w_h0_told, w_h0_fresh, w_h0_freshSize, .ref h0_text, .int h0_lean, .int h0_size, w_h0_most, w_h0_offset, w_h0_copyAt, w_h0_copies, w_h0_copyLength, w_h0_copyOffset, w_h0_fromHere, w_h0_withCopy, w_h0_bestCopy, w_h0_bestLiterals, w_h0_copiesOf, w_h0_literalsOf, w_h0_partsOf, w_h0_blocks, w_h0_blockMany, w_h0_newBlocks, w_h0_newMany, w_h0_rule, w_h0_place, w_h0_at])), (h0_text, .inl (cI, h0_text_n, .inl h0_text_f))] → va_S A s.heap H locs → lv_has ls 5 [(0, .ref h0), (2, .int a2), (3, .int v3_1), (4, .int j4_3)] → W p l e (rm_Mo_nearest) s m ([.ref h0, .int a1, .int a2] : List Value).toArray below meth c H locs 0 0 Q (F0 m 12 ls []) := by
    intro n
    induction n with
    | zero => intro j4_3 H locs ls hf; exact absurd hf (fun z => by cases z)
    | succ n ih_12 =>
      intro j4_3 H locs ls hf hP hD hS hl
      obtain ⟨r_12, hf, hr_12⟩ := iter_succ hf
      have hf : m_Mo_nearest_B12 a2 h0_lean h0_size h0_text_n h0_text_f v3_1 j4_3 = some r_12 := hf
      unfold m_Mo_nearest_B12 at hf
      refine lv_iload hx hb dX12_nearest_12 (lv_at hl 3 rfl) ?_
      refine lv_if_lt (tgt := 49) hx hb dX12_nearest_14 (by decide) (fun c_14 => ?_) (fun c_14 => ?_)
      · replace hf := if_t c_14 hf
        refine lv_bipush (v := -2) hx hb dX12_nearest_49 (by decide) ?_
        replace hf : some (-2 : Int32) = some o_r := by have hq := hk_12; rw [iter_exit hf hr_12] at hq; exact hq
        obtain rfl := Option.some.inj hf
        exact rt_i hQ hx hb hr hlocks hP hD hS dX12_nearest_51
      · replace hf := if_f c_14 hf
        refine lv_aload_n hx hb dX12_nearest_17 rfl (lv_at hl 0 rfl) ?_
        refine lv_iload hx hb dX12_nearest_18 (lv_at hl 3 rfl) ?_
        refine lv_iload_n hx hb dX12_nearest_20 rfl (lv_at hl 2 rfl) ?_
        refine lv_aload_n hx hb dX12_nearest_21 rfl (lv_at hl 0 rfl) ?_
        refine va_get (D := (dC, dI)) (ci := 10) (v := .int h0_lean) (C := RX12) (T := TX12) (N := 32) hx hb hts inG_X12 hown hK hP 0 rfl rfl 10 (by decide) (hts _ kw_1062) (fun _ h9 => h9) rfl dX12_nearest_22 ?_
        refine lv_aload_n hx hb dX12_nearest_25 rfl (lv_at hl 0 rfl) ?_
        refine va_get (D := (dC, dI)) (ci := 10) (v := .int h0_size) (C := RX12) (T := TX12) (N := 32) hx hb hts inG_X12 hown hK hP 0 rfl rfl 11 (by decide) (hts _ kw_1063) (fun _ h9 => h9) rfl dX12_nearest_26 ?_
        refine lv_iadd hx hb dX12_nearest_29 ?_
        refine lv_iload_n hx hb dX12_nearest_30 rfl (lv_at hl 1 rfl) ?_
        obtain ⟨r4, hc, hf⟩ := bind_some hf
        refine nx_i (rn_V (As := [.int j4_3, .int v3_1, .int (h0_lean + h0_size), .int a2]) (rest := []) (n := 4) (ci := 10) (q0 := 0) ⟨hx, hb, hml, hown, hts⟩ (c_Mo_alike (l := l) (dC := dC) (dI := dI) (cB := cB) (cI := cI) (h0 := h0) (a1 := j4_3) (a2 := v3_1) (a3 := (h0_lean + h0_size)) (a4 := a2) (h0_text := h0_text) (w_h0_in := (w_h0_in)) (w_h0_inSize := (w_h0_inSize)) (w_h0_out := (w_h0_out)) (w_h0_outSize := (w_h0_outSize)) (w_h0_dict := (w_h0_dict)) (w_h0_dictSize := (w_h0_dictSize)) (w_h0_told := (w_h0_told)) (w_h0_fresh := (w_h0_fresh)) (w_h0_freshSize := (w_h0_freshSize)) (w_h0_lean := (.int h0_lean)) (w_h0_size := (.int h0_size)) (w_h0_most := (w_h0_most)) (w_h0_offset := (w_h0_offset)) (w_h0_copyAt := (w_h0_copyAt)) (w_h0_copies := (w_h0_copies)) (w_h0_copyLength := (w_h0_copyLength)) (w_h0_copyOffset := (w_h0_copyOffset)) (w_h0_fromHere := (w_h0_fromHere)) (w_h0_withCopy := (w_h0_withCopy)) (w_h0_bestCopy := (w_h0_bestCopy)) (w_h0_bestLiterals := (w_h0_bestLiterals)) (w_h0_copiesOf := (w_h0_copiesOf)) (w_h0_literalsOf := (w_h0_literalsOf)) (w_h0_partsOf := (w_h0_partsOf)) (w_h0_blocks := (w_h0_blocks)) (w_h0_blockMany := (w_h0_blockMany)) (w_h0_newBlocks := (w_h0_newBlocks)) (w_h0_newMany := (w_h0_newMany)) (w_h0_rule := (w_h0_rule)) (w_h0_place := (w_h0_place)) (w_h0_at := (w_h0_at)) (h0_text_n := h0_text_n) (h0_text_f := h0_text_f)  (o_r := r4) hc) (wV kw_1278 kw_1280 kw_61 kw_94 kw_1281) (by decide +kernel) ⟨Nat.le_of_ble_eq_true rfl, Nat.le_of_ble_eq_true rfl⟩ hK hP hD hN hT hS (va_free (wc := [(h0, .inr (10, [w_h0_in, w_h0_inSize, w_h0_out, w_h0_outSize, w_h0_dict, w_h0_dictSize, w_h0_told, w_h0_fresh, w_h0_freshSize, .ref h0_text, .int h0_lean, .int h0_size, w_h0_most, w_h0_offset, w_h0_copyAt, w_h0_copies, w_h0_copyLength, w_h0_copyOffset, w_h0_fromHere, w_h0_withCopy, w_h0_bestCopy, w_h0_bestLiterals, w_h0_copiesOf, w_h0_literalsOf, w_h0_partsOf, w_h0_blocks, w_h0_blockMany, w_h0_newBlocks, w_h0_newMany, w_h0_rule, w_h0_place, w_h0_at])), (h0_text, .inl (cI, h0_text_n, .inl h0_text_f))]) hD hS hA [0, 1] rfl) [0, 1] rfl (by decide) rfl rfl rfl hl.1 rfl (lv_room (Nat.le_of_ble_eq_true rfl)) dX12_nearest_31 ⟨Nat.le_of_ble_eq_true rfl, Nat.le_of_ble_eq_true rfl⟩) hP hD hS hA (wr := []) (w1 := [(h0, .inr (10, [w_h0_in, w_h0_inSize, w_h0_out, w_h0_outSize, w_h0_dict, w_h0_dictSize, w_h0_told, w_h0_fresh, w_h0_freshSize, .ref h0_text, .int h0_lean, .int h0_size, w_h0_most, w_h0_offset, w_h0_copyAt, w_h0_copies, w_h0_copyLength, w_h0_copyOffset, w_h0_fromHere, w_h0_withCopy, w_h0_bestCopy, w_h0_bestLiterals, w_h0_copiesOf, w_h0_literalsOf, w_h0_partsOf, w_h0_blocks, w_h0_blockMany, w_h0_newBlocks, w_h0_newMany, w_h0_rule, w_h0_place, w_h0_at])), (h0_text, .inl (cI, h0_text_n, .inl h0_text_f))]) (ws' := [(h0, .inr (10, [w_h0_in, w_h0_inSize, w_h0_out, w_h0_outSize, w_h0_dict, w_h0_dictSize, w_h0_told, w_h0_fresh, w_h0_freshSize, .ref h0_text, .int h0_lean, .int h0_size, w_h0_most, w_h0_offset, w_h0_copyAt, w_h0_copies, w_h0_copyLength, w_h0_copyOffset, w_h0_fromHere, w_h0_withCopy, w_h0_bestCopy, w_h0_bestLiterals, w_h0_copiesOf, w_h0_literalsOf, w_h0_partsOf, w_h0_blocks, w_h0_blockMany, w_h0_newBlocks, w_h0_newMany, w_h0_rule, w_h0_place, w_h0_at])), (h0_text, .inl (cI, h0_text_n, .inl h0_text_f))]) [0, 1] [] [0, 1] rfl rfl (by decide) (by decide) rfl (by decide) (fun H locs hP hD hS => ?_)
        refine lv_iload_n hx hb dX12_nearest_34 rfl (lv_at hl 1 rfl) ?_
        refine lv_icmp_ne (tgt := 43) hx hb dX12_nearest_35 (by decide) (fun c_35 => ?_) (fun c_35 => ?_)
        · replace hf := if_f c_35 hf
          obtain ⟨v4_5, e_v4_5⟩ : ∃ y : Int32, y = (j4_3 + (-1 : Int32)) := ⟨_, rfl⟩
          replace hf := bnd_at e_v4_5 hf
          refine lv_iinc (v := v4_5) (lv' := [(4, .int v4_5), (0, .ref h0), (2, .int a2), (3, .int v3_1)]) hx hb dX12_nearest_43 hl (k := 3) rfl (by rw [e_v4_5]; rfl) (by decide) rfl (fun ls hl => ?_)
          refine lv_goto (tgt := 12) hx hb dX12_nearest_46 (by decide) ?_
          exact ih_12 v4_5 _ _ _ (iter_back hf hr_12) hP hD hS (lv_sub hl [1, 2, 3, 0] rfl)
        · replace hf := if_t c_35 hf
          refine lv_iload_n hx hb dX12_nearest_38 rfl (lv_at hl 2 rfl) ?_
          refine lv_iload hx hb dX12_nearest_39 (lv_at hl 3 rfl) ?_
          refine lv_isub hx hb dX12_nearest_41 ?_
          replace hf : some (v3_1 - j4_3) = some o_r := by have hq := hk_12; rw [iter_exit hf hr_12] at hq; exact hq
          obtain rfl := Option.some.inj hf
          exact rt_i hQ hx hb hr hlocks hP hD hS dX12_nearest_42
  exact hL_12 FU v4_2 _ _ _ hi_12 hP hD hS (lv_sub hl [2, 4, 1, 0] rfl)

theorem dX12_runs_0 : decode cX12_runs 0 = .ok (.iconst 0, 1) := by decide +kernel
theorem dX12_runs_1 : decode cX12_runs 1 = .ok (.istore_n 2, 1) := by decide +kernel
theorem dX12_runs_2 : decode cX12_runs 2 = .ok (.iload_n 2, 1) := by decide +kernel
theorem dX12_runs_3 : decode cX12_runs 3 = .ok (.aload_n 0, 1) := by decide +kernel
theorem dX12_runs_4 : decode cX12_runs 4 = .ok (.getfield 35, 3) := by decide +kernel
theorem dX12_runs_7 : decode cX12_runs 7 = .ok (.if_icmp .ge 16, 3) := by decide +kernel
theorem dX12_runs_10 : decode cX12_runs 10 = .ok (.aload_n 0, 1) := by decide +kernel
theorem dX12_runs_11 : decode cX12_runs 11 = .ok (.getfield 38, 3) := by decide +kernel
theorem dX12_runs_14 : decode cX12_runs 14 = .ok (.iload_n 2, 1) := by decide +kernel
theorem dX12_runs_15 : decode cX12_runs 15 = .ok (.iconst 0, 1) := by decide +kernel
theorem dX12_runs_16 : decode cX12_runs 16 = .ok (.iastore, 1) := by decide +kernel
theorem dX12_runs_17 : decode cX12_runs 17 = .ok (.iinc 2 1, 3) := by decide +kernel
theorem dX12_runs_20 : decode cX12_runs 20 = .ok (.goto (-18), 3) := by decide +kernel
theorem dX12_runs_23 : decode cX12_runs 23 = .ok (.iconst 1, 1) := by decide +kernel
theorem dX12_runs_24 : decode cX12_runs 24 = .ok (.istore_n 2, 1) := by decide +kernel
theorem dX12_runs_25 : decode cX12_runs 25 = .ok (.iload_n 2, 1) := by decide +kernel
theorem dX12_runs_26 : decode cX12_runs 26 = .ok (.aload_n 0, 1) := by decide +kernel
theorem dX12_runs_27 : decode cX12_runs 27 = .ok (.getfield 24, 3) := by decide +kernel
theorem dX12_runs_30 : decode cX12_runs 30 = .ok (.aload_n 0, 1) := by decide +kernel
theorem dX12_runs_31 : decode cX12_runs 31 = .ok (.getfield 35, 3) := by decide +kernel
theorem dX12_runs_34 : decode cX12_runs 34 = .ok (.iadd, 1) := by decide +kernel
theorem dX12_runs_35 : decode cX12_runs 35 = .ok (.if_icmp .ge 144, 3) := by decide +kernel
theorem dX12_runs_38 : decode cX12_runs 38 = .ok (.iconst 0, 1) := by decide +kernel
theorem dX12_runs_39 : decode cX12_runs 39 = .ok (.istore_n 3, 1) := by decide +kernel
theorem dX12_runs_40 : decode cX12_runs 40 = .ok (.aload_n 0, 1) := by decide +kernel
theorem dX12_runs_41 : decode cX12_runs 41 = .ok (.getfield 35, 3) := by decide +kernel
theorem dX12_runs_44 : decode cX12_runs 44 = .ok (.iconst 1, 1) := by decide +kernel
theorem dX12_runs_45 : decode cX12_runs 45 = .ok (.isub, 1) := by decide +kernel
theorem dX12_runs_46 : decode cX12_runs 46 = .ok (.istore 4, 2) := by decide +kernel
theorem dX12_runs_48 : decode cX12_runs 48 = .ok (.iload 4, 2) := by decide +kernel
theorem dX12_runs_50 : decode cX12_runs 50 = .ok (.ifCond .lt 123, 3) := by decide +kernel
theorem dX12_runs_53 : decode cX12_runs 53 = .ok (.aload_n 0, 1) := by decide +kernel
theorem dX12_runs_54 : decode cX12_runs 54 = .ok (.getfield 24, 3) := by decide +kernel
theorem dX12_runs_57 : decode cX12_runs 57 = .ok (.iload 4, 2) := by decide +kernel
theorem dX12_runs_59 : decode cX12_runs 59 = .ok (.iadd, 1) := by decide +kernel
theorem dX12_runs_60 : decode cX12_runs 60 = .ok (.iload_n 2, 1) := by decide +kernel
theorem dX12_runs_61 : decode cX12_runs 61 = .ok (.if_icmp .lt 112, 3) := by decide +kernel
theorem dX12_runs_64 : decode cX12_runs 64 = .ok (.aload_n 0, 1) := by decide +kernel
theorem dX12_runs_65 : decode cX12_runs 65 = .ok (.getfield 20, 3) := by decide +kernel
theorem dX12_runs_68 : decode cX12_runs 68 = .ok (.aload_n 0, 1) := by decide +kernel
theorem dX12_runs_69 : decode cX12_runs 69 = .ok (.getfield 24, 3) := by decide +kernel
theorem dX12_runs_72 : decode cX12_runs 72 = .ok (.iload 4, 2) := by decide +kernel
theorem dX12_runs_74 : decode cX12_runs 74 = .ok (.iadd, 1) := by decide +kernel
theorem dX12_runs_75 : decode cX12_runs 75 = .ok (.iaload, 1) := by decide +kernel
theorem dX12_runs_76 : decode cX12_runs 76 = .ok (.aload_n 0, 1) := by decide +kernel
theorem dX12_runs_77 : decode cX12_runs 77 = .ok (.getfield 20, 3) := by decide +kernel
theorem dX12_runs_80 : decode cX12_runs 80 = .ok (.aload_n 0, 1) := by decide +kernel
theorem dX12_runs_81 : decode cX12_runs 81 = .ok (.getfield 24, 3) := by decide +kernel
theorem dX12_runs_84 : decode cX12_runs 84 = .ok (.iload 4, 2) := by decide +kernel
theorem dX12_runs_86 : decode cX12_runs 86 = .ok (.iadd, 1) := by decide +kernel
theorem dX12_runs_87 : decode cX12_runs 87 = .ok (.iload_n 2, 1) := by decide +kernel
theorem dX12_runs_88 : decode cX12_runs 88 = .ok (.isub, 1) := by decide +kernel
theorem dX12_runs_89 : decode cX12_runs 89 = .ok (.iaload, 1) := by decide +kernel
theorem dX12_runs_90 : decode cX12_runs 90 = .ok (.if_icmp .ne 9, 3) := by decide +kernel
theorem dX12_runs_93 : decode cX12_runs 93 = .ok (.iload_n 3, 1) := by decide +kernel
theorem dX12_runs_94 : decode cX12_runs 94 = .ok (.iconst 1, 1) := by decide +kernel
theorem dX12_runs_95 : decode cX12_runs 95 = .ok (.iadd, 1) := by decide +kernel
theorem dX12_runs_96 : decode cX12_runs 96 = .ok (.goto 4, 3) := by decide +kernel
theorem dX12_runs_99 : decode cX12_runs 99 = .ok (.iconst 0, 1) := by decide +kernel
theorem dX12_runs_100 : decode cX12_runs 100 = .ok (.istore_n 3, 1) := by decide +kernel
theorem dX12_runs_101 : decode cX12_runs 101 = .ok (.aload_n 0, 1) := by decide +kernel
theorem dX12_runs_102 : decode cX12_runs 102 = .ok (.getfield 38, 3) := by decide +kernel
theorem dX12_runs_105 : decode cX12_runs 105 = .ok (.iload 4, 2) := by decide +kernel
theorem dX12_runs_107 : decode cX12_runs 107 = .ok (.iaload, 1) := by decide +kernel
theorem dX12_runs_108 : decode cX12_runs 108 = .ok (.iconst 1, 1) := by decide +kernel
theorem dX12_runs_109 : decode cX12_runs 109 = .ok (.iadd, 1) := by decide +kernel
theorem dX12_runs_110 : decode cX12_runs 110 = .ok (.istore 5, 2) := by decide +kernel
theorem dX12_runs_112 : decode cX12_runs 112 = .ok (.iload_n 1, 1) := by decide +kernel
theorem dX12_runs_113 : decode cX12_runs 113 = .ok (.ifCond .eq 36, 3) := by decide +kernel
theorem dX12_runs_116 : decode cX12_runs 116 = .ok (.iload 5, 2) := by decide +kernel
theorem dX12_runs_118 : decode cX12_runs 118 = .ok (.iload_n 3, 1) := by decide +kernel
theorem dX12_runs_119 : decode cX12_runs 119 = .ok (.if_icmp .gt 30, 3) := by decide +kernel
theorem dX12_runs_122 : decode cX12_runs 122 = .ok (.iload 5, 2) := by decide +kernel
theorem dX12_runs_124 : decode cX12_runs 124 = .ok (.bipush 64, 2) := by decide +kernel
theorem dX12_runs_126 : decode cX12_runs 126 = .ok (.if_icmp .gt 23, 3) := by decide +kernel
theorem dX12_runs_129 : decode cX12_runs 129 = .ok (.aload_n 0, 1) := by decide +kernel
theorem dX12_runs_130 : decode cX12_runs 130 = .ok (.getfield 41, 3) := by decide +kernel
theorem dX12_runs_133 : decode cX12_runs 133 = .ok (.bipush 65, 2) := by decide +kernel
theorem dX12_runs_135 : decode cX12_runs 135 = .ok (.iload 4, 2) := by decide +kernel
theorem dX12_runs_137 : decode cX12_runs 137 = .ok (.imul, 1) := by decide +kernel
theorem dX12_runs_138 : decode cX12_runs 138 = .ok (.iload 5, 2) := by decide +kernel
theorem dX12_runs_140 : decode cX12_runs 140 = .ok (.iadd, 1) := by decide +kernel
theorem dX12_runs_141 : decode cX12_runs 141 = .ok (.iload_n 2, 1) := by decide +kernel
theorem dX12_runs_142 : decode cX12_runs 142 = .ok (.iastore, 1) := by decide +kernel
theorem dX12_runs_143 : decode cX12_runs 143 = .ok (.iinc 5 1, 3) := by decide +kernel
theorem dX12_runs_146 : decode cX12_runs 146 = .ok (.goto (-34), 3) := by decide +kernel
theorem dX12_runs_149 : decode cX12_runs 149 = .ok (.aload_n 0, 1) := by decide +kernel
theorem dX12_runs_150 : decode cX12_runs 150 = .ok (.getfield 38, 3) := by decide +kernel
theorem dX12_runs_153 : decode cX12_runs 153 = .ok (.iload 4, 2) := by decide +kernel
theorem dX12_runs_155 : decode cX12_runs 155 = .ok (.aload_n 0, 1) := by decide +kernel
theorem dX12_runs_156 : decode cX12_runs 156 = .ok (.getfield 38, 3) := by decide +kernel
theorem dX12_runs_159 : decode cX12_runs 159 = .ok (.iload 4, 2) := by decide +kernel
theorem dX12_runs_161 : decode cX12_runs 161 = .ok (.iaload, 1) := by decide +kernel
theorem dX12_runs_162 : decode cX12_runs 162 = .ok (.iload_n 3, 1) := by decide +kernel
theorem dX12_runs_163 : decode cX12_runs 163 = .ok (.invokestatic 32, 3) := by decide +kernel
theorem dX12_runs_166 : decode cX12_runs 166 = .ok (.iastore, 1) := by decide +kernel
theorem dX12_runs_167 : decode cX12_runs 167 = .ok (.iinc 4 (-1), 3) := by decide +kernel
theorem dX12_runs_170 : decode cX12_runs 170 = .ok (.goto (-122), 3) := by decide +kernel
theorem dX12_runs_173 : decode cX12_runs 173 = .ok (.iinc 2 1, 3) := by decide +kernel
theorem dX12_runs_176 : decode cX12_runs 176 = .ok (.goto (-151), 3) := by decide +kernel
theorem dX12_runs_179 : decode cX12_runs 179 = .ok (.return_, 1) := by decide +kernel
def m_Mo_runs_E173 (j2_4 : Int32) (f6 : Nat → Int32) (f7 : Nat → Int32) : Option (((Nat → Int32) × (Nat → Int32) × Int32) ⊕ (((((Nat → Int32) × (Nat → Int32)))))) :=
  bnd (j2_4 + (1 : Int32)) fun v2_8 =>
  some (.inl (f6, f7, v2_8))
def m_Mo_runs_E149 (h0_most_n : Nat) (f9 : Nat → Int32) (j4_12 : Int32) (s13 : Int32) (f15 : Nat → Int32) : Option (((Nat → Int32) × (Nat → Int32) × Int32 × Int32) ⊕ (((Nat → Int32) × (Nat → Int32)))) :=
  chk j4_12 h0_most_n <|
  (m_Mo_great (f9 j4_12.toNatClampNeg) s13).bind fun r16 =>
  chk j4_12 h0_most_n <|
  bnd (j4_12 + (-1 : Int32)) fun v4_17 =>
  some (.inl ((upd f9 j4_12.toNatClampNeg r16), f15, s13, v4_17))
def m_Mo_runs_B112 (a1 : Int32) (h0_offset_n : Nat) (j2_4 : Int32) (j4_12 : Int32) (s13 : Int32) (f18 : Nat → Int32) (j5_19 : Int32) : Option (((Nat → Int32) × Int32) ⊕ ((Nat → Int32))) :=
  if a1 = 0 then
    some (.inr f18)
  else
    if s13 < j5_19 then
      some (.inr f18)
    else
      if (64 : Int32) < j5_19 then
        some (.inr f18)
      else
        chk (((65 : Int32) * j4_12) + j5_19) h0_offset_n <|
        bnd (j5_19 + (1 : Int32)) fun v5_20 =>
        some (.inl ((upd f18 (((65 : Int32) * j4_12) + j5_19).toNatClampNeg j2_4), v5_20))
def m_Mo_runs_J100 (a1 : Int32) (h0_most_n : Nat) (h0_offset_n : Nat) (j2_4 : Int32) (f9 : Nat → Int32) (f10 : Nat → Int32) (j4_12 : Int32) (s13 : Int32) : Option (((Nat → Int32) × (Nat → Int32) × Int32 × Int32) ⊕ (((Nat → Int32) × (Nat → Int32)))) :=
  chk j4_12 h0_most_n <|
  bnd ((f9 j4_12.toNatClampNeg) + (1 : Int32)) fun v5_14 =>
  (iter (fun st => m_Mo_runs_B112 a1 h0_offset_n j2_4 j4_12 s13 st.1 st.2) FU (f10, v5_14)).bind fun o => m_Mo_runs_E149 h0_most_n f9 j4_12 s13 o
def m_Mo_runs_B48 (a1 : Int32) (h0_lean : Int32) (h0_most_n : Nat) (h0_text_n : Nat) (h0_text_f : Nat → Int32) (h0_offset_n : Nat) (j2_4 : Int32) (f9 : Nat → Int32) (f10 : Nat → Int32) (j3_11 : Int32) (j4_12 : Int32) : Option (((Nat → Int32) × (Nat → Int32) × Int32 × Int32) ⊕ (((Nat → Int32) × (Nat → Int32)))) :=
  if j4_12 < 0 then
    some (.inr (f9, f10))
  else
    if (h0_lean + j4_12) < j2_4 then
      some (.inr (f9, f10))
    else
      chk (h0_lean + j4_12) h0_text_n <|
      chk ((h0_lean + j4_12) - j2_4) h0_text_n <|
      if (h0_text_f (h0_lean + j4_12).toNatClampNeg) = (h0_text_f ((h0_lean + j4_12) - j2_4).toNatClampNeg) then
        m_Mo_runs_J100 a1 h0_most_n h0_offset_n j2_4 f9 f10 j4_12 (j3_11 + (1 : Int32))
      else
        m_Mo_runs_J100 a1 h0_most_n h0_offset_n j2_4 f9 f10 j4_12 (0 : Int32)
def m_Mo_runs_B25 (a1 : Int32) (h0_lean : Int32) (h0_size : Int32) (h0_most_n : Nat) (h0_text_n : Nat) (h0_text_f : Nat → Int32) (h0_offset_n : Nat) (f2 : Nat → Int32) (f3 : Nat → Int32) (j2_4 : Int32) : Option (((Nat → Int32) × (Nat → Int32) × Int32) ⊕ (((((Nat → Int32) × (Nat → Int32)))))) :=
  if (h0_lean + h0_size) ≤ j2_4 then
    some (.inr (f2, f3))
  else
    bnd (h0_size - (1 : Int32)) fun v4_5 =>
    (iter (fun st => m_Mo_runs_B48 a1 h0_lean h0_most_n h0_text_n h0_text_f h0_offset_n j2_4 st.1 st.2.1 st.2.2.1 st.2.2.2) FU (f2, f3, (0 : Int32), v4_5)).bind fun o => m_Mo_runs_E173 j2_4 o.1 o.2
def m_Mo_runs_E23 (a1 : Int32) (h0_lean : Int32) (h0_size : Int32) (h0_most_n : Nat) (h0_text_n : Nat) (h0_text_f : Nat → Int32) (h0_offset_n : Nat) (h0_offset_f : Nat → Int32) (f1 : Nat → Int32) : Option ((Nat → Int32) × (Nat → Int32)) :=
  (iter (fun st => m_Mo_runs_B25 a1 h0_lean h0_size h0_most_n h0_text_n h0_text_f h0_offset_n st.1 st.2.1 st.2.2) FU (f1, h0_offset_f, (1 : Int32))).bind fun o => some o
def m_Mo_runs_B2 (h0_size : Int32) (h0_most_n : Nat) (f21 : Nat → Int32) (j2_22 : Int32) : Option (((Nat → Int32) × Int32) ⊕ ((Nat → Int32))) :=
  if h0_size ≤ j2_22 then
    some (.inr f21)
  else
    chk j2_22 h0_most_n <|
    bnd (j2_22 + (1 : Int32)) fun v2_23 =>
    some (.inl ((upd f21 j2_22.toNatClampNeg (0 : Int32)), v2_23))
def m_Mo_runs (a1 : Int32) (h0_lean : Int32) (h0_size : Int32) (h0_most_n : Nat) (h0_most_f : Nat → Int32) (h0_text_n : Nat) (h0_text_f : Nat → Int32) (h0_offset_n : Nat) (h0_offset_f : Nat → Int32) : Option ((Nat → Int32) × (Nat → Int32)) :=
  (iter (fun st => m_Mo_runs_B2 h0_size h0_most_n st.1 st.2) FU (h0_most_f, (0 : Int32))).bind fun o => m_Mo_runs_E23 a1 h0_lean h0_size h0_most_n h0_text_n h0_text_f h0_offset_n h0_offset_f o
def rm_Mo_runs : Room := { frames := 1, cells := 0, slots := 0, locals := 21 }
set_option maxHeartbeats 4000000 in
set_option maxRecDepth 100000 in
theorem c_Mo_runs {l : Launch} {dC : Nat → ClassId} {dI : Nat → Nat → Nat} {cB cI : ClassId} {sz : Nat} {h0 : Nat} {a1 : Int32} {h0_most : Nat} {h0_text : Nat} {h0_offset : Nat} {w_h0_in : Value} {w_h0_inSize : Value} {w_h0_out : Value} {w_h0_outSize : Value} {w_h0_dict : Value} {w_h0_dictSize : Value} {w_h0_told : Value} {w_h0_fresh : Value} {w_h0_freshSize : Value} {h0_lean : Int32} {h0_size : Int32} {w_h0_copyAt : Value} {w_h0_copies : Value} {w_h0_copyLength : Value} {w_h0_copyOffset : Value} {w_h0_fromHere : Value} {w_h0_withCopy : Value} {w_h0_bestCopy : Value} {w_h0_bestLiterals : Value} {w_h0_copiesOf : Value} {w_h0_literalsOf : Value} {w_h0_partsOf : Value} {w_h0_blocks : Value} {w_h0_blockMany : Value} {w_h0_newBlocks : Value} {w_h0_newMany : Value} {w_h0_rule : Value} {w_h0_place : Value} {w_h0_at : Value} {h0_most_n : Nat} {h0_most_f : Nat → Int32} {h0_text_n : Nat} {h0_text_f : Nat → Int32} {h0_offset_n : Nat} {h0_offset_f : Nat → Int32} {o_h0_most_f : Nat → Int32} {o_h0_offset_f : Nat → Int32} (hf : m_Mo_runs a1 h0_lean h0_size h0_most_n h0_most_f h0_text_n h0_text_f h0_offset_n h0_offset_f = some (o_h0_most_f, o_h0_offset_f)) : Met l yX12_runs (Cond.code yX12_runs cX12_runs 6 none :: lw_G) rm_Mo_runs (PreC (dC, dI) [(cB, .byte), (cI, .int)] [.ref h0, .int a1] sz [(h0, .inr (10, [w_h0_in, w_h0_inSize, w_h0_out, w_h0_outSize, w_h0_dict, w_h0_dictSize, w_h0_told, w_h0_fresh, w_h0_freshSize, .ref h0_text, .int h0_lean, .int h0_size, .ref h0_most, .ref h0_offset, w_h0_copyAt, w_h0_copies, w_h0_copyLength, w_h0_copyOffset, w_h0_fromHere, w_h0_withCopy, w_h0_bestCopy, w_h0_bestLiterals, w_h0_copiesOf, w_h0_literalsOf, w_h0_partsOf, w_h0_blocks, w_h0_blockMany, w_h0_newBlocks, w_h0_newMany, w_h0_rule, w_h0_place, w_h0_at])), (h0_most, .inl (cI, h0_most_n, .inl h0_most_f)), (h0_text, .inl (cI, h0_text_n, .inl h0_text_f)), (h0_offset, .inl (cI, h0_offset_n, .inl h0_offset_f))]) (QcV (dC, dI) [(h0, .inr (10, [w_h0_in, w_h0_inSize, w_h0_out, w_h0_outSize, w_h0_dict, w_h0_dictSize, w_h0_told, w_h0_fresh, w_h0_freshSize, .ref h0_text, .int h0_lean, .int h0_size, .ref h0_most, .ref h0_offset, w_h0_copyAt, w_h0_copies, w_h0_copyLength, w_h0_copyOffset, w_h0_fromHere, w_h0_withCopy, w_h0_bestCopy, w_h0_bestLiterals, w_h0_copiesOf, w_h0_literalsOf, w_h0_partsOf, w_h0_blocks, w_h0_blockMany, w_h0_newBlocks, w_h0_newMany, w_h0_rule, w_h0_place, w_h0_at])), (h0_most, .inl (cI, h0_most_n, .inl o_h0_most_f)), (h0_text, .inl (cI, h0_text_n, .inl h0_text_f)), (h0_offset, .inl (cI, h0_offset_n, .inl o_h0_offset_f))] (va_A [(h0, .inr (10, [w_h0_in, w_h0_inSize, w_h0_out, w_h0_outSize, w_h0_dict, w_h0_dictSize, w_h0_told, w_h0_fresh, w_h0_freshSize, .ref h0_text, .int h0_lean, .int h0_size, .ref h0_most, .ref h0_offset, w_h0_copyAt, w_h0_copies, w_h0_copyLength, w_h0_copyOffset, w_h0_fromHere, w_h0_withCopy, w_h0_bestCopy, w_h0_bestLiterals, w_h0_copiesOf, w_h0_literalsOf, w_h0_partsOf, w_h0_blocks, w_h0_blockMany, w_h0_newBlocks, w_h0_newMany, w_h0_rule, w_h0_place, w_h0_at])), (h0_most, .inl (cI, h0_most_n, .inl h0_most_f)), (h0_text, .inl (cI, h0_text_n, .inl h0_text_f)), (h0_offset, .inl (cI, h0_offset_n, .inl h0_offset_f))] sz)) 0 0 (va_A [(h0, .inr (10, [w_h0_in, w_h0_inSize, w_h0_out, w_h0_outSize, w_h0_dict, w_h0_dictSize, w_h0_told, w_h0_fresh, w_h0_freshSize, .ref h0_text, .int h0_lean, .int h0_size, .ref h0_most, .ref h0_offset, w_h0_copyAt, w_h0_copies, w_h0_copyLength, w_h0_copyOffset, w_h0_fromHere, w_h0_withCopy, w_h0_bestCopy, w_h0_bestLiterals, w_h0_copiesOf, w_h0_literalsOf, w_h0_partsOf, w_h0_blocks, w_h0_blockMany, w_h0_newBlocks, w_h0_newMany, w_h0_rule, w_h0_place, w_h0_at])), (h0_most, .inl (cI, h0_most_n, .inl h0_most_f)), (h0_text, .inl (cI, h0_text_n, .inl h0_text_f)), (h0_offset, .inl (cI, h0_offset_n, .inl h0_offset_f))] sz) := by
  refine met_of (Qf := fun A => QcV (dC, dI) [(h0, .inr (10, [w_h0_in, w_h0_inSize, w_h0_out, w_h0_outSize, w_h0_dict, w_h0_dictSize, w_h0_told, w_h0_fresh, w_h0_freshSize, .ref h0_text, .int h0_lean, .int h0_size, .ref h0_most, .ref h0_offset, w_h0_copyAt, w_h0_copies, w_h0_copyLength, w_h0_copyOffset, w_h0_fromHere, w_h0_withCopy, w_h0_bestCopy, w_h0_bestLiterals, w_h0_copiesOf, w_h0_literalsOf, w_h0_partsOf, w_h0_blocks, w_h0_blockMany, w_h0_newBlocks, w_h0_newMany, w_h0_rule, w_h0_place, w_h0_at])), (h0_most, .inl (cI, h0_most_n, .inl o_h0_most_f)), (h0_text, .inl (cI, h0_text_n, .inl h0_text_f)), (h0_offset, .inl (cI, h0_offset_n, .inl o_h0_offset_f))] A) (by decide) (Nat.le_of_ble_eq_true rfl) ?_
  intro p e s m below meth c A ls Q hx hb hr hml hown hts hlocks hnm hP hK hD hN hT hA hl hQ
  have hown : s.vm.findClass RX12 = some m.cls := hown
  have hS : va_S A s.heap s.heap [] := va_S.rf
  have hl : lv_has ls 6 [(0, .ref h0), (1, .int a1)] := hl
  unfold m_Mo_runs at hf
  refine lv_iconst (v := 0) hx hb dX12_runs_0 (by decide) ?_
  refine lv_istore_n (lv' := [(2, .int (0 : Int32)), (0, .ref h0), (1, .int a1)]) hx hb dX12_runs_1 rfl hl (by decide) rfl (fun ls hl => ?_)
  have hJ_23 : ∀ (f1 : Nat → Int32) (H : Heap) (locs : List Loc) (ls : Array Slot), m_Mo_runs_E23 a1 h0_lean h0_size h0_most_n h0_text_n h0_text_f h0_offset_n h0_offset_f f1 = some (o_h0_most_f, o_h0_offset_f) → va_P (dC, dI) vwCl [(h0, .inr (10, [w_h0_in, w_h0_inSize, w_h0_out, w_h0_outSize, w_h0_dict, w_h0_dictSize, w_h0_told, w_h0_fresh, w_h0_freshSize, .ref h0_text, .int h0_lean, .int h0_size, .ref h0_most, .ref h0_offset, w_h0_copyAt, w_h0_copies, w_h0_copyLength, w_h0_copyOffset, w_h0_fromHere, w_h0_withCopy, w_h0_bestCopy, w_h0_bestLiterals, w_h0_copiesOf, w_h0_literalsOf, w_h0_partsOf, w_h0_blocks, w_h0_blockMany, w_h0_newBlocks, w_h0_newMany, w_h0_rule, w_h0_place, w_h0_at])), (h0_most, .inl (cI, h0_most_n, .inl f1)), (h0_text, .inl (cI, h0_text_n, .inl h0_text_f)), (h0_offset, .inl (cI, h0_offset_n, .inl h0_offset_f))] H → va_D A [(h0, .inr (10, [w_h0_in, w_h0_inSize, w_h0_out, w_h0_outSize, w_h0_dict, w_h0_dictSize, w_h0_told, w_h0_fresh, w_h0_freshSize, .ref h0_text, .int h0_lean, .int h0_size, .ref h0_most, .ref h0_offset, w_h0_copyAt, w_h0_copies, w_h0_copyLength, w_h0_copyOffset, w_h0_fromHere, w_h0_withCopy, w_h0_bestCopy, w_h0_bestLiterals, w_h0_copiesOf, w_h0_literalsOf, w_h0_partsOf, w_h0_blocks, w_h0_blockMany, w_h0_newBlocks, w_h0_newMany, w_h0_rule, w_h0_place, w_h0_at])), (h0_most, .inl (cI, h0_most_n, .inl f1)), (h0_text, .inl (cI, h0_text_n, .inl h0_text_f)), (h0_offset, .inl (cI, h0_offset_n, .inl h0_offset_f))] → va_S A s.heap H locs → lv_has ls 6 [(0, .ref h0), (1, .int a1)] → W p l e (rm_Mo_runs) s m ([.ref h0, .int a1] : List Value).toArray below meth c H locs 0 0 Q (F0 m 23 ls []) := by
    intro f1 H locs ls hf hP hD hS hl
    unfold m_Mo_runs_E23 at hf
    refine lv_iconst (v := 1) hx hb dX12_runs_23 (by decide) ?_
    refine lv_istore_n (lv' := [(2, .int (1 : Int32)), (0, .ref h0), (1, .int a1)]) hx hb dX12_runs_24 rfl hl (by decide) rfl (fun ls hl => ?_)
    obtain ⟨o_25, hi_25, hk_25⟩ := bind_some hf
    have hL_25 : ∀ (n : Nat) (f2 : Nat → Int32) (f3 : Nat → Int32) (j2_4 : Int32) (H : Heap) (locs : List Loc) (ls : Array Slot), iter (fun st => m_Mo_runs_B25 a1 h0_lean h0_size h0_most_n h0_text_n h0_text_f h0_offset_n st.1 st.2.1 st.2.2) n (f2, f3, j2_4) = some o_25 → va_P (dC, dI) vwCl [(h0, .inr (10, [w_h0_in, w_h0_inSize, w_h0_out, w_h0_outSize, w_h0_dict, w_h0_dictSize, w_h0_told, w_h0_fresh, w_h0_freshSize, .ref h0_text, .int h0_lean, .int h0_size, .ref h0_most, .ref h0_offset, w_h0_copyAt, w_h0_copies, w_h0_copyLength, w_h0_copyOffset, w_h0_fromHere, w_h0_withCopy, w_h0_bestCopy, w_h0_bestLiterals, w_h0_copiesOf, w_h0_literalsOf, w_h0_partsOf, w_h0_blocks, w_h0_blockMany, w_h0_newBlocks, w_h0_newMany, w_h0_rule, w_h0_place, w_h0_at])), (h0_most, .inl (cI, h0_most_n, .inl f2)), (h0_text, .inl (cI, h0_text_n, .inl h0_text_f)), (h0_offset, .inl (cI, h0_offset_n, .inl f3))] H → va_D A [(h0, .inr (10, [w_h0_in, w_h0_inSize, w_h0_out, w_h0_outSize, w_h0_dict, w_h0_dictSize, w_h0_told, w_h0_fresh, w_h0_freshSize, .ref h0_text, .int h0_lean, .int h0_size, .ref h0_most, .ref h0_offset, w_h0_copyAt, w_h0_copies, w_h0_copyLength, w_h0_copyOffset, w_h0_fromHere, w_h0_withCopy, w_h0_bestCopy, w_h0_bestLiterals, w_h0_copiesOf, w_h0_literalsOf, w_h0_partsOf, w_h0_blocks, w_h0_blockMany, w_h0_newBlocks, w_h0_newMany, w_h0_rule, w_h0_place, w_h0_at])), (h0_most, .inl (cI, h0_most_n, .inl f2)), (h0_text, .inl (cI, h0_text_n, .inl h0_text_f)), (h0_offset, .inl (cI, h0_offset_n, .inl f3))] → va_S A s.heap H locs → lv_has ls 6 [(0, .ref h0), (1, .int a1), (2, .int j2_4)] → W p l e (rm_Mo_runs) s m ([.ref h0, .int a1] : List Value).toArray below meth c H locs 0 0 Q (F0 m 25 ls []) := by
      intro n
      induction n with
      | zero => intro f2 f3 j2_4 H locs ls hf; exact absurd hf (fun z => by cases z)
      | succ n ih_25 =>
        intro f2 f3 j2_4 H locs ls hf hP hD hS hl
        obtain ⟨r_25, hf, hr_25⟩ := iter_succ hf
        have hf : m_Mo_runs_B25 a1 h0_lean h0_size h0_most_n h0_text_n h0_text_f h0_offset_n f2 f3 j2_4 = some r_25 := hf
        unfold m_Mo_runs_B25 at hf
        refine lv_iload_n hx hb dX12_runs_25 rfl (lv_at hl 2 rfl) ?_
        refine lv_aload_n hx hb dX12_runs_26 rfl (lv_at hl 0 rfl) ?_
        refine va_get (D := (dC, dI)) (ci := 10) (v := .int h0_lean) (C := RX12) (T := TX12) (N := 32) hx hb hts inG_X12 hown hK hP 0 rfl rfl 10 (by decide) (hts _ kw_1062) (fun _ h9 => h9) rfl dX12_runs_27 ?_
        refine lv_aload_n hx hb dX12_runs_30 rfl (lv_at hl 0 rfl) ?_
        refine va_get (D := (dC, dI)) (ci := 10) (v := .int h0_size) (C := RX12) (T := TX12) (N := 32) hx hb hts inG_X12 hown hK hP 0 rfl rfl 11 (by decide) (hts _ kw_1063) (fun _ h9 => h9) rfl dX12_runs_31 ?_
        refine lv_iadd hx hb dX12_runs_34 ?_
        refine lv_icmp_ge (tgt := 179) hx hb dX12_runs_35 (by decide) (fun c_35 => ?_) (fun c_35 => ?_)
        · replace hf := if_t c_35 hf
          replace hf : some (f2, f3) = some (o_h0_most_f, o_h0_offset_f) := by have hq := hk_25; rw [iter_exit hf hr_25] at hq; exact hq
          obtain ⟨rfl, hq_1⟩ := Prod.mk.inj (Option.some.inj hf)
          obtain rfl := hq_1
          exact rt_v hQ hx hb hr hlocks hP hD hS dX12_runs_179
        · replace hf := if_f c_35 hf
          refine lv_iconst (v := 0) hx hb dX12_runs_38 (by decide) ?_
          refine lv_istore_n (lv' := [(3, .int (0 : Int32)), (0, .ref h0), (1, .int a1), (2, .int j2_4)]) hx hb dX12_runs_39 rfl hl (by decide) rfl (fun ls hl => ?_)
          refine lv_aload_n hx hb dX12_runs_40 rfl (lv_at hl 1 rfl) ?_
          refine va_get (D := (dC, dI)) (ci := 10) (v := .int h0_size) (C := RX12) (T := TX12) (N := 32) hx hb hts inG_X12 hown hK hP 0 rfl rfl 11 (by decide) (hts _ kw_1063) (fun _ h9 => h9) rfl dX12_runs_41 ?_
          refine lv_iconst (v := 1) hx hb dX12_runs_44 (by decide) ?_
          refine lv_isub hx hb dX12_runs_45 ?_
          refine lv_topi (fun v4_5 e_v4_5 => ?_)
          replace hf := bnd_at e_v4_5 hf
          refine lv_istore (lv' := [(4, .int v4_5), (3, .int (0 : Int32)), (0, .ref h0), (1, .int a1), (2, .int j2_4)]) hx hb dX12_runs_46 hl (by decide) rfl (fun ls hl => ?_)
          have hJ_173 : ∀ (f6 : Nat → Int32) (f7 : Nat → Int32) (H : Heap) (locs : List Loc) (ls : Array Slot), m_Mo_runs_E173 j2_4 f6 f7 = some r_25 → va_P (dC, dI) vwCl [(h0, .inr (10, [w_h0_in, w_h0_inSize, w_h0_out, w_h0_outSize, w_h0_dict, w_h0_dictSize, w_h0_told, w_h0_fresh, w_h0_freshSize, .ref h0_text, .int h0_lean, .int h0_size, .ref h0_most, .ref h0_offset, w_h0_copyAt, w_h0_copies, w_h0_copyLength, w_h0_copyOffset, w_h0_fromHere, w_h0_withCopy, w_h0_bestCopy, w_h0_bestLiterals, w_h0_copiesOf, w_h0_literalsOf, w_h0_partsOf, w_h0_blocks, w_h0_blockMany, w_h0_newBlocks, w_h0_newMany, w_h0_rule, w_h0_place, w_h0_at])), (h0_most, .inl (cI, h0_most_n, .inl f6)), (h0_text, .inl (cI, h0_text_n, .inl h0_text_f)), (h0_offset, .inl (cI, h0_offset_n, .inl f7))] H → va_D A [(h0, .inr (10, [w_h0_in, w_h0_inSize, w_h0_out, w_h0_outSize, w_h0_dict, w_h0_dictSize, w_h0_told, w_h0_fresh, w_h0_freshSize, .ref h0_text, .int h0_lean, .int h0_size, .ref h0_most, .ref h0_offset, w_h0_copyAt, w_h0_copies, w_h0_copyLength, w_h0_copyOffset, w_h0_fromHere, w_h0_withCopy, w_h0_bestCopy, w_h0_bestLiterals, w_h0_copiesOf, w_h0_literalsOf, w_h0_partsOf, w_h0_blocks, w_h0_blockMany, w_h0_newBlocks, w_h0_newMany, w_h0_rule, w_h0_place, w_h0_at])), (h0_most, .inl (cI, h0_most_n, .inl f6)), (h0_text, .inl (cI, h0_text_n, .inl h0_text_f)), (h0_offset, .inl (cI, h0_offset_n, .inl f7))] → va_S A s.heap H locs → lv_has ls 6 [(0, .ref h0), (1, .int a1), (2, .int j2_4)] → W p l e (rm_Mo_runs) s m ([.ref h0, .int a1] : List Value).toArray below meth c H locs 0 0 Q (F0 m 173 ls []) := by
            intro f6 f7 H locs ls hf hP hD hS hl
            unfold m_Mo_runs_E173 at hf
            obtain ⟨v2_8, e_v2_8⟩ : ∃ y : Int32, y = (j2_4 + (1 : Int32)) := ⟨_, rfl⟩
            replace hf := bnd_at e_v2_8 hf
            refine lv_iinc (v := v2_8) (lv' := [(2, .int v2_8), (0, .ref h0), (1, .int a1)]) hx hb dX12_runs_173 hl (k := 2) rfl (by rw [e_v2_8]; rfl) (by decide) rfl (fun ls hl => ?_)
            refine lv_goto (tgt := 25) hx hb dX12_runs_176 (by decide) ?_
            exact ih_25 f6 f7 v2_8 _ _ _ (iter_back hf hr_25) hP hD hS (lv_sub hl [1, 2, 0] rfl)
          obtain ⟨o_48, hi_48, hk_48⟩ := bind_some hf
          have hL_48 : ∀ (n : Nat) (f9 : Nat → Int32) (f10 : Nat → Int32) (j3_11 : Int32) (j4_12 : Int32) (H : Heap) (locs : List Loc) (ls : Array Slot), iter (fun st => m_Mo_runs_B48 a1 h0_lean h0_most_n h0_text_n h0_text_f h0_offset_n j2_4 st.1 st.2.1 st.2.2.1 st.2.2.2) n (f9, f10, j3_11, j4_12) = some o_48 → va_P (dC, dI) vwCl [(h0, .inr (10, [w_h0_in, w_h0_inSize, w_h0_out, w_h0_outSize, w_h0_dict, w_h0_dictSize, w_h0_told, w_h0_fresh, w_h0_freshSize, .ref h0_text, .int h0_lean, .int h0_size, .ref h0_most, .ref h0_offset, w_h0_copyAt, w_h0_copies, w_h0_copyLength, w_h0_copyOffset, w_h0_fromHere, w_h0_withCopy, w_h0_bestCopy, w_h0_bestLiterals, w_h0_copiesOf, w_h0_literalsOf, w_h0_partsOf, w_h0_blocks, w_h0_blockMany, w_h0_newBlocks, w_h0_newMany, w_h0_rule, w_h0_place, w_h0_at])), (h0_most, .inl (cI, h0_most_n, .inl f9)), (h0_text, .inl (cI, h0_text_n, .inl h0_text_f)), (h0_offset, .inl (cI, h0_offset_n, .inl f10))] H → va_D A [(h0, .inr (10, [w_h0_in, w_h0_inSize, w_h0_out, w_h0_outSize, w_h0_dict, w_h0_dictSize, w_h0_told, w_h0_fresh, w_h0_freshSize, .ref h0_text, .int h0_lean, .int h0_size, .ref h0_most, .ref h0_offset, w_h0_copyAt, w_h0_copies, w_h0_copyLength, w_h0_copyOffset, w_h0_fromHere, w_h0_withCopy, w_h0_bestCopy, w_h0_bestLiterals, w_h0_copiesOf, w_h0_literalsOf, w_h0_partsOf, w_h0_blocks, w_h0_blockMany, w_h0_newBlocks, w_h0_newMany, w_h0_rule, w_h0_place, w_h0_at])), (h0_most, .inl (cI, h0_most_n, .inl f9)), (h0_text, .inl (cI, h0_text_n, .inl h0_text_f)), (h0_offset, .inl (cI, h0_offset_n, .inl f10))] → va_S A s.heap H locs → lv_has ls 6 [(0, .ref h0), (1, .int a1), (2, .int j2_4), (3, .int j3_11), (4, .int j4_12)] → W p l e (rm_Mo_runs) s m ([.ref h0, .int a1] : List Value).toArray below meth c H locs 0 0 Q (F0 m 48 ls []) := by
            intro n
            induction n with
            | zero => intro f9 f10 j3_11 j4_12 H locs ls hf; exact absurd hf (fun z => by cases z)
            | succ n ih_48 =>
              intro f9 f10 j3_11 j4_12 H locs ls hf hP hD hS hl
              obtain ⟨r_48, hf, hr_48⟩ := iter_succ hf
              have hf : m_Mo_runs_B48 a1 h0_lean h0_most_n h0_text_n h0_text_f h0_offset_n j2_4 f9 f10 j3_11 j4_12 = some r_48 := hf
              unfold m_Mo_runs_B48 at hf
              refine lv_iload hx hb dX12_runs_48 (lv_at hl 4 rfl) ?_
              refine lv_if_lt (tgt := 173) hx hb dX12_runs_50 (by decide) (fun c_50 => ?_) (fun c_50 => ?_)
              · replace hf := if_t c_50 hf
                have hf : m_Mo_runs_E173 j2_4 f9 f10 = some r_25 := by have hq := hk_48; rw [iter_exit hf hr_48] at hq; exact hq
                exact hJ_173 f9 f10 _ _ _ hf hP hD hS (lv_sub hl [0, 1, 2] rfl)
              · replace hf := if_f c_50 hf
                refine lv_aload_n hx hb dX12_runs_53 rfl (lv_at hl 0 rfl) ?_
                refine va_get (D := (dC, dI)) (ci := 10) (v := .int h0_lean) (C := RX12) (T := TX12) (N := 32) hx hb hts inG_X12 hown hK hP 0 rfl rfl 10 (by decide) (hts _ kw_1062) (fun _ h9 => h9) rfl dX12_runs_54 ?_
                refine lv_iload hx hb dX12_runs_57 (lv_at hl 4 rfl) ?_
                refine lv_iadd hx hb dX12_runs_59 ?_
                refine lv_iload_n hx hb dX12_runs_60 rfl (lv_at hl 2 rfl) ?_
                refine lv_icmp_lt (tgt := 173) hx hb dX12_runs_61 (by decide) (fun c_61 => ?_) (fun c_61 => ?_)
                · replace hf := if_t c_61 hf
                  have hf : m_Mo_runs_E173 j2_4 f9 f10 = some r_25 := by have hq := hk_48; rw [iter_exit hf hr_48] at hq; exact hq
                  exact hJ_173 f9 f10 _ _ _ hf hP hD hS (lv_sub hl [0, 1, 2] rfl)
                · replace hf := if_f c_61 hf
                  refine lv_aload_n hx hb dX12_runs_64 rfl (lv_at hl 0 rfl) ?_
                  refine va_get (D := (dC, dI)) (ci := 10) (v := .ref h0_text) (C := RX12) (T := TX12) (N := 32) hx hb hts inG_X12 hown hK hP 0 rfl rfl 9 (by decide) (hts _ kw_1061) (fun _ h9 => h9) rfl dX12_runs_65 ?_
                  refine lv_aload_n hx hb dX12_runs_68 rfl (lv_at hl 0 rfl) ?_
                  refine va_get (D := (dC, dI)) (ci := 10) (v := .int h0_lean) (C := RX12) (T := TX12) (N := 32) hx hb hts inG_X12 hown hK hP 0 rfl rfl 10 (by decide) (hts _ kw_1062) (fun _ h9 => h9) rfl dX12_runs_69 ?_
                  refine lv_iload hx hb dX12_runs_72 (lv_at hl 4 rfl) ?_
                  refine lv_iadd hx hb dX12_runs_74 ?_
                  obtain ⟨hin, hf⟩ := chk_some hf
                  refine va_iald hx hb hK hP 2 1 rfl rfl hin dX12_runs_75 ?_
                  refine lv_aload_n hx hb dX12_runs_76 rfl (lv_at hl 0 rfl) ?_
                  refine va_get (D := (dC, dI)) (ci := 10) (v := .ref h0_text) (C := RX12) (T := TX12) (N := 32) hx hb hts inG_X12 hown hK hP 0 rfl rfl 9 (by decide) (hts _ kw_1061) (fun _ h9 => h9) rfl dX12_runs_77 ?_
                  refine lv_aload_n hx hb dX12_runs_80 rfl (lv_at hl 0 rfl) ?_
                  refine va_get (D := (dC, dI)) (ci := 10) (v := .int h0_lean) (C := RX12) (T := TX12) (N := 32) hx hb hts inG_X12 hown hK hP 0 rfl rfl 10 (by decide) (hts _ kw_1062) (fun _ h9 => h9) rfl dX12_runs_81 ?_
                  refine lv_iload hx hb dX12_runs_84 (lv_at hl 4 rfl) ?_
                  refine lv_iadd hx hb dX12_runs_86 ?_
                  refine lv_iload_n hx hb dX12_runs_87 rfl (lv_at hl 2 rfl) ?_
                  refine lv_isub hx hb dX12_runs_88 ?_
                  obtain ⟨hin, hf⟩ := chk_some hf
                  refine va_iald hx hb hK hP 2 1 rfl rfl hin dX12_runs_89 ?_
                  have hJ_100 : ∀ (s13 : Int32) (H : Heap) (locs : List Loc) (ls : Array Slot), m_Mo_runs_J100 a1 h0_most_n h0_offset_n j2_4 f9 f10 j4_12 s13 = some r_48 → va_P (dC, dI) vwCl [(h0, .inr (10, [w_h0_in, w_h0_inSize, w_h0_out, w_h0_outSize, w_h0_dict, w_h0_dictSize, w_h0_told, w_h0_fresh, w_h0_freshSize, .ref h0_text, .int h0_lean, .int h0_size, .ref h0_most, .ref h0_offset, w_h0_copyAt, w_h0_copies, w_h0_copyLength, w_h0_copyOffset, w_h0_fromHere, w_h0_withCopy, w_h0_bestCopy, w_h0_bestLiterals, w_h0_copiesOf, w_h0_literalsOf, w_h0_partsOf, w_h0_blocks, w_h0_blockMany, w_h0_newBlocks, w_h0_newMany, w_h0_rule, w_h0_place, w_h0_at])), (h0_most, .inl (cI, h0_most_n, .inl f9)), (h0_text, .inl (cI, h0_text_n, .inl h0_text_f)), (h0_offset, .inl (cI, h0_offset_n, .inl f10))] H → va_D A [(h0, .inr (10, [w_h0_in, w_h0_inSize, w_h0_out, w_h0_outSize, w_h0_dict, w_h0_dictSize, w_h0_told, w_h0_fresh, w_h0_freshSize, .ref h0_text, .int h0_lean, .int h0_size, .ref h0_most, .ref h0_offset, w_h0_copyAt, w_h0_copies, w_h0_copyLength, w_h0_copyOffset, w_h0_fromHere, w_h0_withCopy, w_h0_bestCopy, w_h0_bestLiterals, w_h0_copiesOf, w_h0_literalsOf, w_h0_partsOf, w_h0_blocks, w_h0_blockMany, w_h0_newBlocks, w_h0_newMany, w_h0_rule, w_h0_place, w_h0_at])), (h0_most, .inl (cI, h0_most_n, .inl f9)), (h0_text, .inl (cI, h0_text_n, .inl h0_text_f)), (h0_offset, .inl (cI, h0_offset_n, .inl f10))] → va_S A s.heap H locs → lv_has ls 6 [(0, .ref h0), (1, .int a1), (2, .int j2_4), (4, .int j4_12)] → W p l e (rm_Mo_runs) s m ([.ref h0, .int a1] : List Value).toArray below meth c H locs 0 0 Q (F0 m 100 ls [.int s13]) := by
                    intro s13 H locs ls hf hP hD hS hl
                    unfold m_Mo_runs_J100 at hf
                    refine lv_istore_n (lv' := [(3, .int s13), (0, .ref h0), (1, .int a1), (2, .int j2_4), (4, .int j4_12)]) hx hb dX12_runs_100 rfl hl (by decide) rfl (fun ls hl => ?_)
                    refine lv_aload_n hx hb dX12_runs_101 rfl (lv_at hl 1 rfl) ?_
                    refine va_get (D := (dC, dI)) (ci := 10) (v := .ref h0_most) (C := RX12) (T := TX12) (N := 32) hx hb hts inG_X12 hown hK hP 0 rfl rfl 12 (by decide) (hts _ kw_1064) (fun _ h9 => h9) rfl dX12_runs_102 ?_
                    refine lv_iload hx hb dX12_runs_105 (lv_at hl 4 rfl) ?_
                    obtain ⟨hin, hf⟩ := chk_some hf
                    refine va_iald hx hb hK hP 1 1 rfl rfl hin dX12_runs_107 ?_
                    refine lv_iconst (v := 1) hx hb dX12_runs_108 (by decide) ?_
                    refine lv_iadd hx hb dX12_runs_109 ?_
                    refine lv_topi (fun v5_14 e_v5_14 => ?_)
                    replace hf := bnd_at e_v5_14 hf
                    refine lv_istore (lv' := [(5, .int v5_14), (3, .int s13), (0, .ref h0), (1, .int a1), (2, .int j2_4), (4, .int j4_12)]) hx hb dX12_runs_110 hl (by decide) rfl (fun ls hl => ?_)
                    have hJ_149 : ∀ (f15 : Nat → Int32) (H : Heap) (locs : List Loc) (ls : Array Slot), m_Mo_runs_E149 h0_most_n f9 j4_12 s13 f15 = some r_48 → va_P (dC, dI) vwCl [(h0, .inr (10, [w_h0_in, w_h0_inSize, w_h0_out, w_h0_outSize, w_h0_dict, w_h0_dictSize, w_h0_told, w_h0_fresh, w_h0_freshSize, .ref h0_text, .int h0_lean, .int h0_size, .ref h0_most, .ref h0_offset, w_h0_copyAt, w_h0_copies, w_h0_copyLength, w_h0_copyOffset, w_h0_fromHere, w_h0_withCopy, w_h0_bestCopy, w_h0_bestLiterals, w_h0_copiesOf, w_h0_literalsOf, w_h0_partsOf, w_h0_blocks, w_h0_blockMany, w_h0_newBlocks, w_h0_newMany, w_h0_rule, w_h0_place, w_h0_at])), (h0_most, .inl (cI, h0_most_n, .inl f9)), (h0_text, .inl (cI, h0_text_n, .inl h0_text_f)), (h0_offset, .inl (cI, h0_offset_n, .inl f15))] H → va_D A [(h0, .inr (10, [w_h0_in, w_h0_inSize, w_h0_out, w_h0_outSize, w_h0_dict, w_h0_dictSize, w_h0_told, w_h0_fresh, w_h0_freshSize, .ref h0_text, .int h0_lean, .int h0_size, .ref h0_most, .ref h0_offset, w_h0_copyAt, w_h0_copies, w_h0_copyLength, w_h0_copyOffset, w_h0_fromHere, w_h0_withCopy, w_h0_bestCopy, w_h0_bestLiterals, w_h0_copiesOf, w_h0_literalsOf, w_h0_partsOf, w_h0_blocks, w_h0_blockMany, w_h0_newBlocks, w_h0_newMany, w_h0_rule, w_h0_place, w_h0_at])), (h0_most, .inl (cI, h0_most_n, .inl f9)), (h0_text, .inl (cI, h0_text_n, .inl h0_text_f)), (h0_offset, .inl (cI, h0_offset_n, .inl f15))] → va_S A s.heap H locs → lv_has ls 6 [(0, .ref h0), (1, .int a1), (2, .int j2_4), (3, .int s13), (4, .int j4_12)] → W p l e (rm_Mo_runs) s m ([.ref h0, .int a1] : List Value).toArray below meth c H locs 0 0 Q (F0 m 149 ls []) := by
                      intro f15 H locs ls hf hP hD hS hl
                      unfold m_Mo_runs_E149 at hf
                      refine lv_aload_n hx hb dX12_runs_149 rfl (lv_at hl 0 rfl) ?_
                      refine va_get (D := (dC, dI)) (ci := 10) (v := .ref h0_most) (C := RX12) (T := TX12) (N := 32) hx hb hts inG_X12 hown hK hP 0 rfl rfl 12 (by decide) (hts _ kw_1064) (fun _ h9 => h9) rfl dX12_runs_150 ?_
                      refine lv_iload hx hb dX12_runs_153 (lv_at hl 4 rfl) ?_
                      refine lv_aload_n hx hb dX12_runs_155 rfl (lv_at hl 0 rfl) ?_
                      refine va_get (D := (dC, dI)) (ci := 10) (v := .ref h0_most) (C := RX12) (T := TX12) (N := 32) hx hb hts inG_X12 hown hK hP 0 rfl rfl 12 (by decide) (hts _ kw_1064) (fun _ h9 => h9) rfl dX12_runs_156 ?_
                      refine lv_iload hx hb dX12_runs_159 (lv_at hl 4 rfl) ?_
                      obtain ⟨hin, hf⟩ := chk_some hf
                      refine va_iald hx hb hK hP 1 1 rfl rfl hin dX12_runs_161 ?_
                      refine lv_iload_n hx hb dX12_runs_162 rfl (lv_at hl 3 rfl) ?_
                      obtain ⟨r16, hc, hf⟩ := bind_some hf
                      refine nx_i (rn_S (As := [.int (f9 j4_12.toNatClampNeg), .int s13]) (rest := [.int j4_12, .ref h0_most]) (n := 2) ⟨hx, hb, hml, hown, hts⟩ (c_Mo_great (l := l) (dC := dC) (dI := dI) (cB := cB) (cI := cI) (a0 := (f9 j4_12.toNatClampNeg)) (a1 := s13)  (o_r := r16) hc) (wS kw_1244 kw_1245 kw_94 kw_1246) (by decide +kernel) ⟨Nat.le_of_ble_eq_true rfl, Nat.le_of_ble_eq_true rfl⟩ hK hP hD hN hT hS (va_free (wc := []) hD hS hA [] rfl) [] rfl (by decide) rfl hl.1 rfl (lv_room (Nat.le_of_ble_eq_true rfl)) dX12_runs_163 ⟨Nat.le_of_ble_eq_true rfl, Nat.le_of_ble_eq_true rfl⟩) hP hD hS hA (wr := [(h0, .inr (10, [w_h0_in, w_h0_inSize, w_h0_out, w_h0_outSize, w_h0_dict, w_h0_dictSize, w_h0_told, w_h0_fresh, w_h0_freshSize, .ref h0_text, .int h0_lean, .int h0_size, .ref h0_most, .ref h0_offset, w_h0_copyAt, w_h0_copies, w_h0_copyLength, w_h0_copyOffset, w_h0_fromHere, w_h0_withCopy, w_h0_bestCopy, w_h0_bestLiterals, w_h0_copiesOf, w_h0_literalsOf, w_h0_partsOf, w_h0_blocks, w_h0_blockMany, w_h0_newBlocks, w_h0_newMany, w_h0_rule, w_h0_place, w_h0_at])), (h0_most, .inl (cI, h0_most_n, .inl f9)), (h0_text, .inl (cI, h0_text_n, .inl h0_text_f)), (h0_offset, .inl (cI, h0_offset_n, .inl f15))]) (w1 := []) (ws' := [(h0, .inr (10, [w_h0_in, w_h0_inSize, w_h0_out, w_h0_outSize, w_h0_dict, w_h0_dictSize, w_h0_told, w_h0_fresh, w_h0_freshSize, .ref h0_text, .int h0_lean, .int h0_size, .ref h0_most, .ref h0_offset, w_h0_copyAt, w_h0_copies, w_h0_copyLength, w_h0_copyOffset, w_h0_fromHere, w_h0_withCopy, w_h0_bestCopy, w_h0_bestLiterals, w_h0_copiesOf, w_h0_literalsOf, w_h0_partsOf, w_h0_blocks, w_h0_blockMany, w_h0_newBlocks, w_h0_newMany, w_h0_rule, w_h0_place, w_h0_at])), (h0_most, .inl (cI, h0_most_n, .inl f9)), (h0_text, .inl (cI, h0_text_n, .inl h0_text_f)), (h0_offset, .inl (cI, h0_offset_n, .inl f15))]) [] [0, 1, 2, 3] [0, 1, 2, 3] rfl rfl (by decide) (by decide) rfl (by decide) (fun H locs hP hD hS => ?_)
                      obtain ⟨hin, hf⟩ := chk_some hf
                      refine va_iast hx hb hK hP hD hS 1 1 rfl rfl hin dX12_runs_166 (fun H locs hP hD hS => ?_)
                      have hP : va_P (dC, dI) vwCl [(h0, .inr (10, [w_h0_in, w_h0_inSize, w_h0_out, w_h0_outSize, w_h0_dict, w_h0_dictSize, w_h0_told, w_h0_fresh, w_h0_freshSize, .ref h0_text, .int h0_lean, .int h0_size, .ref h0_most, .ref h0_offset, w_h0_copyAt, w_h0_copies, w_h0_copyLength, w_h0_copyOffset, w_h0_fromHere, w_h0_withCopy, w_h0_bestCopy, w_h0_bestLiterals, w_h0_copiesOf, w_h0_literalsOf, w_h0_partsOf, w_h0_blocks, w_h0_blockMany, w_h0_newBlocks, w_h0_newMany, w_h0_rule, w_h0_place, w_h0_at])), (h0_most, .inl (cI, h0_most_n, .inl (upd f9 j4_12.toNatClampNeg r16))), (h0_text, .inl (cI, h0_text_n, .inl h0_text_f)), (h0_offset, .inl (cI, h0_offset_n, .inl f15))] H := hP
                      have hD : va_D A [(h0, .inr (10, [w_h0_in, w_h0_inSize, w_h0_out, w_h0_outSize, w_h0_dict, w_h0_dictSize, w_h0_told, w_h0_fresh, w_h0_freshSize, .ref h0_text, .int h0_lean, .int h0_size, .ref h0_most, .ref h0_offset, w_h0_copyAt, w_h0_copies, w_h0_copyLength, w_h0_copyOffset, w_h0_fromHere, w_h0_withCopy, w_h0_bestCopy, w_h0_bestLiterals, w_h0_copiesOf, w_h0_literalsOf, w_h0_partsOf, w_h0_blocks, w_h0_blockMany, w_h0_newBlocks, w_h0_newMany, w_h0_rule, w_h0_place, w_h0_at])), (h0_most, .inl (cI, h0_most_n, .inl (upd f9 j4_12.toNatClampNeg r16))), (h0_text, .inl (cI, h0_text_n, .inl h0_text_f)), (h0_offset, .inl (cI, h0_offset_n, .inl f15))] := hD
                      obtain ⟨v4_17, e_v4_17⟩ : ∃ y : Int32, y = (j4_12 + (-1 : Int32)) := ⟨_, rfl⟩
                      replace hf := bnd_at e_v4_17 hf
                      refine lv_iinc (v := v4_17) (lv' := [(4, .int v4_17), (0, .ref h0), (1, .int a1), (2, .int j2_4), (3, .int s13)]) hx hb dX12_runs_167 hl (k := 4) rfl (by rw [e_v4_17]; rfl) (by decide) rfl (fun ls hl => ?_)
                      refine lv_goto (tgt := 48) hx hb dX12_runs_170 (by decide) ?_
                      exact ih_48 (upd f9 j4_12.toNatClampNeg r16) f15 s13 v4_17 _ _ _ (iter_back hf hr_48) hP hD hS (lv_sub hl [1, 2, 3, 4, 0] rfl)
                    obtain ⟨o_112, hi_112, hk_112⟩ := bind_some hf
                    have hL_112 : ∀ (n : Nat) (f18 : Nat → Int32) (j5_19 : Int32) (H : Heap) (locs : List Loc) (ls : Array Slot), iter (fun st => m_Mo_runs_B112 a1 h0_offset_n j2_4 j4_12 s13 st.1 st.2) n (f18, j5_19) = some o_112 → va_P (dC, dI) vwCl [(h0, .inr (10, [w_h0_in, w_h0_inSize, w_h0_out, w_h0_outSize, w_h0_dict, w_h0_dictSize, w_h0_told, w_h0_fresh, w_h0_freshSize, .ref h0_text, .int h0_lean, .int h0_size, .ref h0_most, .ref h0_offset, w_h0_copyAt, w_h0_copies, w_h0_copyLength, w_h0_copyOffset, w_h0_fromHere, w_h0_withCopy, w_h0_bestCopy, w_h0_bestLiterals, w_h0_copiesOf, w_h0_literalsOf, w_h0_partsOf, w_h0_blocks, w_h0_blockMany, w_h0_newBlocks, w_h0_newMany, w_h0_rule, w_h0_place, w_h0_at])), (h0_most, .inl (cI, h0_most_n, .inl f9)), (h0_text, .inl (cI, h0_text_n, .inl h0_text_f)), (h0_offset, .inl (cI, h0_offset_n, .inl f18))] H → va_D A [(h0, .inr (10, [w_h0_in, w_h0_inSize, w_h0_out, w_h0_outSize, w_h0_dict, w_h0_dictSize, w_h0_told, w_h0_fresh, w_h0_freshSize, .ref h0_text, .int h0_lean, .int h0_size, .ref h0_most, .ref h0_offset, w_h0_copyAt, w_h0_copies, w_h0_copyLength, w_h0_copyOffset, w_h0_fromHere, w_h0_withCopy, w_h0_bestCopy, w_h0_bestLiterals, w_h0_copiesOf, w_h0_literalsOf, w_h0_partsOf, w_h0_blocks, w_h0_blockMany, w_h0_newBlocks, w_h0_newMany, w_h0_rule, w_h0_place, w_h0_at])), (h0_most, .inl (cI, h0_most_n, .inl f9)), (h0_text, .inl (cI, h0_text_n, .inl h0_text_f)), (h0_offset, .inl (cI, h0_offset_n, .inl f18))] → va_S A s.heap H locs → lv_has ls 6 [(0, .ref h0), (1, .int a1), (2, .int j2_4), (3, .int s13), (4, .int j4_12), (5, .int j5_19)] → W p l e (rm_Mo_runs) s m ([.ref h0, .int a1] : List Value).toArray below meth c H locs 0 0 Q (F0 m 112 ls []) := by
                      intro n
                      induction n with
                      | zero => intro f18 j5_19 H locs ls hf; exact absurd hf (fun z => by cases z)
                      | succ n ih_112 =>
                        intro f18 j5_19 H locs ls hf hP hD hS hl
                        obtain ⟨r_112, hf, hr_112⟩ := iter_succ hf
                        have hf : m_Mo_runs_B112 a1 h0_offset_n j2_4 j4_12 s13 f18 j5_19 = some r_112 := hf
                        unfold m_Mo_runs_B112 at hf
                        refine lv_iload_n hx hb dX12_runs_112 rfl (lv_at hl 1 rfl) ?_
                        refine lv_if_eq (tgt := 149) hx hb dX12_runs_113 (by decide) (fun c_113 => ?_) (fun c_113 => ?_)
                        · replace hf := if_t c_113 hf
                          have hf : m_Mo_runs_E149 h0_most_n f9 j4_12 s13 f18 = some r_48 := by have hq := hk_112; rw [iter_exit hf hr_112] at hq; exact hq
                          exact hJ_149 f18 _ _ _ hf hP hD hS (lv_sub hl [0, 1, 2, 3, 4] rfl)
                        · replace hf := if_f c_113 hf
                          refine lv_iload hx hb dX12_runs_116 (lv_at hl 5 rfl) ?_
                          refine lv_iload_n hx hb dX12_runs_118 rfl (lv_at hl 3 rfl) ?_
                          refine lv_icmp_gt (tgt := 149) hx hb dX12_runs_119 (by decide) (fun c_119 => ?_) (fun c_119 => ?_)
                          · replace hf := if_t c_119 hf
                            have hf : m_Mo_runs_E149 h0_most_n f9 j4_12 s13 f18 = some r_48 := by have hq := hk_112; rw [iter_exit hf hr_112] at hq; exact hq
                            exact hJ_149 f18 _ _ _ hf hP hD hS (lv_sub hl [0, 1, 2, 3, 4] rfl)
                          · replace hf := if_f c_119 hf
                            refine lv_iload hx hb dX12_runs_122 (lv_at hl 5 rfl) ?_
                            refine lv_bipush (v := 64) hx hb dX12_runs_124 (by decide) ?_
                            refine lv_icmp_gt (tgt := 149) hx hb dX12_runs_126 (by decide) (fun c_126 => ?_) (fun c_126 => ?_)
                            · replace hf := if_t c_126 hf
                              have hf : m_Mo_runs_E149 h0_most_n f9 j4_12 s13 f18 = some r_48 := by have hq := hk_112; rw [iter_exit hf hr_112] at hq; exact hq
                              exact hJ_149 f18 _ _ _ hf hP hD hS (lv_sub hl [0, 1, 2, 3, 4] rfl)
                            · replace hf := if_f c_126 hf
                              refine lv_aload_n hx hb dX12_runs_129 rfl (lv_at hl 0 rfl) ?_
                              refine va_get (D := (dC, dI)) (ci := 10) (v := .ref h0_offset) (C := RX12) (T := TX12) (N := 32) hx hb hts inG_X12 hown hK hP 0 rfl rfl 13 (by decide) (hts _ kw_1065) (fun _ h9 => h9) rfl dX12_runs_130 ?_
                              refine lv_bipush (v := 65) hx hb dX12_runs_133 (by decide) ?_
                              refine lv_iload hx hb dX12_runs_135 (lv_at hl 4 rfl) ?_
                              refine lv_imul hx hb dX12_runs_137 ?_
                              refine lv_iload hx hb dX12_runs_138 (lv_at hl 5 rfl) ?_
                              refine lv_iadd hx hb dX12_runs_140 ?_
                              refine lv_iload_n hx hb dX12_runs_141 rfl (lv_at hl 2 rfl) ?_
                              obtain ⟨hin, hf⟩ := chk_some hf
                              refine va_iast hx hb hK hP hD hS 3 1 rfl rfl hin dX12_runs_142 (fun H locs hP hD hS => ?_)
                              have hP : va_P (dC, dI) vwCl [(h0, .inr (10, [w_h0_in, w_h0_inSize, w_h0_out, w_h0_outSize, w_h0_dict, w_h0_dictSize, w_h0_told, w_h0_fresh, w_h0_freshSize, .ref h0_text, .int h0_lean, .int h0_size, .ref h0_most, .ref h0_offset, w_h0_copyAt, w_h0_copies, w_h0_copyLength, w_h0_copyOffset, w_h0_fromHere, w_h0_withCopy, w_h0_bestCopy, w_h0_bestLiterals, w_h0_copiesOf, w_h0_literalsOf, w_h0_partsOf, w_h0_blocks, w_h0_blockMany, w_h0_newBlocks, w_h0_newMany, w_h0_rule, w_h0_place, w_h0_at])), (h0_most, .inl (cI, h0_most_n, .inl f9)), (h0_text, .inl (cI, h0_text_n, .inl h0_text_f)), (h0_offset, .inl (cI, h0_offset_n, .inl (upd f18 (((65 : Int32) * j4_12) + j5_19).toNatClampNeg j2_4)))] H := hP
                              have hD : va_D A [(h0, .inr (10, [w_h0_in, w_h0_inSize, w_h0_out, w_h0_outSize, w_h0_dict, w_h0_dictSize, w_h0_told, w_h0_fresh, w_h0_freshSize, .ref h0_text, .int h0_lean, .int h0_size, .ref h0_most, .ref h0_offset, w_h0_copyAt, w_h0_copies, w_h0_copyLength, w_h0_copyOffset, w_h0_fromHere, w_h0_withCopy, w_h0_bestCopy, w_h0_bestLiterals, w_h0_copiesOf, w_h0_literalsOf, w_h0_partsOf, w_h0_blocks, w_h0_blockMany, w_h0_newBlocks, w_h0_newMany, w_h0_rule, w_h0_place, w_h0_at])), (h0_most, .inl (cI, h0_most_n, .inl f9)), (h0_text, .inl (cI, h0_text_n, .inl h0_text_f)), (h0_offset, .inl (cI, h0_offset_n, .inl (upd f18 (((65 : Int32) * j4_12) + j5_19).toNatClampNeg j2_4)))] := hD
                              obtain ⟨v5_20, e_v5_20⟩ : ∃ y : Int32, y = (j5_19 + (1 : Int32)) := ⟨_, rfl⟩
                              replace hf := bnd_at e_v5_20 hf
                              refine lv_iinc (v := v5_20) (lv' := [(5, .int v5_20), (0, .ref h0), (1, .int a1), (2, .int j2_4), (3, .int s13), (4, .int j4_12)]) hx hb dX12_runs_143 hl (k := 5) rfl (by rw [e_v5_20]; rfl) (by decide) rfl (fun ls hl => ?_)
                              refine lv_goto (tgt := 112) hx hb dX12_runs_146 (by decide) ?_
                              exact ih_112 (upd f18 (((65 : Int32) * j4_12) + j5_19).toNatClampNeg j2_4) v5_20 _ _ _ (iter_back hf hr_112) hP hD hS (lv_sub hl [1, 2, 3, 4, 5, 0] rfl)
                    exact hL_112 FU f10 v5_14 _ _ _ hi_112 hP hD hS (lv_sub hl [2, 3, 4, 1, 5, 0] rfl)
                  refine lv_icmp_ne (tgt := 99) hx hb dX12_runs_90 (by decide) (fun c_90 => ?_) (fun c_90 => ?_)
                  · replace hf := if_f c_90 hf
                    refine lv_iconst (v := 0) hx hb dX12_runs_99 (by decide) ?_
                    exact hJ_100 (0 : Int32) _ _ _ hf hP hD hS (lv_sub hl [0, 1, 2, 4] rfl)
                  · replace hf := if_t c_90 hf
                    refine lv_iload_n hx hb dX12_runs_93 rfl (lv_at hl 3 rfl) ?_
                    refine lv_iconst (v := 1) hx hb dX12_runs_94 (by decide) ?_
                    refine lv_iadd hx hb dX12_runs_95 ?_
                    refine lv_goto (tgt := 100) hx hb dX12_runs_96 (by decide) ?_
                    exact hJ_100 (j3_11 + (1 : Int32)) _ _ _ hf hP hD hS (lv_sub hl [0, 1, 2, 4] rfl)
          exact hL_48 FU f2 f3 (0 : Int32) v4_5 _ _ _ hi_48 hP hD hS (lv_sub hl [2, 3, 4, 1, 0] rfl)
    exact hL_25 FU f1 h0_offset_f (1 : Int32) _ _ _ hi_25 hP hD hS (lv_sub hl [1, 2, 0] rfl)
  obtain ⟨o_2, hi_2, hk_2⟩ := bind_some hf
  have hL_2 : ∀ (n : Nat) (f21 : Nat → Int32) (j2_22 : Int32) (H : Heap) (locs : List Loc) (ls : Array Slot), iter (fun st => m_Mo_runs_B2 h0_size h0_most_n st.1 st.2) n (f21, j2_22) = some o_2 → va_P (dC, dI) vwCl [(h0, .inr (10, [w_h0_in, w_h0_inSize, w_h0_out, w_h0_outSize, w_h0_dict, w_h0_dictSize, w_h0_told, w_h0_fresh, w_h0_freshSize, .ref h0_text, .int h0_lean, .int h0_size, .ref h0_most, .ref h0_offset, w_h0_copyAt, w_h0_copies, w_h0_copyLength, w_h0_copyOffset, w_h0_fromHere, w_h0_withCopy, w_h0_bestCopy, w_h0_bestLiterals, w_h0_copiesOf, w_h0_literalsOf, w_h0_partsOf, w_h0_blocks, w_h0_blockMany, w_h0_newBlocks, w_h0_newMany, w_h0_rule, w_h0_place, w_h0_at])), (h0_most, .inl (cI, h0_most_n, .inl f21)), (h0_text, .inl (cI, h0_text_n, .inl h0_text_f)), (h0_offset, .inl (cI, h0_offset_n, .inl h0_offset_f))] H → va_D A [(h0, .inr (10, [w_h0_in, w_h0_inSize, w_h0_out, w_h0_outSize, w_h0_dict, w_h0_dictSize, w_h0_told, w_h0_fresh, w_h0_freshSize, .ref h0_text, .int h0_lean, .int h0_size, .ref h0_most, .ref h0_offset, w_h0_copyAt, w_h0_copies, w_h0_copyLength, w_h0_copyOffset, w_h0_fromHere, w_h0_withCopy, w_h0_bestCopy, w_h0_bestLiterals, w_h0_copiesOf, w_h0_literalsOf, w_h0_partsOf, w_h0_blocks, w_h0_blockMany, w_h0_newBlocks, w_h0_newMany, w_h0_rule, w_h0_place, w_h0_at])), (h0_most, .inl (cI, h0_most_n, .inl f21)), (h0_text, .inl (cI, h0_text_n, .inl h0_text_f)), (h0_offset, .inl (cI, h0_offset_n, .inl h0_offset_f))] → va_S A s.heap H locs → lv_has ls 6 [(0, .ref h0), (1, .int a1), (2, .int j2_22)] → W p l e (rm_Mo_runs) s m ([.ref h0, .int a1] : List Value).toArray below meth c H locs 0 0 Q (F0 m 2 ls []) := by
    intro n
    induction n with
    | zero => intro f21 j2_22 H locs ls hf; exact absurd hf (fun z => by cases z)
    | succ n ih_2 =>
      intro f21 j2_22 H locs ls hf hP hD hS hl
      obtain ⟨r_2, hf, hr_2⟩ := iter_succ hf
      have hf : m_Mo_runs_B2 h0_size h0_most_n f21 j2_22 = some r_2 := hf
      unfold m_Mo_runs_B2 at hf
      refine lv_iload_n hx hb dX12_runs_2 rfl (lv_at hl 2 rfl) ?_
      refine lv_aload_n hx hb dX12_runs_3 rfl (lv_at hl 0 rfl) ?_
      refine va_get (D := (dC, dI)) (ci := 10) (v := .int h0_size) (C := RX12) (T := TX12) (N := 32) hx hb hts inG_X12 hown hK hP 0 rfl rfl 11 (by decide) (hts _ kw_1063) (fun _ h9 => h9) rfl dX12_runs_4 ?_
      refine lv_icmp_ge (tgt := 23) hx hb dX12_runs_7 (by decide) (fun c_7 => ?_) (fun c_7 => ?_)
      · replace hf := if_t c_7 hf
        have hf : m_Mo_runs_E23 a1 h0_lean h0_size h0_most_n h0_text_n h0_text_f h0_offset_n h0_offset_f f21 = some (o_h0_most_f, o_h0_offset_f) := by have hq := hk_2; rw [iter_exit hf hr_2] at hq; exact hq
        exact hJ_23 f21 _ _ _ hf hP hD hS (lv_sub hl [0, 1] rfl)
      · replace hf := if_f c_7 hf
        refine lv_aload_n hx hb dX12_runs_10 rfl (lv_at hl 0 rfl) ?_
        refine va_get (D := (dC, dI)) (ci := 10) (v := .ref h0_most) (C := RX12) (T := TX12) (N := 32) hx hb hts inG_X12 hown hK hP 0 rfl rfl 12 (by decide) (hts _ kw_1064) (fun _ h9 => h9) rfl dX12_runs_11 ?_
        refine lv_iload_n hx hb dX12_runs_14 rfl (lv_at hl 2 rfl) ?_
        refine lv_iconst (v := 0) hx hb dX12_runs_15 (by decide) ?_
        obtain ⟨hin, hf⟩ := chk_some hf
        refine va_iast hx hb hK hP hD hS 1 1 rfl rfl hin dX12_runs_16 (fun H locs hP hD hS => ?_)
        have hP : va_P (dC, dI) vwCl [(h0, .inr (10, [w_h0_in, w_h0_inSize, w_h0_out, w_h0_outSize, w_h0_dict, w_h0_dictSize, w_h0_told, w_h0_fresh, w_h0_freshSize, .ref h0_text, .int h0_lean, .int h0_size, .ref h0_most, .ref h0_offset, w_h0_copyAt, w_h0_copies, w_h0_copyLength, w_h0_copyOffset, w_h0_fromHere, w_h0_withCopy, w_h0_bestCopy, w_h0_bestLiterals, w_h0_copiesOf, w_h0_literalsOf, w_h0_partsOf, w_h0_blocks, w_h0_blockMany, w_h0_newBlocks, w_h0_newMany, w_h0_rule, w_h0_place, w_h0_at])), (h0_most, .inl (cI, h0_most_n, .inl (upd f21 j2_22.toNatClampNeg (0 : Int32)))), (h0_text, .inl (cI, h0_text_n, .inl h0_text_f)), (h0_offset, .inl (cI, h0_offset_n, .inl h0_offset_f))] H := hP
        have hD : va_D A [(h0, .inr (10, [w_h0_in, w_h0_inSize, w_h0_out, w_h0_outSize, w_h0_dict, w_h0_dictSize, w_h0_told, w_h0_fresh, w_h0_freshSize, .ref h0_text, .int h0_lean, .int h0_size, .ref h0_most, .ref h0_offset, w_h0_copyAt, w_h0_copies, w_h0_copyLength, w_h0_copyOffset, w_h0_fromHere, w_h0_withCopy, w_h0_bestCopy, w_h0_bestLiterals, w_h0_copiesOf, w_h0_literalsOf, w_h0_partsOf, w_h0_blocks, w_h0_blockMany, w_h0_newBlocks, w_h0_newMany, w_h0_rule, w_h0_place, w_h0_at])), (h0_most, .inl (cI, h0_most_n, .inl (upd f21 j2_22.toNatClampNeg (0 : Int32)))), (h0_text, .inl (cI, h0_text_n, .inl h0_text_f)), (h0_offset, .inl (cI, h0_offset_n, .inl h0_offset_f))] := hD
        obtain ⟨v2_23, e_v2_23⟩ : ∃ y : Int32, y = (j2_22 + (1 : Int32)) := ⟨_, rfl⟩
        replace hf := bnd_at e_v2_23 hf
        refine lv_iinc (v := v2_23) (lv' := [(2, .int v2_23), (0, .ref h0), (1, .int a1)]) hx hb dX12_runs_17 hl (k := 2) rfl (by rw [e_v2_23]; rfl) (by decide) rfl (fun ls hl => ?_)
        refine lv_goto (tgt := 2) hx hb dX12_runs_20 (by decide) ?_
        exact ih_2 (upd f21 j2_22.toNatClampNeg (0 : Int32)) v2_23 _ _ _ (iter_back hf hr_2) hP hD hS (lv_sub hl [1, 2, 0] rfl)
  exact hL_2 FU h0_most_f (0 : Int32) _ _ _ hi_2 hP hD hS (lv_sub hl [1, 2, 0] rfl)

theorem dX12_copy_0 : decode cX12_copy 0 = .ok (.aload_n 0, 1) := by decide +kernel
theorem dX12_copy_1 : decode cX12_copy 1 = .ok (.getfield 44, 3) := by decide +kernel
theorem dX12_copy_4 : decode cX12_copy 4 = .ok (.aload_n 0, 1) := by decide +kernel
theorem dX12_copy_5 : decode cX12_copy 5 = .ok (.getfield 47, 3) := by decide +kernel
theorem dX12_copy_8 : decode cX12_copy 8 = .ok (.iload_n 1, 1) := by decide +kernel
theorem dX12_copy_9 : decode cX12_copy 9 = .ok (.iastore, 1) := by decide +kernel
theorem dX12_copy_10 : decode cX12_copy 10 = .ok (.aload_n 0, 1) := by decide +kernel
theorem dX12_copy_11 : decode cX12_copy 11 = .ok (.getfield 50, 3) := by decide +kernel
theorem dX12_copy_14 : decode cX12_copy 14 = .ok (.aload_n 0, 1) := by decide +kernel
theorem dX12_copy_15 : decode cX12_copy 15 = .ok (.getfield 47, 3) := by decide +kernel
theorem dX12_copy_18 : decode cX12_copy 18 = .ok (.iload_n 2, 1) := by decide +kernel
theorem dX12_copy_19 : decode cX12_copy 19 = .ok (.iastore, 1) := by decide +kernel
theorem dX12_copy_20 : decode cX12_copy 20 = .ok (.aload_n 0, 1) := by decide +kernel
theorem dX12_copy_21 : decode cX12_copy 21 = .ok (.getfield 53, 3) := by decide +kernel
theorem dX12_copy_24 : decode cX12_copy 24 = .ok (.aload_n 0, 1) := by decide +kernel
theorem dX12_copy_25 : decode cX12_copy 25 = .ok (.getfield 47, 3) := by decide +kernel
theorem dX12_copy_28 : decode cX12_copy 28 = .ok (.aload_n 0, 1) := by decide +kernel
theorem dX12_copy_29 : decode cX12_copy 29 = .ok (.iload_n 1, 1) := by decide +kernel
theorem dX12_copy_30 : decode cX12_copy 30 = .ok (.iload_n 2, 1) := by decide +kernel
theorem dX12_copy_31 : decode cX12_copy 31 = .ok (.invokevirtual 56, 3) := by decide +kernel
theorem dX12_copy_34 : decode cX12_copy 34 = .ok (.iastore, 1) := by decide +kernel
theorem dX12_copy_35 : decode cX12_copy 35 = .ok (.aload_n 0, 1) := by decide +kernel
theorem dX12_copy_36 : decode cX12_copy 36 = .ok (.dup, 1) := by decide +kernel
theorem dX12_copy_37 : decode cX12_copy 37 = .ok (.getfield 47, 3) := by decide +kernel
theorem dX12_copy_40 : decode cX12_copy 40 = .ok (.iconst 1, 1) := by decide +kernel
theorem dX12_copy_41 : decode cX12_copy 41 = .ok (.iadd, 1) := by decide +kernel
theorem dX12_copy_42 : decode cX12_copy 42 = .ok (.putfield 47, 3) := by decide +kernel
theorem dX12_copy_45 : decode cX12_copy 45 = .ok (.return_, 1) := by decide +kernel
def m_Mo_copy (a1 : Int32) (a2 : Int32) (h0_lean : Int32) (h0_size : Int32) (h0_copies : Int32) (h0_copyAt_n : Nat) (h0_copyAt_f : Nat → Int32) (h0_copyLength_n : Nat) (h0_copyLength_f : Nat → Int32) (h0_text_n : Nat) (h0_text_f : Nat → Int32) (h0_copyOffset_n : Nat) (h0_copyOffset_f : Nat → Int32) : Option (Int32 × (Nat → Int32) × (Nat → Int32) × (Nat → Int32)) :=
  chk h0_copies h0_copyAt_n <|
  chk h0_copies h0_copyLength_n <|
  (m_Mo_nearest a1 a2 h0_lean h0_size h0_text_n h0_text_f).bind fun r1 =>
  chk h0_copies h0_copyOffset_n <|
  bnd (h0_copies + (1 : Int32)) fun p_2 =>
  some (p_2, (upd h0_copyAt_f h0_copies.toNatClampNeg a1), (upd h0_copyLength_f h0_copies.toNatClampNeg a2), (upd h0_copyOffset_f h0_copies.toNatClampNeg r1))
def rm_Mo_copy : Room := { frames := 2, cells := 0, slots := 0, locals := 49 }
set_option maxHeartbeats 4000000 in
set_option maxRecDepth 100000 in
theorem c_Mo_copy {l : Launch} {dC : Nat → ClassId} {dI : Nat → Nat → Nat} {cB cI : ClassId} {sz : Nat} {h0 : Nat} {a1 : Int32} {a2 : Int32} {h0_copyAt : Nat} {h0_copyLength : Nat} {h0_text : Nat} {h0_copyOffset : Nat} {w_h0_in : Value} {w_h0_inSize : Value} {w_h0_out : Value} {w_h0_outSize : Value} {w_h0_dict : Value} {w_h0_dictSize : Value} {w_h0_told : Value} {w_h0_fresh : Value} {w_h0_freshSize : Value} {h0_lean : Int32} {h0_size : Int32} {w_h0_most : Value} {w_h0_offset : Value} {h0_copies : Int32} {w_h0_fromHere : Value} {w_h0_withCopy : Value} {w_h0_bestCopy : Value} {w_h0_bestLiterals : Value} {w_h0_copiesOf : Value} {w_h0_literalsOf : Value} {w_h0_partsOf : Value} {w_h0_blocks : Value} {w_h0_blockMany : Value} {w_h0_newBlocks : Value} {w_h0_newMany : Value} {w_h0_rule : Value} {w_h0_place : Value} {w_h0_at : Value} {h0_copyAt_n : Nat} {h0_copyAt_f : Nat → Int32} {h0_copyLength_n : Nat} {h0_copyLength_f : Nat → Int32} {h0_text_n : Nat} {h0_text_f : Nat → Int32} {h0_copyOffset_n : Nat} {h0_copyOffset_f : Nat → Int32} {o_h0_copies : Int32} {o_h0_copyAt_f : Nat → Int32} {o_h0_copyLength_f : Nat → Int32} {o_h0_copyOffset_f : Nat → Int32} (hf : m_Mo_copy a1 a2 h0_lean h0_size h0_copies h0_copyAt_n h0_copyAt_f h0_copyLength_n h0_copyLength_f h0_text_n h0_text_f h0_copyOffset_n h0_copyOffset_f = some (o_h0_copies, o_h0_copyAt_f, o_h0_copyLength_f, o_h0_copyOffset_f)) : Met l yX12_copy (Cond.code yX12_copy cX12_copy 3 none :: lw_G) rm_Mo_copy (PreC (dC, dI) [(cB, .byte), (cI, .int)] [.ref h0, .int a1, .int a2] sz [(h0, .inr (10, [w_h0_in, w_h0_inSize, w_h0_out, w_h0_outSize, w_h0_dict, w_h0_dictSize, w_h0_told, w_h0_fresh, w_h0_freshSize, .ref h0_text, .int h0_lean, .int h0_size, w_h0_most, w_h0_offset, .ref h0_copyAt, .int h0_copies, .ref h0_copyLength, .ref h0_copyOffset, w_h0_fromHere, w_h0_withCopy, w_h0_bestCopy, w_h0_bestLiterals, w_h0_copiesOf, w_h0_literalsOf, w_h0_partsOf, w_h0_blocks, w_h0_blockMany, w_h0_newBlocks, w_h0_newMany, w_h0_rule, w_h0_place, w_h0_at])), (h0_copyAt, .inl (cI, h0_copyAt_n, .inl h0_copyAt_f)), (h0_copyLength, .inl (cI, h0_copyLength_n, .inl h0_copyLength_f)), (h0_text, .inl (cI, h0_text_n, .inl h0_text_f)), (h0_copyOffset, .inl (cI, h0_copyOffset_n, .inl h0_copyOffset_f))]) (QcV (dC, dI) [(h0, .inr (10, [w_h0_in, w_h0_inSize, w_h0_out, w_h0_outSize, w_h0_dict, w_h0_dictSize, w_h0_told, w_h0_fresh, w_h0_freshSize, .ref h0_text, .int h0_lean, .int h0_size, w_h0_most, w_h0_offset, .ref h0_copyAt, .int o_h0_copies, .ref h0_copyLength, .ref h0_copyOffset, w_h0_fromHere, w_h0_withCopy, w_h0_bestCopy, w_h0_bestLiterals, w_h0_copiesOf, w_h0_literalsOf, w_h0_partsOf, w_h0_blocks, w_h0_blockMany, w_h0_newBlocks, w_h0_newMany, w_h0_rule, w_h0_place, w_h0_at])), (h0_copyAt, .inl (cI, h0_copyAt_n, .inl o_h0_copyAt_f)), (h0_copyLength, .inl (cI, h0_copyLength_n, .inl o_h0_copyLength_f)), (h0_text, .inl (cI, h0_text_n, .inl h0_text_f)), (h0_copyOffset, .inl (cI, h0_copyOffset_n, .inl o_h0_copyOffset_f))] (va_A [(h0, .inr (10, [w_h0_in, w_h0_inSize, w_h0_out, w_h0_outSize, w_h0_dict, w_h0_dictSize, w_h0_told, w_h0_fresh, w_h0_freshSize, .ref h0_text, .int h0_lean, .int h0_size, w_h0_most, w_h0_offset, .ref h0_copyAt, .int h0_copies, .ref h0_copyLength, .ref h0_copyOffset, w_h0_fromHere, w_h0_withCopy, w_h0_bestCopy, w_h0_bestLiterals, w_h0_copiesOf, w_h0_literalsOf, w_h0_partsOf, w_h0_blocks, w_h0_blockMany, w_h0_newBlocks, w_h0_newMany, w_h0_rule, w_h0_place, w_h0_at])), (h0_copyAt, .inl (cI, h0_copyAt_n, .inl h0_copyAt_f)), (h0_copyLength, .inl (cI, h0_copyLength_n, .inl h0_copyLength_f)), (h0_text, .inl (cI, h0_text_n, .inl h0_text_f)), (h0_copyOffset, .inl (cI, h0_copyOffset_n, .inl h0_copyOffset_f))] sz)) 0 0 (va_A [(h0, .inr (10, [w_h0_in, w_h0_inSize, w_h0_out, w_h0_outSize, w_h0_dict, w_h0_dictSize, w_h0_told, w_h0_fresh, w_h0_freshSize, .ref h0_text, .int h0_lean, .int h0_size, w_h0_most, w_h0_offset, .ref h0_copyAt, .int h0_copies, .ref h0_copyLength, .ref h0_copyOffset, w_h0_fromHere, w_h0_withCopy, w_h0_bestCopy, w_h0_bestLiterals, w_h0_copiesOf, w_h0_literalsOf, w_h0_partsOf, w_h0_blocks, w_h0_blockMany, w_h0_newBlocks, w_h0_newMany, w_h0_rule, w_h0_place, w_h0_at])), (h0_copyAt, .inl (cI, h0_copyAt_n, .inl h0_copyAt_f)), (h0_copyLength, .inl (cI, h0_copyLength_n, .inl h0_copyLength_f)), (h0_text, .inl (cI, h0_text_n, .inl h0_text_f)), (h0_copyOffset, .inl (cI, h0_copyOffset_n, .inl h0_copyOffset_f))] sz) := by
  refine met_of (Qf := fun A => QcV (dC, dI) [(h0, .inr (10, [w_h0_in, w_h0_inSize, w_h0_out, w_h0_outSize, w_h0_dict, w_h0_dictSize, w_h0_told, w_h0_fresh, w_h0_freshSize, .ref h0_text, .int h0_lean, .int h0_size, w_h0_most, w_h0_offset, .ref h0_copyAt, .int o_h0_copies, .ref h0_copyLength, .ref h0_copyOffset, w_h0_fromHere, w_h0_withCopy, w_h0_bestCopy, w_h0_bestLiterals, w_h0_copiesOf, w_h0_literalsOf, w_h0_partsOf, w_h0_blocks, w_h0_blockMany, w_h0_newBlocks, w_h0_newMany, w_h0_rule, w_h0_place, w_h0_at])), (h0_copyAt, .inl (cI, h0_copyAt_n, .inl o_h0_copyAt_f)), (h0_copyLength, .inl (cI, h0_copyLength_n, .inl o_h0_copyLength_f)), (h0_text, .inl (cI, h0_text_n, .inl h0_text_f)), (h0_copyOffset, .inl (cI, h0_copyOffset_n, .inl o_h0_copyOffset_f))] A) (by decide) (Nat.le_of_ble_eq_true rfl) ?_
  intro p e s m below meth c A ls Q hx hb hr hml hown hts hlocks hnm hP hK hD hN hT hA hl hQ
  have hown : s.vm.findClass RX12 = some m.cls := hown
  have hS : va_S A s.heap s.heap [] := va_S.rf
  have hl : lv_has ls 3 [(0, .ref h0), (1, .int a1), (2, .int a2)] := hl
  unfold m_Mo_copy at hf
  refine lv_aload_n hx hb dX12_copy_0 rfl (lv_at hl 0 rfl) ?_
  refine va_get (D := (dC, dI)) (ci := 10) (v := .ref h0_copyAt) (C := RX12) (T := TX12) (N := 32) hx hb hts inG_X12 hown hK hP 0 rfl rfl 14 (by decide) (hts _ kw_1066) (fun _ h9 => h9) rfl dX12_copy_1 ?_
  refine lv_aload_n hx hb dX12_copy_4 rfl (lv_at hl 0 rfl) ?_
  refine va_get (D := (dC, dI)) (ci := 10) (v := .int h0_copies) (C := RX12) (T := TX12) (N := 32) hx hb hts inG_X12 hown hK hP 0 rfl rfl 15 (by decide) (hts _ kw_1067) (fun _ h9 => h9) rfl dX12_copy_5 ?_
  refine lv_iload_n hx hb dX12_copy_8 rfl (lv_at hl 1 rfl) ?_
  obtain ⟨hin, hf⟩ := chk_some hf
  refine va_iast hx hb hK hP hD hS 1 1 rfl rfl hin dX12_copy_9 (fun H locs hP hD hS => ?_)
  have hP : va_P (dC, dI) vwCl [(h0, .inr (10, [w_h0_in, w_h0_inSize, w_h0_out, w_h0_outSize, w_h0_dict, w_h0_dictSize, w_h0_told, w_h0_fresh, w_h0_freshSize, .ref h0_text, .int h0_lean, .int h0_size, w_h0_most, w_h0_offset, .ref h0_copyAt, .int h0_copies, .ref h0_copyLength, .ref h0_copyOffset, w_h0_fromHere, w_h0_withCopy, w_h0_bestCopy, w_h0_bestLiterals, w_h0_copiesOf, w_h0_literalsOf, w_h0_partsOf, w_h0_blocks, w_h0_blockMany, w_h0_newBlocks, w_h0_newMany, w_h0_rule, w_h0_place, w_h0_at])), (h0_copyAt, .inl (cI, h0_copyAt_n, .inl (upd h0_copyAt_f h0_copies.toNatClampNeg a1))), (h0_copyLength, .inl (cI, h0_copyLength_n, .inl h0_copyLength_f)), (h0_text, .inl (cI, h0_text_n, .inl h0_text_f)), (h0_copyOffset, .inl (cI, h0_copyOffset_n, .inl h0_copyOffset_f))] H := hP
  have hD : va_D A [(h0, .inr (10, [w_h0_in, w_h0_inSize, w_h0_out, w_h0_outSize, w_h0_dict, w_h0_dictSize, w_h0_told, w_h0_fresh, w_h0_freshSize, .ref h0_text, .int h0_lean, .int h0_size, w_h0_most, w_h0_offset, .ref h0_copyAt, .int h0_copies, .ref h0_copyLength, .ref h0_copyOffset, w_h0_fromHere, w_h0_withCopy, w_h0_bestCopy, w_h0_bestLiterals, w_h0_copiesOf, w_h0_literalsOf, w_h0_partsOf, w_h0_blocks, w_h0_blockMany, w_h0_newBlocks, w_h0_newMany, w_h0_rule, w_h0_place, w_h0_at])), (h0_copyAt, .inl (cI, h0_copyAt_n, .inl (upd h0_copyAt_f h0_copies.toNatClampNeg a1))), (h0_copyLength, .inl (cI, h0_copyLength_n, .inl h0_copyLength_f)), (h0_text, .inl (cI, h0_text_n, .inl h0_text_f)), (h0_copyOffset, .inl (cI, h0_copyOffset_n, .inl h0_copyOffset_f))] := hD
  refine lv_aload_n hx hb dX12_copy_10 rfl (lv_at hl 0 rfl) ?_
  refine va_get (D := (dC, dI)) (ci := 10) (v := .ref h0_copyLength) (C := RX12) (T := TX12) (N := 32) hx hb hts inG_X12 hown hK hP 0 rfl rfl 16 (by decide) (hts _ kw_1068) (fun _ h9 => h9) rfl dX12_copy_11 ?_
  refine lv_aload_n hx hb dX12_copy_14 rfl (lv_at hl 0 rfl) ?_
  refine va_get (D := (dC, dI)) (ci := 10) (v := .int h0_copies) (C := RX12) (T := TX12) (N := 32) hx hb hts inG_X12 hown hK hP 0 rfl rfl 15 (by decide) (hts _ kw_1067) (fun _ h9 => h9) rfl dX12_copy_15 ?_
  refine lv_iload_n hx hb dX12_copy_18 rfl (lv_at hl 2 rfl) ?_
  obtain ⟨hin, hf⟩ := chk_some hf
  refine va_iast hx hb hK hP hD hS 2 1 rfl rfl hin dX12_copy_19 (fun H locs hP hD hS => ?_)
  have hP : va_P (dC, dI) vwCl [(h0, .inr (10, [w_h0_in, w_h0_inSize, w_h0_out, w_h0_outSize, w_h0_dict, w_h0_dictSize, w_h0_told, w_h0_fresh, w_h0_freshSize, .ref h0_text, .int h0_lean, .int h0_size, w_h0_most, w_h0_offset, .ref h0_copyAt, .int h0_copies, .ref h0_copyLength, .ref h0_copyOffset, w_h0_fromHere, w_h0_withCopy, w_h0_bestCopy, w_h0_bestLiterals, w_h0_copiesOf, w_h0_literalsOf, w_h0_partsOf, w_h0_blocks, w_h0_blockMany, w_h0_newBlocks, w_h0_newMany, w_h0_rule, w_h0_place, w_h0_at])), (h0_copyAt, .inl (cI, h0_copyAt_n, .inl (upd h0_copyAt_f h0_copies.toNatClampNeg a1))), (h0_copyLength, .inl (cI, h0_copyLength_n, .inl (upd h0_copyLength_f h0_copies.toNatClampNeg a2))), (h0_text, .inl (cI, h0_text_n, .inl h0_text_f)), (h0_copyOffset, .inl (cI, h0_copyOffset_n, .inl h0_copyOffset_f))] H := hP
  have hD : va_D A [(h0, .inr (10, [w_h0_in, w_h0_inSize, w_h0_out, w_h0_outSize, w_h0_dict, w_h0_dictSize, w_h0_told, w_h0_fresh, w_h0_freshSize, .ref h0_text, .int h0_lean, .int h0_size, w_h0_most, w_h0_offset, .ref h0_copyAt, .int h0_copies, .ref h0_copyLength, .ref h0_copyOffset, w_h0_fromHere, w_h0_withCopy, w_h0_bestCopy, w_h0_bestLiterals, w_h0_copiesOf, w_h0_literalsOf, w_h0_partsOf, w_h0_blocks, w_h0_blockMany, w_h0_newBlocks, w_h0_newMany, w_h0_rule, w_h0_place, w_h0_at])), (h0_copyAt, .inl (cI, h0_copyAt_n, .inl (upd h0_copyAt_f h0_copies.toNatClampNeg a1))), (h0_copyLength, .inl (cI, h0_copyLength_n, .inl (upd h0_copyLength_f h0_copies.toNatClampNeg a2))), (h0_text, .inl (cI, h0_text_n, .inl h0_text_f)), (h0_copyOffset, .inl (cI, h0_copyOffset_n, .inl h0_copyOffset_f))] := hD
  refine lv_aload_n hx hb dX12_copy_20 rfl (lv_at hl 0 rfl) ?_
  refine va_get (D := (dC, dI)) (ci := 10) (v := .ref h0_copyOffset) (C := RX12) (T := TX12) (N := 32) hx hb hts inG_X12 hown hK hP 0 rfl rfl 17 (by decide) (hts _ kw_1069) (fun _ h9 => h9) rfl dX12_copy_21 ?_
  refine lv_aload_n hx hb dX12_copy_24 rfl (lv_at hl 0 rfl) ?_
  refine va_get (D := (dC, dI)) (ci := 10) (v := .int h0_copies) (C := RX12) (T := TX12) (N := 32) hx hb hts inG_X12 hown hK hP 0 rfl rfl 15 (by decide) (hts _ kw_1067) (fun _ h9 => h9) rfl dX12_copy_25 ?_
  refine lv_aload_n hx hb dX12_copy_28 rfl (lv_at hl 0 rfl) ?_
  refine lv_iload_n hx hb dX12_copy_29 rfl (lv_at hl 1 rfl) ?_
  refine lv_iload_n hx hb dX12_copy_30 rfl (lv_at hl 2 rfl) ?_
  obtain ⟨r1, hc, hf⟩ := bind_some hf
  refine nx_i (rn_V (As := [.int a1, .int a2]) (rest := [.int h0_copies, .ref h0_copyOffset]) (n := 2) (ci := 10) (q0 := 0) ⟨hx, hb, hml, hown, hts⟩ (c_Mo_nearest (l := l) (dC := dC) (dI := dI) (cB := cB) (cI := cI) (h0 := h0) (a1 := a1) (a2 := a2) (h0_text := h0_text) (w_h0_in := (w_h0_in)) (w_h0_inSize := (w_h0_inSize)) (w_h0_out := (w_h0_out)) (w_h0_outSize := (w_h0_outSize)) (w_h0_dict := (w_h0_dict)) (w_h0_dictSize := (w_h0_dictSize)) (w_h0_told := (w_h0_told)) (w_h0_fresh := (w_h0_fresh)) (w_h0_freshSize := (w_h0_freshSize)) (h0_lean := h0_lean) (h0_size := h0_size) (w_h0_most := (w_h0_most)) (w_h0_offset := (w_h0_offset)) (w_h0_copyAt := (.ref h0_copyAt)) (w_h0_copies := (.int h0_copies)) (w_h0_copyLength := (.ref h0_copyLength)) (w_h0_copyOffset := (.ref h0_copyOffset)) (w_h0_fromHere := (w_h0_fromHere)) (w_h0_withCopy := (w_h0_withCopy)) (w_h0_bestCopy := (w_h0_bestCopy)) (w_h0_bestLiterals := (w_h0_bestLiterals)) (w_h0_copiesOf := (w_h0_copiesOf)) (w_h0_literalsOf := (w_h0_literalsOf)) (w_h0_partsOf := (w_h0_partsOf)) (w_h0_blocks := (w_h0_blocks)) (w_h0_blockMany := (w_h0_blockMany)) (w_h0_newBlocks := (w_h0_newBlocks)) (w_h0_newMany := (w_h0_newMany)) (w_h0_rule := (w_h0_rule)) (w_h0_place := (w_h0_place)) (w_h0_at := (w_h0_at)) (h0_text_n := h0_text_n) (h0_text_f := h0_text_f)  (o_r := r1) hc) (wV kw_1274 kw_1276 kw_60 kw_94 kw_1277) (by decide +kernel) ⟨Nat.le_of_ble_eq_true rfl, Nat.le_of_ble_eq_true rfl⟩ hK hP hD hN hT hS (va_free (wc := [(h0, .inr (10, [w_h0_in, w_h0_inSize, w_h0_out, w_h0_outSize, w_h0_dict, w_h0_dictSize, w_h0_told, w_h0_fresh, w_h0_freshSize, .ref h0_text, .int h0_lean, .int h0_size, w_h0_most, w_h0_offset, .ref h0_copyAt, .int h0_copies, .ref h0_copyLength, .ref h0_copyOffset, w_h0_fromHere, w_h0_withCopy, w_h0_bestCopy, w_h0_bestLiterals, w_h0_copiesOf, w_h0_literalsOf, w_h0_partsOf, w_h0_blocks, w_h0_blockMany, w_h0_newBlocks, w_h0_newMany, w_h0_rule, w_h0_place, w_h0_at])), (h0_text, .inl (cI, h0_text_n, .inl h0_text_f))]) hD hS hA [0, 3] rfl) [0, 3] rfl (by decide) rfl rfl rfl hl.1 rfl (lv_room (Nat.le_of_ble_eq_true rfl)) dX12_copy_31 ⟨Nat.le_of_ble_eq_true rfl, Nat.le_of_ble_eq_true rfl⟩) hP hD hS hA (wr := [(h0_copyAt, .inl (cI, h0_copyAt_n, .inl (upd h0_copyAt_f h0_copies.toNatClampNeg a1))), (h0_copyLength, .inl (cI, h0_copyLength_n, .inl (upd h0_copyLength_f h0_copies.toNatClampNeg a2))), (h0_copyOffset, .inl (cI, h0_copyOffset_n, .inl h0_copyOffset_f))]) (w1 := [(h0, .inr (10, [w_h0_in, w_h0_inSize, w_h0_out, w_h0_outSize, w_h0_dict, w_h0_dictSize, w_h0_told, w_h0_fresh, w_h0_freshSize, .ref h0_text, .int h0_lean, .int h0_size, w_h0_most, w_h0_offset, .ref h0_copyAt, .int h0_copies, .ref h0_copyLength, .ref h0_copyOffset, w_h0_fromHere, w_h0_withCopy, w_h0_bestCopy, w_h0_bestLiterals, w_h0_copiesOf, w_h0_literalsOf, w_h0_partsOf, w_h0_blocks, w_h0_blockMany, w_h0_newBlocks, w_h0_newMany, w_h0_rule, w_h0_place, w_h0_at])), (h0_text, .inl (cI, h0_text_n, .inl h0_text_f))]) (ws' := [(h0, .inr (10, [w_h0_in, w_h0_inSize, w_h0_out, w_h0_outSize, w_h0_dict, w_h0_dictSize, w_h0_told, w_h0_fresh, w_h0_freshSize, .ref h0_text, .int h0_lean, .int h0_size, w_h0_most, w_h0_offset, .ref h0_copyAt, .int h0_copies, .ref h0_copyLength, .ref h0_copyOffset, w_h0_fromHere, w_h0_withCopy, w_h0_bestCopy, w_h0_bestLiterals, w_h0_copiesOf, w_h0_literalsOf, w_h0_partsOf, w_h0_blocks, w_h0_blockMany, w_h0_newBlocks, w_h0_newMany, w_h0_rule, w_h0_place, w_h0_at])), (h0_copyAt, .inl (cI, h0_copyAt_n, .inl (upd h0_copyAt_f h0_copies.toNatClampNeg a1))), (h0_copyLength, .inl (cI, h0_copyLength_n, .inl (upd h0_copyLength_f h0_copies.toNatClampNeg a2))), (h0_text, .inl (cI, h0_text_n, .inl h0_text_f)), (h0_copyOffset, .inl (cI, h0_copyOffset_n, .inl h0_copyOffset_f))]) [0, 3] [1, 2, 4] [3, 0, 1, 4, 2] rfl rfl (by decide) (by decide) rfl (by decide) (fun H locs hP hD hS => ?_)
  obtain ⟨hin, hf⟩ := chk_some hf
  refine va_iast hx hb hK hP hD hS 4 1 rfl rfl hin dX12_copy_34 (fun H locs hP hD hS => ?_)
  have hP : va_P (dC, dI) vwCl [(h0, .inr (10, [w_h0_in, w_h0_inSize, w_h0_out, w_h0_outSize, w_h0_dict, w_h0_dictSize, w_h0_told, w_h0_fresh, w_h0_freshSize, .ref h0_text, .int h0_lean, .int h0_size, w_h0_most, w_h0_offset, .ref h0_copyAt, .int h0_copies, .ref h0_copyLength, .ref h0_copyOffset, w_h0_fromHere, w_h0_withCopy, w_h0_bestCopy, w_h0_bestLiterals, w_h0_copiesOf, w_h0_literalsOf, w_h0_partsOf, w_h0_blocks, w_h0_blockMany, w_h0_newBlocks, w_h0_newMany, w_h0_rule, w_h0_place, w_h0_at])), (h0_copyAt, .inl (cI, h0_copyAt_n, .inl (upd h0_copyAt_f h0_copies.toNatClampNeg a1))), (h0_copyLength, .inl (cI, h0_copyLength_n, .inl (upd h0_copyLength_f h0_copies.toNatClampNeg a2))), (h0_text, .inl (cI, h0_text_n, .inl h0_text_f)), (h0_copyOffset, .inl (cI, h0_copyOffset_n, .inl (upd h0_copyOffset_f h0_copies.toNatClampNeg r1)))] H := hP
  have hD : va_D A [(h0, .inr (10, [w_h0_in, w_h0_inSize, w_h0_out, w_h0_outSize, w_h0_dict, w_h0_dictSize, w_h0_told, w_h0_fresh, w_h0_freshSize, .ref h0_text, .int h0_lean, .int h0_size, w_h0_most, w_h0_offset, .ref h0_copyAt, .int h0_copies, .ref h0_copyLength, .ref h0_copyOffset, w_h0_fromHere, w_h0_withCopy, w_h0_bestCopy, w_h0_bestLiterals, w_h0_copiesOf, w_h0_literalsOf, w_h0_partsOf, w_h0_blocks, w_h0_blockMany, w_h0_newBlocks, w_h0_newMany, w_h0_rule, w_h0_place, w_h0_at])), (h0_copyAt, .inl (cI, h0_copyAt_n, .inl (upd h0_copyAt_f h0_copies.toNatClampNeg a1))), (h0_copyLength, .inl (cI, h0_copyLength_n, .inl (upd h0_copyLength_f h0_copies.toNatClampNeg a2))), (h0_text, .inl (cI, h0_text_n, .inl h0_text_f)), (h0_copyOffset, .inl (cI, h0_copyOffset_n, .inl (upd h0_copyOffset_f h0_copies.toNatClampNeg r1)))] := hD
  refine lv_aload_n hx hb dX12_copy_35 rfl (lv_at hl 0 rfl) ?_
  refine lv_dup hx hb dX12_copy_36 rfl ?_
  refine va_get (D := (dC, dI)) (ci := 10) (v := .int h0_copies) (C := RX12) (T := TX12) (N := 32) hx hb hts inG_X12 hown hK hP 0 rfl rfl 15 (by decide) (hts _ kw_1067) (fun _ h9 => h9) rfl dX12_copy_37 ?_
  refine lv_iconst (v := 1) hx hb dX12_copy_40 (by decide) ?_
  refine lv_iadd hx hb dX12_copy_41 ?_
  refine lv_topi (fun p_2 e_p_2 => ?_)
  replace hf := bnd_at e_p_2 hf
  refine va_put (D := (dC, dI)) (ci := 10) (v := .int p_2) (ty := .int) (C := RX12) (T := TX12) (N := 32) hx hb hts inG_X12 tyX12 tyX12_ok nmX12 hown hK hP hD hS 0 rfl rfl 15 (by decide) (hts _ kw_1067) (fun _ h9 => h9) rfl (by decide +kernel) rfl rfl (Nat.le_of_ble_eq_true rfl) dX12_copy_42 (fun H locs hP hD hS => ?_)
  have hP : va_P (dC, dI) vwCl [(h0, .inr (10, [w_h0_in, w_h0_inSize, w_h0_out, w_h0_outSize, w_h0_dict, w_h0_dictSize, w_h0_told, w_h0_fresh, w_h0_freshSize, .ref h0_text, .int h0_lean, .int h0_size, w_h0_most, w_h0_offset, .ref h0_copyAt, .int p_2, .ref h0_copyLength, .ref h0_copyOffset, w_h0_fromHere, w_h0_withCopy, w_h0_bestCopy, w_h0_bestLiterals, w_h0_copiesOf, w_h0_literalsOf, w_h0_partsOf, w_h0_blocks, w_h0_blockMany, w_h0_newBlocks, w_h0_newMany, w_h0_rule, w_h0_place, w_h0_at])), (h0_copyAt, .inl (cI, h0_copyAt_n, .inl (upd h0_copyAt_f h0_copies.toNatClampNeg a1))), (h0_copyLength, .inl (cI, h0_copyLength_n, .inl (upd h0_copyLength_f h0_copies.toNatClampNeg a2))), (h0_text, .inl (cI, h0_text_n, .inl h0_text_f)), (h0_copyOffset, .inl (cI, h0_copyOffset_n, .inl (upd h0_copyOffset_f h0_copies.toNatClampNeg r1)))] H := hP
  have hD : va_D A [(h0, .inr (10, [w_h0_in, w_h0_inSize, w_h0_out, w_h0_outSize, w_h0_dict, w_h0_dictSize, w_h0_told, w_h0_fresh, w_h0_freshSize, .ref h0_text, .int h0_lean, .int h0_size, w_h0_most, w_h0_offset, .ref h0_copyAt, .int p_2, .ref h0_copyLength, .ref h0_copyOffset, w_h0_fromHere, w_h0_withCopy, w_h0_bestCopy, w_h0_bestLiterals, w_h0_copiesOf, w_h0_literalsOf, w_h0_partsOf, w_h0_blocks, w_h0_blockMany, w_h0_newBlocks, w_h0_newMany, w_h0_rule, w_h0_place, w_h0_at])), (h0_copyAt, .inl (cI, h0_copyAt_n, .inl (upd h0_copyAt_f h0_copies.toNatClampNeg a1))), (h0_copyLength, .inl (cI, h0_copyLength_n, .inl (upd h0_copyLength_f h0_copies.toNatClampNeg a2))), (h0_text, .inl (cI, h0_text_n, .inl h0_text_f)), (h0_copyOffset, .inl (cI, h0_copyOffset_n, .inl (upd h0_copyOffset_f h0_copies.toNatClampNeg r1)))] := hD
  obtain ⟨rfl, hq_1⟩ := Prod.mk.inj (Option.some.inj hf)
  obtain ⟨rfl, hq_2⟩ := Prod.mk.inj hq_1
  obtain ⟨rfl, hq_3⟩ := Prod.mk.inj hq_2
  obtain rfl := hq_3
  exact rt_v hQ hx hb hr hlocks hP hD hS dX12_copy_45

theorem dX12_match_0 : decode cX12_match 0 = .ok (.iload_n 1, 1) := by decide +kernel
theorem dX12_match_1 : decode cX12_match 1 = .ok (.aload_n 0, 1) := by decide +kernel
theorem dX12_match_2 : decode cX12_match 2 = .ok (.getfield 35, 3) := by decide +kernel
theorem dX12_match_5 : decode cX12_match 5 = .ok (.if_icmp .ge 18, 3) := by decide +kernel
theorem dX12_match_8 : decode cX12_match 8 = .ok (.iload_n 2, 1) := by decide +kernel
theorem dX12_match_9 : decode cX12_match 9 = .ok (.ifCond .eq 16, 3) := by decide +kernel
theorem dX12_match_12 : decode cX12_match 12 = .ok (.iload_n 1, 1) := by decide +kernel
theorem dX12_match_13 : decode cX12_match 13 = .ok (.aload_n 0, 1) := by decide +kernel
theorem dX12_match_14 : decode cX12_match 14 = .ok (.getfield 35, 3) := by decide +kernel
theorem dX12_match_17 : decode cX12_match 17 = .ok (.bipush 12, 2) := by decide +kernel
theorem dX12_match_19 : decode cX12_match 19 = .ok (.isub, 1) := by decide +kernel
theorem dX12_match_20 : decode cX12_match 20 = .ok (.if_icmp .le 5, 3) := by decide +kernel
theorem dX12_match_23 : decode cX12_match 23 = .ok (.iconst 0, 1) := by decide +kernel
theorem dX12_match_24 : decode cX12_match 24 = .ok (.ireturn, 1) := by decide +kernel
theorem dX12_match_25 : decode cX12_match 25 = .ok (.iload_n 2, 1) := by decide +kernel
theorem dX12_match_26 : decode cX12_match 26 = .ok (.ifCond .eq 23, 3) := by decide +kernel
theorem dX12_match_29 : decode cX12_match 29 = .ok (.aload_n 0, 1) := by decide +kernel
theorem dX12_match_30 : decode cX12_match 30 = .ok (.getfield 38, 3) := by decide +kernel
theorem dX12_match_33 : decode cX12_match 33 = .ok (.iload_n 1, 1) := by decide +kernel
theorem dX12_match_34 : decode cX12_match 34 = .ok (.iaload, 1) := by decide +kernel
theorem dX12_match_35 : decode cX12_match 35 = .ok (.aload_n 0, 1) := by decide +kernel
theorem dX12_match_36 : decode cX12_match 36 = .ok (.getfield 35, 3) := by decide +kernel
theorem dX12_match_39 : decode cX12_match 39 = .ok (.iconst 5, 1) := by decide +kernel
theorem dX12_match_40 : decode cX12_match 40 = .ok (.isub, 1) := by decide +kernel
theorem dX12_match_41 : decode cX12_match 41 = .ok (.iload_n 1, 1) := by decide +kernel
theorem dX12_match_42 : decode cX12_match 42 = .ok (.isub, 1) := by decide +kernel
theorem dX12_match_43 : decode cX12_match 43 = .ok (.invokestatic 59, 3) := by decide +kernel
theorem dX12_match_46 : decode cX12_match 46 = .ok (.goto 9, 3) := by decide +kernel
theorem dX12_match_49 : decode cX12_match 49 = .ok (.aload_n 0, 1) := by decide +kernel
theorem dX12_match_50 : decode cX12_match 50 = .ok (.getfield 38, 3) := by decide +kernel
theorem dX12_match_53 : decode cX12_match 53 = .ok (.iload_n 1, 1) := by decide +kernel
theorem dX12_match_54 : decode cX12_match 54 = .ok (.iaload, 1) := by decide +kernel
theorem dX12_match_55 : decode cX12_match 55 = .ok (.istore_n 3, 1) := by decide +kernel
theorem dX12_match_56 : decode cX12_match 56 = .ok (.iload_n 3, 1) := by decide +kernel
theorem dX12_match_57 : decode cX12_match 57 = .ok (.iconst 4, 1) := by decide +kernel
theorem dX12_match_58 : decode cX12_match 58 = .ok (.if_icmp .ge 7, 3) := by decide +kernel
theorem dX12_match_61 : decode cX12_match 61 = .ok (.iconst 0, 1) := by decide +kernel
theorem dX12_match_62 : decode cX12_match 62 = .ok (.goto 4, 3) := by decide +kernel
theorem dX12_match_65 : decode cX12_match 65 = .ok (.iload_n 3, 1) := by decide +kernel
theorem dX12_match_66 : decode cX12_match 66 = .ok (.ireturn, 1) := by decide +kernel
def m_Mo_match_J55 (s1 : Int32) : Option (Int32) :=
  if (4 : Int32) ≤ s1 then
    some s1
  else
    some (0 : Int32)
def m_Mo_match_J25 (a1 : Int32) (a2 : Int32) (h0_size : Int32) (h0_most_n : Nat) (h0_most_f : Nat → Int32) : Option (Int32) :=
  if a2 = 0 then
    chk a1 h0_most_n <|
    m_Mo_match_J55 (h0_most_f a1.toNatClampNeg)
  else
    chk a1 h0_most_n <|
    (m_Mo_small (h0_most_f a1.toNatClampNeg) ((h0_size - (5 : Int32)) - a1)).bind fun r2 =>
    m_Mo_match_J55 r2
def m_Mo_match (a1 : Int32) (a2 : Int32) (h0_size : Int32) (h0_most_n : Nat) (h0_most_f : Nat → Int32) : Option (Int32) :=
  if h0_size ≤ a1 then
    some (0 : Int32)
  else
    if a2 = 0 then
      m_Mo_match_J25 a1 a2 h0_size h0_most_n h0_most_f
    else
      if a1 ≤ (h0_size - (12 : Int32)) then
        m_Mo_match_J25 a1 a2 h0_size h0_most_n h0_most_f
      else
        some (0 : Int32)
def rm_Mo_match : Room := { frames := 1, cells := 0, slots := 0, locals := 21 }
set_option maxHeartbeats 4000000 in
set_option maxRecDepth 100000 in
theorem c_Mo_match {l : Launch} {dC : Nat → ClassId} {dI : Nat → Nat → Nat} {cB cI : ClassId} {sz : Nat} {h0 : Nat} {a1 : Int32} {a2 : Int32} {h0_most : Nat} {w_h0_in : Value} {w_h0_inSize : Value} {w_h0_out : Value} {w_h0_outSize : Value} {w_h0_dict : Value} {w_h0_dictSize : Value} {w_h0_told : Value} {w_h0_fresh : Value} {w_h0_freshSize : Value} {w_h0_text : Value} {w_h0_lean : Value} {h0_size : Int32} {w_h0_offset : Value} {w_h0_copyAt : Value} {w_h0_copies : Value} {w_h0_copyLength : Value} {w_h0_copyOffset : Value} {w_h0_fromHere : Value} {w_h0_withCopy : Value} {w_h0_bestCopy : Value} {w_h0_bestLiterals : Value} {w_h0_copiesOf : Value} {w_h0_literalsOf : Value} {w_h0_partsOf : Value} {w_h0_blocks : Value} {w_h0_blockMany : Value} {w_h0_newBlocks : Value} {w_h0_newMany : Value} {w_h0_rule : Value} {w_h0_place : Value} {w_h0_at : Value} {h0_most_n : Nat} {h0_most_f : Nat → Int32} {o_r : Int32} (hf : m_Mo_match a1 a2 h0_size h0_most_n h0_most_f = some o_r) : Met l yX12_match (Cond.code yX12_match cX12_match 4 (some .int) :: lw_G) rm_Mo_match (PreC (dC, dI) [(cB, .byte), (cI, .int)] [.ref h0, .int a1, .int a2] sz [(h0, .inr (10, [w_h0_in, w_h0_inSize, w_h0_out, w_h0_outSize, w_h0_dict, w_h0_dictSize, w_h0_told, w_h0_fresh, w_h0_freshSize, w_h0_text, w_h0_lean, .int h0_size, .ref h0_most, w_h0_offset, w_h0_copyAt, w_h0_copies, w_h0_copyLength, w_h0_copyOffset, w_h0_fromHere, w_h0_withCopy, w_h0_bestCopy, w_h0_bestLiterals, w_h0_copiesOf, w_h0_literalsOf, w_h0_partsOf, w_h0_blocks, w_h0_blockMany, w_h0_newBlocks, w_h0_newMany, w_h0_rule, w_h0_place, w_h0_at])), (h0_most, .inl (cI, h0_most_n, .inl h0_most_f))]) (QcI o_r (dC, dI) [(h0, .inr (10, [w_h0_in, w_h0_inSize, w_h0_out, w_h0_outSize, w_h0_dict, w_h0_dictSize, w_h0_told, w_h0_fresh, w_h0_freshSize, w_h0_text, w_h0_lean, .int h0_size, .ref h0_most, w_h0_offset, w_h0_copyAt, w_h0_copies, w_h0_copyLength, w_h0_copyOffset, w_h0_fromHere, w_h0_withCopy, w_h0_bestCopy, w_h0_bestLiterals, w_h0_copiesOf, w_h0_literalsOf, w_h0_partsOf, w_h0_blocks, w_h0_blockMany, w_h0_newBlocks, w_h0_newMany, w_h0_rule, w_h0_place, w_h0_at])), (h0_most, .inl (cI, h0_most_n, .inl h0_most_f))] (va_A [(h0, .inr (10, [w_h0_in, w_h0_inSize, w_h0_out, w_h0_outSize, w_h0_dict, w_h0_dictSize, w_h0_told, w_h0_fresh, w_h0_freshSize, w_h0_text, w_h0_lean, .int h0_size, .ref h0_most, w_h0_offset, w_h0_copyAt, w_h0_copies, w_h0_copyLength, w_h0_copyOffset, w_h0_fromHere, w_h0_withCopy, w_h0_bestCopy, w_h0_bestLiterals, w_h0_copiesOf, w_h0_literalsOf, w_h0_partsOf, w_h0_blocks, w_h0_blockMany, w_h0_newBlocks, w_h0_newMany, w_h0_rule, w_h0_place, w_h0_at])), (h0_most, .inl (cI, h0_most_n, .inl h0_most_f))] sz)) 0 0 (va_A [(h0, .inr (10, [w_h0_in, w_h0_inSize, w_h0_out, w_h0_outSize, w_h0_dict, w_h0_dictSize, w_h0_told, w_h0_fresh, w_h0_freshSize, w_h0_text, w_h0_lean, .int h0_size, .ref h0_most, w_h0_offset, w_h0_copyAt, w_h0_copies, w_h0_copyLength, w_h0_copyOffset, w_h0_fromHere, w_h0_withCopy, w_h0_bestCopy, w_h0_bestLiterals, w_h0_copiesOf, w_h0_literalsOf, w_h0_partsOf, w_h0_blocks, w_h0_blockMany, w_h0_newBlocks, w_h0_newMany, w_h0_rule, w_h0_place, w_h0_at])), (h0_most, .inl (cI, h0_most_n, .inl h0_most_f))] sz) := by
  refine met_of (Qf := fun A => QcI o_r (dC, dI) [(h0, .inr (10, [w_h0_in, w_h0_inSize, w_h0_out, w_h0_outSize, w_h0_dict, w_h0_dictSize, w_h0_told, w_h0_fresh, w_h0_freshSize, w_h0_text, w_h0_lean, .int h0_size, .ref h0_most, w_h0_offset, w_h0_copyAt, w_h0_copies, w_h0_copyLength, w_h0_copyOffset, w_h0_fromHere, w_h0_withCopy, w_h0_bestCopy, w_h0_bestLiterals, w_h0_copiesOf, w_h0_literalsOf, w_h0_partsOf, w_h0_blocks, w_h0_blockMany, w_h0_newBlocks, w_h0_newMany, w_h0_rule, w_h0_place, w_h0_at])), (h0_most, .inl (cI, h0_most_n, .inl h0_most_f))] A) (by decide) (Nat.le_of_ble_eq_true rfl) ?_
  intro p e s m below meth c A ls Q hx hb hr hml hown hts hlocks hnm hP hK hD hN hT hA hl hQ
  have hown : s.vm.findClass RX12 = some m.cls := hown
  have hS : va_S A s.heap s.heap [] := va_S.rf
  have hl : lv_has ls 4 [(0, .ref h0), (1, .int a1), (2, .int a2)] := hl
  unfold m_Mo_match at hf
  refine lv_iload_n hx hb dX12_match_0 rfl (lv_at hl 1 rfl) ?_
  refine lv_aload_n hx hb dX12_match_1 rfl (lv_at hl 0 rfl) ?_
  refine va_get (D := (dC, dI)) (ci := 10) (v := .int h0_size) (C := RX12) (T := TX12) (N := 32) hx hb hts inG_X12 hown hK hP 0 rfl rfl 11 (by decide) (hts _ kw_1063) (fun _ h9 => h9) rfl dX12_match_2 ?_
  refine lv_icmp_ge (tgt := 23) hx hb dX12_match_5 (by decide) (fun c_5 => ?_) (fun c_5 => ?_)
  · replace hf := if_t c_5 hf
    refine lv_iconst (v := 0) hx hb dX12_match_23 (by decide) ?_
    obtain rfl := Option.some.inj hf
    exact rt_i hQ hx hb hr hlocks hP hD hS dX12_match_24
  · replace hf := if_f c_5 hf
    refine lv_iload_n hx hb dX12_match_8 rfl (lv_at hl 2 rfl) ?_
    have hJ_25 : ∀ (H : Heap) (locs : List Loc) (ls : Array Slot), m_Mo_match_J25 a1 a2 h0_size h0_most_n h0_most_f = some o_r → va_P (dC, dI) vwCl [(h0, .inr (10, [w_h0_in, w_h0_inSize, w_h0_out, w_h0_outSize, w_h0_dict, w_h0_dictSize, w_h0_told, w_h0_fresh, w_h0_freshSize, w_h0_text, w_h0_lean, .int h0_size, .ref h0_most, w_h0_offset, w_h0_copyAt, w_h0_copies, w_h0_copyLength, w_h0_copyOffset, w_h0_fromHere, w_h0_withCopy, w_h0_bestCopy, w_h0_bestLiterals, w_h0_copiesOf, w_h0_literalsOf, w_h0_partsOf, w_h0_blocks, w_h0_blockMany, w_h0_newBlocks, w_h0_newMany, w_h0_rule, w_h0_place, w_h0_at])), (h0_most, .inl (cI, h0_most_n, .inl h0_most_f))] H → va_D A [(h0, .inr (10, [w_h0_in, w_h0_inSize, w_h0_out, w_h0_outSize, w_h0_dict, w_h0_dictSize, w_h0_told, w_h0_fresh, w_h0_freshSize, w_h0_text, w_h0_lean, .int h0_size, .ref h0_most, w_h0_offset, w_h0_copyAt, w_h0_copies, w_h0_copyLength, w_h0_copyOffset, w_h0_fromHere, w_h0_withCopy, w_h0_bestCopy, w_h0_bestLiterals, w_h0_copiesOf, w_h0_literalsOf, w_h0_partsOf, w_h0_blocks, w_h0_blockMany, w_h0_newBlocks, w_h0_newMany, w_h0_rule, w_h0_place, w_h0_at])), (h0_most, .inl (cI, h0_most_n, .inl h0_most_f))] → va_S A s.heap H locs → lv_has ls 4 [(0, .ref h0), (1, .int a1), (2, .int a2)] → W p l e (rm_Mo_match) s m ([.ref h0, .int a1, .int a2] : List Value).toArray below meth c H locs 0 0 Q (F0 m 25 ls []) := by
      intro  H locs ls hf hP hD hS hl
      unfold m_Mo_match_J25 at hf
      refine lv_iload_n hx hb dX12_match_25 rfl (lv_at hl 2 rfl) ?_
      have hJ_55 : ∀ (s1 : Int32) (H : Heap) (locs : List Loc) (ls : Array Slot), m_Mo_match_J55 s1 = some o_r → va_P (dC, dI) vwCl [(h0, .inr (10, [w_h0_in, w_h0_inSize, w_h0_out, w_h0_outSize, w_h0_dict, w_h0_dictSize, w_h0_told, w_h0_fresh, w_h0_freshSize, w_h0_text, w_h0_lean, .int h0_size, .ref h0_most, w_h0_offset, w_h0_copyAt, w_h0_copies, w_h0_copyLength, w_h0_copyOffset, w_h0_fromHere, w_h0_withCopy, w_h0_bestCopy, w_h0_bestLiterals, w_h0_copiesOf, w_h0_literalsOf, w_h0_partsOf, w_h0_blocks, w_h0_blockMany, w_h0_newBlocks, w_h0_newMany, w_h0_rule, w_h0_place, w_h0_at])), (h0_most, .inl (cI, h0_most_n, .inl h0_most_f))] H → va_D A [(h0, .inr (10, [w_h0_in, w_h0_inSize, w_h0_out, w_h0_outSize, w_h0_dict, w_h0_dictSize, w_h0_told, w_h0_fresh, w_h0_freshSize, w_h0_text, w_h0_lean, .int h0_size, .ref h0_most, w_h0_offset, w_h0_copyAt, w_h0_copies, w_h0_copyLength, w_h0_copyOffset, w_h0_fromHere, w_h0_withCopy, w_h0_bestCopy, w_h0_bestLiterals, w_h0_copiesOf, w_h0_literalsOf, w_h0_partsOf, w_h0_blocks, w_h0_blockMany, w_h0_newBlocks, w_h0_newMany, w_h0_rule, w_h0_place, w_h0_at])), (h0_most, .inl (cI, h0_most_n, .inl h0_most_f))] → va_S A s.heap H locs → lv_has ls 4 [] → W p l e (rm_Mo_match) s m ([.ref h0, .int a1, .int a2] : List Value).toArray below meth c H locs 0 0 Q (F0 m 55 ls [.int s1]) := by
        intro s1 H locs ls hf hP hD hS hl
        unfold m_Mo_match_J55 at hf
        refine lv_istore_n (lv' := [(3, .int s1)]) hx hb dX12_match_55 rfl hl (by decide) rfl (fun ls hl => ?_)
        refine lv_iload_n hx hb dX12_match_56 rfl (lv_at hl 0 rfl) ?_
        refine lv_iconst (v := 4) hx hb dX12_match_57 (by decide) ?_
        refine lv_icmp_ge (tgt := 65) hx hb dX12_match_58 (by decide) (fun c_58 => ?_) (fun c_58 => ?_)
        · replace hf := if_t c_58 hf
          refine lv_iload_n hx hb dX12_match_65 rfl (lv_at hl 0 rfl) ?_
          obtain rfl := Option.some.inj hf
          exact rt_i hQ hx hb hr hlocks hP hD hS dX12_match_66
        · replace hf := if_f c_58 hf
          refine lv_iconst (v := 0) hx hb dX12_match_61 (by decide) ?_
          refine lv_goto (tgt := 66) hx hb dX12_match_62 (by decide) ?_
          obtain rfl := Option.some.inj hf
          exact rt_i hQ hx hb hr hlocks hP hD hS dX12_match_66
      refine lv_if_eq (tgt := 49) hx hb dX12_match_26 (by decide) (fun c_26 => ?_) (fun c_26 => ?_)
      · replace hf := if_t c_26 hf
        refine lv_aload_n hx hb dX12_match_49 rfl (lv_at hl 0 rfl) ?_
        refine va_get (D := (dC, dI)) (ci := 10) (v := .ref h0_most) (C := RX12) (T := TX12) (N := 32) hx hb hts inG_X12 hown hK hP 0 rfl rfl 12 (by decide) (hts _ kw_1064) (fun _ h9 => h9) rfl dX12_match_50 ?_
        refine lv_iload_n hx hb dX12_match_53 rfl (lv_at hl 1 rfl) ?_
        obtain ⟨hin, hf⟩ := chk_some hf
        refine va_iald hx hb hK hP 1 1 rfl rfl hin dX12_match_54 ?_
        exact hJ_55 (h0_most_f a1.toNatClampNeg) _ _ _ hf hP hD hS (lv_sub hl [] rfl)
      · replace hf := if_f c_26 hf
        refine lv_aload_n hx hb dX12_match_29 rfl (lv_at hl 0 rfl) ?_
        refine va_get (D := (dC, dI)) (ci := 10) (v := .ref h0_most) (C := RX12) (T := TX12) (N := 32) hx hb hts inG_X12 hown hK hP 0 rfl rfl 12 (by decide) (hts _ kw_1064) (fun _ h9 => h9) rfl dX12_match_30 ?_
        refine lv_iload_n hx hb dX12_match_33 rfl (lv_at hl 1 rfl) ?_
        obtain ⟨hin, hf⟩ := chk_some hf
        refine va_iald hx hb hK hP 1 1 rfl rfl hin dX12_match_34 ?_
        refine lv_aload_n hx hb dX12_match_35 rfl (lv_at hl 0 rfl) ?_
        refine va_get (D := (dC, dI)) (ci := 10) (v := .int h0_size) (C := RX12) (T := TX12) (N := 32) hx hb hts inG_X12 hown hK hP 0 rfl rfl 11 (by decide) (hts _ kw_1063) (fun _ h9 => h9) rfl dX12_match_36 ?_
        refine lv_iconst (v := 5) hx hb dX12_match_39 (by decide) ?_
        refine lv_isub hx hb dX12_match_40 ?_
        refine lv_iload_n hx hb dX12_match_41 rfl (lv_at hl 1 rfl) ?_
        refine lv_isub hx hb dX12_match_42 ?_
        obtain ⟨r2, hc, hf⟩ := bind_some hf
        refine nx_i (rn_S (As := [.int (h0_most_f a1.toNatClampNeg), .int ((h0_size - (5 : Int32)) - a1)]) (rest := []) (n := 2) ⟨hx, hb, hml, hown, hts⟩ (c_Mo_small (l := l) (dC := dC) (dI := dI) (cB := cB) (cI := cI) (a0 := (h0_most_f a1.toNatClampNeg)) (a1 := ((h0_size - (5 : Int32)) - a1))  (o_r := r2) hc) (wS kw_1225 kw_1226 kw_94 kw_1227) (by decide +kernel) ⟨Nat.le_of_ble_eq_true rfl, Nat.le_of_ble_eq_true rfl⟩ hK hP hD hN hT hS (va_free (wc := []) hD hS hA [] rfl) [] rfl (by decide) rfl hl.1 rfl (lv_room (Nat.le_of_ble_eq_true rfl)) dX12_match_43 ⟨Nat.le_of_ble_eq_true rfl, Nat.le_of_ble_eq_true rfl⟩) hP hD hS hA (wr := [(h0, .inr (10, [w_h0_in, w_h0_inSize, w_h0_out, w_h0_outSize, w_h0_dict, w_h0_dictSize, w_h0_told, w_h0_fresh, w_h0_freshSize, w_h0_text, w_h0_lean, .int h0_size, .ref h0_most, w_h0_offset, w_h0_copyAt, w_h0_copies, w_h0_copyLength, w_h0_copyOffset, w_h0_fromHere, w_h0_withCopy, w_h0_bestCopy, w_h0_bestLiterals, w_h0_copiesOf, w_h0_literalsOf, w_h0_partsOf, w_h0_blocks, w_h0_blockMany, w_h0_newBlocks, w_h0_newMany, w_h0_rule, w_h0_place, w_h0_at])), (h0_most, .inl (cI, h0_most_n, .inl h0_most_f))]) (w1 := []) (ws' := [(h0, .inr (10, [w_h0_in, w_h0_inSize, w_h0_out, w_h0_outSize, w_h0_dict, w_h0_dictSize, w_h0_told, w_h0_fresh, w_h0_freshSize, w_h0_text, w_h0_lean, .int h0_size, .ref h0_most, w_h0_offset, w_h0_copyAt, w_h0_copies, w_h0_copyLength, w_h0_copyOffset, w_h0_fromHere, w_h0_withCopy, w_h0_bestCopy, w_h0_bestLiterals, w_h0_copiesOf, w_h0_literalsOf, w_h0_partsOf, w_h0_blocks, w_h0_blockMany, w_h0_newBlocks, w_h0_newMany, w_h0_rule, w_h0_place, w_h0_at])), (h0_most, .inl (cI, h0_most_n, .inl h0_most_f))]) [] [0, 1] [0, 1] rfl rfl (by decide) (by decide) rfl (by decide) (fun H locs hP hD hS => ?_)
        refine lv_goto (tgt := 55) hx hb dX12_match_46 (by decide) ?_
        exact hJ_55 r2 _ _ _ hf hP hD hS (lv_sub hl [] rfl)
    refine lv_if_eq (tgt := 25) hx hb dX12_match_9 (by decide) (fun c_9 => ?_) (fun c_9 => ?_)
    · replace hf := if_t c_9 hf
      exact hJ_25  _ _ _ hf hP hD hS (lv_sub hl [0, 1, 2] rfl)
    · replace hf := if_f c_9 hf
      refine lv_iload_n hx hb dX12_match_12 rfl (lv_at hl 1 rfl) ?_
      refine lv_aload_n hx hb dX12_match_13 rfl (lv_at hl 0 rfl) ?_
      refine va_get (D := (dC, dI)) (ci := 10) (v := .int h0_size) (C := RX12) (T := TX12) (N := 32) hx hb hts inG_X12 hown hK hP 0 rfl rfl 11 (by decide) (hts _ kw_1063) (fun _ h9 => h9) rfl dX12_match_14 ?_
      refine lv_bipush (v := 12) hx hb dX12_match_17 (by decide) ?_
      refine lv_isub hx hb dX12_match_19 ?_
      refine lv_icmp_le (tgt := 25) hx hb dX12_match_20 (by decide) (fun c_20 => ?_) (fun c_20 => ?_)
      · replace hf := if_t c_20 hf
        exact hJ_25  _ _ _ hf hP hD hS (lv_sub hl [0, 1, 2] rfl)
      · replace hf := if_f c_20 hf
        refine lv_iconst (v := 0) hx hb dX12_match_23 (by decide) ?_
        obtain rfl := Option.some.inj hf
        exact rt_i hQ hx hb hr hlocks hP hD hS dX12_match_24

theorem dX12_greedy_0 : decode cX12_greedy 0 = .ok (.iconst 0, 1) := by decide +kernel
theorem dX12_greedy_1 : decode cX12_greedy 1 = .ok (.istore_n 3, 1) := by decide +kernel
theorem dX12_greedy_2 : decode cX12_greedy 2 = .ok (.aload_n 0, 1) := by decide +kernel
theorem dX12_greedy_3 : decode cX12_greedy 3 = .ok (.iconst 0, 1) := by decide +kernel
theorem dX12_greedy_4 : decode cX12_greedy 4 = .ok (.iload_n 1, 1) := by decide +kernel
theorem dX12_greedy_5 : decode cX12_greedy 5 = .ok (.invokevirtual 62, 3) := by decide +kernel
theorem dX12_greedy_8 : decode cX12_greedy 8 = .ok (.istore 4, 2) := by decide +kernel
theorem dX12_greedy_10 : decode cX12_greedy 10 = .ok (.iload_n 3, 1) := by decide +kernel
theorem dX12_greedy_11 : decode cX12_greedy 11 = .ok (.aload_n 0, 1) := by decide +kernel
theorem dX12_greedy_12 : decode cX12_greedy 12 = .ok (.getfield 35, 3) := by decide +kernel
theorem dX12_greedy_15 : decode cX12_greedy 15 = .ok (.if_icmp .ge 128, 3) := by decide +kernel
theorem dX12_greedy_18 : decode cX12_greedy 18 = .ok (.iload 4, 2) := by decide +kernel
theorem dX12_greedy_20 : decode cX12_greedy 20 = .ok (.ifCond .eq 7, 3) := by decide +kernel
theorem dX12_greedy_23 : decode cX12_greedy 23 = .ok (.iload_n 2, 1) := by decide +kernel
theorem dX12_greedy_24 : decode cX12_greedy 24 = .ok (.ifCond .eq 14, 3) := by decide +kernel
theorem dX12_greedy_27 : decode cX12_greedy 27 = .ok (.aload_n 0, 1) := by decide +kernel
theorem dX12_greedy_28 : decode cX12_greedy 28 = .ok (.iload_n 3, 1) := by decide +kernel
theorem dX12_greedy_29 : decode cX12_greedy 29 = .ok (.iconst 1, 1) := by decide +kernel
theorem dX12_greedy_30 : decode cX12_greedy 30 = .ok (.iadd, 1) := by decide +kernel
theorem dX12_greedy_31 : decode cX12_greedy 31 = .ok (.iload_n 1, 1) := by decide +kernel
theorem dX12_greedy_32 : decode cX12_greedy 32 = .ok (.invokevirtual 62, 3) := by decide +kernel
theorem dX12_greedy_35 : decode cX12_greedy 35 = .ok (.goto 4, 3) := by decide +kernel
theorem dX12_greedy_38 : decode cX12_greedy 38 = .ok (.iconst 0, 1) := by decide +kernel
theorem dX12_greedy_39 : decode cX12_greedy 39 = .ok (.istore 5, 2) := by decide +kernel
theorem dX12_greedy_41 : decode cX12_greedy 41 = .ok (.iload 4, 2) := by decide +kernel
theorem dX12_greedy_43 : decode cX12_greedy 43 = .ok (.ifCond .eq 14, 3) := by decide +kernel
theorem dX12_greedy_46 : decode cX12_greedy 46 = .ok (.iload_n 2, 1) := by decide +kernel
theorem dX12_greedy_47 : decode cX12_greedy 47 = .ok (.ifCond .eq 20, 3) := by decide +kernel
theorem dX12_greedy_50 : decode cX12_greedy 50 = .ok (.iload 5, 2) := by decide +kernel
theorem dX12_greedy_52 : decode cX12_greedy 52 = .ok (.iload 4, 2) := by decide +kernel
theorem dX12_greedy_54 : decode cX12_greedy 54 = .ok (.if_icmp .le 13, 3) := by decide +kernel
theorem dX12_greedy_57 : decode cX12_greedy 57 = .ok (.iinc 3 1, 3) := by decide +kernel
theorem dX12_greedy_60 : decode cX12_greedy 60 = .ok (.iload 5, 2) := by decide +kernel
theorem dX12_greedy_62 : decode cX12_greedy 62 = .ok (.istore 4, 2) := by decide +kernel
theorem dX12_greedy_64 : decode cX12_greedy 64 = .ok (.goto 76, 3) := by decide +kernel
theorem dX12_greedy_67 : decode cX12_greedy 67 = .ok (.iload 4, 2) := by decide +kernel
theorem dX12_greedy_69 : decode cX12_greedy 69 = .ok (.istore 6, 2) := by decide +kernel
theorem dX12_greedy_71 : decode cX12_greedy 71 = .ok (.iload_n 1, 1) := by decide +kernel
theorem dX12_greedy_72 : decode cX12_greedy 72 = .ok (.ifCond .ne 48, 3) := by decide +kernel
theorem dX12_greedy_75 : decode cX12_greedy 75 = .ok (.iload 6, 2) := by decide +kernel
theorem dX12_greedy_77 : decode cX12_greedy 77 = .ok (.bipush 64, 2) := by decide +kernel
theorem dX12_greedy_79 : decode cX12_greedy 79 = .ok (.if_icmp .le 41, 3) := by decide +kernel
theorem dX12_greedy_82 : decode cX12_greedy 82 = .ok (.iload 6, 2) := by decide +kernel
theorem dX12_greedy_84 : decode cX12_greedy 84 = .ok (.bipush 68, 2) := by decide +kernel
theorem dX12_greedy_86 : decode cX12_greedy 86 = .ok (.if_icmp .lt 8, 3) := by decide +kernel
theorem dX12_greedy_89 : decode cX12_greedy 89 = .ok (.bipush 64, 2) := by decide +kernel
theorem dX12_greedy_91 : decode cX12_greedy 91 = .ok (.goto 5, 3) := by decide +kernel
theorem dX12_greedy_94 : decode cX12_greedy 94 = .ok (.bipush 60, 2) := by decide +kernel
theorem dX12_greedy_96 : decode cX12_greedy 96 = .ok (.istore 7, 2) := by decide +kernel
theorem dX12_greedy_98 : decode cX12_greedy 98 = .ok (.aload_n 0, 1) := by decide +kernel
theorem dX12_greedy_99 : decode cX12_greedy 99 = .ok (.iload_n 3, 1) := by decide +kernel
theorem dX12_greedy_100 : decode cX12_greedy 100 = .ok (.iload 7, 2) := by decide +kernel
theorem dX12_greedy_102 : decode cX12_greedy 102 = .ok (.invokevirtual 66, 3) := by decide +kernel
theorem dX12_greedy_105 : decode cX12_greedy 105 = .ok (.iload_n 3, 1) := by decide +kernel
theorem dX12_greedy_106 : decode cX12_greedy 106 = .ok (.iload 7, 2) := by decide +kernel
theorem dX12_greedy_108 : decode cX12_greedy 108 = .ok (.iadd, 1) := by decide +kernel
theorem dX12_greedy_109 : decode cX12_greedy 109 = .ok (.istore_n 3, 1) := by decide +kernel
theorem dX12_greedy_110 : decode cX12_greedy 110 = .ok (.iload 6, 2) := by decide +kernel
theorem dX12_greedy_112 : decode cX12_greedy 112 = .ok (.iload 7, 2) := by decide +kernel
theorem dX12_greedy_114 : decode cX12_greedy 114 = .ok (.isub, 1) := by decide +kernel
theorem dX12_greedy_115 : decode cX12_greedy 115 = .ok (.istore 6, 2) := by decide +kernel
theorem dX12_greedy_117 : decode cX12_greedy 117 = .ok (.goto (-46), 3) := by decide +kernel
theorem dX12_greedy_120 : decode cX12_greedy 120 = .ok (.aload_n 0, 1) := by decide +kernel
theorem dX12_greedy_121 : decode cX12_greedy 121 = .ok (.iload_n 3, 1) := by decide +kernel
theorem dX12_greedy_122 : decode cX12_greedy 122 = .ok (.iload 6, 2) := by decide +kernel
theorem dX12_greedy_124 : decode cX12_greedy 124 = .ok (.invokevirtual 66, 3) := by decide +kernel
theorem dX12_greedy_127 : decode cX12_greedy 127 = .ok (.iload_n 3, 1) := by decide +kernel
theorem dX12_greedy_128 : decode cX12_greedy 128 = .ok (.iload 6, 2) := by decide +kernel
theorem dX12_greedy_130 : decode cX12_greedy 130 = .ok (.iadd, 1) := by decide +kernel
theorem dX12_greedy_131 : decode cX12_greedy 131 = .ok (.istore_n 3, 1) := by decide +kernel
theorem dX12_greedy_132 : decode cX12_greedy 132 = .ok (.aload_n 0, 1) := by decide +kernel
theorem dX12_greedy_133 : decode cX12_greedy 133 = .ok (.iload_n 3, 1) := by decide +kernel
theorem dX12_greedy_134 : decode cX12_greedy 134 = .ok (.iload_n 1, 1) := by decide +kernel
theorem dX12_greedy_135 : decode cX12_greedy 135 = .ok (.invokevirtual 62, 3) := by decide +kernel
theorem dX12_greedy_138 : decode cX12_greedy 138 = .ok (.istore 4, 2) := by decide +kernel
theorem dX12_greedy_140 : decode cX12_greedy 140 = .ok (.goto (-130), 3) := by decide +kernel
theorem dX12_greedy_143 : decode cX12_greedy 143 = .ok (.return_, 1) := by decide +kernel
def m_Mo_greedy_J57 (f2 : Nat → Int32) (f3 : Nat → Int32) (f4 : Nat → Int32) (g5 : Int32) (j3_6 : Int32) (s8 : Int32) : Option (((Nat → Int32) × (Nat → Int32) × (Nat → Int32) × Int32 × Int32 × Int32) ⊕ ((((Int32 × (Nat → Int32) × (Nat → Int32) × (Nat → Int32)))))) :=
  bnd (j3_6 + (1 : Int32)) fun v3_9 =>
  some (.inl (f2, f3, f4, g5, v3_9, s8))
def m_Mo_greedy_E120 (a1 : Int32) (h0_lean : Int32) (h0_size : Int32) (h0_most_n : Nat) (h0_most_f : Nat → Int32) (h0_copyAt_n : Nat) (h0_copyLength_n : Nat) (h0_text_n : Nat) (h0_text_f : Nat → Int32) (h0_copyOffset_n : Nat) (f10 : Nat → Int32) (f11 : Nat → Int32) (f12 : Nat → Int32) (g13 : Int32) (j3_14 : Int32) (j6_15 : Int32) : Option (((Nat → Int32) × (Nat → Int32) × (Nat → Int32) × Int32 × Int32 × Int32) ⊕ ((((Int32 × (Nat → Int32) × (Nat → Int32) × (Nat → Int32)))))) :=
  (m_Mo_copy j3_14 j6_15 h0_lean h0_size g13 h0_copyAt_n f10 h0_copyLength_n f11 h0_text_n h0_text_f h0_copyOffset_n f12).bind fun (u16, u17, u18, u19) =>
  bnd (j3_14 + j6_15) fun v3_20 =>
  (m_Mo_match v3_20 a1 h0_size h0_most_n h0_most_f).bind fun r21 =>
  some (.inl (u17, u18, u19, u16, v3_20, r21))
def m_Mo_greedy_J96 (h0_lean : Int32) (h0_size : Int32) (h0_copyAt_n : Nat) (h0_copyLength_n : Nat) (h0_text_n : Nat) (h0_text_f : Nat → Int32) (h0_copyOffset_n : Nat) (f22 : Nat → Int32) (f23 : Nat → Int32) (f24 : Nat → Int32) (g25 : Int32) (j3_26 : Int32) (j6_27 : Int32) (s28 : Int32) : Option (((Nat → Int32) × (Nat → Int32) × (Nat → Int32) × Int32 × Int32 × Int32) ⊕ (((Nat → Int32) × (Nat → Int32) × (Nat → Int32) × Int32 × Int32 × Int32))) :=
  (m_Mo_copy j3_26 s28 h0_lean h0_size g25 h0_copyAt_n f22 h0_copyLength_n f23 h0_text_n h0_text_f h0_copyOffset_n f24).bind fun (u29, u30, u31, u32) =>
  bnd (j3_26 + s28) fun v3_33 =>
  bnd (j6_27 - s28) fun v6_34 =>
  some (.inl (u30, u31, u32, u29, v3_33, v6_34))
def m_Mo_greedy_B71 (a1 : Int32) (h0_lean : Int32) (h0_size : Int32) (h0_copyAt_n : Nat) (h0_copyLength_n : Nat) (h0_text_n : Nat) (h0_text_f : Nat → Int32) (h0_copyOffset_n : Nat) (f22 : Nat → Int32) (f23 : Nat → Int32) (f24 : Nat → Int32) (g25 : Int32) (j3_26 : Int32) (j6_27 : Int32) : Option (((Nat → Int32) × (Nat → Int32) × (Nat → Int32) × Int32 × Int32 × Int32) ⊕ (((Nat → Int32) × (Nat → Int32) × (Nat → Int32) × Int32 × Int32 × Int32))) :=
  if a1 = 0 then
    if j6_27 ≤ (64 : Int32) then
      some (.inr (f22, f23, f24, g25, j3_26, j6_27))
    else
      if j6_27 < (68 : Int32) then
        m_Mo_greedy_J96 h0_lean h0_size h0_copyAt_n h0_copyLength_n h0_text_n h0_text_f h0_copyOffset_n f22 f23 f24 g25 j3_26 j6_27 (60 : Int32)
      else
        m_Mo_greedy_J96 h0_lean h0_size h0_copyAt_n h0_copyLength_n h0_text_n h0_text_f h0_copyOffset_n f22 f23 f24 g25 j3_26 j6_27 (64 : Int32)
  else
    some (.inr (f22, f23, f24, g25, j3_26, j6_27))
def m_Mo_greedy_J67 (a1 : Int32) (h0_lean : Int32) (h0_size : Int32) (h0_most_n : Nat) (h0_most_f : Nat → Int32) (h0_copyAt_n : Nat) (h0_copyLength_n : Nat) (h0_text_n : Nat) (h0_text_f : Nat → Int32) (h0_copyOffset_n : Nat) (f2 : Nat → Int32) (f3 : Nat → Int32) (f4 : Nat → Int32) (g5 : Int32) (j3_6 : Int32) (j4_7 : Int32) : Option (((Nat → Int32) × (Nat → Int32) × (Nat → Int32) × Int32 × Int32 × Int32) ⊕ ((((Int32 × (Nat → Int32) × (Nat → Int32) × (Nat → Int32)))))) :=
  (iter (fun st => m_Mo_greedy_B71 a1 h0_lean h0_size h0_copyAt_n h0_copyLength_n h0_text_n h0_text_f h0_copyOffset_n st.1 st.2.1 st.2.2.1 st.2.2.2.1 st.2.2.2.2.1 st.2.2.2.2.2) FU (f2, f3, f4, g5, j3_6, j4_7)).bind fun o => m_Mo_greedy_E120 a1 h0_lean h0_size h0_most_n h0_most_f h0_copyAt_n h0_copyLength_n h0_text_n h0_text_f h0_copyOffset_n o.1 o.2.1 o.2.2.1 o.2.2.2.1 o.2.2.2.2.1 o.2.2.2.2.2
def m_Mo_greedy_J39 (a1 : Int32) (a2 : Int32) (h0_lean : Int32) (h0_size : Int32) (h0_most_n : Nat) (h0_most_f : Nat → Int32) (h0_copyAt_n : Nat) (h0_copyLength_n : Nat) (h0_text_n : Nat) (h0_text_f : Nat → Int32) (h0_copyOffset_n : Nat) (f2 : Nat → Int32) (f3 : Nat → Int32) (f4 : Nat → Int32) (g5 : Int32) (j3_6 : Int32) (j4_7 : Int32) (s8 : Int32) : Option (((Nat → Int32) × (Nat → Int32) × (Nat → Int32) × Int32 × Int32 × Int32) ⊕ ((((Int32 × (Nat → Int32) × (Nat → Int32) × (Nat → Int32)))))) :=
  if j4_7 = 0 then
    m_Mo_greedy_J57 f2 f3 f4 g5 j3_6 s8
  else
    if a2 = 0 then
      m_Mo_greedy_J67 a1 h0_lean h0_size h0_most_n h0_most_f h0_copyAt_n h0_copyLength_n h0_text_n h0_text_f h0_copyOffset_n f2 f3 f4 g5 j3_6 j4_7
    else
      if s8 ≤ j4_7 then
        m_Mo_greedy_J67 a1 h0_lean h0_size h0_most_n h0_most_f h0_copyAt_n h0_copyLength_n h0_text_n h0_text_f h0_copyOffset_n f2 f3 f4 g5 j3_6 j4_7
      else
        m_Mo_greedy_J57 f2 f3 f4 g5 j3_6 s8
def m_Mo_greedy_J27 (a1 : Int32) (a2 : Int32) (h0_lean : Int32) (h0_size : Int32) (h0_most_n : Nat) (h0_most_f : Nat → Int32) (h0_copyAt_n : Nat) (h0_copyLength_n : Nat) (h0_text_n : Nat) (h0_text_f : Nat → Int32) (h0_copyOffset_n : Nat) (f2 : Nat → Int32) (f3 : Nat → Int32) (f4 : Nat → Int32) (g5 : Int32) (j3_6 : Int32) (j4_7 : Int32) : Option (((Nat → Int32) × (Nat → Int32) × (Nat → Int32) × Int32 × Int32 × Int32) ⊕ ((((Int32 × (Nat → Int32) × (Nat → Int32) × (Nat → Int32)))))) :=
  (m_Mo_match (j3_6 + (1 : Int32)) a1 h0_size h0_most_n h0_most_f).bind fun r35 =>
  m_Mo_greedy_J39 a1 a2 h0_lean h0_size h0_most_n h0_most_f h0_copyAt_n h0_copyLength_n h0_text_n h0_text_f h0_copyOffset_n f2 f3 f4 g5 j3_6 j4_7 r35
def m_Mo_greedy_B10 (a1 : Int32) (a2 : Int32) (h0_lean : Int32) (h0_size : Int32) (h0_most_n : Nat) (h0_most_f : Nat → Int32) (h0_copyAt_n : Nat) (h0_copyLength_n : Nat) (h0_text_n : Nat) (h0_text_f : Nat → Int32) (h0_copyOffset_n : Nat) (f2 : Nat → Int32) (f3 : Nat → Int32) (f4 : Nat → Int32) (g5 : Int32) (j3_6 : Int32) (j4_7 : Int32) : Option (((Nat → Int32) × (Nat → Int32) × (Nat → Int32) × Int32 × Int32 × Int32) ⊕ ((((Int32 × (Nat → Int32) × (Nat → Int32) × (Nat → Int32)))))) :=
  if h0_size ≤ j3_6 then
    some (.inr (g5, f2, f3, f4))
  else
    if j4_7 = 0 then
      m_Mo_greedy_J27 a1 a2 h0_lean h0_size h0_most_n h0_most_f h0_copyAt_n h0_copyLength_n h0_text_n h0_text_f h0_copyOffset_n f2 f3 f4 g5 j3_6 j4_7
    else
      if a2 = 0 then
        m_Mo_greedy_J39 a1 a2 h0_lean h0_size h0_most_n h0_most_f h0_copyAt_n h0_copyLength_n h0_text_n h0_text_f h0_copyOffset_n f2 f3 f4 g5 j3_6 j4_7 (0 : Int32)
      else
        m_Mo_greedy_J27 a1 a2 h0_lean h0_size h0_most_n h0_most_f h0_copyAt_n h0_copyLength_n h0_text_n h0_text_f h0_copyOffset_n f2 f3 f4 g5 j3_6 j4_7
def m_Mo_greedy (a1 : Int32) (a2 : Int32) (h0_lean : Int32) (h0_size : Int32) (h0_copies : Int32) (h0_most_n : Nat) (h0_most_f : Nat → Int32) (h0_copyAt_n : Nat) (h0_copyAt_f : Nat → Int32) (h0_copyLength_n : Nat) (h0_copyLength_f : Nat → Int32) (h0_text_n : Nat) (h0_text_f : Nat → Int32) (h0_copyOffset_n : Nat) (h0_copyOffset_f : Nat → Int32) : Option (Int32 × (Nat → Int32) × (Nat → Int32) × (Nat → Int32)) :=
  (m_Mo_match (0 : Int32) a1 h0_size h0_most_n h0_most_f).bind fun r1 =>
  (iter (fun st => m_Mo_greedy_B10 a1 a2 h0_lean h0_size h0_most_n h0_most_f h0_copyAt_n h0_copyLength_n h0_text_n h0_text_f h0_copyOffset_n st.1 st.2.1 st.2.2.1 st.2.2.2.1 st.2.2.2.2.1 st.2.2.2.2.2) FU (h0_copyAt_f, h0_copyLength_f, h0_copyOffset_f, h0_copies, (0 : Int32), r1)).bind fun o => some o
def rm_Mo_greedy : Room := { frames := 3, cells := 0, slots := 0, locals := 71 }
set_option maxHeartbeats 4000000 in
set_option maxRecDepth 100000 in
theorem c_Mo_greedy {l : Launch} {dC : Nat → ClassId} {dI : Nat → Nat → Nat} {cB cI : ClassId} {sz : Nat} {h0 : Nat} {a1 : Int32} {a2 : Int32} {h0_most : Nat} {h0_copyAt : Nat} {h0_copyLength : Nat} {h0_text : Nat} {h0_copyOffset : Nat} {w_h0_in : Value} {w_h0_inSize : Value} {w_h0_out : Value} {w_h0_outSize : Value} {w_h0_dict : Value} {w_h0_dictSize : Value} {w_h0_told : Value} {w_h0_fresh : Value} {w_h0_freshSize : Value} {h0_lean : Int32} {h0_size : Int32} {w_h0_offset : Value} {h0_copies : Int32} {w_h0_fromHere : Value} {w_h0_withCopy : Value} {w_h0_bestCopy : Value} {w_h0_bestLiterals : Value} {w_h0_copiesOf : Value} {w_h0_literalsOf : Value} {w_h0_partsOf : Value} {w_h0_blocks : Value} {w_h0_blockMany : Value} {w_h0_newBlocks : Value} {w_h0_newMany : Value} {w_h0_rule : Value} {w_h0_place : Value} {w_h0_at : Value} {h0_most_n : Nat} {h0_most_f : Nat → Int32} {h0_copyAt_n : Nat} {h0_copyAt_f : Nat → Int32} {h0_copyLength_n : Nat} {h0_copyLength_f : Nat → Int32} {h0_text_n : Nat} {h0_text_f : Nat → Int32} {h0_copyOffset_n : Nat} {h0_copyOffset_f : Nat → Int32} {o_h0_copies : Int32} {o_h0_copyAt_f : Nat → Int32} {o_h0_copyLength_f : Nat → Int32} {o_h0_copyOffset_f : Nat → Int32} (hf : m_Mo_greedy a1 a2 h0_lean h0_size h0_copies h0_most_n h0_most_f h0_copyAt_n h0_copyAt_f h0_copyLength_n h0_copyLength_f h0_text_n h0_text_f h0_copyOffset_n h0_copyOffset_f = some (o_h0_copies, o_h0_copyAt_f, o_h0_copyLength_f, o_h0_copyOffset_f)) : Met l yX12_greedy (Cond.code yX12_greedy cX12_greedy 8 none :: lw_G) rm_Mo_greedy (PreC (dC, dI) [(cB, .byte), (cI, .int)] [.ref h0, .int a1, .int a2] sz [(h0, .inr (10, [w_h0_in, w_h0_inSize, w_h0_out, w_h0_outSize, w_h0_dict, w_h0_dictSize, w_h0_told, w_h0_fresh, w_h0_freshSize, .ref h0_text, .int h0_lean, .int h0_size, .ref h0_most, w_h0_offset, .ref h0_copyAt, .int h0_copies, .ref h0_copyLength, .ref h0_copyOffset, w_h0_fromHere, w_h0_withCopy, w_h0_bestCopy, w_h0_bestLiterals, w_h0_copiesOf, w_h0_literalsOf, w_h0_partsOf, w_h0_blocks, w_h0_blockMany, w_h0_newBlocks, w_h0_newMany, w_h0_rule, w_h0_place, w_h0_at])), (h0_most, .inl (cI, h0_most_n, .inl h0_most_f)), (h0_copyAt, .inl (cI, h0_copyAt_n, .inl h0_copyAt_f)), (h0_copyLength, .inl (cI, h0_copyLength_n, .inl h0_copyLength_f)), (h0_text, .inl (cI, h0_text_n, .inl h0_text_f)), (h0_copyOffset, .inl (cI, h0_copyOffset_n, .inl h0_copyOffset_f))]) (QcV (dC, dI) [(h0, .inr (10, [w_h0_in, w_h0_inSize, w_h0_out, w_h0_outSize, w_h0_dict, w_h0_dictSize, w_h0_told, w_h0_fresh, w_h0_freshSize, .ref h0_text, .int h0_lean, .int h0_size, .ref h0_most, w_h0_offset, .ref h0_copyAt, .int o_h0_copies, .ref h0_copyLength, .ref h0_copyOffset, w_h0_fromHere, w_h0_withCopy, w_h0_bestCopy, w_h0_bestLiterals, w_h0_copiesOf, w_h0_literalsOf, w_h0_partsOf, w_h0_blocks, w_h0_blockMany, w_h0_newBlocks, w_h0_newMany, w_h0_rule, w_h0_place, w_h0_at])), (h0_most, .inl (cI, h0_most_n, .inl h0_most_f)), (h0_copyAt, .inl (cI, h0_copyAt_n, .inl o_h0_copyAt_f)), (h0_copyLength, .inl (cI, h0_copyLength_n, .inl o_h0_copyLength_f)), (h0_text, .inl (cI, h0_text_n, .inl h0_text_f)), (h0_copyOffset, .inl (cI, h0_copyOffset_n, .inl o_h0_copyOffset_f))] (va_A [(h0, .inr (10, [w_h0_in, w_h0_inSize, w_h0_out, w_h0_outSize, w_h0_dict, w_h0_dictSize, w_h0_told, w_h0_fresh, w_h0_freshSize, .ref h0_text, .int h0_lean, .int h0_size, .ref h0_most, w_h0_offset, .ref h0_copyAt, .int h0_copies, .ref h0_copyLength, .ref h0_copyOffset, w_h0_fromHere, w_h0_withCopy, w_h0_bestCopy, w_h0_bestLiterals, w_h0_copiesOf, w_h0_literalsOf, w_h0_partsOf, w_h0_blocks, w_h0_blockMany, w_h0_newBlocks, w_h0_newMany, w_h0_rule, w_h0_place, w_h0_at])), (h0_most, .inl (cI, h0_most_n, .inl h0_most_f)), (h0_copyAt, .inl (cI, h0_copyAt_n, .inl h0_copyAt_f)), (h0_copyLength, .inl (cI, h0_copyLength_n, .inl h0_copyLength_f)), (h0_text, .inl (cI, h0_text_n, .inl h0_text_f)), (h0_copyOffset, .inl (cI, h0_copyOffset_n, .inl h0_copyOffset_f))] sz)) 0 0 (va_A [(h0, .inr (10, [w_h0_in, w_h0_inSize, w_h0_out, w_h0_outSize, w_h0_dict, w_h0_dictSize, w_h0_told, w_h0_fresh, w_h0_freshSize, .ref h0_text, .int h0_lean, .int h0_size, .ref h0_most, w_h0_offset, .ref h0_copyAt, .int h0_copies, .ref h0_copyLength, .ref h0_copyOffset, w_h0_fromHere, w_h0_withCopy, w_h0_bestCopy, w_h0_bestLiterals, w_h0_copiesOf, w_h0_literalsOf, w_h0_partsOf, w_h0_blocks, w_h0_blockMany, w_h0_newBlocks, w_h0_newMany, w_h0_rule, w_h0_place, w_h0_at])), (h0_most, .inl (cI, h0_most_n, .inl h0_most_f)), (h0_copyAt, .inl (cI, h0_copyAt_n, .inl h0_copyAt_f)), (h0_copyLength, .inl (cI, h0_copyLength_n, .inl h0_copyLength_f)), (h0_text, .inl (cI, h0_text_n, .inl h0_text_f)), (h0_copyOffset, .inl (cI, h0_copyOffset_n, .inl h0_copyOffset_f))] sz) := by
  refine met_of (Qf := fun A => QcV (dC, dI) [(h0, .inr (10, [w_h0_in, w_h0_inSize, w_h0_out, w_h0_outSize, w_h0_dict, w_h0_dictSize, w_h0_told, w_h0_fresh, w_h0_freshSize, .ref h0_text, .int h0_lean, .int h0_size, .ref h0_most, w_h0_offset, .ref h0_copyAt, .int o_h0_copies, .ref h0_copyLength, .ref h0_copyOffset, w_h0_fromHere, w_h0_withCopy, w_h0_bestCopy, w_h0_bestLiterals, w_h0_copiesOf, w_h0_literalsOf, w_h0_partsOf, w_h0_blocks, w_h0_blockMany, w_h0_newBlocks, w_h0_newMany, w_h0_rule, w_h0_place, w_h0_at])), (h0_most, .inl (cI, h0_most_n, .inl h0_most_f)), (h0_copyAt, .inl (cI, h0_copyAt_n, .inl o_h0_copyAt_f)), (h0_copyLength, .inl (cI, h0_copyLength_n, .inl o_h0_copyLength_f)), (h0_text, .inl (cI, h0_text_n, .inl h0_text_f)), (h0_copyOffset, .inl (cI, h0_copyOffset_n, .inl o_h0_copyOffset_f))] A) (by decide) (Nat.le_of_ble_eq_true rfl) ?_
  intro p e s m below meth c A ls Q hx hb hr hml hown hts hlocks hnm hP hK hD hN hT hA hl hQ
  have hown : s.vm.findClass RX12 = some m.cls := hown
  have hS : va_S A s.heap s.heap [] := va_S.rf
  have hl : lv_has ls 8 [(0, .ref h0), (1, .int a1), (2, .int a2)] := hl
  unfold m_Mo_greedy at hf
  refine lv_iconst (v := 0) hx hb dX12_greedy_0 (by decide) ?_
  refine lv_istore_n (lv' := [(3, .int (0 : Int32)), (0, .ref h0), (1, .int a1), (2, .int a2)]) hx hb dX12_greedy_1 rfl hl (by decide) rfl (fun ls hl => ?_)
  refine lv_aload_n hx hb dX12_greedy_2 rfl (lv_at hl 1 rfl) ?_
  refine lv_iconst (v := 0) hx hb dX12_greedy_3 (by decide) ?_
  refine lv_iload_n hx hb dX12_greedy_4 rfl (lv_at hl 2 rfl) ?_
  obtain ⟨r1, hc, hf⟩ := bind_some hf
  refine nx_i (rn_V (As := [.int (0 : Int32), .int a1]) (rest := []) (n := 2) (ci := 10) (q0 := 0) ⟨hx, hb, hml, hown, hts⟩ (c_Mo_match (l := l) (dC := dC) (dI := dI) (cB := cB) (cI := cI) (h0 := h0) (a1 := (0 : Int32)) (a2 := a1) (h0_most := h0_most) (w_h0_in := (w_h0_in)) (w_h0_inSize := (w_h0_inSize)) (w_h0_out := (w_h0_out)) (w_h0_outSize := (w_h0_outSize)) (w_h0_dict := (w_h0_dict)) (w_h0_dictSize := (w_h0_dictSize)) (w_h0_told := (w_h0_told)) (w_h0_fresh := (w_h0_fresh)) (w_h0_freshSize := (w_h0_freshSize)) (w_h0_text := (.ref h0_text)) (w_h0_lean := (.int h0_lean)) (h0_size := h0_size) (w_h0_offset := (w_h0_offset)) (w_h0_copyAt := (.ref h0_copyAt)) (w_h0_copies := (.int h0_copies)) (w_h0_copyLength := (.ref h0_copyLength)) (w_h0_copyOffset := (.ref h0_copyOffset)) (w_h0_fromHere := (w_h0_fromHere)) (w_h0_withCopy := (w_h0_withCopy)) (w_h0_bestCopy := (w_h0_bestCopy)) (w_h0_bestLiterals := (w_h0_bestLiterals)) (w_h0_copiesOf := (w_h0_copiesOf)) (w_h0_literalsOf := (w_h0_literalsOf)) (w_h0_partsOf := (w_h0_partsOf)) (w_h0_blocks := (w_h0_blocks)) (w_h0_blockMany := (w_h0_blockMany)) (w_h0_newBlocks := (w_h0_newBlocks)) (w_h0_newMany := (w_h0_newMany)) (w_h0_rule := (w_h0_rule)) (w_h0_place := (w_h0_place)) (w_h0_at := (w_h0_at)) (h0_most_n := h0_most_n) (h0_most_f := h0_most_f)  (o_r := r1) hc) (wV kw_1252 kw_1254 kw_57 kw_94 kw_1255) (by decide +kernel) ⟨Nat.le_of_ble_eq_true rfl, Nat.le_of_ble_eq_true rfl⟩ hK hP hD hN hT hS (va_free (wc := [(h0, .inr (10, [w_h0_in, w_h0_inSize, w_h0_out, w_h0_outSize, w_h0_dict, w_h0_dictSize, w_h0_told, w_h0_fresh, w_h0_freshSize, .ref h0_text, .int h0_lean, .int h0_size, .ref h0_most, w_h0_offset, .ref h0_copyAt, .int h0_copies, .ref h0_copyLength, .ref h0_copyOffset, w_h0_fromHere, w_h0_withCopy, w_h0_bestCopy, w_h0_bestLiterals, w_h0_copiesOf, w_h0_literalsOf, w_h0_partsOf, w_h0_blocks, w_h0_blockMany, w_h0_newBlocks, w_h0_newMany, w_h0_rule, w_h0_place, w_h0_at])), (h0_most, .inl (cI, h0_most_n, .inl h0_most_f))]) hD hS hA [0, 1] rfl) [0, 1] rfl (by decide) rfl rfl rfl hl.1 rfl (lv_room (Nat.le_of_ble_eq_true rfl)) dX12_greedy_5 ⟨Nat.le_of_ble_eq_true rfl, Nat.le_of_ble_eq_true rfl⟩) hP hD hS hA (wr := [(h0_copyAt, .inl (cI, h0_copyAt_n, .inl h0_copyAt_f)), (h0_copyLength, .inl (cI, h0_copyLength_n, .inl h0_copyLength_f)), (h0_text, .inl (cI, h0_text_n, .inl h0_text_f)), (h0_copyOffset, .inl (cI, h0_copyOffset_n, .inl h0_copyOffset_f))]) (w1 := [(h0, .inr (10, [w_h0_in, w_h0_inSize, w_h0_out, w_h0_outSize, w_h0_dict, w_h0_dictSize, w_h0_told, w_h0_fresh, w_h0_freshSize, .ref h0_text, .int h0_lean, .int h0_size, .ref h0_most, w_h0_offset, .ref h0_copyAt, .int h0_copies, .ref h0_copyLength, .ref h0_copyOffset, w_h0_fromHere, w_h0_withCopy, w_h0_bestCopy, w_h0_bestLiterals, w_h0_copiesOf, w_h0_literalsOf, w_h0_partsOf, w_h0_blocks, w_h0_blockMany, w_h0_newBlocks, w_h0_newMany, w_h0_rule, w_h0_place, w_h0_at])), (h0_most, .inl (cI, h0_most_n, .inl h0_most_f))]) (ws' := [(h0, .inr (10, [w_h0_in, w_h0_inSize, w_h0_out, w_h0_outSize, w_h0_dict, w_h0_dictSize, w_h0_told, w_h0_fresh, w_h0_freshSize, .ref h0_text, .int h0_lean, .int h0_size, .ref h0_most, w_h0_offset, .ref h0_copyAt, .int h0_copies, .ref h0_copyLength, .ref h0_copyOffset, w_h0_fromHere, w_h0_withCopy, w_h0_bestCopy, w_h0_bestLiterals, w_h0_copiesOf, w_h0_literalsOf, w_h0_partsOf, w_h0_blocks, w_h0_blockMany, w_h0_newBlocks, w_h0_newMany, w_h0_rule, w_h0_place, w_h0_at])), (h0_most, .inl (cI, h0_most_n, .inl h0_most_f)), (h0_copyAt, .inl (cI, h0_copyAt_n, .inl h0_copyAt_f)), (h0_copyLength, .inl (cI, h0_copyLength_n, .inl h0_copyLength_f)), (h0_text, .inl (cI, h0_text_n, .inl h0_text_f)), (h0_copyOffset, .inl (cI, h0_copyOffset_n, .inl h0_copyOffset_f))]) [0, 1] [2, 3, 4, 5] [4, 5, 0, 1, 2, 3] rfl rfl (by decide) (by decide) rfl (by decide) (fun H locs hP hD hS => ?_)
  refine lv_istore (lv' := [(4, .int r1), (3, .int (0 : Int32)), (0, .ref h0), (1, .int a1), (2, .int a2)]) hx hb dX12_greedy_8 hl (by decide) rfl (fun ls hl => ?_)
  obtain ⟨o_10, hi_10, hk_10⟩ := bind_some hf
  have hL_10 : ∀ (n : Nat) (f2 : Nat → Int32) (f3 : Nat → Int32) (f4 : Nat → Int32) (g5 : Int32) (j3_6 : Int32) (j4_7 : Int32) (H : Heap) (locs : List Loc) (ls : Array Slot), iter (fun st => m_Mo_greedy_B10 a1 a2 h0_lean h0_size h0_most_n h0_most_f h0_copyAt_n h0_copyLength_n h0_text_n h0_text_f h0_copyOffset_n st.1 st.2.1 st.2.2.1 st.2.2.2.1 st.2.2.2.2.1 st.2.2.2.2.2) n (f2, f3, f4, g5, j3_6, j4_7) = some o_10 → va_P (dC, dI) vwCl [(h0, .inr (10, [w_h0_in, w_h0_inSize, w_h0_out, w_h0_outSize, w_h0_dict, w_h0_dictSize, w_h0_told, w_h0_fresh, w_h0_freshSize, .ref h0_text, .int h0_lean, .int h0_size, .ref h0_most, w_h0_offset, .ref h0_copyAt, .int g5, .ref h0_copyLength, .ref h0_copyOffset, w_h0_fromHere, w_h0_withCopy, w_h0_bestCopy, w_h0_bestLiterals, w_h0_copiesOf, w_h0_literalsOf, w_h0_partsOf, w_h0_blocks, w_h0_blockMany, w_h0_newBlocks, w_h0_newMany, w_h0_rule, w_h0_place, w_h0_at])), (h0_most, .inl (cI, h0_most_n, .inl h0_most_f)), (h0_copyAt, .inl (cI, h0_copyAt_n, .inl f2)), (h0_copyLength, .inl (cI, h0_copyLength_n, .inl f3)), (h0_text, .inl (cI, h0_text_n, .inl h0_text_f)), (h0_copyOffset, .inl (cI, h0_copyOffset_n, .inl f4))] H → va_D A [(h0, .inr (10, [w_h0_in, w_h0_inSize, w_h0_out, w_h0_outSize, w_h0_dict, w_h0_dictSize, w_h0_told, w_h0_fresh, w_h0_freshSize, .ref h0_text, .int h0_lean, .int h0_size, .ref h0_most, w_h0_offset, .ref h0_copyAt, .int g5, .ref h0_copyLength, .ref h0_copyOffset, w_h0_fromHere, w_h0_withCopy, w_h0_bestCopy, w_h0_bestLiterals, w_h0_copiesOf, w_h0_literalsOf, w_h0_partsOf, w_h0_blocks, w_h0_blockMany, w_h0_newBlocks, w_h0_newMany, w_h0_rule, w_h0_place, w_h0_at])), (h0_most, .inl (cI, h0_most_n, .inl h0_most_f)), (h0_copyAt, .inl (cI, h0_copyAt_n, .inl f2)), (h0_copyLength, .inl (cI, h0_copyLength_n, .inl f3)), (h0_text, .inl (cI, h0_text_n, .inl h0_text_f)), (h0_copyOffset, .inl (cI, h0_copyOffset_n, .inl f4))] → va_S A s.heap H locs → lv_has ls 8 [(0, .ref h0), (1, .int a1), (2, .int a2), (3, .int j3_6), (4, .int j4_7)] → W p l e (rm_Mo_greedy) s m ([.ref h0, .int a1, .int a2] : List Value).toArray below meth c H locs 0 0 Q (F0 m 10 ls []) := by
    intro n
    induction n with
    | zero => intro f2 f3 f4 g5 j3_6 j4_7 H locs ls hf; exact absurd hf (fun z => by cases z)
    | succ n ih_10 =>
      intro f2 f3 f4 g5 j3_6 j4_7 H locs ls hf hP hD hS hl
      obtain ⟨r_10, hf, hr_10⟩ := iter_succ hf
      have hf : m_Mo_greedy_B10 a1 a2 h0_lean h0_size h0_most_n h0_most_f h0_copyAt_n h0_copyLength_n h0_text_n h0_text_f h0_copyOffset_n f2 f3 f4 g5 j3_6 j4_7 = some r_10 := hf
      unfold m_Mo_greedy_B10 at hf
      refine lv_iload_n hx hb dX12_greedy_10 rfl (lv_at hl 3 rfl) ?_
      refine lv_aload_n hx hb dX12_greedy_11 rfl (lv_at hl 0 rfl) ?_
      refine va_get (D := (dC, dI)) (ci := 10) (v := .int h0_size) (C := RX12) (T := TX12) (N := 32) hx hb hts inG_X12 hown hK hP 0 rfl rfl 11 (by decide) (hts _ kw_1063) (fun _ h9 => h9) rfl dX12_greedy_12 ?_
      refine lv_icmp_ge (tgt := 143) hx hb dX12_greedy_15 (by decide) (fun c_15 => ?_) (fun c_15 => ?_)
      · replace hf := if_t c_15 hf
        replace hf : some (g5, f2, f3, f4) = some (o_h0_copies, o_h0_copyAt_f, o_h0_copyLength_f, o_h0_copyOffset_f) := by have hq := hk_10; rw [iter_exit hf hr_10] at hq; exact hq
        obtain ⟨rfl, hq_1⟩ := Prod.mk.inj (Option.some.inj hf)
        obtain ⟨rfl, hq_2⟩ := Prod.mk.inj hq_1
        obtain ⟨rfl, hq_3⟩ := Prod.mk.inj hq_2
        obtain rfl := hq_3
        exact rt_v hQ hx hb hr hlocks hP hD hS dX12_greedy_143
      · replace hf := if_f c_15 hf
        refine lv_iload hx hb dX12_greedy_18 (lv_at hl 4 rfl) ?_
        have hJ_39 : ∀ (s8 : Int32) (H : Heap) (locs : List Loc) (ls : Array Slot), m_Mo_greedy_J39 a1 a2 h0_lean h0_size h0_most_n h0_most_f h0_copyAt_n h0_copyLength_n h0_text_n h0_text_f h0_copyOffset_n f2 f3 f4 g5 j3_6 j4_7 s8 = some r_10 → va_P (dC, dI) vwCl [(h0, .inr (10, [w_h0_in, w_h0_inSize, w_h0_out, w_h0_outSize, w_h0_dict, w_h0_dictSize, w_h0_told, w_h0_fresh, w_h0_freshSize, .ref h0_text, .int h0_lean, .int h0_size, .ref h0_most, w_h0_offset, .ref h0_copyAt, .int g5, .ref h0_copyLength, .ref h0_copyOffset, w_h0_fromHere, w_h0_withCopy, w_h0_bestCopy, w_h0_bestLiterals, w_h0_copiesOf, w_h0_literalsOf, w_h0_partsOf, w_h0_blocks, w_h0_blockMany, w_h0_newBlocks, w_h0_newMany, w_h0_rule, w_h0_place, w_h0_at])), (h0_most, .inl (cI, h0_most_n, .inl h0_most_f)), (h0_copyAt, .inl (cI, h0_copyAt_n, .inl f2)), (h0_copyLength, .inl (cI, h0_copyLength_n, .inl f3)), (h0_text, .inl (cI, h0_text_n, .inl h0_text_f)), (h0_copyOffset, .inl (cI, h0_copyOffset_n, .inl f4))] H → va_D A [(h0, .inr (10, [w_h0_in, w_h0_inSize, w_h0_out, w_h0_outSize, w_h0_dict, w_h0_dictSize, w_h0_told, w_h0_fresh, w_h0_freshSize, .ref h0_text, .int h0_lean, .int h0_size, .ref h0_most, w_h0_offset, .ref h0_copyAt, .int g5, .ref h0_copyLength, .ref h0_copyOffset, w_h0_fromHere, w_h0_withCopy, w_h0_bestCopy, w_h0_bestLiterals, w_h0_copiesOf, w_h0_literalsOf, w_h0_partsOf, w_h0_blocks, w_h0_blockMany, w_h0_newBlocks, w_h0_newMany, w_h0_rule, w_h0_place, w_h0_at])), (h0_most, .inl (cI, h0_most_n, .inl h0_most_f)), (h0_copyAt, .inl (cI, h0_copyAt_n, .inl f2)), (h0_copyLength, .inl (cI, h0_copyLength_n, .inl f3)), (h0_text, .inl (cI, h0_text_n, .inl h0_text_f)), (h0_copyOffset, .inl (cI, h0_copyOffset_n, .inl f4))] → va_S A s.heap H locs → lv_has ls 8 [(0, .ref h0), (1, .int a1), (2, .int a2), (3, .int j3_6), (4, .int j4_7)] → W p l e (rm_Mo_greedy) s m ([.ref h0, .int a1, .int a2] : List Value).toArray below meth c H locs 0 0 Q (F0 m 39 ls [.int s8]) := by
          intro s8 H locs ls hf hP hD hS hl
          unfold m_Mo_greedy_J39 at hf
          refine lv_istore (lv' := [(5, .int s8), (0, .ref h0), (1, .int a1), (2, .int a2), (3, .int j3_6), (4, .int j4_7)]) hx hb dX12_greedy_39 hl (by decide) rfl (fun ls hl => ?_)
          refine lv_iload hx hb dX12_greedy_41 (lv_at hl 5 rfl) ?_
          have hJ_57 : ∀ (H : Heap) (locs : List Loc) (ls : Array Slot), m_Mo_greedy_J57 f2 f3 f4 g5 j3_6 s8 = some r_10 → va_P (dC, dI) vwCl [(h0, .inr (10, [w_h0_in, w_h0_inSize, w_h0_out, w_h0_outSize, w_h0_dict, w_h0_dictSize, w_h0_told, w_h0_fresh, w_h0_freshSize, .ref h0_text, .int h0_lean, .int h0_size, .ref h0_most, w_h0_offset, .ref h0_copyAt, .int g5, .ref h0_copyLength, .ref h0_copyOffset, w_h0_fromHere, w_h0_withCopy, w_h0_bestCopy, w_h0_bestLiterals, w_h0_copiesOf, w_h0_literalsOf, w_h0_partsOf, w_h0_blocks, w_h0_blockMany, w_h0_newBlocks, w_h0_newMany, w_h0_rule, w_h0_place, w_h0_at])), (h0_most, .inl (cI, h0_most_n, .inl h0_most_f)), (h0_copyAt, .inl (cI, h0_copyAt_n, .inl f2)), (h0_copyLength, .inl (cI, h0_copyLength_n, .inl f3)), (h0_text, .inl (cI, h0_text_n, .inl h0_text_f)), (h0_copyOffset, .inl (cI, h0_copyOffset_n, .inl f4))] H → va_D A [(h0, .inr (10, [w_h0_in, w_h0_inSize, w_h0_out, w_h0_outSize, w_h0_dict, w_h0_dictSize, w_h0_told, w_h0_fresh, w_h0_freshSize, .ref h0_text, .int h0_lean, .int h0_size, .ref h0_most, w_h0_offset, .ref h0_copyAt, .int g5, .ref h0_copyLength, .ref h0_copyOffset, w_h0_fromHere, w_h0_withCopy, w_h0_bestCopy, w_h0_bestLiterals, w_h0_copiesOf, w_h0_literalsOf, w_h0_partsOf, w_h0_blocks, w_h0_blockMany, w_h0_newBlocks, w_h0_newMany, w_h0_rule, w_h0_place, w_h0_at])), (h0_most, .inl (cI, h0_most_n, .inl h0_most_f)), (h0_copyAt, .inl (cI, h0_copyAt_n, .inl f2)), (h0_copyLength, .inl (cI, h0_copyLength_n, .inl f3)), (h0_text, .inl (cI, h0_text_n, .inl h0_text_f)), (h0_copyOffset, .inl (cI, h0_copyOffset_n, .inl f4))] → va_S A s.heap H locs → lv_has ls 8 [(0, .ref h0), (1, .int a1), (2, .int a2), (3, .int j3_6), (5, .int s8)] → W p l e (rm_Mo_greedy) s m ([.ref h0, .int a1, .int a2] : List Value).toArray below meth c H locs 0 0 Q (F0 m 57 ls []) := by
            intro  H locs ls hf hP hD hS hl
            unfold m_Mo_greedy_J57 at hf
            obtain ⟨v3_9, e_v3_9⟩ : ∃ y : Int32, y = (j3_6 + (1 : Int32)) := ⟨_, rfl⟩
            replace hf := bnd_at e_v3_9 hf
            refine lv_iinc (v := v3_9) (lv' := [(3, .int v3_9), (0, .ref h0), (1, .int a1), (2, .int a2), (5, .int s8)]) hx hb dX12_greedy_57 hl (k := 3) rfl (by rw [e_v3_9]; rfl) (by decide) rfl (fun ls hl => ?_)
            refine lv_iload hx hb dX12_greedy_60 (lv_at hl 4 rfl) ?_
            refine lv_istore (lv' := [(4, .int s8), (3, .int v3_9), (0, .ref h0), (1, .int a1), (2, .int a2), (5, .int s8)]) hx hb dX12_greedy_62 hl (by decide) rfl (fun ls hl => ?_)
            refine lv_goto (tgt := 140) hx hb dX12_greedy_64 (by decide) ?_
            refine lv_goto (tgt := 10) hx hb dX12_greedy_140 (by decide) ?_
            exact ih_10 f2 f3 f4 g5 v3_9 s8 _ _ _ (iter_back hf hr_10) hP hD hS (lv_sub hl [2, 3, 4, 1, 0] rfl)
          refine lv_if_eq (tgt := 57) hx hb dX12_greedy_43 (by decide) (fun c_43 => ?_) (fun c_43 => ?_)
          · replace hf := if_t c_43 hf
            exact hJ_57  _ _ _ hf hP hD hS (lv_sub hl [1, 2, 3, 4, 0] rfl)
          · replace hf := if_f c_43 hf
            refine lv_iload_n hx hb dX12_greedy_46 rfl (lv_at hl 3 rfl) ?_
            have hJ_67 : ∀ (H : Heap) (locs : List Loc) (ls : Array Slot), m_Mo_greedy_J67 a1 h0_lean h0_size h0_most_n h0_most_f h0_copyAt_n h0_copyLength_n h0_text_n h0_text_f h0_copyOffset_n f2 f3 f4 g5 j3_6 j4_7 = some r_10 → va_P (dC, dI) vwCl [(h0, .inr (10, [w_h0_in, w_h0_inSize, w_h0_out, w_h0_outSize, w_h0_dict, w_h0_dictSize, w_h0_told, w_h0_fresh, w_h0_freshSize, .ref h0_text, .int h0_lean, .int h0_size, .ref h0_most, w_h0_offset, .ref h0_copyAt, .int g5, .ref h0_copyLength, .ref h0_copyOffset, w_h0_fromHere, w_h0_withCopy, w_h0_bestCopy, w_h0_bestLiterals, w_h0_copiesOf, w_h0_literalsOf, w_h0_partsOf, w_h0_blocks, w_h0_blockMany, w_h0_newBlocks, w_h0_newMany, w_h0_rule, w_h0_place, w_h0_at])), (h0_most, .inl (cI, h0_most_n, .inl h0_most_f)), (h0_copyAt, .inl (cI, h0_copyAt_n, .inl f2)), (h0_copyLength, .inl (cI, h0_copyLength_n, .inl f3)), (h0_text, .inl (cI, h0_text_n, .inl h0_text_f)), (h0_copyOffset, .inl (cI, h0_copyOffset_n, .inl f4))] H → va_D A [(h0, .inr (10, [w_h0_in, w_h0_inSize, w_h0_out, w_h0_outSize, w_h0_dict, w_h0_dictSize, w_h0_told, w_h0_fresh, w_h0_freshSize, .ref h0_text, .int h0_lean, .int h0_size, .ref h0_most, w_h0_offset, .ref h0_copyAt, .int g5, .ref h0_copyLength, .ref h0_copyOffset, w_h0_fromHere, w_h0_withCopy, w_h0_bestCopy, w_h0_bestLiterals, w_h0_copiesOf, w_h0_literalsOf, w_h0_partsOf, w_h0_blocks, w_h0_blockMany, w_h0_newBlocks, w_h0_newMany, w_h0_rule, w_h0_place, w_h0_at])), (h0_most, .inl (cI, h0_most_n, .inl h0_most_f)), (h0_copyAt, .inl (cI, h0_copyAt_n, .inl f2)), (h0_copyLength, .inl (cI, h0_copyLength_n, .inl f3)), (h0_text, .inl (cI, h0_text_n, .inl h0_text_f)), (h0_copyOffset, .inl (cI, h0_copyOffset_n, .inl f4))] → va_S A s.heap H locs → lv_has ls 8 [(0, .ref h0), (1, .int a1), (2, .int a2), (3, .int j3_6), (4, .int j4_7)] → W p l e (rm_Mo_greedy) s m ([.ref h0, .int a1, .int a2] : List Value).toArray below meth c H locs 0 0 Q (F0 m 67 ls []) := by
              intro  H locs ls hf hP hD hS hl
              unfold m_Mo_greedy_J67 at hf
              refine lv_iload hx hb dX12_greedy_67 (lv_at hl 4 rfl) ?_
              refine lv_istore (lv' := [(6, .int j4_7), (0, .ref h0), (1, .int a1), (2, .int a2), (3, .int j3_6), (4, .int j4_7)]) hx hb dX12_greedy_69 hl (by decide) rfl (fun ls hl => ?_)
              have hJ_120 : ∀ (f10 : Nat → Int32) (f11 : Nat → Int32) (f12 : Nat → Int32) (g13 : Int32) (j3_14 : Int32) (j6_15 : Int32) (H : Heap) (locs : List Loc) (ls : Array Slot), m_Mo_greedy_E120 a1 h0_lean h0_size h0_most_n h0_most_f h0_copyAt_n h0_copyLength_n h0_text_n h0_text_f h0_copyOffset_n f10 f11 f12 g13 j3_14 j6_15 = some r_10 → va_P (dC, dI) vwCl [(h0, .inr (10, [w_h0_in, w_h0_inSize, w_h0_out, w_h0_outSize, w_h0_dict, w_h0_dictSize, w_h0_told, w_h0_fresh, w_h0_freshSize, .ref h0_text, .int h0_lean, .int h0_size, .ref h0_most, w_h0_offset, .ref h0_copyAt, .int g13, .ref h0_copyLength, .ref h0_copyOffset, w_h0_fromHere, w_h0_withCopy, w_h0_bestCopy, w_h0_bestLiterals, w_h0_copiesOf, w_h0_literalsOf, w_h0_partsOf, w_h0_blocks, w_h0_blockMany, w_h0_newBlocks, w_h0_newMany, w_h0_rule, w_h0_place, w_h0_at])), (h0_most, .inl (cI, h0_most_n, .inl h0_most_f)), (h0_copyAt, .inl (cI, h0_copyAt_n, .inl f10)), (h0_copyLength, .inl (cI, h0_copyLength_n, .inl f11)), (h0_text, .inl (cI, h0_text_n, .inl h0_text_f)), (h0_copyOffset, .inl (cI, h0_copyOffset_n, .inl f12))] H → va_D A [(h0, .inr (10, [w_h0_in, w_h0_inSize, w_h0_out, w_h0_outSize, w_h0_dict, w_h0_dictSize, w_h0_told, w_h0_fresh, w_h0_freshSize, .ref h0_text, .int h0_lean, .int h0_size, .ref h0_most, w_h0_offset, .ref h0_copyAt, .int g13, .ref h0_copyLength, .ref h0_copyOffset, w_h0_fromHere, w_h0_withCopy, w_h0_bestCopy, w_h0_bestLiterals, w_h0_copiesOf, w_h0_literalsOf, w_h0_partsOf, w_h0_blocks, w_h0_blockMany, w_h0_newBlocks, w_h0_newMany, w_h0_rule, w_h0_place, w_h0_at])), (h0_most, .inl (cI, h0_most_n, .inl h0_most_f)), (h0_copyAt, .inl (cI, h0_copyAt_n, .inl f10)), (h0_copyLength, .inl (cI, h0_copyLength_n, .inl f11)), (h0_text, .inl (cI, h0_text_n, .inl h0_text_f)), (h0_copyOffset, .inl (cI, h0_copyOffset_n, .inl f12))] → va_S A s.heap H locs → lv_has ls 8 [(0, .ref h0), (1, .int a1), (2, .int a2), (3, .int j3_14), (6, .int j6_15)] → W p l e (rm_Mo_greedy) s m ([.ref h0, .int a1, .int a2] : List Value).toArray below meth c H locs 0 0 Q (F0 m 120 ls []) := by
                intro f10 f11 f12 g13 j3_14 j6_15 H locs ls hf hP hD hS hl
                unfold m_Mo_greedy_E120 at hf
                refine lv_aload_n hx hb dX12_greedy_120 rfl (lv_at hl 0 rfl) ?_
                refine lv_iload_n hx hb dX12_greedy_121 rfl (lv_at hl 3 rfl) ?_
                refine lv_iload hx hb dX12_greedy_122 (lv_at hl 4 rfl) ?_
                obtain ⟨x, hc, hf⟩ := bind_some hf
                obtain ⟨u16, u17, u18, u19⟩ := x
                dsimp only at hf
                refine nx_v (rn_V (As := [.int j3_14, .int j6_15]) (rest := []) (n := 2) (ci := 10) (q0 := 0) ⟨hx, hb, hml, hown, hts⟩ (c_Mo_copy (l := l) (dC := dC) (dI := dI) (cB := cB) (cI := cI) (h0 := h0) (a1 := j3_14) (a2 := j6_15) (h0_copyAt := h0_copyAt) (h0_copyLength := h0_copyLength) (h0_text := h0_text) (h0_copyOffset := h0_copyOffset) (w_h0_in := (w_h0_in)) (w_h0_inSize := (w_h0_inSize)) (w_h0_out := (w_h0_out)) (w_h0_outSize := (w_h0_outSize)) (w_h0_dict := (w_h0_dict)) (w_h0_dictSize := (w_h0_dictSize)) (w_h0_told := (w_h0_told)) (w_h0_fresh := (w_h0_fresh)) (w_h0_freshSize := (w_h0_freshSize)) (h0_lean := h0_lean) (h0_size := h0_size) (w_h0_most := (.ref h0_most)) (w_h0_offset := (w_h0_offset)) (h0_copies := g13) (w_h0_fromHere := (w_h0_fromHere)) (w_h0_withCopy := (w_h0_withCopy)) (w_h0_bestCopy := (w_h0_bestCopy)) (w_h0_bestLiterals := (w_h0_bestLiterals)) (w_h0_copiesOf := (w_h0_copiesOf)) (w_h0_literalsOf := (w_h0_literalsOf)) (w_h0_partsOf := (w_h0_partsOf)) (w_h0_blocks := (w_h0_blocks)) (w_h0_blockMany := (w_h0_blockMany)) (w_h0_newBlocks := (w_h0_newBlocks)) (w_h0_newMany := (w_h0_newMany)) (w_h0_rule := (w_h0_rule)) (w_h0_place := (w_h0_place)) (w_h0_at := (w_h0_at)) (h0_copyAt_n := h0_copyAt_n) (h0_copyAt_f := f10) (h0_copyLength_n := h0_copyLength_n) (h0_copyLength_f := f11) (h0_text_n := h0_text_n) (h0_text_f := h0_text_f) (h0_copyOffset_n := h0_copyOffset_n) (h0_copyOffset_f := f12) (o_h0_copies := u16) (o_h0_copyAt_f := u17) (o_h0_copyLength_f := u18) (o_h0_copyOffset_f := u19) hc) (wV kw_1270 kw_1272 kw_59 kw_94 kw_1273) (by decide +kernel) ⟨Nat.le_of_ble_eq_true rfl, Nat.le_of_ble_eq_true rfl⟩ hK hP hD hN hT hS (va_free (wc := [(h0, .inr (10, [w_h0_in, w_h0_inSize, w_h0_out, w_h0_outSize, w_h0_dict, w_h0_dictSize, w_h0_told, w_h0_fresh, w_h0_freshSize, .ref h0_text, .int h0_lean, .int h0_size, .ref h0_most, w_h0_offset, .ref h0_copyAt, .int g13, .ref h0_copyLength, .ref h0_copyOffset, w_h0_fromHere, w_h0_withCopy, w_h0_bestCopy, w_h0_bestLiterals, w_h0_copiesOf, w_h0_literalsOf, w_h0_partsOf, w_h0_blocks, w_h0_blockMany, w_h0_newBlocks, w_h0_newMany, w_h0_rule, w_h0_place, w_h0_at])), (h0_copyAt, .inl (cI, h0_copyAt_n, .inl f10)), (h0_copyLength, .inl (cI, h0_copyLength_n, .inl f11)), (h0_text, .inl (cI, h0_text_n, .inl h0_text_f)), (h0_copyOffset, .inl (cI, h0_copyOffset_n, .inl f12))]) hD hS hA [0, 2, 3, 4, 5] rfl) [0, 2, 3, 4, 5] rfl (by decide) rfl rfl rfl hl.1 rfl (lv_room (Nat.le_of_ble_eq_true rfl)) dX12_greedy_124 ⟨Nat.le_of_ble_eq_true rfl, Nat.le_of_ble_eq_true rfl⟩) hP hD hS hA (wr := [(h0_most, .inl (cI, h0_most_n, .inl h0_most_f))]) (w1 := [(h0, .inr (10, [w_h0_in, w_h0_inSize, w_h0_out, w_h0_outSize, w_h0_dict, w_h0_dictSize, w_h0_told, w_h0_fresh, w_h0_freshSize, .ref h0_text, .int h0_lean, .int h0_size, .ref h0_most, w_h0_offset, .ref h0_copyAt, .int u16, .ref h0_copyLength, .ref h0_copyOffset, w_h0_fromHere, w_h0_withCopy, w_h0_bestCopy, w_h0_bestLiterals, w_h0_copiesOf, w_h0_literalsOf, w_h0_partsOf, w_h0_blocks, w_h0_blockMany, w_h0_newBlocks, w_h0_newMany, w_h0_rule, w_h0_place, w_h0_at])), (h0_copyAt, .inl (cI, h0_copyAt_n, .inl u17)), (h0_copyLength, .inl (cI, h0_copyLength_n, .inl u18)), (h0_text, .inl (cI, h0_text_n, .inl h0_text_f)), (h0_copyOffset, .inl (cI, h0_copyOffset_n, .inl u19))]) (ws' := [(h0, .inr (10, [w_h0_in, w_h0_inSize, w_h0_out, w_h0_outSize, w_h0_dict, w_h0_dictSize, w_h0_told, w_h0_fresh, w_h0_freshSize, .ref h0_text, .int h0_lean, .int h0_size, .ref h0_most, w_h0_offset, .ref h0_copyAt, .int u16, .ref h0_copyLength, .ref h0_copyOffset, w_h0_fromHere, w_h0_withCopy, w_h0_bestCopy, w_h0_bestLiterals, w_h0_copiesOf, w_h0_literalsOf, w_h0_partsOf, w_h0_blocks, w_h0_blockMany, w_h0_newBlocks, w_h0_newMany, w_h0_rule, w_h0_place, w_h0_at])), (h0_most, .inl (cI, h0_most_n, .inl h0_most_f)), (h0_copyAt, .inl (cI, h0_copyAt_n, .inl u17)), (h0_copyLength, .inl (cI, h0_copyLength_n, .inl u18)), (h0_text, .inl (cI, h0_text_n, .inl h0_text_f)), (h0_copyOffset, .inl (cI, h0_copyOffset_n, .inl u19))]) [0, 2, 3, 4, 5] [1] [1, 0, 2, 3, 4, 5] rfl rfl (by decide) (by decide) rfl (by decide) (fun H locs hP hD hS => ?_)
                refine lv_iload_n hx hb dX12_greedy_127 rfl (lv_at hl 3 rfl) ?_
                refine lv_iload hx hb dX12_greedy_128 (lv_at hl 4 rfl) ?_
                refine lv_iadd hx hb dX12_greedy_130 ?_
                refine lv_topi (fun v3_20 e_v3_20 => ?_)
                replace hf := bnd_at e_v3_20 hf
                refine lv_istore_n (lv' := [(3, .int v3_20), (0, .ref h0), (1, .int a1), (2, .int a2), (6, .int j6_15)]) hx hb dX12_greedy_131 rfl hl (by decide) rfl (fun ls hl => ?_)
                refine lv_aload_n hx hb dX12_greedy_132 rfl (lv_at hl 1 rfl) ?_
                refine lv_iload_n hx hb dX12_greedy_133 rfl (lv_at hl 0 rfl) ?_
                refine lv_iload_n hx hb dX12_greedy_134 rfl (lv_at hl 2 rfl) ?_
                obtain ⟨r21, hc, hf⟩ := bind_some hf
                refine nx_i (rn_V (As := [.int v3_20, .int a1]) (rest := []) (n := 2) (ci := 10) (q0 := 0) ⟨hx, hb, hml, hown, hts⟩ (c_Mo_match (l := l) (dC := dC) (dI := dI) (cB := cB) (cI := cI) (h0 := h0) (a1 := v3_20) (a2 := a1) (h0_most := h0_most) (w_h0_in := (w_h0_in)) (w_h0_inSize := (w_h0_inSize)) (w_h0_out := (w_h0_out)) (w_h0_outSize := (w_h0_outSize)) (w_h0_dict := (w_h0_dict)) (w_h0_dictSize := (w_h0_dictSize)) (w_h0_told := (w_h0_told)) (w_h0_fresh := (w_h0_fresh)) (w_h0_freshSize := (w_h0_freshSize)) (w_h0_text := (.ref h0_text)) (w_h0_lean := (.int h0_lean)) (h0_size := h0_size) (w_h0_offset := (w_h0_offset)) (w_h0_copyAt := (.ref h0_copyAt)) (w_h0_copies := (.int u16)) (w_h0_copyLength := (.ref h0_copyLength)) (w_h0_copyOffset := (.ref h0_copyOffset)) (w_h0_fromHere := (w_h0_fromHere)) (w_h0_withCopy := (w_h0_withCopy)) (w_h0_bestCopy := (w_h0_bestCopy)) (w_h0_bestLiterals := (w_h0_bestLiterals)) (w_h0_copiesOf := (w_h0_copiesOf)) (w_h0_literalsOf := (w_h0_literalsOf)) (w_h0_partsOf := (w_h0_partsOf)) (w_h0_blocks := (w_h0_blocks)) (w_h0_blockMany := (w_h0_blockMany)) (w_h0_newBlocks := (w_h0_newBlocks)) (w_h0_newMany := (w_h0_newMany)) (w_h0_rule := (w_h0_rule)) (w_h0_place := (w_h0_place)) (w_h0_at := (w_h0_at)) (h0_most_n := h0_most_n) (h0_most_f := h0_most_f)  (o_r := r21) hc) (wV kw_1252 kw_1254 kw_57 kw_94 kw_1255) (by decide +kernel) ⟨Nat.le_of_ble_eq_true rfl, Nat.le_of_ble_eq_true rfl⟩ hK hP hD hN hT hS (va_free (wc := [(h0, .inr (10, [w_h0_in, w_h0_inSize, w_h0_out, w_h0_outSize, w_h0_dict, w_h0_dictSize, w_h0_told, w_h0_fresh, w_h0_freshSize, .ref h0_text, .int h0_lean, .int h0_size, .ref h0_most, w_h0_offset, .ref h0_copyAt, .int u16, .ref h0_copyLength, .ref h0_copyOffset, w_h0_fromHere, w_h0_withCopy, w_h0_bestCopy, w_h0_bestLiterals, w_h0_copiesOf, w_h0_literalsOf, w_h0_partsOf, w_h0_blocks, w_h0_blockMany, w_h0_newBlocks, w_h0_newMany, w_h0_rule, w_h0_place, w_h0_at])), (h0_most, .inl (cI, h0_most_n, .inl h0_most_f))]) hD hS hA [0, 1] rfl) [0, 1] rfl (by decide) rfl rfl rfl hl.1 rfl (lv_room (Nat.le_of_ble_eq_true rfl)) dX12_greedy_135 ⟨Nat.le_of_ble_eq_true rfl, Nat.le_of_ble_eq_true rfl⟩) hP hD hS hA (wr := [(h0_copyAt, .inl (cI, h0_copyAt_n, .inl u17)), (h0_copyLength, .inl (cI, h0_copyLength_n, .inl u18)), (h0_text, .inl (cI, h0_text_n, .inl h0_text_f)), (h0_copyOffset, .inl (cI, h0_copyOffset_n, .inl u19))]) (w1 := [(h0, .inr (10, [w_h0_in, w_h0_inSize, w_h0_out, w_h0_outSize, w_h0_dict, w_h0_dictSize, w_h0_told, w_h0_fresh, w_h0_freshSize, .ref h0_text, .int h0_lean, .int h0_size, .ref h0_most, w_h0_offset, .ref h0_copyAt, .int u16, .ref h0_copyLength, .ref h0_copyOffset, w_h0_fromHere, w_h0_withCopy, w_h0_bestCopy, w_h0_bestLiterals, w_h0_copiesOf, w_h0_literalsOf, w_h0_partsOf, w_h0_blocks, w_h0_blockMany, w_h0_newBlocks, w_h0_newMany, w_h0_rule, w_h0_place, w_h0_at])), (h0_most, .inl (cI, h0_most_n, .inl h0_most_f))]) (ws' := [(h0, .inr (10, [w_h0_in, w_h0_inSize, w_h0_out, w_h0_outSize, w_h0_dict, w_h0_dictSize, w_h0_told, w_h0_fresh, w_h0_freshSize, .ref h0_text, .int h0_lean, .int h0_size, .ref h0_most, w_h0_offset, .ref h0_copyAt, .int u16, .ref h0_copyLength, .ref h0_copyOffset, w_h0_fromHere, w_h0_withCopy, w_h0_bestCopy, w_h0_bestLiterals, w_h0_copiesOf, w_h0_literalsOf, w_h0_partsOf, w_h0_blocks, w_h0_blockMany, w_h0_newBlocks, w_h0_newMany, w_h0_rule, w_h0_place, w_h0_at])), (h0_most, .inl (cI, h0_most_n, .inl h0_most_f)), (h0_copyAt, .inl (cI, h0_copyAt_n, .inl u17)), (h0_copyLength, .inl (cI, h0_copyLength_n, .inl u18)), (h0_text, .inl (cI, h0_text_n, .inl h0_text_f)), (h0_copyOffset, .inl (cI, h0_copyOffset_n, .inl u19))]) [0, 1] [2, 3, 4, 5] [4, 5, 0, 1, 2, 3] rfl rfl (by decide) (by decide) rfl (by decide) (fun H locs hP hD hS => ?_)
                refine lv_istore (lv' := [(4, .int r21), (3, .int v3_20), (0, .ref h0), (1, .int a1), (2, .int a2), (6, .int j6_15)]) hx hb dX12_greedy_138 hl (by decide) rfl (fun ls hl => ?_)
                refine lv_goto (tgt := 10) hx hb dX12_greedy_140 (by decide) ?_
                exact ih_10 u17 u18 u19 u16 v3_20 r21 _ _ _ (iter_back hf hr_10) hP hD hS (lv_sub hl [2, 3, 4, 1, 0] rfl)
              obtain ⟨o_71, hi_71, hk_71⟩ := bind_some hf
              have hL_71 : ∀ (n : Nat) (f22 : Nat → Int32) (f23 : Nat → Int32) (f24 : Nat → Int32) (g25 : Int32) (j3_26 : Int32) (j6_27 : Int32) (H : Heap) (locs : List Loc) (ls : Array Slot), iter (fun st => m_Mo_greedy_B71 a1 h0_lean h0_size h0_copyAt_n h0_copyLength_n h0_text_n h0_text_f h0_copyOffset_n st.1 st.2.1 st.2.2.1 st.2.2.2.1 st.2.2.2.2.1 st.2.2.2.2.2) n (f22, f23, f24, g25, j3_26, j6_27) = some o_71 → va_P (dC, dI) vwCl [(h0, .inr (10, [w_h0_in, w_h0_inSize, w_h0_out, w_h0_outSize, w_h0_dict, w_h0_dictSize, w_h0_told, w_h0_fresh, w_h0_freshSize, .ref h0_text, .int h0_lean, .int h0_size, .ref h0_most, w_h0_offset, .ref h0_copyAt, .int g25, .ref h0_copyLength, .ref h0_copyOffset, w_h0_fromHere, w_h0_withCopy, w_h0_bestCopy, w_h0_bestLiterals, w_h0_copiesOf, w_h0_literalsOf, w_h0_partsOf, w_h0_blocks, w_h0_blockMany, w_h0_newBlocks, w_h0_newMany, w_h0_rule, w_h0_place, w_h0_at])), (h0_most, .inl (cI, h0_most_n, .inl h0_most_f)), (h0_copyAt, .inl (cI, h0_copyAt_n, .inl f22)), (h0_copyLength, .inl (cI, h0_copyLength_n, .inl f23)), (h0_text, .inl (cI, h0_text_n, .inl h0_text_f)), (h0_copyOffset, .inl (cI, h0_copyOffset_n, .inl f24))] H → va_D A [(h0, .inr (10, [w_h0_in, w_h0_inSize, w_h0_out, w_h0_outSize, w_h0_dict, w_h0_dictSize, w_h0_told, w_h0_fresh, w_h0_freshSize, .ref h0_text, .int h0_lean, .int h0_size, .ref h0_most, w_h0_offset, .ref h0_copyAt, .int g25, .ref h0_copyLength, .ref h0_copyOffset, w_h0_fromHere, w_h0_withCopy, w_h0_bestCopy, w_h0_bestLiterals, w_h0_copiesOf, w_h0_literalsOf, w_h0_partsOf, w_h0_blocks, w_h0_blockMany, w_h0_newBlocks, w_h0_newMany, w_h0_rule, w_h0_place, w_h0_at])), (h0_most, .inl (cI, h0_most_n, .inl h0_most_f)), (h0_copyAt, .inl (cI, h0_copyAt_n, .inl f22)), (h0_copyLength, .inl (cI, h0_copyLength_n, .inl f23)), (h0_text, .inl (cI, h0_text_n, .inl h0_text_f)), (h0_copyOffset, .inl (cI, h0_copyOffset_n, .inl f24))] → va_S A s.heap H locs → lv_has ls 8 [(0, .ref h0), (1, .int a1), (2, .int a2), (3, .int j3_26), (6, .int j6_27)] → W p l e (rm_Mo_greedy) s m ([.ref h0, .int a1, .int a2] : List Value).toArray below meth c H locs 0 0 Q (F0 m 71 ls []) := by
                intro n
                induction n with
                | zero => intro f22 f23 f24 g25 j3_26 j6_27 H locs ls hf; exact absurd hf (fun z => by cases z)
                | succ n ih_71 =>
                  intro f22 f23 f24 g25 j3_26 j6_27 H locs ls hf hP hD hS hl
                  obtain ⟨r_71, hf, hr_71⟩ := iter_succ hf
                  have hf : m_Mo_greedy_B71 a1 h0_lean h0_size h0_copyAt_n h0_copyLength_n h0_text_n h0_text_f h0_copyOffset_n f22 f23 f24 g25 j3_26 j6_27 = some r_71 := hf
                  unfold m_Mo_greedy_B71 at hf
                  refine lv_iload_n hx hb dX12_greedy_71 rfl (lv_at hl 1 rfl) ?_
                  refine lv_if_ne (tgt := 120) hx hb dX12_greedy_72 (by decide) (fun c_72 => ?_) (fun c_72 => ?_)
                  · replace hf := if_f c_72 hf
                    have hf : m_Mo_greedy_E120 a1 h0_lean h0_size h0_most_n h0_most_f h0_copyAt_n h0_copyLength_n h0_text_n h0_text_f h0_copyOffset_n f22 f23 f24 g25 j3_26 j6_27 = some r_10 := by have hq := hk_71; rw [iter_exit hf hr_71] at hq; exact hq
                    exact hJ_120 f22 f23 f24 g25 j3_26 j6_27 _ _ _ hf hP hD hS (lv_sub hl [0, 1, 2, 3, 4] rfl)
                  · replace hf := if_t c_72 hf
                    refine lv_iload hx hb dX12_greedy_75 (lv_at hl 4 rfl) ?_
                    refine lv_bipush (v := 64) hx hb dX12_greedy_77 (by decide) ?_
                    refine lv_icmp_le (tgt := 120) hx hb dX12_greedy_79 (by decide) (fun c_79 => ?_) (fun c_79 => ?_)
                    · replace hf := if_t c_79 hf
                      have hf : m_Mo_greedy_E120 a1 h0_lean h0_size h0_most_n h0_most_f h0_copyAt_n h0_copyLength_n h0_text_n h0_text_f h0_copyOffset_n f22 f23 f24 g25 j3_26 j6_27 = some r_10 := by have hq := hk_71; rw [iter_exit hf hr_71] at hq; exact hq
                      exact hJ_120 f22 f23 f24 g25 j3_26 j6_27 _ _ _ hf hP hD hS (lv_sub hl [0, 1, 2, 3, 4] rfl)
                    · replace hf := if_f c_79 hf
                      refine lv_iload hx hb dX12_greedy_82 (lv_at hl 4 rfl) ?_
                      refine lv_bipush (v := 68) hx hb dX12_greedy_84 (by decide) ?_
                      have hJ_96 : ∀ (s28 : Int32) (H : Heap) (locs : List Loc) (ls : Array Slot), m_Mo_greedy_J96 h0_lean h0_size h0_copyAt_n h0_copyLength_n h0_text_n h0_text_f h0_copyOffset_n f22 f23 f24 g25 j3_26 j6_27 s28 = some r_71 → va_P (dC, dI) vwCl [(h0, .inr (10, [w_h0_in, w_h0_inSize, w_h0_out, w_h0_outSize, w_h0_dict, w_h0_dictSize, w_h0_told, w_h0_fresh, w_h0_freshSize, .ref h0_text, .int h0_lean, .int h0_size, .ref h0_most, w_h0_offset, .ref h0_copyAt, .int g25, .ref h0_copyLength, .ref h0_copyOffset, w_h0_fromHere, w_h0_withCopy, w_h0_bestCopy, w_h0_bestLiterals, w_h0_copiesOf, w_h0_literalsOf, w_h0_partsOf, w_h0_blocks, w_h0_blockMany, w_h0_newBlocks, w_h0_newMany, w_h0_rule, w_h0_place, w_h0_at])), (h0_most, .inl (cI, h0_most_n, .inl h0_most_f)), (h0_copyAt, .inl (cI, h0_copyAt_n, .inl f22)), (h0_copyLength, .inl (cI, h0_copyLength_n, .inl f23)), (h0_text, .inl (cI, h0_text_n, .inl h0_text_f)), (h0_copyOffset, .inl (cI, h0_copyOffset_n, .inl f24))] H → va_D A [(h0, .inr (10, [w_h0_in, w_h0_inSize, w_h0_out, w_h0_outSize, w_h0_dict, w_h0_dictSize, w_h0_told, w_h0_fresh, w_h0_freshSize, .ref h0_text, .int h0_lean, .int h0_size, .ref h0_most, w_h0_offset, .ref h0_copyAt, .int g25, .ref h0_copyLength, .ref h0_copyOffset, w_h0_fromHere, w_h0_withCopy, w_h0_bestCopy, w_h0_bestLiterals, w_h0_copiesOf, w_h0_literalsOf, w_h0_partsOf, w_h0_blocks, w_h0_blockMany, w_h0_newBlocks, w_h0_newMany, w_h0_rule, w_h0_place, w_h0_at])), (h0_most, .inl (cI, h0_most_n, .inl h0_most_f)), (h0_copyAt, .inl (cI, h0_copyAt_n, .inl f22)), (h0_copyLength, .inl (cI, h0_copyLength_n, .inl f23)), (h0_text, .inl (cI, h0_text_n, .inl h0_text_f)), (h0_copyOffset, .inl (cI, h0_copyOffset_n, .inl f24))] → va_S A s.heap H locs → lv_has ls 8 [(0, .ref h0), (1, .int a1), (2, .int a2), (3, .int j3_26), (6, .int j6_27)] → W p l e (rm_Mo_greedy) s m ([.ref h0, .int a1, .int a2] : List Value).toArray below meth c H locs 0 0 Q (F0 m 96 ls [.int s28]) := by
                        intro s28 H locs ls hf hP hD hS hl
                        unfold m_Mo_greedy_J96 at hf
                        refine lv_istore (lv' := [(7, .int s28), (0, .ref h0), (1, .int a1), (2, .int a2), (3, .int j3_26), (6, .int j6_27)]) hx hb dX12_greedy_96 hl (by decide) rfl (fun ls hl => ?_)
                        refine lv_aload_n hx hb dX12_greedy_98 rfl (lv_at hl 1 rfl) ?_
                        refine lv_iload_n hx hb dX12_greedy_99 rfl (lv_at hl 4 rfl) ?_
                        refine lv_iload hx hb dX12_greedy_100 (lv_at hl 0 rfl) ?_
                        obtain ⟨x, hc, hf⟩ := bind_some hf
                        obtain ⟨u29, u30, u31, u32⟩ := x
                        dsimp only at hf
                        refine nx_v (rn_V (As := [.int j3_26, .int s28]) (rest := []) (n := 2) (ci := 10) (q0 := 0) ⟨hx, hb, hml, hown, hts⟩ (c_Mo_copy (l := l) (dC := dC) (dI := dI) (cB := cB) (cI := cI) (h0 := h0) (a1 := j3_26) (a2 := s28) (h0_copyAt := h0_copyAt) (h0_copyLength := h0_copyLength) (h0_text := h0_text) (h0_copyOffset := h0_copyOffset) (w_h0_in := (w_h0_in)) (w_h0_inSize := (w_h0_inSize)) (w_h0_out := (w_h0_out)) (w_h0_outSize := (w_h0_outSize)) (w_h0_dict := (w_h0_dict)) (w_h0_dictSize := (w_h0_dictSize)) (w_h0_told := (w_h0_told)) (w_h0_fresh := (w_h0_fresh)) (w_h0_freshSize := (w_h0_freshSize)) (h0_lean := h0_lean) (h0_size := h0_size) (w_h0_most := (.ref h0_most)) (w_h0_offset := (w_h0_offset)) (h0_copies := g25) (w_h0_fromHere := (w_h0_fromHere)) (w_h0_withCopy := (w_h0_withCopy)) (w_h0_bestCopy := (w_h0_bestCopy)) (w_h0_bestLiterals := (w_h0_bestLiterals)) (w_h0_copiesOf := (w_h0_copiesOf)) (w_h0_literalsOf := (w_h0_literalsOf)) (w_h0_partsOf := (w_h0_partsOf)) (w_h0_blocks := (w_h0_blocks)) (w_h0_blockMany := (w_h0_blockMany)) (w_h0_newBlocks := (w_h0_newBlocks)) (w_h0_newMany := (w_h0_newMany)) (w_h0_rule := (w_h0_rule)) (w_h0_place := (w_h0_place)) (w_h0_at := (w_h0_at)) (h0_copyAt_n := h0_copyAt_n) (h0_copyAt_f := f22) (h0_copyLength_n := h0_copyLength_n) (h0_copyLength_f := f23) (h0_text_n := h0_text_n) (h0_text_f := h0_text_f) (h0_copyOffset_n := h0_copyOffset_n) (h0_copyOffset_f := f24) (o_h0_copies := u29) (o_h0_copyAt_f := u30) (o_h0_copyLength_f := u31) (o_h0_copyOffset_f := u32) hc) (wV kw_1270 kw_1272 kw_59 kw_94 kw_1273) (by decide +kernel) ⟨Nat.le_of_ble_eq_true rfl, Nat.le_of_ble_eq_true rfl⟩ hK hP hD hN hT hS (va_free (wc := [(h0, .inr (10, [w_h0_in, w_h0_inSize, w_h0_out, w_h0_outSize, w_h0_dict, w_h0_dictSize, w_h0_told, w_h0_fresh, w_h0_freshSize, .ref h0_text, .int h0_lean, .int h0_size, .ref h0_most, w_h0_offset, .ref h0_copyAt, .int g25, .ref h0_copyLength, .ref h0_copyOffset, w_h0_fromHere, w_h0_withCopy, w_h0_bestCopy, w_h0_bestLiterals, w_h0_copiesOf, w_h0_literalsOf, w_h0_partsOf, w_h0_blocks, w_h0_blockMany, w_h0_newBlocks, w_h0_newMany, w_h0_rule, w_h0_place, w_h0_at])), (h0_copyAt, .inl (cI, h0_copyAt_n, .inl f22)), (h0_copyLength, .inl (cI, h0_copyLength_n, .inl f23)), (h0_text, .inl (cI, h0_text_n, .inl h0_text_f)), (h0_copyOffset, .inl (cI, h0_copyOffset_n, .inl f24))]) hD hS hA [0, 2, 3, 4, 5] rfl) [0, 2, 3, 4, 5] rfl (by decide) rfl rfl rfl hl.1 rfl (lv_room (Nat.le_of_ble_eq_true rfl)) dX12_greedy_102 ⟨Nat.le_of_ble_eq_true rfl, Nat.le_of_ble_eq_true rfl⟩) hP hD hS hA (wr := [(h0_most, .inl (cI, h0_most_n, .inl h0_most_f))]) (w1 := [(h0, .inr (10, [w_h0_in, w_h0_inSize, w_h0_out, w_h0_outSize, w_h0_dict, w_h0_dictSize, w_h0_told, w_h0_fresh, w_h0_freshSize, .ref h0_text, .int h0_lean, .int h0_size, .ref h0_most, w_h0_offset, .ref h0_copyAt, .int u29, .ref h0_copyLength, .ref h0_copyOffset, w_h0_fromHere, w_h0_withCopy, w_h0_bestCopy, w_h0_bestLiterals, w_h0_copiesOf, w_h0_literalsOf, w_h0_partsOf, w_h0_blocks, w_h0_blockMany, w_h0_newBlocks, w_h0_newMany, w_h0_rule, w_h0_place, w_h0_at])), (h0_copyAt, .inl (cI, h0_copyAt_n, .inl u30)), (h0_copyLength, .inl (cI, h0_copyLength_n, .inl u31)), (h0_text, .inl (cI, h0_text_n, .inl h0_text_f)), (h0_copyOffset, .inl (cI, h0_copyOffset_n, .inl u32))]) (ws' := [(h0, .inr (10, [w_h0_in, w_h0_inSize, w_h0_out, w_h0_outSize, w_h0_dict, w_h0_dictSize, w_h0_told, w_h0_fresh, w_h0_freshSize, .ref h0_text, .int h0_lean, .int h0_size, .ref h0_most, w_h0_offset, .ref h0_copyAt, .int u29, .ref h0_copyLength, .ref h0_copyOffset, w_h0_fromHere, w_h0_withCopy, w_h0_bestCopy, w_h0_bestLiterals, w_h0_copiesOf, w_h0_literalsOf, w_h0_partsOf, w_h0_blocks, w_h0_blockMany, w_h0_newBlocks, w_h0_newMany, w_h0_rule, w_h0_place, w_h0_at])), (h0_most, .inl (cI, h0_most_n, .inl h0_most_f)), (h0_copyAt, .inl (cI, h0_copyAt_n, .inl u30)), (h0_copyLength, .inl (cI, h0_copyLength_n, .inl u31)), (h0_text, .inl (cI, h0_text_n, .inl h0_text_f)), (h0_copyOffset, .inl (cI, h0_copyOffset_n, .inl u32))]) [0, 2, 3, 4, 5] [1] [1, 0, 2, 3, 4, 5] rfl rfl (by decide) (by decide) rfl (by decide) (fun H locs hP hD hS => ?_)
                        refine lv_iload_n hx hb dX12_greedy_105 rfl (lv_at hl 4 rfl) ?_
                        refine lv_iload hx hb dX12_greedy_106 (lv_at hl 0 rfl) ?_
                        refine lv_iadd hx hb dX12_greedy_108 ?_
                        refine lv_topi (fun v3_33 e_v3_33 => ?_)
                        replace hf := bnd_at e_v3_33 hf
                        refine lv_istore_n (lv' := [(3, .int v3_33), (7, .int s28), (0, .ref h0), (1, .int a1), (2, .int a2), (6, .int j6_27)]) hx hb dX12_greedy_109 rfl hl (by decide) rfl (fun ls hl => ?_)
                        refine lv_iload hx hb dX12_greedy_110 (lv_at hl 5 rfl) ?_
                        refine lv_iload hx hb dX12_greedy_112 (lv_at hl 1 rfl) ?_
                        refine lv_isub hx hb dX12_greedy_114 ?_
                        refine lv_topi (fun v6_34 e_v6_34 => ?_)
                        replace hf := bnd_at e_v6_34 hf
                        refine lv_istore (lv' := [(6, .int v6_34), (3, .int v3_33), (7, .int s28), (0, .ref h0), (1, .int a1), (2, .int a2)]) hx hb dX12_greedy_115 hl (by decide) rfl (fun ls hl => ?_)
                        refine lv_goto (tgt := 71) hx hb dX12_greedy_117 (by decide) ?_
                        exact ih_71 u30 u31 u32 u29 v3_33 v6_34 _ _ _ (iter_back hf hr_71) hP hD hS (lv_sub hl [3, 4, 5, 1, 0] rfl)
                      refine lv_icmp_lt (tgt := 94) hx hb dX12_greedy_86 (by decide) (fun c_86 => ?_) (fun c_86 => ?_)
                      · replace hf := if_t c_86 hf
                        refine lv_bipush (v := 60) hx hb dX12_greedy_94 (by decide) ?_
                        exact hJ_96 (60 : Int32) _ _ _ hf hP hD hS (lv_sub hl [0, 1, 2, 3, 4] rfl)
                      · replace hf := if_f c_86 hf
                        refine lv_bipush (v := 64) hx hb dX12_greedy_89 (by decide) ?_
                        refine lv_goto (tgt := 96) hx hb dX12_greedy_91 (by decide) ?_
                        exact hJ_96 (64 : Int32) _ _ _ hf hP hD hS (lv_sub hl [0, 1, 2, 3, 4] rfl)
              exact hL_71 FU f2 f3 f4 g5 j3_6 j4_7 _ _ _ hi_71 hP hD hS (lv_sub hl [1, 2, 3, 4, 0] rfl)
            refine lv_if_eq (tgt := 67) hx hb dX12_greedy_47 (by decide) (fun c_47 => ?_) (fun c_47 => ?_)
            · replace hf := if_t c_47 hf
              exact hJ_67  _ _ _ hf hP hD hS (lv_sub hl [1, 2, 3, 4, 5] rfl)
            · replace hf := if_f c_47 hf
              refine lv_iload hx hb dX12_greedy_50 (lv_at hl 0 rfl) ?_
              refine lv_iload hx hb dX12_greedy_52 (lv_at hl 5 rfl) ?_
              refine lv_icmp_le (tgt := 67) hx hb dX12_greedy_54 (by decide) (fun c_54 => ?_) (fun c_54 => ?_)
              · replace hf := if_t c_54 hf
                exact hJ_67  _ _ _ hf hP hD hS (lv_sub hl [1, 2, 3, 4, 5] rfl)
              · replace hf := if_f c_54 hf
                exact hJ_57  _ _ _ hf hP hD hS (lv_sub hl [1, 2, 3, 4, 0] rfl)
        have hJ_27 : ∀ (H : Heap) (locs : List Loc) (ls : Array Slot), m_Mo_greedy_J27 a1 a2 h0_lean h0_size h0_most_n h0_most_f h0_copyAt_n h0_copyLength_n h0_text_n h0_text_f h0_copyOffset_n f2 f3 f4 g5 j3_6 j4_7 = some r_10 → va_P (dC, dI) vwCl [(h0, .inr (10, [w_h0_in, w_h0_inSize, w_h0_out, w_h0_outSize, w_h0_dict, w_h0_dictSize, w_h0_told, w_h0_fresh, w_h0_freshSize, .ref h0_text, .int h0_lean, .int h0_size, .ref h0_most, w_h0_offset, .ref h0_copyAt, .int g5, .ref h0_copyLength, .ref h0_copyOffset, w_h0_fromHere, w_h0_withCopy, w_h0_bestCopy, w_h0_bestLiterals, w_h0_copiesOf, w_h0_literalsOf, w_h0_partsOf, w_h0_blocks, w_h0_blockMany, w_h0_newBlocks, w_h0_newMany, w_h0_rule, w_h0_place, w_h0_at])), (h0_most, .inl (cI, h0_most_n, .inl h0_most_f)), (h0_copyAt, .inl (cI, h0_copyAt_n, .inl f2)), (h0_copyLength, .inl (cI, h0_copyLength_n, .inl f3)), (h0_text, .inl (cI, h0_text_n, .inl h0_text_f)), (h0_copyOffset, .inl (cI, h0_copyOffset_n, .inl f4))] H → va_D A [(h0, .inr (10, [w_h0_in, w_h0_inSize, w_h0_out, w_h0_outSize, w_h0_dict, w_h0_dictSize, w_h0_told, w_h0_fresh, w_h0_freshSize, .ref h0_text, .int h0_lean, .int h0_size, .ref h0_most, w_h0_offset, .ref h0_copyAt, .int g5, .ref h0_copyLength, .ref h0_copyOffset, w_h0_fromHere, w_h0_withCopy, w_h0_bestCopy, w_h0_bestLiterals, w_h0_copiesOf, w_h0_literalsOf, w_h0_partsOf, w_h0_blocks, w_h0_blockMany, w_h0_newBlocks, w_h0_newMany, w_h0_rule, w_h0_place, w_h0_at])), (h0_most, .inl (cI, h0_most_n, .inl h0_most_f)), (h0_copyAt, .inl (cI, h0_copyAt_n, .inl f2)), (h0_copyLength, .inl (cI, h0_copyLength_n, .inl f3)), (h0_text, .inl (cI, h0_text_n, .inl h0_text_f)), (h0_copyOffset, .inl (cI, h0_copyOffset_n, .inl f4))] → va_S A s.heap H locs → lv_has ls 8 [(0, .ref h0), (1, .int a1), (2, .int a2), (3, .int j3_6), (4, .int j4_7)] → W p l e (rm_Mo_greedy) s m ([.ref h0, .int a1, .int a2] : List Value).toArray below meth c H locs 0 0 Q (F0 m 27 ls []) := by
          intro  H locs ls hf hP hD hS hl
          unfold m_Mo_greedy_J27 at hf
          refine lv_aload_n hx hb dX12_greedy_27 rfl (lv_at hl 0 rfl) ?_
          refine lv_iload_n hx hb dX12_greedy_28 rfl (lv_at hl 3 rfl) ?_
          refine lv_iconst (v := 1) hx hb dX12_greedy_29 (by decide) ?_
          refine lv_iadd hx hb dX12_greedy_30 ?_
          refine lv_iload_n hx hb dX12_greedy_31 rfl (lv_at hl 1 rfl) ?_
          obtain ⟨r35, hc, hf⟩ := bind_some hf
          refine nx_i (rn_V (As := [.int (j3_6 + (1 : Int32)), .int a1]) (rest := []) (n := 2) (ci := 10) (q0 := 0) ⟨hx, hb, hml, hown, hts⟩ (c_Mo_match (l := l) (dC := dC) (dI := dI) (cB := cB) (cI := cI) (h0 := h0) (a1 := (j3_6 + (1 : Int32))) (a2 := a1) (h0_most := h0_most) (w_h0_in := (w_h0_in)) (w_h0_inSize := (w_h0_inSize)) (w_h0_out := (w_h0_out)) (w_h0_outSize := (w_h0_outSize)) (w_h0_dict := (w_h0_dict)) (w_h0_dictSize := (w_h0_dictSize)) (w_h0_told := (w_h0_told)) (w_h0_fresh := (w_h0_fresh)) (w_h0_freshSize := (w_h0_freshSize)) (w_h0_text := (.ref h0_text)) (w_h0_lean := (.int h0_lean)) (h0_size := h0_size) (w_h0_offset := (w_h0_offset)) (w_h0_copyAt := (.ref h0_copyAt)) (w_h0_copies := (.int g5)) (w_h0_copyLength := (.ref h0_copyLength)) (w_h0_copyOffset := (.ref h0_copyOffset)) (w_h0_fromHere := (w_h0_fromHere)) (w_h0_withCopy := (w_h0_withCopy)) (w_h0_bestCopy := (w_h0_bestCopy)) (w_h0_bestLiterals := (w_h0_bestLiterals)) (w_h0_copiesOf := (w_h0_copiesOf)) (w_h0_literalsOf := (w_h0_literalsOf)) (w_h0_partsOf := (w_h0_partsOf)) (w_h0_blocks := (w_h0_blocks)) (w_h0_blockMany := (w_h0_blockMany)) (w_h0_newBlocks := (w_h0_newBlocks)) (w_h0_newMany := (w_h0_newMany)) (w_h0_rule := (w_h0_rule)) (w_h0_place := (w_h0_place)) (w_h0_at := (w_h0_at)) (h0_most_n := h0_most_n) (h0_most_f := h0_most_f)  (o_r := r35) hc) (wV kw_1252 kw_1254 kw_57 kw_94 kw_1255) (by decide +kernel) ⟨Nat.le_of_ble_eq_true rfl, Nat.le_of_ble_eq_true rfl⟩ hK hP hD hN hT hS (va_free (wc := [(h0, .inr (10, [w_h0_in, w_h0_inSize, w_h0_out, w_h0_outSize, w_h0_dict, w_h0_dictSize, w_h0_told, w_h0_fresh, w_h0_freshSize, .ref h0_text, .int h0_lean, .int h0_size, .ref h0_most, w_h0_offset, .ref h0_copyAt, .int g5, .ref h0_copyLength, .ref h0_copyOffset, w_h0_fromHere, w_h0_withCopy, w_h0_bestCopy, w_h0_bestLiterals, w_h0_copiesOf, w_h0_literalsOf, w_h0_partsOf, w_h0_blocks, w_h0_blockMany, w_h0_newBlocks, w_h0_newMany, w_h0_rule, w_h0_place, w_h0_at])), (h0_most, .inl (cI, h0_most_n, .inl h0_most_f))]) hD hS hA [0, 1] rfl) [0, 1] rfl (by decide) rfl rfl rfl hl.1 rfl (lv_room (Nat.le_of_ble_eq_true rfl)) dX12_greedy_32 ⟨Nat.le_of_ble_eq_true rfl, Nat.le_of_ble_eq_true rfl⟩) hP hD hS hA (wr := [(h0_copyAt, .inl (cI, h0_copyAt_n, .inl f2)), (h0_copyLength, .inl (cI, h0_copyLength_n, .inl f3)), (h0_text, .inl (cI, h0_text_n, .inl h0_text_f)), (h0_copyOffset, .inl (cI, h0_copyOffset_n, .inl f4))]) (w1 := [(h0, .inr (10, [w_h0_in, w_h0_inSize, w_h0_out, w_h0_outSize, w_h0_dict, w_h0_dictSize, w_h0_told, w_h0_fresh, w_h0_freshSize, .ref h0_text, .int h0_lean, .int h0_size, .ref h0_most, w_h0_offset, .ref h0_copyAt, .int g5, .ref h0_copyLength, .ref h0_copyOffset, w_h0_fromHere, w_h0_withCopy, w_h0_bestCopy, w_h0_bestLiterals, w_h0_copiesOf, w_h0_literalsOf, w_h0_partsOf, w_h0_blocks, w_h0_blockMany, w_h0_newBlocks, w_h0_newMany, w_h0_rule, w_h0_place, w_h0_at])), (h0_most, .inl (cI, h0_most_n, .inl h0_most_f))]) (ws' := [(h0, .inr (10, [w_h0_in, w_h0_inSize, w_h0_out, w_h0_outSize, w_h0_dict, w_h0_dictSize, w_h0_told, w_h0_fresh, w_h0_freshSize, .ref h0_text, .int h0_lean, .int h0_size, .ref h0_most, w_h0_offset, .ref h0_copyAt, .int g5, .ref h0_copyLength, .ref h0_copyOffset, w_h0_fromHere, w_h0_withCopy, w_h0_bestCopy, w_h0_bestLiterals, w_h0_copiesOf, w_h0_literalsOf, w_h0_partsOf, w_h0_blocks, w_h0_blockMany, w_h0_newBlocks, w_h0_newMany, w_h0_rule, w_h0_place, w_h0_at])), (h0_most, .inl (cI, h0_most_n, .inl h0_most_f)), (h0_copyAt, .inl (cI, h0_copyAt_n, .inl f2)), (h0_copyLength, .inl (cI, h0_copyLength_n, .inl f3)), (h0_text, .inl (cI, h0_text_n, .inl h0_text_f)), (h0_copyOffset, .inl (cI, h0_copyOffset_n, .inl f4))]) [0, 1] [2, 3, 4, 5] [4, 5, 0, 1, 2, 3] rfl rfl (by decide) (by decide) rfl (by decide) (fun H locs hP hD hS => ?_)
          refine lv_goto (tgt := 39) hx hb dX12_greedy_35 (by decide) ?_
          exact hJ_39 r35 _ _ _ hf hP hD hS (lv_sub hl [0, 1, 2, 3, 4] rfl)
        refine lv_if_eq (tgt := 27) hx hb dX12_greedy_20 (by decide) (fun c_20 => ?_) (fun c_20 => ?_)
        · replace hf := if_t c_20 hf
          exact hJ_27  _ _ _ hf hP hD hS (lv_sub hl [0, 1, 2, 3, 4] rfl)
        · replace hf := if_f c_20 hf
          refine lv_iload_n hx hb dX12_greedy_23 rfl (lv_at hl 2 rfl) ?_
          refine lv_if_eq (tgt := 38) hx hb dX12_greedy_24 (by decide) (fun c_24 => ?_) (fun c_24 => ?_)
          · replace hf := if_t c_24 hf
            refine lv_iconst (v := 0) hx hb dX12_greedy_38 (by decide) ?_
            exact hJ_39 (0 : Int32) _ _ _ hf hP hD hS (lv_sub hl [0, 1, 2, 3, 4] rfl)
          · replace hf := if_f c_24 hf
            exact hJ_27  _ _ _ hf hP hD hS (lv_sub hl [0, 1, 2, 3, 4] rfl)
  exact hL_10 FU h0_copyAt_f h0_copyLength_f h0_copyOffset_f h0_copies (0 : Int32) r1 _ _ _ hi_10 hP hD hS (lv_sub hl [2, 3, 4, 1, 0] rfl)

theorem dX12_ext_0 : decode cX12_ext 0 = .ok (.iload_n 0, 1) := by decide +kernel
theorem dX12_ext_1 : decode cX12_ext 1 = .ok (.bipush 15, 2) := by decide +kernel
theorem dX12_ext_3 : decode cX12_ext 3 = .ok (.if_icmp .ge 7, 3) := by decide +kernel
theorem dX12_ext_6 : decode cX12_ext 6 = .ok (.iconst 0, 1) := by decide +kernel
theorem dX12_ext_7 : decode cX12_ext 7 = .ok (.goto 13, 3) := by decide +kernel
theorem dX12_ext_10 : decode cX12_ext 10 = .ok (.iload_n 0, 1) := by decide +kernel
theorem dX12_ext_11 : decode cX12_ext 11 = .ok (.bipush 15, 2) := by decide +kernel
theorem dX12_ext_13 : decode cX12_ext 13 = .ok (.isub, 1) := by decide +kernel
theorem dX12_ext_14 : decode cX12_ext 14 = .ok (.sipush 255, 3) := by decide +kernel
theorem dX12_ext_17 : decode cX12_ext 17 = .ok (.idiv, 1) := by decide +kernel
theorem dX12_ext_18 : decode cX12_ext 18 = .ok (.iconst 1, 1) := by decide +kernel
theorem dX12_ext_19 : decode cX12_ext 19 = .ok (.iadd, 1) := by decide +kernel
theorem dX12_ext_20 : decode cX12_ext 20 = .ok (.ireturn, 1) := by decide +kernel
def m_Mo_ext (a0 : Int32) : Option (Int32) :=
  if (15 : Int32) ≤ a0 then
    some (((a0 - (15 : Int32)) / (255 : Int32)) + (1 : Int32))
  else
    some (0 : Int32)
def rm_Mo_ext : Room := { frames := 0, cells := 0, slots := 0, locals := 0 }
set_option maxHeartbeats 4000000 in
set_option maxRecDepth 100000 in
theorem c_Mo_ext {l : Launch} {dC : Nat → ClassId} {dI : Nat → Nat → Nat} {cB cI : ClassId} {sz : Nat} {a0 : Int32} {o_r : Int32} (hf : m_Mo_ext a0 = some o_r) : Met l yX12_ext (Cond.code yX12_ext cX12_ext 1 (some .int) :: lw_G) rm_Mo_ext (PreC (dC, dI) [(cB, .byte), (cI, .int)] [.int a0] sz []) (QcI o_r (dC, dI) [] (va_A [] sz)) 0 0 (va_A [] sz) := by
  refine met_of (Qf := fun A => QcI o_r (dC, dI) [] A) (by decide) (Nat.le_of_ble_eq_true rfl) ?_
  intro p e s m below meth c A ls Q hx hb hr hml hown hts hlocks hnm hP hK hD hN hT hA hl hQ
  have hown : s.vm.findClass RX12 = some m.cls := hown
  have hS : va_S A s.heap s.heap [] := va_S.rf
  have hl : lv_has ls 1 [(0, .int a0)] := hl
  unfold m_Mo_ext at hf
  refine lv_iload_n hx hb dX12_ext_0 rfl (lv_at hl 0 rfl) ?_
  refine lv_bipush (v := 15) hx hb dX12_ext_1 (by decide) ?_
  refine lv_icmp_ge (tgt := 10) hx hb dX12_ext_3 (by decide) (fun c_3 => ?_) (fun c_3 => ?_)
  · replace hf := if_t c_3 hf
    refine lv_iload_n hx hb dX12_ext_10 rfl (lv_at hl 0 rfl) ?_
    refine lv_bipush (v := 15) hx hb dX12_ext_11 (by decide) ?_
    refine lv_isub hx hb dX12_ext_13 ?_
    refine lv_sipush (v := 255) hx hb dX12_ext_14 (by decide) ?_
    refine lv_idiv hx hb dX12_ext_17 (by decide) ?_
    refine lv_iconst (v := 1) hx hb dX12_ext_18 (by decide) ?_
    refine lv_iadd hx hb dX12_ext_19 ?_
    obtain rfl := Option.some.inj hf
    exact rt_i hQ hx hb hr hlocks hP hD hS dX12_ext_20
  · replace hf := if_f c_3 hf
    refine lv_iconst (v := 0) hx hb dX12_ext_6 (by decide) ?_
    refine lv_goto (tgt := 20) hx hb dX12_ext_7 (by decide) ?_
    obtain rfl := Option.some.inj hf
    exact rt_i hQ hx hb hr hlocks hP hD hS dX12_ext_20

theorem dX12_literals_0 : decode cX12_literals 0 = .ok (.iload_n 1, 1) := by decide +kernel
theorem dX12_literals_1 : decode cX12_literals 1 = .ok (.ifCond .eq 14, 3) := by decide +kernel
theorem dX12_literals_4 : decode cX12_literals 4 = .ok (.iconst 1, 1) := by decide +kernel
theorem dX12_literals_5 : decode cX12_literals 5 = .ok (.iload_n 0, 1) := by decide +kernel
theorem dX12_literals_6 : decode cX12_literals 6 = .ok (.invokestatic 70, 3) := by decide +kernel
theorem dX12_literals_9 : decode cX12_literals 9 = .ok (.iadd, 1) := by decide +kernel
theorem dX12_literals_10 : decode cX12_literals 10 = .ok (.iload_n 0, 1) := by decide +kernel
theorem dX12_literals_11 : decode cX12_literals 11 = .ok (.iadd, 1) := by decide +kernel
theorem dX12_literals_12 : decode cX12_literals 12 = .ok (.goto 39, 3) := by decide +kernel
theorem dX12_literals_15 : decode cX12_literals 15 = .ok (.iload_n 0, 1) := by decide +kernel
theorem dX12_literals_16 : decode cX12_literals 16 = .ok (.ifCond .ne 7, 3) := by decide +kernel
theorem dX12_literals_19 : decode cX12_literals 19 = .ok (.iconst 0, 1) := by decide +kernel
theorem dX12_literals_20 : decode cX12_literals 20 = .ok (.goto 31, 3) := by decide +kernel
theorem dX12_literals_23 : decode cX12_literals 23 = .ok (.iload_n 0, 1) := by decide +kernel
theorem dX12_literals_24 : decode cX12_literals 24 = .ok (.bipush 60, 2) := by decide +kernel
theorem dX12_literals_26 : decode cX12_literals 26 = .ok (.if_icmp .gt 9, 3) := by decide +kernel
theorem dX12_literals_29 : decode cX12_literals 29 = .ok (.iconst 1, 1) := by decide +kernel
theorem dX12_literals_30 : decode cX12_literals 30 = .ok (.iload_n 0, 1) := by decide +kernel
theorem dX12_literals_31 : decode cX12_literals 31 = .ok (.iadd, 1) := by decide +kernel
theorem dX12_literals_32 : decode cX12_literals 32 = .ok (.goto 19, 3) := by decide +kernel
theorem dX12_literals_35 : decode cX12_literals 35 = .ok (.iload_n 0, 1) := by decide +kernel
theorem dX12_literals_36 : decode cX12_literals 36 = .ok (.sipush 256, 3) := by decide +kernel
theorem dX12_literals_39 : decode cX12_literals 39 = .ok (.if_icmp .gt 9, 3) := by decide +kernel
theorem dX12_literals_42 : decode cX12_literals 42 = .ok (.iconst 2, 1) := by decide +kernel
theorem dX12_literals_43 : decode cX12_literals 43 = .ok (.iload_n 0, 1) := by decide +kernel
theorem dX12_literals_44 : decode cX12_literals 44 = .ok (.iadd, 1) := by decide +kernel
theorem dX12_literals_45 : decode cX12_literals 45 = .ok (.goto 6, 3) := by decide +kernel
theorem dX12_literals_48 : decode cX12_literals 48 = .ok (.iconst 3, 1) := by decide +kernel
theorem dX12_literals_49 : decode cX12_literals 49 = .ok (.iload_n 0, 1) := by decide +kernel
theorem dX12_literals_50 : decode cX12_literals 50 = .ok (.iadd, 1) := by decide +kernel
theorem dX12_literals_51 : decode cX12_literals 51 = .ok (.ireturn, 1) := by decide +kernel
def m_Mo_literals (a0 : Int32) (a1 : Int32) : Option (Int32) :=
  if a1 = 0 then
    if a0 = 0 then
      some (0 : Int32)
    else
      if (60 : Int32) < a0 then
        if (256 : Int32) < a0 then
          some ((3 : Int32) + a0)
        else
          some ((2 : Int32) + a0)
      else
        some ((1 : Int32) + a0)
  else
    (m_Mo_ext a0).bind fun r1 =>
    some (((1 : Int32) + r1) + a0)
def rm_Mo_literals : Room := { frames := 1, cells := 0, slots := 0, locals := 20 }
set_option maxHeartbeats 4000000 in
set_option maxRecDepth 100000 in
theorem c_Mo_literals {l : Launch} {dC : Nat → ClassId} {dI : Nat → Nat → Nat} {cB cI : ClassId} {sz : Nat} {a0 : Int32} {a1 : Int32} {o_r : Int32} (hf : m_Mo_literals a0 a1 = some o_r) : Met l yX12_literals (Cond.code yX12_literals cX12_literals 2 (some .int) :: lw_G) rm_Mo_literals (PreC (dC, dI) [(cB, .byte), (cI, .int)] [.int a0, .int a1] sz []) (QcI o_r (dC, dI) [] (va_A [] sz)) 0 0 (va_A [] sz) := by
  refine met_of (Qf := fun A => QcI o_r (dC, dI) [] A) (by decide) (Nat.le_of_ble_eq_true rfl) ?_
  intro p e s m below meth c A ls Q hx hb hr hml hown hts hlocks hnm hP hK hD hN hT hA hl hQ
  have hown : s.vm.findClass RX12 = some m.cls := hown
  have hS : va_S A s.heap s.heap [] := va_S.rf
  have hl : lv_has ls 2 [(0, .int a0), (1, .int a1)] := hl
  unfold m_Mo_literals at hf
  refine lv_iload_n hx hb dX12_literals_0 rfl (lv_at hl 1 rfl) ?_
  refine lv_if_eq (tgt := 15) hx hb dX12_literals_1 (by decide) (fun c_1 => ?_) (fun c_1 => ?_)
  · replace hf := if_t c_1 hf
    refine lv_iload_n hx hb dX12_literals_15 rfl (lv_at hl 0 rfl) ?_
    refine lv_if_ne (tgt := 23) hx hb dX12_literals_16 (by decide) (fun c_16 => ?_) (fun c_16 => ?_)
    · replace hf := if_f c_16 hf
      refine lv_iload_n hx hb dX12_literals_23 rfl (lv_at hl 0 rfl) ?_
      refine lv_bipush (v := 60) hx hb dX12_literals_24 (by decide) ?_
      refine lv_icmp_gt (tgt := 35) hx hb dX12_literals_26 (by decide) (fun c_26 => ?_) (fun c_26 => ?_)
      · replace hf := if_t c_26 hf
        refine lv_iload_n hx hb dX12_literals_35 rfl (lv_at hl 0 rfl) ?_
        refine lv_sipush (v := 256) hx hb dX12_literals_36 (by decide) ?_
        refine lv_icmp_gt (tgt := 48) hx hb dX12_literals_39 (by decide) (fun c_39 => ?_) (fun c_39 => ?_)
        · replace hf := if_t c_39 hf
          refine lv_iconst (v := 3) hx hb dX12_literals_48 (by decide) ?_
          refine lv_iload_n hx hb dX12_literals_49 rfl (lv_at hl 0 rfl) ?_
          refine lv_iadd hx hb dX12_literals_50 ?_
          obtain rfl := Option.some.inj hf
          exact rt_i hQ hx hb hr hlocks hP hD hS dX12_literals_51
        · replace hf := if_f c_39 hf
          refine lv_iconst (v := 2) hx hb dX12_literals_42 (by decide) ?_
          refine lv_iload_n hx hb dX12_literals_43 rfl (lv_at hl 0 rfl) ?_
          refine lv_iadd hx hb dX12_literals_44 ?_
          refine lv_goto (tgt := 51) hx hb dX12_literals_45 (by decide) ?_
          obtain rfl := Option.some.inj hf
          exact rt_i hQ hx hb hr hlocks hP hD hS dX12_literals_51
      · replace hf := if_f c_26 hf
        refine lv_iconst (v := 1) hx hb dX12_literals_29 (by decide) ?_
        refine lv_iload_n hx hb dX12_literals_30 rfl (lv_at hl 0 rfl) ?_
        refine lv_iadd hx hb dX12_literals_31 ?_
        refine lv_goto (tgt := 51) hx hb dX12_literals_32 (by decide) ?_
        obtain rfl := Option.some.inj hf
        exact rt_i hQ hx hb hr hlocks hP hD hS dX12_literals_51
    · replace hf := if_t c_16 hf
      refine lv_iconst (v := 0) hx hb dX12_literals_19 (by decide) ?_
      refine lv_goto (tgt := 51) hx hb dX12_literals_20 (by decide) ?_
      obtain rfl := Option.some.inj hf
      exact rt_i hQ hx hb hr hlocks hP hD hS dX12_literals_51
  · replace hf := if_f c_1 hf
    refine lv_iconst (v := 1) hx hb dX12_literals_4 (by decide) ?_
    refine lv_iload_n hx hb dX12_literals_5 rfl (lv_at hl 0 rfl) ?_
    obtain ⟨r1, hc, hf⟩ := bind_some hf
    refine nx_i (rn_S (As := [.int a0]) (rest := [.int (1 : Int32)]) (n := 1) ⟨hx, hb, hml, hown, hts⟩ (c_Mo_ext (l := l) (dC := dC) (dI := dI) (cB := cB) (cI := cI) (a0 := a0)  (o_r := r1) hc) (wS kw_1256 kw_1257 kw_94 kw_1258) (by decide +kernel) ⟨Nat.le_of_ble_eq_true rfl, Nat.le_of_ble_eq_true rfl⟩ hK hP hD hN hT hS (va_free (wc := []) hD hS hA [] rfl) [] rfl (by decide) rfl hl.1 rfl (lv_room (Nat.le_of_ble_eq_true rfl)) dX12_literals_6 ⟨Nat.le_of_ble_eq_true rfl, Nat.le_of_ble_eq_true rfl⟩) hP hD hS hA (wr := []) (w1 := []) (ws' := []) [] [] [] rfl rfl (by decide) (by decide) rfl (by decide) (fun H locs hP hD hS => ?_)
    refine lv_iadd hx hb dX12_literals_9 ?_
    refine lv_iload_n hx hb dX12_literals_10 rfl (lv_at hl 0 rfl) ?_
    refine lv_iadd hx hb dX12_literals_11 ?_
    refine lv_goto (tgt := 51) hx hb dX12_literals_12 (by decide) ?_
    obtain rfl := Option.some.inj hf
    exact rt_i hQ hx hb hr hlocks hP hD hS dX12_literals_51

theorem dX12_cheap_0 : decode cX12_cheap 0 = .ok (.iload_n 0, 1) := by decide +kernel
theorem dX12_cheap_1 : decode cX12_cheap 1 = .ok (.i2l, 1) := by decide +kernel
theorem dX12_cheap_2 : decode cX12_cheap 2 = .ok (.ldc2_w 97, 3) := by decide +kernel
theorem dX12_cheap_5 : decode cX12_cheap 5 = .ok (.ldc2_w 99, 3) := by decide +kernel
theorem dX12_cheap_8 : decode cX12_cheap 8 = .ok (.invokestatic 101, 3) := by decide +kernel
theorem dX12_cheap_11 : decode cX12_cheap 11 = .ok (.ifCond .eq 14, 3) := by decide +kernel
theorem dX12_cheap_14 : decode cX12_cheap 14 = .ok (.iload_n 1, 1) := by decide +kernel
theorem dX12_cheap_15 : decode cX12_cheap 15 = .ok (.sipush 2048, 3) := by decide +kernel
theorem dX12_cheap_18 : decode cX12_cheap 18 = .ok (.if_icmp .ge 7, 3) := by decide +kernel
theorem dX12_cheap_21 : decode cX12_cheap 21 = .ok (.iconst 2, 1) := by decide +kernel
theorem dX12_cheap_22 : decode cX12_cheap 22 = .ok (.goto 4, 3) := by decide +kernel
theorem dX12_cheap_25 : decode cX12_cheap 25 = .ok (.iconst 3, 1) := by decide +kernel
theorem dX12_cheap_26 : decode cX12_cheap 26 = .ok (.ireturn, 1) := by decide +kernel
def m_Mo_cheap (a0 : Int32) (a1 : Int32) : Option (Int32) :=
  (m_Mo_in (a0.toInt64) (4 : Int64) (11 : Int64)).bind fun r1 =>
  if r1 = 0 then
    some (3 : Int32)
  else
    if (2048 : Int32) ≤ a1 then
      some (3 : Int32)
    else
      some (2 : Int32)
def rm_Mo_cheap : Room := { frames := 1, cells := 0, slots := 0, locals := 25 }
set_option maxHeartbeats 4000000 in
set_option maxRecDepth 100000 in
theorem c_Mo_cheap {l : Launch} {dC : Nat → ClassId} {dI : Nat → Nat → Nat} {cB cI : ClassId} {sz : Nat} {a0 : Int32} {a1 : Int32} {o_r : Int32} (hf : m_Mo_cheap a0 a1 = some o_r) : Met l yX12_cheap (Cond.code yX12_cheap cX12_cheap 2 (some .int) :: lw_G) rm_Mo_cheap (PreC (dC, dI) [(cB, .byte), (cI, .int)] [.int a0, .int a1] sz []) (QcI o_r (dC, dI) [] (va_A [] sz)) 0 0 (va_A [] sz) := by
  refine met_of (Qf := fun A => QcI o_r (dC, dI) [] A) (by decide) (Nat.le_of_ble_eq_true rfl) ?_
  intro p e s m below meth c A ls Q hx hb hr hml hown hts hlocks hnm hP hK hD hN hT hA hl hQ
  have hown : s.vm.findClass RX12 = some m.cls := hown
  have hS : va_S A s.heap s.heap [] := va_S.rf
  have hl : lv_has ls 2 [(0, .int a0), (1, .int a1)] := hl
  unfold m_Mo_cheap at hf
  refine lv_iload_n hx hb dX12_cheap_0 rfl (lv_at hl 0 rfl) ?_
  refine lv_i2l (v := (a0.toInt64)) hx hb dX12_cheap_1 rfl ?_
  refine lv_ldc2 hx hb hown (hts _ kw_1185) dX12_cheap_2 ?_
  refine lv_ldc2 hx hb hown (hts _ kw_1266) dX12_cheap_5 ?_
  obtain ⟨r1, hc, hf⟩ := bind_some hf
  refine nx_i (rn_S (As := [.long (a0.toInt64), .long (4 : Int64), .long (11 : Int64)]) (rest := []) (n := 3) ⟨hx, hb, hml, hown, hts⟩ (c_Mo_in (l := l) (dC := dC) (dI := dI) (cB := cB) (cI := cI) (a0 := (a0.toInt64)) (a1 := (4 : Int64)) (a2 := (11 : Int64))  (o_r := r1) hc) (wS kw_1161 kw_1162 kw_94 kw_1163) (by decide +kernel) ⟨Nat.le_of_ble_eq_true rfl, Nat.le_of_ble_eq_true rfl⟩ hK hP hD hN hT hS (va_free (wc := []) hD hS hA [] rfl) [] rfl (by decide) rfl hl.1 rfl (lv_room (Nat.le_of_ble_eq_true rfl)) dX12_cheap_8 ⟨Nat.le_of_ble_eq_true rfl, Nat.le_of_ble_eq_true rfl⟩) hP hD hS hA (wr := []) (w1 := []) (ws' := []) [] [] [] rfl rfl (by decide) (by decide) rfl (by decide) (fun H locs hP hD hS => ?_)
  refine lv_if_eq (tgt := 25) hx hb dX12_cheap_11 (by decide) (fun c_11 => ?_) (fun c_11 => ?_)
  · replace hf := if_t c_11 hf
    refine lv_iconst (v := 3) hx hb dX12_cheap_25 (by decide) ?_
    obtain rfl := Option.some.inj hf
    exact rt_i hQ hx hb hr hlocks hP hD hS dX12_cheap_26
  · replace hf := if_f c_11 hf
    refine lv_iload_n hx hb dX12_cheap_14 rfl (lv_at hl 1 rfl) ?_
    refine lv_sipush (v := 2048) hx hb dX12_cheap_15 (by decide) ?_
    refine lv_icmp_ge (tgt := 25) hx hb dX12_cheap_18 (by decide) (fun c_18 => ?_) (fun c_18 => ?_)
    · replace hf := if_t c_18 hf
      refine lv_iconst (v := 3) hx hb dX12_cheap_25 (by decide) ?_
      obtain rfl := Option.some.inj hf
      exact rt_i hQ hx hb hr hlocks hP hD hS dX12_cheap_26
    · replace hf := if_f c_18 hf
      refine lv_iconst (v := 2) hx hb dX12_cheap_21 (by decide) ?_
      refine lv_goto (tgt := 26) hx hb dX12_cheap_22 (by decide) ?_
      obtain rfl := Option.some.inj hf
      exact rt_i hQ hx hb hr hlocks hP hD hS dX12_cheap_26

