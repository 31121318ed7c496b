theorem dJ7_fill_53178_0 : decode cJ7_fill_53178 0 = .ok (.iconst 0, 1) := by decide +kernel
theorem dJ7_fill_53178_1 : decode cJ7_fill_53178 1 = .ok (.istore_n 2, 1) := by decide +kernel
theorem dJ7_fill_53178_2 : decode cJ7_fill_53178 2 = .ok (.aload_n 0, 1) := by decide +kernel
theorem dJ7_fill_53178_3 : decode cJ7_fill_53178 3 = .ok (.arraylength, 1) := by decide +kernel
theorem dJ7_fill_53178_4 : decode cJ7_fill_53178 4 = .ok (.istore_n 3, 1) := by decide +kernel
theorem dJ7_fill_53178_5 : decode cJ7_fill_53178 5 = .ok (.iload_n 2, 1) := by decide +kernel
theorem dJ7_fill_53178_6 : decode cJ7_fill_53178 6 = .ok (.iload_n 3, 1) := by decide +kernel
theorem dJ7_fill_53178_7 : decode cJ7_fill_53178 7 = .ok (.if_icmp .ge 13, 3) := by decide +kernel
theorem dJ7_fill_53178_10 : decode cJ7_fill_53178 10 = .ok (.aload_n 0, 1) := by decide +kernel
theorem dJ7_fill_53178_11 : decode cJ7_fill_53178 11 = .ok (.iload_n 2, 1) := by decide +kernel
theorem dJ7_fill_53178_12 : decode cJ7_fill_53178 12 = .ok (.iload_n 1, 1) := by decide +kernel
theorem dJ7_fill_53178_13 : decode cJ7_fill_53178 13 = .ok (.iastore, 1) := by decide +kernel
theorem dJ7_fill_53178_14 : decode cJ7_fill_53178 14 = .ok (.iinc 2 1, 3) := by decide +kernel
theorem dJ7_fill_53178_17 : decode cJ7_fill_53178 17 = .ok (.goto (-12), 3) := by decide +kernel
theorem dJ7_fill_53178_20 : decode cJ7_fill_53178 20 = .ok (.return_, 1) := by decide +kernel
def m_Arrays_fill_53178_B5 (a1 : Int32) (h0_n : Nat) (v3_1 : Int32) (f2 : Nat → Int32) (j2_3 : Int32) : Option (((Nat → Int32) × Int32) ⊕ ((((Nat → Int32))))) :=
  if v3_1 ≤ j2_3 then
    some (.inr f2)
  else
    chk j2_3 h0_n <|
    bnd (j2_3 + (1 : Int32)) fun v2_4 =>
    some (.inl ((upd f2 j2_3.toNatClampNeg a1), v2_4))
def m_Arrays_fill_53178 (a1 : Int32) (h0_n : Nat) (h0_f : Nat → Int32) : Option (Nat → Int32) :=
  bnd (nI h0_n) fun v3_1 =>
  (iter (fun st => m_Arrays_fill_53178_B5 a1 h0_n v3_1 st.1 st.2) FU (h0_f, (0 : Int32))).bind fun o => some o
def rm_Arrays_fill_53178 : Room := { frames := 0, cells := 0, slots := 0, locals := 0 }
set_option maxHeartbeats 4000000 in
set_option maxRecDepth 100000 in
theorem c_Arrays_fill_53178 {l : Launch} {dC : Nat → ClassId} {dI : Nat → Nat → Nat} {cB cI : ClassId} {sz : Nat} {h0 : Nat} {a1 : Int32} {h0_n : Nat} {h0_f : Nat → Int32} {o_h0_f : Nat → Int32} (hf : m_Arrays_fill_53178 a1 h0_n h0_f = some o_h0_f) : Met l yJ7_fill_53178 (Cond.code yJ7_fill_53178 cJ7_fill_53178 4 none :: lw_G) rm_Arrays_fill_53178 (PreC (dC, dI) [(cB, .byte), (cI, .int)] [.ref h0, .int a1] sz [(h0, .inl (cI, h0_n, .inl h0_f))]) (QcV (dC, dI) [(h0, .inl (cI, h0_n, .inl o_h0_f))] (va_A [(h0, .inl (cI, h0_n, .inl h0_f))] sz)) 0 0 (va_A [(h0, .inl (cI, h0_n, .inl h0_f))] sz) := by
  refine met_of (Qf := fun A => QcV (dC, dI) [(h0, .inl (cI, h0_n, .inl o_h0_f))] A) (by decide) (Nat.le_of_ble_eq_true rfl) ?_
  intro p e s m below meth c A ls Q hx hb hr hml hown hts hlocks hnm hP hK hD hN hT hA hl hQ
  have hown : s.vm.findClass RJ7 = some m.cls := hown
  have hS : va_S A s.heap s.heap [] := va_S.rf
  have hl : lv_has ls 4 [(0, .ref h0), (1, .int a1)] := hl
  unfold m_Arrays_fill_53178 at hf
  refine lv_iconst (v := 0) hx hb dJ7_fill_53178_0 (by decide) ?_
  refine lv_istore_n (lv' := [(2, .int (0 : Int32)), (0, .ref h0), (1, .int a1)]) hx hb dJ7_fill_53178_1 rfl hl (by decide) rfl (fun ls hl => ?_)
  refine lv_aload_n hx hb dJ7_fill_53178_2 rfl (lv_at hl 1 rfl) ?_
  refine va_alen (v := nI h0_n) hx hb hK hP 0 1 rfl rfl rfl dJ7_fill_53178_3 ?_
  refine lv_topi (fun v3_1 e_v3_1 => ?_)
  replace hf := bnd_at e_v3_1 hf
  refine lv_istore_n (lv' := [(3, .int v3_1), (2, .int (0 : Int32)), (0, .ref h0), (1, .int a1)]) hx hb dJ7_fill_53178_4 rfl hl (by decide) rfl (fun ls hl => ?_)
  obtain ⟨o_5, hi_5, hk_5⟩ := bind_some hf
  have hL_5 : ∀ (n : Nat) (f2 : Nat → Int32) (j2_3 : Int32) (H : Heap) (locs : List Loc) (ls : Array Slot), iter (fun st => m_Arrays_fill_53178_B5 a1 h0_n v3_1 st.1 st.2) n (f2, j2_3) = some o_5 → va_P (dC, dI) vwCl [(h0, .inl (cI, h0_n, .inl f2))] H → va_D A [(h0, .inl (cI, h0_n, .inl f2))] → va_S A s.heap H locs → lv_has ls 4 [(0, .ref h0), (1, .int a1), (2, .int j2_3), (3, .int v3_1)] → W p l e (rm_Arrays_fill_53178) s m ([.ref h0, .int a1] : List Value).toArray below meth c H locs 0 0 Q (F0 m 5 ls []) := by
    intro n
    induction n with
    | zero => intro f2 j2_3 H locs ls hf; exact absurd hf (fun z => by cases z)
    | succ n ih_5 =>
      intro f2 j2_3 H locs ls hf hP hD hS hl
      obtain ⟨r_5, hf, hr_5⟩ := iter_succ hf
      have hf : m_Arrays_fill_53178_B5 a1 h0_n v3_1 f2 j2_3 = some r_5 := hf
      unfold m_Arrays_fill_53178_B5 at hf
      refine lv_iload_n hx hb dJ7_fill_53178_5 rfl (lv_at hl 2 rfl) ?_
      refine lv_iload_n hx hb dJ7_fill_53178_6 rfl (lv_at hl 3 rfl) ?_
      refine lv_icmp_ge (tgt := 20) hx hb dJ7_fill_53178_7 (by decide) (fun c_7 => ?_) (fun c_7 => ?_)
      · replace hf := if_t c_7 hf
        replace hf : some f2 = some o_h0_f := by have hq := hk_5; rw [iter_exit hf hr_5] at hq; exact hq
        obtain rfl := Option.some.inj hf
        exact rt_v hQ hx hb hr hlocks hP hD hS dJ7_fill_53178_20
      · replace hf := if_f c_7 hf
        refine lv_aload_n hx hb dJ7_fill_53178_10 rfl (lv_at hl 0 rfl) ?_
        refine lv_iload_n hx hb dJ7_fill_53178_11 rfl (lv_at hl 2 rfl) ?_
        refine lv_iload_n hx hb dJ7_fill_53178_12 rfl (lv_at hl 1 rfl) ?_
        obtain ⟨hin, hf⟩ := chk_some hf
        refine va_iast hx hb hK hP hD hS 0 1 rfl rfl hin dJ7_fill_53178_13 (fun H locs hP hD hS => ?_)
        have hP : va_P (dC, dI) vwCl [(h0, .inl (cI, h0_n, .inl (upd f2 j2_3.toNatClampNeg a1)))] H := hP
        have hD : va_D A [(h0, .inl (cI, h0_n, .inl (upd f2 j2_3.toNatClampNeg a1)))] := hD
        obtain ⟨v2_4, e_v2_4⟩ : ∃ y : Int32, y = (j2_3 + (1 : Int32)) := ⟨_, rfl⟩
        replace hf := bnd_at e_v2_4 hf
        refine lv_iinc (v := v2_4) (lv' := [(2, .int v2_4), (0, .ref h0), (1, .int a1), (3, .int v3_1)]) hx hb dJ7_fill_53178_14 hl (k := 2) rfl (by rw [e_v2_4]; rfl) (by decide) rfl (fun ls hl => ?_)
        refine lv_goto (tgt := 5) hx hb dJ7_fill_53178_17 (by decide) ?_
        exact ih_5 (upd f2 j2_3.toNatClampNeg a1) v2_4 _ _ _ (iter_back hf hr_5) hP hD hS (lv_sub hl [1, 2, 0, 3] rfl)
  exact hL_5 FU h0_f (0 : Int32) _ _ _ hi_5 hP hD hS (lv_sub hl [2, 3, 1, 0] rfl)

theorem dX10_clear_0 : decode cX10_clear 0 = .ok (.aload_n 0, 1) := by decide +kernel
theorem dX10_clear_1 : decode cX10_clear 1 = .ok (.iconst 0, 1) := by decide +kernel
theorem dX10_clear_2 : decode cX10_clear 2 = .ok (.putfield 35, 3) := by decide +kernel
theorem dX10_clear_5 : decode cX10_clear 5 = .ok (.aload_n 0, 1) := by decide +kernel
theorem dX10_clear_6 : decode cX10_clear 6 = .ok (.iconst (-1), 1) := by decide +kernel
theorem dX10_clear_7 : decode cX10_clear 7 = .ok (.putfield 39, 3) := by decide +kernel
theorem dX10_clear_10 : decode cX10_clear 10 = .ok (.aload_n 0, 1) := by decide +kernel
theorem dX10_clear_11 : decode cX10_clear 11 = .ok (.getfield 19, 3) := by decide +kernel
theorem dX10_clear_14 : decode cX10_clear 14 = .ok (.iconst (-1), 1) := by decide +kernel
theorem dX10_clear_15 : decode cX10_clear 15 = .ok (.invokestatic 42, 3) := by decide +kernel
theorem dX10_clear_18 : decode cX10_clear 18 = .ok (.return_, 1) := by decide +kernel
def m_Text_clear (h0_latest_n : Nat) (h0_latest_f : Nat → Int32) : Option (Int32 × Int32 × (Nat → Int32)) :=
  (m_Arrays_fill_53178 (-1 : Int32) h0_latest_n h0_latest_f).bind fun u1 =>
  some ((0 : Int32), (-1 : Int32), u1)
def rm_Text_clear : Room := { frames := 1, cells := 0, slots := 0, locals := 23 }
set_option maxHeartbeats 4000000 in
set_option maxRecDepth 100000 in
theorem c_Text_clear {l : Launch} {dC : Nat → ClassId} {dI : Nat → Nat → Nat} {cB cI : ClassId} {sz : Nat} {h0 : Nat} {h0_latest : Nat} {w_h0_held : Value} {w_h0_before : Value} {h0_count : Int32} {w_h0_foundOffset : Value} {h0_downPlace : Int32} {w_h0_downLimit : Value} {w_h0_downMost : Value} {w_h0_downOffset : Value} {h0_latest_n : Nat} {h0_latest_f : Nat → Int32} {o_h0_count : Int32} {o_h0_downPlace : Int32} {o_h0_latest_f : Nat → Int32} (hf : m_Text_clear h0_latest_n h0_latest_f = some (o_h0_count, o_h0_downPlace, o_h0_latest_f)) : Met l yX10_clear (Cond.code yX10_clear cX10_clear 1 none :: lw_G) rm_Text_clear (PreC (dC, dI) [(cB, .byte), (cI, .int)] [.ref h0] sz [(h0, .inr (8, [w_h0_held, w_h0_before, .ref h0_latest, .int h0_count, w_h0_foundOffset, .int h0_downPlace, w_h0_downLimit, w_h0_downMost, w_h0_downOffset])), (h0_latest, .inl (cI, h0_latest_n, .inl h0_latest_f))]) (QcV (dC, dI) [(h0, .inr (8, [w_h0_held, w_h0_before, .ref h0_latest, .int o_h0_count, w_h0_foundOffset, .int o_h0_downPlace, w_h0_downLimit, w_h0_downMost, w_h0_downOffset])), (h0_latest, .inl (cI, h0_latest_n, .inl o_h0_latest_f))] (va_A [(h0, .inr (8, [w_h0_held, w_h0_before, .ref h0_latest, .int h0_count, w_h0_foundOffset, .int h0_downPlace, w_h0_downLimit, w_h0_downMost, w_h0_downOffset])), (h0_latest, .inl (cI, h0_latest_n, .inl h0_latest_f))] sz)) 0 0 (va_A [(h0, .inr (8, [w_h0_held, w_h0_before, .ref h0_latest, .int h0_count, w_h0_foundOffset, .int h0_downPlace, w_h0_downLimit, w_h0_downMost, w_h0_downOffset])), (h0_latest, .inl (cI, h0_latest_n, .inl h0_latest_f))] sz) := by
  refine met_of (Qf := fun A => QcV (dC, dI) [(h0, .inr (8, [w_h0_held, w_h0_before, .ref h0_latest, .int o_h0_count, w_h0_foundOffset, .int o_h0_downPlace, w_h0_downLimit, w_h0_downMost, w_h0_downOffset])), (h0_latest, .inl (cI, h0_latest_n, .inl o_h0_latest_f))] A) (by decide) (Nat.le_of_ble_eq_true rfl) ?_
  intro p e s m below meth c A ls Q hx hb hr hml hown hts hlocks hnm hP hK hD hN hT hA hl hQ
  have hown : s.vm.findClass RX10 = some m.cls := hown
  have hS : va_S A s.heap s.heap [] := va_S.rf
  have hl : lv_has ls 1 [(0, .ref h0)] := hl
  unfold m_Text_clear at hf
  refine lv_aload_n hx hb dX10_clear_0 rfl (lv_at hl 0 rfl) ?_
  refine lv_iconst (v := 0) hx hb dX10_clear_1 (by decide) ?_
  refine va_put (D := (dC, dI)) (ci := 8) (v := .int (0 : Int32)) (ty := .int) (C := RX10) (T := TX10) (N := 9) hx hb hts inG_X10 tyX10 tyX10_ok nmX10 hown hK hP hD hS 0 rfl rfl 3 (by decide) (hts _ kw_132) (fun _ h9 => h9) rfl (by decide +kernel) rfl rfl (Nat.le_of_ble_eq_true rfl) dX10_clear_2 (fun H locs hP hD hS => ?_)
  have hP : va_P (dC, dI) vwCl [(h0, .inr (8, [w_h0_held, w_h0_before, .ref h0_latest, .int (0 : Int32), w_h0_foundOffset, .int h0_downPlace, w_h0_downLimit, w_h0_downMost, w_h0_downOffset])), (h0_latest, .inl (cI, h0_latest_n, .inl h0_latest_f))] H := hP
  have hD : va_D A [(h0, .inr (8, [w_h0_held, w_h0_before, .ref h0_latest, .int (0 : Int32), w_h0_foundOffset, .int h0_downPlace, w_h0_downLimit, w_h0_downMost, w_h0_downOffset])), (h0_latest, .inl (cI, h0_latest_n, .inl h0_latest_f))] := hD
  refine lv_aload_n hx hb dX10_clear_5 rfl (lv_at hl 0 rfl) ?_
  refine lv_iconst (v := -1) hx hb dX10_clear_6 (by decide) ?_
  refine va_put (D := (dC, dI)) (ci := 8) (v := .int (-1 : Int32)) (ty := .int) (C := RX10) (T := TX10) (N := 9) hx hb hts inG_X10 tyX10 tyX10_ok nmX10 hown hK hP hD hS 0 rfl rfl 5 (by decide) (hts _ kw_134) (fun _ h9 => h9) rfl (by decide +kernel) rfl rfl (Nat.le_of_ble_eq_true rfl) dX10_clear_7 (fun H locs hP hD hS => ?_)
  have hP : va_P (dC, dI) vwCl [(h0, .inr (8, [w_h0_held, w_h0_before, .ref h0_latest, .int (0 : Int32), w_h0_foundOffset, .int (-1 : Int32), w_h0_downLimit, w_h0_downMost, w_h0_downOffset])), (h0_latest, .inl (cI, h0_latest_n, .inl h0_latest_f))] H := hP
  have hD : va_D A [(h0, .inr (8, [w_h0_held, w_h0_before, .ref h0_latest, .int (0 : Int32), w_h0_foundOffset, .int (-1 : Int32), w_h0_downLimit, w_h0_downMost, w_h0_downOffset])), (h0_latest, .inl (cI, h0_latest_n, .inl h0_latest_f))] := hD
  refine lv_aload_n hx hb dX10_clear_10 rfl (lv_at hl 0 rfl) ?_
  refine va_get (D := (dC, dI)) (ci := 8) (v := .ref h0_latest) (C := RX10) (T := TX10) (N := 9) hx hb hts inG_X10 hown hK hP 0 rfl rfl 2 (by decide) (hts _ kw_131) (fun _ h9 => h9) rfl dX10_clear_11 ?_
  refine lv_iconst (v := -1) hx hb dX10_clear_14 (by decide) ?_
  obtain ⟨u1, hc, hf⟩ := bind_some hf
  refine nx_v (rn_S (As := [.ref h0_latest, .int (-1 : Int32)]) (rest := []) (n := 2) ⟨hx, hb, hml, hown, hts⟩ (c_Arrays_fill_53178 (l := l) (dC := dC) (dI := dI) (cB := cB) (cI := cI) (h0 := h0_latest) (a1 := (-1 : Int32)) (h0_n := h0_latest_n) (h0_f := h0_latest_f) (o_h0_f := u1) hc) (wS kw_474 kw_475 kw_96 kw_476) (by decide +kernel) ⟨Nat.le_of_ble_eq_true rfl, Nat.le_of_ble_eq_true rfl⟩ hK hP hD hN hT hS (va_free (wc := [(h0_latest, .inl (cI, h0_latest_n, .inl h0_latest_f))]) hD hS hA [1] rfl) [1] rfl (by decide) rfl hl.1 rfl (lv_room (Nat.le_of_ble_eq_true rfl)) dX10_clear_15 ⟨Nat.le_of_ble_eq_true rfl, Nat.le_of_ble_eq_true rfl⟩) hP hD hS hA (wr := [(h0, .inr (8, [w_h0_held, w_h0_before, .ref h0_latest, .int (0 : Int32), w_h0_foundOffset, .int (-1 : Int32), w_h0_downLimit, w_h0_downMost, w_h0_downOffset]))]) (w1 := [(h0_latest, .inl (cI, h0_latest_n, .inl u1))]) (ws' := [(h0, .inr (8, [w_h0_held, w_h0_before, .ref h0_latest, .int (0 : Int32), w_h0_foundOffset, .int (-1 : Int32), w_h0_downLimit, w_h0_downMost, w_h0_downOffset])), (h0_latest, .inl (cI, h0_latest_n, .inl u1))]) [1] [0] [0, 1] rfl rfl (by decide) (by decide) rfl (by decide) (fun H locs hP hD hS => ?_)
  obtain ⟨rfl, hq_1⟩ := Prod.mk.inj (Option.some.inj hf)
  obtain ⟨rfl, hq_2⟩ := Prod.mk.inj hq_1
  obtain rfl := hq_2
  exact rt_v hQ hx hb hr hlocks hP hD hS dX10_clear_18

theorem dX10_append_0 : decode cX10_append 0 = .ok (.iconst 0, 1) := by decide +kernel
theorem dX10_append_1 : decode cX10_append 1 = .ok (.istore 4, 2) := by decide +kernel
theorem dX10_append_3 : decode cX10_append 3 = .ok (.iload 4, 2) := by decide +kernel
theorem dX10_append_5 : decode cX10_append 5 = .ok (.iload_n 3, 1) := by decide +kernel
theorem dX10_append_6 : decode cX10_append 6 = .ok (.if_icmp .ge 78, 3) := by decide +kernel
theorem dX10_append_9 : decode cX10_append 9 = .ok (.aload_n 0, 1) := by decide +kernel
theorem dX10_append_10 : decode cX10_append 10 = .ok (.getfield 35, 3) := by decide +kernel
theorem dX10_append_13 : decode cX10_append 13 = .ok (.sipush 5000, 3) := by decide +kernel
theorem dX10_append_16 : decode cX10_append 16 = .ok (.if_icmp .ge 68, 3) := by decide +kernel
theorem dX10_append_19 : decode cX10_append 19 = .ok (.aload_n 1, 1) := by decide +kernel
theorem dX10_append_20 : decode cX10_append 20 = .ok (.iload_n 2, 1) := by decide +kernel
theorem dX10_append_21 : decode cX10_append 21 = .ok (.iload 4, 2) := by decide +kernel
theorem dX10_append_23 : decode cX10_append 23 = .ok (.iadd, 1) := by decide +kernel
theorem dX10_append_24 : decode cX10_append 24 = .ok (.invokevirtual 48, 3) := by decide +kernel
theorem dX10_append_27 : decode cX10_append 27 = .ok (.istore 5, 2) := by decide +kernel
theorem dX10_append_29 : decode cX10_append 29 = .ok (.aload_n 0, 1) := by decide +kernel
theorem dX10_append_30 : decode cX10_append 30 = .ok (.getfield 11, 3) := by decide +kernel
theorem dX10_append_33 : decode cX10_append 33 = .ok (.aload_n 0, 1) := by decide +kernel
theorem dX10_append_34 : decode cX10_append 34 = .ok (.getfield 35, 3) := by decide +kernel
theorem dX10_append_37 : decode cX10_append 37 = .ok (.iload 5, 2) := by decide +kernel
theorem dX10_append_39 : decode cX10_append 39 = .ok (.i2b, 1) := by decide +kernel
theorem dX10_append_40 : decode cX10_append 40 = .ok (.bastore, 1) := by decide +kernel
theorem dX10_append_41 : decode cX10_append 41 = .ok (.aload_n 0, 1) := by decide +kernel
theorem dX10_append_42 : decode cX10_append 42 = .ok (.getfield 15, 3) := by decide +kernel
theorem dX10_append_45 : decode cX10_append 45 = .ok (.aload_n 0, 1) := by decide +kernel
theorem dX10_append_46 : decode cX10_append 46 = .ok (.getfield 35, 3) := by decide +kernel
theorem dX10_append_49 : decode cX10_append 49 = .ok (.aload_n 0, 1) := by decide +kernel
theorem dX10_append_50 : decode cX10_append 50 = .ok (.getfield 19, 3) := by decide +kernel
theorem dX10_append_53 : decode cX10_append 53 = .ok (.iload 5, 2) := by decide +kernel
theorem dX10_append_55 : decode cX10_append 55 = .ok (.iaload, 1) := by decide +kernel
theorem dX10_append_56 : decode cX10_append 56 = .ok (.iastore, 1) := by decide +kernel
theorem dX10_append_57 : decode cX10_append 57 = .ok (.aload_n 0, 1) := by decide +kernel
theorem dX10_append_58 : decode cX10_append 58 = .ok (.getfield 19, 3) := by decide +kernel
theorem dX10_append_61 : decode cX10_append 61 = .ok (.iload 5, 2) := by decide +kernel
theorem dX10_append_63 : decode cX10_append 63 = .ok (.aload_n 0, 1) := by decide +kernel
theorem dX10_append_64 : decode cX10_append 64 = .ok (.getfield 35, 3) := by decide +kernel
theorem dX10_append_67 : decode cX10_append 67 = .ok (.iastore, 1) := by decide +kernel
theorem dX10_append_68 : decode cX10_append 68 = .ok (.aload_n 0, 1) := by decide +kernel
theorem dX10_append_69 : decode cX10_append 69 = .ok (.dup, 1) := by decide +kernel
theorem dX10_append_70 : decode cX10_append 70 = .ok (.getfield 35, 3) := by decide +kernel
theorem dX10_append_73 : decode cX10_append 73 = .ok (.iconst 1, 1) := by decide +kernel
theorem dX10_append_74 : decode cX10_append 74 = .ok (.iadd, 1) := by decide +kernel
theorem dX10_append_75 : decode cX10_append 75 = .ok (.putfield 35, 3) := by decide +kernel
theorem dX10_append_78 : decode cX10_append 78 = .ok (.iinc 4 1, 3) := by decide +kernel
theorem dX10_append_81 : decode cX10_append 81 = .ok (.goto (-78), 3) := by decide +kernel
theorem dX10_append_84 : decode cX10_append 84 = .ok (.return_, 1) := by decide +kernel
def m_Text_append_E84 (f1 : Nat → Int32) (f2 : Nat → Int32) (f3 : Nat → Int32) (g4 : Int32) : Option (Int32 × (Nat → Int32) × (Nat → Int32) × (Nat → Int32)) :=
  some (g4, f2, f3, f1)
def m_Text_append_B3 (a2 : Int32) (a3 : Int32) (h1_count : Int32) (h1_held_n : Nat) (h1_held_f : Nat → Int32) (h0_held_n : Nat) (h0_latest_n : Nat) (h0_before_n : Nat) (f5 : Nat → Int32) (f6 : Nat → Int32) (f7 : Nat → Int32) (g8 : Int32) (j4_9 : Int32) : Option (((Nat → Int32) × (Nat → Int32) × (Nat → Int32) × Int32 × Int32) ⊕ (((Nat → Int32) × (Nat → Int32) × (Nat → Int32) × Int32))) :=
  if a3 ≤ j4_9 then
    some (.inr (f5, f6, f7, g8))
  else
    if (5000 : Int32) ≤ g8 then
      some (.inr (f5, f6, f7, g8))
    else
      (m_Bytes_at (a2 + j4_9) h1_count h1_held_n h1_held_f).bind fun r10 =>
      chk g8 h0_held_n <|
      chk r10 h0_latest_n <|
      chk g8 h0_before_n <|
      chk r10 h0_latest_n <|
      bnd (g8 + (1 : Int32)) fun p_11 =>
      bnd (j4_9 + (1 : Int32)) fun v4_12 =>
      some (.inl ((upd f5 g8.toNatClampNeg (f7 r10.toNatClampNeg)), (upd f6 g8.toNatClampNeg (vp_nar .byte (r10.toInt8.toInt32))), (upd f7 r10.toNatClampNeg g8), p_11, v4_12))
def m_Text_append (a2 : Int32) (a3 : Int32) (h0_count : Int32) (h1_count : Int32) (h1_held_n : Nat) (h1_held_f : Nat → Int32) (h0_held_n : Nat) (h0_held_f : Nat → Int32) (h0_latest_n : Nat) (h0_latest_f : Nat → Int32) (h0_before_n : Nat) (h0_before_f : Nat → Int32) : Option (Int32 × (Nat → Int32) × (Nat → Int32) × (Nat → Int32)) :=
  (iter (fun st => m_Text_append_B3 a2 a3 h1_count h1_held_n h1_held_f h0_held_n h0_latest_n h0_before_n st.1 st.2.1 st.2.2.1 st.2.2.2.1 st.2.2.2.2) FU (h0_before_f, h0_held_f, h0_latest_f, h0_count, (0 : Int32))).bind fun o => m_Text_append_E84 o.1 o.2.1 o.2.2.1 o.2.2.2
def rm_Text_append : Room := { frames := 1, cells := 0, slots := 0, locals := 21 }
set_option maxHeartbeats 4000000 in
set_option maxRecDepth 100000 in
theorem c_Text_append {l : Launch} {dC : Nat → ClassId} {dI : Nat → Nat → Nat} {cB cI : ClassId} {sz : Nat} {h0 : Nat} {h1 : Nat} {a2 : Int32} {a3 : Int32} {h1_held : Nat} {h0_held : Nat} {h0_latest : Nat} {h0_before : Nat} {h0_count : Int32} {w_h0_foundOffset : Value} {w_h0_downPlace : Value} {w_h0_downLimit : Value} {w_h0_downMost : Value} {w_h0_downOffset : Value} {h1_count : Int32} {h1_held_n : Nat} {h1_held_f : Nat → Int32} {h0_held_n : Nat} {h0_held_f : Nat → Int32} {h0_latest_n : Nat} {h0_latest_f : Nat → Int32} {h0_before_n : Nat} {h0_before_f : Nat → Int32} {o_h0_count : Int32} {o_h0_held_f : Nat → Int32} {o_h0_latest_f : Nat → Int32} {o_h0_before_f : Nat → Int32} (hf : m_Text_append a2 a3 h0_count h1_count h1_held_n h1_held_f h0_held_n h0_held_f h0_latest_n h0_latest_f h0_before_n h0_before_f = some (o_h0_count, o_h0_held_f, o_h0_latest_f, o_h0_before_f)) : Met l yX10_append (Cond.code yX10_append cX10_append 6 none :: lw_G) rm_Text_append (PreC (dC, dI) [(cB, .byte), (cI, .int)] [.ref h0, .ref h1, .int a2, .int a3] sz [(h0, .inr (8, [.ref h0_held, .ref h0_before, .ref h0_latest, .int h0_count, w_h0_foundOffset, w_h0_downPlace, w_h0_downLimit, w_h0_downMost, w_h0_downOffset])), (h1, .inr (2, [.ref h1_held, .int h1_count])), (h1_held, .inl (cB, h1_held_n, .inl h1_held_f)), (h0_held, .inl (cB, h0_held_n, .inl h0_held_f)), (h0_latest, .inl (cI, h0_latest_n, .inl h0_latest_f)), (h0_before, .inl (cI, h0_before_n, .inl h0_before_f))]) (QcV (dC, dI) [(h0, .inr (8, [.ref h0_held, .ref h0_before, .ref h0_latest, .int o_h0_count, w_h0_foundOffset, w_h0_downPlace, w_h0_downLimit, w_h0_downMost, w_h0_downOffset])), (h1, .inr (2, [.ref h1_held, .int h1_count])), (h1_held, .inl (cB, h1_held_n, .inl h1_held_f)), (h0_held, .inl (cB, h0_held_n, .inl o_h0_held_f)), (h0_latest, .inl (cI, h0_latest_n, .inl o_h0_latest_f)), (h0_before, .inl (cI, h0_before_n, .inl o_h0_before_f))] (va_A [(h0, .inr (8, [.ref h0_held, .ref h0_before, .ref h0_latest, .int h0_count, w_h0_foundOffset, w_h0_downPlace, w_h0_downLimit, w_h0_downMost, w_h0_downOffset])), (h1, .inr (2, [.ref h1_held, .int h1_count])), (h1_held, .inl (cB, h1_held_n, .inl h1_held_f)), (h0_held, .inl (cB, h0_held_n, .inl h0_held_f)), (h0_latest, .inl (cI, h0_latest_n, .inl h0_latest_f)), (h0_before, .inl (cI, h0_before_n, .inl h0_before_f))] sz)) 0 0 (va_A [(h0, .inr (8, [.ref h0_held, .ref h0_before, .ref h0_latest, .int h0_count, w_h0_foundOffset, w_h0_downPlace, w_h0_downLimit, w_h0_downMost, w_h0_downOffset])), (h1, .inr (2, [.ref h1_held, .int h1_count])), (h1_held, .inl (cB, h1_held_n, .inl h1_held_f)), (h0_held, .inl (cB, h0_held_n, .inl h0_held_f)), (h0_latest, .inl (cI, h0_latest_n, .inl h0_latest_f)), (h0_before, .inl (cI, h0_before_n, .inl h0_before_f))] sz) := by
  refine met_of (Qf := fun A => QcV (dC, dI) [(h0, .inr (8, [.ref h0_held, .ref h0_before, .ref h0_latest, .int o_h0_count, w_h0_foundOffset, w_h0_downPlace, w_h0_downLimit, w_h0_downMost, w_h0_downOffset])), (h1, .inr (2, [.ref h1_held, .int h1_count])), (h1_held, .inl (cB, h1_held_n, .inl h1_held_f)), (h0_held, .inl (cB, h0_held_n, .inl o_h0_held_f)), (h0_latest, .inl (cI, h0_latest_n, .inl o_h0_latest_f)), (h0_before, .inl (cI, h0_before_n, .inl o_h0_before_f))] A) (by decide) (Nat.le_of_ble_eq_true rfl) ?_
  intro p e s m below meth c A ls Q hx hb hr hml hown hts hlocks hnm hP hK hD hN hT hA hl hQ
  have hown : s.vm.findClass RX10 = some m.cls := hown
  have hS : va_S A s.heap s.heap [] := va_S.rf
  have hl : lv_has ls 6 [(0, .ref h0), (1, .ref h1), (2, .int a2), (3, .int a3)] := hl
  unfold m_Text_append at hf
  refine lv_iconst (v := 0) hx hb dX10_append_0 (by decide) ?_
  refine lv_istore (lv' := [(4, .int (0 : Int32)), (0, .ref h0), (1, .ref h1), (2, .int a2), (3, .int a3)]) hx hb dX10_append_1 hl (by decide) rfl (fun ls hl => ?_)
  have hJ_84 : ∀ (f1 : Nat → Int32) (f2 : Nat → Int32) (f3 : Nat → Int32) (g4 : Int32) (H : Heap) (locs : List Loc) (ls : Array Slot), m_Text_append_E84 f1 f2 f3 g4 = some (o_h0_count, o_h0_held_f, o_h0_latest_f, o_h0_before_f) → va_P (dC, dI) vwCl [(h0, .inr (8, [.ref h0_held, .ref h0_before, .ref h0_latest, .int g4, w_h0_foundOffset, w_h0_downPlace, w_h0_downLimit, w_h0_downMost, w_h0_downOffset])), (h1, .inr (2, [.ref h1_held, .int h1_count])), (h1_held, .inl (cB, h1_held_n, .inl h1_held_f)), (h0_held, .inl (cB, h0_held_n, .inl f2)), (h0_latest, .inl (cI, h0_latest_n, .inl f3)), (h0_before, .inl (cI, h0_before_n, .inl f1))] H → va_D A [(h0, .inr (8, [.ref h0_held, .ref h0_before, .ref h0_latest, .int g4, w_h0_foundOffset, w_h0_downPlace, w_h0_downLimit, w_h0_downMost, w_h0_downOffset])), (h1, .inr (2, [.ref h1_held, .int h1_count])), (h1_held, .inl (cB, h1_held_n, .inl h1_held_f)), (h0_held, .inl (cB, h0_held_n, .inl f2)), (h0_latest, .inl (cI, h0_latest_n, .inl f3)), (h0_before, .inl (cI, h0_before_n, .inl f1))] → va_S A s.heap H locs → lv_has ls 6 [] → W p l e (rm_Text_append) s m ([.ref h0, .ref h1, .int a2, .int a3] : List Value).toArray below meth c H locs 0 0 Q (F0 m 84 ls []) := by
    intro f1 f2 f3 g4 H locs ls hf hP hD hS hl
    unfold m_Text_append_E84 at hf
    obtain ⟨rfl, hq_1⟩ := Prod.mk.inj (Option.some.inj hf)
    obtain ⟨rfl, hq_2⟩ := Prod.mk.inj hq_1
    obtain ⟨rfl, hq_3⟩ := Prod.mk.inj hq_2
    obtain rfl := hq_3
    exact rt_v hQ hx hb hr hlocks hP hD hS dX10_append_84
  obtain ⟨o_3, hi_3, hk_3⟩ := bind_some hf
  have hL_3 : ∀ (n : Nat) (f5 : Nat → Int32) (f6 : Nat → Int32) (f7 : Nat → Int32) (g8 : Int32) (j4_9 : Int32) (H : Heap) (locs : List Loc) (ls : Array Slot), iter (fun st => m_Text_append_B3 a2 a3 h1_count h1_held_n h1_held_f h0_held_n h0_latest_n h0_before_n st.1 st.2.1 st.2.2.1 st.2.2.2.1 st.2.2.2.2) n (f5, f6, f7, g8, j4_9) = some o_3 → va_P (dC, dI) vwCl [(h0, .inr (8, [.ref h0_held, .ref h0_before, .ref h0_latest, .int g8, w_h0_foundOffset, w_h0_downPlace, w_h0_downLimit, w_h0_downMost, w_h0_downOffset])), (h1, .inr (2, [.ref h1_held, .int h1_count])), (h1_held, .inl (cB, h1_held_n, .inl h1_held_f)), (h0_held, .inl (cB, h0_held_n, .inl f6)), (h0_latest, .inl (cI, h0_latest_n, .inl f7)), (h0_before, .inl (cI, h0_before_n, .inl f5))] H → va_D A [(h0, .inr (8, [.ref h0_held, .ref h0_before, .ref h0_latest, .int g8, w_h0_foundOffset, w_h0_downPlace, w_h0_downLimit, w_h0_downMost, w_h0_downOffset])), (h1, .inr (2, [.ref h1_held, .int h1_count])), (h1_held, .inl (cB, h1_held_n, .inl h1_held_f)), (h0_held, .inl (cB, h0_held_n, .inl f6)), (h0_latest, .inl (cI, h0_latest_n, .inl f7)), (h0_before, .inl (cI, h0_before_n, .inl f5))] → va_S A s.heap H locs → lv_has ls 6 [(0, .ref h0), (1, .ref h1), (2, .int a2), (3, .int a3), (4, .int j4_9)] → W p l e (rm_Text_append) s m ([.ref h0, .ref h1, .int a2, .int a3] : List Value).toArray below meth c H locs 0 0 Q (F0 m 3 ls []) := by
    intro n
    induction n with
    | zero => intro f5 f6 f7 g8 j4_9 H locs ls hf; exact absurd hf (fun z => by cases z)
    | succ n ih_3 =>
      intro f5 f6 f7 g8 j4_9 H locs ls hf hP hD hS hl
      obtain ⟨r_3, hf, hr_3⟩ := iter_succ hf
      have hf : m_Text_append_B3 a2 a3 h1_count h1_held_n h1_held_f h0_held_n h0_latest_n h0_before_n f5 f6 f7 g8 j4_9 = some r_3 := hf
      unfold m_Text_append_B3 at hf
      refine lv_iload hx hb dX10_append_3 (lv_at hl 4 rfl) ?_
      refine lv_iload_n hx hb dX10_append_5 rfl (lv_at hl 3 rfl) ?_
      refine lv_icmp_ge (tgt := 84) hx hb dX10_append_6 (by decide) (fun c_6 => ?_) (fun c_6 => ?_)
      · replace hf := if_t c_6 hf
        have hf : m_Text_append_E84 f5 f6 f7 g8 = some (o_h0_count, o_h0_held_f, o_h0_latest_f, o_h0_before_f) := by have hq := hk_3; rw [iter_exit hf hr_3] at hq; exact hq
        exact hJ_84 f5 f6 f7 g8 _ _ _ hf hP hD hS (lv_sub hl [] rfl)
      · replace hf := if_f c_6 hf
        refine lv_aload_n hx hb dX10_append_9 rfl (lv_at hl 0 rfl) ?_
        refine va_get (D := (dC, dI)) (ci := 8) (v := .int g8) (C := RX10) (T := TX10) (N := 9) hx hb hts inG_X10 hown hK hP 0 rfl rfl 3 (by decide) (hts _ kw_132) (fun _ h9 => h9) rfl dX10_append_10 ?_
        refine lv_sipush (v := 5000) hx hb dX10_append_13 (by decide) ?_
        refine lv_icmp_ge (tgt := 84) hx hb dX10_append_16 (by decide) (fun c_16 => ?_) (fun c_16 => ?_)
        · replace hf := if_t c_16 hf
          have hf : m_Text_append_E84 f5 f6 f7 g8 = some (o_h0_count, o_h0_held_f, o_h0_latest_f, o_h0_before_f) := by have hq := hk_3; rw [iter_exit hf hr_3] at hq; exact hq
          exact hJ_84 f5 f6 f7 g8 _ _ _ hf hP hD hS (lv_sub hl [] rfl)
        · replace hf := if_f c_16 hf
          refine lv_aload_n hx hb dX10_append_19 rfl (lv_at hl 1 rfl) ?_
          refine lv_iload_n hx hb dX10_append_20 rfl (lv_at hl 2 rfl) ?_
          refine lv_iload hx hb dX10_append_21 (lv_at hl 4 rfl) ?_
          refine lv_iadd hx hb dX10_append_23 ?_
          obtain ⟨r10, hc, hf⟩ := bind_some hf
          refine nx_i (rn_V (As := [.int (a2 + j4_9)]) (rest := []) (n := 1) (ci := 2) (q0 := 0) ⟨hx, hb, hml, hown, hts⟩ (c_Bytes_at (l := l) (dC := dC) (dI := dI) (cB := cB) (cI := cI) (h0 := h1) (a1 := (a2 + j4_9)) (h0_held := h1_held) (h0_count := h1_count) (h0_held_n := h1_held_n) (h0_held_f := h1_held_f)  (o_r := r10) hc) (wV kw_482 kw_418 kw_419 kw_83 kw_420) (by decide +kernel) ⟨Nat.le_of_ble_eq_true rfl, Nat.le_of_ble_eq_true rfl⟩ hK hP hD hN hT hS (va_free (wc := [(h1, .inr (2, [.ref h1_held, .int h1_count])), (h1_held, .inl (cB, h1_held_n, .inl h1_held_f))]) hD hS hA [1, 2] rfl) [1, 2] rfl (by decide) rfl rfl rfl hl.1 rfl (lv_room (Nat.le_of_ble_eq_true rfl)) dX10_append_24 ⟨Nat.le_of_ble_eq_true rfl, Nat.le_of_ble_eq_true rfl⟩) hP hD hS hA (wr := [(h0, .inr (8, [.ref h0_held, .ref h0_before, .ref h0_latest, .int g8, w_h0_foundOffset, w_h0_downPlace, w_h0_downLimit, w_h0_downMost, w_h0_downOffset])), (h0_held, .inl (cB, h0_held_n, .inl f6)), (h0_latest, .inl (cI, h0_latest_n, .inl f7)), (h0_before, .inl (cI, h0_before_n, .inl f5))]) (w1 := [(h1, .inr (2, [.ref h1_held, .int h1_count])), (h1_held, .inl (cB, h1_held_n, .inl h1_held_f))]) (ws' := [(h0, .inr (8, [.ref h0_held, .ref h0_before, .ref h0_latest, .int g8, w_h0_foundOffset, w_h0_downPlace, w_h0_downLimit, w_h0_downMost, w_h0_downOffset])), (h1, .inr (2, [.ref h1_held, .int h1_count])), (h1_held, .inl (cB, h1_held_n, .inl h1_held_f)), (h0_held, .inl (cB, h0_held_n, .inl f6)), (h0_latest, .inl (cI, h0_latest_n, .inl f7)), (h0_before, .inl (cI, h0_before_n, .inl f5))]) [1, 2] [0, 3, 4, 5] [0, 4, 5, 1, 2, 3] rfl rfl (by decide) (by decide) rfl (by decide) (fun H locs hP hD hS => ?_)
          refine lv_istore (lv' := [(5, .int r10), (0, .ref h0), (1, .ref h1), (2, .int a2), (3, .int a3), (4, .int j4_9)]) hx hb dX10_append_27 hl (by decide) rfl (fun ls hl => ?_)
          refine lv_aload_n hx hb dX10_append_29 rfl (lv_at hl 1 rfl) ?_
          refine va_get (D := (dC, dI)) (ci := 8) (v := .ref h0_held) (C := RX10) (T := TX10) (N := 9) hx hb hts inG_X10 hown hK hP 0 rfl rfl 0 (by decide) (hts _ kw_129) (fun _ h9 => h9) rfl dX10_append_30 ?_
          refine lv_aload_n hx hb dX10_append_33 rfl (lv_at hl 1 rfl) ?_
          refine va_get (D := (dC, dI)) (ci := 8) (v := .int g8) (C := RX10) (T := TX10) (N := 9) hx hb hts inG_X10 hown hK hP 0 rfl rfl 3 (by decide) (hts _ kw_132) (fun _ h9 => h9) rfl dX10_append_34 ?_
          refine lv_iload hx hb dX10_append_37 (lv_at hl 0 rfl) ?_
          refine lv_i2b (v := (r10.toInt8.toInt32)) hx hb dX10_append_39 rfl ?_
          obtain ⟨hin, hf⟩ := chk_some hf
          refine va_bast hx hb hK hP hD hS 3 0 rfl rfl hin dX10_append_40 (fun H locs hP hD hS => ?_)
          have hP : va_P (dC, dI) vwCl [(h0, .inr (8, [.ref h0_held, .ref h0_before, .ref h0_latest, .int g8, w_h0_foundOffset, w_h0_downPlace, w_h0_downLimit, w_h0_downMost, w_h0_downOffset])), (h1, .inr (2, [.ref h1_held, .int h1_count])), (h1_held, .inl (cB, h1_held_n, .inl h1_held_f)), (h0_held, .inl (cB, h0_held_n, .inl (upd f6 g8.toNatClampNeg (vp_nar .byte (r10.toInt8.toInt32))))), (h0_latest, .inl (cI, h0_latest_n, .inl f7)), (h0_before, .inl (cI, h0_before_n, .inl f5))] H := hP
          have hD : va_D A [(h0, .inr (8, [.ref h0_held, .ref h0_before, .ref h0_latest, .int g8, w_h0_foundOffset, w_h0_downPlace, w_h0_downLimit, w_h0_downMost, w_h0_downOffset])), (h1, .inr (2, [.ref h1_held, .int h1_count])), (h1_held, .inl (cB, h1_held_n, .inl h1_held_f)), (h0_held, .inl (cB, h0_held_n, .inl (upd f6 g8.toNatClampNeg (vp_nar .byte (r10.toInt8.toInt32))))), (h0_latest, .inl (cI, h0_latest_n, .inl f7)), (h0_before, .inl (cI, h0_before_n, .inl f5))] := hD
          refine lv_aload_n hx hb dX10_append_41 rfl (lv_at hl 1 rfl) ?_
          refine va_get (D := (dC, dI)) (ci := 8) (v := .ref h0_before) (C := RX10) (T := TX10) (N := 9) hx hb hts inG_X10 hown hK hP 0 rfl rfl 1 (by decide) (hts _ kw_130) (fun _ h9 => h9) rfl dX10_append_42 ?_
          refine lv_aload_n hx hb dX10_append_45 rfl (lv_at hl 1 rfl) ?_
          refine va_get (D := (dC, dI)) (ci := 8) (v := .int g8) (C := RX10) (T := TX10) (N := 9) hx hb hts inG_X10 hown hK hP 0 rfl rfl 3 (by decide) (hts _ kw_132) (fun _ h9 => h9) rfl dX10_append_46 ?_
          refine lv_aload_n hx hb dX10_append_49 rfl (lv_at hl 1 rfl) ?_
          refine va_get (D := (dC, dI)) (ci := 8) (v := .ref h0_latest) (C := RX10) (T := TX10) (N := 9) hx hb hts inG_X10 hown hK hP 0 rfl rfl 2 (by decide) (hts _ kw_131) (fun _ h9 => h9) rfl dX10_append_50 ?_
          refine lv_iload hx hb dX10_append_53 (lv_at hl 0 rfl) ?_
          obtain ⟨hin, hf⟩ := chk_some hf
          refine va_iald hx hb hK hP 4 1 rfl rfl hin dX10_append_55 ?_
          obtain ⟨hin, hf⟩ := chk_some hf
          refine va_iast hx hb hK hP hD hS 5 1 rfl rfl hin dX10_append_56 (fun H locs hP hD hS => ?_)
          have hP : va_P (dC, dI) vwCl [(h0, .inr (8, [.ref h0_held, .ref h0_before, .ref h0_latest, .int g8, w_h0_foundOffset, w_h0_downPlace, w_h0_downLimit, w_h0_downMost, w_h0_downOffset])), (h1, .inr (2, [.ref h1_held, .int h1_count])), (h1_held, .inl (cB, h1_held_n, .inl h1_held_f)), (h0_held, .inl (cB, h0_held_n, .inl (upd f6 g8.toNatClampNeg (vp_nar .byte (r10.toInt8.toInt32))))), (h0_latest, .inl (cI, h0_latest_n, .inl f7)), (h0_before, .inl (cI, h0_before_n, .inl (upd f5 g8.toNatClampNeg (f7 r10.toNatClampNeg))))] H := hP
          have hD : va_D A [(h0, .inr (8, [.ref h0_held, .ref h0_before, .ref h0_latest, .int g8, w_h0_foundOffset, w_h0_downPlace, w_h0_downLimit, w_h0_downMost, w_h0_downOffset])), (h1, .inr (2, [.ref h1_held, .int h1_count])), (h1_held, .inl (cB, h1_held_n, .inl h1_held_f)), (h0_held, .inl (cB, h0_held_n, .inl (upd f6 g8.toNatClampNeg (vp_nar .byte (r10.toInt8.toInt32))))), (h0_latest, .inl (cI, h0_latest_n, .inl f7)), (h0_before, .inl (cI, h0_before_n, .inl (upd f5 g8.toNatClampNeg (f7 r10.toNatClampNeg))))] := hD
          refine lv_aload_n hx hb dX10_append_57 rfl (lv_at hl 1 rfl) ?_
          refine va_get (D := (dC, dI)) (ci := 8) (v := .ref h0_latest) (C := RX10) (T := TX10) (N := 9) hx hb hts inG_X10 hown hK hP 0 rfl rfl 2 (by decide) (hts _ kw_131) (fun _ h9 => h9) rfl dX10_append_58 ?_
          refine lv_iload hx hb dX10_append_61 (lv_at hl 0 rfl) ?_
          refine lv_aload_n hx hb dX10_append_63 rfl (lv_at hl 1 rfl) ?_
          refine va_get (D := (dC, dI)) (ci := 8) (v := .int g8) (C := RX10) (T := TX10) (N := 9) hx hb hts inG_X10 hown hK hP 0 rfl rfl 3 (by decide) (hts _ kw_132) (fun _ h9 => h9) rfl dX10_append_64 ?_
          obtain ⟨hin, hf⟩ := chk_some hf
          refine va_iast hx hb hK hP hD hS 4 1 rfl rfl hin dX10_append_67 (fun H locs hP hD hS => ?_)
          have hP : va_P (dC, dI) vwCl [(h0, .inr (8, [.ref h0_held, .ref h0_before, .ref h0_latest, .int g8, w_h0_foundOffset, w_h0_downPlace, w_h0_downLimit, w_h0_downMost, w_h0_downOffset])), (h1, .inr (2, [.ref h1_held, .int h1_count])), (h1_held, .inl (cB, h1_held_n, .inl h1_held_f)), (h0_held, .inl (cB, h0_held_n, .inl (upd f6 g8.toNatClampNeg (vp_nar .byte (r10.toInt8.toInt32))))), (h0_latest, .inl (cI, h0_latest_n, .inl (upd f7 r10.toNatClampNeg g8))), (h0_before, .inl (cI, h0_before_n, .inl (upd f5 g8.toNatClampNeg (f7 r10.toNatClampNeg))))] H := hP
          have hD : va_D A [(h0, .inr (8, [.ref h0_held, .ref h0_before, .ref h0_latest, .int g8, w_h0_foundOffset, w_h0_downPlace, w_h0_downLimit, w_h0_downMost, w_h0_downOffset])), (h1, .inr (2, [.ref h1_held, .int h1_count])), (h1_held, .inl (cB, h1_held_n, .inl h1_held_f)), (h0_held, .inl (cB, h0_held_n, .inl (upd f6 g8.toNatClampNeg (vp_nar .byte (r10.toInt8.toInt32))))), (h0_latest, .inl (cI, h0_latest_n, .inl (upd f7 r10.toNatClampNeg g8))), (h0_before, .inl (cI, h0_before_n, .inl (upd f5 g8.toNatClampNeg (f7 r10.toNatClampNeg))))] := hD
          refine lv_aload_n hx hb dX10_append_68 rfl (lv_at hl 1 rfl) ?_
          refine lv_dup hx hb dX10_append_69 rfl ?_
          refine va_get (D := (dC, dI)) (ci := 8) (v := .int g8) (C := RX10) (T := TX10) (N := 9) hx hb hts inG_X10 hown hK hP 0 rfl rfl 3 (by decide) (hts _ kw_132) (fun _ h9 => h9) rfl dX10_append_70 ?_
          refine lv_iconst (v := 1) hx hb dX10_append_73 (by decide) ?_
          refine lv_iadd hx hb dX10_append_74 ?_
          refine lv_topi (fun p_11 e_p_11 => ?_)
          replace hf := bnd_at e_p_11 hf
          refine va_put (D := (dC, dI)) (ci := 8) (v := .int p_11) (ty := .int) (C := RX10) (T := TX10) (N := 9) hx hb hts inG_X10 tyX10 tyX10_ok nmX10 hown hK hP hD hS 0 rfl rfl 3 (by decide) (hts _ kw_132) (fun _ h9 => h9) rfl (by decide +kernel) rfl rfl (Nat.le_of_ble_eq_true rfl) dX10_append_75 (fun H locs hP hD hS => ?_)
          have hP : va_P (dC, dI) vwCl [(h0, .inr (8, [.ref h0_held, .ref h0_before, .ref h0_latest, .int p_11, w_h0_foundOffset, w_h0_downPlace, w_h0_downLimit, w_h0_downMost, w_h0_downOffset])), (h1, .inr (2, [.ref h1_held, .int h1_count])), (h1_held, .inl (cB, h1_held_n, .inl h1_held_f)), (h0_held, .inl (cB, h0_held_n, .inl (upd f6 g8.toNatClampNeg (vp_nar .byte (r10.toInt8.toInt32))))), (h0_latest, .inl (cI, h0_latest_n, .inl (upd f7 r10.toNatClampNeg g8))), (h0_before, .inl (cI, h0_before_n, .inl (upd f5 g8.toNatClampNeg (f7 r10.toNatClampNeg))))] H := hP
          have hD : va_D A [(h0, .inr (8, [.ref h0_held, .ref h0_before, .ref h0_latest, .int p_11, w_h0_foundOffset, w_h0_downPlace, w_h0_downLimit, w_h0_downMost, w_h0_downOffset])), (h1, .inr (2, [.ref h1_held, .int h1_count])), (h1_held, .inl (cB, h1_held_n, .inl h1_held_f)), (h0_held, .inl (cB, h0_held_n, .inl (upd f6 g8.toNatClampNeg (vp_nar .byte (r10.toInt8.toInt32))))), (h0_latest, .inl (cI, h0_latest_n, .inl (upd f7 r10.toNatClampNeg g8))), (h0_before, .inl (cI, h0_before_n, .inl (upd f5 g8.toNatClampNeg (f7 r10.toNatClampNeg))))] := hD
          obtain ⟨v4_12, e_v4_12⟩ : ∃ y : Int32, y = (j4_9 + (1 : Int32)) := ⟨_, rfl⟩
          replace hf := bnd_at e_v4_12 hf
          refine lv_iinc (v := v4_12) (lv' := [(4, .int v4_12), (5, .int r10), (0, .ref h0), (1, .ref h1), (2, .int a2), (3, .int a3)]) hx hb dX10_append_78 hl (k := 5) rfl (by rw [e_v4_12]; rfl) (by decide) rfl (fun ls hl => ?_)
          refine lv_goto (tgt := 3) hx hb dX10_append_81 (by decide) ?_
          exact ih_3 (upd f5 g8.toNatClampNeg (f7 r10.toNatClampNeg)) (upd f6 g8.toNatClampNeg (vp_nar .byte (r10.toInt8.toInt32))) (upd f7 r10.toNatClampNeg g8) p_11 v4_12 _ _ _ (iter_back hf hr_3) hP hD hS (lv_sub hl [2, 3, 4, 5, 0] rfl)
  exact hL_3 FU h0_before_f h0_held_f h0_latest_f h0_count (0 : Int32) _ _ _ hi_3 hP hD hS (lv_sub hl [1, 2, 3, 4, 0] rfl)

theorem dX10_load_0 : decode cX10_load 0 = .ok (.aload_n 0, 1) := by decide +kernel
theorem dX10_load_1 : decode cX10_load 1 = .ok (.invokevirtual 22, 3) := by decide +kernel
theorem dX10_load_4 : decode cX10_load 4 = .ok (.aload_n 0, 1) := by decide +kernel
theorem dX10_load_5 : decode cX10_load 5 = .ok (.aload_n 1, 1) := by decide +kernel
theorem dX10_load_6 : decode cX10_load 6 = .ok (.iconst 0, 1) := by decide +kernel
theorem dX10_load_7 : decode cX10_load 7 = .ok (.aload_n 1, 1) := by decide +kernel
theorem dX10_load_8 : decode cX10_load 8 = .ok (.invokevirtual 25, 3) := by decide +kernel
theorem dX10_load_11 : decode cX10_load 11 = .ok (.invokevirtual 31, 3) := by decide +kernel
theorem dX10_load_14 : decode cX10_load 14 = .ok (.aload_n 0, 1) := by decide +kernel
theorem dX10_load_15 : decode cX10_load 15 = .ok (.aload_n 2, 1) := by decide +kernel
theorem dX10_load_16 : decode cX10_load 16 = .ok (.iload_n 3, 1) := by decide +kernel
theorem dX10_load_17 : decode cX10_load 17 = .ok (.iload 4, 2) := by decide +kernel
theorem dX10_load_19 : decode cX10_load 19 = .ok (.invokevirtual 31, 3) := by decide +kernel
theorem dX10_load_22 : decode cX10_load 22 = .ok (.return_, 1) := by decide +kernel
def m_Text_load (a3 : Int32) (a4 : Int32) (h0_latest_n : Nat) (h0_latest_f : Nat → Int32) (h1_count : Int32) (h1_held_n : Nat) (h1_held_f : Nat → Int32) (h0_held_n : Nat) (h0_held_f : Nat → Int32) (h0_before_n : Nat) (h0_before_f : Nat → Int32) (h2_count : Int32) (h2_held_n : Nat) (h2_held_f : Nat → Int32) : Option (Int32 × Int32 × (Nat → Int32) × (Nat → Int32) × (Nat → Int32)) :=
  (m_Text_clear h0_latest_n h0_latest_f).bind fun (u1, u2, u3) =>
  (m_Bytes_size h1_count).bind fun r4 =>
  (m_Text_append (0 : Int32) r4 u1 h1_count h1_held_n h1_held_f h0_held_n h0_held_f h0_latest_n u3 h0_before_n h0_before_f).bind fun (u5, u6, u7, u8) =>
  (m_Text_append a3 a4 u5 h2_count h2_held_n h2_held_f h0_held_n u6 h0_latest_n u7 h0_before_n u8).bind fun (u9, u10, u11, u12) =>
  some (u9, u2, u11, u10, u12)
def rm_Text_load : Room := { frames := 2, cells := 0, slots := 0, locals := 46 }
set_option maxHeartbeats 4000000 in
set_option maxRecDepth 100000 in
theorem c_Text_load {l : Launch} {dC : Nat → ClassId} {dI : Nat → Nat → Nat} {cB cI : ClassId} {sz : Nat} {h0 : Nat} {h1 : Nat} {h2 : Nat} {a3 : Int32} {a4 : Int32} {h0_latest : Nat} {h1_held : Nat} {h0_held : Nat} {h0_before : Nat} {h2_held : Nat} {h0_count : Int32} {w_h0_foundOffset : Value} {h0_downPlace : Int32} {w_h0_downLimit : Value} {w_h0_downMost : Value} {w_h0_downOffset : Value} {h0_latest_n : Nat} {h0_latest_f : Nat → Int32} {h1_count : Int32} {h1_held_n : Nat} {h1_held_f : Nat → Int32} {h0_held_n : Nat} {h0_held_f : Nat → Int32} {h0_before_n : Nat} {h0_before_f : Nat → Int32} {h2_count : Int32} {h2_held_n : Nat} {h2_held_f : Nat → Int32} {o_h0_count : Int32} {o_h0_downPlace : Int32} {o_h0_latest_f : Nat → Int32} {o_h0_held_f : Nat → Int32} {o_h0_before_f : Nat → Int32} (hf : m_Text_load a3 a4 h0_latest_n h0_latest_f h1_count h1_held_n h1_held_f h0_held_n h0_held_f h0_before_n h0_before_f h2_count h2_held_n h2_held_f = some (o_h0_count, o_h0_downPlace, o_h0_latest_f, o_h0_held_f, o_h0_before_f)) : Met l yX10_load (Cond.code yX10_load cX10_load 5 none :: lw_G) rm_Text_load (PreC (dC, dI) [(cB, .byte), (cI, .int)] [.ref h0, .ref h1, .ref h2, .int a3, .int a4] sz [(h0, .inr (8, [.ref h0_held, .ref h0_before, .ref h0_latest, .int h0_count, w_h0_foundOffset, .int h0_downPlace, w_h0_downLimit, w_h0_downMost, w_h0_downOffset])), (h0_latest, .inl (cI, h0_latest_n, .inl h0_latest_f)), (h1, .inr (2, [.ref h1_held, .int h1_count])), (h1_held, .inl (cB, h1_held_n, .inl h1_held_f)), (h0_held, .inl (cB, h0_held_n, .inl h0_held_f)), (h0_before, .inl (cI, h0_before_n, .inl h0_before_f)), (h2, .inr (2, [.ref h2_held, .int h2_count])), (h2_held, .inl (cB, h2_held_n, .inl h2_held_f))]) (QcV (dC, dI) [(h0, .inr (8, [.ref h0_held, .ref h0_before, .ref h0_latest, .int o_h0_count, w_h0_foundOffset, .int o_h0_downPlace, w_h0_downLimit, w_h0_downMost, w_h0_downOffset])), (h0_latest, .inl (cI, h0_latest_n, .inl o_h0_latest_f)), (h1, .inr (2, [.ref h1_held, .int h1_count])), (h1_held, .inl (cB, h1_held_n, .inl h1_held_f)), (h0_held, .inl (cB, h0_held_n, .inl o_h0_held_f)), (h0_before, .inl (cI, h0_before_n, .inl o_h0_before_f)), (h2, .inr (2, [.ref h2_held, .int h2_count])), (h2_held, .inl (cB, h2_held_n, .inl h2_held_f))] (va_A [(h0, .inr (8, [.ref h0_held, .ref h0_before, .ref h0_latest, .int h0_count, w_h0_foundOffset, .int h0_downPlace, w_h0_downLimit, w_h0_downMost, w_h0_downOffset])), (h0_latest, .inl (cI, h0_latest_n, .inl h0_latest_f)), (h1, .inr (2, [.ref h1_held, .int h1_count])), (h1_held, .inl (cB, h1_held_n, .inl h1_held_f)), (h0_held, .inl (cB, h0_held_n, .inl h0_held_f)), (h0_before, .inl (cI, h0_before_n, .inl h0_before_f)), (h2, .inr (2, [.ref h2_held, .int h2_count])), (h2_held, .inl (cB, h2_held_n, .inl h2_held_f))] sz)) 0 0 (va_A [(h0, .inr (8, [.ref h0_held, .ref h0_before, .ref h0_latest, .int h0_count, w_h0_foundOffset, .int h0_downPlace, w_h0_downLimit, w_h0_downMost, w_h0_downOffset])), (h0_latest, .inl (cI, h0_latest_n, .inl h0_latest_f)), (h1, .inr (2, [.ref h1_held, .int h1_count])), (h1_held, .inl (cB, h1_held_n, .inl h1_held_f)), (h0_held, .inl (cB, h0_held_n, .inl h0_held_f)), (h0_before, .inl (cI, h0_before_n, .inl h0_before_f)), (h2, .inr (2, [.ref h2_held, .int h2_count])), (h2_held, .inl (cB, h2_held_n, .inl h2_held_f))] sz) := by
  refine met_of (Qf := fun A => QcV (dC, dI) [(h0, .inr (8, [.ref h0_held, .ref h0_before, .ref h0_latest, .int o_h0_count, w_h0_foundOffset, .int o_h0_downPlace, w_h0_downLimit, w_h0_downMost, w_h0_downOffset])), (h0_latest, .inl (cI, h0_latest_n, .inl o_h0_latest_f)), (h1, .inr (2, [.ref h1_held, .int h1_count])), (h1_held, .inl (cB, h1_held_n, .inl h1_held_f)), (h0_held, .inl (cB, h0_held_n, .inl o_h0_held_f)), (h0_before, .inl (cI, h0_before_n, .inl o_h0_before_f)), (h2, .inr (2, [.ref h2_held, .int h2_count])), (h2_held, .inl (cB, h2_held_n, .inl h2_held_f))] A) (by decide) (Nat.le_of_ble_eq_true rfl) ?_
  intro p e s m below meth c A ls Q hx hb hr hml hown hts hlocks hnm hP hK hD hN hT hA hl hQ
  have hown : s.vm.findClass RX10 = some m.cls := hown
  have hS : va_S A s.heap s.heap [] := va_S.rf
  have hl : lv_has ls 5 [(0, .ref h0), (1, .ref h1), (2, .ref h2), (3, .int a3), (4, .int a4)] := hl
  unfold m_Text_load at hf
  refine lv_aload_n hx hb dX10_load_0 rfl (lv_at hl 0 rfl) ?_
  obtain ⟨x, hc, hf⟩ := bind_some hf
  obtain ⟨u1, u2, u3⟩ := x
  dsimp only at hf
  refine nx_v (rn_V (As := []) (rest := []) (n := 0) (ci := 8) (q0 := 0) ⟨hx, hb, hml, hown, hts⟩ (c_Text_clear (l := l) (dC := dC) (dI := dI) (cB := cB) (cI := cI) (h0 := h0) (h0_latest := h0_latest) (w_h0_held := (.ref h0_held)) (w_h0_before := (.ref h0_before)) (h0_count := h0_count) (w_h0_foundOffset := (w_h0_foundOffset)) (h0_downPlace := h0_downPlace) (w_h0_downLimit := (w_h0_downLimit)) (w_h0_downMost := (w_h0_downMost)) (w_h0_downOffset := (w_h0_downOffset)) (h0_latest_n := h0_latest_n) (h0_latest_f := h0_latest_f) (o_h0_count := u1) (o_h0_downPlace := u2) (o_h0_latest_f := u3) hc) (wV kw_470 kw_472 kw_0 kw_85 kw_473) (by decide +kernel) ⟨Nat.le_of_ble_eq_true rfl, Nat.le_of_ble_eq_true rfl⟩ hK hP hD hN hT hS (va_free (wc := [(h0, .inr (8, [.ref h0_held, .ref h0_before, .ref h0_latest, .int h0_count, w_h0_foundOffset, .int h0_downPlace, w_h0_downLimit, w_h0_downMost, w_h0_downOffset])), (h0_latest, .inl (cI, h0_latest_n, .inl h0_latest_f))]) hD hS hA [0, 1] rfl) [0, 1] rfl (by decide) rfl rfl rfl hl.1 rfl (lv_room (Nat.le_of_ble_eq_true rfl)) dX10_load_1 ⟨Nat.le_of_ble_eq_true rfl, Nat.le_of_ble_eq_true rfl⟩) hP hD hS hA (wr := [(h1, .inr (2, [.ref h1_held, .int h1_count])), (h1_held, .inl (cB, h1_held_n, .inl h1_held_f)), (h0_held, .inl (cB, h0_held_n, .inl h0_held_f)), (h0_before, .inl (cI, h0_before_n, .inl h0_before_f)), (h2, .inr (2, [.ref h2_held, .int h2_count])), (h2_held, .inl (cB, h2_held_n, .inl h2_held_f))]) (w1 := [(h0, .inr (8, [.ref h0_held, .ref h0_before, .ref h0_latest, .int u1, w_h0_foundOffset, .int u2, w_h0_downLimit, w_h0_downMost, w_h0_downOffset])), (h0_latest, .inl (cI, h0_latest_n, .inl u3))]) (ws' := [(h0, .inr (8, [.ref h0_held, .ref h0_before, .ref h0_latest, .int u1, w_h0_foundOffset, .int u2, w_h0_downLimit, w_h0_downMost, w_h0_downOffset])), (h0_latest, .inl (cI, h0_latest_n, .inl u3)), (h1, .inr (2, [.ref h1_held, .int h1_count])), (h1_held, .inl (cB, h1_held_n, .inl h1_held_f)), (h0_held, .inl (cB, h0_held_n, .inl h0_held_f)), (h0_before, .inl (cI, h0_before_n, .inl h0_before_f)), (h2, .inr (2, [.ref h2_held, .int h2_count])), (h2_held, .inl (cB, h2_held_n, .inl h2_held_f))]) [0, 1] [2, 3, 4, 5, 6, 7] [6, 7, 0, 1, 2, 3, 4, 5] rfl rfl (by decide) (by decide) rfl (by decide) (fun H locs hP hD hS => ?_)
  refine lv_aload_n hx hb dX10_load_4 rfl (lv_at hl 0 rfl) ?_
  refine lv_aload_n hx hb dX10_load_5 rfl (lv_at hl 1 rfl) ?_
  refine lv_iconst (v := 0) hx hb dX10_load_6 (by decide) ?_
  refine lv_aload_n hx hb dX10_load_7 rfl (lv_at hl 1 rfl) ?_
  obtain ⟨r4, hc, hf⟩ := bind_some hf
  refine nx_i (rn_V (As := []) (rest := [.int (0 : Int32), .ref h1, .ref h0]) (n := 0) (ci := 2) (q0 := 0) ⟨hx, hb, hml, hown, hts⟩ (c_Bytes_size (l := l) (dC := dC) (dI := dI) (cB := cB) (cI := cI) (h0 := h1) (w_h0_held := (.ref h1_held)) (h0_count := h1_count)  (o_r := r4) hc) (wV kw_477 kw_402 kw_403 kw_83 kw_404) (by decide +kernel) ⟨Nat.le_of_ble_eq_true rfl, Nat.le_of_ble_eq_true rfl⟩ hK hP hD hN hT hS (va_free (wc := [(h1, .inr (2, [.ref h1_held, .int h1_count]))]) hD hS hA [2] rfl) [2] rfl (by decide) rfl rfl rfl hl.1 rfl (lv_room (Nat.le_of_ble_eq_true rfl)) dX10_load_8 ⟨Nat.le_of_ble_eq_true rfl, Nat.le_of_ble_eq_true rfl⟩) hP hD hS hA (wr := [(h0, .inr (8, [.ref h0_held, .ref h0_before, .ref h0_latest, .int u1, w_h0_foundOffset, .int u2, w_h0_downLimit, w_h0_downMost, w_h0_downOffset])), (h0_latest, .inl (cI, h0_latest_n, .inl u3)), (h1_held, .inl (cB, h1_held_n, .inl h1_held_f)), (h0_held, .inl (cB, h0_held_n, .inl h0_held_f)), (h0_before, .inl (cI, h0_before_n, .inl h0_before_f)), (h2, .inr (2, [.ref h2_held, .int h2_count])), (h2_held, .inl (cB, h2_held_n, .inl h2_held_f))]) (w1 := [(h1, .inr (2, [.ref h1_held, .int h1_count]))]) (ws' := [(h0, .inr (8, [.ref h0_held, .ref h0_before, .ref h0_latest, .int u1, w_h0_foundOffset, .int u2, w_h0_downLimit, w_h0_downMost, w_h0_downOffset])), (h0_latest, .inl (cI, h0_latest_n, .inl u3)), (h1, .inr (2, [.ref h1_held, .int h1_count])), (h1_held, .inl (cB, h1_held_n, .inl h1_held_f)), (h0_held, .inl (cB, h0_held_n, .inl h0_held_f)), (h0_before, .inl (cI, h0_before_n, .inl h0_before_f)), (h2, .inr (2, [.ref h2_held, .int h2_count])), (h2_held, .inl (cB, h2_held_n, .inl h2_held_f))]) [2] [0, 1, 3, 4, 5, 6, 7] [0, 1, 7, 2, 3, 4, 5, 6] rfl rfl (by decide) (by decide) rfl (by decide) (fun H locs hP hD hS => ?_)
  obtain ⟨x, hc, hf⟩ := bind_some hf
  obtain ⟨u5, u6, u7, u8⟩ := x
  dsimp only at hf
  refine nx_v (rn_V (As := [.ref h1, .int (0 : Int32), .int r4]) (rest := []) (n := 3) (ci := 8) (q0 := 0) ⟨hx, hb, hml, hown, hts⟩ (c_Text_append (l := l) (dC := dC) (dI := dI) (cB := cB) (cI := cI) (h0 := h0) (h1 := h1) (a2 := (0 : Int32)) (a3 := r4) (h1_held := h1_held) (h0_held := h0_held) (h0_latest := h0_latest) (h0_before := h0_before) (h0_count := u1) (w_h0_foundOffset := (w_h0_foundOffset)) (w_h0_downPlace := (.int u2)) (w_h0_downLimit := (w_h0_downLimit)) (w_h0_downMost := (w_h0_downMost)) (w_h0_downOffset := (w_h0_downOffset)) (h1_count := h1_count) (h1_held_n := h1_held_n) (h1_held_f := h1_held_f) (h0_held_n := h0_held_n) (h0_held_f := h0_held_f) (h0_latest_n := h0_latest_n) (h0_latest_f := u3) (h0_before_n := h0_before_n) (h0_before_f := h0_before_f) (o_h0_count := u5) (o_h0_held_f := u6) (o_h0_latest_f := u7) (o_h0_before_f := u8) hc) (wV kw_478 kw_480 kw_1 kw_85 kw_481) (by decide +kernel) ⟨Nat.le_of_ble_eq_true rfl, Nat.le_of_ble_eq_true rfl⟩ hK hP hD hN hT hS (va_free (wc := [(h0, .inr (8, [.ref h0_held, .ref h0_before, .ref h0_latest, .int u1, w_h0_foundOffset, .int u2, w_h0_downLimit, w_h0_downMost, w_h0_downOffset])), (h1, .inr (2, [.ref h1_held, .int h1_count])), (h1_held, .inl (cB, h1_held_n, .inl h1_held_f)), (h0_held, .inl (cB, h0_held_n, .inl h0_held_f)), (h0_latest, .inl (cI, h0_latest_n, .inl u3)), (h0_before, .inl (cI, h0_before_n, .inl h0_before_f))]) hD hS hA [0, 2, 3, 4, 1, 5] rfl) [0, 2, 3, 4, 1, 5] rfl (by decide) rfl rfl rfl hl.1 rfl (lv_room (Nat.le_of_ble_eq_true rfl)) dX10_load_11 ⟨Nat.le_of_ble_eq_true rfl, Nat.le_of_ble_eq_true rfl⟩) hP hD hS hA (wr := [(h2, .inr (2, [.ref h2_held, .int h2_count])), (h2_held, .inl (cB, h2_held_n, .inl h2_held_f))]) (w1 := [(h0, .inr (8, [.ref h0_held, .ref h0_before, .ref h0_latest, .int u5, w_h0_foundOffset, .int u2, w_h0_downLimit, w_h0_downMost, w_h0_downOffset])), (h1, .inr (2, [.ref h1_held, .int h1_count])), (h1_held, .inl (cB, h1_held_n, .inl h1_held_f)), (h0_held, .inl (cB, h0_held_n, .inl u6)), (h0_latest, .inl (cI, h0_latest_n, .inl u7)), (h0_before, .inl (cI, h0_before_n, .inl u8))]) (ws' := [(h0, .inr (8, [.ref h0_held, .ref h0_before, .ref h0_latest, .int u5, w_h0_foundOffset, .int u2, w_h0_downLimit, w_h0_downMost, w_h0_downOffset])), (h0_latest, .inl (cI, h0_latest_n, .inl u7)), (h1, .inr (2, [.ref h1_held, .int h1_count])), (h1_held, .inl (cB, h1_held_n, .inl h1_held_f)), (h0_held, .inl (cB, h0_held_n, .inl u6)), (h0_before, .inl (cI, h0_before_n, .inl u8)), (h2, .inr (2, [.ref h2_held, .int h2_count])), (h2_held, .inl (cB, h2_held_n, .inl h2_held_f))]) [0, 2, 3, 4, 1, 5] [6, 7] [2, 6, 3, 4, 5, 7, 0, 1] rfl rfl (by decide) (by decide) rfl (by decide) (fun H locs hP hD hS => ?_)
  refine lv_aload_n hx hb dX10_load_14 rfl (lv_at hl 0 rfl) ?_
  refine lv_aload_n hx hb dX10_load_15 rfl (lv_at hl 2 rfl) ?_
  refine lv_iload_n hx hb dX10_load_16 rfl (lv_at hl 3 rfl) ?_
  refine lv_iload hx hb dX10_load_17 (lv_at hl 4 rfl) ?_
  obtain ⟨x, hc, hf⟩ := bind_some hf
  obtain ⟨u9, u10, u11, u12⟩ := x
  dsimp only at hf
  refine nx_v (rn_V (As := [.ref h2, .int a3, .int a4]) (rest := []) (n := 3) (ci := 8) (q0 := 0) ⟨hx, hb, hml, hown, hts⟩ (c_Text_append (l := l) (dC := dC) (dI := dI) (cB := cB) (cI := cI) (h0 := h0) (h1 := h2) (a2 := a3) (a3 := a4) (h1_held := h2_held) (h0_held := h0_held) (h0_latest := h0_latest) (h0_before := h0_before) (h0_count := u5) (w_h0_foundOffset := (w_h0_foundOffset)) (w_h0_downPlace := (.int u2)) (w_h0_downLimit := (w_h0_downLimit)) (w_h0_downMost := (w_h0_downMost)) (w_h0_downOffset := (w_h0_downOffset)) (h1_count := h2_count) (h1_held_n := h2_held_n) (h1_held_f := h2_held_f) (h0_held_n := h0_held_n) (h0_held_f := u6) (h0_latest_n := h0_latest_n) (h0_latest_f := u7) (h0_before_n := h0_before_n) (h0_before_f := u8) (o_h0_count := u9) (o_h0_held_f := u10) (o_h0_latest_f := u11) (o_h0_before_f := u12) hc) (wV kw_478 kw_480 kw_1 kw_85 kw_481) (by decide +kernel) ⟨Nat.le_of_ble_eq_true rfl, Nat.le_of_ble_eq_true rfl⟩ hK hP hD hN hT hS (va_free (wc := [(h0, .inr (8, [.ref h0_held, .ref h0_before, .ref h0_latest, .int u5, w_h0_foundOffset, .int u2, w_h0_downLimit, w_h0_downMost, w_h0_downOffset])), (h2, .inr (2, [.ref h2_held, .int h2_count])), (h2_held, .inl (cB, h2_held_n, .inl h2_held_f)), (h0_held, .inl (cB, h0_held_n, .inl u6)), (h0_latest, .inl (cI, h0_latest_n, .inl u7)), (h0_before, .inl (cI, h0_before_n, .inl u8))]) hD hS hA [0, 6, 7, 4, 1, 5] rfl) [0, 6, 7, 4, 1, 5] rfl (by decide) rfl rfl rfl hl.1 rfl (lv_room (Nat.le_of_ble_eq_true rfl)) dX10_load_19 ⟨Nat.le_of_ble_eq_true rfl, Nat.le_of_ble_eq_true rfl⟩) hP hD hS hA (wr := [(h1, .inr (2, [.ref h1_held, .int h1_count])), (h1_held, .inl (cB, h1_held_n, .inl h1_held_f))]) (w1 := [(h0, .inr (8, [.ref h0_held, .ref h0_before, .ref h0_latest, .int u9, w_h0_foundOffset, .int u2, w_h0_downLimit, w_h0_downMost, w_h0_downOffset])), (h2, .inr (2, [.ref h2_held, .int h2_count])), (h2_held, .inl (cB, h2_held_n, .inl h2_held_f)), (h0_held, .inl (cB, h0_held_n, .inl u10)), (h0_latest, .inl (cI, h0_latest_n, .inl u11)), (h0_before, .inl (cI, h0_before_n, .inl u12))]) (ws' := [(h0, .inr (8, [.ref h0_held, .ref h0_before, .ref h0_latest, .int u9, w_h0_foundOffset, .int u2, w_h0_downLimit, w_h0_downMost, w_h0_downOffset])), (h0_latest, .inl (cI, h0_latest_n, .inl u11)), (h1, .inr (2, [.ref h1_held, .int h1_count])), (h1_held, .inl (cB, h1_held_n, .inl h1_held_f)), (h0_held, .inl (cB, h0_held_n, .inl u10)), (h0_before, .inl (cI, h0_before_n, .inl u12)), (h2, .inr (2, [.ref h2_held, .int h2_count])), (h2_held, .inl (cB, h2_held_n, .inl h2_held_f))]) [0, 6, 7, 4, 1, 5] [2, 3] [2, 6, 0, 1, 5, 7, 3, 4] rfl rfl (by decide) (by decide) rfl (by decide) (fun H locs hP hD hS => ?_)
  obtain ⟨rfl, hq_1⟩ := Prod.mk.inj (Option.some.inj hf)
  obtain ⟨rfl, hq_2⟩ := Prod.mk.inj hq_1
  obtain ⟨rfl, hq_3⟩ := Prod.mk.inj hq_2
  obtain ⟨rfl, hq_4⟩ := Prod.mk.inj hq_3
  obtain rfl := hq_4
  exact rt_v hQ hx hb hr hlocks hP hD hS dX10_load_22

theorem dX10_loadAlone_0 : decode cX10_loadAlone 0 = .ok (.aload_n 0, 1) := by decide +kernel
theorem dX10_loadAlone_1 : decode cX10_loadAlone 1 = .ok (.invokevirtual 22, 3) := by decide +kernel
theorem dX10_loadAlone_4 : decode cX10_loadAlone 4 = .ok (.aload_n 0, 1) := by decide +kernel
theorem dX10_loadAlone_5 : decode cX10_loadAlone 5 = .ok (.aload_n 1, 1) := by decide +kernel
theorem dX10_loadAlone_6 : decode cX10_loadAlone 6 = .ok (.iload_n 2, 1) := by decide +kernel
theorem dX10_loadAlone_7 : decode cX10_loadAlone 7 = .ok (.iload_n 3, 1) := by decide +kernel
theorem dX10_loadAlone_8 : decode cX10_loadAlone 8 = .ok (.invokevirtual 31, 3) := by decide +kernel
theorem dX10_loadAlone_11 : decode cX10_loadAlone 11 = .ok (.return_, 1) := by decide +kernel
def m_Text_loadAlone (a2 : Int32) (a3 : Int32) (h0_latest_n : Nat) (h0_latest_f : Nat → Int32) (h1_count : Int32) (h1_held_n : Nat) (h1_held_f : Nat → Int32) (h0_held_n : Nat) (h0_held_f : Nat → Int32) (h0_before_n : Nat) (h0_before_f : Nat → Int32) : Option (Int32 × Int32 × (Nat → Int32) × (Nat → Int32) × (Nat → Int32)) :=
  (m_Text_clear h0_latest_n h0_latest_f).bind fun (u1, u2, u3) =>
  (m_Text_append a2 a3 u1 h1_count h1_held_n h1_held_f h0_held_n h0_held_f h0_latest_n u3 h0_before_n h0_before_f).bind fun (u4, u5, u6, u7) =>
  some (u4, u2, u6, u5, u7)
def rm_Text_loadAlone : Room := { frames := 2, cells := 0, slots := 0, locals := 46 }
set_option maxHeartbeats 4000000 in
set_option maxRecDepth 100000 in
theorem c_Text_loadAlone {l : Launch} {dC : Nat → ClassId} {dI : Nat → Nat → Nat} {cB cI : ClassId} {sz : Nat} {h0 : Nat} {h1 : Nat} {a2 : Int32} {a3 : Int32} {h0_latest : Nat} {h1_held : Nat} {h0_held : Nat} {h0_before : Nat} {h0_count : Int32} {w_h0_foundOffset : Value} {h0_downPlace : Int32} {w_h0_downLimit : Value} {w_h0_downMost : Value} {w_h0_downOffset : Value} {h0_latest_n : Nat} {h0_latest_f : Nat → Int32} {h1_count : Int32} {h1_held_n : Nat} {h1_held_f : Nat → Int32} {h0_held_n : Nat} {h0_held_f : Nat → Int32} {h0_before_n : Nat} {h0_before_f : Nat → Int32} {o_h0_count : Int32} {o_h0_downPlace : Int32} {o_h0_latest_f : Nat → Int32} {o_h0_held_f : Nat → Int32} {o_h0_before_f : Nat → Int32} (hf : m_Text_loadAlone a2 a3 h0_latest_n h0_latest_f h1_count h1_held_n h1_held_f h0_held_n h0_held_f h0_before_n h0_before_f = some (o_h0_count, o_h0_downPlace, o_h0_latest_f, o_h0_held_f, o_h0_before_f)) : Met l yX10_loadAlone (Cond.code yX10_loadAlone cX10_loadAlone 4 none :: lw_G) rm_Text_loadAlone (PreC (dC, dI) [(cB, .byte), (cI, .int)] [.ref h0, .ref h1, .int a2, .int a3] sz [(h0, .inr (8, [.ref h0_held, .ref h0_before, .ref h0_latest, .int h0_count, w_h0_foundOffset, .int h0_downPlace, w_h0_downLimit, w_h0_downMost, w_h0_downOffset])), (h0_latest, .inl (cI, h0_latest_n, .inl h0_latest_f)), (h1, .inr (2, [.ref h1_held, .int h1_count])), (h1_held, .inl (cB, h1_held_n, .inl h1_held_f)), (h0_held, .inl (cB, h0_held_n, .inl h0_held_f)), (h0_before, .inl (cI, h0_before_n, .inl h0_before_f))]) (QcV (dC, dI) [(h0, .inr (8, [.ref h0_held, .ref h0_before, .ref h0_latest, .int o_h0_count, w_h0_foundOffset, .int o_h0_downPlace, w_h0_downLimit, w_h0_downMost, w_h0_downOffset])), (h0_latest, .inl (cI, h0_latest_n, .inl o_h0_latest_f)), (h1, .inr (2, [.ref h1_held, .int h1_count])), (h1_held, .inl (cB, h1_held_n, .inl h1_held_f)), (h0_held, .inl (cB, h0_held_n, .inl o_h0_held_f)), (h0_before, .inl (cI, h0_before_n, .inl o_h0_before_f))] (va_A [(h0, .inr (8, [.ref h0_held, .ref h0_before, .ref h0_latest, .int h0_count, w_h0_foundOffset, .int h0_downPlace, w_h0_downLimit, w_h0_downMost, w_h0_downOffset])), (h0_latest, .inl (cI, h0_latest_n, .inl h0_latest_f)), (h1, .inr (2, [.ref h1_held, .int h1_count])), (h1_held, .inl (cB, h1_held_n, .inl h1_held_f)), (h0_held, .inl (cB, h0_held_n, .inl h0_held_f)), (h0_before, .inl (cI, h0_before_n, .inl h0_before_f))] sz)) 0 0 (va_A [(h0, .inr (8, [.ref h0_held, .ref h0_before, .ref h0_latest, .int h0_count, w_h0_foundOffset, .int h0_downPlace, w_h0_downLimit, w_h0_downMost, w_h0_downOffset])), (h0_latest, .inl (cI, h0_latest_n, .inl h0_latest_f)), (h1, .inr (2, [.ref h1_held, .int h1_count])), (h1_held, .inl (cB, h1_held_n, .inl h1_held_f)), (h0_held, .inl (cB, h0_held_n, .inl h0_held_f)), (h0_before, .inl (cI, h0_before_n, .inl h0_before_f))] sz) := by
  refine met_of (Qf := fun A => QcV (dC, dI) [(h0, .inr (8, [.ref h0_held, .ref h0_before, .ref h0_latest, .int o_h0_count, w_h0_foundOffset, .int o_h0_downPlace, w_h0_downLimit, w_h0_downMost, w_h0_downOffset])), (h0_latest, .inl (cI, h0_latest_n, .inl o_h0_latest_f)), (h1, .inr (2, [.ref h1_held, .int h1_count])), (h1_held, .inl (cB, h1_held_n, .inl h1_held_f)), (h0_held, .inl (cB, h0_held_n, .inl o_h0_held_f)), (h0_before, .inl (cI, h0_before_n, .inl o_h0_before_f))] A) (by decide) (Nat.le_of_ble_eq_true rfl) ?_
  intro p e s m below meth c A ls Q hx hb hr hml hown hts hlocks hnm hP hK hD hN hT hA hl hQ
  have hown : s.vm.findClass RX10 = some m.cls := hown
  have hS : va_S A s.heap s.heap [] := va_S.rf
  have hl : lv_has ls 4 [(0, .ref h0), (1, .ref h1), (2, .int a2), (3, .int a3)] := hl
  unfold m_Text_loadAlone at hf
  refine lv_aload_n hx hb dX10_loadAlone_0 rfl (lv_at hl 0 rfl) ?_
  obtain ⟨x, hc, hf⟩ := bind_some hf
  obtain ⟨u1, u2, u3⟩ := x
  dsimp only at hf
  refine nx_v (rn_V (As := []) (rest := []) (n := 0) (ci := 8) (q0 := 0) ⟨hx, hb, hml, hown, hts⟩ (c_Text_clear (l := l) (dC := dC) (dI := dI) (cB := cB) (cI := cI) (h0 := h0) (h0_latest := h0_latest) (w_h0_held := (.ref h0_held)) (w_h0_before := (.ref h0_before)) (h0_count := h0_count) (w_h0_foundOffset := (w_h0_foundOffset)) (h0_downPlace := h0_downPlace) (w_h0_downLimit := (w_h0_downLimit)) (w_h0_downMost := (w_h0_downMost)) (w_h0_downOffset := (w_h0_downOffset)) (h0_latest_n := h0_latest_n) (h0_latest_f := h0_latest_f) (o_h0_count := u1) (o_h0_downPlace := u2) (o_h0_latest_f := u3) hc) (wV kw_470 kw_472 kw_0 kw_85 kw_473) (by decide +kernel) ⟨Nat.le_of_ble_eq_true rfl, Nat.le_of_ble_eq_true rfl⟩ hK hP hD hN hT hS (va_free (wc := [(h0, .inr (8, [.ref h0_held, .ref h0_before, .ref h0_latest, .int h0_count, w_h0_foundOffset, .int h0_downPlace, w_h0_downLimit, w_h0_downMost, w_h0_downOffset])), (h0_latest, .inl (cI, h0_latest_n, .inl h0_latest_f))]) hD hS hA [0, 1] rfl) [0, 1] rfl (by decide) rfl rfl rfl hl.1 rfl (lv_room (Nat.le_of_ble_eq_true rfl)) dX10_loadAlone_1 ⟨Nat.le_of_ble_eq_true rfl, Nat.le_of_ble_eq_true rfl⟩) hP hD hS hA (wr := [(h1, .inr (2, [.ref h1_held, .int h1_count])), (h1_held, .inl (cB, h1_held_n, .inl h1_held_f)), (h0_held, .inl (cB, h0_held_n, .inl h0_held_f)), (h0_before, .inl (cI, h0_before_n, .inl h0_before_f))]) (w1 := [(h0, .inr (8, [.ref h0_held, .ref h0_before, .ref h0_latest, .int u1, w_h0_foundOffset, .int u2, w_h0_downLimit, w_h0_downMost, w_h0_downOffset])), (h0_latest, .inl (cI, h0_latest_n, .inl u3))]) (ws' := [(h0, .inr (8, [.ref h0_held, .ref h0_before, .ref h0_latest, .int u1, w_h0_foundOffset, .int u2, w_h0_downLimit, w_h0_downMost, w_h0_downOffset])), (h0_latest, .inl (cI, h0_latest_n, .inl u3)), (h1, .inr (2, [.ref h1_held, .int h1_count])), (h1_held, .inl (cB, h1_held_n, .inl h1_held_f)), (h0_held, .inl (cB, h0_held_n, .inl h0_held_f)), (h0_before, .inl (cI, h0_before_n, .inl h0_before_f))]) [0, 1] [2, 3, 4, 5] [4, 5, 0, 1, 2, 3] rfl rfl (by decide) (by decide) rfl (by decide) (fun H locs hP hD hS => ?_)
  refine lv_aload_n hx hb dX10_loadAlone_4 rfl (lv_at hl 0 rfl) ?_
  refine lv_aload_n hx hb dX10_loadAlone_5 rfl (lv_at hl 1 rfl) ?_
  refine lv_iload_n hx hb dX10_loadAlone_6 rfl (lv_at hl 2 rfl) ?_
  refine lv_iload_n hx hb dX10_loadAlone_7 rfl (lv_at hl 3 rfl) ?_
  obtain ⟨x, hc, hf⟩ := bind_some hf
  obtain ⟨u4, u5, u6, u7⟩ := x
  dsimp only at hf
  refine nx_v (rn_V (As := [.ref h1, .int a2, .int a3]) (rest := []) (n := 3) (ci := 8) (q0 := 0) ⟨hx, hb, hml, hown, hts⟩ (c_Text_append (l := l) (dC := dC) (dI := dI) (cB := cB) (cI := cI) (h0 := h0) (h1 := h1) (a2 := a2) (a3 := a3) (h1_held := h1_held) (h0_held := h0_held) (h0_latest := h0_latest) (h0_before := h0_before) (h0_count := u1) (w_h0_foundOffset := (w_h0_foundOffset)) (w_h0_downPlace := (.int u2)) (w_h0_downLimit := (w_h0_downLimit)) (w_h0_downMost := (w_h0_downMost)) (w_h0_downOffset := (w_h0_downOffset)) (h1_count := h1_count) (h1_held_n := h1_held_n) (h1_held_f := h1_held_f) (h0_held_n := h0_held_n) (h0_held_f := h0_held_f) (h0_latest_n := h0_latest_n) (h0_latest_f := u3) (h0_before_n := h0_before_n) (h0_before_f := h0_before_f) (o_h0_count := u4) (o_h0_held_f := u5) (o_h0_latest_f := u6) (o_h0_before_f := u7) hc) (wV kw_478 kw_480 kw_1 kw_85 kw_481) (by decide +kernel) ⟨Nat.le_of_ble_eq_true rfl, Nat.le_of_ble_eq_true rfl⟩ hK hP hD hN hT hS (va_free (wc := [(h0, .inr (8, [.ref h0_held, .ref h0_before, .ref h0_latest, .int u1, w_h0_foundOffset, .int u2, w_h0_downLimit, w_h0_downMost, w_h0_downOffset])), (h1, .inr (2, [.ref h1_held, .int h1_count])), (h1_held, .inl (cB, h1_held_n, .inl h1_held_f)), (h0_held, .inl (cB, h0_held_n, .inl h0_held_f)), (h0_latest, .inl (cI, h0_latest_n, .inl u3)), (h0_before, .inl (cI, h0_before_n, .inl h0_before_f))]) hD hS hA [0, 2, 3, 4, 1, 5] rfl) [0, 2, 3, 4, 1, 5] rfl (by decide) rfl rfl rfl hl.1 rfl (lv_room (Nat.le_of_ble_eq_true rfl)) dX10_loadAlone_8 ⟨Nat.le_of_ble_eq_true rfl, Nat.le_of_ble_eq_true rfl⟩) hP hD hS hA (wr := []) (w1 := [(h0, .inr (8, [.ref h0_held, .ref h0_before, .ref h0_latest, .int u4, w_h0_foundOffset, .int u2, w_h0_downLimit, w_h0_downMost, w_h0_downOffset])), (h1, .inr (2, [.ref h1_held, .int h1_count])), (h1_held, .inl (cB, h1_held_n, .inl h1_held_f)), (h0_held, .inl (cB, h0_held_n, .inl u5)), (h0_latest, .inl (cI, h0_latest_n, .inl u6)), (h0_before, .inl (cI, h0_before_n, .inl u7))]) (ws' := [(h0, .inr (8, [.ref h0_held, .ref h0_before, .ref h0_latest, .int u4, w_h0_foundOffset, .int u2, w_h0_downLimit, w_h0_downMost, w_h0_downOffset])), (h0_latest, .inl (cI, h0_latest_n, .inl u6)), (h1, .inr (2, [.ref h1_held, .int h1_count])), (h1_held, .inl (cB, h1_held_n, .inl h1_held_f)), (h0_held, .inl (cB, h0_held_n, .inl u5)), (h0_before, .inl (cI, h0_before_n, .inl u7))]) [0, 2, 3, 4, 1, 5] [] [0, 4, 1, 2, 3, 5] rfl rfl (by decide) (by decide) rfl (by decide) (fun H locs hP hD hS => ?_)
  obtain ⟨rfl, hq_1⟩ := Prod.mk.inj (Option.some.inj hf)
  obtain ⟨rfl, hq_2⟩ := Prod.mk.inj hq_1
  obtain ⟨rfl, hq_3⟩ := Prod.mk.inj hq_2
  obtain ⟨rfl, hq_4⟩ := Prod.mk.inj hq_3
  obtain rfl := hq_4
  exact rt_v hQ hx hb hr hlocks hP hD hS dX10_loadAlone_11

theorem dX10_reach_0 : decode cX10_reach 0 = .ok (.iload_n 1, 1) := by decide +kernel
theorem dX10_reach_1 : decode cX10_reach 1 = .ok (.ifCond .lt 18, 3) := by decide +kernel
theorem dX10_reach_4 : decode cX10_reach 4 = .ok (.iload_n 2, 1) := by decide +kernel
theorem dX10_reach_5 : decode cX10_reach 5 = .ok (.iconst 1, 1) := by decide +kernel
theorem dX10_reach_6 : decode cX10_reach 6 = .ok (.if_icmp .lt 13, 3) := by decide +kernel
theorem dX10_reach_9 : decode cX10_reach 9 = .ok (.iload_n 2, 1) := by decide +kernel
theorem dX10_reach_10 : decode cX10_reach 10 = .ok (.aload_n 0, 1) := by decide +kernel
theorem dX10_reach_11 : decode cX10_reach 11 = .ok (.getfield 35, 3) := by decide +kernel
theorem dX10_reach_14 : decode cX10_reach 14 = .ok (.iload_n 1, 1) := by decide +kernel
theorem dX10_reach_15 : decode cX10_reach 15 = .ok (.isub, 1) := by decide +kernel
theorem dX10_reach_16 : decode cX10_reach 16 = .ok (.if_icmp .le 5, 3) := by decide +kernel
theorem dX10_reach_19 : decode cX10_reach 19 = .ok (.iconst 0, 1) := by decide +kernel
theorem dX10_reach_20 : decode cX10_reach 20 = .ok (.ireturn, 1) := by decide +kernel
theorem dX10_reach_21 : decode cX10_reach 21 = .ok (.iconst 0, 1) := by decide +kernel
theorem dX10_reach_22 : decode cX10_reach 22 = .ok (.istore 4, 2) := by decide +kernel
theorem dX10_reach_24 : decode cX10_reach 24 = .ok (.aload_n 0, 1) := by decide +kernel
theorem dX10_reach_25 : decode cX10_reach 25 = .ok (.getfield 15, 3) := by decide +kernel
theorem dX10_reach_28 : decode cX10_reach 28 = .ok (.iload_n 1, 1) := by decide +kernel
theorem dX10_reach_29 : decode cX10_reach 29 = .ok (.iaload, 1) := by decide +kernel
theorem dX10_reach_30 : decode cX10_reach 30 = .ok (.istore 5, 2) := by decide +kernel
theorem dX10_reach_32 : decode cX10_reach 32 = .ok (.iconst 0, 1) := by decide +kernel
theorem dX10_reach_33 : decode cX10_reach 33 = .ok (.istore 6, 2) := by decide +kernel
theorem dX10_reach_35 : decode cX10_reach 35 = .ok (.iload 6, 2) := by decide +kernel
theorem dX10_reach_37 : decode cX10_reach 37 = .ok (.aload_n 0, 1) := by decide +kernel
theorem dX10_reach_38 : decode cX10_reach 38 = .ok (.getfield 35, 3) := by decide +kernel
theorem dX10_reach_41 : decode cX10_reach 41 = .ok (.if_icmp .ge 115, 3) := by decide +kernel
theorem dX10_reach_44 : decode cX10_reach 44 = .ok (.iload 5, 2) := by decide +kernel
theorem dX10_reach_46 : decode cX10_reach 46 = .ok (.ifCond .lt 110, 3) := by decide +kernel
theorem dX10_reach_49 : decode cX10_reach 49 = .ok (.iload_n 1, 1) := by decide +kernel
theorem dX10_reach_50 : decode cX10_reach 50 = .ok (.iload 5, 2) := by decide +kernel
theorem dX10_reach_52 : decode cX10_reach 52 = .ok (.isub, 1) := by decide +kernel
theorem dX10_reach_53 : decode cX10_reach 53 = .ok (.iload_n 3, 1) := by decide +kernel
theorem dX10_reach_54 : decode cX10_reach 54 = .ok (.if_icmp .gt 102, 3) := by decide +kernel
theorem dX10_reach_57 : decode cX10_reach 57 = .ok (.iload 4, 2) := by decide +kernel
theorem dX10_reach_59 : decode cX10_reach 59 = .ok (.iload_n 2, 1) := by decide +kernel
theorem dX10_reach_60 : decode cX10_reach 60 = .ok (.if_icmp .ge 96, 3) := by decide +kernel
theorem dX10_reach_63 : decode cX10_reach 63 = .ok (.iconst 0, 1) := by decide +kernel
theorem dX10_reach_64 : decode cX10_reach 64 = .ok (.istore 7, 2) := by decide +kernel
theorem dX10_reach_66 : decode cX10_reach 66 = .ok (.aload_n 0, 1) := by decide +kernel
theorem dX10_reach_67 : decode cX10_reach 67 = .ok (.getfield 11, 3) := by decide +kernel
theorem dX10_reach_70 : decode cX10_reach 70 = .ok (.iload 5, 2) := by decide +kernel
theorem dX10_reach_72 : decode cX10_reach 72 = .ok (.iload 4, 2) := by decide +kernel
theorem dX10_reach_74 : decode cX10_reach 74 = .ok (.iadd, 1) := by decide +kernel
theorem dX10_reach_75 : decode cX10_reach 75 = .ok (.baload, 1) := by decide +kernel
theorem dX10_reach_76 : decode cX10_reach 76 = .ok (.aload_n 0, 1) := by decide +kernel
theorem dX10_reach_77 : decode cX10_reach 77 = .ok (.getfield 11, 3) := by decide +kernel
theorem dX10_reach_80 : decode cX10_reach 80 = .ok (.iload_n 1, 1) := by decide +kernel
theorem dX10_reach_81 : decode cX10_reach 81 = .ok (.iload 4, 2) := by decide +kernel
theorem dX10_reach_83 : decode cX10_reach 83 = .ok (.iadd, 1) := by decide +kernel
theorem dX10_reach_84 : decode cX10_reach 84 = .ok (.baload, 1) := by decide +kernel
theorem dX10_reach_85 : decode cX10_reach 85 = .ok (.if_icmp .ne 37, 3) := by decide +kernel
theorem dX10_reach_88 : decode cX10_reach 88 = .ok (.iload 7, 2) := by decide +kernel
theorem dX10_reach_90 : decode cX10_reach 90 = .ok (.iload_n 2, 1) := by decide +kernel
theorem dX10_reach_91 : decode cX10_reach 91 = .ok (.if_icmp .ge 31, 3) := by decide +kernel
theorem dX10_reach_94 : decode cX10_reach 94 = .ok (.aload_n 0, 1) := by decide +kernel
theorem dX10_reach_95 : decode cX10_reach 95 = .ok (.getfield 11, 3) := by decide +kernel
theorem dX10_reach_98 : decode cX10_reach 98 = .ok (.iload 5, 2) := by decide +kernel
theorem dX10_reach_100 : decode cX10_reach 100 = .ok (.iload 7, 2) := by decide +kernel
theorem dX10_reach_102 : decode cX10_reach 102 = .ok (.iadd, 1) := by decide +kernel
theorem dX10_reach_103 : decode cX10_reach 103 = .ok (.baload, 1) := by decide +kernel
theorem dX10_reach_104 : decode cX10_reach 104 = .ok (.aload_n 0, 1) := by decide +kernel
theorem dX10_reach_105 : decode cX10_reach 105 = .ok (.getfield 11, 3) := by decide +kernel
theorem dX10_reach_108 : decode cX10_reach 108 = .ok (.iload_n 1, 1) := by decide +kernel
theorem dX10_reach_109 : decode cX10_reach 109 = .ok (.iload 7, 2) := by decide +kernel
theorem dX10_reach_111 : decode cX10_reach 111 = .ok (.iadd, 1) := by decide +kernel
theorem dX10_reach_112 : decode cX10_reach 112 = .ok (.baload, 1) := by decide +kernel
theorem dX10_reach_113 : decode cX10_reach 113 = .ok (.if_icmp .ne 9, 3) := by decide +kernel
theorem dX10_reach_116 : decode cX10_reach 116 = .ok (.iinc 7 1, 3) := by decide +kernel
theorem dX10_reach_119 : decode cX10_reach 119 = .ok (.goto (-31), 3) := by decide +kernel
theorem dX10_reach_122 : decode cX10_reach 122 = .ok (.iload 7, 2) := by decide +kernel
theorem dX10_reach_124 : decode cX10_reach 124 = .ok (.iload 4, 2) := by decide +kernel
theorem dX10_reach_126 : decode cX10_reach 126 = .ok (.if_icmp .le 15, 3) := by decide +kernel
theorem dX10_reach_129 : decode cX10_reach 129 = .ok (.iload 7, 2) := by decide +kernel
theorem dX10_reach_131 : decode cX10_reach 131 = .ok (.istore 4, 2) := by decide +kernel
theorem dX10_reach_133 : decode cX10_reach 133 = .ok (.aload_n 0, 1) := by decide +kernel
theorem dX10_reach_134 : decode cX10_reach 134 = .ok (.iload_n 1, 1) := by decide +kernel
theorem dX10_reach_135 : decode cX10_reach 135 = .ok (.iload 5, 2) := by decide +kernel
theorem dX10_reach_137 : decode cX10_reach 137 = .ok (.isub, 1) := by decide +kernel
theorem dX10_reach_138 : decode cX10_reach 138 = .ok (.putfield 52, 3) := by decide +kernel
theorem dX10_reach_141 : decode cX10_reach 141 = .ok (.aload_n 0, 1) := by decide +kernel
theorem dX10_reach_142 : decode cX10_reach 142 = .ok (.getfield 15, 3) := by decide +kernel
theorem dX10_reach_145 : decode cX10_reach 145 = .ok (.iload 5, 2) := by decide +kernel
theorem dX10_reach_147 : decode cX10_reach 147 = .ok (.iaload, 1) := by decide +kernel
theorem dX10_reach_148 : decode cX10_reach 148 = .ok (.istore 5, 2) := by decide +kernel
theorem dX10_reach_150 : decode cX10_reach 150 = .ok (.iinc 6 1, 3) := by decide +kernel
theorem dX10_reach_153 : decode cX10_reach 153 = .ok (.goto (-118), 3) := by decide +kernel
theorem dX10_reach_156 : decode cX10_reach 156 = .ok (.iload 4, 2) := by decide +kernel
theorem dX10_reach_158 : decode cX10_reach 158 = .ok (.ireturn, 1) := by decide +kernel
def m_Text_reach_E156 (g2 : Int32) (j4_3 : Int32) : Option (Int32 × Int32) :=
  some (j4_3, g2)
def m_Text_reach_J141 (h0_before_n : Nat) (h0_before_f : Nat → Int32) (j5_6 : Int32) (j6_7 : Int32) (g9 : Int32) (j4_10 : Int32) : Option ((Int32 × Int32 × Int32 × Int32) ⊕ ((Int32 × Int32))) :=
  chk j5_6 h0_before_n <|
  bnd (h0_before_f j5_6.toNatClampNeg) fun v5_11 =>
  bnd (j6_7 + (1 : Int32)) fun v6_12 =>
  some (.inl (g9, j4_10, v5_11, v6_12))
def m_Text_reach_J122 (a1 : Int32) (h0_before_n : Nat) (h0_before_f : Nat → Int32) (g4 : Int32) (j4_5 : Int32) (j5_6 : Int32) (j6_7 : Int32) (j7_8 : Int32) : Option ((Int32 × Int32 × Int32 × Int32) ⊕ ((Int32 × Int32))) :=
  if j7_8 ≤ j4_5 then
    m_Text_reach_J141 h0_before_n h0_before_f j5_6 j6_7 g4 j4_5
  else
    bnd (a1 - j5_6) fun p_13 =>
    m_Text_reach_J141 h0_before_n h0_before_f j5_6 j6_7 p_13 j7_8
def m_Text_reach_B88 (a1 : Int32) (a2 : Int32) (h0_held_n : Nat) (h0_held_f : Nat → Int32) (j5_6 : Int32) (j7_14 : Int32) : Option ((Int32) ⊕ ((Int32))) :=
  if a2 ≤ j7_14 then
    some (.inr j7_14)
  else
    chk (j5_6 + j7_14) h0_held_n <|
    chk (a1 + j7_14) h0_held_n <|
    if (h0_held_f (j5_6 + j7_14).toNatClampNeg) = (h0_held_f (a1 + j7_14).toNatClampNeg) then
      bnd (j7_14 + (1 : Int32)) fun v7_15 =>
      some (.inl v7_15)
    else
      some (.inr j7_14)
def m_Text_reach_B35 (a1 : Int32) (a2 : Int32) (a3 : Int32) (h0_count : Int32) (h0_before_n : Nat) (h0_before_f : Nat → Int32) (h0_held_n : Nat) (h0_held_f : Nat → Int32) (g4 : Int32) (j4_5 : Int32) (j5_6 : Int32) (j6_7 : Int32) : Option ((Int32 × Int32 × Int32 × Int32) ⊕ ((Int32 × Int32))) :=
  if h0_count ≤ j6_7 then
    some (.inr (g4, j4_5))
  else
    if j5_6 < 0 then
      some (.inr (g4, j4_5))
    else
      if a3 < (a1 - j5_6) then
        some (.inr (g4, j4_5))
      else
        if a2 ≤ j4_5 then
          some (.inr (g4, j4_5))
        else
          chk (j5_6 + j4_5) h0_held_n <|
          chk (a1 + j4_5) h0_held_n <|
          if (h0_held_f (j5_6 + j4_5).toNatClampNeg) = (h0_held_f (a1 + j4_5).toNatClampNeg) then
            (iter (fun st => m_Text_reach_B88 a1 a2 h0_held_n h0_held_f j5_6 st) FU (0 : Int32)).bind fun o => m_Text_reach_J122 a1 h0_before_n h0_before_f g4 j4_5 j5_6 j6_7 o
          else
            m_Text_reach_J122 a1 h0_before_n h0_before_f g4 j4_5 j5_6 j6_7 (0 : Int32)
def m_Text_reach (a1 : Int32) (a2 : Int32) (a3 : Int32) (h0_count : Int32) (h0_foundOffset : Int32) (h0_before_n : Nat) (h0_before_f : Nat → Int32) (h0_held_n : Nat) (h0_held_f : Nat → Int32) : Option (Int32 × Int32) :=
  if a1 < 0 then
    some ((0 : Int32), h0_foundOffset)
  else
    if a2 < (1 : Int32) then
      some ((0 : Int32), h0_foundOffset)
    else
      if a2 ≤ (h0_count - a1) then
        chk a1 h0_before_n <|
        bnd (h0_before_f a1.toNatClampNeg) fun v5_1 =>
        (iter (fun st => m_Text_reach_B35 a1 a2 a3 h0_count h0_before_n h0_before_f h0_held_n h0_held_f st.1 st.2.1 st.2.2.1 st.2.2.2) FU (h0_foundOffset, (0 : Int32), v5_1, (0 : Int32))).bind fun o => m_Text_reach_E156 o.1 o.2
      else
        some ((0 : Int32), h0_foundOffset)
def rm_Text_reach : Room := { frames := 0, cells := 0, slots := 0, locals := 0 }
set_option maxHeartbeats 4000000 in
set_option maxRecDepth 100000 in
theorem c_Text_reach {l : Launch} {dC : Nat → ClassId} {dI : Nat → Nat → Nat} {cB cI : ClassId} {sz : Nat} {h0 : Nat} {a1 : Int32} {a2 : Int32} {a3 : Int32} {h0_before : Nat} {h0_held : Nat} {w_h0_latest : Value} {h0_count : Int32} {h0_foundOffset : Int32} {w_h0_downPlace : Value} {w_h0_downLimit : Value} {w_h0_downMost : Value} {w_h0_downOffset : Value} {h0_before_n : Nat} {h0_before_f : Nat → Int32} {h0_held_n : Nat} {h0_held_f : Nat → Int32} {o_r : Int32} {o_h0_foundOffset : Int32} (hf : m_Text_reach a1 a2 a3 h0_count h0_foundOffset h0_before_n h0_before_f h0_held_n h0_held_f = some (o_r, o_h0_foundOffset)) : Met l yX10_reach (Cond.code yX10_reach cX10_reach 8 (some .int) :: lw_G) rm_Text_reach (PreC (dC, dI) [(cB, .byte), (cI, .int)] [.ref h0, .int a1, .int a2, .int a3] sz [(h0, .inr (8, [.ref h0_held, .ref h0_before, w_h0_latest, .int h0_count, .int h0_foundOffset, w_h0_downPlace, w_h0_downLimit, w_h0_downMost, w_h0_downOffset])), (h0_before, .inl (cI, h0_before_n, .inl h0_before_f)), (h0_held, .inl (cB, h0_held_n, .inl h0_held_f))]) (QcI o_r (dC, dI) [(h0, .inr (8, [.ref h0_held, .ref h0_before, w_h0_latest, .int h0_count, .int o_h0_foundOffset, w_h0_downPlace, w_h0_downLimit, w_h0_downMost, w_h0_downOffset])), (h0_before, .inl (cI, h0_before_n, .inl h0_before_f)), (h0_held, .inl (cB, h0_held_n, .inl h0_held_f))] (va_A [(h0, .inr (8, [.ref h0_held, .ref h0_before, w_h0_latest, .int h0_count, .int h0_foundOffset, w_h0_downPlace, w_h0_downLimit, w_h0_downMost, w_h0_downOffset])), (h0_before, .inl (cI, h0_before_n, .inl h0_before_f)), (h0_held, .inl (cB, h0_held_n, .inl h0_held_f))] sz)) 0 0 (va_A [(h0, .inr (8, [.ref h0_held, .ref h0_before, w_h0_latest, .int h0_count, .int h0_foundOffset, w_h0_downPlace, w_h0_downLimit, w_h0_downMost, w_h0_downOffset])), (h0_before, .inl (cI, h0_before_n, .inl h0_before_f)), (h0_held, .inl (cB, h0_held_n, .inl h0_held_f))] sz) := by
  refine met_of (Qf := fun A => QcI o_r (dC, dI) [(h0, .inr (8, [.ref h0_held, .ref h0_before, w_h0_latest, .int h0_count, .int o_h0_foundOffset, w_h0_downPlace, w_h0_downLimit, w_h0_downMost, w_h0_downOffset])), (h0_before, .inl (cI, h0_before_n, .inl h0_before_f)), (h0_held, .inl (cB, h0_held_n, .inl h0_held_f))] A) (by decide) (Nat.le_of_ble_eq_true rfl) ?_
  intro p e s m below meth c A ls Q hx hb hr hml hown hts hlocks hnm hP hK hD hN hT hA hl hQ
  have hown : s.vm.findClass RX10 = some m.cls := hown
  have hS : va_S A s.heap s.heap [] := va_S.rf
  have hl : lv_has ls 8 [(0, .ref h0), (1, .int a1), (2, .int a2), (3, .int a3)] := hl
  unfold m_Text_reach at hf
  refine lv_iload_n hx hb dX10_reach_0 rfl (lv_at hl 1 rfl) ?_
  refine lv_if_lt (tgt := 19) hx hb dX10_reach_1 (by decide) (fun c_1 => ?_) (fun c_1 => ?_)
  · replace hf := if_t c_1 hf
    refine lv_iconst (v := 0) hx hb dX10_reach_19 (by decide) ?_
    obtain ⟨rfl, hq_1⟩ := Prod.mk.inj (Option.some.inj hf)
    obtain rfl := hq_1
    exact rt_i hQ hx hb hr hlocks hP hD hS dX10_reach_20
  · replace hf := if_f c_1 hf
    refine lv_iload_n hx hb dX10_reach_4 rfl (lv_at hl 2 rfl) ?_
    refine lv_iconst (v := 1) hx hb dX10_reach_5 (by decide) ?_
    refine lv_icmp_lt (tgt := 19) hx hb dX10_reach_6 (by decide) (fun c_6 => ?_) (fun c_6 => ?_)
    · replace hf := if_t c_6 hf
      refine lv_iconst (v := 0) hx hb dX10_reach_19 (by decide) ?_
      obtain ⟨rfl, hq_1⟩ := Prod.mk.inj (Option.some.inj hf)
      obtain rfl := hq_1
      exact rt_i hQ hx hb hr hlocks hP hD hS dX10_reach_20
    · replace hf := if_f c_6 hf
      refine lv_iload_n hx hb dX10_reach_9 rfl (lv_at hl 2 rfl) ?_
      refine lv_aload_n hx hb dX10_reach_10 rfl (lv_at hl 0 rfl) ?_
      refine va_get (D := (dC, dI)) (ci := 8) (v := .int h0_count) (C := RX10) (T := TX10) (N := 9) hx hb hts inG_X10 hown hK hP 0 rfl rfl 3 (by decide) (hts _ kw_132) (fun _ h9 => h9) rfl dX10_reach_11 ?_
      refine lv_iload_n hx hb dX10_reach_14 rfl (lv_at hl 1 rfl) ?_
      refine lv_isub hx hb dX10_reach_15 ?_
      refine lv_icmp_le (tgt := 21) hx hb dX10_reach_16 (by decide) (fun c_16 => ?_) (fun c_16 => ?_)
      · replace hf := if_t c_16 hf
        refine lv_iconst (v := 0) hx hb dX10_reach_21 (by decide) ?_
        refine lv_istore (lv' := [(4, .int (0 : Int32)), (0, .ref h0), (1, .int a1), (2, .int a2), (3, .int a3)]) hx hb dX10_reach_22 hl (by decide) rfl (fun ls hl => ?_)
        refine lv_aload_n hx hb dX10_reach_24 rfl (lv_at hl 1 rfl) ?_
        refine va_get (D := (dC, dI)) (ci := 8) (v := .ref h0_before) (C := RX10) (T := TX10) (N := 9) hx hb hts inG_X10 hown hK hP 0 rfl rfl 1 (by decide) (hts _ kw_130) (fun _ h9 => h9) rfl dX10_reach_25 ?_
        refine lv_iload_n hx hb dX10_reach_28 rfl (lv_at hl 2 rfl) ?_
        obtain ⟨hin, hf⟩ := chk_some hf
        refine va_iald hx hb hK hP 1 1 rfl rfl hin dX10_reach_29 ?_
        refine lv_topi (fun v5_1 e_v5_1 => ?_)
        replace hf := bnd_at e_v5_1 hf
        refine lv_istore (lv' := [(5, .int v5_1), (4, .int (0 : Int32)), (0, .ref h0), (1, .int a1), (2, .int a2), (3, .int a3)]) hx hb dX10_reach_30 hl (by decide) rfl (fun ls hl => ?_)
        refine lv_iconst (v := 0) hx hb dX10_reach_32 (by decide) ?_
        refine lv_istore (lv' := [(6, .int (0 : Int32)), (5, .int v5_1), (4, .int (0 : Int32)), (0, .ref h0), (1, .int a1), (2, .int a2), (3, .int a3)]) hx hb dX10_reach_33 hl (by decide) rfl (fun ls hl => ?_)
        have hJ_156 : ∀ (g2 : Int32) (j4_3 : Int32) (H : Heap) (locs : List Loc) (ls : Array Slot), m_Text_reach_E156 g2 j4_3 = some (o_r, o_h0_foundOffset) → va_P (dC, dI) vwCl [(h0, .inr (8, [.ref h0_held, .ref h0_before, w_h0_latest, .int h0_count, .int g2, w_h0_downPlace, w_h0_downLimit, w_h0_downMost, w_h0_downOffset])), (h0_before, .inl (cI, h0_before_n, .inl h0_before_f)), (h0_held, .inl (cB, h0_held_n, .inl h0_held_f))] H → va_D A [(h0, .inr (8, [.ref h0_held, .ref h0_before, w_h0_latest, .int h0_count, .int g2, w_h0_downPlace, w_h0_downLimit, w_h0_downMost, w_h0_downOffset])), (h0_before, .inl (cI, h0_before_n, .inl h0_before_f)), (h0_held, .inl (cB, h0_held_n, .inl h0_held_f))] → va_S A s.heap H locs → lv_has ls 8 [(4, .int j4_3)] → W p l e (rm_Text_reach) s m ([.ref h0, .int a1, .int a2, .int a3] : List Value).toArray below meth c H locs 0 0 Q (F0 m 156 ls []) := by
          intro g2 j4_3 H locs ls hf hP hD hS hl
          unfold m_Text_reach_E156 at hf
          refine lv_iload hx hb dX10_reach_156 (lv_at hl 0 rfl) ?_
          obtain ⟨rfl, hq_1⟩ := Prod.mk.inj (Option.some.inj hf)
          obtain rfl := hq_1
          exact rt_i hQ hx hb hr hlocks hP hD hS dX10_reach_158
        obtain ⟨o_35, hi_35, hk_35⟩ := bind_some hf
        have hL_35 : ∀ (n : Nat) (g4 : Int32) (j4_5 : Int32) (j5_6 : Int32) (j6_7 : Int32) (H : Heap) (locs : List Loc) (ls : Array Slot), iter (fun st => m_Text_reach_B35 a1 a2 a3 h0_count h0_before_n h0_before_f h0_held_n h0_held_f st.1 st.2.1 st.2.2.1 st.2.2.2) n (g4, j4_5, j5_6, j6_7) = some o_35 → va_P (dC, dI) vwCl [(h0, .inr (8, [.ref h0_held, .ref h0_before, w_h0_latest, .int h0_count, .int g4, w_h0_downPlace, w_h0_downLimit, w_h0_downMost, w_h0_downOffset])), (h0_before, .inl (cI, h0_before_n, .inl h0_before_f)), (h0_held, .inl (cB, h0_held_n, .inl h0_held_f))] H → va_D A [(h0, .inr (8, [.ref h0_held, .ref h0_before, w_h0_latest, .int h0_count, .int g4, w_h0_downPlace, w_h0_downLimit, w_h0_downMost, w_h0_downOffset])), (h0_before, .inl (cI, h0_before_n, .inl h0_before_f)), (h0_held, .inl (cB, h0_held_n, .inl h0_held_f))] → va_S A s.heap H locs → lv_has ls 8 [(0, .ref h0), (1, .int a1), (2, .int a2), (3, .int a3), (4, .int j4_5), (5, .int j5_6), (6, .int j6_7)] → W p l e (rm_Text_reach) s m ([.ref h0, .int a1, .int a2, .int a3] : List Value).toArray below meth c H locs 0 0 Q (F0 m 35 ls []) := by
          intro n
          induction n with
          | zero => intro g4 j4_5 j5_6 j6_7 H locs ls hf; exact absurd hf (fun z => by cases z)
          | succ n ih_35 =>
            intro g4 j4_5 j5_6 j6_7 H locs ls hf hP hD hS hl
            obtain ⟨r_35, hf, hr_35⟩ := iter_succ hf
            have hf : m_Text_reach_B35 a1 a2 a3 h0_count h0_before_n h0_before_f h0_held_n h0_held_f g4 j4_5 j5_6 j6_7 = some r_35 := hf
            unfold m_Text_reach_B35 at hf
            refine lv_iload hx hb dX10_reach_35 (lv_at hl 6 rfl) ?_
            refine lv_aload_n hx hb dX10_reach_37 rfl (lv_at hl 0 rfl) ?_
            refine va_get (D := (dC, dI)) (ci := 8) (v := .int h0_count) (C := RX10) (T := TX10) (N := 9) hx hb hts inG_X10 hown hK hP 0 rfl rfl 3 (by decide) (hts _ kw_132) (fun _ h9 => h9) rfl dX10_reach_38 ?_
            refine lv_icmp_ge (tgt := 156) hx hb dX10_reach_41 (by decide) (fun c_41 => ?_) (fun c_41 => ?_)
            · replace hf := if_t c_41 hf
              have hf : m_Text_reach_E156 g4 j4_5 = some (o_r, o_h0_foundOffset) := by have hq := hk_35; rw [iter_exit hf hr_35] at hq; exact hq
              exact hJ_156 g4 j4_5 _ _ _ hf hP hD hS (lv_sub hl [4] rfl)
            · replace hf := if_f c_41 hf
              refine lv_iload hx hb dX10_reach_44 (lv_at hl 5 rfl) ?_
              refine lv_if_lt (tgt := 156) hx hb dX10_reach_46 (by decide) (fun c_46 => ?_) (fun c_46 => ?_)
              · replace hf := if_t c_46 hf
                have hf : m_Text_reach_E156 g4 j4_5 = some (o_r, o_h0_foundOffset) := by have hq := hk_35; rw [iter_exit hf hr_35] at hq; exact hq
                exact hJ_156 g4 j4_5 _ _ _ hf hP hD hS (lv_sub hl [4] rfl)
              · replace hf := if_f c_46 hf
                refine lv_iload_n hx hb dX10_reach_49 rfl (lv_at hl 1 rfl) ?_
                refine lv_iload hx hb dX10_reach_50 (lv_at hl 5 rfl) ?_
                refine lv_isub hx hb dX10_reach_52 ?_
                refine lv_iload_n hx hb dX10_reach_53 rfl (lv_at hl 3 rfl) ?_
                refine lv_icmp_gt (tgt := 156) hx hb dX10_reach_54 (by decide) (fun c_54 => ?_) (fun c_54 => ?_)
                · replace hf := if_t c_54 hf
                  have hf : m_Text_reach_E156 g4 j4_5 = some (o_r, o_h0_foundOffset) := by have hq := hk_35; rw [iter_exit hf hr_35] at hq; exact hq
                  exact hJ_156 g4 j4_5 _ _ _ hf hP hD hS (lv_sub hl [4] rfl)
                · replace hf := if_f c_54 hf
                  refine lv_iload hx hb dX10_reach_57 (lv_at hl 4 rfl) ?_
                  refine lv_iload_n hx hb dX10_reach_59 rfl (lv_at hl 2 rfl) ?_
                  refine lv_icmp_ge (tgt := 156) hx hb dX10_reach_60 (by decide) (fun c_60 => ?_) (fun c_60 => ?_)
                  · replace hf := if_t c_60 hf
                    have hf : m_Text_reach_E156 g4 j4_5 = some (o_r, o_h0_foundOffset) := by have hq := hk_35; rw [iter_exit hf hr_35] at hq; exact hq
                    exact hJ_156 g4 j4_5 _ _ _ hf hP hD hS (lv_sub hl [4] rfl)
                  · replace hf := if_f c_60 hf
                    refine lv_iconst (v := 0) hx hb dX10_reach_63 (by decide) ?_
                    refine lv_istore (lv' := [(7, .int (0 : Int32)), (0, .ref h0), (1, .int a1), (2, .int a2), (3, .int a3), (4, .int j4_5), (5, .int j5_6), (6, .int j6_7)]) hx hb dX10_reach_64 hl (by decide) rfl (fun ls hl => ?_)
                    refine lv_aload_n hx hb dX10_reach_66 rfl (lv_at hl 1 rfl) ?_
                    refine va_get (D := (dC, dI)) (ci := 8) (v := .ref h0_held) (C := RX10) (T := TX10) (N := 9) hx hb hts inG_X10 hown hK hP 0 rfl rfl 0 (by decide) (hts _ kw_129) (fun _ h9 => h9) rfl dX10_reach_67 ?_
                    refine lv_iload hx hb dX10_reach_70 (lv_at hl 6 rfl) ?_
                    refine lv_iload hx hb dX10_reach_72 (lv_at hl 5 rfl) ?_
                    refine lv_iadd hx hb dX10_reach_74 ?_
                    obtain ⟨hin, hf⟩ := chk_some hf
                    refine va_bald hx hb hK hP 2 0 rfl rfl hin dX10_reach_75 ?_
                    refine lv_aload_n hx hb dX10_reach_76 rfl (lv_at hl 1 rfl) ?_
                    refine va_get (D := (dC, dI)) (ci := 8) (v := .ref h0_held) (C := RX10) (T := TX10) (N := 9) hx hb hts inG_X10 hown hK hP 0 rfl rfl 0 (by decide) (hts _ kw_129) (fun _ h9 => h9) rfl dX10_reach_77 ?_
                    refine lv_iload_n hx hb dX10_reach_80 rfl (lv_at hl 2 rfl) ?_
                    refine lv_iload hx hb dX10_reach_81 (lv_at hl 5 rfl) ?_
                    refine lv_iadd hx hb dX10_reach_83 ?_
                    obtain ⟨hin, hf⟩ := chk_some hf
                    refine va_bald hx hb hK hP 2 0 rfl rfl hin dX10_reach_84 ?_
                    have hJ_122 : ∀ (j7_8 : Int32) (H : Heap) (locs : List Loc) (ls : Array Slot), m_Text_reach_J122 a1 h0_before_n h0_before_f g4 j4_5 j5_6 j6_7 j7_8 = some r_35 → va_P (dC, dI) vwCl [(h0, .inr (8, [.ref h0_held, .ref h0_before, w_h0_latest, .int h0_count, .int g4, w_h0_downPlace, w_h0_downLimit, w_h0_downMost, w_h0_downOffset])), (h0_before, .inl (cI, h0_before_n, .inl h0_before_f)), (h0_held, .inl (cB, h0_held_n, .inl h0_held_f))] H → va_D A [(h0, .inr (8, [.ref h0_held, .ref h0_before, w_h0_latest, .int h0_count, .int g4, w_h0_downPlace, w_h0_downLimit, w_h0_downMost, w_h0_downOffset])), (h0_before, .inl (cI, h0_before_n, .inl h0_before_f)), (h0_held, .inl (cB, h0_held_n, .inl h0_held_f))] → va_S A s.heap H locs → lv_has ls 8 [(0, .ref h0), (1, .int a1), (2, .int a2), (3, .int a3), (4, .int j4_5), (5, .int j5_6), (6, .int j6_7), (7, .int j7_8)] → W p l e (rm_Text_reach) s m ([.ref h0, .int a1, .int a2, .int a3] : List Value).toArray below meth c H locs 0 0 Q (F0 m 122 ls []) := by
                      intro j7_8 H locs ls hf hP hD hS hl
                      unfold m_Text_reach_J122 at hf
                      refine lv_iload hx hb dX10_reach_122 (lv_at hl 7 rfl) ?_
                      refine lv_iload hx hb dX10_reach_124 (lv_at hl 4 rfl) ?_
                      have hJ_141 : ∀ (g9 : Int32) (j4_10 : Int32) (H : Heap) (locs : List Loc) (ls : Array Slot), m_Text_reach_J141 h0_before_n h0_before_f j5_6 j6_7 g9 j4_10 = some r_35 → va_P (dC, dI) vwCl [(h0, .inr (8, [.ref h0_held, .ref h0_before, w_h0_latest, .int h0_count, .int g9, w_h0_downPlace, w_h0_downLimit, w_h0_downMost, w_h0_downOffset])), (h0_before, .inl (cI, h0_before_n, .inl h0_before_f)), (h0_held, .inl (cB, h0_held_n, .inl h0_held_f))] H → va_D A [(h0, .inr (8, [.ref h0_held, .ref h0_before, w_h0_latest, .int h0_count, .int g9, w_h0_downPlace, w_h0_downLimit, w_h0_downMost, w_h0_downOffset])), (h0_before, .inl (cI, h0_before_n, .inl h0_before_f)), (h0_held, .inl (cB, h0_held_n, .inl h0_held_f))] → va_S A s.heap H locs → lv_has ls 8 [(0, .ref h0), (1, .int a1), (2, .int a2), (3, .int a3), (4, .int j4_10), (5, .int j5_6), (6, .int j6_7)] → W p l e (rm_Text_reach) s m ([.ref h0, .int a1, .int a2, .int a3] : List Value).toArray below meth c H locs 0 0 Q (F0 m 141 ls []) := by
                        intro g9 j4_10 H locs ls hf hP hD hS hl
                        unfold m_Text_reach_J141 at hf
                        refine lv_aload_n hx hb dX10_reach_141 rfl (lv_at hl 0 rfl) ?_
                        refine va_get (D := (dC, dI)) (ci := 8) (v := .ref h0_before) (C := RX10) (T := TX10) (N := 9) hx hb hts inG_X10 hown hK hP 0 rfl rfl 1 (by decide) (hts _ kw_130) (fun _ h9 => h9) rfl dX10_reach_142 ?_
                        refine lv_iload hx hb dX10_reach_145 (lv_at hl 5 rfl) ?_
                        obtain ⟨hin, hf⟩ := chk_some hf
                        refine va_iald hx hb hK hP 1 1 rfl rfl hin dX10_reach_147 ?_
                        refine lv_topi (fun v5_11 e_v5_11 => ?_)
                        replace hf := bnd_at e_v5_11 hf
                        refine lv_istore (lv' := [(5, .int v5_11), (0, .ref h0), (1, .int a1), (2, .int a2), (3, .int a3), (4, .int j4_10), (6, .int j6_7)]) hx hb dX10_reach_148 hl (by decide) rfl (fun ls hl => ?_)
                        obtain ⟨v6_12, e_v6_12⟩ : ∃ y : Int32, y = (j6_7 + (1 : Int32)) := ⟨_, rfl⟩
                        replace hf := bnd_at e_v6_12 hf
                        refine lv_iinc (v := v6_12) (lv' := [(6, .int v6_12), (5, .int v5_11), (0, .ref h0), (1, .int a1), (2, .int a2), (3, .int a3), (4, .int j4_10)]) hx hb dX10_reach_150 hl (k := 6) rfl (by rw [e_v6_12]; rfl) (by decide) rfl (fun ls hl => ?_)
                        refine lv_goto (tgt := 35) hx hb dX10_reach_153 (by decide) ?_
                        exact ih_35 g9 j4_10 v5_11 v6_12 _ _ _ (iter_back hf hr_35) hP hD hS (lv_sub hl [2, 3, 4, 5, 6, 1, 0] rfl)
                      refine lv_icmp_le (tgt := 141) hx hb dX10_reach_126 (by decide) (fun c_126 => ?_) (fun c_126 => ?_)
                      · replace hf := if_t c_126 hf
                        exact hJ_141 g4 j4_5 _ _ _ hf hP hD hS (lv_sub hl [0, 1, 2, 3, 4, 5, 6] rfl)
                      · replace hf := if_f c_126 hf
                        refine lv_iload hx hb dX10_reach_129 (lv_at hl 7 rfl) ?_
                        refine lv_istore (lv' := [(4, .int j7_8), (0, .ref h0), (1, .int a1), (2, .int a2), (3, .int a3), (5, .int j5_6), (6, .int j6_7), (7, .int j7_8)]) hx hb dX10_reach_131 hl (by decide) rfl (fun ls hl => ?_)
                        refine lv_aload_n hx hb dX10_reach_133 rfl (lv_at hl 1 rfl) ?_
                        refine lv_iload_n hx hb dX10_reach_134 rfl (lv_at hl 2 rfl) ?_
                        refine lv_iload hx hb dX10_reach_135 (lv_at hl 5 rfl) ?_
                        refine lv_isub hx hb dX10_reach_137 ?_
                        refine lv_topi (fun p_13 e_p_13 => ?_)
                        replace hf := bnd_at e_p_13 hf
                        refine va_put (D := (dC, dI)) (ci := 8) (v := .int p_13) (ty := .int) (C := RX10) (T := TX10) (N := 9) hx hb hts inG_X10 tyX10 tyX10_ok nmX10 hown hK hP hD hS 0 rfl rfl 4 (by decide) (hts _ kw_133) (fun _ h9 => h9) rfl (by decide +kernel) rfl rfl (Nat.le_of_ble_eq_true rfl) dX10_reach_138 (fun H locs hP hD hS => ?_)
                        have hP : va_P (dC, dI) vwCl [(h0, .inr (8, [.ref h0_held, .ref h0_before, w_h0_latest, .int h0_count, .int p_13, w_h0_downPlace, w_h0_downLimit, w_h0_downMost, w_h0_downOffset])), (h0_before, .inl (cI, h0_before_n, .inl h0_before_f)), (h0_held, .inl (cB, h0_held_n, .inl h0_held_f))] H := hP
                        have hD : va_D A [(h0, .inr (8, [.ref h0_held, .ref h0_before, w_h0_latest, .int h0_count, .int p_13, w_h0_downPlace, w_h0_downLimit, w_h0_downMost, w_h0_downOffset])), (h0_before, .inl (cI, h0_before_n, .inl h0_before_f)), (h0_held, .inl (cB, h0_held_n, .inl h0_held_f))] := hD
                        exact hJ_141 p_13 j7_8 _ _ _ hf hP hD hS (lv_sub hl [1, 2, 3, 4, 0, 5, 6] rfl)
                    refine lv_icmp_ne (tgt := 122) hx hb dX10_reach_85 (by decide) (fun c_85 => ?_) (fun c_85 => ?_)
                    · replace hf := if_f c_85 hf
                      exact hJ_122 (0 : Int32) _ _ _ hf hP hD hS (lv_sub hl [1, 2, 3, 4, 5, 6, 7, 0] rfl)
                    · replace hf := if_t c_85 hf
                      obtain ⟨o_88, hi_88, hk_88⟩ := bind_some hf
                      have hL_88 : ∀ (n : Nat) (j7_14 : Int32) (H : Heap) (locs : List Loc) (ls : Array Slot), iter (fun st => m_Text_reach_B88 a1 a2 h0_held_n h0_held_f j5_6 st) n j7_14 = some o_88 → va_P (dC, dI) vwCl [(h0, .inr (8, [.ref h0_held, .ref h0_before, w_h0_latest, .int h0_count, .int g4, w_h0_downPlace, w_h0_downLimit, w_h0_downMost, w_h0_downOffset])), (h0_before, .inl (cI, h0_before_n, .inl h0_before_f)), (h0_held, .inl (cB, h0_held_n, .inl h0_held_f))] H → va_D A [(h0, .inr (8, [.ref h0_held, .ref h0_before, w_h0_latest, .int h0_count, .int g4, w_h0_downPlace, w_h0_downLimit, w_h0_downMost, w_h0_downOffset])), (h0_before, .inl (cI, h0_before_n, .inl h0_before_f)), (h0_held, .inl (cB, h0_held_n, .inl h0_held_f))] → va_S A s.heap H locs → lv_has ls 8 [(0, .ref h0), (1, .int a1), (2, .int a2), (3, .int a3), (4, .int j4_5), (5, .int j5_6), (6, .int j6_7), (7, .int j7_14)] → W p l e (rm_Text_reach) s m ([.ref h0, .int a1, .int a2, .int a3] : List Value).toArray below meth c H locs 0 0 Q (F0 m 88 ls []) := by
                        intro n
                        induction n with
                        | zero => intro j7_14 H locs ls hf; exact absurd hf (fun z => by cases z)
                        | succ n ih_88 =>
                          intro j7_14 H locs ls hf hP hD hS hl
                          obtain ⟨r_88, hf, hr_88⟩ := iter_succ hf
                          have hf : m_Text_reach_B88 a1 a2 h0_held_n h0_held_f j5_6 j7_14 = some r_88 := hf
                          unfold m_Text_reach_B88 at hf
                          refine lv_iload hx hb dX10_reach_88 (lv_at hl 7 rfl) ?_
                          refine lv_iload_n hx hb dX10_reach_90 rfl (lv_at hl 2 rfl) ?_
                          refine lv_icmp_ge (tgt := 122) hx hb dX10_reach_91 (by decide) (fun c_91 => ?_) (fun c_91 => ?_)
                          · replace hf := if_t c_91 hf
                            have hf : m_Text_reach_J122 a1 h0_before_n h0_before_f g4 j4_5 j5_6 j6_7 j7_14 = some r_35 := by have hq := hk_88; rw [iter_exit hf hr_88] at hq; exact hq
                            exact hJ_122 j7_14 _ _ _ hf hP hD hS (lv_sub hl [0, 1, 2, 3, 4, 5, 6, 7] rfl)
                          · replace hf := if_f c_91 hf
                            refine lv_aload_n hx hb dX10_reach_94 rfl (lv_at hl 0 rfl) ?_
                            refine va_get (D := (dC, dI)) (ci := 8) (v := .ref h0_held) (C := RX10) (T := TX10) (N := 9) hx hb hts inG_X10 hown hK hP 0 rfl rfl 0 (by decide) (hts _ kw_129) (fun _ h9 => h9) rfl dX10_reach_95 ?_
                            refine lv_iload hx hb dX10_reach_98 (lv_at hl 5 rfl) ?_
                            refine lv_iload hx hb dX10_reach_100 (lv_at hl 7 rfl) ?_
                            refine lv_iadd hx hb dX10_reach_102 ?_
                            obtain ⟨hin, hf⟩ := chk_some hf
                            refine va_bald hx hb hK hP 2 0 rfl rfl hin dX10_reach_103 ?_
                            refine lv_aload_n hx hb dX10_reach_104 rfl (lv_at hl 0 rfl) ?_
                            refine va_get (D := (dC, dI)) (ci := 8) (v := .ref h0_held) (C := RX10) (T := TX10) (N := 9) hx hb hts inG_X10 hown hK hP 0 rfl rfl 0 (by decide) (hts _ kw_129) (fun _ h9 => h9) rfl dX10_reach_105 ?_
                            refine lv_iload_n hx hb dX10_reach_108 rfl (lv_at hl 1 rfl) ?_
                            refine lv_iload hx hb dX10_reach_109 (lv_at hl 7 rfl) ?_
                            refine lv_iadd hx hb dX10_reach_111 ?_
                            obtain ⟨hin, hf⟩ := chk_some hf
                            refine va_bald hx hb hK hP 2 0 rfl rfl hin dX10_reach_112 ?_
                            refine lv_icmp_ne (tgt := 122) hx hb dX10_reach_113 (by decide) (fun c_113 => ?_) (fun c_113 => ?_)
                            · replace hf := if_f c_113 hf
                              have hf : m_Text_reach_J122 a1 h0_before_n h0_before_f g4 j4_5 j5_6 j6_7 j7_14 = some r_35 := by have hq := hk_88; rw [iter_exit hf hr_88] at hq; exact hq
                              exact hJ_122 j7_14 _ _ _ hf hP hD hS (lv_sub hl [0, 1, 2, 3, 4, 5, 6, 7] rfl)
                            · replace hf := if_t c_113 hf
                              obtain ⟨v7_15, e_v7_15⟩ : ∃ y : Int32, y = (j7_14 + (1 : Int32)) := ⟨_, rfl⟩
                              replace hf := bnd_at e_v7_15 hf
                              refine lv_iinc (v := v7_15) (lv' := [(7, .int v7_15), (0, .ref h0), (1, .int a1), (2, .int a2), (3, .int a3), (4, .int j4_5), (5, .int j5_6), (6, .int j6_7)]) hx hb dX10_reach_116 hl (k := 7) rfl (by rw [e_v7_15]; rfl) (by decide) rfl (fun ls hl => ?_)
                              refine lv_goto (tgt := 88) hx hb dX10_reach_119 (by decide) ?_
                              exact ih_88 v7_15 _ _ _ (iter_back hf hr_88) hP hD hS (lv_sub hl [1, 2, 3, 4, 5, 6, 7, 0] rfl)
                      exact hL_88 FU (0 : Int32) _ _ _ hi_88 hP hD hS (lv_sub hl [1, 2, 3, 4, 5, 6, 7, 0] rfl)
        exact hL_35 FU h0_foundOffset (0 : Int32) v5_1 (0 : Int32) _ _ _ hi_35 hP hD hS (lv_sub hl [3, 4, 5, 6, 2, 1, 0] rfl)
      · replace hf := if_f c_16 hf
        refine lv_iconst (v := 0) hx hb dX10_reach_19 (by decide) ?_
        obtain ⟨rfl, hq_1⟩ := Prod.mk.inj (Option.some.inj hf)
        obtain rfl := hq_1
        exact rt_i hQ hx hb hr hlocks hP hD hS dX10_reach_20

theorem dX10_goesOn_0 : decode cX10_goesOn 0 = .ok (.aload_n 0, 1) := by decide +kernel
theorem dX10_goesOn_1 : decode cX10_goesOn 1 = .ok (.getfield 75, 3) := by decide +kernel
theorem dX10_goesOn_4 : decode cX10_goesOn 4 = .ok (.iload_n 1, 1) := by decide +kernel
theorem dX10_goesOn_5 : decode cX10_goesOn 5 = .ok (.if_icmp .gt 27, 3) := by decide +kernel
theorem dX10_goesOn_8 : decode cX10_goesOn 8 = .ok (.aload_n 0, 1) := by decide +kernel
theorem dX10_goesOn_9 : decode cX10_goesOn 9 = .ok (.getfield 11, 3) := by decide +kernel
theorem dX10_goesOn_12 : decode cX10_goesOn 12 = .ok (.iload_n 1, 1) := by decide +kernel
theorem dX10_goesOn_13 : decode cX10_goesOn 13 = .ok (.baload, 1) := by decide +kernel
theorem dX10_goesOn_14 : decode cX10_goesOn 14 = .ok (.aload_n 0, 1) := by decide +kernel
theorem dX10_goesOn_15 : decode cX10_goesOn 15 = .ok (.getfield 11, 3) := by decide +kernel
theorem dX10_goesOn_18 : decode cX10_goesOn 18 = .ok (.iload_n 1, 1) := by decide +kernel
theorem dX10_goesOn_19 : decode cX10_goesOn 19 = .ok (.aload_n 0, 1) := by decide +kernel
theorem dX10_goesOn_20 : decode cX10_goesOn 20 = .ok (.getfield 75, 3) := by decide +kernel
theorem dX10_goesOn_23 : decode cX10_goesOn 23 = .ok (.isub, 1) := by decide +kernel
theorem dX10_goesOn_24 : decode cX10_goesOn 24 = .ok (.baload, 1) := by decide +kernel
theorem dX10_goesOn_25 : decode cX10_goesOn 25 = .ok (.if_icmp .ne 7, 3) := by decide +kernel
theorem dX10_goesOn_28 : decode cX10_goesOn 28 = .ok (.iconst 1, 1) := by decide +kernel
theorem dX10_goesOn_29 : decode cX10_goesOn 29 = .ok (.goto 4, 3) := by decide +kernel
theorem dX10_goesOn_32 : decode cX10_goesOn 32 = .ok (.iconst 0, 1) := by decide +kernel
theorem dX10_goesOn_33 : decode cX10_goesOn 33 = .ok (.ireturn, 1) := by decide +kernel
def m_Text_goesOn (a1 : Int32) (h0_downOffset : Int32) (h0_held_n : Nat) (h0_held_f : Nat → Int32) : Option (Int32) :=
  if a1 < h0_downOffset then
    some (0 : Int32)
  else
    chk a1 h0_held_n <|
    chk (a1 - h0_downOffset) h0_held_n <|
    if (h0_held_f a1.toNatClampNeg) = (h0_held_f (a1 - h0_downOffset).toNatClampNeg) then
      some (1 : Int32)
    else
      some (0 : Int32)
def rm_Text_goesOn : Room := { frames := 0, cells := 0, slots := 0, locals := 0 }
set_option maxHeartbeats 4000000 in
set_option maxRecDepth 100000 in
theorem c_Text_goesOn {l : Launch} {dC : Nat → ClassId} {dI : Nat → Nat → Nat} {cB cI : ClassId} {sz : Nat} {h0 : Nat} {a1 : Int32} {h0_held : Nat} {w_h0_before : Value} {w_h0_latest : Value} {w_h0_count : Value} {w_h0_foundOffset : Value} {w_h0_downPlace : Value} {w_h0_downLimit : Value} {w_h0_downMost : Value} {h0_downOffset : Int32} {h0_held_n : Nat} {h0_held_f : Nat → Int32} {o_r : Int32} (hf : m_Text_goesOn a1 h0_downOffset h0_held_n h0_held_f = some o_r) : Met l yX10_goesOn (Cond.code yX10_goesOn cX10_goesOn 2 (some .boolean) :: lw_G) rm_Text_goesOn (PreC (dC, dI) [(cB, .byte), (cI, .int)] [.ref h0, .int a1] sz [(h0, .inr (8, [.ref h0_held, w_h0_before, w_h0_latest, w_h0_count, w_h0_foundOffset, w_h0_downPlace, w_h0_downLimit, w_h0_downMost, .int h0_downOffset])), (h0_held, .inl (cB, h0_held_n, .inl h0_held_f))]) (QcI o_r (dC, dI) [(h0, .inr (8, [.ref h0_held, w_h0_before, w_h0_latest, w_h0_count, w_h0_foundOffset, w_h0_downPlace, w_h0_downLimit, w_h0_downMost, .int h0_downOffset])), (h0_held, .inl (cB, h0_held_n, .inl h0_held_f))] (va_A [(h0, .inr (8, [.ref h0_held, w_h0_before, w_h0_latest, w_h0_count, w_h0_foundOffset, w_h0_downPlace, w_h0_downLimit, w_h0_downMost, .int h0_downOffset])), (h0_held, .inl (cB, h0_held_n, .inl h0_held_f))] sz)) 0 0 (va_A [(h0, .inr (8, [.ref h0_held, w_h0_before, w_h0_latest, w_h0_count, w_h0_foundOffset, w_h0_downPlace, w_h0_downLimit, w_h0_downMost, .int h0_downOffset])), (h0_held, .inl (cB, h0_held_n, .inl h0_held_f))] sz) := by
  refine met_of (Qf := fun A => QcI o_r (dC, dI) [(h0, .inr (8, [.ref h0_held, w_h0_before, w_h0_latest, w_h0_count, w_h0_foundOffset, w_h0_downPlace, w_h0_downLimit, w_h0_downMost, .int h0_downOffset])), (h0_held, .inl (cB, h0_held_n, .inl h0_held_f))] A) (by decide) (Nat.le_of_ble_eq_true rfl) ?_
  intro p e s m below meth c A ls Q hx hb hr hml hown hts hlocks hnm hP hK hD hN hT hA hl hQ
  have hown : s.vm.findClass RX10 = some m.cls := hown
  have hS : va_S A s.heap s.heap [] := va_S.rf
  have hl : lv_has ls 2 [(0, .ref h0), (1, .int a1)] := hl
  unfold m_Text_goesOn at hf
  refine lv_aload_n hx hb dX10_goesOn_0 rfl (lv_at hl 0 rfl) ?_
  refine va_get (D := (dC, dI)) (ci := 8) (v := .int h0_downOffset) (C := RX10) (T := TX10) (N := 9) hx hb hts inG_X10 hown hK hP 0 rfl rfl 8 (by decide) (hts _ kw_137) (fun _ h9 => h9) rfl dX10_goesOn_1 ?_
  refine lv_iload_n hx hb dX10_goesOn_4 rfl (lv_at hl 1 rfl) ?_
  refine lv_icmp_gt (tgt := 32) hx hb dX10_goesOn_5 (by decide) (fun c_5 => ?_) (fun c_5 => ?_)
  · replace hf := if_t c_5 hf
    refine lv_iconst (v := 0) hx hb dX10_goesOn_32 (by decide) ?_
    have hzb : narrow .boolean (.int (0 : Int32)) = .int (0 : Int32) := rfl
    obtain rfl := Option.some.inj hf
    exact rt_z hQ hx hb hr hzb hlocks hP hD hS dX10_goesOn_33
  · replace hf := if_f c_5 hf
    refine lv_aload_n hx hb dX10_goesOn_8 rfl (lv_at hl 0 rfl) ?_
    refine va_get (D := (dC, dI)) (ci := 8) (v := .ref h0_held) (C := RX10) (T := TX10) (N := 9) hx hb hts inG_X10 hown hK hP 0 rfl rfl 0 (by decide) (hts _ kw_129) (fun _ h9 => h9) rfl dX10_goesOn_9 ?_
    refine lv_iload_n hx hb dX10_goesOn_12 rfl (lv_at hl 1 rfl) ?_
    obtain ⟨hin, hf⟩ := chk_some hf
    refine va_bald hx hb hK hP 1 0 rfl rfl hin dX10_goesOn_13 ?_
    refine lv_aload_n hx hb dX10_goesOn_14 rfl (lv_at hl 0 rfl) ?_
    refine va_get (D := (dC, dI)) (ci := 8) (v := .ref h0_held) (C := RX10) (T := TX10) (N := 9) hx hb hts inG_X10 hown hK hP 0 rfl rfl 0 (by decide) (hts _ kw_129) (fun _ h9 => h9) rfl dX10_goesOn_15 ?_
    refine lv_iload_n hx hb dX10_goesOn_18 rfl (lv_at hl 1 rfl) ?_
    refine lv_aload_n hx hb dX10_goesOn_19 rfl (lv_at hl 0 rfl) ?_
    refine va_get (D := (dC, dI)) (ci := 8) (v := .int h0_downOffset) (C := RX10) (T := TX10) (N := 9) hx hb hts inG_X10 hown hK hP 0 rfl rfl 8 (by decide) (hts _ kw_137) (fun _ h9 => h9) rfl dX10_goesOn_20 ?_
    refine lv_isub hx hb dX10_goesOn_23 ?_
    obtain ⟨hin, hf⟩ := chk_some hf
    refine va_bald hx hb hK hP 1 0 rfl rfl hin dX10_goesOn_24 ?_
    refine lv_icmp_ne (tgt := 32) hx hb dX10_goesOn_25 (by decide) (fun c_25 => ?_) (fun c_25 => ?_)
    · replace hf := if_f c_25 hf
      refine lv_iconst (v := 0) hx hb dX10_goesOn_32 (by decide) ?_
      have hzb : narrow .boolean (.int (0 : Int32)) = .int (0 : Int32) := rfl
      obtain rfl := Option.some.inj hf
      exact rt_z hQ hx hb hr hzb hlocks hP hD hS dX10_goesOn_33
    · replace hf := if_t c_25 hf
      refine lv_iconst (v := 1) hx hb dX10_goesOn_28 (by decide) ?_
      refine lv_goto (tgt := 33) hx hb dX10_goesOn_29 (by decide) ?_
      have hzb : narrow .boolean (.int (1 : Int32)) = .int (1 : Int32) := rfl
      obtain rfl := Option.some.inj hf
      exact rt_z hQ hx hb hr hzb hlocks hP hD hS dX10_goesOn_33

theorem dX10_reachDownward_0 : decode cX10_reachDownward 0 = .ok (.iload_n 1, 1) := by decide +kernel
theorem dX10_reachDownward_1 : decode cX10_reachDownward 1 = .ok (.ifCond .lt 18, 3) := by decide +kernel
theorem dX10_reachDownward_4 : decode cX10_reachDownward 4 = .ok (.iload_n 2, 1) := by decide +kernel
theorem dX10_reachDownward_5 : decode cX10_reachDownward 5 = .ok (.iconst 1, 1) := by decide +kernel
theorem dX10_reachDownward_6 : decode cX10_reachDownward 6 = .ok (.if_icmp .lt 13, 3) := by decide +kernel
theorem dX10_reachDownward_9 : decode cX10_reachDownward 9 = .ok (.iload_n 2, 1) := by decide +kernel
theorem dX10_reachDownward_10 : decode cX10_reachDownward 10 = .ok (.aload_n 0, 1) := by decide +kernel
theorem dX10_reachDownward_11 : decode cX10_reachDownward 11 = .ok (.getfield 35, 3) := by decide +kernel
theorem dX10_reachDownward_14 : decode cX10_reachDownward 14 = .ok (.iload_n 1, 1) := by decide +kernel
theorem dX10_reachDownward_15 : decode cX10_reachDownward 15 = .ok (.isub, 1) := by decide +kernel
theorem dX10_reachDownward_16 : decode cX10_reachDownward 16 = .ok (.if_icmp .le 7, 3) := by decide +kernel
theorem dX10_reachDownward_19 : decode cX10_reachDownward 19 = .ok (.iconst 1, 1) := by decide +kernel
theorem dX10_reachDownward_20 : decode cX10_reachDownward 20 = .ok (.goto 4, 3) := by decide +kernel
theorem dX10_reachDownward_23 : decode cX10_reachDownward 23 = .ok (.iconst 0, 1) := by decide +kernel
theorem dX10_reachDownward_24 : decode cX10_reachDownward 24 = .ok (.istore_n 3, 1) := by decide +kernel
theorem dX10_reachDownward_25 : decode cX10_reachDownward 25 = .ok (.iload_n 1, 1) := by decide +kernel
theorem dX10_reachDownward_26 : decode cX10_reachDownward 26 = .ok (.aload_n 0, 1) := by decide +kernel
theorem dX10_reachDownward_27 : decode cX10_reachDownward 27 = .ok (.getfield 39, 3) := by decide +kernel
theorem dX10_reachDownward_30 : decode cX10_reachDownward 30 = .ok (.iconst 1, 1) := by decide +kernel
theorem dX10_reachDownward_31 : decode cX10_reachDownward 31 = .ok (.isub, 1) := by decide +kernel
theorem dX10_reachDownward_32 : decode cX10_reachDownward 32 = .ok (.if_icmp .ne 17, 3) := by decide +kernel
theorem dX10_reachDownward_35 : decode cX10_reachDownward 35 = .ok (.iload_n 2, 1) := by decide +kernel
theorem dX10_reachDownward_36 : decode cX10_reachDownward 36 = .ok (.aload_n 0, 1) := by decide +kernel
theorem dX10_reachDownward_37 : decode cX10_reachDownward 37 = .ok (.getfield 55, 3) := by decide +kernel
theorem dX10_reachDownward_40 : decode cX10_reachDownward 40 = .ok (.iconst 1, 1) := by decide +kernel
theorem dX10_reachDownward_41 : decode cX10_reachDownward 41 = .ok (.iadd, 1) := by decide +kernel
theorem dX10_reachDownward_42 : decode cX10_reachDownward 42 = .ok (.if_icmp .gt 7, 3) := by decide +kernel
theorem dX10_reachDownward_45 : decode cX10_reachDownward 45 = .ok (.iconst 1, 1) := by decide +kernel
theorem dX10_reachDownward_46 : decode cX10_reachDownward 46 = .ok (.goto 4, 3) := by decide +kernel
theorem dX10_reachDownward_49 : decode cX10_reachDownward 49 = .ok (.iconst 0, 1) := by decide +kernel
theorem dX10_reachDownward_50 : decode cX10_reachDownward 50 = .ok (.istore 4, 2) := by decide +kernel
theorem dX10_reachDownward_52 : decode cX10_reachDownward 52 = .ok (.iload 4, 2) := by decide +kernel
theorem dX10_reachDownward_54 : decode cX10_reachDownward 54 = .ok (.ifCond .eq 16, 3) := by decide +kernel
theorem dX10_reachDownward_57 : decode cX10_reachDownward 57 = .ok (.iload_n 2, 1) := by decide +kernel
theorem dX10_reachDownward_58 : decode cX10_reachDownward 58 = .ok (.aload_n 0, 1) := by decide +kernel
theorem dX10_reachDownward_59 : decode cX10_reachDownward 59 = .ok (.getfield 58, 3) := by decide +kernel
theorem dX10_reachDownward_62 : decode cX10_reachDownward 62 = .ok (.iconst 1, 1) := by decide +kernel
theorem dX10_reachDownward_63 : decode cX10_reachDownward 63 = .ok (.iadd, 1) := by decide +kernel
theorem dX10_reachDownward_64 : decode cX10_reachDownward 64 = .ok (.invokestatic 61, 3) := by decide +kernel
theorem dX10_reachDownward_67 : decode cX10_reachDownward 67 = .ok (.goto 4, 3) := by decide +kernel
theorem dX10_reachDownward_70 : decode cX10_reachDownward 70 = .ok (.iload_n 2, 1) := by decide +kernel
theorem dX10_reachDownward_71 : decode cX10_reachDownward 71 = .ok (.istore 5, 2) := by decide +kernel
theorem dX10_reachDownward_73 : decode cX10_reachDownward 73 = .ok (.aload_n 0, 1) := by decide +kernel
theorem dX10_reachDownward_74 : decode cX10_reachDownward 74 = .ok (.iload_n 1, 1) := by decide +kernel
theorem dX10_reachDownward_75 : decode cX10_reachDownward 75 = .ok (.putfield 39, 3) := by decide +kernel
theorem dX10_reachDownward_78 : decode cX10_reachDownward 78 = .ok (.aload_n 0, 1) := by decide +kernel
theorem dX10_reachDownward_79 : decode cX10_reachDownward 79 = .ok (.iload_n 3, 1) := by decide +kernel
theorem dX10_reachDownward_80 : decode cX10_reachDownward 80 = .ok (.ifCond .eq 7, 3) := by decide +kernel
theorem dX10_reachDownward_83 : decode cX10_reachDownward 83 = .ok (.iconst 0, 1) := by decide +kernel
theorem dX10_reachDownward_84 : decode cX10_reachDownward 84 = .ok (.goto 4, 3) := by decide +kernel
theorem dX10_reachDownward_87 : decode cX10_reachDownward 87 = .ok (.iload_n 2, 1) := by decide +kernel
theorem dX10_reachDownward_88 : decode cX10_reachDownward 88 = .ok (.putfield 55, 3) := by decide +kernel
theorem dX10_reachDownward_91 : decode cX10_reachDownward 91 = .ok (.iload_n 3, 1) := by decide +kernel
theorem dX10_reachDownward_92 : decode cX10_reachDownward 92 = .ok (.ifCond .eq 11, 3) := by decide +kernel
theorem dX10_reachDownward_95 : decode cX10_reachDownward 95 = .ok (.aload_n 0, 1) := by decide +kernel
theorem dX10_reachDownward_96 : decode cX10_reachDownward 96 = .ok (.iconst 0, 1) := by decide +kernel
theorem dX10_reachDownward_97 : decode cX10_reachDownward 97 = .ok (.putfield 58, 3) := by decide +kernel
theorem dX10_reachDownward_100 : decode cX10_reachDownward 100 = .ok (.goto 54, 3) := by decide +kernel
theorem dX10_reachDownward_103 : decode cX10_reachDownward 103 = .ok (.iload 4, 2) := by decide +kernel
theorem dX10_reachDownward_105 : decode cX10_reachDownward 105 = .ok (.ifCond .eq 27, 3) := by decide +kernel
theorem dX10_reachDownward_108 : decode cX10_reachDownward 108 = .ok (.aload_n 0, 1) := by decide +kernel
theorem dX10_reachDownward_109 : decode cX10_reachDownward 109 = .ok (.getfield 58, 3) := by decide +kernel
theorem dX10_reachDownward_112 : decode cX10_reachDownward 112 = .ok (.ifCond .le 20, 3) := by decide +kernel
theorem dX10_reachDownward_115 : decode cX10_reachDownward 115 = .ok (.aload_n 0, 1) := by decide +kernel
theorem dX10_reachDownward_116 : decode cX10_reachDownward 116 = .ok (.iload_n 1, 1) := by decide +kernel
theorem dX10_reachDownward_117 : decode cX10_reachDownward 117 = .ok (.invokevirtual 67, 3) := by decide +kernel
theorem dX10_reachDownward_120 : decode cX10_reachDownward 120 = .ok (.ifCond .eq 12, 3) := by decide +kernel
theorem dX10_reachDownward_123 : decode cX10_reachDownward 123 = .ok (.aload_n 0, 1) := by decide +kernel
theorem dX10_reachDownward_124 : decode cX10_reachDownward 124 = .ok (.iload 5, 2) := by decide +kernel
theorem dX10_reachDownward_126 : decode cX10_reachDownward 126 = .ok (.putfield 58, 3) := by decide +kernel
theorem dX10_reachDownward_129 : decode cX10_reachDownward 129 = .ok (.goto 25, 3) := by decide +kernel
theorem dX10_reachDownward_132 : decode cX10_reachDownward 132 = .ok (.aload_n 0, 1) := by decide +kernel
theorem dX10_reachDownward_133 : decode cX10_reachDownward 133 = .ok (.aload_n 0, 1) := by decide +kernel
theorem dX10_reachDownward_134 : decode cX10_reachDownward 134 = .ok (.iload_n 1, 1) := by decide +kernel
theorem dX10_reachDownward_135 : decode cX10_reachDownward 135 = .ok (.iload 5, 2) := by decide +kernel
theorem dX10_reachDownward_137 : decode cX10_reachDownward 137 = .ok (.sipush 5000, 3) := by decide +kernel
theorem dX10_reachDownward_140 : decode cX10_reachDownward 140 = .ok (.invokevirtual 71, 3) := by decide +kernel
theorem dX10_reachDownward_143 : decode cX10_reachDownward 143 = .ok (.putfield 58, 3) := by decide +kernel
theorem dX10_reachDownward_146 : decode cX10_reachDownward 146 = .ok (.aload_n 0, 1) := by decide +kernel
theorem dX10_reachDownward_147 : decode cX10_reachDownward 147 = .ok (.aload_n 0, 1) := by decide +kernel
theorem dX10_reachDownward_148 : decode cX10_reachDownward 148 = .ok (.getfield 52, 3) := by decide +kernel
theorem dX10_reachDownward_151 : decode cX10_reachDownward 151 = .ok (.putfield 75, 3) := by decide +kernel
theorem dX10_reachDownward_154 : decode cX10_reachDownward 154 = .ok (.aload_n 0, 1) := by decide +kernel
theorem dX10_reachDownward_155 : decode cX10_reachDownward 155 = .ok (.getfield 58, 3) := by decide +kernel
theorem dX10_reachDownward_158 : decode cX10_reachDownward 158 = .ok (.ireturn, 1) := by decide +kernel
def m_Text_reachDownward_J132 (a1 : Int32) (h0_count : Int32) (h0_foundOffset : Int32) (h0_held_n : Nat) (h0_held_f : Nat → Int32) (h0_before_n : Nat) (h0_before_f : Nat → Int32) (s3 : Int32) (s4 : Int32) : Option (Int32 × Int32 × Int32 × Int32 × Int32 × Int32) :=
  (m_Text_reach a1 s3 (5000 : Int32) h0_count h0_foundOffset h0_before_n h0_before_f h0_held_n h0_held_f).bind fun (r5, u6) =>
  some (r5, u6, a1, s4, r5, u6)
def m_Text_reachDownward_J88 (a1 : Int32) (h0_count : Int32) (h0_foundOffset : Int32) (h0_downMost : Int32) (h0_downOffset : Int32) (h0_held_n : Nat) (h0_held_f : Nat → Int32) (h0_before_n : Nat) (h0_before_f : Nat → Int32) (s1 : Int32) (s2 : Int32) (s3 : Int32) (s4 : Int32) : Option (Int32 × Int32 × Int32 × Int32 × Int32 × Int32) :=
  if s1 = 0 then
    if s2 = 0 then
      m_Text_reachDownward_J132 a1 h0_count h0_foundOffset h0_held_n h0_held_f h0_before_n h0_before_f s3 s4
    else
      if h0_downMost ≤ 0 then
        m_Text_reachDownward_J132 a1 h0_count h0_foundOffset h0_held_n h0_held_f h0_before_n h0_before_f s3 s4
      else
        (m_Text_goesOn a1 h0_downOffset h0_held_n h0_held_f).bind fun r7 =>
        if r7 = 0 then
          m_Text_reachDownward_J132 a1 h0_count h0_foundOffset h0_held_n h0_held_f h0_before_n h0_before_f s3 s4
        else
          some (s3, h0_foundOffset, a1, s4, s3, h0_downOffset)
  else
    some ((0 : Int32), h0_foundOffset, a1, s4, (0 : Int32), h0_downOffset)
def m_Text_reachDownward_J71 (a1 : Int32) (a2 : Int32) (h0_count : Int32) (h0_foundOffset : Int32) (h0_downMost : Int32) (h0_downOffset : Int32) (h0_held_n : Nat) (h0_held_f : Nat → Int32) (h0_before_n : Nat) (h0_before_f : Nat → Int32) (s1 : Int32) (s2 : Int32) (s3 : Int32) : Option (Int32 × Int32 × Int32 × Int32 × Int32 × Int32) :=
  if s1 = 0 then
    m_Text_reachDownward_J88 a1 h0_count h0_foundOffset h0_downMost h0_downOffset h0_held_n h0_held_f h0_before_n h0_before_f s1 s2 s3 a2
  else
    m_Text_reachDownward_J88 a1 h0_count h0_foundOffset h0_downMost h0_downOffset h0_held_n h0_held_f h0_before_n h0_before_f s1 s2 s3 (0 : Int32)
def m_Text_reachDownward_J50 (a1 : Int32) (a2 : Int32) (h0_count : Int32) (h0_foundOffset : Int32) (h0_downMost : Int32) (h0_downOffset : Int32) (h0_held_n : Nat) (h0_held_f : Nat → Int32) (h0_before_n : Nat) (h0_before_f : Nat → Int32) (s1 : Int32) (s2 : Int32) : Option (Int32 × Int32 × Int32 × Int32 × Int32 × Int32) :=
  if s2 = 0 then
    m_Text_reachDownward_J71 a1 a2 h0_count h0_foundOffset h0_downMost h0_downOffset h0_held_n h0_held_f h0_before_n h0_before_f s1 s2 a2
  else
    m_Text_reachDownward_J71 a1 a2 h0_count h0_foundOffset h0_downMost h0_downOffset h0_held_n h0_held_f h0_before_n h0_before_f s1 s2 (imin a2 (h0_downMost + (1 : Int32)))
def m_Text_reachDownward_J24 (a1 : Int32) (a2 : Int32) (h0_count : Int32) (h0_foundOffset : Int32) (h0_downPlace : Int32) (h0_downLimit : Int32) (h0_downMost : Int32) (h0_downOffset : Int32) (h0_held_n : Nat) (h0_held_f : Nat → Int32) (h0_before_n : Nat) (h0_before_f : Nat → Int32) (s1 : Int32) : Option (Int32 × Int32 × Int32 × Int32 × Int32 × Int32) :=
  if a1 = (h0_downPlace - (1 : Int32)) then
    if (h0_downLimit + (1 : Int32)) < a2 then
      m_Text_reachDownward_J50 a1 a2 h0_count h0_foundOffset h0_downMost h0_downOffset h0_held_n h0_held_f h0_before_n h0_before_f s1 (0 : Int32)
    else
      m_Text_reachDownward_J50 a1 a2 h0_count h0_foundOffset h0_downMost h0_downOffset h0_held_n h0_held_f h0_before_n h0_before_f s1 (1 : Int32)
  else
    m_Text_reachDownward_J50 a1 a2 h0_count h0_foundOffset h0_downMost h0_downOffset h0_held_n h0_held_f h0_before_n h0_before_f s1 (0 : Int32)
def m_Text_reachDownward (a1 : Int32) (a2 : Int32) (h0_count : Int32) (h0_foundOffset : Int32) (h0_downPlace : Int32) (h0_downLimit : Int32) (h0_downMost : Int32) (h0_downOffset : Int32) (h0_held_n : Nat) (h0_held_f : Nat → Int32) (h0_before_n : Nat) (h0_before_f : Nat → Int32) : Option (Int32 × Int32 × Int32 × Int32 × Int32 × Int32) :=
  if a1 < 0 then
    m_Text_reachDownward_J24 a1 a2 h0_count h0_foundOffset h0_downPlace h0_downLimit h0_downMost h0_downOffset h0_held_n h0_held_f h0_before_n h0_before_f (1 : Int32)
  else
    if a2 < (1 : Int32) then
      m_Text_reachDownward_J24 a1 a2 h0_count h0_foundOffset h0_downPlace h0_downLimit h0_downMost h0_downOffset h0_held_n h0_held_f h0_before_n h0_before_f (1 : Int32)
    else
      if a2 ≤ (h0_count - a1) then
        m_Text_reachDownward_J24 a1 a2 h0_count h0_foundOffset h0_downPlace h0_downLimit h0_downMost h0_downOffset h0_held_n h0_held_f h0_before_n h0_before_f (0 : Int32)
      else
        m_Text_reachDownward_J24 a1 a2 h0_count h0_foundOffset h0_downPlace h0_downLimit h0_downMost h0_downOffset h0_held_n h0_held_f h0_before_n h0_before_f (1 : Int32)
def rm_Text_reachDownward : Room := { frames := 1, cells := 0, slots := 0, locals := 27 }
set_option maxHeartbeats 4000000 in
set_option maxRecDepth 100000 in
theorem c_Text_reachDownward {l : Launch} {dC : Nat → ClassId} {dI : Nat → Nat → Nat} {cB cI : ClassId} {sz : Nat} {h0 : Nat} {a1 : Int32} {a2 : Int32} {h0_held : Nat} {h0_before : Nat} {w_h0_latest : Value} {h0_count : Int32} {h0_foundOffset : Int32} {h0_downPlace : Int32} {h0_downLimit : Int32} {h0_downMost : Int32} {h0_downOffset : Int32} {h0_held_n : Nat} {h0_held_f : Nat → Int32} {h0_before_n : Nat} {h0_before_f : Nat → Int32} {o_r : Int32} {o_h0_foundOffset : Int32} {o_h0_downPlace : Int32} {o_h0_downLimit : Int32} {o_h0_downMost : Int32} {o_h0_downOffset : Int32} (hf : m_Text_reachDownward a1 a2 h0_count h0_foundOffset h0_downPlace h0_downLimit h0_downMost h0_downOffset h0_held_n h0_held_f h0_before_n h0_before_f = some (o_r, o_h0_foundOffset, o_h0_downPlace, o_h0_downLimit, o_h0_downMost, o_h0_downOffset)) : Met l yX10_reachDownward (Cond.code yX10_reachDownward cX10_reachDownward 6 (some .int) :: lw_G) rm_Text_reachDownward (PreC (dC, dI) [(cB, .byte), (cI, .int)] [.ref h0, .int a1, .int a2] sz [(h0, .inr (8, [.ref h0_held, .ref h0_before, w_h0_latest, .int h0_count, .int h0_foundOffset, .int h0_downPlace, .int h0_downLimit, .int h0_downMost, .int h0_downOffset])), (h0_held, .inl (cB, h0_held_n, .inl h0_held_f)), (h0_before, .inl (cI, h0_before_n, .inl h0_before_f))]) (QcI o_r (dC, dI) [(h0, .inr (8, [.ref h0_held, .ref h0_before, w_h0_latest, .int h0_count, .int o_h0_foundOffset, .int o_h0_downPlace, .int o_h0_downLimit, .int o_h0_downMost, .int o_h0_downOffset])), (h0_held, .inl (cB, h0_held_n, .inl h0_held_f)), (h0_before, .inl (cI, h0_before_n, .inl h0_before_f))] (va_A [(h0, .inr (8, [.ref h0_held, .ref h0_before, w_h0_latest, .int h0_count, .int h0_foundOffset, .int h0_downPlace, .int h0_downLimit, .int h0_downMost, .int h0_downOffset])), (h0_held, .inl (cB, h0_held_n, .inl h0_held_f)), (h0_before, .inl (cI, h0_before_n, .inl h0_before_f))] sz)) 0 0 (va_A [(h0, .inr (8, [.ref h0_held, .ref h0_before, w_h0_latest, .int h0_count, .int h0_foundOffset, .int h0_downPlace, .int h0_downLimit, .int h0_downMost, .int h0_downOffset])), (h0_held, .inl (cB, h0_held_n, .inl h0_held_f)), (h0_before, .inl (cI, h0_before_n, .inl h0_before_f))] sz) := by
  refine met_of (Qf := fun A => QcI o_r (dC, dI) [(h0, .inr (8, [.ref h0_held, .ref h0_before, w_h0_latest, .int h0_count, .int o_h0_foundOffset, .int o_h0_downPlace, .int o_h0_downLimit, .int o_h0_downMost, .int o_h0_downOffset])), (h0_held, .inl (cB, h0_held_n, .inl h0_held_f)), (h0_before, .inl (cI, h0_before_n, .inl h0_before_f))] A) (by decide) (Nat.le_of_ble_eq_true rfl) ?_
  intro p e s m below meth c A ls Q hx hb hr hml hown hts hlocks hnm hP hK hD hN hT hA hl hQ
  have hown : s.vm.findClass RX10 = some m.cls := hown
  have hS : va_S A s.heap s.heap [] := va_S.rf
  have hl : lv_has ls 6 [(0, .ref h0), (1, .int a1), (2, .int a2)] := hl
  unfold m_Text_reachDownward at hf
  refine lv_iload_n hx hb dX10_reachDownward_0 rfl (lv_at hl 1 rfl) ?_
  have hJ_24 : ∀ (s1 : Int32) (H : Heap) (locs : List Loc) (ls : Array Slot), m_Text_reachDownward_J24 a1 a2 h0_count h0_foundOffset h0_downPlace h0_downLimit h0_downMost h0_downOffset h0_held_n h0_held_f h0_before_n h0_before_f s1 = some (o_r, o_h0_foundOffset, o_h0_downPlace, o_h0_downLimit, o_h0_downMost, o_h0_downOffset) → va_P (dC, dI) vwCl [(h0, .inr (8, [.ref h0_held, .ref h0_before, w_h0_latest, .int h0_count, .int h0_foundOffset, .int h0_downPlace, .int h0_downLimit, .int h0_downMost, .int h0_downOffset])), (h0_held, .inl (cB, h0_held_n, .inl h0_held_f)), (h0_before, .inl (cI, h0_before_n, .inl h0_before_f))] H → va_D A [(h0, .inr (8, [.ref h0_held, .ref h0_before, w_h0_latest, .int h0_count, .int h0_foundOffset, .int h0_downPlace, .int h0_downLimit, .int h0_downMost, .int h0_downOffset])), (h0_held, .inl (cB, h0_held_n, .inl h0_held_f)), (h0_before, .inl (cI, h0_before_n, .inl h0_before_f))] → va_S A s.heap H locs → lv_has ls 6 [(0, .ref h0), (1, .int a1), (2, .int a2)] → W p l e (rm_Text_reachDownward) s m ([.ref h0, .int a1, .int a2] : List Value).toArray below meth c H locs 0 0 Q (F0 m 24 ls [.int s1]) := by
    intro s1 H locs ls hf hP hD hS hl
    unfold m_Text_reachDownward_J24 at hf
    refine lv_istore_n (lv' := [(3, .int s1), (0, .ref h0), (1, .int a1), (2, .int a2)]) hx hb dX10_reachDownward_24 rfl hl (by decide) rfl (fun ls hl => ?_)
    refine lv_iload_n hx hb dX10_reachDownward_25 rfl (lv_at hl 2 rfl) ?_
    refine lv_aload_n hx hb dX10_reachDownward_26 rfl (lv_at hl 1 rfl) ?_
    refine va_get (D := (dC, dI)) (ci := 8) (v := .int h0_downPlace) (C := RX10) (T := TX10) (N := 9) hx hb hts inG_X10 hown hK hP 0 rfl rfl 5 (by decide) (hts _ kw_134) (fun _ h9 => h9) rfl dX10_reachDownward_27 ?_
    refine lv_iconst (v := 1) hx hb dX10_reachDownward_30 (by decide) ?_
    refine lv_isub hx hb dX10_reachDownward_31 ?_
    have hJ_50 : ∀ (s2 : Int32) (H : Heap) (locs : List Loc) (ls : Array Slot), m_Text_reachDownward_J50 a1 a2 h0_count h0_foundOffset h0_downMost h0_downOffset h0_held_n h0_held_f h0_before_n h0_before_f s1 s2 = some (o_r, o_h0_foundOffset, o_h0_downPlace, o_h0_downLimit, o_h0_downMost, o_h0_downOffset) → va_P (dC, dI) vwCl [(h0, .inr (8, [.ref h0_held, .ref h0_before, w_h0_latest, .int h0_count, .int h0_foundOffset, .int h0_downPlace, .int h0_downLimit, .int h0_downMost, .int h0_downOffset])), (h0_held, .inl (cB, h0_held_n, .inl h0_held_f)), (h0_before, .inl (cI, h0_before_n, .inl h0_before_f))] H → va_D A [(h0, .inr (8, [.ref h0_held, .ref h0_before, w_h0_latest, .int h0_count, .int h0_foundOffset, .int h0_downPlace, .int h0_downLimit, .int h0_downMost, .int h0_downOffset])), (h0_held, .inl (cB, h0_held_n, .inl h0_held_f)), (h0_before, .inl (cI, h0_before_n, .inl h0_before_f))] → va_S A s.heap H locs → lv_has ls 6 [(0, .ref h0), (1, .int a1), (2, .int a2), (3, .int s1)] → W p l e (rm_Text_reachDownward) s m ([.ref h0, .int a1, .int a2] : List Value).toArray below meth c H locs 0 0 Q (F0 m 50 ls [.int s2]) := by
      intro s2 H locs ls hf hP hD hS hl
      unfold m_Text_reachDownward_J50 at hf
      refine lv_istore (lv' := [(4, .int s2), (0, .ref h0), (1, .int a1), (2, .int a2), (3, .int s1)]) hx hb dX10_reachDownward_50 hl (by decide) rfl (fun ls hl => ?_)
      refine lv_iload hx hb dX10_reachDownward_52 (lv_at hl 0 rfl) ?_
      have hJ_71 : ∀ (s3 : Int32) (H : Heap) (locs : List Loc) (ls : Array Slot), m_Text_reachDownward_J71 a1 a2 h0_count h0_foundOffset h0_downMost h0_downOffset h0_held_n h0_held_f h0_before_n h0_before_f s1 s2 s3 = some (o_r, o_h0_foundOffset, o_h0_downPlace, o_h0_downLimit, o_h0_downMost, o_h0_downOffset) → va_P (dC, dI) vwCl [(h0, .inr (8, [.ref h0_held, .ref h0_before, w_h0_latest, .int h0_count, .int h0_foundOffset, .int h0_downPlace, .int h0_downLimit, .int h0_downMost, .int h0_downOffset])), (h0_held, .inl (cB, h0_held_n, .inl h0_held_f)), (h0_before, .inl (cI, h0_before_n, .inl h0_before_f))] H → va_D A [(h0, .inr (8, [.ref h0_held, .ref h0_before, w_h0_latest, .int h0_count, .int h0_foundOffset, .int h0_downPlace, .int h0_downLimit, .int h0_downMost, .int h0_downOffset])), (h0_held, .inl (cB, h0_held_n, .inl h0_held_f)), (h0_before, .inl (cI, h0_before_n, .inl h0_before_f))] → va_S A s.heap H locs → lv_has ls 6 [(0, .ref h0), (1, .int a1), (2, .int a2), (3, .int s1), (4, .int s2)] → W p l e (rm_Text_reachDownward) s m ([.ref h0, .int a1, .int a2] : List Value).toArray below meth c H locs 0 0 Q (F0 m 71 ls [.int s3]) := by
        intro s3 H locs ls hf hP hD hS hl
        unfold m_Text_reachDownward_J71 at hf
        refine lv_istore (lv' := [(5, .int s3), (0, .ref h0), (1, .int a1), (2, .int a2), (3, .int s1), (4, .int s2)]) hx hb dX10_reachDownward_71 hl (by decide) rfl (fun ls hl => ?_)
        refine lv_aload_n hx hb dX10_reachDownward_73 rfl (lv_at hl 1 rfl) ?_
        refine lv_iload_n hx hb dX10_reachDownward_74 rfl (lv_at hl 2 rfl) ?_
        refine va_put (D := (dC, dI)) (ci := 8) (v := .int a1) (ty := .int) (C := RX10) (T := TX10) (N := 9) hx hb hts inG_X10 tyX10 tyX10_ok nmX10 hown hK hP hD hS 0 rfl rfl 5 (by decide) (hts _ kw_134) (fun _ h9 => h9) rfl (by decide +kernel) rfl rfl (Nat.le_of_ble_eq_true rfl) dX10_reachDownward_75 (fun H locs hP hD hS => ?_)
        have hP : va_P (dC, dI) vwCl [(h0, .inr (8, [.ref h0_held, .ref h0_before, w_h0_latest, .int h0_count, .int h0_foundOffset, .int a1, .int h0_downLimit, .int h0_downMost, .int h0_downOffset])), (h0_held, .inl (cB, h0_held_n, .inl h0_held_f)), (h0_before, .inl (cI, h0_before_n, .inl h0_before_f))] H := hP
        have hD : va_D A [(h0, .inr (8, [.ref h0_held, .ref h0_before, w_h0_latest, .int h0_count, .int h0_foundOffset, .int a1, .int h0_downLimit, .int h0_downMost, .int h0_downOffset])), (h0_held, .inl (cB, h0_held_n, .inl h0_held_f)), (h0_before, .inl (cI, h0_before_n, .inl h0_before_f))] := hD
        refine lv_aload_n hx hb dX10_reachDownward_78 rfl (lv_at hl 1 rfl) ?_
        refine lv_iload_n hx hb dX10_reachDownward_79 rfl (lv_at hl 4 rfl) ?_
        have hJ_88 : ∀ (s4 : Int32) (H : Heap) (locs : List Loc) (ls : Array Slot), m_Text_reachDownward_J88 a1 h0_count h0_foundOffset h0_downMost h0_downOffset h0_held_n h0_held_f h0_before_n h0_before_f s1 s2 s3 s4 = some (o_r, o_h0_foundOffset, o_h0_downPlace, o_h0_downLimit, o_h0_downMost, o_h0_downOffset) → va_P (dC, dI) vwCl [(h0, .inr (8, [.ref h0_held, .ref h0_before, w_h0_latest, .int h0_count, .int h0_foundOffset, .int a1, .int h0_downLimit, .int h0_downMost, .int h0_downOffset])), (h0_held, .inl (cB, h0_held_n, .inl h0_held_f)), (h0_before, .inl (cI, h0_before_n, .inl h0_before_f))] H → va_D A [(h0, .inr (8, [.ref h0_held, .ref h0_before, w_h0_latest, .int h0_count, .int h0_foundOffset, .int a1, .int h0_downLimit, .int h0_downMost, .int h0_downOffset])), (h0_held, .inl (cB, h0_held_n, .inl h0_held_f)), (h0_before, .inl (cI, h0_before_n, .inl h0_before_f))] → va_S A s.heap H locs → lv_has ls 6 [(0, .ref h0), (1, .int a1), (3, .int s1), (4, .int s2), (5, .int s3)] → W p l e (rm_Text_reachDownward) s m ([.ref h0, .int a1, .int a2] : List Value).toArray below meth c H locs 0 0 Q (F0 m 88 ls [.int s4, .ref h0]) := by
          intro s4 H locs ls hf hP hD hS hl
          unfold m_Text_reachDownward_J88 at hf
          refine va_put (D := (dC, dI)) (ci := 8) (v := .int s4) (ty := .int) (C := RX10) (T := TX10) (N := 9) hx hb hts inG_X10 tyX10 tyX10_ok nmX10 hown hK hP hD hS 0 rfl rfl 6 (by decide) (hts _ kw_135) (fun _ h9 => h9) rfl (by decide +kernel) rfl rfl (Nat.le_of_ble_eq_true rfl) dX10_reachDownward_88 (fun H locs hP hD hS => ?_)
          have hP : va_P (dC, dI) vwCl [(h0, .inr (8, [.ref h0_held, .ref h0_before, w_h0_latest, .int h0_count, .int h0_foundOffset, .int a1, .int s4, .int h0_downMost, .int h0_downOffset])), (h0_held, .inl (cB, h0_held_n, .inl h0_held_f)), (h0_before, .inl (cI, h0_before_n, .inl h0_before_f))] H := hP
          have hD : va_D A [(h0, .inr (8, [.ref h0_held, .ref h0_before, w_h0_latest, .int h0_count, .int h0_foundOffset, .int a1, .int s4, .int h0_downMost, .int h0_downOffset])), (h0_held, .inl (cB, h0_held_n, .inl h0_held_f)), (h0_before, .inl (cI, h0_before_n, .inl h0_before_f))] := hD
          refine lv_iload_n hx hb dX10_reachDownward_91 rfl (lv_at hl 2 rfl) ?_
          refine lv_if_eq (tgt := 103) hx hb dX10_reachDownward_92 (by decide) (fun c_92 => ?_) (fun c_92 => ?_)
          · replace hf := if_t c_92 hf
            refine lv_iload hx hb dX10_reachDownward_103 (lv_at hl 3 rfl) ?_
            have hJ_132 : ∀ (H : Heap) (locs : List Loc) (ls : Array Slot), m_Text_reachDownward_J132 a1 h0_count h0_foundOffset h0_held_n h0_held_f h0_before_n h0_before_f s3 s4 = some (o_r, o_h0_foundOffset, o_h0_downPlace, o_h0_downLimit, o_h0_downMost, o_h0_downOffset) → va_P (dC, dI) vwCl [(h0, .inr (8, [.ref h0_held, .ref h0_before, w_h0_latest, .int h0_count, .int h0_foundOffset, .int a1, .int s4, .int h0_downMost, .int h0_downOffset])), (h0_held, .inl (cB, h0_held_n, .inl h0_held_f)), (h0_before, .inl (cI, h0_before_n, .inl h0_before_f))] H → va_D A [(h0, .inr (8, [.ref h0_held, .ref h0_before, w_h0_latest, .int h0_count, .int h0_foundOffset, .int a1, .int s4, .int h0_downMost, .int h0_downOffset])), (h0_held, .inl (cB, h0_held_n, .inl h0_held_f)), (h0_before, .inl (cI, h0_before_n, .inl h0_before_f))] → va_S A s.heap H locs → lv_has ls 6 [(0, .ref h0), (1, .int a1), (5, .int s3)] → W p l e (rm_Text_reachDownward) s m ([.ref h0, .int a1, .int a2] : List Value).toArray below meth c H locs 0 0 Q (F0 m 132 ls []) := by
              intro  H locs ls hf hP hD hS hl
              unfold m_Text_reachDownward_J132 at hf
              refine lv_aload_n hx hb dX10_reachDownward_132 rfl (lv_at hl 0 rfl) ?_
              refine lv_aload_n hx hb dX10_reachDownward_133 rfl (lv_at hl 0 rfl) ?_
              refine lv_iload_n hx hb dX10_reachDownward_134 rfl (lv_at hl 1 rfl) ?_
              refine lv_iload hx hb dX10_reachDownward_135 (lv_at hl 2 rfl) ?_
              refine lv_sipush (v := 5000) hx hb dX10_reachDownward_137 (by decide) ?_
              obtain ⟨x, hc, hf⟩ := bind_some hf
              obtain ⟨r5, u6⟩ := x
              dsimp only at hf
              refine nx_i (rn_V (As := [.int a1, .int s3, .int (5000 : Int32)]) (rest := [.ref h0]) (n := 3) (ci := 8) (q0 := 0) ⟨hx, hb, hml, hown, hts⟩ (c_Text_reach (l := l) (dC := dC) (dI := dI) (cB := cB) (cI := cI) (h0 := h0) (a1 := a1) (a2 := s3) (a3 := (5000 : Int32)) (h0_before := h0_before) (h0_held := h0_held) (w_h0_latest := (w_h0_latest)) (h0_count := h0_count) (h0_foundOffset := h0_foundOffset) (w_h0_downPlace := (.int a1)) (w_h0_downLimit := (.int s4)) (w_h0_downMost := (.int h0_downMost)) (w_h0_downOffset := (.int h0_downOffset)) (h0_before_n := h0_before_n) (h0_before_f := h0_before_f) (h0_held_n := h0_held_n) (h0_held_f := h0_held_f) (o_h0_foundOffset := u6) (o_r := r5) hc) (wV kw_539 kw_540 kw_541 kw_85 kw_542) (by decide +kernel) ⟨Nat.le_of_ble_eq_true rfl, Nat.le_of_ble_eq_true rfl⟩ hK hP hD hN hT hS (va_free (wc := [(h0, .inr (8, [.ref h0_held, .ref h0_before, w_h0_latest, .int h0_count, .int h0_foundOffset, .int a1, .int s4, .int h0_downMost, .int h0_downOffset])), (h0_before, .inl (cI, h0_before_n, .inl h0_before_f)), (h0_held, .inl (cB, h0_held_n, .inl h0_held_f))]) hD hS hA [0, 2, 1] rfl) [0, 2, 1] rfl (by decide) rfl rfl rfl hl.1 rfl (lv_room (Nat.le_of_ble_eq_true rfl)) dX10_reachDownward_140 ⟨Nat.le_of_ble_eq_true rfl, Nat.le_of_ble_eq_true rfl⟩) hP hD hS hA (wr := []) (w1 := [(h0, .inr (8, [.ref h0_held, .ref h0_before, w_h0_latest, .int h0_count, .int u6, .int a1, .int s4, .int h0_downMost, .int h0_downOffset])), (h0_before, .inl (cI, h0_before_n, .inl h0_before_f)), (h0_held, .inl (cB, h0_held_n, .inl h0_held_f))]) (ws' := [(h0, .inr (8, [.ref h0_held, .ref h0_before, w_h0_latest, .int h0_count, .int u6, .int a1, .int s4, .int h0_downMost, .int h0_downOffset])), (h0_held, .inl (cB, h0_held_n, .inl h0_held_f)), (h0_before, .inl (cI, h0_before_n, .inl h0_before_f))]) [0, 2, 1] [] [0, 2, 1] rfl rfl (by decide) (by decide) rfl (by decide) (fun H locs hP hD hS => ?_)
              refine va_put (D := (dC, dI)) (ci := 8) (v := .int r5) (ty := .int) (C := RX10) (T := TX10) (N := 9) hx hb hts inG_X10 tyX10 tyX10_ok nmX10 hown hK hP hD hS 0 rfl rfl 7 (by decide) (hts _ kw_136) (fun _ h9 => h9) rfl (by decide +kernel) rfl rfl (Nat.le_of_ble_eq_true rfl) dX10_reachDownward_143 (fun H locs hP hD hS => ?_)
              have hP : va_P (dC, dI) vwCl [(h0, .inr (8, [.ref h0_held, .ref h0_before, w_h0_latest, .int h0_count, .int u6, .int a1, .int s4, .int r5, .int h0_downOffset])), (h0_held, .inl (cB, h0_held_n, .inl h0_held_f)), (h0_before, .inl (cI, h0_before_n, .inl h0_before_f))] H := hP
              have hD : va_D A [(h0, .inr (8, [.ref h0_held, .ref h0_before, w_h0_latest, .int h0_count, .int u6, .int a1, .int s4, .int r5, .int h0_downOffset])), (h0_held, .inl (cB, h0_held_n, .inl h0_held_f)), (h0_before, .inl (cI, h0_before_n, .inl h0_before_f))] := hD
              refine lv_aload_n hx hb dX10_reachDownward_146 rfl (lv_at hl 0 rfl) ?_
              refine lv_aload_n hx hb dX10_reachDownward_147 rfl (lv_at hl 0 rfl) ?_
              refine va_get (D := (dC, dI)) (ci := 8) (v := .int u6) (C := RX10) (T := TX10) (N := 9) hx hb hts inG_X10 hown hK hP 0 rfl rfl 4 (by decide) (hts _ kw_133) (fun _ h9 => h9) rfl dX10_reachDownward_148 ?_
              refine va_put (D := (dC, dI)) (ci := 8) (v := .int u6) (ty := .int) (C := RX10) (T := TX10) (N := 9) hx hb hts inG_X10 tyX10 tyX10_ok nmX10 hown hK hP hD hS 0 rfl rfl 8 (by decide) (hts _ kw_137) (fun _ h9 => h9) rfl (by decide +kernel) rfl rfl (Nat.le_of_ble_eq_true rfl) dX10_reachDownward_151 (fun H locs hP hD hS => ?_)
              have hP : va_P (dC, dI) vwCl [(h0, .inr (8, [.ref h0_held, .ref h0_before, w_h0_latest, .int h0_count, .int u6, .int a1, .int s4, .int r5, .int u6])), (h0_held, .inl (cB, h0_held_n, .inl h0_held_f)), (h0_before, .inl (cI, h0_before_n, .inl h0_before_f))] H := hP
              have hD : va_D A [(h0, .inr (8, [.ref h0_held, .ref h0_before, w_h0_latest, .int h0_count, .int u6, .int a1, .int s4, .int r5, .int u6])), (h0_held, .inl (cB, h0_held_n, .inl h0_held_f)), (h0_before, .inl (cI, h0_before_n, .inl h0_before_f))] := hD
              refine lv_aload_n hx hb dX10_reachDownward_154 rfl (lv_at hl 0 rfl) ?_
              refine va_get (D := (dC, dI)) (ci := 8) (v := .int r5) (C := RX10) (T := TX10) (N := 9) hx hb hts inG_X10 hown hK hP 0 rfl rfl 7 (by decide) (hts _ kw_136) (fun _ h9 => h9) rfl dX10_reachDownward_155 ?_
              obtain ⟨rfl, hq_1⟩ := Prod.mk.inj (Option.some.inj hf)
              obtain ⟨rfl, hq_2⟩ := Prod.mk.inj hq_1
              obtain ⟨rfl, hq_3⟩ := Prod.mk.inj hq_2
              obtain ⟨rfl, hq_4⟩ := Prod.mk.inj hq_3
              obtain ⟨rfl, hq_5⟩ := Prod.mk.inj hq_4
              obtain rfl := hq_5
              exact rt_i hQ hx hb hr hlocks hP hD hS dX10_reachDownward_158
            refine lv_if_eq (tgt := 132) hx hb dX10_reachDownward_105 (by decide) (fun c_105 => ?_) (fun c_105 => ?_)
            · replace hf := if_t c_105 hf
              exact hJ_132  _ _ _ hf hP hD hS (lv_sub hl [0, 1, 4] rfl)
            · replace hf := if_f c_105 hf
              refine lv_aload_n hx hb dX10_reachDownward_108 rfl (lv_at hl 0 rfl) ?_
              refine va_get (D := (dC, dI)) (ci := 8) (v := .int h0_downMost) (C := RX10) (T := TX10) (N := 9) hx hb hts inG_X10 hown hK hP 0 rfl rfl 7 (by decide) (hts _ kw_136) (fun _ h9 => h9) rfl dX10_reachDownward_109 ?_
              refine lv_if_le (tgt := 132) hx hb dX10_reachDownward_112 (by decide) (fun c_112 => ?_) (fun c_112 => ?_)
              · replace hf := if_t c_112 hf
                exact hJ_132  _ _ _ hf hP hD hS (lv_sub hl [0, 1, 4] rfl)
              · replace hf := if_f c_112 hf
                refine lv_aload_n hx hb dX10_reachDownward_115 rfl (lv_at hl 0 rfl) ?_
                refine lv_iload_n hx hb dX10_reachDownward_116 rfl (lv_at hl 1 rfl) ?_
                obtain ⟨r7, hc, hf⟩ := bind_some hf
                refine nx_i (rn_V (As := [.int a1]) (rest := []) (n := 1) (ci := 8) (q0 := 0) ⟨hx, hb, hml, hown, hts⟩ (c_Text_goesOn (l := l) (dC := dC) (dI := dI) (cB := cB) (cI := cI) (h0 := h0) (a1 := a1) (h0_held := h0_held) (w_h0_before := (.ref h0_before)) (w_h0_latest := (w_h0_latest)) (w_h0_count := (.int h0_count)) (w_h0_foundOffset := (.int h0_foundOffset)) (w_h0_downPlace := (.int a1)) (w_h0_downLimit := (.int s4)) (w_h0_downMost := (.int h0_downMost)) (h0_downOffset := h0_downOffset) (h0_held_n := h0_held_n) (h0_held_f := h0_held_f)  (o_r := r7) hc) (wV kw_535 kw_537 kw_4 kw_85 kw_538) (by decide +kernel) ⟨Nat.le_of_ble_eq_true rfl, Nat.le_of_ble_eq_true rfl⟩ hK hP hD hN hT hS (va_free (wc := [(h0, .inr (8, [.ref h0_held, .ref h0_before, w_h0_latest, .int h0_count, .int h0_foundOffset, .int a1, .int s4, .int h0_downMost, .int h0_downOffset])), (h0_held, .inl (cB, h0_held_n, .inl h0_held_f))]) hD hS hA [0, 1] rfl) [0, 1] rfl (by decide) rfl rfl rfl hl.1 rfl (lv_room (Nat.le_of_ble_eq_true rfl)) dX10_reachDownward_117 ⟨Nat.le_of_ble_eq_true rfl, Nat.le_of_ble_eq_true rfl⟩) hP hD hS hA (wr := [(h0_before, .inl (cI, h0_before_n, .inl h0_before_f))]) (w1 := [(h0, .inr (8, [.ref h0_held, .ref h0_before, w_h0_latest, .int h0_count, .int h0_foundOffset, .int a1, .int s4, .int h0_downMost, .int h0_downOffset])), (h0_held, .inl (cB, h0_held_n, .inl h0_held_f))]) (ws' := [(h0, .inr (8, [.ref h0_held, .ref h0_before, w_h0_latest, .int h0_count, .int h0_foundOffset, .int a1, .int s4, .int h0_downMost, .int h0_downOffset])), (h0_held, .inl (cB, h0_held_n, .inl h0_held_f)), (h0_before, .inl (cI, h0_before_n, .inl h0_before_f))]) [0, 1] [2] [1, 2, 0] rfl rfl (by decide) (by decide) rfl (by decide) (fun H locs hP hD hS => ?_)
                refine lv_if_eq (tgt := 132) hx hb dX10_reachDownward_120 (by decide) (fun c_120 => ?_) (fun c_120 => ?_)
                · replace hf := if_t c_120 hf
                  exact hJ_132  _ _ _ hf hP hD hS (lv_sub hl [0, 1, 4] rfl)
                · replace hf := if_f c_120 hf
                  refine lv_aload_n hx hb dX10_reachDownward_123 rfl (lv_at hl 0 rfl) ?_
                  refine lv_iload hx hb dX10_reachDownward_124 (lv_at hl 4 rfl) ?_
                  refine va_put (D := (dC, dI)) (ci := 8) (v := .int s3) (ty := .int) (C := RX10) (T := TX10) (N := 9) hx hb hts inG_X10 tyX10 tyX10_ok nmX10 hown hK hP hD hS 0 rfl rfl 7 (by decide) (hts _ kw_136) (fun _ h9 => h9) rfl (by decide +kernel) rfl rfl (Nat.le_of_ble_eq_true rfl) dX10_reachDownward_126 (fun H locs hP hD hS => ?_)
                  have hP : va_P (dC, dI) vwCl [(h0, .inr (8, [.ref h0_held, .ref h0_before, w_h0_latest, .int h0_count, .int h0_foundOffset, .int a1, .int s4, .int s3, .int h0_downOffset])), (h0_held, .inl (cB, h0_held_n, .inl h0_held_f)), (h0_before, .inl (cI, h0_before_n, .inl h0_before_f))] H := hP
                  have hD : va_D A [(h0, .inr (8, [.ref h0_held, .ref h0_before, w_h0_latest, .int h0_count, .int h0_foundOffset, .int a1, .int s4, .int s3, .int h0_downOffset])), (h0_held, .inl (cB, h0_held_n, .inl h0_held_f)), (h0_before, .inl (cI, h0_before_n, .inl h0_before_f))] := hD
                  refine lv_goto (tgt := 154) hx hb dX10_reachDownward_129 (by decide) ?_
                  refine lv_aload_n hx hb dX10_reachDownward_154 rfl (lv_at hl 0 rfl) ?_
                  refine va_get (D := (dC, dI)) (ci := 8) (v := .int s3) (C := RX10) (T := TX10) (N := 9) hx hb hts inG_X10 hown hK hP 0 rfl rfl 7 (by decide) (hts _ kw_136) (fun _ h9 => h9) rfl dX10_reachDownward_155 ?_
                  obtain ⟨rfl, hq_1⟩ := Prod.mk.inj (Option.some.inj hf)
                  obtain ⟨rfl, hq_2⟩ := Prod.mk.inj hq_1
                  obtain ⟨rfl, hq_3⟩ := Prod.mk.inj hq_2
                  obtain ⟨rfl, hq_4⟩ := Prod.mk.inj hq_3
                  obtain ⟨rfl, hq_5⟩ := Prod.mk.inj hq_4
                  obtain rfl := hq_5
                  exact rt_i hQ hx hb hr hlocks hP hD hS dX10_reachDownward_158
          · replace hf := if_f c_92 hf
            refine lv_aload_n hx hb dX10_reachDownward_95 rfl (lv_at hl 0 rfl) ?_
            refine lv_iconst (v := 0) hx hb dX10_reachDownward_96 (by decide) ?_
            refine va_put (D := (dC, dI)) (ci := 8) (v := .int (0 : Int32)) (ty := .int) (C := RX10) (T := TX10) (N := 9) hx hb hts inG_X10 tyX10 tyX10_ok nmX10 hown hK hP hD hS 0 rfl rfl 7 (by decide) (hts _ kw_136) (fun _ h9 => h9) rfl (by decide +kernel) rfl rfl (Nat.le_of_ble_eq_true rfl) dX10_reachDownward_97 (fun H locs hP hD hS => ?_)
            have hP : va_P (dC, dI) vwCl [(h0, .inr (8, [.ref h0_held, .ref h0_before, w_h0_latest, .int h0_count, .int h0_foundOffset, .int a1, .int s4, .int (0 : Int32), .int h0_downOffset])), (h0_held, .inl (cB, h0_held_n, .inl h0_held_f)), (h0_before, .inl (cI, h0_before_n, .inl h0_before_f))] H := hP
            have hD : va_D A [(h0, .inr (8, [.ref h0_held, .ref h0_before, w_h0_latest, .int h0_count, .int h0_foundOffset, .int a1, .int s4, .int (0 : Int32), .int h0_downOffset])), (h0_held, .inl (cB, h0_held_n, .inl h0_held_f)), (h0_before, .inl (cI, h0_before_n, .inl h0_before_f))] := hD
            refine lv_goto (tgt := 154) hx hb dX10_reachDownward_100 (by decide) ?_
            refine lv_aload_n hx hb dX10_reachDownward_154 rfl (lv_at hl 0 rfl) ?_
            refine va_get (D := (dC, dI)) (ci := 8) (v := .int (0 : Int32)) (C := RX10) (T := TX10) (N := 9) hx hb hts inG_X10 hown hK hP 0 rfl rfl 7 (by decide) (hts _ kw_136) (fun _ h9 => h9) rfl dX10_reachDownward_155 ?_
            obtain ⟨rfl, hq_1⟩ := Prod.mk.inj (Option.some.inj hf)
            obtain ⟨rfl, hq_2⟩ := Prod.mk.inj hq_1
            obtain ⟨rfl, hq_3⟩ := Prod.mk.inj hq_2
            obtain ⟨rfl, hq_4⟩ := Prod.mk.inj hq_3
            obtain ⟨rfl, hq_5⟩ := Prod.mk.inj hq_4
            obtain rfl := hq_5
            exact rt_i hQ hx hb hr hlocks hP hD hS dX10_reachDownward_158
        refine lv_if_eq (tgt := 87) hx hb dX10_reachDownward_80 (by decide) (fun c_80 => ?_) (fun c_80 => ?_)
        · replace hf := if_t c_80 hf
          refine lv_iload_n hx hb dX10_reachDownward_87 rfl (lv_at hl 3 rfl) ?_
          exact hJ_88 a2 _ _ _ hf hP hD hS (lv_sub hl [1, 2, 4, 5, 0] rfl)
        · replace hf := if_f c_80 hf
          refine lv_iconst (v := 0) hx hb dX10_reachDownward_83 (by decide) ?_
          refine lv_goto (tgt := 88) hx hb dX10_reachDownward_84 (by decide) ?_
          exact hJ_88 (0 : Int32) _ _ _ hf hP hD hS (lv_sub hl [1, 2, 4, 5, 0] rfl)
      refine lv_if_eq (tgt := 70) hx hb dX10_reachDownward_54 (by decide) (fun c_54 => ?_) (fun c_54 => ?_)
      · replace hf := if_t c_54 hf
        refine lv_iload_n hx hb dX10_reachDownward_70 rfl (lv_at hl 3 rfl) ?_
        exact hJ_71 a2 _ _ _ hf hP hD hS (lv_sub hl [1, 2, 3, 4, 0] rfl)
      · replace hf := if_f c_54 hf
        refine lv_iload_n hx hb dX10_reachDownward_57 rfl (lv_at hl 3 rfl) ?_
        refine lv_aload_n hx hb dX10_reachDownward_58 rfl (lv_at hl 1 rfl) ?_
        refine va_get (D := (dC, dI)) (ci := 8) (v := .int h0_downMost) (C := RX10) (T := TX10) (N := 9) hx hb hts inG_X10 hown hK hP 0 rfl rfl 7 (by decide) (hts _ kw_136) (fun _ h9 => h9) rfl dX10_reachDownward_59 ?_
        refine lv_iconst (v := 1) hx hb dX10_reachDownward_62 (by decide) ?_
        refine lv_iadd hx hb dX10_reachDownward_63 ?_
        refine va_mmin hx hb (hml.trans hl.1.symm) hown (hts _ kw_534) (hts _ kw_488) (hts _ kw_84) (hts _ kw_489) (Nat.le_of_ble_eq_true rfl) (Nat.le_of_ble_eq_true rfl) (Nat.le_of_ble_eq_true rfl) (Nat.le_of_ble_eq_true rfl) dX10_reachDownward_64 ?_
        refine lv_goto (tgt := 71) hx hb dX10_reachDownward_67 (by decide) ?_
        exact hJ_71 (imin a2 (h0_downMost + (1 : Int32))) _ _ _ hf hP hD hS (lv_sub hl [1, 2, 3, 4, 0] rfl)
    refine lv_icmp_ne (tgt := 49) hx hb dX10_reachDownward_32 (by decide) (fun c_32 => ?_) (fun c_32 => ?_)
    · replace hf := if_f c_32 hf
      refine lv_iconst (v := 0) hx hb dX10_reachDownward_49 (by decide) ?_
      exact hJ_50 (0 : Int32) _ _ _ hf hP hD hS (lv_sub hl [1, 2, 3, 0] rfl)
    · replace hf := if_t c_32 hf
      refine lv_iload_n hx hb dX10_reachDownward_35 rfl (lv_at hl 3 rfl) ?_
      refine lv_aload_n hx hb dX10_reachDownward_36 rfl (lv_at hl 1 rfl) ?_
      refine va_get (D := (dC, dI)) (ci := 8) (v := .int h0_downLimit) (C := RX10) (T := TX10) (N := 9) hx hb hts inG_X10 hown hK hP 0 rfl rfl 6 (by decide) (hts _ kw_135) (fun _ h9 => h9) rfl dX10_reachDownward_37 ?_
      refine lv_iconst (v := 1) hx hb dX10_reachDownward_40 (by decide) ?_
      refine lv_iadd hx hb dX10_reachDownward_41 ?_
      refine lv_icmp_gt (tgt := 49) hx hb dX10_reachDownward_42 (by decide) (fun c_42 => ?_) (fun c_42 => ?_)
      · replace hf := if_t c_42 hf
        refine lv_iconst (v := 0) hx hb dX10_reachDownward_49 (by decide) ?_
        exact hJ_50 (0 : Int32) _ _ _ hf hP hD hS (lv_sub hl [1, 2, 3, 0] rfl)
      · replace hf := if_f c_42 hf
        refine lv_iconst (v := 1) hx hb dX10_reachDownward_45 (by decide) ?_
        refine lv_goto (tgt := 50) hx hb dX10_reachDownward_46 (by decide) ?_
        exact hJ_50 (1 : Int32) _ _ _ hf hP hD hS (lv_sub hl [1, 2, 3, 0] rfl)
  refine lv_if_lt (tgt := 19) hx hb dX10_reachDownward_1 (by decide) (fun c_1 => ?_) (fun c_1 => ?_)
  · replace hf := if_t c_1 hf
    refine lv_iconst (v := 1) hx hb dX10_reachDownward_19 (by decide) ?_
    refine lv_goto (tgt := 24) hx hb dX10_reachDownward_20 (by decide) ?_
    exact hJ_24 (1 : Int32) _ _ _ hf hP hD hS (lv_sub hl [0, 1, 2] rfl)
  · replace hf := if_f c_1 hf
    refine lv_iload_n hx hb dX10_reachDownward_4 rfl (lv_at hl 2 rfl) ?_
    refine lv_iconst (v := 1) hx hb dX10_reachDownward_5 (by decide) ?_
    refine lv_icmp_lt (tgt := 19) hx hb dX10_reachDownward_6 (by decide) (fun c_6 => ?_) (fun c_6 => ?_)
    · replace hf := if_t c_6 hf
      refine lv_iconst (v := 1) hx hb dX10_reachDownward_19 (by decide) ?_
      refine lv_goto (tgt := 24) hx hb dX10_reachDownward_20 (by decide) ?_
      exact hJ_24 (1 : Int32) _ _ _ hf hP hD hS (lv_sub hl [0, 1, 2] rfl)
    · replace hf := if_f c_6 hf
      refine lv_iload_n hx hb dX10_reachDownward_9 rfl (lv_at hl 2 rfl) ?_
      refine lv_aload_n hx hb dX10_reachDownward_10 rfl (lv_at hl 0 rfl) ?_
      refine va_get (D := (dC, dI)) (ci := 8) (v := .int h0_count) (C := RX10) (T := TX10) (N := 9) hx hb hts inG_X10 hown hK hP 0 rfl rfl 3 (by decide) (hts _ kw_132) (fun _ h9 => h9) rfl dX10_reachDownward_11 ?_
      refine lv_iload_n hx hb dX10_reachDownward_14 rfl (lv_at hl 1 rfl) ?_
      refine lv_isub hx hb dX10_reachDownward_15 ?_
      refine lv_icmp_le (tgt := 23) hx hb dX10_reachDownward_16 (by decide) (fun c_16 => ?_) (fun c_16 => ?_)
      · replace hf := if_t c_16 hf
        refine lv_iconst (v := 0) hx hb dX10_reachDownward_23 (by decide) ?_
        exact hJ_24 (0 : Int32) _ _ _ hf hP hD hS (lv_sub hl [0, 1, 2] rfl)
      · replace hf := if_f c_16 hf
        refine lv_iconst (v := 1) hx hb dX10_reachDownward_19 (by decide) ?_
        refine lv_goto (tgt := 24) hx hb dX10_reachDownward_20 (by decide) ?_
        exact hJ_24 (1 : Int32) _ _ _ hf hP hD hS (lv_sub hl [0, 1, 2] rfl)

theorem dX10_alike_0 : decode cX10_alike 0 = .ok (.iconst 0, 1) := by decide +kernel
theorem dX10_alike_1 : decode cX10_alike 1 = .ok (.istore 4, 2) := by decide +kernel
theorem dX10_alike_3 : decode cX10_alike 3 = .ok (.iload 4, 2) := by decide +kernel
theorem dX10_alike_5 : decode cX10_alike 5 = .ok (.iload_n 3, 1) := by decide +kernel
theorem dX10_alike_6 : decode cX10_alike 6 = .ok (.if_icmp .ge 30, 3) := by decide +kernel
theorem dX10_alike_9 : decode cX10_alike 9 = .ok (.aload_n 0, 1) := by decide +kernel
theorem dX10_alike_10 : decode cX10_alike 10 = .ok (.getfield 11, 3) := by decide +kernel
theorem dX10_alike_13 : decode cX10_alike 13 = .ok (.iload_n 1, 1) := by decide +kernel
theorem dX10_alike_14 : decode cX10_alike 14 = .ok (.iload 4, 2) := by decide +kernel
theorem dX10_alike_16 : decode cX10_alike 16 = .ok (.iadd, 1) := by decide +kernel
theorem dX10_alike_17 : decode cX10_alike 17 = .ok (.baload, 1) := by decide +kernel
theorem dX10_alike_18 : decode cX10_alike 18 = .ok (.aload_n 0, 1) := by decide +kernel
theorem dX10_alike_19 : decode cX10_alike 19 = .ok (.getfield 11, 3) := by decide +kernel
theorem dX10_alike_22 : decode cX10_alike 22 = .ok (.iload_n 2, 1) := by decide +kernel
theorem dX10_alike_23 : decode cX10_alike 23 = .ok (.iload 4, 2) := by decide +kernel
theorem dX10_alike_25 : decode cX10_alike 25 = .ok (.iadd, 1) := by decide +kernel
theorem dX10_alike_26 : decode cX10_alike 26 = .ok (.baload, 1) := by decide +kernel
theorem dX10_alike_27 : decode cX10_alike 27 = .ok (.if_icmp .ne 9, 3) := by decide +kernel
theorem dX10_alike_30 : decode cX10_alike 30 = .ok (.iinc 4 1, 3) := by decide +kernel
theorem dX10_alike_33 : decode cX10_alike 33 = .ok (.goto (-30), 3) := by decide +kernel
theorem dX10_alike_36 : decode cX10_alike 36 = .ok (.iload 4, 2) := by decide +kernel
theorem dX10_alike_38 : decode cX10_alike 38 = .ok (.ireturn, 1) := by decide +kernel
def m_Text_alike_E36 (j4_1 : Int32) : Option (Int32) :=
  some j4_1
def m_Text_alike_B3 (a1 : Int32) (a2 : Int32) (a3 : Int32) (h0_held_n : Nat) (h0_held_f : Nat → Int32) (j4_2 : Int32) : Option ((Int32) ⊕ ((Int32))) :=
  if a3 ≤ j4_2 then
    some (.inr j4_2)
  else
    chk (a1 + j4_2) h0_held_n <|
    chk (a2 + j4_2) h0_held_n <|
    if (h0_held_f (a1 + j4_2).toNatClampNeg) = (h0_held_f (a2 + j4_2).toNatClampNeg) then
      bnd (j4_2 + (1 : Int32)) fun v4_3 =>
      some (.inl v4_3)
    else
      some (.inr j4_2)
def m_Text_alike (a1 : Int32) (a2 : Int32) (a3 : Int32) (h0_held_n : Nat) (h0_held_f : Nat → Int32) : Option (Int32) :=
  (iter (fun st => m_Text_alike_B3 a1 a2 a3 h0_held_n h0_held_f st) FU (0 : Int32)).bind fun o => m_Text_alike_E36 o
def rm_Text_alike : Room := { frames := 0, cells := 0, slots := 0, locals := 0 }
set_option maxHeartbeats 4000000 in
set_option maxRecDepth 100000 in
theorem c_Text_alike {l : Launch} {dC : Nat → ClassId} {dI : Nat → Nat → Nat} {cB cI : ClassId} {sz : Nat} {h0 : Nat} {a1 : Int32} {a2 : Int32} {a3 : Int32} {h0_held : Nat} {w_h0_before : Value} {w_h0_latest : Value} {w_h0_count : Value} {w_h0_foundOffset : Value} {w_h0_downPlace : Value} {w_h0_downLimit : Value} {w_h0_downMost : Value} {w_h0_downOffset : Value} {h0_held_n : Nat} {h0_held_f : Nat → Int32} {o_r : Int32} (hf : m_Text_alike a1 a2 a3 h0_held_n h0_held_f = some o_r) : Met l yX10_alike (Cond.code yX10_alike cX10_alike 5 (some .int) :: lw_G) rm_Text_alike (PreC (dC, dI) [(cB, .byte), (cI, .int)] [.ref h0, .int a1, .int a2, .int a3] sz [(h0, .inr (8, [.ref h0_held, w_h0_before, w_h0_latest, w_h0_count, w_h0_foundOffset, w_h0_downPlace, w_h0_downLimit, w_h0_downMost, w_h0_downOffset])), (h0_held, .inl (cB, h0_held_n, .inl h0_held_f))]) (QcI o_r (dC, dI) [(h0, .inr (8, [.ref h0_held, w_h0_before, w_h0_latest, w_h0_count, w_h0_foundOffset, w_h0_downPlace, w_h0_downLimit, w_h0_downMost, w_h0_downOffset])), (h0_held, .inl (cB, h0_held_n, .inl h0_held_f))] (va_A [(h0, .inr (8, [.ref h0_held, w_h0_before, w_h0_latest, w_h0_count, w_h0_foundOffset, w_h0_downPlace, w_h0_downLimit, w_h0_downMost, w_h0_downOffset])), (h0_held, .inl (cB, h0_held_n, .inl h0_held_f))] sz)) 0 0 (va_A [(h0, .inr (8, [.ref h0_held, w_h0_before, w_h0_latest, w_h0_count, w_h0_foundOffset, w_h0_downPlace, w_h0_downLimit, w_h0_downMost, w_h0_downOffset])), (h0_held, .inl (cB, h0_held_n, .inl h0_held_f))] sz) := by
  refine met_of (Qf := fun A => QcI o_r (dC, dI) [(h0, .inr (8, [.ref h0_held, w_h0_before, w_h0_latest, w_h0_count, w_h0_foundOffset, w_h0_downPlace, w_h0_downLimit, w_h0_downMost, w_h0_downOffset])), (h0_held, .inl (cB, h0_held_n, .inl h0_held_f))] A) (by decide) (Nat.le_of_ble_eq_true rfl) ?_
  intro p e s m below meth c A ls Q hx hb hr hml hown hts hlocks hnm hP hK hD hN hT hA hl hQ
  have hown : s.vm.findClass RX10 = some m.cls := hown
  have hS : va_S A s.heap s.heap [] := va_S.rf
  have hl : lv_has ls 5 [(0, .ref h0), (1, .int a1), (2, .int a2), (3, .int a3)] := hl
  unfold m_Text_alike at hf
  refine lv_iconst (v := 0) hx hb dX10_alike_0 (by decide) ?_
  refine lv_istore (lv' := [(4, .int (0 : Int32)), (0, .ref h0), (1, .int a1), (2, .int a2), (3, .int a3)]) hx hb dX10_alike_1 hl (by decide) rfl (fun ls hl => ?_)
  have hJ_36 : ∀ (j4_1 : Int32) (H : Heap) (locs : List Loc) (ls : Array Slot), m_Text_alike_E36 j4_1 = some o_r → va_P (dC, dI) vwCl [(h0, .inr (8, [.ref h0_held, w_h0_before, w_h0_latest, w_h0_count, w_h0_foundOffset, w_h0_downPlace, w_h0_downLimit, w_h0_downMost, w_h0_downOffset])), (h0_held, .inl (cB, h0_held_n, .inl h0_held_f))] H → va_D A [(h0, .inr (8, [.ref h0_held, w_h0_before, w_h0_latest, w_h0_count, w_h0_foundOffset, w_h0_downPlace, w_h0_downLimit, w_h0_downMost, w_h0_downOffset])), (h0_held, .inl (cB, h0_held_n, .inl h0_held_f))] → va_S A s.heap H locs → lv_has ls 5 [(4, .int j4_1)] → W p l e (rm_Text_alike) s m ([.ref h0, .int a1, .int a2, .int a3] : List Value).toArray below meth c H locs 0 0 Q (F0 m 36 ls []) := by
    intro j4_1 H locs ls hf hP hD hS hl
    unfold m_Text_alike_E36 at hf
    refine lv_iload hx hb dX10_alike_36 (lv_at hl 0 rfl) ?_
    obtain rfl := Option.some.inj hf
    exact rt_i hQ hx hb hr hlocks hP hD hS dX10_alike_38
  obtain ⟨o_3, hi_3, hk_3⟩ := bind_some hf
  have hL_3 : ∀ (n : Nat) (j4_2 : Int32) (H : Heap) (locs : List Loc) (ls : Array Slot), iter (fun st => m_Text_alike_B3 a1 a2 a3 h0_held_n h0_held_f st) n j4_2 = some o_3 → va_P (dC, dI) vwCl [(h0, .inr (8, [.ref h0_held, w_h0_before, w_h0_latest, w_h0_count, w_h0_foundOffset, w_h0_downPlace, w_h0_downLimit, w_h0_downMost, w_h0_downOffset])), (h0_held, .inl (cB, h0_held_n, .inl h0_held_f))] H → va_D A [(h0, .inr (8, [.ref h0_held, w_h0_before, w_h0_latest, w_h0_count, w_h0_foundOffset, w_h0_downPlace, w_h0_downLimit, w_h0_downMost, w_h0_downOffset])), (h0_held, .inl (cB, h0_held_n, .inl h0_held_f))] → va_S A s.heap H locs → lv_has ls 5 [(0, .ref h0), (1, .int a1), (2, .int a2), (3, .int a3), (4, .int j4_2)] → W p l e (rm_Text_alike) s m ([.ref h0, .int a1, .int a2, .int a3] : List Value).toArray below meth c H locs 0 0 Q (F0 m 3 ls []) := by
    intro n
    induction n with
    | zero => intro j4_2 H locs ls hf; exact absurd hf (fun z => by cases z)
    | succ n ih_3 =>
      intro j4_2 H locs ls hf hP hD hS hl
      obtain ⟨r_3, hf, hr_3⟩ := iter_succ hf
      have hf : m_Text_alike_B3 a1 a2 a3 h0_held_n h0_held_f j4_2 = some r_3 := hf
      unfold m_Text_alike_B3 at hf
      refine lv_iload hx hb dX10_alike_3 (lv_at hl 4 rfl) ?_
      refine lv_iload_n hx hb dX10_alike_5 rfl (lv_at hl 3 rfl) ?_
      refine lv_icmp_ge (tgt := 36) hx hb dX10_alike_6 (by decide) (fun c_6 => ?_) (fun c_6 => ?_)
      · replace hf := if_t c_6 hf
        have hf : m_Text_alike_E36 j4_2 = some o_r := by have hq := hk_3; rw [iter_exit hf hr_3] at hq; exact hq
        exact hJ_36 j4_2 _ _ _ hf hP hD hS (lv_sub hl [4] rfl)
      · replace hf := if_f c_6 hf
        refine lv_aload_n hx hb dX10_alike_9 rfl (lv_at hl 0 rfl) ?_
        refine va_get (D := (dC, dI)) (ci := 8) (v := .ref h0_held) (C := RX10) (T := TX10) (N := 9) hx hb hts inG_X10 hown hK hP 0 rfl rfl 0 (by decide) (hts _ kw_129) (fun _ h9 => h9) rfl dX10_alike_10 ?_
        refine lv_iload_n hx hb dX10_alike_13 rfl (lv_at hl 1 rfl) ?_
        refine lv_iload hx hb dX10_alike_14 (lv_at hl 4 rfl) ?_
        refine lv_iadd hx hb dX10_alike_16 ?_
        obtain ⟨hin, hf⟩ := chk_some hf
        refine va_bald hx hb hK hP 1 0 rfl rfl hin dX10_alike_17 ?_
        refine lv_aload_n hx hb dX10_alike_18 rfl (lv_at hl 0 rfl) ?_
        refine va_get (D := (dC, dI)) (ci := 8) (v := .ref h0_held) (C := RX10) (T := TX10) (N := 9) hx hb hts inG_X10 hown hK hP 0 rfl rfl 0 (by decide) (hts _ kw_129) (fun _ h9 => h9) rfl dX10_alike_19 ?_
        refine lv_iload_n hx hb dX10_alike_22 rfl (lv_at hl 2 rfl) ?_
        refine lv_iload hx hb dX10_alike_23 (lv_at hl 4 rfl) ?_
        refine lv_iadd hx hb dX10_alike_25 ?_
        obtain ⟨hin, hf⟩ := chk_some hf
        refine va_bald hx hb hK hP 1 0 rfl rfl hin dX10_alike_26 ?_
        refine lv_icmp_ne (tgt := 36) hx hb dX10_alike_27 (by decide) (fun c_27 => ?_) (fun c_27 => ?_)
        · replace hf := if_f c_27 hf
          have hf : m_Text_alike_E36 j4_2 = some o_r := by have hq := hk_3; rw [iter_exit hf hr_3] at hq; exact hq
          exact hJ_36 j4_2 _ _ _ hf hP hD hS (lv_sub hl [4] rfl)
        · replace hf := if_t c_27 hf
          obtain ⟨v4_3, e_v4_3⟩ : ∃ y : Int32, y = (j4_2 + (1 : Int32)) := ⟨_, rfl⟩
          replace hf := bnd_at e_v4_3 hf
          refine lv_iinc (v := v4_3) (lv' := [(4, .int v4_3), (0, .ref h0), (1, .int a1), (2, .int a2), (3, .int a3)]) hx hb dX10_alike_30 hl (k := 4) rfl (by rw [e_v4_3]; rfl) (by decide) rfl (fun ls hl => ?_)
          refine lv_goto (tgt := 3) hx hb dX10_alike_33 (by decide) ?_
          exact ih_3 v4_3 _ _ _ (iter_back hf hr_3) hP hD hS (lv_sub hl [1, 2, 3, 4, 0] rfl)
  exact hL_3 FU (0 : Int32) _ _ _ hi_3 hP hD hS (lv_sub hl [1, 2, 3, 4, 0] rfl)

theorem dX10_offsetOf_0 : decode cX10_offsetOf 0 = .ok (.iload_n 1, 1) := by decide +kernel
theorem dX10_offsetOf_1 : decode cX10_offsetOf 1 = .ok (.ifCond .lt 18, 3) := by decide +kernel
theorem dX10_offsetOf_4 : decode cX10_offsetOf 4 = .ok (.iload_n 2, 1) := by decide +kernel
theorem dX10_offsetOf_5 : decode cX10_offsetOf 5 = .ok (.iconst 1, 1) := by decide +kernel
theorem dX10_offsetOf_6 : decode cX10_offsetOf 6 = .ok (.if_icmp .lt 13, 3) := by decide +kernel
theorem dX10_offsetOf_9 : decode cX10_offsetOf 9 = .ok (.iload_n 2, 1) := by decide +kernel
theorem dX10_offsetOf_10 : decode cX10_offsetOf 10 = .ok (.aload_n 0, 1) := by decide +kernel
theorem dX10_offsetOf_11 : decode cX10_offsetOf 11 = .ok (.getfield 35, 3) := by decide +kernel
theorem dX10_offsetOf_14 : decode cX10_offsetOf 14 = .ok (.iload_n 1, 1) := by decide +kernel
theorem dX10_offsetOf_15 : decode cX10_offsetOf 15 = .ok (.isub, 1) := by decide +kernel
theorem dX10_offsetOf_16 : decode cX10_offsetOf 16 = .ok (.if_icmp .le 5, 3) := by decide +kernel
theorem dX10_offsetOf_19 : decode cX10_offsetOf 19 = .ok (.iconst 0, 1) := by decide +kernel
theorem dX10_offsetOf_20 : decode cX10_offsetOf 20 = .ok (.ireturn, 1) := by decide +kernel
theorem dX10_offsetOf_21 : decode cX10_offsetOf 21 = .ok (.aload_n 0, 1) := by decide +kernel
theorem dX10_offsetOf_22 : decode cX10_offsetOf 22 = .ok (.getfield 15, 3) := by decide +kernel
theorem dX10_offsetOf_25 : decode cX10_offsetOf 25 = .ok (.iload_n 1, 1) := by decide +kernel
theorem dX10_offsetOf_26 : decode cX10_offsetOf 26 = .ok (.iaload, 1) := by decide +kernel
theorem dX10_offsetOf_27 : decode cX10_offsetOf 27 = .ok (.istore_n 3, 1) := by decide +kernel
theorem dX10_offsetOf_28 : decode cX10_offsetOf 28 = .ok (.iconst 0, 1) := by decide +kernel
theorem dX10_offsetOf_29 : decode cX10_offsetOf 29 = .ok (.istore 4, 2) := by decide +kernel
theorem dX10_offsetOf_31 : decode cX10_offsetOf 31 = .ok (.iload 4, 2) := by decide +kernel
theorem dX10_offsetOf_33 : decode cX10_offsetOf 33 = .ok (.aload_n 0, 1) := by decide +kernel
theorem dX10_offsetOf_34 : decode cX10_offsetOf 34 = .ok (.getfield 35, 3) := by decide +kernel
theorem dX10_offsetOf_37 : decode cX10_offsetOf 37 = .ok (.if_icmp .ge 58, 3) := by decide +kernel
theorem dX10_offsetOf_40 : decode cX10_offsetOf 40 = .ok (.iload_n 3, 1) := by decide +kernel
theorem dX10_offsetOf_41 : decode cX10_offsetOf 41 = .ok (.ifCond .lt 54, 3) := by decide +kernel
theorem dX10_offsetOf_44 : decode cX10_offsetOf 44 = .ok (.aload_n 0, 1) := by decide +kernel
theorem dX10_offsetOf_45 : decode cX10_offsetOf 45 = .ok (.getfield 11, 3) := by decide +kernel
theorem dX10_offsetOf_48 : decode cX10_offsetOf 48 = .ok (.iload_n 3, 1) := by decide +kernel
theorem dX10_offsetOf_49 : decode cX10_offsetOf 49 = .ok (.iload_n 2, 1) := by decide +kernel
theorem dX10_offsetOf_50 : decode cX10_offsetOf 50 = .ok (.iadd, 1) := by decide +kernel
theorem dX10_offsetOf_51 : decode cX10_offsetOf 51 = .ok (.iconst 1, 1) := by decide +kernel
theorem dX10_offsetOf_52 : decode cX10_offsetOf 52 = .ok (.isub, 1) := by decide +kernel
theorem dX10_offsetOf_53 : decode cX10_offsetOf 53 = .ok (.baload, 1) := by decide +kernel
theorem dX10_offsetOf_54 : decode cX10_offsetOf 54 = .ok (.aload_n 0, 1) := by decide +kernel
theorem dX10_offsetOf_55 : decode cX10_offsetOf 55 = .ok (.getfield 11, 3) := by decide +kernel
theorem dX10_offsetOf_58 : decode cX10_offsetOf 58 = .ok (.iload_n 1, 1) := by decide +kernel
theorem dX10_offsetOf_59 : decode cX10_offsetOf 59 = .ok (.iload_n 2, 1) := by decide +kernel
theorem dX10_offsetOf_60 : decode cX10_offsetOf 60 = .ok (.iadd, 1) := by decide +kernel
theorem dX10_offsetOf_61 : decode cX10_offsetOf 61 = .ok (.iconst 1, 1) := by decide +kernel
theorem dX10_offsetOf_62 : decode cX10_offsetOf 62 = .ok (.isub, 1) := by decide +kernel
theorem dX10_offsetOf_63 : decode cX10_offsetOf 63 = .ok (.baload, 1) := by decide +kernel
theorem dX10_offsetOf_64 : decode cX10_offsetOf 64 = .ok (.if_icmp .ne 18, 3) := by decide +kernel
theorem dX10_offsetOf_67 : decode cX10_offsetOf 67 = .ok (.aload_n 0, 1) := by decide +kernel
theorem dX10_offsetOf_68 : decode cX10_offsetOf 68 = .ok (.iload_n 3, 1) := by decide +kernel
theorem dX10_offsetOf_69 : decode cX10_offsetOf 69 = .ok (.iload_n 1, 1) := by decide +kernel
theorem dX10_offsetOf_70 : decode cX10_offsetOf 70 = .ok (.iload_n 2, 1) := by decide +kernel
theorem dX10_offsetOf_71 : decode cX10_offsetOf 71 = .ok (.invokevirtual 78, 3) := by decide +kernel
theorem dX10_offsetOf_74 : decode cX10_offsetOf 74 = .ok (.iload_n 2, 1) := by decide +kernel
theorem dX10_offsetOf_75 : decode cX10_offsetOf 75 = .ok (.if_icmp .ne 7, 3) := by decide +kernel
theorem dX10_offsetOf_78 : decode cX10_offsetOf 78 = .ok (.iload_n 1, 1) := by decide +kernel
theorem dX10_offsetOf_79 : decode cX10_offsetOf 79 = .ok (.iload_n 3, 1) := by decide +kernel
theorem dX10_offsetOf_80 : decode cX10_offsetOf 80 = .ok (.isub, 1) := by decide +kernel
theorem dX10_offsetOf_81 : decode cX10_offsetOf 81 = .ok (.ireturn, 1) := by decide +kernel
theorem dX10_offsetOf_82 : decode cX10_offsetOf 82 = .ok (.aload_n 0, 1) := by decide +kernel
theorem dX10_offsetOf_83 : decode cX10_offsetOf 83 = .ok (.getfield 15, 3) := by decide +kernel
theorem dX10_offsetOf_86 : decode cX10_offsetOf 86 = .ok (.iload_n 3, 1) := by decide +kernel
theorem dX10_offsetOf_87 : decode cX10_offsetOf 87 = .ok (.iaload, 1) := by decide +kernel
theorem dX10_offsetOf_88 : decode cX10_offsetOf 88 = .ok (.istore_n 3, 1) := by decide +kernel
theorem dX10_offsetOf_89 : decode cX10_offsetOf 89 = .ok (.iinc 4 1, 3) := by decide +kernel
theorem dX10_offsetOf_92 : decode cX10_offsetOf 92 = .ok (.goto (-61), 3) := by decide +kernel
theorem dX10_offsetOf_95 : decode cX10_offsetOf 95 = .ok (.iconst 0, 1) := by decide +kernel
theorem dX10_offsetOf_96 : decode cX10_offsetOf 96 = .ok (.ireturn, 1) := by decide +kernel
def m_Text_offsetOf_E95 : Option (Int32) :=
  some (0 : Int32)
def m_Text_offsetOf_J82 (h0_before_n : Nat) (h0_before_f : Nat → Int32) (j3_2 : Int32) (j4_3 : Int32) : Option ((Int32 × Int32) ⊕ ((Unit) ⊕ (((Int32))))) :=
  chk j3_2 h0_before_n <|
  bnd (h0_before_f j3_2.toNatClampNeg) fun v3_4 =>
  bnd (j4_3 + (1 : Int32)) fun v4_5 =>
  some (.inl (v3_4, v4_5))
def m_Text_offsetOf_B31 (a1 : Int32) (a2 : Int32) (h0_count : Int32) (h0_before_n : Nat) (h0_before_f : Nat → Int32) (h0_held_n : Nat) (h0_held_f : Nat → Int32) (j3_2 : Int32) (j4_3 : Int32) : Option ((Int32 × Int32) ⊕ ((Unit) ⊕ (((Int32))))) :=
  if h0_count ≤ j4_3 then
    some (.inr (.inl ()))
  else
    if j3_2 < 0 then
      some (.inr (.inl ()))
    else
      chk ((j3_2 + a2) - (1 : Int32)) h0_held_n <|
      chk ((a1 + a2) - (1 : Int32)) h0_held_n <|
      if (h0_held_f ((j3_2 + a2) - (1 : Int32)).toNatClampNeg) = (h0_held_f ((a1 + a2) - (1 : Int32)).toNatClampNeg) then
        (m_Text_alike j3_2 a1 a2 h0_held_n h0_held_f).bind fun r6 =>
        if r6 = a2 then
          some (.inr (.inr (a1 - j3_2)))
        else
          m_Text_offsetOf_J82 h0_before_n h0_before_f j3_2 j4_3
      else
        m_Text_offsetOf_J82 h0_before_n h0_before_f j3_2 j4_3
def m_Text_offsetOf (a1 : Int32) (a2 : Int32) (h0_count : Int32) (h0_before_n : Nat) (h0_before_f : Nat → Int32) (h0_held_n : Nat) (h0_held_f : Nat → Int32) : Option (Int32) :=
  if a1 < 0 then
    some (0 : Int32)
  else
    if a2 < (1 : Int32) then
      some (0 : Int32)
    else
      if a2 ≤ (h0_count - a1) then
        chk a1 h0_before_n <|
        bnd (h0_before_f a1.toNatClampNeg) fun v3_1 =>
        (iter (fun st => m_Text_offsetOf_B31 a1 a2 h0_count h0_before_n h0_before_f h0_held_n h0_held_f st.1 st.2) FU (v3_1, (0 : Int32))).bind fun o => match o with | (.inl y) => m_Text_offsetOf_E95 | (.inr y) => some y
      else
        some (0 : Int32)
def rm_Text_offsetOf : Room := { frames := 1, cells := 0, slots := 0, locals := 24 }
set_option maxHeartbeats 4000000 in
set_option maxRecDepth 100000 in
theorem c_Text_offsetOf {l : Launch} {dC : Nat → ClassId} {dI : Nat → Nat → Nat} {cB cI : ClassId} {sz : Nat} {h0 : Nat} {a1 : Int32} {a2 : Int32} {h0_before : Nat} {h0_held : Nat} {w_h0_latest : Value} {h0_count : Int32} {w_h0_foundOffset : Value} {w_h0_downPlace : Value} {w_h0_downLimit : Value} {w_h0_downMost : Value} {w_h0_downOffset : Value} {h0_before_n : Nat} {h0_before_f : Nat → Int32} {h0_held_n : Nat} {h0_held_f : Nat → Int32} {o_r : Int32} (hf : m_Text_offsetOf a1 a2 h0_count h0_before_n h0_before_f h0_held_n h0_held_f = some o_r) : Met l yX10_offsetOf (Cond.code yX10_offsetOf cX10_offsetOf 5 (some .int) :: lw_G) rm_Text_offsetOf (PreC (dC, dI) [(cB, .byte), (cI, .int)] [.ref h0, .int a1, .int a2] sz [(h0, .inr (8, [.ref h0_held, .ref h0_before, w_h0_latest, .int h0_count, w_h0_foundOffset, w_h0_downPlace, w_h0_downLimit, w_h0_downMost, w_h0_downOffset])), (h0_before, .inl (cI, h0_before_n, .inl h0_before_f)), (h0_held, .inl (cB, h0_held_n, .inl h0_held_f))]) (QcI o_r (dC, dI) [(h0, .inr (8, [.ref h0_held, .ref h0_before, w_h0_latest, .int h0_count, w_h0_foundOffset, w_h0_downPlace, w_h0_downLimit, w_h0_downMost, w_h0_downOffset])), (h0_before, .inl (cI, h0_before_n, .inl h0_before_f)), (h0_held, .inl (cB, h0_held_n, .inl h0_held_f))] (va_A [(h0, .inr (8, [.ref h0_held, .ref h0_before, w_h0_latest, .int h0_count, w_h0_foundOffset, w_h0_downPlace, w_h0_downLimit, w_h0_downMost, w_h0_downOffset])), (h0_before, .inl (cI, h0_before_n, .inl h0_before_f)), (h0_held, .inl (cB, h0_held_n, .inl h0_held_f))] sz)) 0 0 (va_A [(h0, .inr (8, [.ref h0_held, .ref h0_before, w_h0_latest, .int h0_count, w_h0_foundOffset, w_h0_downPlace, w_h0_downLimit, w_h0_downMost, w_h0_downOffset])), (h0_before, .inl (cI, h0_before_n, .inl h0_before_f)), (h0_held, .inl (cB, h0_held_n, .inl h0_held_f))] sz) := by
  refine met_of (Qf := fun A => QcI o_r (dC, dI) [(h0, .inr (8, [.ref h0_held, .ref h0_before, w_h0_latest, .int h0_count, w_h0_foundOffset, w_h0_downPlace, w_h0_downLimit, w_h0_downMost, w_h0_downOffset])), (h0_before, .inl (cI, h0_before_n, .inl h0_before_f)), (h0_held, .inl (cB, h0_held_n, .inl h0_held_f))] A) (by decide) (Nat.le_of_ble_eq_true rfl) ?_
  intro p e s m below meth c A ls Q hx hb hr hml hown hts hlocks hnm hP hK hD hN hT hA hl hQ
  have hown : s.vm.findClass RX10 = some m.cls := hown
  have hS : va_S A s.heap s.heap [] := va_S.rf
  have hl : lv_has ls 5 [(0, .ref h0), (1, .int a1), (2, .int a2)] := hl
  unfold m_Text_offsetOf at hf
  refine lv_iload_n hx hb dX10_offsetOf_0 rfl (lv_at hl 1 rfl) ?_
  refine lv_if_lt (tgt := 19) hx hb dX10_offsetOf_1 (by decide) (fun c_1 => ?_) (fun c_1 => ?_)
  · replace hf := if_t c_1 hf
    refine lv_iconst (v := 0) hx hb dX10_offsetOf_19 (by decide) ?_
    obtain rfl := Option.some.inj hf
    exact rt_i hQ hx hb hr hlocks hP hD hS dX10_offsetOf_20
  · replace hf := if_f c_1 hf
    refine lv_iload_n hx hb dX10_offsetOf_4 rfl (lv_at hl 2 rfl) ?_
    refine lv_iconst (v := 1) hx hb dX10_offsetOf_5 (by decide) ?_
    refine lv_icmp_lt (tgt := 19) hx hb dX10_offsetOf_6 (by decide) (fun c_6 => ?_) (fun c_6 => ?_)
    · replace hf := if_t c_6 hf
      refine lv_iconst (v := 0) hx hb dX10_offsetOf_19 (by decide) ?_
      obtain rfl := Option.some.inj hf
      exact rt_i hQ hx hb hr hlocks hP hD hS dX10_offsetOf_20
    · replace hf := if_f c_6 hf
      refine lv_iload_n hx hb dX10_offsetOf_9 rfl (lv_at hl 2 rfl) ?_
      refine lv_aload_n hx hb dX10_offsetOf_10 rfl (lv_at hl 0 rfl) ?_
      refine va_get (D := (dC, dI)) (ci := 8) (v := .int h0_count) (C := RX10) (T := TX10) (N := 9) hx hb hts inG_X10 hown hK hP 0 rfl rfl 3 (by decide) (hts _ kw_132) (fun _ h9 => h9) rfl dX10_offsetOf_11 ?_
      refine lv_iload_n hx hb dX10_offsetOf_14 rfl (lv_at hl 1 rfl) ?_
      refine lv_isub hx hb dX10_offsetOf_15 ?_
      refine lv_icmp_le (tgt := 21) hx hb dX10_offsetOf_16 (by decide) (fun c_16 => ?_) (fun c_16 => ?_)
      · replace hf := if_t c_16 hf
        refine lv_aload_n hx hb dX10_offsetOf_21 rfl (lv_at hl 0 rfl) ?_
        refine va_get (D := (dC, dI)) (ci := 8) (v := .ref h0_before) (C := RX10) (T := TX10) (N := 9) hx hb hts inG_X10 hown hK hP 0 rfl rfl 1 (by decide) (hts _ kw_130) (fun _ h9 => h9) rfl dX10_offsetOf_22 ?_
        refine lv_iload_n hx hb dX10_offsetOf_25 rfl (lv_at hl 1 rfl) ?_
        obtain ⟨hin, hf⟩ := chk_some hf
        refine va_iald hx hb hK hP 1 1 rfl rfl hin dX10_offsetOf_26 ?_
        refine lv_topi (fun v3_1 e_v3_1 => ?_)
        replace hf := bnd_at e_v3_1 hf
        refine lv_istore_n (lv' := [(3, .int v3_1), (0, .ref h0), (1, .int a1), (2, .int a2)]) hx hb dX10_offsetOf_27 rfl hl (by decide) rfl (fun ls hl => ?_)
        refine lv_iconst (v := 0) hx hb dX10_offsetOf_28 (by decide) ?_
        refine lv_istore (lv' := [(4, .int (0 : Int32)), (3, .int v3_1), (0, .ref h0), (1, .int a1), (2, .int a2)]) hx hb dX10_offsetOf_29 hl (by decide) rfl (fun ls hl => ?_)
        have hJ_95 : ∀ (H : Heap) (locs : List Loc) (ls : Array Slot), m_Text_offsetOf_E95 = some o_r → va_P (dC, dI) vwCl [(h0, .inr (8, [.ref h0_held, .ref h0_before, w_h0_latest, .int h0_count, w_h0_foundOffset, w_h0_downPlace, w_h0_downLimit, w_h0_downMost, w_h0_downOffset])), (h0_before, .inl (cI, h0_before_n, .inl h0_before_f)), (h0_held, .inl (cB, h0_held_n, .inl h0_held_f))] H → va_D A [(h0, .inr (8, [.ref h0_held, .ref h0_before, w_h0_latest, .int h0_count, w_h0_foundOffset, w_h0_downPlace, w_h0_downLimit, w_h0_downMost, w_h0_downOffset])), (h0_before, .inl (cI, h0_before_n, .inl h0_before_f)), (h0_held, .inl (cB, h0_held_n, .inl h0_held_f))] → va_S A s.heap H locs → lv_has ls 5 [] → W p l e (rm_Text_offsetOf) s m ([.ref h0, .int a1, .int a2] : List Value).toArray below meth c H locs 0 0 Q (F0 m 95 ls []) := by
          intro  H locs ls hf hP hD hS hl
          unfold m_Text_offsetOf_E95 at hf
          refine lv_iconst (v := 0) hx hb dX10_offsetOf_95 (by decide) ?_
          obtain rfl := Option.some.inj hf
          exact rt_i hQ hx hb hr hlocks hP hD hS dX10_offsetOf_96
        obtain ⟨o_31, hi_31, hk_31⟩ := bind_some hf
        have hL_31 : ∀ (n : Nat) (j3_2 : Int32) (j4_3 : Int32) (H : Heap) (locs : List Loc) (ls : Array Slot), iter (fun st => m_Text_offsetOf_B31 a1 a2 h0_count h0_before_n h0_before_f h0_held_n h0_held_f st.1 st.2) n (j3_2, j4_3) = some o_31 → va_P (dC, dI) vwCl [(h0, .inr (8, [.ref h0_held, .ref h0_before, w_h0_latest, .int h0_count, w_h0_foundOffset, w_h0_downPlace, w_h0_downLimit, w_h0_downMost, w_h0_downOffset])), (h0_before, .inl (cI, h0_before_n, .inl h0_before_f)), (h0_held, .inl (cB, h0_held_n, .inl h0_held_f))] H → va_D A [(h0, .inr (8, [.ref h0_held, .ref h0_before, w_h0_latest, .int h0_count, w_h0_foundOffset, w_h0_downPlace, w_h0_downLimit, w_h0_downMost, w_h0_downOffset])), (h0_before, .inl (cI, h0_before_n, .inl h0_before_f)), (h0_held, .inl (cB, h0_held_n, .inl h0_held_f))] → va_S A s.heap H locs → lv_has ls 5 [(0, .ref h0), (1, .int a1), (2, .int a2), (3, .int j3_2), (4, .int j4_3)] → W p l e (rm_Text_offsetOf) s m ([.ref h0, .int a1, .int a2] : List Value).toArray below meth c H locs 0 0 Q (F0 m 31 ls []) := by
          intro n
          induction n with
          | zero => intro j3_2 j4_3 H locs ls hf; exact absurd hf (fun z => by cases z)
          | succ n ih_31 =>
            intro j3_2 j4_3 H locs ls hf hP hD hS hl
            obtain ⟨r_31, hf, hr_31⟩ := iter_succ hf
            have hf : m_Text_offsetOf_B31 a1 a2 h0_count h0_before_n h0_before_f h0_held_n h0_held_f j3_2 j4_3 = some r_31 := hf
            unfold m_Text_offsetOf_B31 at hf
            refine lv_iload hx hb dX10_offsetOf_31 (lv_at hl 4 rfl) ?_
            refine lv_aload_n hx hb dX10_offsetOf_33 rfl (lv_at hl 0 rfl) ?_
            refine va_get (D := (dC, dI)) (ci := 8) (v := .int h0_count) (C := RX10) (T := TX10) (N := 9) hx hb hts inG_X10 hown hK hP 0 rfl rfl 3 (by decide) (hts _ kw_132) (fun _ h9 => h9) rfl dX10_offsetOf_34 ?_
            refine lv_icmp_ge (tgt := 95) hx hb dX10_offsetOf_37 (by decide) (fun c_37 => ?_) (fun c_37 => ?_)
            · replace hf := if_t c_37 hf
              have hf : m_Text_offsetOf_E95 = some o_r := by have hq := hk_31; rw [iter_exit hf hr_31] at hq; exact hq
              exact hJ_95  _ _ _ hf hP hD hS (lv_sub hl [] rfl)
            · replace hf := if_f c_37 hf
              refine lv_iload_n hx hb dX10_offsetOf_40 rfl (lv_at hl 3 rfl) ?_
              refine lv_if_lt (tgt := 95) hx hb dX10_offsetOf_41 (by decide) (fun c_41 => ?_) (fun c_41 => ?_)
              · replace hf := if_t c_41 hf
                have hf : m_Text_offsetOf_E95 = some o_r := by have hq := hk_31; rw [iter_exit hf hr_31] at hq; exact hq
                exact hJ_95  _ _ _ hf hP hD hS (lv_sub hl [] rfl)
              · replace hf := if_f c_41 hf
                refine lv_aload_n hx hb dX10_offsetOf_44 rfl (lv_at hl 0 rfl) ?_
                refine va_get (D := (dC, dI)) (ci := 8) (v := .ref h0_held) (C := RX10) (T := TX10) (N := 9) hx hb hts inG_X10 hown hK hP 0 rfl rfl 0 (by decide) (hts _ kw_129) (fun _ h9 => h9) rfl dX10_offsetOf_45 ?_
                refine lv_iload_n hx hb dX10_offsetOf_48 rfl (lv_at hl 3 rfl) ?_
                refine lv_iload_n hx hb dX10_offsetOf_49 rfl (lv_at hl 2 rfl) ?_
                refine lv_iadd hx hb dX10_offsetOf_50 ?_
                refine lv_iconst (v := 1) hx hb dX10_offsetOf_51 (by decide) ?_
                refine lv_isub hx hb dX10_offsetOf_52 ?_
                obtain ⟨hin, hf⟩ := chk_some hf
                refine va_bald hx hb hK hP 2 0 rfl rfl hin dX10_offsetOf_53 ?_
                refine lv_aload_n hx hb dX10_offsetOf_54 rfl (lv_at hl 0 rfl) ?_
                refine va_get (D := (dC, dI)) (ci := 8) (v := .ref h0_held) (C := RX10) (T := TX10) (N := 9) hx hb hts inG_X10 hown hK hP 0 rfl rfl 0 (by decide) (hts _ kw_129) (fun _ h9 => h9) rfl dX10_offsetOf_55 ?_
                refine lv_iload_n hx hb dX10_offsetOf_58 rfl (lv_at hl 1 rfl) ?_
                refine lv_iload_n hx hb dX10_offsetOf_59 rfl (lv_at hl 2 rfl) ?_
                refine lv_iadd hx hb dX10_offsetOf_60 ?_
                refine lv_iconst (v := 1) hx hb dX10_offsetOf_61 (by decide) ?_
                refine lv_isub hx hb dX10_offsetOf_62 ?_
                obtain ⟨hin, hf⟩ := chk_some hf
                refine va_bald hx hb hK hP 2 0 rfl rfl hin dX10_offsetOf_63 ?_
                have hJ_82 : ∀ (H : Heap) (locs : List Loc) (ls : Array Slot), m_Text_offsetOf_J82 h0_before_n h0_before_f j3_2 j4_3 = some r_31 → va_P (dC, dI) vwCl [(h0, .inr (8, [.ref h0_held, .ref h0_before, w_h0_latest, .int h0_count, w_h0_foundOffset, w_h0_downPlace, w_h0_downLimit, w_h0_downMost, w_h0_downOffset])), (h0_before, .inl (cI, h0_before_n, .inl h0_before_f)), (h0_held, .inl (cB, h0_held_n, .inl h0_held_f))] H → va_D A [(h0, .inr (8, [.ref h0_held, .ref h0_before, w_h0_latest, .int h0_count, w_h0_foundOffset, w_h0_downPlace, w_h0_downLimit, w_h0_downMost, w_h0_downOffset])), (h0_before, .inl (cI, h0_before_n, .inl h0_before_f)), (h0_held, .inl (cB, h0_held_n, .inl h0_held_f))] → va_S A s.heap H locs → lv_has ls 5 [(0, .ref h0), (1, .int a1), (2, .int a2), (3, .int j3_2), (4, .int j4_3)] → W p l e (rm_Text_offsetOf) s m ([.ref h0, .int a1, .int a2] : List Value).toArray below meth c H locs 0 0 Q (F0 m 82 ls []) := by
                  intro  H locs ls hf hP hD hS hl
                  unfold m_Text_offsetOf_J82 at hf
                  refine lv_aload_n hx hb dX10_offsetOf_82 rfl (lv_at hl 0 rfl) ?_
                  refine va_get (D := (dC, dI)) (ci := 8) (v := .ref h0_before) (C := RX10) (T := TX10) (N := 9) hx hb hts inG_X10 hown hK hP 0 rfl rfl 1 (by decide) (hts _ kw_130) (fun _ h9 => h9) rfl dX10_offsetOf_83 ?_
                  refine lv_iload_n hx hb dX10_offsetOf_86 rfl (lv_at hl 3 rfl) ?_
                  obtain ⟨hin, hf⟩ := chk_some hf
                  refine va_iald hx hb hK hP 1 1 rfl rfl hin dX10_offsetOf_87 ?_
                  refine lv_topi (fun v3_4 e_v3_4 => ?_)
                  replace hf := bnd_at e_v3_4 hf
                  refine lv_istore_n (lv' := [(3, .int v3_4), (0, .ref h0), (1, .int a1), (2, .int a2), (4, .int j4_3)]) hx hb dX10_offsetOf_88 rfl hl (by decide) rfl (fun ls hl => ?_)
                  obtain ⟨v4_5, e_v4_5⟩ : ∃ y : Int32, y = (j4_3 + (1 : Int32)) := ⟨_, rfl⟩
                  replace hf := bnd_at e_v4_5 hf
                  refine lv_iinc (v := v4_5) (lv' := [(4, .int v4_5), (3, .int v3_4), (0, .ref h0), (1, .int a1), (2, .int a2)]) hx hb dX10_offsetOf_89 hl (k := 4) rfl (by rw [e_v4_5]; rfl) (by decide) rfl (fun ls hl => ?_)
                  refine lv_goto (tgt := 31) hx hb dX10_offsetOf_92 (by decide) ?_
                  exact ih_31 v3_4 v4_5 _ _ _ (iter_back hf hr_31) hP hD hS (lv_sub hl [2, 3, 4, 1, 0] rfl)
                refine lv_icmp_ne (tgt := 82) hx hb dX10_offsetOf_64 (by decide) (fun c_64 => ?_) (fun c_64 => ?_)
                · replace hf := if_f c_64 hf
                  exact hJ_82  _ _ _ hf hP hD hS (lv_sub hl [0, 1, 2, 3, 4] rfl)
                · replace hf := if_t c_64 hf
                  refine lv_aload_n hx hb dX10_offsetOf_67 rfl (lv_at hl 0 rfl) ?_
                  refine lv_iload_n hx hb dX10_offsetOf_68 rfl (lv_at hl 3 rfl) ?_
                  refine lv_iload_n hx hb dX10_offsetOf_69 rfl (lv_at hl 1 rfl) ?_
                  refine lv_iload_n hx hb dX10_offsetOf_70 rfl (lv_at hl 2 rfl) ?_
                  obtain ⟨r6, hc, hf⟩ := bind_some hf
                  refine nx_i (rn_V (As := [.int j3_2, .int a1, .int a2]) (rest := []) (n := 3) (ci := 8) (q0 := 0) ⟨hx, hb, hml, hown, hts⟩ (c_Text_alike (l := l) (dC := dC) (dI := dI) (cB := cB) (cI := cI) (h0 := h0) (a1 := j3_2) (a2 := a1) (a3 := a2) (h0_held := h0_held) (w_h0_before := (.ref h0_before)) (w_h0_latest := (w_h0_latest)) (w_h0_count := (.int h0_count)) (w_h0_foundOffset := (w_h0_foundOffset)) (w_h0_downPlace := (w_h0_downPlace)) (w_h0_downLimit := (w_h0_downLimit)) (w_h0_downMost := (w_h0_downMost)) (w_h0_downOffset := (w_h0_downOffset)) (h0_held_n := h0_held_n) (h0_held_f := h0_held_f)  (o_r := r6) hc) (wV kw_687 kw_689 kw_12 kw_85 kw_690) (by decide +kernel) ⟨Nat.le_of_ble_eq_true rfl, Nat.le_of_ble_eq_true rfl⟩ hK hP hD hN hT hS (va_free (wc := [(h0, .inr (8, [.ref h0_held, .ref h0_before, w_h0_latest, .int h0_count, w_h0_foundOffset, w_h0_downPlace, w_h0_downLimit, w_h0_downMost, w_h0_downOffset])), (h0_held, .inl (cB, h0_held_n, .inl h0_held_f))]) hD hS hA [0, 2] rfl) [0, 2] rfl (by decide) rfl rfl rfl hl.1 rfl (lv_room (Nat.le_of_ble_eq_true rfl)) dX10_offsetOf_71 ⟨Nat.le_of_ble_eq_true rfl, Nat.le_of_ble_eq_true rfl⟩) hP hD hS hA (wr := [(h0_before, .inl (cI, h0_before_n, .inl h0_before_f))]) (w1 := [(h0, .inr (8, [.ref h0_held, .ref h0_before, w_h0_latest, .int h0_count, w_h0_foundOffset, w_h0_downPlace, w_h0_downLimit, w_h0_downMost, w_h0_downOffset])), (h0_held, .inl (cB, h0_held_n, .inl h0_held_f))]) (ws' := [(h0, .inr (8, [.ref h0_held, .ref h0_before, w_h0_latest, .int h0_count, w_h0_foundOffset, w_h0_downPlace, w_h0_downLimit, w_h0_downMost, w_h0_downOffset])), (h0_before, .inl (cI, h0_before_n, .inl h0_before_f)), (h0_held, .inl (cB, h0_held_n, .inl h0_held_f))]) [0, 2] [1] [1, 0, 2] rfl rfl (by decide) (by decide) rfl (by decide) (fun H locs hP hD hS => ?_)
                  refine lv_iload_n hx hb dX10_offsetOf_74 rfl (lv_at hl 2 rfl) ?_
                  refine lv_icmp_ne (tgt := 82) hx hb dX10_offsetOf_75 (by decide) (fun c_75 => ?_) (fun c_75 => ?_)
                  · replace hf := if_f c_75 hf
                    exact hJ_82  _ _ _ hf hP hD hS (lv_sub hl [0, 1, 2, 3, 4] rfl)
                  · replace hf := if_t c_75 hf
                    refine lv_iload_n hx hb dX10_offsetOf_78 rfl (lv_at hl 1 rfl) ?_
                    refine lv_iload_n hx hb dX10_offsetOf_79 rfl (lv_at hl 3 rfl) ?_
                    refine lv_isub hx hb dX10_offsetOf_80 ?_
                    replace hf : some (a1 - j3_2) = some o_r := by have hq := hk_31; rw [iter_exit hf hr_31] at hq; exact hq
                    obtain rfl := Option.some.inj hf
                    exact rt_i hQ hx hb hr hlocks hP hD hS dX10_offsetOf_81
        exact hL_31 FU v3_1 (0 : Int32) _ _ _ hi_31 hP hD hS (lv_sub hl [2, 3, 4, 1, 0] rfl)
      · replace hf := if_f c_16 hf
        refine lv_iconst (v := 0) hx hb dX10_offsetOf_19 (by decide) ?_
        obtain rfl := Option.some.inj hf
        exact rt_i hQ hx hb hr hlocks hP hD hS dX10_offsetOf_20

theorem dX10_copyTo_0 : decode cX10_copyTo 0 = .ok (.aload_n 1, 1) := by decide +kernel
theorem dX10_copyTo_1 : decode cX10_copyTo 1 = .ok (.aload_n 0, 1) := by decide +kernel
theorem dX10_copyTo_2 : decode cX10_copyTo 2 = .ok (.getfield 11, 3) := by decide +kernel
theorem dX10_copyTo_5 : decode cX10_copyTo 5 = .ok (.iload_n 2, 1) := by decide +kernel
theorem dX10_copyTo_6 : decode cX10_copyTo 6 = .ok (.iload_n 3, 1) := by decide +kernel
theorem dX10_copyTo_7 : decode cX10_copyTo 7 = .ok (.invokevirtual 81, 3) := by decide +kernel
theorem dX10_copyTo_10 : decode cX10_copyTo 10 = .ok (.return_, 1) := by decide +kernel
def m_Text_copyTo (a2 : Int32) (a3 : Int32) (h1_count : Int32) (h0_held_n : Nat) (h0_held_f : Nat → Int32) (h1_held_n : Nat) (h1_held_f : Nat → Int32) : Option (Int32 × (Nat → Int32)) :=
  (m_Bytes_addArray a2 a3 h1_count h0_held_n h0_held_f h1_held_n h1_held_f).bind fun (u1, u2) =>
  some (u1, u2)
def rm_Text_copyTo : Room := { frames := 2, cells := 0, slots := 0, locals := 63 }
set_option maxHeartbeats 4000000 in
set_option maxRecDepth 100000 in
theorem c_Text_copyTo {l : Launch} {dC : Nat → ClassId} {dI : Nat → Nat → Nat} {cB cI : ClassId} {sz : Nat} {h0 : Nat} {h1 : Nat} {a2 : Int32} {a3 : Int32} {h0_held : Nat} {h1_held : Nat} {w_h0_before : Value} {w_h0_latest : Value} {w_h0_count : Value} {w_h0_foundOffset : Value} {w_h0_downPlace : Value} {w_h0_downLimit : Value} {w_h0_downMost : Value} {w_h0_downOffset : Value} {h1_count : Int32} {h0_held_n : Nat} {h0_held_f : Nat → Int32} {h1_held_n : Nat} {h1_held_f : Nat → Int32} {o_h1_count : Int32} {o_h1_held_f : Nat → Int32} (hf : m_Text_copyTo a2 a3 h1_count h0_held_n h0_held_f h1_held_n h1_held_f = some (o_h1_count, o_h1_held_f)) : Met l yX10_copyTo (Cond.code yX10_copyTo cX10_copyTo 4 none :: lw_G) rm_Text_copyTo (PreC (dC, dI) [(cB, .byte), (cI, .int)] [.ref h0, .ref h1, .int a2, .int a3] sz [(h0, .inr (8, [.ref h0_held, w_h0_before, w_h0_latest, w_h0_count, w_h0_foundOffset, w_h0_downPlace, w_h0_downLimit, w_h0_downMost, w_h0_downOffset])), (h1, .inr (2, [.ref h1_held, .int h1_count])), (h0_held, .inl (cB, h0_held_n, .inl h0_held_f)), (h1_held, .inl (cB, h1_held_n, .inl h1_held_f))]) (QcV (dC, dI) [(h0, .inr (8, [.ref h0_held, w_h0_before, w_h0_latest, w_h0_count, w_h0_foundOffset, w_h0_downPlace, w_h0_downLimit, w_h0_downMost, w_h0_downOffset])), (h1, .inr (2, [.ref h1_held, .int o_h1_count])), (h0_held, .inl (cB, h0_held_n, .inl h0_held_f)), (h1_held, .inl (cB, h1_held_n, .inl o_h1_held_f))] (va_A [(h0, .inr (8, [.ref h0_held, w_h0_before, w_h0_latest, w_h0_count, w_h0_foundOffset, w_h0_downPlace, w_h0_downLimit, w_h0_downMost, w_h0_downOffset])), (h1, .inr (2, [.ref h1_held, .int h1_count])), (h0_held, .inl (cB, h0_held_n, .inl h0_held_f)), (h1_held, .inl (cB, h1_held_n, .inl h1_held_f))] sz)) 0 0 (va_A [(h0, .inr (8, [.ref h0_held, w_h0_before, w_h0_latest, w_h0_count, w_h0_foundOffset, w_h0_downPlace, w_h0_downLimit, w_h0_downMost, w_h0_downOffset])), (h1, .inr (2, [.ref h1_held, .int h1_count])), (h0_held, .inl (cB, h0_held_n, .inl h0_held_f)), (h1_held, .inl (cB, h1_held_n, .inl h1_held_f))] sz) := by
  refine met_of (Qf := fun A => QcV (dC, dI) [(h0, .inr (8, [.ref h0_held, w_h0_before, w_h0_latest, w_h0_count, w_h0_foundOffset, w_h0_downPlace, w_h0_downLimit, w_h0_downMost, w_h0_downOffset])), (h1, .inr (2, [.ref h1_held, .int o_h1_count])), (h0_held, .inl (cB, h0_held_n, .inl h0_held_f)), (h1_held, .inl (cB, h1_held_n, .inl o_h1_held_f))] A) (by decide) (Nat.le_of_ble_eq_true rfl) ?_
  intro p e s m below meth c A ls Q hx hb hr hml hown hts hlocks hnm hP hK hD hN hT hA hl hQ
  have hown : s.vm.findClass RX10 = some m.cls := hown
  have hS : va_S A s.heap s.heap [] := va_S.rf
  have hl : lv_has ls 4 [(0, .ref h0), (1, .ref h1), (2, .int a2), (3, .int a3)] := hl
  unfold m_Text_copyTo at hf
  refine lv_aload_n hx hb dX10_copyTo_0 rfl (lv_at hl 1 rfl) ?_
  refine lv_aload_n hx hb dX10_copyTo_1 rfl (lv_at hl 0 rfl) ?_
  refine va_get (D := (dC, dI)) (ci := 8) (v := .ref h0_held) (C := RX10) (T := TX10) (N := 9) hx hb hts inG_X10 hown hK hP 0 rfl rfl 0 (by decide) (hts _ kw_129) (fun _ h9 => h9) rfl dX10_copyTo_2 ?_
  refine lv_iload_n hx hb dX10_copyTo_5 rfl (lv_at hl 2 rfl) ?_
  refine lv_iload_n hx hb dX10_copyTo_6 rfl (lv_at hl 3 rfl) ?_
  obtain ⟨x, hc, hf⟩ := bind_some hf
  obtain ⟨u1, u2⟩ := x
  dsimp only at hf
  refine nx_v (rn_V (As := [.ref h0_held, .int a2, .int a3]) (rest := []) (n := 3) (ci := 2) (q0 := 0) ⟨hx, hb, hml, hown, hts⟩ (c_Bytes_addArray (l := l) (dC := dC) (dI := dI) (cB := cB) (cI := cI) (h0 := h1) (h1 := h0_held) (a2 := a2) (a3 := a3) (h0_held := h1_held) (h0_count := h1_count) (h1_n := h0_held_n) (h1_f := h0_held_f) (h0_held_n := h1_held_n) (h0_held_f := h1_held_f) (o_h0_count := u1) (o_h0_held_f := u2) hc) (wV kw_706 kw_707 kw_708 kw_83 kw_709) (by decide +kernel) ⟨Nat.le_of_ble_eq_true rfl, Nat.le_of_ble_eq_true rfl⟩ hK hP hD hN hT hS (va_free (wc := [(h1, .inr (2, [.ref h1_held, .int h1_count])), (h0_held, .inl (cB, h0_held_n, .inl h0_held_f)), (h1_held, .inl (cB, h1_held_n, .inl h1_held_f))]) hD hS hA [1, 2, 3] rfl) [1, 2, 3] rfl (by decide) rfl rfl rfl hl.1 rfl (lv_room (Nat.le_of_ble_eq_true rfl)) dX10_copyTo_7 ⟨Nat.le_of_ble_eq_true rfl, Nat.le_of_ble_eq_true rfl⟩) hP hD hS hA (wr := [(h0, .inr (8, [.ref h0_held, w_h0_before, w_h0_latest, w_h0_count, w_h0_foundOffset, w_h0_downPlace, w_h0_downLimit, w_h0_downMost, w_h0_downOffset]))]) (w1 := [(h1, .inr (2, [.ref h1_held, .int u1])), (h0_held, .inl (cB, h0_held_n, .inl h0_held_f)), (h1_held, .inl (cB, h1_held_n, .inl u2))]) (ws' := [(h0, .inr (8, [.ref h0_held, w_h0_before, w_h0_latest, w_h0_count, w_h0_foundOffset, w_h0_downPlace, w_h0_downLimit, w_h0_downMost, w_h0_downOffset])), (h1, .inr (2, [.ref h1_held, .int u1])), (h0_held, .inl (cB, h0_held_n, .inl h0_held_f)), (h1_held, .inl (cB, h1_held_n, .inl u2))]) [1, 2, 3] [0] [0, 1, 2, 3] rfl rfl (by decide) (by decide) rfl (by decide) (fun H locs hP hD hS => ?_)
  obtain ⟨rfl, hq_1⟩ := Prod.mk.inj (Option.some.inj hf)
  obtain rfl := hq_1
  exact rt_v hQ hx hb hr hlocks hP hD hS dX10_copyTo_10

