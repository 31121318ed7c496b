/-! two worlds side by side -/
theorem cut_l {α : Type} (a b : List α) : (List.range a.length).map (fun i => (a ++ b)[i]?) = a.map some := by
  apply List.ext_getElem?
  intro k
  by_cases h : k < a.length
  · simp [h, List.getElem?_append_left h]
  · simp [h]
theorem cut_r {α : Type} (a b : List α) : ((List.range b.length).map (fun j => a.length + j)).map (fun i => (a ++ b)[i]?) = b.map some := by
  apply List.ext_getElem?
  intro k
  by_cases h : k < b.length
  · simp [h]
  · simp [h]
theorem nd_of : ∀ (l : List Nat), l.Nodup → va_nd l = true
  | [], _ => rfl
  | a :: l, h => by
    obtain ⟨h1, h2⟩ := List.nodup_cons.mp h
    simp only [va_nd, Bool.and_eq_true, decide_eq_true_eq]
    exact ⟨h1, nd_of l h2⟩
theorem nd_l (n : Nat) : va_nd (List.range n) = true := nd_of _ List.nodup_range
theorem nd_r (k n : Nat) : va_nd ((List.range n).map (fun j => k + j)) = true := by
  refine nd_of _ ?_
  rw [List.nodup_iff_pairwise_ne, List.pairwise_map]
  exact List.Pairwise.imp (fun h => by omega) (List.nodup_iff_pairwise_ne.mp List.nodup_range)
theorem lg_same (r : Int64) : lg_cmp r r = 0 := by simp [lg_cmp]
section TWO
variable {p : Program} {l : Launch} {e : Env} {R : Room} {s : State} {m : MethodId} {args : Array Value} {below : List Frame} {meth : Method} {c : Code} {H : Heap} {locs : List Loc} {cells slots : Nat} {Q : State → Prop}
variable {cc bytes : ByteArray} {pc index n nL maxL : Nat} {ls : Array Slot} {D : va_G} {A : Nat → Prop} {wa wb wa' : va_W} {tys : List (ClassId × FieldType)} {own C : String} {y : MethodName} {ret : Option FieldType} {rm : Room} {b : Nat} {As rest st : List Value}
theorem lc_i {r : Int32} (S : CallFix p m c cc nL s args lw_G own) (hM : Met l y (Cond.code y bytes maxL ret :: lw_G) rm (PreC D tys (.ref b :: As) H.size wa) (QcI r D wa' (va_A wa H.size)) 0 0 (va_A wa H.size)) (hg : GoodIn lw_G (wsV own index C y (Cond.code y bytes maxL ret :: lw_G)))
    (hd : y.cls = C ∧ y.cls ≠ "java/lang/invoke/MethodHandle" ∧ y.cls ≠ "java/lang/invoke/VarHandle" ∧ (parseMethodDescriptor y.desc).map (fun d => d.parameters.length) = some n) (hR : rm.frames + 1 ≤ R.frames ∧ 8 + (maxL + 11) + rm.locals ≤ R.locals)
    (hK : va_K D vwCl tys s) (hP : va_P D vwCl (wa ++ wb) H) (hD : va_D A (wa ++ wb)) (hN : NW s) (hT : ST A s s.heap) (hS : va_S A s.heap H locs) (hA : ∀ q, s.heap.size ≤ q → A q)
    {ci : Nat} {cl : vw_C} {fs : List Value} (hc : vwCl[ci]? = some cl) (he : wa[0]? = some (b, .inr (ci, fs)))
    (hn : As.length = n) (hsize : ls.size = nL) (hst : st = As.reverse ++ .ref b :: rest) (hW : 2 * (F0 m pc ls st).monitorRoom + (rest.map fun v => v.category).sum ≤ 8) (hdg : decode cc pc = .ok (.invokevirtual index, 3)) (hf : cells + 0 ≤ R.cells ∧ slots + 0 ≤ R.slots) (hcl : cl.1 = C) (hrc : rm.cells = 0) (hrs : rm.slots = 0)
    (kk : ∀ (H1 : Heap) (locs1 : List Loc), va_P D vwCl (wb ++ wa') H1 → va_D A (wb ++ wa') → va_S A s.heap H1 locs1 → W p l e R s m args below meth c H1 locs1 cells slots Q (F0 m (pc + 3) ls (.int r :: rest))) : W p l e R s m args below meth c H locs cells slots Q (F0 m pc ls st) := by
  have hF := va_free (wc := wa) hD hS hA _ (cut_l wa wb)
  refine nx_i (rn_V (ci := ci) (q0 := 0) S hM hg hd hR hK hP hD hN hT hS hF _ (cut_l wa wb) (nd_l _) hc he hn hsize hst hW hdg hf hcl hrc hrs) hP hD hS hA (wr := wb) (w1 := wa') (ws' := wb ++ wa') _ _ (List.range (wb ++ wa').length) (cut_l wa wb) (cut_r wa wb) (nd_r _ _) (fun i hi hj => ?_) (by simpa using cut_l (wb ++ wa') []) (nd_l _) kk
  obtain ⟨j, -, rfl⟩ := List.mem_map.mp hi
  have := List.mem_range.mp hj
  omega
theorem lc_l {r : Int64} (S : CallFix p m c cc nL s args lw_G own) (hM : Met l y (Cond.code y bytes maxL ret :: lw_G) rm (PreC D tys (.ref b :: As) H.size wa) (QcL r D wa' (va_A wa H.size)) 0 0 (va_A wa H.size)) (hg : GoodIn lw_G (wsV own index C y (Cond.code y bytes maxL ret :: lw_G)))
    (hd : y.cls = C ∧ y.cls ≠ "java/lang/invoke/MethodHandle" ∧ y.cls ≠ "java/lang/invoke/VarHandle" ∧ (parseMethodDescriptor y.desc).map (fun d => d.parameters.length) = some n) (hR : rm.frames + 1 ≤ R.frames ∧ 8 + (maxL + 11) + rm.locals ≤ R.locals)
    (hK : va_K D vwCl tys s) (hP : va_P D vwCl (wa ++ wb) H) (hD : va_D A (wa ++ wb)) (hN : NW s) (hT : ST A s s.heap) (hS : va_S A s.heap H locs) (hA : ∀ q, s.heap.size ≤ q → A q)
    {ci : Nat} {cl : vw_C} {fs : List Value} (hc : vwCl[ci]? = some cl) (he : wa[0]? = some (b, .inr (ci, fs)))
    (hn : As.length = n) (hsize : ls.size = nL) (hst : st = As.reverse ++ .ref b :: rest) (hW : 2 * (F0 m pc ls st).monitorRoom + (rest.map fun v => v.category).sum ≤ 8) (hdg : decode cc pc = .ok (.invokevirtual index, 3)) (hf : cells + 0 ≤ R.cells ∧ slots + 0 ≤ R.slots) (hcl : cl.1 = C) (hrc : rm.cells = 0) (hrs : rm.slots = 0)
    (kk : ∀ (H1 : Heap) (locs1 : List Loc), va_P D vwCl (wb ++ wa') H1 → va_D A (wb ++ wa') → va_S A s.heap H1 locs1 → W p l e R s m args below meth c H1 locs1 cells slots Q (F0 m (pc + 3) ls (.long r :: rest))) : W p l e R s m args below meth c H locs cells slots Q (F0 m pc ls st) := by
  have hF := va_free (wc := wa) hD hS hA _ (cut_l wa wb)
  refine nx_l (rn_V (ci := ci) (q0 := 0) S hM hg hd hR hK hP hD hN hT hS hF _ (cut_l wa wb) (nd_l _) hc he hn hsize hst hW hdg hf hcl hrc hrs) hP hD hS hA (wr := wb) (w1 := wa') (ws' := wb ++ wa') _ _ (List.range (wb ++ wa').length) (cut_l wa wb) (cut_r wa wb) (nd_r _ _) (fun i hi hj => ?_) (by simpa using cut_l (wb ++ wa') []) (nd_l _) kk
  obtain ⟨j, -, rfl⟩ := List.mem_map.mp hi
  have := List.mem_range.mp hj
  omega
end TWO
/-! what a call of the law must give: one answer, and the relation again -/
def OpI (l : Launch) (dC : Nat → ClassId) (dI : Nat → Nat → Nat) (cB cI : ClassId) (Rel : va_W → va_W → Prop) (y1 : MethodName) (c1 : ByteArray) (n1 : Nat) (r1 : Room) (y2 : MethodName) (c2 : ByteArray) (n2 : Nat) (r2 : Room) (q0 m0 : Nat) (As : List Value) : Prop :=
  ∀ wF wM : va_W, Rel wF wM → ∃ (r : Int32) (wF' wM' : va_W), Rel wF' wM' ∧
    (∀ sz : Nat, Met l y1 (Cond.code y1 c1 n1 (some .int) :: lw_G) r1 (PreC (dC, dI) [(cB, .byte), (cI, .int)] (.ref q0 :: As) sz wF) (QcI r (dC, dI) wF' (va_A wF sz)) 0 0 (va_A wF sz)) ∧
    (∀ sz : Nat, Met l y2 (Cond.code y2 c2 n2 (some .int) :: lw_G) r2 (PreC (dC, dI) [(cB, .byte), (cI, .int)] (.ref m0 :: As) sz wM) (QcI r (dC, dI) wM' (va_A wM sz)) 0 0 (va_A wM sz))
def OpL (l : Launch) (dC : Nat → ClassId) (dI : Nat → Nat → Nat) (cB cI : ClassId) (Rel : va_W → va_W → Prop) (y1 : MethodName) (c1 : ByteArray) (n1 : Nat) (r1 : Room) (y2 : MethodName) (c2 : ByteArray) (n2 : Nat) (r2 : Room) (q0 m0 : Nat) (As : List Value) : Prop :=
  ∀ wF wM : va_W, Rel wF wM → ∃ (r : Int64) (wF' wM' : va_W), Rel wF' wM' ∧
    (∀ sz : Nat, Met l y1 (Cond.code y1 c1 n1 (some .long) :: lw_G) r1 (PreC (dC, dI) [(cB, .byte), (cI, .int)] (.ref q0 :: As) sz wF) (QcL r (dC, dI) wF' (va_A wF sz)) 0 0 (va_A wF sz)) ∧
    (∀ sz : Nat, Met l y2 (Cond.code y2 c2 n2 (some .long) :: lw_G) r2 (PreC (dC, dI) [(cB, .byte), (cI, .int)] (.ref m0 :: As) sz wM) (QcL r (dC, dI) wM' (va_A wM sz)) 0 0 (va_A wM sz))
/-! THE CLAIM OUT OF ONE WALK OF THE LAW'S BODY. Your part is whole_start (and what it stands on); all else here is the same for every law, but numbers. -/
def R_law : String := "FastBlocksLaw"
def lw_P (b : Addr) (xs : List Int32) (args : Array Value) (s : State) : Prop := args = #[.ref b] ∧ s.IntsAt b xs ∧ xs.length ≤ 384 ∧ (Jvm.Cond.and given_1 narrow_1).before args s = true
def lw_Q (_ : Array Value) (s : State) (o : Outcome) (t : State) : Prop := o = .returned (some (.int 1)) ∧ Framed s o t [] 600000 7302250
def lw_Z (below : List Frame) (a : Array Value) (s : State) : State → Prop := fun t => ∃ o, t.status = .running ∧ Ended t below o ∧ lw_Q a s o t
/-- the law's own end, with 1 on the stack, nothing written that was there before, its room as the claim has it -/
theorem lw_ret {p : Program} {l : Launch} {e : Env} {s : State} {m : MethodId} {below : List Frame} {meth : Method} {c : Code} {b : Nat} (hx : p.tables.exec = Jvm.exec) (hb : c.code = code) (hr : meth.sig.returnType = ret) (hlocks : meth.locks = false) {pc : Nat} {H : Heap} {ls : Array Slot} (hdg : decode code pc = .ok (.ireturn, 1)) : W p l e room_1 s m #[Value.ref b] below meth c H [] 600000 7302250 (lw_Z below #[Value.ref b] s) (F0 m pc ls [.int 1]) := by
  intro T hT X
  obtain ⟨fs, hret, hrun, hended, hW, hframe⟩ := X.leave (v := some (.int 1)) (hlocks := hlocks) (fun h => by rw [hr] at h; cases h)
  have hmeth' : T.vm.method? m = some meth := X.method'
  refine ⟨T.setFrames fs, ?_, .returned (some (.int 1)), hrun, hended, rfl, ⟨_, rfl⟩, hW, hframe⟩
  jvm_step X.here [X.here.top, hx, hb, hdg, hmeth', hr, ret, narrow_b1]
  (try refine ⟨rfl, ?_⟩); (try refine ⟨rfl, ?_⟩)
  first | (intro acts; rw [hret _ acts rfl rfl rfl]) | rw [hret _ _ rfl rfl rfl]
  exact Steps.refl _
/-- what holds at the law's entry: the machine, the code, the tables' words (any of lw_tbl by 'hts w (by decide +kernel)'), the script of L ints xs at the cell b, what the Statement gives of the start (any of its parts by flat_of_before) -/
def lw_At (p : Program) (s : State) (m : MethodId) (meth : Method) (c : Code) (b L : Nat) (xs : Nat → Int32) : Prop :=
  p.tables.exec = Jvm.exec ∧ c.code = code ∧ meth.sig.returnType = ret ∧ c.maxLocals = 4 ∧ s.vm.findClass R_law = some m.cls ∧ (∀ w ∈ lw_tbl, w.before #[Value.ref b] s = true) ∧ va_X b L xs s s.heap ∧ b < s.heap.size ∧ meth.locks = false ∧ (Jvm.Cond.and given_1 narrow_1).before #[Value.ref b] s = true
