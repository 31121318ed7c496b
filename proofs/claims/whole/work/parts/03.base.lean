/-! what every method's rows stand on: the words, the pure words of the turned methods, a method's contract, a call -/
def lw_G : List Cond := lw_tbl.filter goodWord
theorem mem_G {w : Cond} (i : Nat) (h : lw_tbl[i]? = some w) (hg : goodWord w = true) : w ∈ lw_G := List.mem_filter.mpr ⟨List.mem_of_getElem? h, hg⟩
theorem mem_T {w : Cond} (h : w ∈ tables_1) (hg : goodWord w = true) : w ∈ lw_G := List.mem_filter.mpr ⟨List.mem_append_right _ h, hg⟩
theorem mem_t1 {w : Cond} (i : Nat) (h : tables_1_1[i]? = some w) (hg : goodWord w = true) : w ∈ lw_G := mem_T (List.mem_append_left _ (List.mem_of_getElem? h)) hg
theorem mem_t2 {w : Cond} (i : Nat) (h : tables_1_2[i]? = some w) (hg : goodWord w = true) : w ∈ lw_G := mem_T (List.mem_append_right _ (List.mem_append_left _ (List.mem_of_getElem? h))) hg
theorem mem_t3 {w : Cond} (i : Nat) (h : tables_1_3[i]? = some w) (hg : goodWord w = true) : w ∈ lw_G := mem_T (List.mem_append_right _ (List.mem_append_right _ (List.mem_append_left _ (List.mem_of_getElem? h)))) hg
theorem mem_t4 {w : Cond} (i : Nat) (h : tables_1_4[i]? = some w) (hg : goodWord w = true) : w ∈ lw_G := mem_T (List.mem_append_right _ (List.mem_append_right _ (List.mem_append_right _ (List.mem_append_left _ (List.mem_of_getElem? h))))) hg
theorem mem_t5 {w : Cond} (i : Nat) (h : tables_1_5[i]? = some w) (hg : goodWord w = true) : w ∈ lw_G := mem_T (List.mem_append_right _ (List.mem_append_right _ (List.mem_append_right _ (List.mem_append_right _ (List.mem_append_left _ (List.mem_of_getElem? h)))))) hg
theorem mem_t6 {w : Cond} (i : Nat) (h : tables_1_6[i]? = some w) (hg : goodWord w = true) : w ∈ lw_G := mem_T (List.mem_append_right _ (List.mem_append_right _ (List.mem_append_right _ (List.mem_append_right _ (List.mem_append_right _ (List.mem_of_getElem? h)))))) hg
theorem mem_P {q : MethodName × Nat} (h : q ∈ lw_privs) : Cond.selects q.1.cls q.1 q.1 ∈ lw_G := List.mem_filter.mpr ⟨List.mem_append_left _ (List.mem_map.mpr ⟨q, h, rfl⟩), rfl⟩
theorem mem_p1 {q : MethodName × Nat} (i : Nat) (h : lw_privs_1[i]? = some q) : Cond.selects q.1.cls q.1 q.1 ∈ lw_G := mem_P (List.mem_append_left _ (List.mem_of_getElem? h))
theorem mem_p2 {q : MethodName × Nat} (i : Nat) (h : lw_privs_2[i]? = some q) : Cond.selects q.1.cls q.1 q.1 ∈ lw_G := mem_P (List.mem_append_right _ (List.mem_append_left _ (List.mem_of_getElem? h)))
theorem mem_p3 {q : MethodName × Nat} (i : Nat) (h : lw_privs_3[i]? = some q) : Cond.selects q.1.cls q.1 q.1 ∈ lw_G := mem_P (List.mem_append_right _ (List.mem_append_right _ (List.mem_append_left _ (List.mem_of_getElem? h))))
theorem mem_p4 {q : MethodName × Nat} (i : Nat) (h : lw_privs_4[i]? = some q) : Cond.selects q.1.cls q.1 q.1 ∈ lw_G := mem_P (List.mem_append_right _ (List.mem_append_right _ (List.mem_append_right _ (List.mem_append_left _ (List.mem_of_getElem? h)))))
theorem mem_p5 {q : MethodName × Nat} (i : Nat) (h : lw_privs_5[i]? = some q) : Cond.selects q.1.cls q.1 q.1 ∈ lw_G := mem_P (List.mem_append_right _ (List.mem_append_right _ (List.mem_append_right _ (List.mem_append_right _ (List.mem_append_left _ (List.mem_of_getElem? h))))))
theorem mem_p6 {q : MethodName × Nat} (i : Nat) (h : lw_privs_6[i]? = some q) : Cond.selects q.1.cls q.1 q.1 ∈ lw_G := mem_P (List.mem_append_right _ (List.mem_append_right _ (List.mem_append_right _ (List.mem_append_right _ (List.mem_append_right _ (List.mem_of_getElem? h))))))
theorem gi_all : GoodIn lw_G lw_G := fun _ h => ⟨h, good_of_word (List.mem_filter.mp h).2⟩
theorem gi_c {c : Cond} (h : c ∈ lw_G) : GoodIn lw_G (c :: lw_G) := fun w hw => by
  rcases List.mem_cons.mp hw with e | e
  · rw [e]; exact gi_all c h
  · exact gi_all w e
theorem gi_l {l ws : List Cond} (h : ∀ w ∈ l, w ∈ lw_G) (hw : GoodIn lw_G ws) : GoodIn lw_G (l ++ ws) := fun w hx => by
  rcases List.mem_append.mp hx with e | e
  · exact gi_all w (h w e)
  · exact hw w e
/-- the words that need the nest: their own list, apart from the good ones -/
def lw_N : List Cond := [
  .methodLinkNest "FastBlocks" 27 ⟨"FastBlocks$Text", "<init>", "()V"⟩ "FastBlocks",
  .methodLinkNest "FastBlocks$Packer" 11 ⟨"FastBlocks$Sequences", "<init>", "()V"⟩ "FastBlocks",
  .methodLinkNest "FastBlocks$Sequences" 3 ⟨"FastBlocks$Form", "<init>", "()V"⟩ "FastBlocks",
  .methodLinkNest "FastBlocks$Packer" 20 ⟨"FastBlocks$Elements", "<init>", "()V"⟩ "FastBlocks",
  .methodLinkNest "FastBlocks$Elements" 3 ⟨"FastBlocks$Form", "<init>", "()V"⟩ "FastBlocks",
  .methodLinkNest "FastBlocks$Packer" 26 ⟨"FastBlocks$BestRow", "<init>", "()V"⟩ "FastBlocks",
  .methodLinkNest "FastBlocks" 58 ⟨"FastBlocks$Blocks", "<init>", "()V"⟩ "FastBlocks",
  .declares ⟨"FastBlocks$Form", "limitAt", "(II)I"⟩,
  .declares ⟨"FastBlocks$Form", "mostCopy", "()I"⟩,
  .declares ⟨"FastBlocks$Form", "mostClose", "()I"⟩,
  .declares ⟨"FastBlocks$Form", "closeSpan", "()I"⟩,
  .declares ⟨"FastBlocks$Form", "leastCopy", "()I"⟩,
  .declares ⟨"FastBlocks$Form", "sameCostTo", "(II)I"⟩,
  .declares ⟨"FastBlocks$Form", "copyCost", "(II)I"⟩,
  .declares ⟨"FastBlocks$Form", "sameHeadTo", "(I)I"⟩,
  .declares ⟨"FastBlocks$Form", "headOf", "(I)I"⟩,
  .declares ⟨"FastBlocks$Form", "pieceOf", "(I)I"⟩,
  .declares ⟨"FastBlocks$Form", "writeHead", "(LFastBlocks$Bytes;I)V"⟩,
  .declares ⟨"FastBlocks$Form", "write", "(LFastBlocks$Text;LFastBlocks$Bytes;IIII)I"⟩,
  .fieldLinkNest "FastBlocks$Packer" 153 "FastBlocks" "FIRST_CHUNK" "[I" "FastBlocks",
  .fieldLinkNest "FastBlocks$Opener" 210 "FastBlocks" "FIRST_CHUNK" "[I" "FastBlocks"]
def nw_kind : Cond → Bool
  | .fieldLinkNest .. => true
  | .methodLinkNest .. => true
  | .declares .. => true
  | _ => false
def NW (U : State) : Prop := ∀ w ∈ lw_N, va_Nw w U
/-! pure words -/
def bnd {α β : Type} (e : α) (k : α → Option β) : Option β := k e
theorem bnd_at {α β : Type} {e y : α} {k : α → Option β} {o : β} (h : y = e) (hf : bnd e k = some o) : k y = some o := by rw [h]; exact hf
theorem bind_some {α β : Type} {a : Option α} {k : α → Option β} {o : β} (hf : a.bind k = some o) : ∃ x, a = some x ∧ k x = some o := by
  cases a with
  | none => cases hf
  | some x => exact ⟨x, rfl, hf⟩
theorem if_t {β : Type} {c : Prop} [Decidable c] {a b : Option β} {o : β} (h : c) (hf : (if c then a else b) = some o) : a = some o := by rw [if_pos h] at hf; exact hf
theorem if_f {β : Type} {c : Prop} [Decidable c] {a b : Option β} {o : β} (h : ¬ c) (hf : (if c then a else b) = some o) : b = some o := by rw [if_neg h] at hf; exact hf
/-- a place of a row of n -/
def chk {β : Type} (i : Int32) (n : Nat) (k : Option β) : Option β := if i < 0 ∨ n ≤ i.toNatClampNeg then none else k
theorem chk_some {β : Type} {i : Int32} {n : Nat} {k : Option β} {o : β} (hf : chk i n k = some o) : vp_in i n ∧ k = some o := by
  unfold chk at hf
  by_cases h : i < 0 ∨ n ≤ i.toNatClampNeg
  · rw [if_pos h] at hf; cases hf
  · rw [if_neg h] at hf; exact ⟨h, hf⟩
/-- a truth value -/
def bch {β : Type} (r : Int32) (k : Option β) : Option β := if r = 0 ∨ r = 1 then k else none
theorem bch_some {β : Type} {r : Int32} {k : Option β} {o : β} (hf : bch r k = some o) : narrow .boolean (.int r) = .int r ∧ k = some o := by
  unfold bch at hf
  by_cases h : r = 0 ∨ r = 1
  · rw [if_pos h] at hf
    exact ⟨by rcases h with h | h <;> subst h <;> rfl, hf⟩
  · rw [if_neg h] at hf; cases hf
/-- a divisor -/
def nzr {β : Type} (r : Int32) (k : Option β) : Option β := if r = 0 then none else k
theorem nzr_some {β : Type} {r : Int32} {k : Option β} {o : β} (hf : nzr r k = some o) : ¬ r = 0 ∧ k = some o := by
  unfold nzr at hf
  by_cases h : r = 0
  · rw [if_pos h] at hf; cases hf
  · rw [if_neg h] at hf; exact ⟨h, hf⟩
abbrev irem (x y : Int32) : Int32 := x - x / y * y
abbrev lrem (x y : Int64) : Int64 := x - x / y * y
abbrev iushr (x y : Int32) : Int32 := (x.toUInt32 >>> (y.toUInt32 &&& Int32.toUInt32 31)).toInt32
abbrev lushr (x : Int64) (y : Int32) : Int64 := (x.toUInt64 >>> (y.toInt64.toUInt64 &&& Int64.toUInt64 63)).toInt64
abbrev lshl (x : Int64) (y : Int32) : Int64 := x <<< (y.toInt64 &&& 63)
abbrev lshr (x : Int64) (y : Int32) : Int64 := x >>> (y.toInt64 &&& 63)
abbrev ishl (x y : Int32) : Int32 := x <<< (y &&& 31)
abbrev ishr (x y : Int32) : Int32 := x >>> (y &&& 31)
abbrev imax (x y : Int32) : Int32 := if x < y then y else x
abbrev imin (x y : Int32) : Int32 := if y < x then y else x
/-- a loop: the body goes on with a state, or leaves -/
def iter {S X : Type} (f : S → Option (S ⊕ X)) : Nat → S → Option X
  | 0, _ => none
  | n + 1, s => (f s).bind fun r => match r with
    | .inl s' => iter f n s'
    | .inr x => some x
theorem iter_succ {S X : Type} {f : S → Option (S ⊕ X)} {n : Nat} {s : S} {x : X} (h : iter f (n + 1) s = some x) : ∃ r, f s = some r ∧ ((∃ s', r = .inl s' ∧ iter f n s' = some x) ∨ r = .inr x) := by
  unfold iter at h
  obtain ⟨r, h1, h2⟩ := bind_some h
  refine ⟨r, h1, ?_⟩
  cases r with
  | inl s' => exact Or.inl ⟨s', rfl, h2⟩
  | inr y => exact Or.inr (congrArg _ (Option.some.inj h2))
theorem iter_back {S X : Type} {f : S → Option (S ⊕ X)} {n : Nat} {s : S} {x : X} {r : S ⊕ X} (h : some (.inl s) = some r) (hr : (∃ s', r = .inl s' ∧ iter f n s' = some x) ∨ r = .inr x) : iter f n s = some x := by
  cases h
  rcases hr with ⟨s', e, h⟩ | e
  · cases e; exact h
  · cases e
theorem iter_exit {S X : Type} {f : S → Option (S ⊕ X)} {n : Nat} {y x : X} {r : S ⊕ X} (h : some (.inr y) = some r) (hr : (∃ s', r = .inl s' ∧ iter f n s' = some x) ∨ r = .inr x) : x = y := by
  cases h
  rcases hr with ⟨s', e, h⟩ | e
  · cases e
  · cases e; rfl
def FU : Nat := 1048576
/-- System.arraycopy of one row of bytes to another -/
def acb {β : Type} (n0 n1 : Nat) (f g : Nat → Int32) (sp dp n : Int32) (k : (Nat → Int32) → Option β) : Option β :=
  if (¬ sp < 0 ∧ ¬ dp < 0 ∧ ¬ n < 0 ∧ sp.toNatClampNeg + n.toNatClampNeg ≤ n0 ∧ dp.toNatClampNeg + n.toNatClampNeg ≤ n1 ∧ ∀ i, i < n.toNatClampNeg → fits .byte (.int (f (sp.toNatClampNeg + i))) = true) then k (va_cpy f g sp.toNatClampNeg dp.toNatClampNeg n.toNatClampNeg) else none
theorem acb_some {β : Type} {n0 n1 : Nat} {f g : Nat → Int32} {sp dp n : Int32} {k : (Nat → Int32) → Option β} {o : β} (hf : acb n0 n1 f g sp dp n k = some o) :
    (¬ sp < 0 ∧ ¬ dp < 0 ∧ ¬ n < 0 ∧ sp.toNatClampNeg + n.toNatClampNeg ≤ n0 ∧ dp.toNatClampNeg + n.toNatClampNeg ≤ n1 ∧ ∀ i, i < n.toNatClampNeg → fits .byte (.int (f (sp.toNatClampNeg + i))) = true) ∧ k (va_cpy f g sp.toNatClampNeg dp.toNatClampNeg n.toNatClampNeg) = some o := by
  unfold acb at hf
  split at hf
  · rename_i h; exact ⟨h, hf⟩
  · cases hf
/-! the one static row -/
def fcv : Nat → Int32 := fun j => match j with | 0 => 115 | 1 => 78 | 2 => 97 | 3 => 80 | 4 => 112 | _ => 89
def fcT : Nat → Value := fun j => .int (fcv j)
def ST (A : Nat → Prop) (U : State) (H : Heap) : Prop := ∃ t : Nat, va_Z "FastBlocks" "FIRST_CHUNK" "[I" (.ref t) A U H ∧ va_T .int t 6 fcT A U H
theorem ST.to {A B : Nat → Prop} {s U : State} {H : Heap} {locs : List Loc} (h : ST A s s.heap) (hS : va_S A s.heap H locs) (hB : ∀ q, B q → A q) (hvm : s.vm.Alike U.vm) (hH : U.heap = H) : ST B U U.heap := by
  obtain ⟨t, h1, h2⟩ := h
  rw [hH]
  exact ⟨t, ((h1.kept (fun a h3 h4 => hS.2.1 a h3 h4)).narrow hB).moved hvm, ((h2.kept (fun a h3 h4 => hS.2.1 a h3 h4)).narrow hB).moved hvm⟩
theorem ST.same {A : Nat → Prop} {s U : State} {H : Heap} (h : ST A s H) (hvm : s.vm.Alike U.vm) : ST A U H := by
  obtain ⟨t, h1, h2⟩ := h
  exact ⟨t, h1.moved hvm, h2.moved hvm⟩
theorem NW.warm {s U : State} (hk : ∀ w ∈ lw_N, nw_kind w = true) (hW : s.WarmedH U.vm) (h : NW s) : NW U := by
  intro w hw
  have h1 := hk w hw
  have h2 := h w hw
  cases w <;> first | (simp [nw_kind] at h1; done) | exact h2.warmF hW | exact h2.warmM hW | exact h2.warmD hW
theorem lw_N_kind : ∀ w ∈ lw_N, nw_kind w = true := by decide +kernel
theorem NW.same {s U : State} (hvm : s.vm = U.vm) (h : NW s) : NW U := by
  intro w hw
  have h1 := lw_N_kind w hw
  have h2 := h w hw
  cases w <;> first | (simp [nw_kind] at h1; done) | exact va_Nw.same rfl hvm h2
/-! a method's start: its world, the tables, nothing shared; the nest's words; the static row -/
def PreC (D : va_G) (tys : List (ClassId × FieldType)) (av : List Value) (sz : Nat) (ws : va_W) : Array Value → State → Prop :=
  va_Pc av (fun U => U.heap.size = sz ∧ va_P D vwCl ws U.heap ∧ va_K D vwCl tys U ∧ va_D (fun _ => True) ws ∧ NW U ∧ ST (va_A ws sz) U U.heap)
theorem PreC.blind {D : va_G} {tys : List (ClassId × FieldType)} {av : List Value} {sz : Nat} {ws : va_W} : FrameBlind (PreC D tys av sz ws) := by
  intro a U g mk q
  obtain ⟨q0, q1, qP, qK, qD, qN, qS⟩ := q
  exact ⟨q0, q1, qP, va_K.moved (u := U) (U := U.calling g mk a) (Vm.Alike.refl U.vm) qK, qD, NW.same (s := U) (U := U.calling g mk a) rfl qN, ST.same (s := U) (U := U.calling g mk a) qS (Vm.Alike.refl U.vm)⟩
/-- a method's end -/
def QcI (r : Int32) (D : va_G) (w : va_W) (A : Nat → Prop) : Array Value → State → Outcome → State → Prop := va_Qi (fun r' (_ : Unit) => r' = r) (fun _ t => va_P D vwCl w t.heap ∧ va_D A w) A
def QcL (r : Int64) (D : va_G) (w : va_W) (A : Nat → Prop) : Array Value → State → Outcome → State → Prop := va_Ql (fun r' (_ : Unit) => r' = r) (fun _ t => va_P D vwCl w t.heap ∧ va_D A w) A
def QcV (D : va_G) (w : va_W) (A : Nat → Prop) : Array Value → State → Outcome → State → Prop := va_Qv (fun (_ : Unit) => True) (fun _ t => va_P D vwCl w t.heap ∧ va_D A w) A
theorem met_of {l : Launch} {y : MethodName} {cc : ByteArray} {maxL : Nat} {ret : Option FieldType} {rm : Room} {D : va_G} {tys : List (ClassId × FieldType)} {av : List Value} {sz : Nat} {ws : va_W} {Qf : (Nat → Prop) → Array Value → State → Outcome → State → Prop} {mc ms : Nat}
    (hy : plainName y.cls = true) (hlen : (lg_sl av).length ≤ maxL)
    (body : ∀ (p : Program) (e : Env) (s : State) (m : MethodId) (below : List Frame) (meth : Method) (c : Code) (A : Nat → Prop) (ls : Array Slot) (Q : State → Prop), p.tables.exec = Jvm.exec → c.code = cc → meth.sig.returnType = ret → c.maxLocals = maxL → s.vm.findClass y.cls = some m.cls → (∀ w ∈ lw_G, w.before av.toArray s = true) → meth.locks = false → meth.name = y.name →
      va_P D vwCl ws s.heap → va_K D vwCl tys s → va_D A ws → NW s → ST A s s.heap → (∀ q, s.heap.size ≤ q → A q) → lv_has ls maxL (lv_args 0 av) → Q = MQ below (Qf A) av.toArray s mc ms A → W p l e rm s m av.toArray below meth c s.heap [] 0 0 Q (F0 m 0 ls [])) :
    Met l y (Cond.code y cc maxL ret :: lw_G) rm (PreC D tys av sz ws) (Qf (va_A ws sz)) mc ms (va_A ws sz) := by
  refine Met.ofW (cc := cc) (maxL := maxL) (ret := ret) hy rfl ?_
  intro p e s m args below meth c s₁ B hml hv
  obtain ⟨rfl, hsz, hP, hK, hD0, hN, hT⟩ := hv
  have hts := atoms_spec (ws := Cond.code y cc maxL ret :: lw_G) B.pre
  subst hsz
  have hD := hD0.self (sz := s.heap.size)
  have hl := lv_entry av (n := maxL) hlen
  rw [lg_entry_eq]
  exact body p e s m below meth c _ _ _ B.exec B.bytes B.returns hml (findClass_of_methodNamed B.named) (fun w hw => hts w (List.mem_cons_of_mem _ hw)) B.notSynchronized (name_of_methodNamed B.named B.method).1 hP hK hD hN hT (fun q h => Or.inr h) hl rfl
section ENDS
variable {p : Program} {l : Launch} {e : Env} {R : Room} {s : State} {m : MethodId} {args : Array Value} {below : List Frame} {meth : Method} {c : Code} {H : Heap} {locs : List Loc} {cells slots : Nat} {Q : State → Prop}
variable {cc : ByteArray} {pc : Nat} {ls : Array Slot} {D : va_G} {A : Nat → Prop} {ws : va_W}
theorem rt_i {v : Int32} (hQ : Q = MQ below (QcI v D ws A) args s cells slots A) (hx : p.tables.exec = Jvm.exec) (hb : c.code = cc) (hr : meth.sig.returnType = some .int) (hlocks : meth.locks = false) (hP : va_P D vwCl ws H) (hD : va_D A ws) (hS : va_S A s.heap H locs) (hdg : decode cc pc = .ok (.ireturn, 1)) : W p l e R s m args below meth c H locs cells slots Q (F0 m pc ls [.int v]) := by
  subst hQ
  exact W.iret (v := v) hx hb hr (fun t ht hW => ⟨⟨v, (), rfl, rfl, by rw [ht]; exact hP, hD⟩, hS.F ht⟩) hS.2.2 hdg
theorem rt_z {v : Int32} {ty : FieldType} (hQ : Q = MQ below (QcI v D ws A) args s cells slots A) (hx : p.tables.exec = Jvm.exec) (hb : c.code = cc) (hr : meth.sig.returnType = some ty) (hn : narrow ty (.int v) = .int v) (hlocks : meth.locks = false) (hP : va_P D vwCl ws H) (hD : va_D A ws) (hS : va_S A s.heap H locs) (hdg : decode cc pc = .ok (.ireturn, 1)) : W p l e R s m args below meth c H locs cells slots Q (F0 m pc ls [.int v]) := by
  subst hQ
  exact W.zret (v := v) hx hb hr hn (fun t ht hW => ⟨⟨v, (), rfl, rfl, by rw [ht]; exact hP, hD⟩, hS.F ht⟩) hS.2.2 hdg
theorem rt_l {v : Int64} (hQ : Q = MQ below (QcL v D ws A) args s cells slots A) (hx : p.tables.exec = Jvm.exec) (hb : c.code = cc) (hr : meth.sig.returnType = some .long) (hlocks : meth.locks = false) (hP : va_P D vwCl ws H) (hD : va_D A ws) (hS : va_S A s.heap H locs) (hdg : decode cc pc = .ok (.lreturn, 1)) : W p l e R s m args below meth c H locs cells slots Q (F0 m pc ls [.long v]) := by
  subst hQ
  exact W.lret (v := v) hx hb hr (fun t ht hW => ⟨⟨v, (), rfl, rfl, by rw [ht]; exact hP, hD⟩, hS.F ht⟩) hS.2.2 hdg
theorem rt_v (hQ : Q = MQ below (QcV D ws A) args s cells slots A) (hx : p.tables.exec = Jvm.exec) (hb : c.code = cc) (hr : meth.sig.returnType = none) (hlocks : meth.locks = false) (hP : va_P D vwCl ws H) (hD : va_D A ws) (hS : va_S A s.heap H locs) (hdg : decode cc pc = .ok (.return_, 1)) : W p l e R s m args below meth c H locs cells slots Q (F0 m pc ls []) := by
  subst hQ
  exact W.vret hx hb hr (fun t ht hW => ⟨⟨(), rfl, trivial, by rw [ht]; exact hP, hD⟩, hS.F ht⟩) hS.2.2 hdg
end ENDS
/-! calls -/
theorem sub_fm {α : Type} {f : Nat → Option α} : ∀ {is : List Nat} {w : List α}, is.map f = w.map some → is.filterMap f = w
  | [], [], _ => rfl
  | [], _ :: _, h => by simp at h
  | _ :: _, [], h => by simp at h
  | i :: is, a :: w, h => by
    simp only [List.map_cons, List.cons.injEq] at h
    rw [List.filterMap_cons, h.1]
    exact congrArg (a :: ·) (sub_fm h.2)
theorem wV {own C : String} {idx : Nat} {y : MethodName} {cd : Cond} (h1 : Cond.methodLink own idx y ∈ lw_G) (h2 : Cond.instanceMethod y ∈ lw_G) (h3 : Cond.selects C y y ∈ lw_G) (h4 : Cond.initialized C ∈ lw_G) (h5 : cd ∈ lw_G) : GoodIn lw_G (wsV own idx C y (cd :: lw_G)) :=
  gi_l (List.forall_mem_cons.mpr ⟨h1, List.forall_mem_cons.mpr ⟨h2, List.forall_mem_cons.mpr ⟨h3, List.forall_mem_cons.mpr ⟨h4, fun _ h => absurd h List.not_mem_nil⟩⟩⟩⟩) (gi_c h5)
theorem wS {own : String} {idx : Nat} {y : MethodName} {cd : Cond} (h1 : Cond.methodLink own idx y ∈ lw_G) (h2 : Cond.static y ∈ lw_G) (h3 : Cond.initialized y.cls ∈ lw_G) (h5 : cd ∈ lw_G) : GoodIn lw_G (va_wsS own idx y (cd :: lw_G)) :=
  gi_l (List.forall_mem_cons.mpr ⟨h1, List.forall_mem_cons.mpr ⟨h2, List.forall_mem_cons.mpr ⟨h3, fun _ h => absurd h List.not_mem_nil⟩⟩⟩) (gi_c h5)
theorem wA {own C owner : String} {idx : Nat} {x y : MethodName} {cd : Cond} (h1 : Cond.methodLink own idx x ∈ lw_G) (h2 : Cond.sameMethod x.cls owner x.name x.desc ∈ lw_G) (h3 : Cond.selects C x y ∈ lw_G) (h4 : Cond.instanceMethod y ∈ lw_G) (h6 : Cond.initialized y.cls ∈ lw_G) (h5 : cd ∈ lw_G) : GoodIn lw_G (va_wsU own idx C owner x y (cd :: lw_G)) :=
  gi_l (List.forall_mem_cons.mpr ⟨h1, List.forall_mem_cons.mpr ⟨h2, List.forall_mem_cons.mpr ⟨h3, List.forall_mem_cons.mpr ⟨h4, List.forall_mem_cons.mpr ⟨h6, fun _ h => absurd h List.not_mem_nil⟩⟩⟩⟩⟩) (gi_c h5)
section CALLS
variable {p : Program} {l : Launch} {e : Env} {R : Room} {s : State} {m : MethodId} {args : Array Value} {below : List Frame} {meth : Method} {c : Code} {H : Heap} {locs : List Loc} {cells slots : Nat} {Q : State → Prop}
variable {cc bytes : ByteArray} {pc index n nL maxL mc ms : Nat} {ls : Array Slot} {D : va_G} {A : Nat → Prop} {ws wc : va_W} {tys : List (ClassId × FieldType)} {own C : String} {x y : MethodName} {ret : Option FieldType} {rm : Room} {b : Nat} {As rest st : List Value} {Qc : Array Value → State → Outcome → State → Prop} {free : Addr → Prop}
theorem pre_S {av : List Value} (hK : va_K D vwCl tys s) (hP : va_P D vwCl ws H) (hD : va_D A ws) (hN : NW s) (hT : ST A s s.heap) (hS : va_S A s.heap H locs) (hF : ∀ q, va_A wc H.size q → A q) (isC : List Nat) (hC : isC.map (fun i => ws[i]?) = wc.map some) (hnd : va_nd isC = true) : PreS s H (PreC D tys av H.size wc) av :=
  ⟨PreC.blind, fun U hU hW => ⟨rfl, by rw [hU], by rw [hU]; exact hP.sub isC (sub_fm hC), va_K.moved hW.alike hK, (hD.sub isC hnd hC).weaken (fun _ _ _ _ => trivial), NW.warm lw_N_kind hW hN, ST.to hT hS hF hW.alike hU⟩⟩
theorem rn_V (S : CallFix p m c cc nL s args lw_G own) (hM : Met l y (Cond.code y bytes maxL ret :: lw_G) rm (PreC D tys (.ref b :: As) H.size wc) Qc mc ms free) (hg : GoodIn lw_G (wsV own index C y (Cond.code y bytes maxL ret :: lw_G)))
    (hd : y.cls = C ∧ y.cls ≠ "java/lang/invoke/MethodHandle" ∧ y.cls ≠ "java/lang/invoke/VarHandle" ∧ (parseMethodDescriptor y.desc).map (fun d => d.parameters.length) = some n) (hR : rm.frames + 1 ≤ R.frames ∧ 8 + (maxL + 11) + rm.locals ≤ R.locals)
    (hK : va_K D vwCl tys s) (hP : va_P D vwCl ws H) (hD : va_D A ws) (hN : NW s) (hT : ST A s s.heap) (hS : va_S A s.heap H locs) (hF : ∀ q, va_A wc H.size q → A q) (isC : List Nat) (hC : isC.map (fun i => ws[i]?) = wc.map some) (hnd : va_nd isC = true)
    {ci q0 : Nat} {cl : vw_C} {fs : List Value} (hc : vwCl[ci]? = some cl) (he : wc[q0]? = some (b, .inr (ci, fs)))
    (hn : As.length = n) (hsize : ls.size = nL) (hst : st = As.reverse ++ .ref b :: rest) (hW : 2 * (F0 m pc ls st).monitorRoom + (rest.map fun v => v.category).sum ≤ 8) (hdg : decode cc pc = .ok (.invokevirtual index, 3)) (hf : cells + mc ≤ R.cells ∧ slots + ms ≤ R.slots) (hcl : cl.1 = C := by rfl) (hrc : rm.cells = mc := by rfl) (hrs : rm.slots = ms := by rfl) :
    va_Run p l e R s m args below meth c H locs cells slots mc ms (F0 m pc ls st) rest (Qc (Value.ref b :: As).toArray) free := by
  obtain ⟨h1, h2⟩ := pre_S (av := .ref b :: As) hK hP hD hN hT hS hF isC hC hnd
  have h3 := va_recv hK (hP.sub isC (sub_fm hC)) hc he
  rw [hcl] at h3
  exact va_runV S hM (cwV n S.2.2.2.2 hg rfl hrc hrs hd hR) ⟨h1, h3, h2⟩ rfl hn hsize hst hW hdg hf
theorem rn_S (S : CallFix p m c cc nL s args lw_G own) (hM : Met l y (Cond.code y bytes maxL ret :: lw_G) rm (PreC D tys As H.size wc) Qc mc ms free) (hg : GoodIn lw_G (va_wsS own index y (Cond.code y bytes maxL ret :: lw_G)))
    (hd : y.cls ≠ "java/lang/invoke/MethodHandle" ∧ y.cls ≠ "java/lang/invoke/VarHandle" ∧ (parseMethodDescriptor y.desc).map (fun d => d.parameters.length) = some n) (hR : rm.frames + 1 ≤ R.frames ∧ 8 + (maxL + 11) + rm.locals ≤ R.locals)
    (hK : va_K D vwCl tys s) (hP : va_P D vwCl ws H) (hD : va_D A ws) (hN : NW s) (hT : ST A s s.heap) (hS : va_S A s.heap H locs) (hF : ∀ q, va_A wc H.size q → A q) (isC : List Nat) (hC : isC.map (fun i => ws[i]?) = wc.map some) (hnd : va_nd isC = true)
    (hn : As.length = n) (hsize : ls.size = nL) (hst : st = As.reverse ++ rest) (hW : 2 * (F0 m pc ls st).monitorRoom + (rest.map fun v => v.category).sum ≤ 8) (hdg : decode cc pc = .ok (.invokestatic index, 3)) (hf : cells + mc ≤ R.cells ∧ slots + ms ≤ R.slots) (hrc : rm.cells = mc := by rfl) (hrs : rm.slots = ms := by rfl) :
    va_Run p l e R s m args below meth c H locs cells slots mc ms (F0 m pc ls st) rest (Qc As.toArray) free :=
  va_runS S hM (va_cwS n S.2.2.2.2 hg rfl hrc hrs hd hR) (pre_S hK hP hD hN hT hS hF isC hC hnd) rfl hn hsize hst hW hdg hf
theorem rn_A (S : CallFix p m c cc nL s args lw_G own) (hM : Met l y (Cond.code y bytes maxL ret :: lw_G) rm (PreC D tys (.ref b :: As) H.size wc) Qc mc ms free) (hg : GoodIn lw_G (va_wsU own index C x.cls x y (Cond.code y bytes maxL ret :: lw_G))) (hz : va_Nw (.declares ⟨x.cls, x.name, x.desc⟩) s)
    (hd : x.cls ≠ "java/lang/invoke/MethodHandle" ∧ x.cls ≠ "java/lang/invoke/VarHandle" ∧ (parseMethodDescriptor x.desc).map (fun d => d.parameters.length) = some n) (hR : rm.frames + 1 ≤ R.frames ∧ 8 + (maxL + 11) + rm.locals ≤ R.locals)
    (hK : va_K D vwCl tys s) (hP : va_P D vwCl ws H) (hD : va_D A ws) (hN : NW s) (hT : ST A s s.heap) (hS : va_S A s.heap H locs) (hF : ∀ q, va_A wc H.size q → A q) (isC : List Nat) (hC : isC.map (fun i => ws[i]?) = wc.map some) (hnd : va_nd isC = true)
    {ci q0 : Nat} {cl : vw_C} {fs : List Value} (hc : vwCl[ci]? = some cl) (he : wc[q0]? = some (b, .inr (ci, fs)))
    (hn : As.length = n) (hsize : ls.size = nL) (hst : st = As.reverse ++ .ref b :: rest) (hW : 2 * (F0 m pc ls st).monitorRoom + (rest.map fun v => v.category).sum ≤ 8) (hdg : decode cc pc = .ok (.invokevirtual index, 3)) (hf : cells + mc ≤ R.cells ∧ slots + ms ≤ R.slots) (hcl : cl.1 = C := by rfl) (hrc : rm.cells = mc := by rfl) (hrs : rm.slots = ms := by rfl) :
    va_Run p l e R s m args below meth c H locs cells slots mc ms (F0 m pc ls st) rest (Qc (Value.ref b :: As).toArray) free := by
  obtain ⟨h1, h2⟩ := pre_S (av := .ref b :: As) hK hP hD hN hT hS hF isC hC hnd
  have h3 := va_recv hK (hP.sub isC (sub_fm hC)) hc he
  rw [hcl] at h3
  exact va_runU S hM (va_cwA n S.2.2.2.2 hg rfl hrc hrs hz hd hR) ⟨h1, h3, h2⟩ rfl hn hsize hst hW hdg hf
variable {wr w1 ws' : va_W} {a : Array Value}
theorem nx_i {r : Int32} (hr : va_Run p l e R s m args below meth c H locs cells slots 0 0 (F0 m pc ls st) rest (QcI r D w1 (va_A wc H.size) a) (va_A wc H.size)) (hP : va_P D vwCl ws H) (hD : va_D A ws) (hS : va_S A s.heap H locs) (hA : ∀ q, s.heap.size ≤ q → A q) (isC isR perm : List Nat) (hC : isC.map (fun i => ws[i]?) = wc.map some) (hR : isR.map (fun i => ws[i]?) = wr.map some) (hn : va_nd isR = true) (hdis : ∀ i ∈ isR, i ∉ isC) (hp : perm.map (fun i => (wr ++ w1)[i]?) = ws'.map some) (hpn : va_nd perm = true)
    (kk : ∀ (H1 : Heap) (locs1 : List Loc), va_P D vwCl ws' H1 → va_D A ws' → va_S A s.heap H1 locs1 → W p l e R s m args below meth c H1 locs1 cells slots Q (F0 m (pc + 3) ls (.int r :: rest))) : W p l e R s m args below meth c H locs cells slots Q (F0 m pc ls st) := by
  have hF := va_free (wc := wc) hD hS hA isC hC
  refine va_calli hr hS (fun q _ h => hF q h) hF (fun r' u t H1 locs1 ht hvm hw hB hz1 hk1 hS1 => ?_)
  obtain ⟨hP1, hD1⟩ := hB
  rw [ht] at hP1
  obtain ⟨hP2, hD2⟩ := va_join hP hD isC isR hC hR hn hdis hk1 hF hP1 hD1
  subst hw
  exact kk H1 locs1 (hP2.sub perm (sub_fm hp)) (hD2.sub perm hpn hp) hS1
theorem nx_l {r : Int64} (hr : va_Run p l e R s m args below meth c H locs cells slots 0 0 (F0 m pc ls st) rest (QcL r D w1 (va_A wc H.size) a) (va_A wc H.size)) (hP : va_P D vwCl ws H) (hD : va_D A ws) (hS : va_S A s.heap H locs) (hA : ∀ q, s.heap.size ≤ q → A q) (isC isR perm : List Nat) (hC : isC.map (fun i => ws[i]?) = wc.map some) (hR : isR.map (fun i => ws[i]?) = wr.map some) (hn : va_nd isR = true) (hdis : ∀ i ∈ isR, i ∉ isC) (hp : perm.map (fun i => (wr ++ w1)[i]?) = ws'.map some) (hpn : va_nd perm = true)
    (kk : ∀ (H1 : Heap) (locs1 : List Loc), va_P D vwCl ws' H1 → va_D A ws' → va_S A s.heap H1 locs1 → W p l e R s m args below meth c H1 locs1 cells slots Q (F0 m (pc + 3) ls (.long r :: rest))) : W p l e R s m args below meth c H locs cells slots Q (F0 m pc ls st) := by
  have hF := va_free (wc := wc) hD hS hA isC hC
  refine va_calll hr hS (fun q _ h => hF q h) hF (fun r' u t H1 locs1 ht hvm hw hB hz1 hk1 hS1 => ?_)
  obtain ⟨hP1, hD1⟩ := hB
  rw [ht] at hP1
  obtain ⟨hP2, hD2⟩ := va_join hP hD isC isR hC hR hn hdis hk1 hF hP1 hD1
  subst hw
  exact kk H1 locs1 (hP2.sub perm (sub_fm hp)) (hD2.sub perm hpn hp) hS1
theorem nx_v (hr : va_Run p l e R s m args below meth c H locs cells slots 0 0 (F0 m pc ls st) rest (QcV D w1 (va_A wc H.size) a) (va_A wc H.size)) (hP : va_P D vwCl ws H) (hD : va_D A ws) (hS : va_S A s.heap H locs) (hA : ∀ q, s.heap.size ≤ q → A q) (isC isR perm : List Nat) (hC : isC.map (fun i => ws[i]?) = wc.map some) (hR : isR.map (fun i => ws[i]?) = wr.map some) (hn : va_nd isR = true) (hdis : ∀ i ∈ isR, i ∉ isC) (hp : perm.map (fun i => (wr ++ w1)[i]?) = ws'.map some) (hpn : va_nd perm = true)
    (kk : ∀ (H1 : Heap) (locs1 : List Loc), va_P D vwCl ws' H1 → va_D A ws' → va_S A s.heap H1 locs1 → W p l e R s m args below meth c H1 locs1 cells slots Q (F0 m (pc + 3) ls rest)) : W p l e R s m args below meth c H locs cells slots Q (F0 m pc ls st) := by
  have hF := va_free (wc := wc) hD hS hA isC hC
  refine va_callv hr hS (fun q _ h => hF q h) hF (fun u t H1 locs1 ht hvm hw hB hz1 hk1 hS1 => ?_)
  obtain ⟨hP1, hD1⟩ := hB
  rw [ht] at hP1
  obtain ⟨hP2, hD2⟩ := va_join hP hD isC isR hC hR hn hdis hk1 hF hP1 hD1
  exact kk H1 locs1 (hP2.sub perm (sub_fm hp)) (hD2.sub perm hpn hp) hS1
end CALLS
