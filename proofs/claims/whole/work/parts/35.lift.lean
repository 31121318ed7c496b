/-! a method's contract on a larger world: the rest stays -/
section LIFT
variable {l : Launch} {y : MethodName} {cd : Cond} {rm : Room} {D : va_G} {tys : List (ClassId × FieldType)} {av : List Value} {sz : Nat} {ws wc wr w1 ws' : va_W}
theorem fr_sub (isC : List Nat) (hC : isC.map (fun i => ws[i]?) = wc.map some) : ∀ q, va_A wc sz q → va_A ws sz q := by
  intro q h
  rcases h with ⟨k, e, h⟩ | h
  · have h1 : (isC.map (fun i => ws[i]?))[k]? = some (some (q, e)) := by rw [hC, List.getElem?_map, h]; rfl
    rw [List.getElem?_map] at h1
    cases hi : isC[k]? with
    | none => rw [hi] at h1; cases h1
    | some i => rw [hi] at h1; exact Or.inl ⟨i, e, Option.some.inj h1⟩
  · exact Or.inr h
theorem fr_pre (isC : List Nat) (hC : isC.map (fun i => ws[i]?) = wc.map some) (hnd : va_nd isC = true) (a : Array Value) (s : State) (h : PreC D tys av sz ws a s) : PreC D tys av sz wc a s := by
  obtain ⟨rfl, hsz, hP, hK, hD, hN, t, hZ, hT⟩ := h
  exact ⟨rfl, hsz, hP.sub isC (sub_fm hC), hK, hD.sub isC hnd hC, hN, t, hZ.narrow (fr_sub isC hC), hT.narrow (fr_sub isC hC)⟩
theorem fr_post (isC isR perm : List Nat) (hC : isC.map (fun i => ws[i]?) = wc.map some) (hR : isR.map (fun i => ws[i]?) = wr.map some) (hn : va_nd isR = true) (hdis : ∀ i ∈ isR, i ∉ isC) (hp : perm.map (fun i => (wr ++ w1)[i]?) = ws'.map some) (hpn : va_nd perm = true) {a : Array Value} {s t : State} (h : PreC D tys av sz ws a s) (hF : va_F (va_A wc sz) s t) (hP1 : va_P D vwCl w1 t.heap) (hD1 : va_D (va_A wc sz) w1) :
    va_P D vwCl ws' t.heap ∧ va_D (va_A ws sz) ws' ∧ va_F (va_A ws sz) s t := by
  obtain ⟨rfl, hsz, hP, hK, hD, hN, hT⟩ := h
  subst hsz
  obtain ⟨hP2, hD2⟩ := va_join (H1 := t.heap) hP (hD.self (sz := s.heap.size)) isC isR hC hR hn hdis hF.2 (fr_sub isC hC) hP1 hD1
  exact ⟨hP2.sub perm (sub_fm hp), hD2.sub perm hpn hp, hF.1, fun q h1 h2 => hF.2 q h1 (fun z => h2 (fr_sub isC hC q z))⟩
theorem fr_i {r : Int32} (hM : Met l y (cd :: lw_G) rm (PreC D tys av sz wc) (QcI r D w1 (va_A wc sz)) 0 0 (va_A wc sz)) (isC isR perm : List Nat) (hC : isC.map (fun i => ws[i]?) = wc.map some) (hnd : va_nd isC = true) (hR : isR.map (fun i => ws[i]?) = wr.map some) (hn : va_nd isR = true) (hdis : ∀ i ∈ isR, i ∉ isC) (hp : perm.map (fun i => (wr ++ w1)[i]?) = ws'.map some) (hpn : va_nd perm = true) :
    Met l y (cd :: lw_G) rm (PreC D tys av sz ws) (QcI r D ws' (va_A ws sz)) 0 0 (va_A ws sz) := by
  refine MetFree.mono hM (fr_pre isC hC hnd) (fun _ _ _ _ _ h => h) ?_
  intro a s o t hpre hq
  obtain ⟨⟨⟨r', u, ho, hr, hP1, hD1⟩, hF⟩, L, hL, hfr⟩ := hq
  obtain ⟨g1, g2, g3⟩ := fr_post isC isR perm hC hR hn hdis hp hpn hpre hF hP1 hD1
  exact ⟨⟨⟨r', u, ho, hr, g1, g2⟩, g3⟩, L, hL, fun q hq => fr_sub isC hC _ (hfr q hq)⟩
theorem fr_l {r : Int64} (hM : Met l y (cd :: lw_G) rm (PreC D tys av sz wc) (QcL r D w1 (va_A wc sz)) 0 0 (va_A wc sz)) (isC isR perm : List Nat) (hC : isC.map (fun i => ws[i]?) = wc.map some) (hnd : va_nd isC = true) (hR : isR.map (fun i => ws[i]?) = wr.map some) (hn : va_nd isR = true) (hdis : ∀ i ∈ isR, i ∉ isC) (hp : perm.map (fun i => (wr ++ w1)[i]?) = ws'.map some) (hpn : va_nd perm = true) :
    Met l y (cd :: lw_G) rm (PreC D tys av sz ws) (QcL r D ws' (va_A ws sz)) 0 0 (va_A ws sz) := by
  refine MetFree.mono hM (fr_pre isC hC hnd) (fun _ _ _ _ _ h => h) ?_
  intro a s o t hpre hq
  obtain ⟨⟨⟨r', u, ho, hr, hP1, hD1⟩, hF⟩, L, hL, hfr⟩ := hq
  obtain ⟨g1, g2, g3⟩ := fr_post isC isR perm hC hR hn hdis hp hpn hpre hF hP1 hD1
  exact ⟨⟨⟨r', u, ho, hr, g1, g2⟩, g3⟩, L, hL, fun q hq => fr_sub isC hC _ (hfr q hq)⟩
end LIFT
