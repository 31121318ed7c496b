/-! bytes that are added to a number; copies -/
theorem ok2_bindK {α β γ δ : Type} {m : Option α} {m' : Option β} {k : α → Option γ} {k' : β → Option δ} {P : γ → δ → Prop} (h : ok2 m m' (fun a b => ok2 (k a) (k' b) P)) : ok2 (m.bind k) (m'.bind k') P := ok2_bind h (fun _ _ q => q)
theorem bch0 {β : Type} (k : Option β) : bch 0 k = k := if_pos (Or.inl rfl)
theorem bch1 {β : Type} (k : Option β) : bch 1 k = k := if_pos (Or.inr rfl)
def ad (xs : List Int) (e : Nat) : Nat → Nat → Nat → Option (Nat × Nat)
  | 0, _, _ => none
  | f + 1, p, v => if e ≤ p then none else if by_ xs p = 255 then ad xs e f (p + 1) (v + 255) else some (p + 1, v + by_ xs p)
theorem ad_in {xs : List Int} (hy : BY xs) {e : Nat} : ∀ {f p v q w : Nat}, ad xs e f p v = some (q, w) → p < q ∧ q ≤ e ∧ v ≤ w ∧ w ≤ v + 255 * (q - p)
  | 0, p, v, q, w, h => by rw [ad] at h; cases h
  | f + 1, p, v, q, w, h => by
    rw [ad] at h
    by_cases c : e ≤ p
    · rw [if_pos c] at h; cases h
    · rw [if_neg c] at h
      by_cases c2 : by_ xs p = 255
      · rw [if_pos c2] at h
        have := ad_in hy h
        omega
      · rw [if_neg c2] at h
        cases h
        have := hy.lt p
        omega
def wa (xs : List Int) (e p m : Nat) : Option (Nat × Nat) := if m = 15 then ad xs e (e - p + 1) p 15 else some (p, m)
theorem wa_in {xs : List Int} (hy : BY xs) {e p m q w : Nat} (hp : p ≤ e) (h : wa xs e p m = some (q, w)) : p ≤ q ∧ q ≤ e ∧ w ≤ m + 255 * (q - p) := by
  unfold wa at h
  by_cases c : m = 15
  · rw [if_pos c] at h
    have := ad_in hy h
    omega
  · rw [if_neg c] at h
    cases h
    omega
theorem s_wloop {icnt : Int32} {iF : Nat → Int32} {inp : List Int} (b1 : BR 4000 icnt iF inp) {e p m l : Nat} (he : e ≤ 4000) (hp : p ≤ e) (hml : (l = 255 ∧ m = 15) ∨ (l = 0 ∧ m < 15)) : ok (m_Opener_withAdded_J15 (iI m) (iI p) (iI e) icnt 4000 iF (iI l)) (fun o => (∃ q w : Nat, wa inp e p m = some (q, w) ∧ o.1 = iI w ∧ o.2 = iI q) ∨ (wa inp e p m = none ∧ o.1 = iI (-1))) := by
  have hy := b1.by
  unfold m_Opener_withAdded_J15
  have h0 : (l = 255 ∧ p = p + 0 ∧ p ≤ e ∧ m = 15 + 255 * 0 ∧ ad inp e (e - p + 1) p m = wa inp e p m) ∨ (l < 255 ∧ wa inp e p m = some (p, m)) := by
    unfold wa
    rcases hml with ⟨rfl, rfl⟩ | ⟨rfl, h⟩
    · exact Or.inl ⟨rfl, rfl, hp, rfl, by rw [if_pos rfl]⟩
    · exact Or.inr ⟨by omega, by rw [if_neg (by omega)]⟩
  generalize hT : wa inp e p m = T at h0
  refine ok_bind (Q := fun o => ∃ q w l : Nat, o = (iI q, iI w, iI l) ∧ ((l = 255 ∧ T = none) ∨ (l < 255 ∧ T = some (q, w)))) ?_ ?_
  · refine ok_loop (fun k s => ∃ q w l : Nat, s = (iI q, iI w, iI l) ∧ ((l = 255 ∧ q = p + k ∧ q ≤ e ∧ w = 15 + 255 * k ∧ ad inp e (e - q + 1) q w = T) ∨ (l < 255 ∧ T = some (q, w)))) (e - p + 1) (by omega) ⟨p, m, l, rfl, h0⟩ ?_
    rintro k s hk ⟨q, w, l, rfl, e1⟩
    unfold m_Opener_withAdded_B16
    dsimp only
    rw [lit_255]
    rcases e1 with ⟨rfl, e2, e3, e4, e5⟩ | ⟨e2, e3⟩
    · rw [if_eqT (by omega) (by omega) (by omega)]
      rw [ad] at e5
      by_cases c2 : e ≤ q
      · rw [if_leT (by omega) (by omega) (by omega)]
        rw [if_pos c2] at e5
        exact ok_end ⟨q, w, 255, rfl, Or.inl ⟨rfl, e5.symm⟩⟩
      · rw [if_neg c2] at e5
        have hlt := hy.lt q
        rw [if_leF (by omega) (by omega) (by omega), s_byteAt b1 (by omega) (by omega), Option.bind_some, bnd_eq, bnd_eq, iI_add, lit_1, iI_add]
        refine ok_go ⟨k + 1, by omega, by omega, q + 1, w + by_ inp q, by_ inp q, rfl, ?_⟩
        by_cases c3 : by_ inp q = 255
        · rw [if_pos c3] at e5
          refine Or.inl ⟨c3, by omega, by omega, by omega, ?_⟩
          rw [show e - (q + 1) + 1 = e - q by omega, c3]
          exact e5
        · rw [if_neg c3] at e5
          exact Or.inr ⟨by omega, e5.symm⟩
    · rw [if_eqF (by omega) (by omega) (by omega)]
      exact ok_end ⟨q, w, l, rfl, Or.inr ⟨e2, e3⟩⟩
  · rintro o ⟨q, w, l, rfl, e1⟩
    unfold m_Opener_withAdded_E63
    dsimp only
    rw [lit_255]
    rcases e1 with ⟨rfl, e2⟩ | ⟨e2, e3⟩
    · rw [if_eqT (by omega) (by omega) (by omega)]
      exact ok_some (Or.inr ⟨e2, rfl⟩)
    · rw [if_eqF (by omega) (by omega) (by omega)]
      exact ok_some (Or.inl ⟨q, w, e3, rfl, rfl⟩)
theorem s_withAdded {icnt : Int32} {iF : Nat → Int32} {inp : List Int} (b1 : BR 4000 icnt iF inp) {e p m : Nat} (he : e ≤ 4000) (hp : p ≤ e) (hm : m ≤ 15) : ok (m_Opener_withAdded (iI m) (iI p) (iI e) icnt 4000 iF) (fun o => (∃ q w : Nat, wa inp e p m = some (q, w) ∧ o.1 = iI w ∧ o.2 = iI q) ∨ (wa inp e p m = none ∧ o.1 = iI (-1))) := by
  unfold m_Opener_withAdded
  by_cases c : m = 15
  · rw [lit_15, if_eqT (by omega) (by omega) (by omega)]
    exact s_wloop b1 (l := 255) he hp (Or.inl ⟨rfl, c⟩)
  · rw [lit_15, if_eqF (by omega) (by omega) (by omega)]
    exact s_wloop b1 (l := 0) he hp (Or.inr ⟨rfl, by omega⟩)
theorem t_wloop1 {mi : Int32} {mif : Nat → Int32} {inp : List Int} (b2 : MR mi mif inp) (hy : BY inp) (hin : inp.length ≤ 4000) {e p : Nat} (he : e ≤ inp.length) (hp : p ≤ e) (f24 : Nat → Int32) (g25 g26 g27 g29 : Int32) : ok (iter (fun st => m_Mo_readSequences_B93 (iI e) 4000 mif f24 g25 g26 g27 g29 st.1 st.2.1 st.2.2) FU (iI p, iI 15, 255)) (fun o => (∃ q w : Nat, wa inp e p 15 = some (q, w) ∧ o = .inl (iI q, iI w)) ∨ (wa inp e p 15 = none ∧ ∃ x, o = .inr (.inr (.inr (.inr (0, g29, g25, g26, g27, 1, iI e, x, f24)))))) := by
  have hT0 : ad inp e (e - p + 1) p 15 = wa inp e p 15 := by unfold wa; rw [if_pos rfl]
  generalize hT : wa inp e p 15 = T at hT0
  refine ok_loop (fun k s => ∃ q w l : Nat, s = (iI q, iI w, iI l) ∧ ((l = 255 ∧ q = p + k ∧ q ≤ e ∧ w = 15 + 255 * k ∧ ad inp e (e - q + 1) q w = T) ∨ (l < 255 ∧ T = some (q, w)))) (e - p + 1) (by omega) ⟨p, 15, 255, rfl, Or.inl ⟨rfl, rfl, hp, rfl, hT0⟩⟩ ?_
  rintro k s hk ⟨q, w, l, rfl, e1⟩
  unfold m_Mo_readSequences_B93 m_Mo_no
  dsimp only
  rw [lit_255]
  rcases e1 with ⟨rfl, e2, e3, e4, e5⟩ | ⟨e2, e3⟩
  · rw [if_eqT (by omega) (by omega) (by omega)]
    rw [ad] at e5
    by_cases c2 : e ≤ q
    · rw [if_ltF (by omega) (by omega) (by omega), Option.bind_some, bch0]
      rw [if_pos c2] at e5
      exact ok_end (Or.inr ⟨e5.symm, _, rfl⟩)
    · rw [if_neg c2] at e5
      have hlt := hy.lt q
      rw [if_ltT (by omega) (by omega) (by omega), chk_iI (by omega) (by omega), iI_clamp (by omega) (by omega), Int.toNat_natCast, t_byteAt b2 (by omega), bnd_eq, bnd_eq, bnd_eq, iI_add, lit_1, iI_add]
      refine ok_go ⟨k + 1, by omega, by omega, q + 1, w + by_ inp q, by_ inp q, rfl, ?_⟩
      by_cases c3 : by_ inp q = 255
      · rw [if_pos c3] at e5
        refine Or.inl ⟨c3, by omega, by omega, by omega, ?_⟩
        rw [show e - (q + 1) + 1 = e - q by omega, c3]
        exact e5
      · rw [if_neg c3] at e5
        exact Or.inr ⟨by omega, e5.symm⟩
  · rw [if_eqF (by omega) (by omega) (by omega)]
    exact ok_end (Or.inl ⟨q, w, e3, rfl⟩)
theorem t_wloop2 {mi : Int32} {mif : Nat → Int32} {inp : List Int} (b2 : MR mi mif inp) (hy : BY inp) (hin : inp.length ≤ 4000) {e p : Nat} (he : e ≤ inp.length) (hp : p ≤ e) (f38 : Nat → Int32) (g25 p36 p37 g40 : Int32) : ok (iter (fun st => m_Mo_readSequences_B395 (iI e) 4000 mif g25 p36 p37 f38 g40 st.1 st.2.1 st.2.2) FU (iI p, iI 15, 255)) (fun o => (∃ q w : Nat, wa inp e p 15 = some (q, w) ∧ o = .inl (iI q, iI w)) ∨ (wa inp e p 15 = none ∧ ∃ x, o = .inr (.inr (.inr (.inr (0, g40, g25, p37, p36, 1, iI e, x, f38)))))) := by
  have hT0 : ad inp e (e - p + 1) p 15 = wa inp e p 15 := by unfold wa; rw [if_pos rfl]
  generalize hT : wa inp e p 15 = T at hT0
  refine ok_loop (fun k s => ∃ q w l : Nat, s = (iI q, iI w, iI l) ∧ ((l = 255 ∧ q = p + k ∧ q ≤ e ∧ w = 15 + 255 * k ∧ ad inp e (e - q + 1) q w = T) ∨ (l < 255 ∧ T = some (q, w)))) (e - p + 1) (by omega) ⟨p, 15, 255, rfl, Or.inl ⟨rfl, rfl, hp, rfl, hT0⟩⟩ ?_
  rintro k s hk ⟨q, w, l, rfl, e1⟩
  unfold m_Mo_readSequences_B395 m_Mo_no
  dsimp only
  rw [lit_255]
  rcases e1 with ⟨rfl, e2, e3, e4, e5⟩ | ⟨e2, e3⟩
  · rw [if_eqT (by omega) (by omega) (by omega)]
    rw [ad] at e5
    by_cases c2 : e ≤ q
    · rw [if_ltF (by omega) (by omega) (by omega), Option.bind_some, bch0]
      rw [if_pos c2] at e5
      exact ok_end (Or.inr ⟨e5.symm, _, rfl⟩)
    · rw [if_neg c2] at e5
      have hlt := hy.lt q
      rw [if_ltT (by omega) (by omega) (by omega), chk_iI (by omega) (by omega), iI_clamp (by omega) (by omega), Int.toNat_natCast, t_byteAt b2 (by omega), bnd_eq, bnd_eq, bnd_eq, iI_add, lit_1, iI_add]
      refine ok_go ⟨k + 1, by omega, by omega, q + 1, w + by_ inp q, by_ inp q, rfl, ?_⟩
      by_cases c3 : by_ inp q = 255
      · rw [if_pos c3] at e5
        refine Or.inl ⟨c3, by omega, by omega, by omega, ?_⟩
        rw [show e - (q + 1) + 1 = e - q by omega, c3]
        exact e5
      · rw [if_neg c3] at e5
        exact Or.inr ⟨by omega, e5.symm⟩
  · rw [if_eqF (by omega) (by omega) (by omega)]
    exact ok_end (Or.inl ⟨q, w, e3, rfl⟩)
/-! copies -/
def cst (dic : List Int) (lo off : Nat) (o : List Int) : List Int := o ++ [if o.length < lo + off then dic.getD (dic.length + o.length - lo - off) 0 else o.getD (o.length - off) 0]
def cl (dic : List Int) (lo off : Nat) (o : List Int) : Nat → List Int
  | 0 => o
  | n + 1 => cst dic lo off (cl dic lo off o n)
theorem cl_len (dic : List Int) (lo off : Nat) (o : List Int) : ∀ n, (cl dic lo off o n).length = o.length + n
  | 0 => rfl
  | n + 1 => by
    rw [cl, cst, List.length_append, cl_len dic lo off o n]
    rfl
theorem cl_dic {dic : List Int} {lo off : Nat} {o : List Int} (hlo : lo ≤ o.length) (hoff : off ≤ dic.length + o.length - lo) : ∀ n, (n ≠ 0 → o.length + n ≤ lo + off) → cl dic lo off o n = o ++ (dic.drop (dic.length - (off - (o.length - lo)))).take n
  | 0, _ => by rw [cl, List.take_zero, List.append_nil]
  | n + 1, h' => by
    have h := h' (by omega)
    have hd : (dic.drop (dic.length - (off - (o.length - lo)))).length = off - (o.length - lo) := by rw [List.length_drop]; omega
    rw [cl, cst, cl_dic hlo hoff n (fun _ => by omega), take_s (by omega), ← List.append_assoc]
    have hl : (o ++ (dic.drop (dic.length - (off - (o.length - lo)))).take n).length = o.length + n := by rw [List.length_append, List.length_take]; omega
    rw [hl, if_pos (by omega)]
    congr 2
    simp only [List.getD_eq_getElem?_getD, List.getElem?_drop]
    congr 2
    omega
theorem s_again {tc : Int32} {tf : Nat → Int32} {dic o : List Int} {lo off n j0 : Nat} (h : BR 12000 tc tf (cl dic lo off o j0)) (h1 : 1 ≤ off) (hlo : n = 0 ∨ lo + off ≤ o.length + j0) (hoff : n = 0 ∨ off ≤ o.length + j0) (hl : o.length + j0 + n ≤ 12000) (hoffb : off ≤ 100000) : ok (m_Bytes_addAgain (iI off) (iI n) tc 12000 tf) (fun x => BR 12000 x.1 x.2 (cl dic lo off o (j0 + n))) := by
  have hcl := cl_len dic lo off o j0
  have h3 := h.1
  rw [hcl] at h3
  unfold m_Bytes_addAgain
  rw [lit_1, if_ltF (by omega) (by omega) (by omega), h3]
  by_cases c : o.length + j0 < off
  · rw [if_ltT (by omega) (by omega) (by omega), ← h3]
    have : n = 0 := by omega
    subst this
    exact ok_some h
  · rw [if_ltF (by omega) (by omega) (by omega), iI_nI, iI_sub, if_leT (by omega) (by omega) (by omega)]
    refine ok_bind (Q := fun x => BR 12000 x.1 x.2 (cl dic lo off o (j0 + n))) ?_ (fun x hx => ok_some hx)
    refine ok_loop (fun j s => s.2.2 = iI j ∧ BR 12000 s.2.1 s.1 (cl dic lo off o (j0 + j))) n (by omega) ⟨rfl, by rw [← h3]; exact h⟩ ?_
    rintro j ⟨s1, s2, s3⟩ hj ⟨e1, e2⟩
    dsimp only at e1 e2
    subst e1
    have hc2 := cl_len dic lo off o (j0 + j)
    have e3 := e2.1
    rw [hc2] at e3
    unfold m_Bytes_addAgain_B30
    dsimp only
    by_cases c2 : n ≤ j
    · rw [if_leT (by omega) (by omega) (by omega)]
      refine ok_end ?_
      rw [show n = j by omega]
      exact e2
    · rw [if_leF (by omega) (by omega) (by omega), e3, iI_sub, chk_iI (by omega) (by omega), chk_iI (by omega) (by omega), bnd_eq, bnd_eq, iI_clamp (by omega) (by omega), iI_clamp (by omega) (by omega), Int.toNat_natCast, show (((o.length + (j0 + j) : Nat) : Int) - (off : Int)).toNat = o.length + (j0 + j) - off by omega]
      have hg := e2.2.2 (o.length + (j0 + j) - off) (by omega)
      rw [hg.2, nar_hb2, lit_1, iI_add, iI_add]
      refine ok_go ⟨j + 1, by omega, by omega, rfl, ?_⟩
      have hp := e2.push (by omega) hg.1 rfl
      rw [hc2] at hp
      dsimp only
      rw [show j0 + (j + 1) = j0 + j + 1 by omega, cl, cst, hc2, if_neg (by omega)]
      exact hp
theorem s_copy {tc wcnt : Int32} {tf wF : Nat → Int32} {dic o : List Int} {lo off n : Nat} (h : BR 12000 tc tf o) (b3 : BR 1000 wcnt wF dic) (h1 : 1 ≤ off) (hlo : lo ≤ o.length) (hoff : off ≤ dic.length + o.length - lo) (hl : o.length + n ≤ 12000) (c : Int32) : ok (m_Opener_copy (iI off) (iI n) (iI lo) c tc wcnt 12000 tf 1000 wF) (fun x => x.1 = c + 1 ∧ BR 12000 x.2.1 x.2.2 (cl dic lo off o n)) := by
  have hd := b3.2.1
  have h2 := h.1
  unfold m_Opener_copy m_Bytes_size
  rw [Option.bind_some, h2, iI_sub, iI_sub, show (0 : Int32) = iI 0 from rfl, iI_max (by omega) (by omega), bnd_eq, iI_min (by omega) (by omega), bnd_eq, Option.bind_some, b3.1, iI_sub]
  obtain ⟨ow, hw, hw2⟩ : ∃ ow : Nat, max (0 : Int) ((off : Int) - ((o.length : Int) - (lo : Int))) = (ow : Int) ∧ ow = off - (o.length - lo) := ⟨off - (o.length - lo), by omega, rfl⟩
  rw [hw, show min (ow : Int) (n : Int) = ((min ow n : Nat) : Int) by omega, show (dic.length : Int) - (ow : Int) = ((dic.length - ow : Nat) : Int) by omega, iI_sub, show (n : Int) - ((min ow n : Nat) : Int) = ((n - min ow n : Nat) : Int) by omega, ← h2, ← b3.1]
  refine ok_bind (s_addRange h b3 (by omega) (by omega) (p := dic.length - ow) (n := min ow n) (by omega) (by omega)) ?_
  rintro ⟨u5, u6⟩ hu
  dsimp only at hu ⊢
  rw [hw2, ← cl_dic hlo hoff (min (off - (o.length - lo)) n) (fun _ => by omega)] at hu
  refine ok_bind (s_again (n := n - min ow n) hu h1 (by omega) (by omega) (by omega) (by omega)) ?_
  rintro ⟨u7, u8⟩ hu2
  rw [bnd_eq]
  refine ok_some ⟨rfl, ?_⟩
  dsimp only at hu2 ⊢
  rw [show min (off - (o.length - lo)) n + (n - min ow n) = n by omega] at hu2
  exact hu2
theorem t_copyq {fs md : Int32} {ff mdf : Nat → Int32} {dic o : List Int} {lo off m : Nat} (h : MR fs ff o) (b4 : MR md mdf dic) (hd : dic.length ≤ 1000) (h1 : 1 ≤ off) (hlo : lo ≤ o.length) (hoff : off ≤ dic.length + o.length - lo) (hl : o.length + (m + 4) ≤ 12000) : ok (iter (fun st => m_Mo_readSequences_B492 (iI lo) (iI dic.length) 28000 1000 mdf (iI off) (iI m) st.1 st.2.1 st.2.2) FU (ff, fs, 0)) (fun x => MR x.2 x.1 (cl dic lo off o (m + 4))) := by
  refine ok_loop (fun j s => s.2.2 = iI j ∧ MR s.2.1 s.1 (cl dic lo off o j)) (m + 4) (by omega) ⟨rfl, h⟩ ?_
  rintro j ⟨s1, s2, s3⟩ hj ⟨e1, e2⟩
  dsimp only at e1 e2
  subst e1
  have hc2 := cl_len dic lo off o j
  have e3 := e2.1
  rw [hc2] at e3
  unfold m_Mo_readSequences_B492 m_Mo_readSequences_J541
  dsimp only
  rw [lit_4, iI_add]
  by_cases c2 : m + 4 ≤ j
  · rw [if_leT (by omega) (by omega) (by omega)]
    refine ok_end ?_
    rw [show m + 4 = j by omega]
    exact e2
  · rw [if_leF (by omega) (by omega) (by omega), e3, iI_sub, bnd_eq, ← e3]
    have hfin : ∀ b : Int, (0 ≤ b ∧ b < 256) → b = (if (cl dic lo off o j).length < lo + off then dic.getD (dic.length + (cl dic lo off o j).length - lo - off) 0 else (cl dic lo off o j).getD ((cl dic lo off o j).length - off) 0) → ok ((m_Mo_put (iI b) s2 28000 s1).bind fun x => match x with | (u54, u55) => bnd (iI j + 1) fun v9_56 => some (.inl (u55, u54, v9_56))) (St (fun s' => ∃ k', j < k' ∧ k' ≤ m + 4 ∧ s'.2.2 = iI k' ∧ MR s'.2.1 s'.1 (cl dic lo off o k')) (fun x : (Nat → Int32) × Int32 => MR x.2 x.1 (cl dic lo off o (m + 4)))) := by
      intro b hb hbe
      refine ok_bind (t_put _ e2 (by omega) (by omega)) ?_
      rintro ⟨u1, u2⟩ hu
      dsimp only at hu ⊢
      rw [bnd_eq, lit_1, iI_add]
      refine ok_go ⟨j + 1, by omega, by omega, rfl, ?_⟩
      dsimp only
      rw [cl, cst, ← hbe]
      rw [show b % 256 = b by omega] at hu
      exact hu
    by_cases c3 : o.length + j < lo + off
    · rw [if_ltT (by omega) (by omega) (by omega), iI_sub, iI_sub, chk_iI (by omega) (by omega), iI_clamp (by omega) (by omega), show ((dic.length : Int) - ((lo : Int) - (((o.length + j : Nat) : Int) - (off : Int)))).toNat = dic.length + (o.length + j) - lo - off by omega]
      have hg := b4.2 (dic.length + (o.length + j) - lo - off) (by omega)
      rw [hg.2]
      exact hfin _ hg.1 (by rw [hc2, if_pos c3])
    · rw [if_ltF (by omega) (by omega) (by omega), chk_iI (by omega) (by omega), iI_clamp (by omega) (by omega), show (((o.length + j : Nat) : Int) - (off : Int)).toNat = o.length + j - off by omega]
      have hg := e2.2 (o.length + j - off) (by omega)
      rw [hg.2]
      exact hfin _ hg.1 (by rw [hc2, if_neg c3])
