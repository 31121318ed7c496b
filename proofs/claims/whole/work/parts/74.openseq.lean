/-! sequences that are opened -/
theorem ishr4 : ∀ z : Nat, z < 256 → ishr (iI z) 4 = iI ((z / 16 : Nat) : Int) := by decide +kernel
theorem s_lacks {n p e : Int} (h1 : 0 ≤ n ∧ n < 1000000000) (h2 : 0 ≤ p ∧ p < 1000000) (h3 : 0 ≤ e ∧ e < 1000000) : m_Opener_lacks (iI n) (iI p) (iI e) = some (if n ≤ e - p then 0 else 1) := by
  unfold m_Opener_lacks
  rw [iI_sub]
  by_cases c : n ≤ e - p
  · rw [if_pos c, if_leT (by omega) (by omega) c]
  · rw [if_neg c, if_leF (by omega) (by omega) c]
theorem s_isOver {n m : Int} (h1 : 0 ≤ n ∧ n < 1000000000000) (h2 : 0 ≤ m ∧ m < 1000000) : m_Opener_isOver (jI n) (iI m) = some (if m + n ≤ 12000 then 0 else 1) := by
  unfold m_Opener_isOver m_Bytes_size
  rw [Option.bind_some, iI_j (by omega), jI_add, show (12000 : Int64) = jI 12000 from rfl, lg_jI (by omega) (by omega)]
  by_cases c : m + n ≤ 12000
  · rw [if_pos c]
    by_cases c2 : m + n < 12000
    · rw [if_pos c2, if_pos (by decide)]
    · rw [if_neg c2, if_neg (show ¬ 12000 < m + n by omega), if_pos (by decide)]
  · rw [if_neg c, if_neg (show ¬ m + n < 12000 by omega), if_pos (show 12000 < m + n by omega), if_neg (by decide)]
def BADR (b ba ru pl : Int32) : Prop := b = ru ∧ ba = pl ∧ ru ≠ 0
theorem BADR.of (r pl : Int32) (h : r ≠ 0) : BADR r pl r pl := ⟨rfl, rfl, h⟩
def RSQ (e l0 : Nat) (beg b0 ba0 r0 pl0 : Int32) (x : Int32 × Int32 × Int32 × Int32 × Int32 × Int32 × Int32 × Int32 × Int32 × (Nat → Int32)) (y : Int32 × Int32 × Int32 × Int32 × Int32 × Int32 × Int32 × Int32 × (Nat → Int32)) : Prop := (x.1 = 1 ∧ y.1 = 1 ∧ ∃ o : List Int, BR 12000 x.2.2.2.2.2.2.2.2.1 x.2.2.2.2.2.2.2.2.2 o ∧ MR y.2.1 y.2.2.2.2.2.2.2.2 o ∧ l0 ≤ o.length ∧ x.2.2.2.1 = iI e ∧ y.2.2.2.2.2.2.2.1 = iI e ∧ x.2.2.2.2.2.1 = y.2.2.1 ∧ x.2.2.2.2.2.2.1 = y.2.2.2.1 ∧ x.2.2.2.2.2.2.2.1 = y.2.2.2.2.1 ∧ x.2.2.2.2.1 = beg ∧ x.2.1 = b0 ∧ x.2.2.1 = ba0 ∧ y.2.2.2.2.2.1 = r0 ∧ y.2.2.2.2.2.2.1 = pl0) ∨ (x.1 = 0 ∧ y.1 = 0 ∧ BADR x.2.1 x.2.2.1 y.2.2.2.2.2.1 y.2.2.2.2.2.2.1 ∧ ∃ o : List Int, BR 12000 x.2.2.2.2.2.2.2.2.1 x.2.2.2.2.2.2.2.2.2 o)
def Ios (e p0 l0 : Nat) (b0 ba0 : Int32) (k : Nat) (s : (Nat → Int32) × Int32 × Int32 × Int32 × Int32 × Int32 × Int32 × Int32 × Int32 × Int32) (t : (Nat → Int32) × Int32 × Int32 × Int32 × Int32 × Int32 × Int32) : Prop := ∃ (p c : Nat) (o : List Int), s.2.2.2.2.2.2.1 = iI p ∧ t.2.2.2.2.1 = iI p ∧ p0 + k ≤ p ∧ p ≤ e ∧ s.2.2.2.2.2.2.2.2.2 = iI k ∧ BR 12000 s.2.2.2.2.2.2.2.1 s.1 o ∧ MR t.2.2.2.2.2.1 t.1 o ∧ l0 ≤ o.length ∧ s.2.1 = iI c ∧ t.2.1 = iI c ∧ c ≤ k ∧ s.2.2.1 = t.2.2.1 ∧ s.2.2.2.1 = t.2.2.2.1 ∧ s.2.2.2.2.1 = b0 ∧ s.2.2.2.2.2.1 = ba0 ∧ ((c = 0 ∧ s.2.2.2.2.2.2.2.2.1 = iI (-1)) ∨ (1 ≤ c ∧ ∃ lc : Nat, s.2.2.2.2.2.2.2.2.1 = iI lc ∧ t.2.2.2.2.2.2 = iI lc ∧ lc ≤ o.length))
theorem t_lit {mi fs : Int32} {mif ff : Nat → Int32} {inp o : List Int} (b2 : MR mi mif inp) (hin : inp.length ≤ 4000) (h : MR fs ff o) {q n : Nat} (hq : q + n ≤ inp.length) (hl : o.length + n ≤ 28000) : ok (iter (fun st => m_Mo_readSequences_B211 4000 mif 28000 (iI n) st.1 st.2.1 st.2.2.1 st.2.2.2) FU (ff, iI q, fs, 0)) (fun x => MR x.2.2 x.1 (o ++ (inp.drop q).take n) ∧ x.2.1 = iI ((q + n : Nat) : Int)) := by
  refine ok_loop (fun j s => s.2.2.2 = iI j ∧ s.2.1 = iI ((q + j : Nat) : Int) ∧ MR s.2.2.1 s.1 (o ++ (inp.drop q).take j)) n (by omega) ⟨rfl, rfl, by rw [List.take_zero, List.append_nil]; exact h⟩ ?_
  rintro j ⟨s1, s2, s3, s4⟩ hj ⟨e1, e2, e3⟩
  dsimp only at e1 e2 e3
  subst e1 e2
  unfold m_Mo_readSequences_B211
  dsimp only
  have hdl : (inp.drop q).length = inp.length - q := List.length_drop
  by_cases c : n ≤ j
  · rw [if_leT (by omega) (by omega) (by omega)]
    refine ok_end ⟨?_, by rw [show n = j by omega]⟩
    rw [show n = j by omega]
    exact e3
  · rw [if_leF (by omega) (by omega) (by omega), chk_iI (by omega) (by omega), iI_clamp (by omega) (by omega), Int.toNat_natCast]
    have hg := b2.2 (q + j) (by omega)
    rw [hg.2]
    refine ok_bind (t_put _ e3 (by rw [List.length_append, List.length_take]; omega) (by omega)) ?_
    rintro ⟨u1, u2⟩ hu
    dsimp only at hu ⊢
    rw [bnd_eq, bnd_eq, lit_1, iI_add, iI_add]
    refine ok_go ⟨j + 1, by omega, by omega, rfl, rfl, ?_⟩
    dsimp only
    rw [take_s (by omega), ← List.append_assoc]
    rw [show (inp.drop q).getD j 0 = inp.getD (q + j) 0 by simp [List.getD_eq_getElem?_getD, List.getElem?_drop]]
    rw [show inp.getD (q + j) 0 % 256 = inp.getD (q + j) 0 by omega] at hu
    exact hu
theorem s_endsWell {n m ol : Nat} {a3 : Int32} (hn : n ≤ 100000) (hm : m ≤ 15) (hol : ol ≤ 100000) : m_Opener_endsWell (iI n) (iI m) a3 (iI ol) = if m = 0 then (if a3 < 0 then some 1 else if n < 5 then some 0 else if iI ol - a3 < 12 then some 0 else some 1) else some 0 := by
  unfold m_Opener_endsWell m_Bytes_size
  by_cases c : m = 0
  · rw [if_pos c, if_eq0T (by omega) (by omega), Option.bind_some]
    by_cases c2 : n < 5
    · rw [if_pos c2, lit_5, if_ltT (by omega) (by omega) (by omega)]
    · rw [if_neg c2, lit_5, if_ltF (by omega) (by omega) (by omega)]
  · rw [if_neg c, if_eq0F (by omega) (by omega)]
theorem ok_w1 {Z α : Type} {mi : Int32} {mif : Nat → Int32} {inp : List Int} (b2 : MR mi mif inp) (hy : BY inp) (hin : inp.length ≤ 4000) {e p m : Nat} (he : e ≤ inp.length) (hp : p ≤ e) (hm : m ≤ 15) {X : Option α} {P : α → Z → Prop} (f24 : Nat → Int32) (g25 g26 g27 g29 : Int32) {K : _ → Option Z} (J : Int32 → Int32 → Option Z) (hK : ∀ a b, K (.inl (a, b)) = J a b) (h1 : ∀ q w : Nat, wa inp e p m = some (q, w) → ok2 X (J (iI q) (iI w)) P) (h2 : wa inp e p m = none → ∀ x, ok2 X (K (.inr (.inr (.inr (.inr (0, g29, g25, g26, g27, 1, iI e, x, f24)))))) P) : ok2 X (if iI m = (15 : Int32) then (iter (fun st => m_Mo_readSequences_B93 (iI e) 4000 mif f24 g25 g26 g27 g29 st.1 st.2.1 st.2.2) FU (iI p, iI m, 255)).bind K else J (iI p) (iI m)) P := by
  by_cases c : m = 15
  · subst c
    rw [if_pos (show iI ((15 : Nat) : Int) = (15 : Int32) from rfl)]
    refine ok2_r (t_wloop1 b2 hy hin he hp f24 g25 g26 g27 g29) ?_
    intro w hw
    rcases hw with ⟨q, n, hwa, rfl⟩ | ⟨hwa, x, rfl⟩
    · rw [hK]
      exact h1 q n hwa
    · exact h2 hwa x
  · rw [if_neg (by rw [lit_15, iI_eq (by omega) (by omega)]; omega)]
    exact h1 p m (by unfold wa; rw [if_neg c])
theorem ok_w2 {Z : Type} {mi : Int32} {mif : Nat → Int32} {inp : List Int} (b2 : MR mi mif inp) (hy : BY inp) (hin : inp.length ≤ 4000) {e p m : Nat} (he : e ≤ inp.length) (hp : p ≤ e) (hm : m ≤ 15) {P : Z → Prop} (f38 : Nat → Int32) (g25 p36 p37 g40 : Int32) {K : _ → Option Z} (J : Int32 → Int32 → Option Z) (hK : ∀ a b, K (.inl (a, b)) = J a b) (h1 : ∀ q w : Nat, wa inp e p m = some (q, w) → ok (J (iI q) (iI w)) P) (h2 : wa inp e p m = none → ∀ x, ok (K (.inr (.inr (.inr (.inr (0, g40, g25, p37, p36, 1, iI e, x, f38)))))) P) : ok (if iI m = (15 : Int32) then (iter (fun st => m_Mo_readSequences_B395 (iI e) 4000 mif g25 p36 p37 f38 g40 st.1 st.2.1 st.2.2) FU (iI p, iI m, 255)).bind K else J (iI p) (iI m)) P := by
  by_cases c : m = 15
  · subst c
    rw [if_pos (show iI ((15 : Nat) : Int) = (15 : Int32) from rfl)]
    refine ok_bind (t_wloop2 b2 hy hin he hp f38 g25 p36 p37 g40) ?_
    intro w hw
    rcases hw with ⟨q, n, hwa, rfl⟩ | ⟨hwa, x, rfl⟩
    · rw [hK]
      exact h1 q n hwa
    · exact h2 hwa x
  · rw [if_neg (by rw [lit_15, iI_eq (by omega) (by omega)]; omega)]
    exact h1 p m (by unfold wa; rw [if_neg c])
/-- what becomes of a copy: a rule and a place, or where it goes on, its offset, its length less 4 -/
def oc (inp : List Int) (dl ol lo e A m p : Nat) : (Nat × Nat) ⊕ (Nat × Nat × Nat) := if e < A + 2 then .inl (1, e) else if nv inp A 2 = 0 ∨ dl + ol - lo < nv inp A 2 then .inl (2, A) else (wa inp e (A + 2) m).elim (.inl (1, e)) (fun w => if 12000 < ol + (w.2 + 4) then .inl (12, p) else .inr (w.1, nv inp A 2, w.2))
theorem s_openCopy {inp dic o : List Int} {iF wF tf : Nat → Int32} {tc b ba cc : Int32} (b1 : BR 4000 (iI inp.length) iF inp) (b3 : BR 1000 (iI dic.length) wF dic) (h : BR 12000 tc tf o) {p A e lo m : Nat} (hA : A ≤ e) (he : e ≤ inp.length) (hlo : lo ≤ o.length) (hm : m ≤ 15) : ok (m_Opener_openCopy (iI p) (iI m) (iI lo) b ba (iI A) (iI e) cc (iI inp.length) 4000 iF (iI dic.length) tc 12000 tf 1000 wF) (fun x => (∀ r pl, oc inp dic.length o.length lo e A m p = .inl (r, pl) → x.1 = 0 ∧ x.2.1 = iI r ∧ x.2.2.1 = iI pl ∧ BR 12000 x.2.2.2.2.2.1 x.2.2.2.2.2.2 o) ∧ (∀ q off w, oc inp dic.length o.length lo e A m p = .inr (q, off, w) → x.1 = 1 ∧ x.2.1 = b ∧ x.2.2.1 = ba ∧ x.2.2.2.1 = iI q ∧ x.2.2.2.2.1 = cc + 1 ∧ BR 12000 x.2.2.2.2.2.1 x.2.2.2.2.2.2 (cl dic lo off o (w + 4)))) := by
  have i4 := b1.2.1
  have d4 := b3.2.1
  have o4 := h.2.1
  have hy := b1.by
  have hnv := nv_lt hy A 2
  rw [show 2 ^ (8 * 2) = 65536 by decide] at hnv
  have htc := h.1
  unfold m_Opener_openCopy m_Opener_openCopy_J60 m_Opener_breaks m_Bytes_size
  unfold oc
  rw [show (2 : Int32) = iI ((2 : Nat) : Int) from rfl, s_lacks (by omega) (by omega) (by omega), Option.bind_some]
  by_cases c1 : e < A + 2
  · rw [if_neg (show ¬ ((2 : Nat) : Int) ≤ (e : Int) - (A : Int) by omega), if_neg (show ¬ (1 : Int32) = 0 by decide), Option.bind_some, if_pos c1]
    dsimp only
    rw [bch0]
    exact ok_some ⟨fun r pl q => by cases q; exact ⟨rfl, rfl, rfl, h⟩, fun q off w z => by cases z⟩
  · rw [if_pos (show ((2 : Nat) : Int) ≤ (e : Int) - (A : Int) by omega), if_pos rfl, s_number b1 (by omega) (by omega) (by omega), Option.bind_some, bnd_eq, jI_i, if_neg c1, Option.bind_some, Option.bind_some, Option.bind_some]
    dsimp only
    rw [bch0]
    have hbad : nv inp A 2 = 0 ∨ dic.length + o.length - lo < nv inp A 2 → ok (some ((0 : Int32), (iI ((2 : Nat) : Int)), iI (A : Int), iI (A : Int), cc, tc, tf)) (fun x => (∀ r pl, (if nv inp A 2 = 0 ∨ dic.length + o.length - lo < nv inp A 2 then (.inl (2, A) : (Nat × Nat) ⊕ (Nat × Nat × Nat)) else (wa inp e (A + 2) m).elim (.inl (1, e)) (fun w => if 12000 < o.length + (w.2 + 4) then .inl (12, p) else .inr (w.1, nv inp A 2, w.2))) = .inl (r, pl) → x.1 = 0 ∧ x.2.1 = iI r ∧ x.2.2.1 = iI pl ∧ BR 12000 x.2.2.2.2.2.1 x.2.2.2.2.2.2 o) ∧ (∀ q off w, (if nv inp A 2 = 0 ∨ dic.length + o.length - lo < nv inp A 2 then (.inl (2, A) : (Nat × Nat) ⊕ (Nat × Nat × Nat)) else (wa inp e (A + 2) m).elim (.inl (1, e)) (fun w => if 12000 < o.length + (w.2 + 4) then .inl (12, p) else .inr (w.1, nv inp A 2, w.2))) = .inr (q, off, w) → x.1 = 1 ∧ x.2.1 = b ∧ x.2.2.1 = ba ∧ x.2.2.2.1 = iI q ∧ x.2.2.2.2.1 = cc + 1 ∧ BR 12000 x.2.2.2.2.2.1 x.2.2.2.2.2.2 (cl dic lo off o (w + 4)))) := by
      intro z
      rw [if_pos z]
      exact ok_some ⟨fun r pl q => by cases q; exact ⟨rfl, rfl, rfl, h⟩, fun q off w z => by cases z⟩
    by_cases c2 : nv inp A 2 = 0
    · rw [if_eq0T (by omega) (by omega)]
      exact hbad (Or.inl c2)
    · rw [if_eq0F (by omega) (by omega), htc, iI_add, iI_sub, show (dic.length : Int) + (o.length : Int) - (lo : Int) = ((dic.length + o.length - lo : Nat) : Int) by omega, ← htc]
      by_cases c3 : dic.length + o.length - lo < nv inp A 2
      · rw [if_leF (by omega) (by omega) (by omega)]
        exact hbad (Or.inr c3)
      · clear hbad
        rw [if_neg (show ¬ (nv inp A 2 = 0 ∨ dic.length + o.length - lo < nv inp A 2) by omega), if_leT (by omega) (by omega) (by omega), bnd_eq, iI_add, show (A : Int) + ((2 : Nat) : Int) = ((A + 2 : Nat) : Int) by omega]
        refine ok_bind (s_withAdded b1 (by omega) (show A + 2 ≤ e by omega) hm) ?_
        rintro ⟨r10, u11⟩ hw
        dsimp only at hw ⊢
        rcases hw with ⟨q, w, hwa, rfl, rfl⟩ | ⟨hwa, rfl⟩
        · have hq := wa_in hy (by omega) hwa
          rw [hwa, show (0 : Int32) = iI 0 from rfl, if_leT (by omega) (by omega) (by omega), lit_4, iI_add, iI_j (by omega), htc, s_isOver (by omega) (by omega), Option.bind_some, ← htc]
          dsimp only [Option.elim]
          by_cases c4 : 12000 < o.length + (w + 4)
          · rw [if_pos c4, if_neg (show ¬ (o.length : Int) + ((w : Int) + 4) ≤ 12000 by omega), if_neg (show ¬ (1 : Int32) = iI 0 by decide), Option.bind_some]
            dsimp only
            rw [show iI 0 = (0 : Int32) from rfl, bch0]
            exact ok_some ⟨fun r pl q => by cases q; exact ⟨rfl, rfl, rfl, h⟩, fun q off w z => by cases z⟩
          · rw [if_neg c4, if_pos (show (o.length : Int) + ((w : Int) + 4) ≤ 12000 by omega), if_pos (show (0 : Int32) = iI 0 from rfl), show (w : Int) + 4 = ((w + 4 : Nat) : Int) by omega]
            refine ok_bind (s_copy h b3 (by omega) hlo (by omega) (by omega) cc) ?_
            rintro ⟨u13, u14, u15⟩ ⟨hc1, hc2⟩
            dsimp only at hc1 hc2 ⊢
            exact ok_some ⟨fun r pl z => (by cases z), fun q' off' w' z => by cases z; exact ⟨rfl, rfl, rfl, rfl, hc1, hc2⟩⟩
        · rw [hwa, if_neg (show ¬ (0 : Int32) ≤ iI (-1) by decide), Option.bind_some]
          dsimp only
          rw [bch0]
          exact ok_some ⟨fun r pl q => by cases q; exact ⟨rfl, rfl, rfl, h⟩, fun q off w z => by cases z⟩
theorem t_openCopy {inp dic o : List Int} {mif mdf ff : Nat → Int32} {fs g25 j4 j6 p36 p37 : Int32} (b2 : MR (iI inp.length) mif inp) (hy : BY inp) (i4 : inp.length ≤ 4000) (b4 : MR (iI dic.length) mdf dic) (d4 : dic.length ≤ 1000) (h : MR fs ff o) {p A e lo m : Nat} (hA : A < e) (he : e ≤ inp.length) (hlo : lo ≤ o.length) (ho : o.length ≤ 12000) (hm : m ≤ 15) : ok (m_Mo_readSequences_E247 (iI e) (iI lo) (iI dic.length) 4000 mif 28000 1000 mdf g25 (iI p) j4 (iI m) j6 p36 p37 ff (iI A) fs) (fun z => (∀ r pl, oc inp dic.length o.length lo e A m p = .inl (r, pl) → (r = 2 ∧ pl = A ∧ z = .inr (.inr (.inl (ff, g25, p37, p36, iI A, fs)))) ∨ (r ≠ 0 ∧ r ≤ 100 ∧ ∃ x, z = .inr (.inr (.inr (0, fs, g25, p37, p36, iI r, iI pl, x, ff))))) ∧ (∀ q off w, oc inp dic.length o.length lo e A m p = .inr (q, off, w) → ∃ f' c', z = .inl (f', g25 + 1, p37, p36, iI q, c', fs) ∧ MR c' f' (cl dic lo off o (w + 4)))) := by
  have hnv := nv_lt hy A 2
  rw [show 2 ^ (8 * 2) = 65536 by decide] at hnv
  have hfs := h.1
  unfold m_Mo_readSequences_E247 m_Mo_no oc
  rw [if_eqF (by omega) (by omega) (by omega), show (2 : Int32) = iI ((2 : Nat) : Int) from rfl, iI_sub]
  by_cases c1 : e < A + 2
  · rw [if_leF (by omega) (by omega) (by omega), Option.bind_some, if_pos c1]
    dsimp only
    rw [bch0]
    exact ok_some ⟨fun r pl q => by cases q; exact Or.inr ⟨by decide, by decide, _, rfl⟩, fun q off w z => by cases z⟩
  · rw [if_leT (by omega) (by omega) (by omega), t_number b2 hy (by omega) i4 (by omega) (by omega), Option.bind_some, bnd_eq, jI_i, if_neg c1]
    by_cases c2 : nv inp A 2 = 0
    · rw [if_eq0T (by omega) (by omega), if_pos (Or.inl c2)]
      exact ok_some ⟨fun r pl q => by cases q; exact Or.inl ⟨rfl, rfl, rfl⟩, fun q off w z => by cases z⟩
    · rw [if_eq0F (by omega) (by omega), hfs, iI_sub, iI_add, show (o.length : Int) - (lo : Int) + (dic.length : Int) = ((dic.length + o.length - lo : Nat) : Int) by omega, ← hfs]
      by_cases c3 : dic.length + o.length - lo < nv inp A 2
      · rw [if_leF (by omega) (by omega) (by omega), if_pos (Or.inr c3)]
        exact ok_some ⟨fun r pl q => by cases q; exact Or.inl ⟨rfl, rfl, rfl⟩, fun q off w z => by cases z⟩
      · rw [if_neg (show ¬ (nv inp A 2 = 0 ∨ dic.length + o.length - lo < nv inp A 2) by omega), if_leT (by omega) (by omega) (by omega), bnd_eq, iI_add, show (A : Int) + ((2 : Nat) : Int) = ((A + 2 : Nat) : Int) by omega]
        refine ok_w2 b2 hy i4 he (show A + 2 ≤ e by omega) hm ff g25 p36 p37 fs (m_Mo_readSequences_J449 (iI lo) (iI dic.length) 28000 1000 mdf g25 (iI p) p36 p37 ff fs (iI (nv inp A 2))) (fun a b => rfl) ?_ ?_
        · intro q w hwa
          have hq := wa_in hy (by omega) hwa
          unfold m_Mo_readSequences_J449 m_Mo_no
          rw [hwa, hfs, iI_add, lit_4, iI_add, show (12000 : Int32) = iI 12000 from rfl, ← hfs]
          dsimp only [Option.elim]
          by_cases c4 : 12000 < o.length + (w + 4)
          · rw [if_pos c4, if_leF (by omega) (by omega) (by omega), Option.bind_some]
            dsimp only
            rw [bch0]
            exact ok_some ⟨fun r pl q => by cases q; exact Or.inr ⟨by decide, by decide, _, rfl⟩, fun q off w z => by cases z⟩
          · rw [if_neg c4, if_leT (by omega) (by omega) (by omega), bnd_eq]
            refine ok_bind (t_copyq h b4 d4 (by omega) hlo (by omega) (by omega)) ?_
            rintro ⟨f', c'⟩ hc
            unfold m_Mo_readSequences_E550
            exact ok_some ⟨fun r pl z => (by cases z), fun q' off' w' z => by cases z; exact ⟨_, _, rfl, hc⟩⟩
        · intro hwa x
          rw [hwa]
          exact ok_some ⟨fun r pl q => by cases q; exact Or.inr ⟨by decide, by decide, _, rfl⟩, fun q off w z => by cases z⟩
