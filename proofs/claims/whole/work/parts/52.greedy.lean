/-! the row that is chosen by the longest copy: one list of (place, length) for both sides -/
theorem lit_5 : (5 : Int32) = iI 5 := by decide
theorem lit_12 : (12 : Int32) = iI 12 := by decide
theorem lit_60 : (60 : Int32) = iI 60 := by decide
theorem lit_68 : (68 : Int32) = iI 68 := by decide
theorem lit_4000 : (4000 : Int32) = iI 4000 := by decide
noncomputable def nO (g : Nat → Int) (b k : Nat) : Nat := Classical.epsilon (fun o => Near g b k o)
theorem Near.nO {g : Nat → Int} {b k o : Nat} (h : Near g b k o) : o = nO g b k := h.eq (Classical.epsilon_spec (p := fun o => Near g b k o) ⟨o, h⟩)
def lim (sq : Bool) (n p : Nat) : Nat := if sq = true then (if p + 12 ≤ n then n - 5 - p else 0) else n - p
def mt (sq : Bool) (M : Nat → Nat) (n p : Nat) : Nat := if min (lim sq n p) (M p) < 4 then 0 else min (lim sq n p) (M p)
theorem lim_le (sq : Bool) (n p : Nat) : lim sq n p ≤ n - p := by
  unfold lim
  split
  · split <;> omega
  · omega
def pc (sq : Bool) (left : Nat) : Nat := if sq = true then left else if 68 ≤ left then 64 else if 64 < left then 60 else left
theorem pc_in (sq : Bool) {left : Nat} (h : 1 ≤ left) : 1 ≤ pc sq left ∧ pc sq left ≤ left := by
  unfold pc
  split
  · omega
  · split
    · omega
    · split <;> omega
def pcs (sq : Bool) : Nat → Nat → Nat → List (Nat × Nat)
  | 0, _, _ => []
  | f + 1, p, left => if left = 0 then [] else (p, pc sq left) :: pcs sq f (p + pc sq left) (left - pc sq left)
theorem pcs_0 (sq : Bool) (f p : Nat) : pcs sq f p 0 = [] := by
  cases f with
  | zero => rw [pcs]
  | succ f => rw [pcs, if_pos rfl]
theorem pcs_s (sq : Bool) {f p left : Nat} (h : left ≠ 0) : pcs sq (f + 1) p left = (p, pc sq left) :: pcs sq f (p + pc sq left) (left - pc sq left) := by rw [pcs, if_neg h]
def gr (sq lazy : Bool) (mt : Nat → Nat) (n : Nat) : Nat → Nat → Nat → List (Nat × Nat)
  | 0, _, _ => []
  | f + 1, p, here => if n ≤ p then [] else if here = 0 ∨ (lazy = true ∧ here < mt (p + 1)) then gr sq lazy mt n f (p + 1) (mt (p + 1)) else pcs sq here p here ++ gr sq lazy mt n f (p + here) (mt (p + here))
theorem gr_end (sq lazy : Bool) (mt : Nat → Nat) {n p : Nat} (f here : Nat) (h : n ≤ p) : gr sq lazy mt n f p here = [] := by
  cases f with
  | zero => rw [gr]
  | succ f => rw [gr, if_pos h]
theorem gr_1 (sq lazy : Bool) (mt : Nat → Nat) {n p f here : Nat} (h : p < n) (c : here = 0 ∨ (lazy = true ∧ here < mt (p + 1))) : gr sq lazy mt n (f + 1) p here = gr sq lazy mt n f (p + 1) (mt (p + 1)) := by rw [gr, if_neg (by omega), if_pos c]
theorem gr_2 (sq lazy : Bool) (mt : Nat → Nat) {n p f here : Nat} (h : p < n) (c : ¬ (here = 0 ∨ (lazy = true ∧ here < mt (p + 1)))) : gr sq lazy mt n (f + 1) p here = pcs sq here p here ++ gr sq lazy mt n f (p + here) (mt (p + here)) := by rw [gr, if_neg (by omega), if_neg c]
/-- copies one behind the other, each of what stands before -/
def GL (g : Nat → Int) (lean n : Nat) : Nat → List (Nat × Nat) → Prop
  | p, [] => p ≤ n
  | p, x :: r => p ≤ x.1 ∧ 1 ≤ x.2 ∧ x.1 + x.2 ≤ n ∧ (∃ a, a < lean + x.1 ∧ E g a (lean + x.1) x.2) ∧ GL g lean n (x.1 + x.2) r
theorem GL.le {g : Nat → Int} {lean n : Nat} : ∀ {p : Nat} {xs : List (Nat × Nat)}, GL g lean n p xs → p ≤ n
  | p, [], h => h
  | p, x :: r, h => by
    obtain ⟨h1, h2, h3, _⟩ := h
    omega
theorem GL.lo {g : Nat → Int} {lean n p q : Nat} {xs : List (Nat × Nat)} (h : GL g lean n q xs) (hp : p ≤ q) : GL g lean n p xs := by
  cases xs with
  | nil =>
    have := GL.le h
    show p ≤ n
    omega
  | cons x r =>
    obtain ⟨h1, h2⟩ := h
    exact ⟨by omega, h2⟩
theorem pcs_GL {g : Nat → Int} {lean n : Nat} (sq : Bool) {R : List (Nat × Nat)} : ∀ (f p left : Nat), left ≤ f → p + left ≤ n → (∃ a, a < lean + p ∧ E g a (lean + p) left) → GL g lean n (p + left) R → GL g lean n p (pcs sq f p left ++ R)
  | 0, p, left, h, _, _, hR => by
    have : left = 0 := by omega
    subst this
    rw [pcs]
    exact hR
  | f + 1, p, left, h, hn, ⟨a, ha, he⟩, hR => by
    by_cases c : left = 0
    · subst c
      rw [pcs_0]
      exact hR
    · rw [pcs_s sq c]
      have hp := pc_in sq (left := left) (by omega)
      refine ⟨Nat.le_refl _, hp.1, by omega, ⟨a, ha, he.mono hp.2⟩, ?_⟩
      refine pcs_GL sq f (p + pc sq left) (left - pc sq left) (by omega) (by omega) ⟨a + pc sq left, by omega, fun i hi => ?_⟩ ?_
      · have := he (pc sq left + i) (by omega)
        rw [show a + pc sq left + i = a + (pc sq left + i) by omega, show lean + (p + pc sq left) + i = lean + p + (pc sq left + i) by omega]
        exact this
      · rw [show p + pc sq left + (left - pc sq left) = p + left by omega]
        exact hR
def HM (g : Nat → Int) (lean n : Nat) (M : Nat → Nat) : Prop := ∀ p, p < n → Most g (lean + p) (n - p) 5000 (M p)
theorem mt_GL {g : Nat → Int} {lean n : Nat} {M : Nat → Nat} (h : HM g lean n M) (sq : Bool) {p : Nat} (hm : mt sq M n p ≠ 0) : 4 ≤ mt sq M n p ∧ p + mt sq M n p ≤ n ∧ ∃ a, a < lean + p ∧ E g a (lean + p) (mt sq M n p) := by
  unfold mt at hm ⊢
  have := lim_le sq n p
  split at hm
  · exact absurd rfl hm
  · rename_i c
    rw [if_neg c]
    refine ⟨by omega, by omega, ?_⟩
    obtain ⟨a, x1, x2, x3⟩ := (h p (by omega)).2.1 (by omega)
    exact ⟨a, x1, x3.mono (by omega)⟩
theorem gr_GL {g : Nat → Int} {lean n : Nat} {M : Nat → Nat} (h : HM g lean n M) (sq lazy : Bool) : ∀ (f p here : Nat), p ≤ n → (here = 0 ∨ here = mt sq M n p) → GL g lean n p (gr sq lazy (mt sq M n) n f p here)
  | 0, p, here, hp, _ => by rw [gr]; exact hp
  | f + 1, p, here, hp, hh => by
    by_cases c : n ≤ p
    · rw [gr_end _ _ _ _ _ c]; exact hp
    · by_cases c2 : here = 0 ∨ (lazy = true ∧ here < mt sq M n (p + 1))
      · rw [gr_1 _ _ _ (by omega) c2]
        exact (gr_GL h sq lazy f (p + 1) _ (by omega) (Or.inr rfl)).lo (by omega)
      · rw [gr_2 _ _ _ (by omega) c2]
        have h0 : here ≠ 0 := fun q => c2 (Or.inl q)
        have e : here = mt sq M n p := by
          rcases hh with e | e
          · exact absurd e h0
          · exact e
        have hm := mt_GL h sq (p := p) (by omega)
        rw [← e] at hm
        exact pcs_GL sq here p here (Nat.le_refl _) hm.2.1 hm.2.2 (gr_GL h sq lazy f _ _ hm.2.1 (Or.inr rfl))
/-- the rows of the reference hold a list of copies -/
def CA (g : Nat → Int) (lean : Nat) (ca cl co : Nat → Int32) (c : Int32) (xs : List (Nat × Nat)) : Prop := c = iI xs.length ∧ ∀ i, i < xs.length → ca i = iI (xs.getD i (0, 0)).1 ∧ cl i = iI (xs.getD i (0, 0)).2 ∧ co i = iI (nO g (lean + (xs.getD i (0, 0)).1) (xs.getD i (0, 0)).2)
theorem gp_l {xs ys : List (Nat × Nat)} {j : Nat} (h : j < xs.length) : (xs ++ ys).getD j (0, 0) = xs.getD j (0, 0) := by
  simp only [List.getD_eq_getElem?_getD]
  rw [List.getElem?_append_left h]
theorem gp_r {xs ys : List (Nat × Nat)} {j : Nat} (h : xs.length ≤ j) : (xs ++ ys).getD j (0, 0) = ys.getD (j - xs.length) (0, 0) := by
  simp only [List.getD_eq_getElem?_getD]
  rw [List.getElem?_append_right h]
theorem t_copy {f : Nat → Int32} {g : Nat → Int} {L : Nat} (h : MG f g L) (hL : L ≤ 5000) {p k n lean : Nat} (hp : p + k ≤ n) (hk : 1 ≤ k) (hn : lean + n ≤ L) (ha : ∃ a, a < lean + p ∧ E g a (lean + p) k) {ca cl co : Nat → Int32} {c : Int32} {xs : List (Nat × Nat)} (hc : CA g lean ca cl co c xs) (hx : xs.length < 4000) : ok (m_Mo_copy (iI p) (iI k) (iI lean) (iI n) c 4000 ca 4000 cl 5000 f 4000 co) (fun o => CA g lean o.2.1 o.2.2.1 o.2.2.2 o.1 (xs ++ [(p, k)])) := by
  obtain ⟨rfl, hc⟩ := hc
  unfold m_Mo_copy
  simp (disch := omega) only [bnd_eq, Option.bind_some, lit_0, lit_1, lit_m1, lit_4, lit_5000, iI_nI, iI_add, iI_sub, iI_mul, iI_neg, chk_iI, iI_clamp, iI_lt, iI_le, iI_eq, if_pos, if_neg, if_true, if_false, Int.toNat_natCast]
  refine ok_bind (t_nearest h hL hp hk hn) ?_
  intro x hx2
  rcases hx2 with ⟨o, rfl, hno⟩ | ⟨rfl, hno⟩
  · refine ok_some ⟨by simp, fun i hi => ?_⟩
    dsimp only
    rw [List.length_append, List.length_singleton] at hi
    by_cases e : i < xs.length
    · rw [gp_l e, pk_un (by omega), pk_un (by omega), pk_un (by omega)]
      exact hc i e
    · have e2 : i = xs.length := by omega
      subst e2
      rw [gp_r (Nat.le_refl _), Nat.sub_self, pk_us, pk_us, pk_us]
      exact ⟨rfl, rfl, by rw [hno.nO]; rfl⟩
  · obtain ⟨a, x1, x2⟩ := ha
    exact absurd x2 (hno a x1)
theorem mt_end {sq : Bool} {M : Nat → Nat} {n p : Nat} (h : lim sq n p = 0) : mt sq M n p = 0 := by
  unfold mt
  rw [h, if_pos (by omega)]
theorem lim_end (sq : Bool) {n p : Nat} (h : n ≤ p) : lim sq n p = 0 := by
  have := lim_le sq n p
  omega
theorem t_J55 {k : Nat} (h : k ≤ 100000) : m_Mo_match_J55 (iI k) = some (iI ((if k < 4 then 0 else k : Nat) : Int)) := by
  unfold m_Mo_match_J55
  by_cases c : k < 4
  · rw [if_pos c]
    simp (disch := omega) only [bnd_eq, Option.bind_some, lit_0, lit_1, lit_m1, lit_4, lit_5000, iI_nI, iI_add, iI_sub, iI_mul, iI_neg, chk_iI, iI_clamp, iI_lt, iI_le, iI_eq, if_pos, if_neg, if_true, if_false, Int.toNat_natCast]
    rfl
  · rw [if_neg c]
    simp (disch := omega) only [bnd_eq, Option.bind_some, lit_0, lit_1, lit_m1, lit_4, lit_5000, iI_nI, iI_add, iI_sub, iI_mul, iI_neg, chk_iI, iI_clamp, iI_lt, iI_le, iI_eq, if_pos, if_neg, if_true, if_false, Int.toNat_natCast]
theorem t_match {M : Nat → Nat} {n : Nat} (hn : n ≤ 4000) {f : Nat → Int32} (hf : ∀ p, p < n → f p = iI (M p) ∧ M p ≤ n - p) (sq : Bool) {p : Nat} (hp : p ≤ n) : m_Mo_match (iI p) (iI (if sq = true then 1 else 0)) (iI n) 4000 f = some (iI (mt sq M n p)) := by
  unfold m_Mo_match m_Mo_match_J25
  by_cases c : n ≤ p
  · rw [mt_end (lim_end sq c)]
    simp (disch := omega) only [bnd_eq, Option.bind_some, lit_0, lit_1, lit_m1, lit_4, lit_5000, iI_nI, iI_add, iI_sub, iI_mul, iI_neg, chk_iI, iI_clamp, iI_lt, iI_le, iI_eq, if_pos, if_neg, if_true, if_false, Int.toNat_natCast]
    rfl
  · have h1 := hf p (by omega)
    cases sq
    · rw [if_neg (show ¬ (false = true) by decide)]
      simp (disch := omega) only [bnd_eq, Option.bind_some, lit_0, lit_1, lit_m1, lit_4, lit_5000, iI_nI, iI_add, iI_sub, iI_mul, iI_neg, chk_iI, iI_clamp, iI_lt, iI_le, iI_eq, if_pos, if_neg, if_true, if_false, Int.toNat_natCast]
      rw [h1.1, t_J55 (by omega)]
      unfold mt lim
      rw [if_neg (show ¬ (false = true) by decide), show min (n - p) (M p) = M p by omega]
    · rw [if_pos (show (true = true) by rfl)]
      by_cases c3 : p + 12 ≤ n
      · simp (disch := omega) only [bnd_eq, Option.bind_some, lit_0, lit_1, lit_m1, lit_4, lit_5000, iI_nI, iI_add, iI_sub, iI_mul, iI_neg, chk_iI, iI_clamp, iI_lt, iI_le, iI_eq, if_pos, if_neg, if_true, if_false, Int.toNat_natCast, lit_12, lit_5]
        rw [h1.1, t_small (by omega) (by omega), show min ((M p : Nat) : Int) ((n : Int) - 5 - (p : Int)) = ((min (n - 5 - p) (M p) : Nat) : Int) by omega, Option.bind_some, t_J55 (by omega)]
        unfold mt lim
        rw [if_pos (show (true = true) by rfl), if_pos c3]
      · rw [mt_end (show lim true n p = 0 by unfold lim; rw [if_pos rfl, if_neg c3])]
        simp (disch := omega) only [bnd_eq, Option.bind_some, lit_0, lit_1, lit_m1, lit_4, lit_5000, iI_nI, iI_add, iI_sub, iI_mul, iI_neg, chk_iI, iI_clamp, iI_lt, iI_le, iI_eq, if_pos, if_neg, if_true, if_false, Int.toNat_natCast, lit_12, lit_5]
        rfl
