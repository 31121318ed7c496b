/-! the longest: the reference's rows and the class's row hold the same list -/
theorem bI (b : Bool) : (iI (if b = true then 1 else 0) = iI 0) = (b = false) := by
  cases b
  · simp
  · rw [if_pos rfl, iI_eq (by omega) (by omega)]
    simp
def Ipc (g : Nat → Int) (lean : Nat) (sq : Bool) (T : List (Nat × Nat)) (p here : Nat) (k : Nat) (s : (Nat → Int32) × (Nat → Int32) × (Nat → Int32) × Int32 × Int32 × Int32) : Prop := ∃ (f q left : Nat) (d : List (Nat × Nat)), s.2.2.2.2.1 = iI q ∧ s.2.2.2.2.2 = iI left ∧ CA g lean s.1 s.2.1 s.2.2.1 s.2.2.2.1 d ∧ d.length ≤ q ∧ d ++ pcs sq f q left = T ∧ left ≤ f ∧ 4 ≤ left ∧ q + left = p + here ∧ q = p + k ∧ ∃ a, a < lean + q ∧ E g a (lean + q) left
def Ppc (g : Nat → Int) (lean : Nat) (sq : Bool) (T : List (Nat × Nat)) (p here : Nat) (s : (Nat → Int32) × (Nat → Int32) × (Nat → Int32) × Int32 × Int32 × Int32) : Prop := ∃ (f q left : Nat) (d : List (Nat × Nat)), s.2.2.2.2.1 = iI q ∧ s.2.2.2.2.2 = iI left ∧ CA g lean s.1 s.2.1 s.2.2.1 s.2.2.2.1 d ∧ d.length ≤ q ∧ d ++ pcs sq f q left = T ∧ left ≤ f ∧ 4 ≤ left ∧ q + left = p + here ∧ pc sq left = left ∧ ∃ a, a < lean + q ∧ E g a (lean + q) left
theorem E.shift {g : Nat → Int} {lean q left k : Nat} (h : ∃ a, a < lean + q ∧ E g a (lean + q) left) (hk : k ≤ left) : ∃ a, a < lean + (q + k) ∧ E g a (lean + (q + k)) (left - k) := by
  obtain ⟨a, x1, x2⟩ := h
  refine ⟨a + k, by omega, fun i hi => ?_⟩
  have := x2 (k + i) (by omega)
  rw [show a + k + i = a + (k + i) by omega, show lean + (q + k) + i = lean + q + (k + i) by omega]
  exact this
theorem t_pieces {f : Nat → Int32} {g : Nat → Int} {L : Nat} (h : MG f g L) (hL : L ≤ 5000) {n lean : Nat} (hn : lean + n ≤ L) (hn4 : n ≤ 4000) (sq : Bool) {p here : Nat} (hh : 4 ≤ here) (hp : p + here ≤ n) (ha : ∃ a, a < lean + p ∧ E g a (lean + p) here) {ca cl co : Nat → Int32} {c : Int32} {xs : List (Nat × Nat)} (hc : CA g lean ca cl co c xs) (hx : xs.length ≤ p) : ok (iter (fun st => m_Mo_greedy_B71 (iI (if sq = true then 1 else 0)) (iI lean) (iI n) 4000 4000 5000 f 4000 st.1 st.2.1 st.2.2.1 st.2.2.2.1 st.2.2.2.2.1 st.2.2.2.2.2) FU (ca, cl, co, c, iI p, iI here)) (Ppc g lean sq (xs ++ pcs sq here p here) p here) := by
  refine ok_loop (Ipc g lean sq (xs ++ pcs sq here p here) p here) here (by omega) ⟨here, p, here, xs, rfl, rfl, hc, hx, rfl, Nat.le_refl _, hh, rfl, by omega, ha⟩ ?_
  rintro k ⟨s1, s2, s3, s4, s5, s6⟩ hk ⟨fu, q, left, d, e1, e2, e3, e4, e5, e6, e7, e8, e9, e10⟩
  dsimp only at e1 e2 e3
  subst e1 e2
  unfold m_Mo_greedy_B71
  dsimp only
  cases sq
  · simp only [if_neg (show ¬ (false = true) by decide), lit_0, if_true]
    by_cases c1 : left ≤ 64
    · simp (disch := omega) only [bnd_eq, Option.bind_some, lit_0, lit_1, lit_m1, lit_4, lit_5000, iI_nI, iI_add, iI_sub, iI_mul, iI_neg, chk_iI, iI_clamp, iI_lt, iI_le, iI_eq, if_pos, if_neg, if_true, if_false, Int.toNat_natCast, lit_64]
      exact ok_end ⟨fu, q, left, d, rfl, rfl, e3, e4, e5, e6, e7, e8, by unfold pc; rw [if_neg (by decide), if_neg (by omega), if_neg (by omega)], e10⟩
    · have hJ : ∀ kk : Nat, pc false left = kk → 60 ≤ kk → kk + 4 ≤ left → ok (m_Mo_greedy_J96 (iI lean) (iI n) 4000 4000 5000 f 4000 s1 s2 s3 s4 (iI q) (iI left) (iI kk)) (St (fun s' => ∃ k', k < k' ∧ k' ≤ here ∧ Ipc g lean false (xs ++ pcs false here p here) p here k' s') (Ppc g lean false (xs ++ pcs false here p here) p here)) := by
        intro kk hkk h60 h61
        unfold m_Mo_greedy_J96
        obtain ⟨a, x1, x2⟩ := id e10
        refine ok_bind (t_copy h hL (show q + kk ≤ n by omega) (by omega) hn ⟨a, x1, x2.mono (by omega)⟩ e3 (by omega)) ?_
        rintro ⟨v1, v2, v3, v4⟩ hv
        simp (disch := omega) only [bnd_eq, Option.bind_some, lit_0, lit_1, lit_m1, lit_4, lit_5000, iI_nI, iI_add, iI_sub, iI_mul, iI_neg, chk_iI, iI_clamp, iI_lt, iI_le, iI_eq, if_pos, if_neg, if_true, if_false, Int.toNat_natCast]
        obtain ⟨fu', rfl⟩ : ∃ m, fu = m + 1 := ⟨fu - 1, by omega⟩
        rw [pcs_s false (by omega), hkk] at e5
        refine ok_go ⟨k + kk, by omega, by omega, fu', q + kk, left - kk, d ++ [(q, kk)], ?_, ?_, hv, ?_, ?_, by omega, by omega, by omega, by omega, E.shift e10 (by omega)⟩
        · rw [show ((q + kk : Nat) : Int) = (q : Int) + kk by omega]
        · rw [show ((left - kk : Nat) : Int) = (left : Int) - kk by omega]
        · rw [List.length_append, List.length_singleton]; omega
        · rw [List.append_assoc]
          exact e5
      by_cases c2 : left < 68
      · simp (disch := omega) only [bnd_eq, Option.bind_some, lit_0, lit_1, lit_m1, lit_4, lit_5000, iI_nI, iI_add, iI_sub, iI_mul, iI_neg, chk_iI, iI_clamp, iI_lt, iI_le, iI_eq, if_pos, if_neg, if_true, if_false, Int.toNat_natCast, lit_64, lit_68, lit_60]
        exact hJ 60 (by unfold pc; rw [if_neg (by decide), if_neg (by omega), if_pos (by omega)]) (by omega) (by omega)
      · simp (disch := omega) only [bnd_eq, Option.bind_some, lit_0, lit_1, lit_m1, lit_4, lit_5000, iI_nI, iI_add, iI_sub, iI_mul, iI_neg, chk_iI, iI_clamp, iI_lt, iI_le, iI_eq, if_pos, if_neg, if_true, if_false, Int.toNat_natCast, lit_64, lit_68, lit_60]
        exact hJ 64 (by unfold pc; rw [if_neg (by decide), if_pos (by omega)]) (by omega) (by omega)
  · rw [if_neg (by rw [if_pos rfl]; decide)]
    exact ok_end ⟨fu, q, left, d, rfl, rfl, e3, e4, e5, e6, e7, e8, by unfold pc; rw [if_pos rfl], e10⟩
def Igr (g : Nat → Int) (lean n : Nat) (sq lazy : Bool) (M : Nat → Nat) (T : List (Nat × Nat)) (p : Nat) (s : (Nat → Int32) × (Nat → Int32) × (Nat → Int32) × Int32 × Int32 × Int32) : Prop := ∃ (fg here : Nat) (d : List (Nat × Nat)), s.2.2.2.2.1 = iI p ∧ s.2.2.2.2.2 = iI here ∧ (here = 0 ∨ here = mt sq M n p) ∧ CA g lean s.1 s.2.1 s.2.2.1 s.2.2.2.1 d ∧ d.length ≤ p ∧ n - p ≤ fg ∧ d ++ gr sq lazy (mt sq M n) n fg p here = T
theorem t_J67 {f : Nat → Int32} {g : Nat → Int} {L : Nat} (h : MG f g L) (hL : L ≤ 5000) {n lean : Nat} (hn : lean + n ≤ L) (hn4 : n ≤ 4000) {M : Nat → Nat} (hm : HM g lean n M) {mf : Nat → Int32} (hf : ∀ p, p < n → mf p = iI (M p)) (sq lazy : Bool) {T : List (Nat × Nat)} {p here fg : Nat} (hfg : n - p ≤ fg + 1) (hh : here ≠ 0) (he : here = mt sq M n p) (hp : p < n) {ca cl co : Nat → Int32} {c : Int32} {d : List (Nat × Nat)} (hc : CA g lean ca cl co c d) (hx : d.length ≤ p) (hT : d ++ (pcs sq here p here ++ gr sq lazy (mt sq M n) n fg (p + here) (mt sq M n (p + here))) = T) (P : (Int32 × (Nat → Int32) × (Nat → Int32) × (Nat → Int32)) → Prop) : ok (m_Mo_greedy_J67 (iI (if sq = true then 1 else 0)) (iI lean) (iI n) 4000 mf 4000 4000 5000 f 4000 ca cl co c (iI p) (iI here)) (St (fun s' => ∃ k', p < k' ∧ k' ≤ n ∧ Igr g lean n sq lazy M T k' s') P) := by
  have hg := mt_GL hm sq (p := p) (by omega)
  rw [← he] at hg
  unfold m_Mo_greedy_J67 m_Mo_greedy_E120
  refine ok_bind (t_pieces h hL hn hn4 sq hg.1 hg.2.1 hg.2.2 hc hx) ?_
  rintro ⟨s1, s2, s3, s4, s5, s6⟩ ⟨fu, q, left, d2, e1, e2, e3, e4, e5, e6, e7, e8, e9, e10⟩
  dsimp only at e1 e2 e3 ⊢
  subst e1 e2
  refine ok_bind (t_copy h hL (show q + left ≤ n by omega) (by omega) hn e10 e3 (by omega)) ?_
  rintro ⟨v1, v2, v3, v4⟩ hv
  simp (disch := omega) only [bnd_eq, Option.bind_some, lit_0, lit_1, lit_m1, lit_4, lit_5000, iI_nI, iI_add, iI_sub, iI_mul, iI_neg, chk_iI, iI_clamp, iI_lt, iI_le, iI_eq, if_pos, if_neg, if_true, if_false, Int.toNat_natCast]
  rw [show (q : Int) + (left : Int) = ((p + here : Nat) : Int) by omega, t_match hn4 (fun p hp => ⟨hf p hp, (hm p hp).1⟩) sq (by omega), Option.bind_some]
  obtain ⟨fu', rfl⟩ : ∃ m, fu = m + 1 := ⟨fu - 1, by omega⟩
  rw [pcs_s sq (by omega), e9, Nat.sub_self, pcs_0] at e5
  refine ok_go ⟨p + here, by omega, by omega, fg, mt sq M n (p + here), d2 ++ [(q, left)], rfl, rfl, Or.inr rfl, hv, ?_, by omega, ?_⟩
  · rw [List.length_append, List.length_singleton]; omega
  · rw [e5, List.append_assoc]
    exact hT
theorem t_greedy {f : Nat → Int32} {g : Nat → Int} {L : Nat} (h : MG f g L) (hL : L ≤ 5000) {n lean : Nat} (hn : lean + n ≤ L) (hn4 : n ≤ 4000) {M : Nat → Nat} (hm : HM g lean n M) {mf : Nat → Int32} (hf : ∀ p, p < n → mf p = iI (M p)) (sq lazy : Bool) (ca cl co : Nat → Int32) : ok (m_Mo_greedy (iI (if sq = true then 1 else 0)) (iI (if lazy = true then 1 else 0)) (iI lean) (iI n) 0 4000 mf 4000 ca 4000 cl 5000 f 4000 co) (fun o => CA g lean o.2.1 o.2.2.1 o.2.2.2 o.1 (gr sq lazy (mt sq M n) n n 0 (mt sq M n 0))) := by
  have hmt : ∀ p, p ≤ n → m_Mo_match (iI p) (iI (if sq = true then 1 else 0)) (iI n) 4000 mf = some (iI (mt sq M n p)) := fun p hp => t_match hn4 (fun p hp => ⟨hf p hp, (hm p hp).1⟩) sq hp
  have hmle : ∀ p, mt sq M n p ≤ n := by
    intro p
    by_cases z : mt sq M n p = 0
    · omega
    · have := (mt_GL hm sq z).2.1
      omega
  unfold m_Mo_greedy
  rw [show (0 : Int32) = iI ((0 : Nat) : Int) from rfl, hmt 0 (by omega), Option.bind_some]
  refine ok_bind (Q := fun o => CA g lean o.2.1 o.2.2.1 o.2.2.2 o.1 (gr sq lazy (mt sq M n) n n 0 (mt sq M n 0))) ?_ (fun o ho => ok_some ho)
  refine ok_loop (Igr g lean n sq lazy M (gr sq lazy (mt sq M n) n n 0 (mt sq M n 0))) n (by omega) ⟨n, mt sq M n 0, [], rfl, rfl, Or.inr rfl, ⟨rfl, fun i hi => absurd hi (by simp)⟩, by simp, by omega, rfl⟩ ?_
  rintro p ⟨s1, s2, s3, s4, s5, s6⟩ hp ⟨fg, here, d, e1, e2, e3, e4, e5, e6, e7⟩
  dsimp only at e1 e2 e4
  subst e1 e2
  unfold m_Mo_greedy_B10
  dsimp only
  by_cases c1 : n ≤ p
  · rw [if_leT (by omega) (by omega) (by omega)]
    rw [gr_end _ _ _ _ _ c1, List.append_nil] at e7
    rw [← e7]
    exact ok_end e4
  · rw [if_leF (by omega) (by omega) (by omega)]
    have hle : here ≤ n := by
      rcases e3 with e | e
      · omega
      · rw [e]; exact hmle p
    have hle2 := hmle (p + 1)
    obtain ⟨fg, rfl⟩ : ∃ m, fg = m + 1 := ⟨fg - 1, by omega⟩
    have g1 : (here = 0 ∨ (lazy = true ∧ here < mt sq M n (p + 1))) → ok (m_Mo_greedy_J57 s1 s2 s3 s4 (iI p) (iI (mt sq M n (p + 1)))) (St (fun s' => ∃ k', p < k' ∧ k' ≤ n ∧ Igr g lean n sq lazy M (gr sq lazy (mt sq M n) n n 0 (mt sq M n 0)) k' s') (fun o => CA g lean o.2.1 o.2.2.1 o.2.2.2 o.1 (gr sq lazy (mt sq M n) n n 0 (mt sq M n 0)))) := by
      intro q
      unfold m_Mo_greedy_J57
      rw [gr_1 _ _ _ (by omega) q] at e7
      rw [bnd_eq, show (1 : Int32) = iI 1 from rfl, iI_add]
      exact ok_go ⟨p + 1, by omega, by omega, fg, _, d, rfl, rfl, Or.inr rfl, e4, by omega, by omega, e7⟩
    have g2 : ¬ (here = 0 ∨ (lazy = true ∧ here < mt sq M n (p + 1))) → ok (m_Mo_greedy_J67 (iI (if sq = true then 1 else 0)) (iI lean) (iI n) 4000 mf 4000 4000 5000 f 4000 s1 s2 s3 s4 (iI p) (iI here)) (St (fun s' => ∃ k', p < k' ∧ k' ≤ n ∧ Igr g lean n sq lazy M (gr sq lazy (mt sq M n) n n 0 (mt sq M n 0)) k' s') (fun o => CA g lean o.2.1 o.2.2.1 o.2.2.2 o.1 (gr sq lazy (mt sq M n) n n 0 (mt sq M n 0)))) := by
      intro q
      rw [gr_2 _ _ _ (by omega) q] at e7
      exact t_J67 h hL hn hn4 hm hf sq lazy (fg := fg) (by omega) (fun z => q (Or.inl z)) (e3.resolve_left (fun z => q (Or.inl z))) (by omega) e4 e5 e7 _
    have hnx : m_Mo_match (iI p + 1) (iI (if sq = true then 1 else 0)) (iI n) 4000 mf = some (iI (mt sq M n (p + 1))) := by
      rw [show (1 : Int32) = iI 1 from rfl, iI_add]
      exact hmt (p + 1) (by omega)
    unfold m_Mo_greedy_J27 m_Mo_greedy_J39
    rw [hnx, Option.bind_some]
    by_cases c2 : here = 0
    · rw [if_pos (by rw [c2]; rfl), if_pos (by rw [c2]; rfl)]
      exact g1 (Or.inl c2)
    · have c2' : ¬ iI (here : Int) = 0 := by rw [iI_eq0 (by omega)]; omega
      rw [if_neg c2', if_neg c2', if_neg c2']
      cases lazy
      · rw [if_pos (by decide), if_pos (by decide)]
        exact g2 (by simp [c2])
      · rw [if_neg (by decide), if_neg (by decide)]
        by_cases c3 : mt sq M n (p + 1) ≤ here
        · rw [if_leT (by omega) (by omega) (by omega)]
          exact g2 (by simp [c2]; omega)
        · rw [if_leF (by omega) (by omega) (by omega)]
          exact g1 (Or.inr ⟨rfl, by omega⟩)
/-! the class -/
def lenAt : List (Nat × Nat) → Nat → Nat
  | [], _ => 0
  | x :: r, j => if x.1 = j then x.2 else lenAt r j
theorem lenAt_snoc {p k j : Nat} : ∀ {xs : List (Nat × Nat)}, (∀ x ∈ xs, x.1 < p) → lenAt (xs ++ [(p, k)]) j = if j = p then k else lenAt xs j
  | [], _ => by
    show (if p = j then k else 0) = _
    by_cases c : j = p
    · rw [if_pos c.symm, if_pos c]
    · rw [if_neg (fun q => c q.symm), if_neg c]
      rfl
  | x :: r, h => by
    show (if x.1 = j then x.2 else lenAt (r ++ [(p, k)]) j) = _
    have h1 := h x (by simp)
    by_cases c : x.1 = j
    · rw [if_pos c, if_neg (by omega)]
      show _ = (if x.1 = j then x.2 else lenAt r j)
      rw [if_pos c]
    · rw [if_neg c, lenAt_snoc (fun y hy => h y (by simp [hy]))]
      by_cases c2 : j = p
      · rw [if_pos c2, if_pos c2]
      · rw [if_neg c2, if_neg c2]
        show _ = (if x.1 = j then x.2 else lenAt r j)
        rw [if_neg c]
def FA (n : Nat) (F : Nat → Int32) (xs : List (Nat × Nat)) : Prop := ∀ j, j < n → F j = iI (lenAt xs j)
theorem FA.push {n : Nat} {F : Nat → Int32} {xs : List (Nat × Nat)} (h : FA n F xs) {p k : Nat} (hx : ∀ x ∈ xs, x.1 < p) : FA n (upd F p (iI k)) (xs ++ [(p, k)]) := by
  intro j hj
  rw [lenAt_snoc hx]
  by_cases c : j = p
  · rw [if_pos c, c, pk_us]
  · rw [if_neg c, pk_un c]
    exact h j hj
theorem s_pieceOf_S {left : Nat} : m_Sequences_pieceOf (iI left) = some (iI (pc true left)) := by
  unfold m_Sequences_pieceOf pc
  rw [if_pos rfl]
theorem s_pieceOf_E {left : Nat} (hl : left ≤ 100000) : m_Elements_pieceOf (iI left) = some (iI (pc false left)) := by
  unfold m_Elements_pieceOf pc
  rw [if_neg (show ¬ (false = true) by decide)]
  by_cases c1 : 68 ≤ left
  · simp (disch := omega) only [bnd_eq, Option.bind_some, lit_0, lit_1, lit_m1, lit_4, lit_5000, iI_nI, iI_add, iI_sub, iI_mul, iI_neg, chk_iI, iI_clamp, iI_lt, iI_le, iI_eq, if_pos, if_neg, if_true, if_false, Int.toNat_natCast, lit_64, lit_68, lit_60]
    rfl
  · by_cases c2 : 64 < left
    · simp (disch := omega) only [bnd_eq, Option.bind_some, lit_0, lit_1, lit_m1, lit_4, lit_5000, iI_nI, iI_add, iI_sub, iI_mul, iI_neg, chk_iI, iI_clamp, iI_lt, iI_le, iI_eq, if_pos, if_neg, if_true, if_false, Int.toNat_natCast, lit_64, lit_68, lit_60]
      rfl
    · simp (disch := omega) only [bnd_eq, Option.bind_some, lit_0, lit_1, lit_m1, lit_4, lit_5000, iI_nI, iI_add, iI_sub, iI_mul, iI_neg, chk_iI, iI_clamp, iI_lt, iI_le, iI_eq, if_pos, if_neg, if_true, if_false, Int.toNat_natCast, lit_64, lit_68, lit_60]
theorem s_pieces_S {n : Nat} (hn4 : n ≤ 4000) {p here : Nat} (hp : p + here ≤ n) {F : Nat → Int32} {xs : List (Nat × Nat)} (hF : FA n F xs) (hx : ∀ x ∈ xs, x.1 < p) : ok (m_Packer_choosePieces_S (iI p) (iI here) (iI n) 4000 F) (fun F' => FA n F' (xs ++ pcs true here p here) ∧ ∀ x ∈ xs ++ pcs true here p here, x.1 < p + here ∨ here = 0) := by
  unfold m_Packer_choosePieces_S m_Packer_choosePieces_S_E66
  rw [iI_sub, iI_min (by omega) (by omega), show min (here : Int) ((n : Int) - (p : Int)) = ((here : Nat) : Int) by omega]
  simp (disch := omega) only [bnd_eq, Option.bind_some, lit_0, lit_1, lit_m1, lit_4, lit_5000, iI_nI, iI_add, iI_sub, iI_mul, iI_neg, chk_iI, iI_clamp, iI_lt, iI_le, iI_eq, if_pos, if_neg, if_true, if_false, Int.toNat_natCast]
  refine ok_bind (Q := fun F' => FA n F' (xs ++ pcs true here p here) ∧ ∀ x ∈ xs ++ pcs true here p here, x.1 < p + here ∨ here = 0) ?_ (fun o ho => ok_some ho)
  refine ok_loop (fun k s => ∃ (f left : Nat) (d : List (Nat × Nat)), s.2.1 = iI left ∧ s.2.2 = iI k ∧ left ≤ f ∧ k + left ≤ here ∧ d ++ pcs true f (p + here - left) left = xs ++ pcs true here p here ∧ FA n s.1 d ∧ ∀ x ∈ d, x.1 < p + here - left) here (by omega) ⟨here, here, xs, rfl, rfl, Nat.le_refl _, by omega, by rw [show p + here - here = p by omega], hF, fun x hx' => by have := hx x hx'; omega⟩ ?_
  rintro k ⟨s1, s2, s3⟩ hk ⟨f, left, d, e1, e2, e3, e4, e5, e6, e7⟩
  dsimp only at e1 e2 e6
  subst e1 e2
  unfold m_Packer_choosePieces_S_B19
  dsimp only
  by_cases c1 : left = 0
  · subst c1
    rw [pcs_0, List.append_nil] at e5
    have hd : FA n s1 (xs ++ pcs true here p here) ∧ ∀ x ∈ xs ++ pcs true here p here, x.1 < p + here ∨ here = 0 := by
      rw [← e5]
      exact ⟨e6, fun x hx' => Or.inl (by have := e7 x hx'; omega)⟩
    by_cases c2 : 4000 ≤ k
    · simp (disch := omega) only [bnd_eq, Option.bind_some, lit_0, lit_1, lit_m1, lit_4, lit_5000, iI_nI, iI_add, iI_sub, iI_mul, iI_neg, chk_iI, iI_clamp, iI_lt, iI_le, iI_eq, if_pos, if_neg, if_true, if_false, Int.toNat_natCast, lit_4000]
      exact ok_end hd
    · simp (disch := omega) only [bnd_eq, Option.bind_some, lit_0, lit_1, lit_m1, lit_4, lit_5000, iI_nI, iI_add, iI_sub, iI_mul, iI_neg, chk_iI, iI_clamp, iI_lt, iI_le, iI_eq, if_pos, if_neg, if_true, if_false, Int.toNat_natCast, lit_4000]
      exact ok_end hd
  · have hpc := pc_in true (left := left) (by omega)
    simp (disch := omega) only [bnd_eq, Option.bind_some, lit_0, lit_1, lit_m1, lit_4, lit_5000, iI_nI, iI_add, iI_sub, iI_mul, iI_neg, chk_iI, iI_clamp, iI_lt, iI_le, iI_eq, if_pos, if_neg, if_true, if_false, Int.toNat_natCast, lit_4000]
    rw [s_pieceOf_S]
    simp (disch := omega) only [bnd_eq, Option.bind_some, lit_0, lit_1, lit_m1, lit_4, lit_5000, iI_nI, iI_add, iI_sub, iI_mul, iI_neg, chk_iI, iI_clamp, iI_lt, iI_le, iI_eq, if_pos, if_neg, if_true, if_false, Int.toNat_natCast, lit_4000]
    rw [pk_us]
    simp (disch := omega) only [bnd_eq, Option.bind_some, lit_0, lit_1, lit_m1, lit_4, lit_5000, iI_nI, iI_add, iI_sub, iI_mul, iI_neg, chk_iI, iI_clamp, iI_lt, iI_le, iI_eq, if_pos, if_neg, if_true, if_false, Int.toNat_natCast, lit_4000]
    obtain ⟨f, rfl⟩ : ∃ m, f = m + 1 := ⟨f - 1, by omega⟩
    rw [pcs_s true c1] at e5
    rw [show ((p : Int) + (here : Int) - (left : Int)).toNat = p + here - left by omega]
    refine ok_go ⟨k + 1, by omega, by omega, f, left - pc true left, d ++ [(p + here - left, pc true left)], ?_, by simp, by omega, by omega, ?_, e6.push e7, fun x hx' => ?_⟩
    · show iI ((left : Int) - (pc true left : Int)) = _
      congr 1
      omega
    · rw [List.append_assoc, show p + here - (left - pc true left) = p + here - left + pc true left by omega]
      exact e5
    · rw [List.mem_append] at hx'
      rcases hx' with hx' | hx'
      · have := e7 x hx'
        omega
      · rw [List.mem_singleton] at hx'
        rw [hx']
        dsimp only
        omega
theorem s_limitAt_S {n p : Nat} (hn : n ≤ 4000) (hp : p ≤ n) : m_Sequences_limitAt (iI p) (iI n) = some (iI (lim true n p)) := by
  unfold m_Sequences_limitAt lim
  rw [if_pos rfl]
  by_cases c : p + 12 ≤ n
  · rw [if_pos c]
    simp (disch := omega) only [bnd_eq, Option.bind_some, lit_0, lit_1, lit_m1, lit_4, lit_5000, iI_nI, iI_add, iI_sub, iI_mul, iI_neg, chk_iI, iI_clamp, iI_lt, iI_le, iI_eq, if_pos, if_neg, if_true, if_false, Int.toNat_natCast, lit_12, lit_5]
    congr 2
    omega
  · rw [if_neg c]
    simp (disch := omega) only [bnd_eq, Option.bind_some, lit_0, lit_1, lit_m1, lit_4, lit_5000, iI_nI, iI_add, iI_sub, iI_mul, iI_neg, chk_iI, iI_clamp, iI_lt, iI_le, iI_eq, if_pos, if_neg, if_true, if_false, Int.toNat_natCast, lit_12, lit_5]
    rfl
theorem s_matchAt_S {cnt : Int32} {hF bF lF : Nat → Int32} {t : List Int} (h : TR cnt hF bF lF t) {n base : Nat} (hn : n ≤ 4000) (hb : base + n ≤ t.length) {M : Nat → Nat} (hm : HM (gx t) base n M) (fo : Int32) {p : Nat} (hp : p ≤ n) : ok (m_Packer_matchAt_S (iI p) (iI base) (iI n) cnt fo 5000 bF 5000 hF) (fun o => o.1 = iI (mt true M n p)) := by
  have hl := lim_le true n p
  have ht := h.2.1
  unfold m_Packer_matchAt_S
  rw [s_limitAt_S hn hp, Option.bind_some, iI_add, show (base : Int) + (p : Int) = ((base + p : Nat) : Int) by omega]
  refine ok_bind (s_reach h fo (b := base + p) (lim := lim true n p) (span := 5000) (by omega) (by omega)) ?_
  rintro ⟨r, u⟩ ⟨r', e1, e2, e9⟩
  clear e9
  dsimp only at e1 ⊢
  subst e1
  have e3 := e2.1
  have e4 : r' = min (lim true n p) (M p) := by
    by_cases c : p < n
    · exact e2.eq ((hm p c).cut hl) (by omega) (by omega)
    · omega
  unfold mt
  rw [← e4]
  by_cases c : r' < 4
  · rw [if_pos c]
    simp (disch := omega) only [bnd_eq, Option.bind_some, lit_0, lit_1, lit_m1, lit_4, lit_5000, iI_nI, iI_add, iI_sub, iI_mul, iI_neg, chk_iI, iI_clamp, iI_lt, iI_le, iI_eq, if_pos, if_neg, if_true, if_false, Int.toNat_natCast]
    exact ok_some rfl
  · rw [if_neg c]
    simp (disch := omega) only [bnd_eq, Option.bind_some, lit_0, lit_1, lit_m1, lit_4, lit_5000, iI_nI, iI_add, iI_sub, iI_mul, iI_neg, chk_iI, iI_clamp, iI_lt, iI_le, iI_eq, if_pos, if_neg, if_true, if_false, Int.toNat_natCast]
    exact ok_some rfl
theorem s_longest_S {cnt : Int32} {hF bF lF : Nat → Int32} {t : List Int} (h : TR cnt hF bF lF t) {n base : Nat} (hn : n ≤ 4000) (hb : base + n ≤ t.length) {M : Nat → Nat} (hm : HM (gx t) base n M) (fo : Int32) (lazy : Bool) {F : Nat → Int32} (hF0 : ∀ j, j < n → F j = 0) : ok (m_Packer_chooseLongest_S (iI (if lazy = true then 1 else 0)) (iI base) (iI n) cnt fo 5000 bF 5000 hF 4000 F) (fun o => FA n o.2 (gr true lazy (mt true M n) n n 0 (mt true M n 0))) := by
  have hmle : ∀ p, mt true M n p ≤ n := by
    intro p
    by_cases z : mt true M n p = 0
    · omega
    · have := (mt_GL hm true z).2.1
      omega
  unfold m_Packer_chooseLongest_S
  refine ok_bind (s_matchAt_S h hn hb hm fo (p := 0) (by omega)) ?_
  rintro ⟨r, u⟩ e1
  dsimp only at e1 ⊢
  subst e1
  refine ok_bind (Q := fun o => FA n o.1 (gr true lazy (mt true M n) n n 0 (mt true M n 0))) ?_ (fun o ho => ok_some ho)
  refine ok_loop (fun p s => ∃ (fg here st : Nat) (d : List (Nat × Nat)), s.2.2.1 = iI p ∧ s.2.2.2.1 = iI here ∧ s.2.2.2.2 = iI st ∧ st ≤ p ∧ (here = 0 ∨ here = mt true M n p) ∧ FA n s.1 d ∧ (∀ x ∈ d, x.1 < p) ∧ n - p ≤ fg ∧ d ++ gr true lazy (mt true M n) n fg p here = gr true lazy (mt true M n) n n 0 (mt true M n 0)) n (by omega) ⟨n, _, 0, [], rfl, rfl, rfl, Nat.le_refl _, Or.inr rfl, fun j hj => hF0 j hj, fun x hx => absurd hx (by simp), by omega, rfl⟩ ?_
  rintro p ⟨s1, s2, s3, s4, s5⟩ hp ⟨fg, here, st, d, e1, e2, e3, e4, e5, e6, e7, e8, e9⟩
  dsimp only at e1 e2 e3 e6
  subst e1 e2 e3
  unfold m_Packer_chooseLongest_S_B10
  dsimp only
  by_cases c1 : n ≤ p
  · have hd : FA n s1 (gr true lazy (mt true M n) n n 0 (mt true M n 0)) := by
      rw [gr_end _ _ _ _ _ c1, List.append_nil] at e9
      rw [← e9]
      exact e6
    by_cases c2 : 4000 ≤ st
    · simp (disch := omega) only [bnd_eq, Option.bind_some, lit_0, lit_1, lit_m1, lit_4, lit_5000, iI_nI, iI_add, iI_sub, iI_mul, iI_neg, chk_iI, iI_clamp, iI_lt, iI_le, iI_eq, if_pos, if_neg, if_true, if_false, Int.toNat_natCast, lit_4000]
      exact ok_end hd
    · simp (disch := omega) only [bnd_eq, Option.bind_some, lit_0, lit_1, lit_m1, lit_4, lit_5000, iI_nI, iI_add, iI_sub, iI_mul, iI_neg, chk_iI, iI_clamp, iI_lt, iI_le, iI_eq, if_pos, if_neg, if_true, if_false, Int.toNat_natCast, lit_4000]
      exact ok_end hd
  · have hle : here ≤ n := by
      rcases e5 with e | e
      · omega
      · rw [e]; exact hmle p
    have hle2 := hmle (p + 1)
    obtain ⟨fg, rfl⟩ : ∃ m, fg = m + 1 := ⟨fg - 1, by omega⟩
    rw [show (4000 : Int32) = iI 4000 from rfl, if_leF (by omega) (by omega) (by omega), if_leF (by omega) (by omega) (by omega)]
    have g1 : ∀ u : Int32, (here = 0 ∨ (lazy = true ∧ here < mt true M n (p + 1))) → ok (m_Packer_chooseLongest_S_J59 s1 (iI p) (iI st) u (iI (mt true M n (p + 1)))) (St (fun s' => ∃ k', p < k' ∧ k' ≤ n ∧ ∃ (fg here st : Nat) (d : List (Nat × Nat)), s'.2.2.1 = iI k' ∧ s'.2.2.2.1 = iI here ∧ s'.2.2.2.2 = iI st ∧ st ≤ k' ∧ (here = 0 ∨ here = mt true M n k') ∧ FA n s'.1 d ∧ (∀ x ∈ d, x.1 < k') ∧ n - k' ≤ fg ∧ d ++ gr true lazy (mt true M n) n fg k' here = gr true lazy (mt true M n) n n 0 (mt true M n 0)) (fun o => FA n o.1 (gr true lazy (mt true M n) n n 0 (mt true M n 0)))) := by
      intro u q
      unfold m_Packer_chooseLongest_S_J59 m_Packer_chooseLongest_S_J84
      rw [gr_1 _ _ _ (by omega) q] at e9
      rw [bnd_eq, bnd_eq, show (1 : Int32) = iI 1 from rfl, iI_add, iI_add]
      exact ok_go ⟨p + 1, by omega, by omega, fg, _, st + 1, d, rfl, rfl, rfl, by omega, Or.inr rfl, e6, fun x hx => by have := e7 x hx; omega, by omega, e9⟩
    have g2 : ∀ (u s : Int32), ¬ (here = 0 ∨ (lazy = true ∧ here < mt true M n (p + 1))) → s ≤ iI here → ok (m_Packer_chooseLongest_S_J47 (iI base) (iI n) cnt 5000 bF 5000 hF 4000 s1 (iI p) (iI here) (iI st) u s) (St (fun s' => ∃ k', p < k' ∧ k' ≤ n ∧ ∃ (fg here st : Nat) (d : List (Nat × Nat)), s'.2.2.1 = iI k' ∧ s'.2.2.2.1 = iI here ∧ s'.2.2.2.2 = iI st ∧ st ≤ k' ∧ (here = 0 ∨ here = mt true M n k') ∧ FA n s'.1 d ∧ (∀ x ∈ d, x.1 < k') ∧ n - k' ≤ fg ∧ d ++ gr true lazy (mt true M n) n fg k' here = gr true lazy (mt true M n) n n 0 (mt true M n 0)) (fun o => FA n o.1 (gr true lazy (mt true M n) n n 0 (mt true M n 0)))) := by
      intro u s q hs
      have h0 : here ≠ 0 := fun z => q (Or.inl z)
      have hh := e5.resolve_left h0
      have hg := mt_GL hm true (p := p) (by omega)
      rw [← hh] at hg
      unfold m_Packer_chooseLongest_S_J47 m_Packer_chooseLongest_S_J84
      rw [if_neg (by rw [iI_eq0 (by omega)]; omega), if_pos hs]
      rw [gr_2 _ _ _ (by omega) q] at e9
      refine ok_bind (s_pieces_S hn hg.2.1 e6 e7) ?_
      rintro F2 ⟨y1, y2⟩
      rw [bnd_eq, iI_add, show (p : Int) + (here : Int) = ((p + here : Nat) : Int) by omega]
      refine ok_bind (s_matchAt_S h hn hb hm u (p := p + here) hg.2.1) ?_
      rintro ⟨r2, u2⟩ e10
      dsimp only at e10 ⊢
      subst e10
      rw [bnd_eq, show (1 : Int32) = iI 1 from rfl, iI_add]
      refine ok_go ⟨p + here, by omega, hg.2.1, fg, _, st + 1, _, rfl, rfl, rfl, by omega, Or.inr rfl, y1, fun x hx => (y2 x hx).resolve_right h0, by omega, ?_⟩
      rw [List.append_assoc]
      exact e9
    have g3 : ok (m_Packer_chooseLongest_S_J40 (iI base) (iI n) cnt 5000 bF 5000 hF 4000 s1 s2 (iI p) (iI here) (iI st)) (St (fun s' => ∃ k', p < k' ∧ k' ≤ n ∧ ∃ (fg here st : Nat) (d : List (Nat × Nat)), s'.2.2.1 = iI k' ∧ s'.2.2.2.1 = iI here ∧ s'.2.2.2.2 = iI st ∧ st ≤ k' ∧ (here = 0 ∨ here = mt true M n k') ∧ FA n s'.1 d ∧ (∀ x ∈ d, x.1 < k') ∧ n - k' ≤ fg ∧ d ++ gr true lazy (mt true M n) n fg k' here = gr true lazy (mt true M n) n n 0 (mt true M n 0)) (fun o => FA n o.1 (gr true lazy (mt true M n) n n 0 (mt true M n 0)))) ∨ (lazy = false ∧ here ≠ 0) := by
      by_cases z : lazy = false ∧ here ≠ 0
      · exact Or.inr z
      · refine Or.inl ?_
        unfold m_Packer_chooseLongest_S_J40
        rw [show (1 : Int32) = iI 1 from rfl, iI_add, show (p : Int) + 1 = ((p + 1 : Nat) : Int) by omega]
        refine ok_bind (s_matchAt_S h hn hb hm s2 (p := p + 1) (by omega)) ?_
        rintro ⟨r2, u2⟩ e10
        dsimp only at e10 ⊢
        subst e10
        by_cases q : here = 0 ∨ (lazy = true ∧ here < mt true M n (p + 1))
        · unfold m_Packer_chooseLongest_S_J47
          by_cases q2 : here = 0
          · rw [if_pos (by rw [q2]; rfl)]
            exact g1 u2 q
          · rw [if_neg (by rw [iI_eq0 (by omega)]; omega), if_leF (by omega) (by omega) (by have := q.resolve_left q2; omega)]
            exact g1 u2 q
        · refine g2 u2 _ q ?_
          rw [iI_le (by omega) (by omega)]
          have h0 : here ≠ 0 := fun z => q (Or.inl z)
          have h1 : lazy = true := by
            cases lazy
            · exact absurd ⟨rfl, h0⟩ z
            · rfl
          have h2 : ¬ here < mt true M n (p + 1) := fun y => q (Or.inr ⟨h1, y⟩)
          omega
    by_cases c2 : here = 0
    · rw [if_le0T (by omega) (by omega)]
      exact g3.resolve_right (fun y => y.2 c2)
    · rw [if_le0F (by omega) (by omega)]
      cases lazy
      · rw [if_pos (by decide)]
        refine g2 s2 _ (by simp [c2]) ?_
        rw [show (0 : Int32) = iI 0 from rfl, iI_le (by omega) (by omega)]
        omega
      · rw [if_neg (by decide)]
        exact g3.resolve_right (fun y => absurd y.1 (by decide))
theorem s_pieces_E {n : Nat} (hn4 : n ≤ 4000) {p here : Nat} (hp : p + here ≤ n) {F : Nat → Int32} {xs : List (Nat × Nat)} (hF : FA n F xs) (hx : ∀ x ∈ xs, x.1 < p) : ok (m_Packer_choosePieces_E (iI p) (iI here) (iI n) 4000 F) (fun F' => FA n F' (xs ++ pcs false here p here) ∧ ∀ x ∈ xs ++ pcs false here p here, x.1 < p + here ∨ here = 0) := by
  unfold m_Packer_choosePieces_E m_Packer_choosePieces_E_E66
  rw [iI_sub, iI_min (by omega) (by omega), show min (here : Int) ((n : Int) - (p : Int)) = ((here : Nat) : Int) by omega]
  simp (disch := omega) only [bnd_eq, Option.bind_some, lit_0, lit_1, lit_m1, lit_4, lit_5000, iI_nI, iI_add, iI_sub, iI_mul, iI_neg, chk_iI, iI_clamp, iI_lt, iI_le, iI_eq, if_pos, if_neg, if_true, if_false, Int.toNat_natCast]
  refine ok_bind (Q := fun F' => FA n F' (xs ++ pcs false here p here) ∧ ∀ x ∈ xs ++ pcs false here p here, x.1 < p + here ∨ here = 0) ?_ (fun o ho => ok_some ho)
  refine ok_loop (fun k s => ∃ (f left : Nat) (d : List (Nat × Nat)), s.2.1 = iI left ∧ s.2.2 = iI k ∧ left ≤ f ∧ k + left ≤ here ∧ d ++ pcs false f (p + here - left) left = xs ++ pcs false here p here ∧ FA n s.1 d ∧ ∀ x ∈ d, x.1 < p + here - left) here (by omega) ⟨here, here, xs, rfl, rfl, Nat.le_refl _, by omega, by rw [show p + here - here = p by omega], hF, fun x hx' => by have := hx x hx'; omega⟩ ?_
  rintro k ⟨s1, s2, s3⟩ hk ⟨f, left, d, e1, e2, e3, e4, e5, e6, e7⟩
  dsimp only at e1 e2 e6
  subst e1 e2
  unfold m_Packer_choosePieces_E_B19
  dsimp only
  by_cases c1 : left = 0
  · subst c1
    rw [pcs_0, List.append_nil] at e5
    have hd : FA n s1 (xs ++ pcs false here p here) ∧ ∀ x ∈ xs ++ pcs false here p here, x.1 < p + here ∨ here = 0 := by
      rw [← e5]
      exact ⟨e6, fun x hx' => Or.inl (by have := e7 x hx'; omega)⟩
    by_cases c2 : 4000 ≤ k
    · simp (disch := omega) only [bnd_eq, Option.bind_some, lit_0, lit_1, lit_m1, lit_4, lit_5000, iI_nI, iI_add, iI_sub, iI_mul, iI_neg, chk_iI, iI_clamp, iI_lt, iI_le, iI_eq, if_pos, if_neg, if_true, if_false, Int.toNat_natCast, lit_4000]
      exact ok_end hd
    · simp (disch := omega) only [bnd_eq, Option.bind_some, lit_0, lit_1, lit_m1, lit_4, lit_5000, iI_nI, iI_add, iI_sub, iI_mul, iI_neg, chk_iI, iI_clamp, iI_lt, iI_le, iI_eq, if_pos, if_neg, if_true, if_false, Int.toNat_natCast, lit_4000]
      exact ok_end hd
  · have hpc := pc_in false (left := left) (by omega)
    simp (disch := omega) only [bnd_eq, Option.bind_some, lit_0, lit_1, lit_m1, lit_4, lit_5000, iI_nI, iI_add, iI_sub, iI_mul, iI_neg, chk_iI, iI_clamp, iI_lt, iI_le, iI_eq, if_pos, if_neg, if_true, if_false, Int.toNat_natCast, lit_4000]
    rw [s_pieceOf_E (by omega)]
    simp (disch := omega) only [bnd_eq, Option.bind_some, lit_0, lit_1, lit_m1, lit_4, lit_5000, iI_nI, iI_add, iI_sub, iI_mul, iI_neg, chk_iI, iI_clamp, iI_lt, iI_le, iI_eq, if_pos, if_neg, if_true, if_false, Int.toNat_natCast, lit_4000]
    rw [pk_us]
    simp (disch := omega) only [bnd_eq, Option.bind_some, lit_0, lit_1, lit_m1, lit_4, lit_5000, iI_nI, iI_add, iI_sub, iI_mul, iI_neg, chk_iI, iI_clamp, iI_lt, iI_le, iI_eq, if_pos, if_neg, if_true, if_false, Int.toNat_natCast, lit_4000]
    obtain ⟨f, rfl⟩ : ∃ m, f = m + 1 := ⟨f - 1, by omega⟩
    rw [pcs_s false c1] at e5
    rw [show ((p : Int) + (here : Int) - (left : Int)).toNat = p + here - left by omega]
    refine ok_go ⟨k + 1, by omega, by omega, f, left - pc false left, d ++ [(p + here - left, pc false left)], ?_, by simp, by omega, by omega, ?_, e6.push e7, fun x hx' => ?_⟩
    · show iI ((left : Int) - (pc false left : Int)) = _
      congr 1
      omega
    · rw [List.append_assoc, show p + here - (left - pc false left) = p + here - left + pc false left by omega]
      exact e5
    · rw [List.mem_append] at hx'
      rcases hx' with hx' | hx'
      · have := e7 x hx'
        omega
      · rw [List.mem_singleton] at hx'
        rw [hx']
        dsimp only
        omega
theorem s_limitAt_E {n p : Nat} (hn : n ≤ 4000) (hp : p ≤ n) : m_Elements_limitAt (iI p) (iI n) = some (iI (lim false n p)) := by
  unfold m_Elements_limitAt lim
  rw [if_neg (by decide), iI_sub]
  congr 2
  omega
theorem s_matchAt_E {cnt : Int32} {hF bF lF : Nat → Int32} {t : List Int} (h : TR cnt hF bF lF t) {n base : Nat} (hn : n ≤ 4000) (hb : base + n ≤ t.length) {M : Nat → Nat} (hm : HM (gx t) base n M) (fo : Int32) {p : Nat} (hp : p ≤ n) : ok (m_Packer_matchAt_E (iI p) (iI base) (iI n) cnt fo 5000 bF 5000 hF) (fun o => o.1 = iI (mt false M n p)) := by
  have hl := lim_le false n p
  have ht := h.2.1
  unfold m_Packer_matchAt_E
  rw [s_limitAt_E hn hp, Option.bind_some, iI_add, show (base : Int) + (p : Int) = ((base + p : Nat) : Int) by omega]
  refine ok_bind (s_reach h fo (b := base + p) (lim := lim false n p) (span := 5000) (by omega) (by omega)) ?_
  rintro ⟨r, u⟩ ⟨r', e1, e2, e9⟩
  clear e9
  dsimp only at e1 ⊢
  subst e1
  have e3 := e2.1
  have e4 : r' = min (lim false n p) (M p) := by
    by_cases c : p < n
    · exact e2.eq ((hm p c).cut hl) (by omega) (by omega)
    · omega
  unfold mt
  rw [← e4]
  by_cases c : r' < 4
  · rw [if_pos c]
    simp (disch := omega) only [bnd_eq, Option.bind_some, lit_0, lit_1, lit_m1, lit_4, lit_5000, iI_nI, iI_add, iI_sub, iI_mul, iI_neg, chk_iI, iI_clamp, iI_lt, iI_le, iI_eq, if_pos, if_neg, if_true, if_false, Int.toNat_natCast]
    exact ok_some rfl
  · rw [if_neg c]
    simp (disch := omega) only [bnd_eq, Option.bind_some, lit_0, lit_1, lit_m1, lit_4, lit_5000, iI_nI, iI_add, iI_sub, iI_mul, iI_neg, chk_iI, iI_clamp, iI_lt, iI_le, iI_eq, if_pos, if_neg, if_true, if_false, Int.toNat_natCast]
    exact ok_some rfl
theorem s_longest_E {cnt : Int32} {hF bF lF : Nat → Int32} {t : List Int} (h : TR cnt hF bF lF t) {n base : Nat} (hn : n ≤ 4000) (hb : base + n ≤ t.length) {M : Nat → Nat} (hm : HM (gx t) base n M) (fo : Int32) (lazy : Bool) {F : Nat → Int32} (hF0 : ∀ j, j < n → F j = 0) : ok (m_Packer_chooseLongest_E (iI (if lazy = true then 1 else 0)) (iI base) (iI n) cnt fo 5000 bF 5000 hF 4000 F) (fun o => FA n o.2 (gr false lazy (mt false M n) n n 0 (mt false M n 0))) := by
  have hmle : ∀ p, mt false M n p ≤ n := by
    intro p
    by_cases z : mt false M n p = 0
    · omega
    · have := (mt_GL hm false z).2.1
      omega
  unfold m_Packer_chooseLongest_E
  refine ok_bind (s_matchAt_E h hn hb hm fo (p := 0) (by omega)) ?_
  rintro ⟨r, u⟩ e1
  dsimp only at e1 ⊢
  subst e1
  refine ok_bind (Q := fun o => FA n o.1 (gr false lazy (mt false M n) n n 0 (mt false M n 0))) ?_ (fun o ho => ok_some ho)
  refine ok_loop (fun p s => ∃ (fg here st : Nat) (d : List (Nat × Nat)), s.2.2.1 = iI p ∧ s.2.2.2.1 = iI here ∧ s.2.2.2.2 = iI st ∧ st ≤ p ∧ (here = 0 ∨ here = mt false M n p) ∧ FA n s.1 d ∧ (∀ x ∈ d, x.1 < p) ∧ n - p ≤ fg ∧ d ++ gr false lazy (mt false M n) n fg p here = gr false lazy (mt false M n) n n 0 (mt false M n 0)) n (by omega) ⟨n, _, 0, [], rfl, rfl, rfl, Nat.le_refl _, Or.inr rfl, fun j hj => hF0 j hj, fun x hx => absurd hx (by simp), by omega, rfl⟩ ?_
  rintro p ⟨s1, s2, s3, s4, s5⟩ hp ⟨fg, here, st, d, e1, e2, e3, e4, e5, e6, e7, e8, e9⟩
  dsimp only at e1 e2 e3 e6
  subst e1 e2 e3
  unfold m_Packer_chooseLongest_E_B10
  dsimp only
  by_cases c1 : n ≤ p
  · have hd : FA n s1 (gr false lazy (mt false M n) n n 0 (mt false M n 0)) := by
      rw [gr_end _ _ _ _ _ c1, List.append_nil] at e9
      rw [← e9]
      exact e6
    by_cases c2 : 4000 ≤ st
    · simp (disch := omega) only [bnd_eq, Option.bind_some, lit_0, lit_1, lit_m1, lit_4, lit_5000, iI_nI, iI_add, iI_sub, iI_mul, iI_neg, chk_iI, iI_clamp, iI_lt, iI_le, iI_eq, if_pos, if_neg, if_true, if_false, Int.toNat_natCast, lit_4000]
      exact ok_end hd
    · simp (disch := omega) only [bnd_eq, Option.bind_some, lit_0, lit_1, lit_m1, lit_4, lit_5000, iI_nI, iI_add, iI_sub, iI_mul, iI_neg, chk_iI, iI_clamp, iI_lt, iI_le, iI_eq, if_pos, if_neg, if_true, if_false, Int.toNat_natCast, lit_4000]
      exact ok_end hd
  · have hle : here ≤ n := by
      rcases e5 with e | e
      · omega
      · rw [e]; exact hmle p
    have hle2 := hmle (p + 1)
    obtain ⟨fg, rfl⟩ : ∃ m, fg = m + 1 := ⟨fg - 1, by omega⟩
    rw [show (4000 : Int32) = iI 4000 from rfl, if_leF (by omega) (by omega) (by omega), if_leF (by omega) (by omega) (by omega)]
    have g1 : ∀ u : Int32, (here = 0 ∨ (lazy = true ∧ here < mt false M n (p + 1))) → ok (m_Packer_chooseLongest_E_J59 s1 (iI p) (iI st) u (iI (mt false M n (p + 1)))) (St (fun s' => ∃ k', p < k' ∧ k' ≤ n ∧ ∃ (fg here st : Nat) (d : List (Nat × Nat)), s'.2.2.1 = iI k' ∧ s'.2.2.2.1 = iI here ∧ s'.2.2.2.2 = iI st ∧ st ≤ k' ∧ (here = 0 ∨ here = mt false M n k') ∧ FA n s'.1 d ∧ (∀ x ∈ d, x.1 < k') ∧ n - k' ≤ fg ∧ d ++ gr false lazy (mt false M n) n fg k' here = gr false lazy (mt false M n) n n 0 (mt false M n 0)) (fun o => FA n o.1 (gr false lazy (mt false M n) n n 0 (mt false M n 0)))) := by
      intro u q
      unfold m_Packer_chooseLongest_E_J59 m_Packer_chooseLongest_E_J84
      rw [gr_1 _ _ _ (by omega) q] at e9
      rw [bnd_eq, bnd_eq, show (1 : Int32) = iI 1 from rfl, iI_add, iI_add]
      exact ok_go ⟨p + 1, by omega, by omega, fg, _, st + 1, d, rfl, rfl, rfl, by omega, Or.inr rfl, e6, fun x hx => by have := e7 x hx; omega, by omega, e9⟩
    have g2 : ∀ (u s : Int32), ¬ (here = 0 ∨ (lazy = true ∧ here < mt false M n (p + 1))) → s ≤ iI here → ok (m_Packer_chooseLongest_E_J47 (iI base) (iI n) cnt 5000 bF 5000 hF 4000 s1 (iI p) (iI here) (iI st) u s) (St (fun s' => ∃ k', p < k' ∧ k' ≤ n ∧ ∃ (fg here st : Nat) (d : List (Nat × Nat)), s'.2.2.1 = iI k' ∧ s'.2.2.2.1 = iI here ∧ s'.2.2.2.2 = iI st ∧ st ≤ k' ∧ (here = 0 ∨ here = mt false M n k') ∧ FA n s'.1 d ∧ (∀ x ∈ d, x.1 < k') ∧ n - k' ≤ fg ∧ d ++ gr false lazy (mt false M n) n fg k' here = gr false lazy (mt false M n) n n 0 (mt false M n 0)) (fun o => FA n o.1 (gr false lazy (mt false M n) n n 0 (mt false M n 0)))) := by
      intro u s q hs
      have h0 : here ≠ 0 := fun z => q (Or.inl z)
      have hh := e5.resolve_left h0
      have hg := mt_GL hm false (p := p) (by omega)
      rw [← hh] at hg
      unfold m_Packer_chooseLongest_E_J47 m_Packer_chooseLongest_E_J84
      rw [if_neg (by rw [iI_eq0 (by omega)]; omega), if_pos hs]
      rw [gr_2 _ _ _ (by omega) q] at e9
      refine ok_bind (s_pieces_E hn hg.2.1 e6 e7) ?_
      rintro F2 ⟨y1, y2⟩
      rw [bnd_eq, iI_add, show (p : Int) + (here : Int) = ((p + here : Nat) : Int) by omega]
      refine ok_bind (s_matchAt_E h hn hb hm u (p := p + here) hg.2.1) ?_
      rintro ⟨r2, u2⟩ e10
      dsimp only at e10 ⊢
      subst e10
      rw [bnd_eq, show (1 : Int32) = iI 1 from rfl, iI_add]
      refine ok_go ⟨p + here, by omega, hg.2.1, fg, _, st + 1, _, rfl, rfl, rfl, by omega, Or.inr rfl, y1, fun x hx => (y2 x hx).resolve_right h0, by omega, ?_⟩
      rw [List.append_assoc]
      exact e9
    have g3 : ok (m_Packer_chooseLongest_E_J40 (iI base) (iI n) cnt 5000 bF 5000 hF 4000 s1 s2 (iI p) (iI here) (iI st)) (St (fun s' => ∃ k', p < k' ∧ k' ≤ n ∧ ∃ (fg here st : Nat) (d : List (Nat × Nat)), s'.2.2.1 = iI k' ∧ s'.2.2.2.1 = iI here ∧ s'.2.2.2.2 = iI st ∧ st ≤ k' ∧ (here = 0 ∨ here = mt false M n k') ∧ FA n s'.1 d ∧ (∀ x ∈ d, x.1 < k') ∧ n - k' ≤ fg ∧ d ++ gr false lazy (mt false M n) n fg k' here = gr false lazy (mt false M n) n n 0 (mt false M n 0)) (fun o => FA n o.1 (gr false lazy (mt false M n) n n 0 (mt false M n 0)))) ∨ (lazy = false ∧ here ≠ 0) := by
      by_cases z : lazy = false ∧ here ≠ 0
      · exact Or.inr z
      · refine Or.inl ?_
        unfold m_Packer_chooseLongest_E_J40
        rw [show (1 : Int32) = iI 1 from rfl, iI_add, show (p : Int) + 1 = ((p + 1 : Nat) : Int) by omega]
        refine ok_bind (s_matchAt_E h hn hb hm s2 (p := p + 1) (by omega)) ?_
        rintro ⟨r2, u2⟩ e10
        dsimp only at e10 ⊢
        subst e10
        by_cases q : here = 0 ∨ (lazy = true ∧ here < mt false M n (p + 1))
        · unfold m_Packer_chooseLongest_E_J47
          by_cases q2 : here = 0
          · rw [if_pos (by rw [q2]; rfl)]
            exact g1 u2 q
          · rw [if_neg (by rw [iI_eq0 (by omega)]; omega), if_leF (by omega) (by omega) (by have := q.resolve_left q2; omega)]
            exact g1 u2 q
        · refine g2 u2 _ q ?_
          rw [iI_le (by omega) (by omega)]
          have h0 : here ≠ 0 := fun z => q (Or.inl z)
          have h1 : lazy = true := by
            cases lazy
            · exact absurd ⟨rfl, h0⟩ z
            · rfl
          have h2 : ¬ here < mt false M n (p + 1) := fun y => q (Or.inr ⟨h1, y⟩)
          omega
    by_cases c2 : here = 0
    · rw [if_le0T (by omega) (by omega)]
      exact g3.resolve_right (fun y => y.2 c2)
    · rw [if_le0F (by omega) (by omega)]
      cases lazy
      · rw [if_pos (by decide)]
        refine g2 s2 _ (by simp [c2]) ?_
        rw [show (0 : Int32) = iI 0 from rfl, iI_le (by omega) (by omega)]
        omega
      · rw [if_neg (by decide)]
        exact g3.resolve_right (fun y => absurd y.1 (by decide))
