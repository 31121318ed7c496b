/-! the reference's elements; the plan of both sides -/
theorem t_J85 {tf : Nat → Int32} {g : Nat → Int} {L : Nat} (hm : MG tf g L) (hL : L ≤ 5000) {N : Nat} (hN : N < 1048576) {cnt : Int32} {f : Nat → Int32} {o : List Int} (h : MR cnt f o) {lean w s pa : Nat} (hws : w ≤ s) (ha : lean + s ≤ L) (hl : o.length + (hd false (s - w) + (s - w)) ≤ N) {cl co : Nat → Int32} {i u1 : Int32} {Q : _ → Prop} (hQ : ∀ (f' : Nat → Int32) (c' : Int32), MR c' f' (o ++ qL g (lean + w) (s - w)) → ok (m_Mo_elements_J112 4000 4000 N u1 cl co (iI w) i (iI s) f' (iI ((pa + (if s - w = 0 then 0 else 1) : Nat) : Int)) c') Q) : ok (m_Mo_elements_J85 (iI lean) 5000 tf 4000 4000 N u1 cl co f (iI pa) cnt (iI w) i (iI s)) Q := by
  unfold m_Mo_elements_J85
  by_cases c : s - w = 0
  · rw [if_leT (by omega) (by omega) (by omega)]
    have := hQ f cnt (by unfold qL; rw [if_pos c, List.append_nil]; exact h)
    rw [if_pos c] at this
    exact this
  · rw [if_leF (by omega) (by omega) (by omega), iI_sub, show (s : Int) - (w : Int) = ((s - w : Nat) : Int) by omega]
    refine ok_bind (t_literal hm hL hN h (by omega) (by omega) hl) ?_
    rintro ⟨v1, v2⟩ hv
    have := hQ v2 v1 hv
    rw [if_neg c] at this
    dsimp only
    rw [bnd_eq, lit_1, iI_add]
    exact this
theorem t_vhead {N : Nat} (hN : N < 1048576) {cnt : Int32} {f : Nat → Int32} {xs : List Int} (h : MR cnt f xs) {n : Nat} (hn : n ≤ 4000) (hl : xs.length + 2 ≤ N) {β : Type} {k : (Nat → Int32) → Int32 → Int32 → Option β} {Q : β → Prop} (hk : ∀ (f' : Nat → Int32) (c' : Int32) (z : Nat) (o : List Int), z < 128 → MR c' f' o → o ++ [(z : Int) % 256] = xs ++ vh n → ok (k f' c' (iI z)) Q) : ok ((iter (fun st => m_Mo_elements_B11 N st.1 st.2.1 st.2.2) FU (f, cnt, iI n)).bind fun o => k o.1 o.2.1 o.2.2) Q := by
  refine ok_bind (Q := fun s => ∃ (z : Nat) (o : List Int), s.2.2 = iI z ∧ z < 128 ∧ MR s.2.1 s.1 o ∧ o ++ [(z : Int) % 256] = xs ++ vh n) ?_ ?_
  · refine ok_loop (fun j s => ∃ z : Nat, s.2.2 = iI z ∧ ((j = 0 ∧ z = n ∧ MR s.2.1 s.1 xs) ∨ (j = 1 ∧ z = n / 128 ∧ 128 ≤ n ∧ MR s.2.1 s.1 (xs ++ [((128 + n % 128 : Nat) : Int) % 256])))) 1 (by omega) ⟨n, rfl, Or.inl ⟨rfl, rfl, h⟩⟩ ?_
    rintro j ⟨s1, s2, s3⟩ hj ⟨z, e1, e2⟩
    dsimp only at e1 e2
    subst e1
    unfold m_Mo_elements_B11
    dsimp only
    rcases e2 with ⟨rfl, rfl, e3⟩ | ⟨rfl, rfl, e4, e3⟩
    · by_cases c : z < 128
      · simp (disch := omega) only [bnd_eq, Option.bind_some, lit_0, lit_1, lit_m1, lit_4, lit_5000, iI_nI, iI_add, iI_sub, iI_mul, iI_neg, chk_iI, iI_clamp, iI_lt, iI_le, iI_eq, if_pos, if_neg, if_true, if_false, Int.toNat_natCast, lit_128]
        exact ok_end ⟨z, xs, rfl, c, e3, by unfold vh; rw [if_pos c]⟩
      · rw [ishr7 z (by omega), or128 z (by omega), if_neg (by rw [lit_128, iI_lt (by omega) (by omega)]; omega)]
        refine ok_bind (t_put _ e3 (by omega) (by omega)) ?_
        rintro ⟨u1, u2⟩ hu
        dsimp only at hu ⊢
        rw [bnd_eq]
        exact ok_go ⟨1, by omega, by omega, z / 128, rfl, Or.inr ⟨rfl, rfl, by omega, hu⟩⟩
    · simp (disch := omega) only [bnd_eq, Option.bind_some, lit_0, lit_1, lit_m1, lit_4, lit_5000, iI_nI, iI_add, iI_sub, iI_mul, iI_neg, chk_iI, iI_clamp, iI_lt, iI_le, iI_eq, if_pos, if_neg, if_true, if_false, Int.toNat_natCast, lit_128]
      refine ok_end ⟨n / 128, _, rfl, by omega, e3, ?_⟩
      unfold vh
      rw [if_neg (by omega), List.append_assoc]
      rfl
  · rintro ⟨o1, o2, o3⟩ ⟨z, o, e1, e2, e3, e4⟩
    dsimp only at e1 e3 ⊢
    subst e1
    exact hk _ _ _ _ e2 e3 e4
def Iel (g : Nat → Int) (lean n : Nat) (xs : List (Nat × Nat)) (all : List Int) (k : Nat) (s : (Nat → Int32) × Int32 × Int32 × Int32 × Int32) : Prop := s.2.2.2.2 = iI k ∧ ((∃ (w pa : Nat) (d r : List (Nat × Nat)) (o : List Int), k = d.length ∧ d ++ r = xs ∧ s.2.2.2.1 = iI w ∧ s.2.1 = iI pa ∧ pa + pts false n w r = pts false n 0 xs ∧ GL g lean n w r ∧ MR s.2.2.1 s.1 o ∧ o ++ em false g lean n w r = all) ∨ (k = xs.length + 1 ∧ s.2.1 = iI (pts false n 0 xs) ∧ MR s.2.2.1 s.1 all))
theorem t_elems {tf : Nat → Int32} {g : Nat → Int} {L : Nat} (hm : MG tf g L) (hL : L ≤ 5000) {N : Nat} (hN : N < 1048576) {lean n : Nat} (hn : n ≤ 4000) (hnL : lean + n ≤ L) {cnt : Int32} {f : Nat → Int32} {out : List Int} (h : MR cnt f out) {xs : List (Nat × Nat)} (hx : GL g lean n 0 xs) {ca cl co : Nat → Int32} {c : Int32} (hc : CA g lean ca cl co c xs) (hl : out.length + (em false g lean n 0 xs).length ≤ N) (u2 u3 : Int32) (u4 u5 u6 u7 u8 u9 : Nat → Int32) : ok (iter (fun st => m_Mo_elements_B53 (iI lean) (iI n) 5000 tf 4000 4000 4000 N c u2 u3 u4 u5 u6 u7 u8 u9 ca cl co st.1 st.2.1 st.2.2.1 st.2.2.2.1 st.2.2.2.2) FU (f, 0, cnt, 0, 0)) (fun o => MR o.1 o.2.2.2.2.2.2.2.2.2.2.2.2.2.2 (out ++ em false g lean n 0 xs) ∧ o.2.2.1 = u2 ∧ o.2.2.2.1 = u3 ∧ o.2.2.2.2.1 = iI (pts false n 0 xs)) := by
  have hll := li_le hx
  have hl2 : (out ++ em false g lean n 0 xs).length ≤ N := by rw [List.length_append]; exact hl
  obtain ⟨rfl, hca⟩ := hc
  have hpp := pts_le false hx
  generalize hall : out ++ em false g lean n 0 xs = all at hl2 ⊢
  refine ok_loop (Iel g lean n xs all) (xs.length + 1) (by omega) ⟨rfl, Or.inl ⟨0, 0, [], xs, out, rfl, rfl, rfl, rfl, by omega, hx, h, hall⟩⟩ ?_
  rintro k ⟨s1, s2, s3, s4, s5⟩ hk ⟨e1, e2⟩
  dsimp only at e1 e2
  subst e1
  unfold m_Mo_elements_B53
  dsimp only
  rcases e2 with ⟨w, pa, d, r, o, e2, e3, e4, e8, e9, e5, e6, e7⟩ | ⟨e2, e4, e3⟩
  · subst e4 e8
    have hw := e5.le
    cases r with
    | nil =>
      rw [List.append_nil] at e3
      subst e3
      rw [em] at e7
      unfold wq at e7
      rw [if_neg (show ¬ (false = true) by decide)] at e7
      have hlen := congrArg List.length e7
      rw [List.length_append, qE_len] at hlen
      rw [pts, if_neg (show ¬ (false = true) by decide)] at e9
      rw [if_ltF (by omega) (by omega) (by omega), if_eqT (by omega) (by omega) (by omega)]
      refine t_J85 hm hL hN e6 (by omega) (by omega) (by omega) ?_
      intro f' c' hf
      unfold m_Mo_elements_J112 m_Mo_elements_J215
      rw [if_leT (by omega) (by omega) (by omega), bnd_eq, lit_1, iI_add]
      refine ok_go ⟨k + 1, by omega, by omega, rfl, Or.inr ⟨by omega, ?_, ?_⟩⟩
      · dsimp only
        rw [e9]
      · dsimp only
        unfold qE at e7
        rw [if_pos rfl, List.append_nil] at e7
        rw [← e7]
        exact hf
    | cons x r =>
      obtain ⟨x1, x2⟩ := x
      obtain ⟨y1, y2, y3, y4, y5⟩ := id e5
      dsimp only at y1 y2 y3 y4 y5
      have hlx : xs.length = d.length + (r.length + 1) := by rw [← e3, List.length_append, List.length_cons]
      have hat : xs.getD k (0, 0) = (x1, x2) := by rw [← e3, e2, gp_r (Nat.le_refl _), Nat.sub_self]; rfl
      have hcak := hca k (by omega)
      rw [hat] at hcak
      dsimp only at hcak
      obtain ⟨hc1, hc2, hc3⟩ := hcak
      have hno := nO_near y4
      have hno1 := hno.2.1
      rw [em] at e7
      dsimp only at e7
      unfold wq at e7
      rw [if_neg (show ¬ (false = true) by decide)] at e7
      generalize hoo : nO g (lean + x1) x2 = oo at e7 hc3 hno1
      have hlen := congrArg List.length e7
      rw [List.length_append, List.length_append, qE_len, if_neg (show ¬ x2 = 0 by omega)] at hlen
      rw [pts, if_neg (show ¬ (false = true) by decide)] at e9
      dsimp only at e9
      rw [if_ltF (by omega) (by omega) (by omega), if_eqF (by omega) (by omega) (by omega), chk_iI (by omega) (by omega), iI_clamp (by omega) (by omega), Int.toNat_natCast, hc1]
      refine t_J85 hm hL hN e6 (by omega) (by omega) (by omega) ?_
      intro f' c' hf
      have hlf : (o ++ qL g (lean + w) (x1 - w)).length = o.length + (hd false (x1 - w) + (x1 - w)) := by
        rw [List.length_append, qL_len]
      unfold m_Mo_elements_J112
      rw [if_leF (by omega) (by omega) (by omega), chk_iI (by omega) (by omega), bnd_eq, chk_iI (by omega) (by omega), bnd_eq, iI_clamp (by omega) (by omega), Int.toNat_natCast, hc2, hc3, t_cheap (by omega) (by omega), Option.bind_some]
      have hfin : ∀ (f2 : Nat → Int32) (c2 : Int32), MR c2 f2 (o ++ qL g (lean + w) (x1 - w) ++ ecp x2 oo) → ok (m_Mo_elements_J199 (iI k) (iI x1) (iI ((pa + (if x1 - w = 0 then 0 else 1) : Nat) : Int)) (iI x2) f2 c2) (St (fun s' => ∃ k', k < k' ∧ k' ≤ xs.length + 1 ∧ Iel g lean n xs all k' s') (fun o => MR o.1 o.2.2.2.2.2.2.2.2.2.2.2.2.2.2 all ∧ o.2.2.1 = u2 ∧ o.2.2.2.1 = u3 ∧ o.2.2.2.2.1 = iI (pts false n 0 xs))) := by
        intro f2 c2 hf2
        unfold m_Mo_elements_J199 m_Mo_elements_J215
        rw [bnd_eq, bnd_eq, bnd_eq, lit_1, iI_add, iI_add, iI_add]
        refine ok_go ⟨k + 1, by omega, by omega, rfl, Or.inl ⟨x1 + x2, pa + (if x1 - w = 0 then 0 else 1) + 1, d ++ [(x1, x2)], r, o ++ qE g (lean + w) (x1 - w) x2 oo, by rw [List.length_append, List.length_singleton]; omega, by rw [List.append_assoc]; exact e3, ?_, ?_, by omega, y5, ?_, by rw [List.append_assoc]; exact e7⟩⟩
        · dsimp only
          congr 1
        · dsimp only
          congr 1
        · dsimp only
          unfold qE
          rw [if_neg (show ¬ x2 = 0 by omega), ← List.append_assoc]
          exact hf2
      by_cases c5 : 4 ≤ x2 ∧ x2 ≤ 11 ∧ oo < 2048
      · rw [if_pos c5] at hlen ⊢
        rw [if_pos (by rfl), ishr8 oo c5.2.2, lit_4, iI_sub, show (x2 : Int) - 4 = ((x2 - 4 : Nat) : Int) by omega, orcp _ (by omega) _ (by omega)]
        refine ok_bind (t_put _ hf (by omega) (by omega)) ?_
        rintro ⟨v1, v2⟩ hv
        dsimp only at hv ⊢
        refine ok_bind (t_put _ hv (by rw [List.length_append, List.length_singleton]; omega) (by omega)) ?_
        rintro ⟨v3, v4⟩ hv2
        dsimp only at hv2 ⊢
        refine hfin v4 v3 ?_
        unfold ecp
        rw [if_pos c5]
        rw [List.append_assoc] at hv2
        exact hv2
      · rw [if_neg c5] at hlen ⊢
        rw [if_neg (show ¬ iI ((3 : Nat) : Int) = 2 by decide), lit_1, iI_sub, show (x2 : Int) - 1 = ((x2 - 1 : Nat) : Int) by omega, orc2 _ (by omega)]
        refine ok_bind (t_put _ hf (by omega) (by omega)) ?_
        rintro ⟨v1, v2⟩ hv
        dsimp only at hv ⊢
        rw [iI_j (by omega), show (2 : Int32) = iI ((2 : Nat) : Int) from rfl]
        refine ok_bind (t_lowest (by omega) (by omega) hv (by rw [List.length_append, List.length_singleton]; omega) (by omega)) ?_
        rintro ⟨v3, v4⟩ hv2
        dsimp only at hv2 ⊢
        refine hfin v4 v3 ?_
        unfold ecp
        rw [if_neg c5]
        rw [List.append_assoc] at hv2
        exact hv2
  · subst e4
    rw [if_ltT (by omega) (by omega) (by omega)]
    exact ok_end ⟨e3, rfl, rfl, rfl⟩
/-! the plan -/
def sm : List (Nat × Nat) → Nat
  | [] => 0
  | x :: r => x.2 + sm r
theorem sm_snoc (x : Nat × Nat) : ∀ d : List (Nat × Nat), sm (d ++ [x]) = sm d + x.2
  | [] => by simp [sm]
  | y :: d => by rw [List.cons_append, sm, sm_snoc x d, sm]; omega
theorem sm_app : ∀ d r : List (Nat × Nat), sm (d ++ r) = sm d + sm r
  | [], r => by rw [List.nil_append, sm]; omega
  | y :: d, r => by rw [List.cons_append, sm, sm_app d r, sm]; omega
theorem li_sm {g : Nat → Int} {lean n : Nat} : ∀ {p : Nat} {xs : List (Nat × Nat)}, GL g lean n p xs → li n p xs + sm xs = n - p
  | p, [], h => by rw [li, sm]; omega
  | p, x :: r, h => by
    obtain ⟨h1, h2, h3, h4, h5⟩ := h
    have := li_sm h5
    rw [li, sm]
    omega
def PLAN (sq : Bool) (g : Nat → Int) (lean n lvl : Nat) (xs : List (Nat × Nat)) : Prop := GL g lean n 0 xs ∧ (sq = true → ∀ x ∈ xs, 4 ≤ x.2) ∧ ec sq g lean n 0 xs ≤ 2 * n + 1 ∧ ∃ M : Nat → Nat, HM g lean n M ∧ ((lvl = 2 ∧ ∃ R C K N : Nat → Nat, DP sq g lean n M R C K N 0 ∧ xs = dpl n K N n 0) ∨ (lvl < 2 ∧ xs = gr sq (lvl == 1) (mt sq M n) n n 0 (mt sq M n 0)))
theorem dpl_4 {sq : Bool} {g : Nat → Int} {lean n : Nat} {M R C K N : Nat → Nat} (h : DP sq g lean n M R C K N 0) (hm : HM g lean n M) (hn : n ≤ 4000) : ∀ (f p : Nat), p ≤ n → ∀ x ∈ dpl n K N f p, l0 sq < x.2
  | 0, p, hp, x, hx => by rw [dpl] at hx; exact absurd hx (by simp)
  | f + 1, p, hp, x, hx => by
    by_cases c : n ≤ p
    · rw [dpl_e c] at hx; exact absurd hx (by simp)
    · by_cases e : p + N p = n
      · rw [dpl_l (by omega) e] at hx; exact absurd hx (by simp)
      · rw [dpl_s (by omega) e] at hx
        obtain ⟨a1, a2, a3, a4, a5, a6, a7, a8⟩ := h.at hm hn (show p < n by omega) e
        rw [List.mem_cons] at hx
        rcases hx with hx | hx
        · rw [hx]; exact a5
        · exact dpl_4 h hm hn f _ a3 x hx
theorem pcs_4 (sq : Bool) : ∀ (f p left : Nat), (left = 0 ∨ 4 ≤ left) → ∀ x ∈ pcs sq f p left, 4 ≤ x.2
  | 0, p, left, _, x, hx => by rw [pcs] at hx; exact absurd hx (by simp)
  | f + 1, p, left, hl, x, hx => by
    by_cases c : left = 0
    · subst c
      rw [pcs_0] at hx
      exact absurd hx (by simp)
    · rw [pcs_s sq c, List.mem_cons] at hx
      have h4 : 4 ≤ left := by omega
      have hpc : 4 ≤ pc sq left ∧ (left - pc sq left = 0 ∨ 4 ≤ left - pc sq left) := by
        unfold pc
        split
        · omega
        · split
          · omega
          · split <;> omega
      rcases hx with hx | hx
      · rw [hx]; exact hpc.1
      · exact pcs_4 sq f _ _ hpc.2 x hx
theorem gr_4 {g : Nat → Int} {lean n : Nat} {M : Nat → Nat} (h : HM g lean n M) (sq lazy : Bool) : ∀ (f p here : Nat), (here = 0 ∨ here = mt sq M n p) → ∀ x ∈ gr sq lazy (mt sq M n) n f p here, 4 ≤ x.2
  | 0, p, here, _, x, hx => by rw [gr] at hx; exact absurd hx (by simp)
  | f + 1, p, here, hh, x, hx => by
    by_cases c : n ≤ p
    · rw [gr_end _ _ _ _ _ c] at hx; exact absurd hx (by simp)
    · by_cases c2 : here = 0 ∨ (lazy = true ∧ here < mt sq M n (p + 1))
      · rw [gr_1 _ _ _ (by omega) c2] at hx
        exact gr_4 h sq lazy f (p + 1) _ (Or.inr rfl) x hx
      · rw [gr_2 _ _ _ (by omega) c2, List.mem_append] at hx
        have h0 : here ≠ 0 := fun q => c2 (Or.inl q)
        have e := hh.resolve_left h0
        have hm := mt_GL h sq (p := p) (by omega)
        rw [← e] at hm
        rcases hx with hx | hx
        · exact pcs_4 sq _ _ _ (Or.inr hm.1) x hx
        · exact gr_4 h sq lazy f _ _ (Or.inr rfl) x hx
theorem hd_2 (sq : Bool) (m : Nat) : hd sq m + m ≤ 2 * m + 1 ∧ (sq = false → hd sq m + m ≤ 2 * m) := by
  unfold hd
  have := ex_2 m
  cases sq
  · rw [if_neg (by decide)]
    refine ⟨?_, fun _ => ?_⟩
    · repeat' split
      all_goals omega
    · repeat' split
      all_goals omega
  · rw [if_pos rfl]
    exact ⟨by omega, fun q => absurd q (by decide)⟩
theorem ec_2 {sq : Bool} {g : Nat → Int} {lean n : Nat} : ∀ {p : Nat} {xs : List (Nat × Nat)}, GL g lean n p xs → (∀ x ∈ xs, 4 ≤ x.2) → ec sq g lean n p xs ≤ 2 * (n - p) + 1
  | p, [], h, _ => by
    rw [ec]
    exact (hd_2 sq (n - p)).1
  | p, x :: r, h, h4 => by
    obtain ⟨h1, h2, h3, h4', h5⟩ := h
    rw [ec]
    have a1 := ec_2 (sq := sq) h5 (fun y hy => h4 y (by simp [hy]))
    have a2 := hd_2 sq (x.1 - p)
    have a3 := h4 x (by simp)
    have a4 : cc sq g lean x.1 x.2 + 1 ≤ 2 * x.2 := by
      unfold cc
      have := ex_2 (x.2 - 4)
      split
      · omega
      · split <;> omega
    omega
theorem RU.M {g : Nat → Int} {lean n : Nat} {ea : Prop} {f off : Nat → Int32} (h : RU g lean n ea (fun _ => 5000) f off) : ∃ M : Nat → Nat, ∀ p, p < n → f p = iI (M p) ∧ Most g (lean + p) (n - p) 5000 (M p) ∧ (ea → ∀ k, 1 ≤ k → k ≤ M p → k ≤ 64 → ∃ q : Nat, off (65 * p + k) = iI q ∧ Near g (lean + p) k q) :=
  ⟨fun p => Classical.epsilon (fun m => f p = iI m ∧ Most g (lean + p) (n - p) 5000 m ∧ (ea → ∀ k, 1 ≤ k → k ≤ m → k ≤ 64 → ∃ q : Nat, off (65 * p + k) = iI q ∧ Near g (lean + p) k q)), fun p hp => Classical.epsilon_spec (h p hp)⟩
def Ppl (sq : Bool) (g : Nat → Int) (lean n lvl : Nat) (o : Int32 × Int32 × Int32 × (Nat → Int32) × (Nat → Int32) × (Nat → Int32) × (Nat → Int32) × (Nat → Int32) × (Nat → Int32) × (Nat → Int32) × (Nat → Int32) × (Nat → Int32)) : Prop := ∃ xs, PLAN sq g lean n lvl xs ∧ CA g lean o.2.2.2.2.2.2.2.2.2.1 o.2.2.2.2.2.2.2.2.2.2.1 o.2.2.2.2.2.2.2.2.2.2.2 o.1 xs ∧ o.2.1 = iI xs.length ∧ o.2.2.1 = iI (li n 0 xs)
theorem t_J51 {sq : Bool} {g : Nat → Int} {lean n lvl : Nat} (hn : n ≤ 4000) {xs : List (Nat × Nat)} (hp : PLAN sq g lean n lvl xs) {ca cl co : Nat → Int32} {c : Int32} (hc : CA g lean ca cl co c xs) (u2 u3 f4 f5 f9 f10 : Nat → Int32) : ok (m_Mo_plan_J51 (iI n) 4000 u2 u3 f4 f5 ca cl co f9 f10 c) (Ppl sq g lean n lvl) := by
  have hls := li_sm hp.1
  have hll := li_le hp.1
  obtain ⟨hc0, hca⟩ := id hc
  unfold m_Mo_plan_J51
  refine ok_bind (Q := Ppl sq g lean n lvl) ?_ (fun o ho => ok_some ho)
  refine ok_loop (fun k s => k ≤ xs.length ∧ s.2 = iI k ∧ s.1 = iI ((n : Int) - sm (xs.take k)) ∧ sm (xs.take k) ≤ n) xs.length (by omega) ⟨by omega, rfl, by simp [sm], by simp [sm]⟩ ?_
  rintro k ⟨s1, s2⟩ hk ⟨e0, e1, e2, e3⟩
  dsimp only at e1 e2
  subst e1 e2
  unfold m_Mo_plan_B69
  dsimp only
  rw [hc0]
  by_cases c1 : xs.length ≤ k
  · simp (disch := omega) only [bnd_eq, Option.bind_some, lit_0, lit_1, lit_m1, lit_4, lit_5000, iI_nI, iI_add, iI_sub, iI_mul, iI_neg, chk_iI, iI_clamp, iI_lt, iI_le, iI_eq, if_pos, if_neg, if_true, if_false, Int.toNat_natCast]
    refine ok_end ⟨xs, hp, ?_, rfl, ?_⟩
    · rw [← hc0]
      exact hc
    · dsimp only
      rw [show xs.take k = xs from List.take_of_length_le c1]
      congr 1
      omega
  · have hck := hca k (by omega)
    have htk : xs.take (k + 1) = xs.take k ++ [xs.getD k (0, 0)] := by
      rw [List.take_succ, List.getD_eq_getElem?_getD, List.getElem?_eq_getElem (by omega)]
      rfl
    have hs2 : sm (xs.take (k + 1)) ≤ n := by
      have h1 : sm xs = sm (xs.take (k + 1)) + sm (xs.drop (k + 1)) := by rw [← sm_app, List.take_append_drop]
      omega
    rw [htk, sm_snoc] at hs2
    simp (disch := omega) only [bnd_eq, Option.bind_some, lit_0, lit_1, lit_m1, lit_4, lit_5000, iI_nI, iI_add, iI_sub, iI_mul, iI_neg, chk_iI, iI_clamp, iI_lt, iI_le, iI_eq, if_pos, if_neg, if_true, if_false, Int.toNat_natCast]
    rw [hck.2.1]
    simp (disch := omega) only [bnd_eq, Option.bind_some, lit_0, lit_1, lit_m1, lit_4, lit_5000, iI_nI, iI_add, iI_sub, iI_mul, iI_neg, chk_iI, iI_clamp, iI_lt, iI_le, iI_eq, if_pos, if_neg, if_true, if_false, Int.toNat_natCast]
    refine ok_go ⟨k + 1, by omega, by omega, by omega, by simp, ?_, by rw [htk, sm_snoc]; exact hs2⟩
    dsimp only
    rw [htk, sm_snoc]
    congr 1
    omega
theorem t_plan {tf : Nat → Int32} {g : Nat → Int} {L : Nat} (h : MG tf g L) (hL : L ≤ 5000) {lean n lvl : Nat} (hnL : lean + n ≤ L) (hn : n ≤ 4000) (hlvl : lvl ≤ 2) (sq : Bool) (mf off wc bc fh bl ca cl co : Nat → Int32) : ok (m_Mo_plan (iI (if sq = true then 1 else 0)) (iI lvl) (iI lean) (iI n) 4000 mf 5000 tf 260000 off 4001 wc 4001 bc 4001 fh 4001 bl 4000 ca 4000 cl 4000 co) (Ppl sq g lean n lvl) := by
  have hJ : ∀ s1 : Int32, (sq = false ∧ lvl = 2 → s1 ≠ 0) → ok (m_Mo_plan_J20 (iI (if sq = true then 1 else 0)) (iI lvl) (iI lean) (iI n) 4000 mf 5000 tf 260000 off 4001 wc 4001 bc 4001 fh 4001 bl 4000 ca 4000 cl 4000 co s1) (Ppl sq g lean n lvl) := by
    intro s1 hs1
    unfold m_Mo_plan_J20
    refine ok_bind (t_runs h hL hnL hn (ea := sq = false ∧ lvl = 2) hs1 mf off) ?_
    rintro ⟨u2, u3⟩ hru
    dsimp only at hru ⊢
    obtain ⟨M, hM⟩ := hru.M
    have hm : HM g lean n M := fun p hp => (hM p hp).2.1
    have hf : ∀ p, p < n → u2 p = iI (M p) := fun p hp => (hM p hp).1
    by_cases c2 : lvl = 2
    · rw [if_pos (by rw [c2]; rfl)]
      refine ok_bind (t_fewest h hL hnL sq hm hn hf (fun q p hp k x1 x2 x3 => (hM p hp).2.2 ⟨q, c2⟩ k x1 x2 x3) bc bl fh wc ca cl co) ?_
      rintro ⟨v1, v2, v3, v4, v5, v6, v7, v8⟩ ⟨R, C, K, N, hdp, hca⟩
      dsimp only at hca ⊢
      refine t_J51 hn ⟨dpl_GL hdp hm hn n 0 (Nat.zero_le _), fun q x hx => ?_, ?_, M, hm, Or.inl ⟨c2, R, C, K, N, hdp, rfl⟩⟩ hca _ _ _ _ _ _
      · have := dpl_4 hdp hm hn n 0 (Nat.zero_le _) x hx
        rw [q] at this
        exact this
      · rw [dpl_ec hdp hm hn n 0 (Nat.zero_le _) (by omega)]
        have a1 := (hdp.R (Nat.zero_le _) (Nat.zero_le n)).2.2.2
        have a2 := (hd_2 sq (n - 0)).1
        omega
    · rw [if_neg (by rw [lit_2, iI_eq (by omega) (by omega)]; omega)]
      have hgo : ok (m_Mo_plan_J48 (iI (if sq = true then 1 else 0)) (iI lean) (iI n) 4000 5000 tf wc bc fh bl 4000 ca 4000 cl 4000 co u2 u3 (iI (if (lvl == 1) = true then 1 else 0))) (Ppl sq g lean n lvl) := by
        unfold m_Mo_plan_J48
        refine ok_bind (t_greedy h hL hnL hn hm hf sq (lvl == 1) ca cl co) ?_
        rintro ⟨v1, v2, v3, v4⟩ hca
        dsimp only at hca ⊢
        have hgl := gr_GL hm sq (lvl == 1) n 0 _ (Nat.zero_le _) (Or.inr rfl)
        have h4 := gr_4 hm sq (lvl == 1) n 0 _ (Or.inr rfl)
        refine t_J51 hn ⟨hgl, fun _ => h4, ?_, M, hm, Or.inr ⟨by omega, rfl⟩⟩ hca _ _ _ _ _ _
        have := ec_2 (sq := sq) hgl h4
        omega
      by_cases c1 : lvl = 1
      · rw [if_pos (by rw [c1]; rfl)]
        rw [show iI (if (lvl == 1) = true then 1 else 0) = 1 by rw [c1]; rfl] at hgo
        exact hgo
      · rw [if_neg (by rw [lit_1, iI_eq (by omega) (by omega)]; omega)]
        rw [show iI (if (lvl == 1) = true then 1 else 0) = 0 by rw [show lvl = 0 by omega]; rfl] at hgo
        exact hgo
  unfold m_Mo_plan
  cases sq
  · rw [if_pos (by rfl)]
    by_cases c2 : lvl = 2
    · rw [if_pos (by rw [c2]; rfl)]
      exact hJ 1 (fun _ => by decide)
    · rw [if_neg (by rw [lit_2, iI_eq (by omega) (by omega)]; omega)]
      exact hJ 0 (fun q => absurd q.2 c2)
  · rw [if_neg (by rw [if_pos rfl]; decide)]
    exact hJ 0 (fun q => absurd q.1 (by decide))
