/-! the reference's bytes of a row of copies -/
theorem t_extra {N : Nat} {cnt : Int32} {f : Nat → Int32} {xs : List Int} {x : Nat} (hx : x ≤ 100000) (h : MR cnt f xs) (hl : xs.length + ex x ≤ N) (hN : N < 1048576) : ok (m_Mo_extra (iI x) cnt N f) (fun o => MR o.1 o.2 (xs ++ xb x)) := by
  unfold m_Mo_extra
  by_cases c : x < 15
  · simp (disch := omega) only [bnd_eq, Option.bind_some, lit_0, lit_1, lit_m1, lit_4, lit_5000, iI_nI, iI_add, iI_sub, iI_mul, iI_neg, chk_iI, iI_clamp, iI_lt, iI_le, iI_eq, if_pos, if_neg, if_true, if_false, Int.toNat_natCast, lit_15]
    refine ok_some ?_
    unfold xb
    rw [if_pos c, List.append_nil]
    exact h
  · simp (disch := omega) only [bnd_eq, Option.bind_some, lit_0, lit_1, lit_m1, lit_4, lit_5000, iI_nI, iI_add, iI_sub, iI_mul, iI_neg, chk_iI, iI_clamp, iI_lt, iI_le, iI_eq, if_pos, if_neg, if_true, if_false, Int.toNat_natCast, lit_15]
    have hex : ex x = (x - 15) / 255 + 1 := by unfold ex; rw [if_neg c]
    refine ok_bind (Q := fun o => o.2.2 = iI (((x - 15) % 255 : Nat) : Int) ∧ MR o.2.1 o.1 (xs ++ List.replicate ((x - 15) / 255) 255)) ?_ ?_
    · refine ok_loop (fun j s => s.2.2 = iI ((x : Int) - 15 - 255 * j) ∧ 15 + 255 * j ≤ x ∧ MR s.2.1 s.1 (xs ++ List.replicate j 255)) 1000 (by omega) ⟨by simp, by omega, by simpa using h⟩ ?_
      rintro j ⟨s1, s2, s3⟩ hj ⟨e1, e2, e3⟩
      dsimp only at e1 e3
      subst e1
      unfold m_Mo_extra_B11
      dsimp only
      have hlen : (xs ++ List.replicate j (255 : Int)).length = xs.length + j := by rw [List.length_append, List.length_replicate]
      by_cases c2 : x < 15 + 255 * (j + 1)
      · simp (disch := omega) only [bnd_eq, Option.bind_some, lit_0, lit_1, lit_m1, lit_4, lit_5000, iI_nI, iI_add, iI_sub, iI_mul, iI_neg, chk_iI, iI_clamp, iI_lt, iI_le, iI_eq, if_pos, if_neg, if_true, if_false, Int.toNat_natCast, lit_255]
        refine ok_end ⟨?_, ?_⟩
        · dsimp only
          congr 1
          omega
        · rw [show (x - 15) / 255 = j by omega]
          exact e3
      · simp (disch := omega) only [bnd_eq, Option.bind_some, lit_0, lit_1, lit_m1, lit_4, lit_5000, iI_nI, iI_add, iI_sub, iI_mul, iI_neg, chk_iI, iI_clamp, iI_lt, iI_le, iI_eq, if_pos, if_neg, if_true, if_false, Int.toNat_natCast, lit_255]
        refine ok_bind (t_put _ e3 (by omega) (by omega)) ?_
        rintro ⟨u1, u2⟩ hu
        dsimp only at hu ⊢
        refine ok_go ⟨j + 1, by omega, by omega, ?_, by omega, ?_⟩
        · dsimp only
          congr 1
          omega
        · dsimp only
          rw [List.replicate_succ', ← List.append_assoc]
          exact hu
    · rintro ⟨o1, o2, o3⟩ ⟨e1, e2⟩
      dsimp only at e1 e2 ⊢
      subst e1
      unfold m_Mo_extra_E34
      have hlen : (xs ++ List.replicate ((x - 15) / 255) (255 : Int)).length = xs.length + (x - 15) / 255 := by rw [List.length_append, List.length_replicate]
      refine ok_bind (t_put _ e2 (by omega) (by omega)) ?_
      rintro ⟨u1, u2⟩ hu
      refine ok_some ?_
      dsimp only at hu ⊢
      unfold xb
      rw [if_neg c, ← List.append_assoc]
      rw [show ((((x - 15) % 255 : Nat) : Int)) % 256 = (((x - 15) % 255 : Nat) : Int) by omega] at hu
      exact hu
theorem t_lits_S {tf : Nat → Int32} {g : Nat → Int} {L : Nat} (hm : MG tf g L) (hL : L ≤ 5000) {N : Nat} (hN : N < 1048576) {cnt : Int32} {f : Nat → Int32} {xs : List Int} (h : MR cnt f xs) {lean p m : Nat} (ha : lean + p + m ≤ L) (hl : xs.length + m ≤ N) : ok (iter (fun st => m_Mo_sequences_B105 (iI lean) 5000 tf N (iI p) (iI m) st.1 st.2.1 st.2.2) FU (f, cnt, 0)) (fun o => MR o.2 o.1 (xs ++ lits g (lean + p) m)) := by
  refine ok_loop (fun j s => s.2.2 = iI j ∧ MR s.2.1 s.1 (xs ++ lits g (lean + p) j)) m (by omega) ⟨rfl, by rw [lits_0, List.append_nil]; exact h⟩ ?_
  rintro j ⟨s1, s2, s3⟩ hj ⟨e1, e2⟩
  dsimp only at e1 e2
  subst e1
  unfold m_Mo_sequences_B105
  dsimp only
  by_cases c : m ≤ j
  · simp (disch := omega) only [bnd_eq, Option.bind_some, lit_0, lit_1, lit_m1, lit_4, lit_5000, iI_nI, iI_add, iI_sub, iI_mul, iI_neg, chk_iI, iI_clamp, iI_lt, iI_le, iI_eq, if_pos, if_neg, if_true, if_false, Int.toNat_natCast]
    refine ok_end ?_
    rw [show m = j by omega]
    exact e2
  · simp (disch := omega) only [bnd_eq, Option.bind_some, lit_0, lit_1, lit_m1, lit_4, lit_5000, iI_nI, iI_add, iI_sub, iI_mul, iI_neg, chk_iI, iI_clamp, iI_lt, iI_le, iI_eq, if_pos, if_neg, if_true, if_false, Int.toNat_natCast]
    rw [show ((lean : Int) + (p : Int) + (j : Int)).toNat = lean + p + j by omega]
    have hg := hm (lean + p + j) (by omega)
    rw [hg.2]
    refine ok_bind (t_put _ e2 (by rw [List.length_append, lits_len]; omega) (by omega)) ?_
    rintro ⟨u1, u2⟩ hu
    dsimp only at hu ⊢
    refine ok_go ⟨j + 1, by omega, by omega, by simp, ?_⟩
    dsimp only
    rw [lits_s, ← List.append_assoc]
    rw [show g (lean + p + j) % 256 = g (lean + p + j) by omega] at hu
    exact hu
theorem t_lits_E {tf : Nat → Int32} {g : Nat → Int} {L : Nat} (hm : MG tf g L) (hL : L ≤ 5000) {N : Nat} (hN : N < 1048576) {cnt : Int32} {f : Nat → Int32} {xs : List Int} (h : MR cnt f xs) {lean p m : Nat} (ha : lean + p + m ≤ L) (hl : xs.length + m ≤ N) : ok (m_Mo_literal_J50 (iI p) (iI m) (iI lean) N 5000 tf f cnt) (fun o => MR o.1 o.2 (xs ++ lits g (lean + p) m)) := by
  unfold m_Mo_literal_J50
  refine ok_bind (Q := fun o => MR o.1 o.2 (xs ++ lits g (lean + p) m)) ?_ (fun o ho => ok_some ho)
  refine ok_loop (fun j s => s.2.2 = iI j ∧ MR s.2.1 s.1 (xs ++ lits g (lean + p) j)) m (by omega) ⟨rfl, by rw [lits_0, List.append_nil]; exact h⟩ ?_
  rintro j ⟨s1, s2, s3⟩ hj ⟨e1, e2⟩
  dsimp only at e1 e2
  subst e1
  unfold m_Mo_literal_B52
  dsimp only
  by_cases c : m ≤ j
  · simp (disch := omega) only [bnd_eq, Option.bind_some, lit_0, lit_1, lit_m1, lit_4, lit_5000, iI_nI, iI_add, iI_sub, iI_mul, iI_neg, chk_iI, iI_clamp, iI_lt, iI_le, iI_eq, if_pos, if_neg, if_true, if_false, Int.toNat_natCast]
    refine ok_end ?_
    rw [show m = j by omega]
    exact e2
  · simp (disch := omega) only [bnd_eq, Option.bind_some, lit_0, lit_1, lit_m1, lit_4, lit_5000, iI_nI, iI_add, iI_sub, iI_mul, iI_neg, chk_iI, iI_clamp, iI_lt, iI_le, iI_eq, if_pos, if_neg, if_true, if_false, Int.toNat_natCast]
    rw [show ((lean : Int) + (p : Int) + (j : Int)).toNat = lean + p + j by omega]
    have hg := hm (lean + p + j) (by omega)
    rw [hg.2]
    refine ok_bind (t_put _ e2 (by rw [List.length_append, lits_len]; omega) (by omega)) ?_
    rintro ⟨u1, u2⟩ hu
    dsimp only at hu ⊢
    refine ok_go ⟨j + 1, by omega, by omega, by simp, ?_⟩
    dsimp only
    rw [lits_s, ← List.append_assoc]
    rw [show g (lean + p + j) % 256 = g (lean + p + j) by omega] at hu
    exact hu
theorem t_literal {tf : Nat → Int32} {g : Nat → Int} {L : Nat} (hm : MG tf g L) (hL : L ≤ 5000) {N : Nat} (hN : N < 1048576) {cnt : Int32} {f : Nat → Int32} {xs : List Int} (h : MR cnt f xs) {lean p m : Nat} (h1 : 1 ≤ m) (ha : lean + p + m ≤ L) (hl : xs.length + (hd false m + m) ≤ N) : ok (m_Mo_literal (iI p) (iI m) cnt (iI lean) N f 5000 tf) (fun o => MR o.1 o.2 (xs ++ qL g (lean + p) m)) := by
  have hp := hd_pos (show m ≠ 0 by omega)
  have hJ : ∀ s : Nat, s + 1 = hd false m → 1 ≤ s → ok (m_Mo_literal_J30 (iI p) (iI m) cnt (iI lean) N f 5000 tf (iI s)) (fun o => MR o.1 o.2 (xs ++ qL g (lean + p) m)) := by
    intro s hs hs1
    unfold m_Mo_literal_J30
    rw [lit_59, iI_add, show (59 : Int) + (s : Int) = ((59 + s : Nat) : Int) by omega, shl2 _ (by omega)]
    refine ok_bind (t_put _ h (by omega) (by omega)) ?_
    rintro ⟨u1, u2⟩ hu
    dsimp only at hu ⊢
    rw [lit_1, iI_sub, iI_j (by omega)]
    have l1 : (xs ++ [((4 * (59 + s) : Nat) : Int) % 256]).length = xs.length + 1 := by rw [List.length_append, List.length_singleton]
    refine ok_bind (t_lowest (by omega) (by omega) hu (by omega) (by omega)) ?_
    rintro ⟨u3, u4⟩ hu2
    dsimp only at hu2 ⊢
    have l2 : (xs ++ [((4 * (59 + s) : Nat) : Int) % 256] ++ le ((m : Int) - 1) s).length = xs.length + 1 + s := by rw [List.length_append, l1, le_len]
    refine ok_mono (t_lits_E hm hL hN hu2 ha (by omega)) ?_
    rintro ⟨u5, u6⟩ hu3
    dsimp only at hu3 ⊢
    unfold qL
    rw [if_neg (show ¬ m = 0 by omega), if_neg (show ¬ hd false m = 1 by omega), show hd false m - 1 = s by omega, show 58 + hd false m = 59 + s by omega, ← List.append_assoc, ← List.append_assoc]
    exact hu3
  unfold m_Mo_literal
  by_cases c1 : 60 < m
  · by_cases c2 : 256 < m
    · simp (disch := omega) only [bnd_eq, Option.bind_some, lit_0, lit_1, lit_m1, lit_4, lit_5000, iI_nI, iI_add, iI_sub, iI_mul, iI_neg, chk_iI, iI_clamp, iI_lt, iI_le, iI_eq, if_pos, if_neg, if_true, if_false, Int.toNat_natCast, lit_60, lit_256]
      rw [show (2 : Int32) = iI ((2 : Nat) : Int) from rfl]
      exact hJ 2 (by unfold hd; rw [if_neg (by decide), if_neg (by omega), if_neg (by omega), if_neg (by omega)]) (by omega)
    · simp (disch := omega) only [bnd_eq, Option.bind_some, lit_0, lit_1, lit_m1, lit_4, lit_5000, iI_nI, iI_add, iI_sub, iI_mul, iI_neg, chk_iI, iI_clamp, iI_lt, iI_le, iI_eq, if_pos, if_neg, if_true, if_false, Int.toNat_natCast, lit_60, lit_256]
      rw [show iI 1 = iI ((1 : Nat) : Int) from rfl]
      exact hJ 1 (by unfold hd; rw [if_neg (by decide), if_neg (by omega), if_neg (by omega), if_pos (by omega)]) (by omega)
  · have hh : hd false m = 1 := by unfold hd; rw [if_neg (by decide), if_neg (by omega), if_pos (by omega)]
    simp (disch := omega) only [bnd_eq, Option.bind_some, lit_0, lit_1, lit_m1, lit_4, lit_5000, iI_nI, iI_add, iI_sub, iI_mul, iI_neg, chk_iI, iI_clamp, iI_lt, iI_le, iI_eq, if_pos, if_neg, if_true, if_false, Int.toNat_natCast, lit_60, lit_256]
    rw [show (m : Int) - 1 = ((m - 1 : Nat) : Int) by omega, shl2 _ (by omega)]
    refine ok_bind (t_put _ h (by omega) (by omega)) ?_
    rintro ⟨u1, u2⟩ hu
    dsimp only at hu ⊢
    have l1 : (xs ++ [((4 * (m - 1) : Nat) : Int) % 256]).length = xs.length + 1 := by rw [List.length_append, List.length_singleton]
    refine ok_mono (t_lits_E hm hL hN hu ha (by omega)) ?_
    rintro ⟨u5, u6⟩ hu3
    dsimp only at hu3 ⊢
    unfold qL
    rw [if_neg (show ¬ m = 0 by omega), if_pos hh, hh, show le ((m : Int) - 1) (1 - 1) = [] from rfl, List.append_nil, ← List.append_assoc]
    exact hu3
theorem t_J72 {tf : Nat → Int32} {g : Nat → Int} {L : Nat} (hm : MG tf g L) (hL : L ≤ 5000) {N : Nat} (hN : N < 1048576) {cnt : Int32} {f : Nat → Int32} {xs : List Int} (h : MR cnt f xs) {lean p m k : Nat} (ha : lean + p + m ≤ L) (hk : k ≤ 100000) (hl : xs.length + (1 + ex m + m) ≤ N) {ca cl co : Nat → Int32} {i s18 : Int32} {Q : _ → Prop} (hQ : ∀ (f' : Nat → Int32) (c' : Int32), MR c' f' (xs ++ ([((16 * min m 15 + min k 15 : Nat) : Int) % 256] ++ xb m ++ lits g (lean + p) m)) → ok (m_Mo_sequences_E136 4000 4000 4000 N ca cl co (iI p) i s18 (iI k) f' c') Q) : ok (m_Mo_sequences_J72 (iI lean) 5000 tf 4000 4000 4000 N ca cl co f cnt (iI p) i s18 (iI m) (iI k)) Q := by
  unfold m_Mo_sequences_J72
  rw [lit_15, t_small (by omega) (by omega), Option.bind_some, t_small (by omega) (by omega), Option.bind_some, lit_16, iI_mul, iI_add, show (16 : Int) * min 15 (m : Int) + min 15 (k : Int) = ((16 * min m 15 + min k 15 : Nat) : Int) by omega]
  refine ok_bind (t_put _ h (by omega) (by omega)) ?_
  rintro ⟨u1, u2⟩ hu
  dsimp only at hu ⊢
  have l1 : (xs ++ [((16 * min m 15 + min k 15 : Nat) : Int) % 256]).length = xs.length + 1 := by rw [List.length_append, List.length_singleton]
  refine ok_bind (t_extra (by omega) hu (by omega) hN) ?_
  rintro ⟨u3, u4⟩ hu2
  dsimp only at hu2 ⊢
  have l2 : (xs ++ [((16 * min m 15 + min k 15 : Nat) : Int) % 256] ++ xb m).length = xs.length + 1 + ex m := by rw [List.length_append, l1, xb_len]
  refine ok_bind (t_lits_S hm hL hN hu2 ha (by omega)) ?_
  rintro ⟨u5, u6⟩ hu3
  dsimp only at hu3 ⊢
  refine hQ u5 u6 ?_
  rw [← List.append_assoc, ← List.append_assoc]
  exact hu3
theorem pts_S (n : Nat) : ∀ (p : Nat) (xs : List (Nat × Nat)), pts true n p xs = xs.length + 1
  | p, [] => by rw [pts, if_pos rfl]; rfl
  | p, x :: r => by rw [pts, if_pos rfl, pts_S n _ r, List.length_cons]; omega
def Isq (N : Nat) (g : Nat → Int) (lean n : Nat) (xs : List (Nat × Nat)) (all : List Int) (k : Nat) (s : (Nat → Int32) × Int32 × Int32 × Int32) : Prop := s.2.2.2 = iI k ∧ ((∃ (w : Nat) (d r : List (Nat × Nat)) (o : List Int), k = d.length ∧ d ++ r = xs ∧ s.2.2.1 = iI w ∧ GL g lean n w r ∧ MR s.2.1 s.1 o ∧ o ++ em true g lean n w r = all) ∨ (k = xs.length + 1 ∧ MR s.2.1 s.1 all))
theorem t_seqs {tf : Nat → Int32} {g : Nat → Int} {L : Nat} (hm : MG tf g L) (hL : L ≤ 5000) {N : Nat} (hN : N < 1048576) {lean n : Nat} (hn : n ≤ 4000) (hnL : lean + n ≤ L) {cnt : Int32} {f : Nat → Int32} {out : List Int} (h : MR cnt f out) {xs : List (Nat × Nat)} (hx : GL g lean n 0 xs) (h4 : ∀ x ∈ xs, 4 ≤ x.2) {ca cl co : Nat → Int32} {c : Int32} (hc : CA g lean ca cl co c xs) (hl : out.length + (em true g lean n 0 xs).length ≤ N) (u2 u3 : Int32) (u4 u5 u6 u7 u8 u9 : Nat → Int32) : ok (iter (fun st => m_Mo_sequences_B10 (iI lean) (iI n) 5000 tf 4000 4000 4000 N c u2 u3 u4 u5 u6 u7 u8 u9 ca cl co st.1 st.2.1 st.2.2.1 st.2.2.2) FU (f, cnt, 0, 0)) (fun o => MR o.1 o.2.2.2.2.2.2.2.2.2.2.2.2.2.2 (out ++ em true g lean n 0 xs) ∧ o.2.2.1 = u2 ∧ o.2.2.2.1 = u3 ∧ o.2.2.2.2.1 = iI (pts true n 0 xs)) := by
  have hll := li_le hx
  have hl2 : (out ++ em true g lean n 0 xs).length ≤ N := by rw [List.length_append]; exact hl
  obtain ⟨rfl, hca⟩ := hc
  generalize hall : out ++ em true g lean n 0 xs = all at hl2 ⊢
  refine ok_loop (Isq N g lean n xs all) (xs.length + 1) (by omega) ⟨rfl, Or.inl ⟨0, [], xs, out, rfl, rfl, rfl, hx, h, hall⟩⟩ ?_
  rintro k ⟨s1, s2, s3, s4⟩ hk ⟨e1, e2⟩
  dsimp only at e1 e2
  subst e1
  unfold m_Mo_sequences_B10
  dsimp only
  rcases e2 with ⟨w, d, r, o, e2, e3, e4, e5, e6, e7⟩ | ⟨e2, e3⟩
  · subst e4
    have hw := e5.le
    cases r with
    | nil =>
      rw [List.append_nil] at e3
      subst e3
      rw [em] at e7
      unfold wq at e7
      rw [if_pos rfl] at e7
      have hlen := congrArg List.length e7
      rw [List.length_append, qS_len] at hlen
      rw [if_ltF (by omega) (by omega) (by omega), if_eqT (by omega) (by omega) (by omega)]
      unfold m_Mo_sequences_J31 m_Mo_sequences_J51
      rw [if_neg (show ¬ (1 : Int32) = 0 by decide), bnd_eq, if_neg (show ¬ (1 : Int32) = 0 by decide), iI_sub, show (n : Int) - (w : Int) = ((n - w : Nat) : Int) by omega, show (0 : Int32) = iI ((0 : Nat) : Int) from rfl]
      refine t_J72 hm hL hN e6 (by omega) (by omega) (by omega) ?_
      intro f' c' hf
      unfold m_Mo_sequences_E136 m_Mo_sequences_J173
      rw [if_neg (show ¬ (1 : Int32) = 0 by decide), bnd_eq, lit_1, iI_add]
      refine ok_go ⟨k + 1, by omega, by omega, rfl, Or.inr ⟨by omega, ?_⟩⟩
      dsimp only
      unfold qS at e7
      rw [if_pos rfl, List.append_nil] at e7
      rw [← e7]
      exact hf
    | cons x r =>
      obtain ⟨x1, x2⟩ := x
      obtain ⟨y1, y2, y3, y4, y5⟩ := id e5
      dsimp only at y1 y2 y3 y4 y5
      have hlx : xs.length = d.length + (r.length + 1) := by rw [← e3, List.length_append, List.length_cons]
      have hat : xs.getD k (0, 0) = (x1, x2) := by rw [← e3, e2, gp_r (Nat.le_refl _), Nat.sub_self]; rfl
      have hx2 : 4 ≤ x2 := h4 (x1, x2) (by rw [← e3]; simp)
      have hcak := hca k (by omega)
      rw [hat] at hcak
      dsimp only at hcak
      obtain ⟨hc1, hc2, hc3⟩ := hcak
      have hno := nO_near y4
      have hno1 := hno.2.1
      rw [em] at e7
      dsimp only at e7
      unfold wq at e7
      rw [if_pos rfl] at e7
      have hlen := congrArg List.length e7
      rw [List.length_append, List.length_append, qS_len, if_neg (show ¬ x2 = 0 by omega)] at hlen
      rw [if_ltF (by omega) (by omega) (by omega), if_eqF (by omega) (by omega) (by omega)]
      unfold m_Mo_sequences_J31 m_Mo_sequences_J51
      rw [if_pos rfl, chk_iI (by omega) (by omega), bnd_eq, if_pos rfl, chk_iI (by omega) (by omega), iI_clamp (by omega) (by omega), Int.toNat_natCast, hc1, hc2, lit_4, iI_sub, iI_sub, show (x1 : Int) - (w : Int) = ((x1 - w : Nat) : Int) by omega, show (x2 : Int) - 4 = ((x2 - 4 : Nat) : Int) by omega]
      refine t_J72 hm hL hN e6 (by omega) (by omega) (by omega) ?_
      intro f' c' hf
      have hlf : (o ++ ([((16 * min (x1 - w) 15 + min (x2 - 4) 15 : Nat) : Int) % 256] ++ xb (x1 - w) ++ lits g (lean + w) (x1 - w))).length = o.length + (1 + ex (x1 - w) + (x1 - w)) := by
        rw [List.length_append, List.length_append, List.length_append, List.length_singleton, xb_len, lits_len]
      unfold m_Mo_sequences_E136 m_Mo_sequences_J173
      rw [if_pos rfl, chk_iI (by omega) (by omega), iI_clamp (by omega) (by omega), Int.toNat_natCast, hc1, hc2, hc3, iI_j (by omega), show (2 : Int32) = iI ((2 : Nat) : Int) from rfl]
      refine ok_bind (t_lowest (by omega) (by omega) hf (by omega) (by omega)) ?_
      rintro ⟨v1, v2⟩ hv
      dsimp only at hv ⊢
      refine ok_bind (t_extra (by omega) hv (by rw [List.length_append, le_len]; omega) hN) ?_
      rintro ⟨v3, v4⟩ hv2
      dsimp only at hv2 ⊢
      rw [chk_iI (by omega) (by omega), chk_iI (by omega) (by omega), bnd_eq, bnd_eq, lit_1, iI_add, iI_add]
      refine ok_go ⟨k + 1, by omega, by omega, rfl, Or.inl ⟨x1 + x2, d ++ [(x1, x2)], r, o ++ qS g (lean + w) (x1 - w) x2 (nO g (lean + x1) x2), by rw [List.length_append, List.length_singleton]; omega, by rw [List.append_assoc]; exact e3, ?_, y5, ?_, by rw [List.append_assoc]; exact e7⟩⟩
      · dsimp only
        congr 1
      · dsimp only
        unfold qS
        rw [if_neg (show ¬ x2 = 0 by omega), ← List.append_assoc (_ ++ _), ← List.append_assoc, ← List.append_assoc o]
        exact hv2
  · rw [if_ltT (by omega) (by omega) (by omega), bnd_eq, lit_1, iI_add]
    refine ok_end ⟨e3, rfl, rfl, ?_⟩
    dsimp only
    rw [pts_S]
    congr 1
