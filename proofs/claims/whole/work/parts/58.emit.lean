/-! what a row of copies is written as -/
theorem lit_16 : (16 : Int32) = iI 16 := by decide
theorem lit_59 : (59 : Int32) = iI 59 := by decide
theorem lit_127 : (127 : Int32) = iI 127 := by decide
theorem lit_128 : (128 : Int32) = iI 128 := by decide
theorem lit_m255 : (-255 : Int32) = iI (-255) := by decide
theorem lit_7 : (7 : Int32) = iI 7 := by decide
theorem lit_8 : (8 : Int32) = iI 8 := by decide
def xb (x : Nat) : List Int := if x < 15 then [] else List.replicate ((x - 15) / 255) 255 ++ [(((x - 15) % 255 : Nat) : Int)]
theorem xb_len (x : Nat) : (xb x).length = ex x := by
  unfold xb ex
  split
  · rfl
  · rw [List.length_append, List.length_replicate, List.length_singleton]
def lits (g : Nat → Int) (a m : Nat) : List Int := (List.range m).map (fun i => g (a + i))
theorem lits_0 (g : Nat → Int) (a : Nat) : lits g a 0 = [] := rfl
theorem lits_s (g : Nat → Int) (a m : Nat) : lits g a (m + 1) = lits g a m ++ [g (a + m)] := by
  unfold lits
  rw [List.range_succ, List.map_append, List.map_singleton]
theorem lits_len (g : Nat → Int) (a m : Nat) : (lits g a m).length = m := by
  unfold lits
  rw [List.length_map, List.length_range]
theorem lits_at (g : Nat → Int) (a : Nat) {m j : Nat} (h : j < m) : (lits g a m).getD j 0 = g (a + j) := by
  unfold lits
  rw [List.getD_eq_getElem?_getD, List.getElem?_map, List.getElem?_range h]
  rfl
def ecp (k o : Nat) : List Int := if 4 ≤ k ∧ k ≤ 11 ∧ o < 2048 then [((32 * (o / 256) + 4 * (k - 4) + 1 : Nat) : Int) % 256, (o : Int) % 256] else [((4 * (k - 1) + 2 : Nat) : Int) % 256] ++ le o 2
def qS (g : Nat → Int) (a m k o : Nat) : List Int := [((16 * min m 15 + min (k - 4) 15 : Nat) : Int) % 256] ++ xb m ++ lits g a m ++ (if k = 0 then [] else le o 2 ++ xb (k - 4))
def qL (g : Nat → Int) (a m : Nat) : List Int := if m = 0 then [] else [((4 * (if hd false m = 1 then m - 1 else 58 + hd false m) : Nat) : Int) % 256] ++ le ((m : Int) - 1) (hd false m - 1) ++ lits g a m
def qE (g : Nat → Int) (a m k o : Nat) : List Int := qL g a m ++ (if k = 0 then [] else ecp k o)
def wq (sq : Bool) (g : Nat → Int) (a m k o : Nat) : List Int := if sq = true then qS g a m k o else qE g a m k o
theorem qS_len (g : Nat → Int) (a m k o : Nat) : (qS g a m k o).length = 1 + ex m + m + (if k = 0 then 0 else 2 + ex (k - 4)) := by
  unfold qS
  rw [List.length_append, List.length_append, List.length_append, xb_len, lits_len, List.length_singleton]
  split
  · rfl
  · rw [List.length_append, le_len, xb_len]
theorem hd_pos {m : Nat} (h : m ≠ 0) : 1 ≤ hd false m ∧ hd false m ≤ 3 := by
  unfold hd
  rw [if_neg (by decide), if_neg h]
  split
  · omega
  · split <;> omega
theorem qL_len (g : Nat → Int) (a m : Nat) : (qL g a m).length = hd false m + m := by
  unfold qL
  split
  · rename_i h
    subst h
    rfl
  · rename_i h
    have := hd_pos h
    rw [List.length_append, List.length_append, lits_len, le_len, List.length_singleton]
    omega
theorem ecp_len (k o : Nat) : (ecp k o).length = if 4 ≤ k ∧ k ≤ 11 ∧ o < 2048 then 2 else 3 := by
  unfold ecp
  split
  · rfl
  · rw [List.length_append, le_len]; rfl
theorem qE_len (g : Nat → Int) (a m k o : Nat) : (qE g a m k o).length = hd false m + m + (if k = 0 then 0 else if 4 ≤ k ∧ k ≤ 11 ∧ o < 2048 then 2 else 3) := by
  unfold qE
  rw [List.length_append, qL_len]
  split
  · rfl
  · rw [ecp_len]
noncomputable def em (sq : Bool) (g : Nat → Int) (lean n : Nat) : Nat → List (Nat × Nat) → List Int
  | p, [] => wq sq g (lean + p) (n - p) 0 0
  | p, x :: r => wq sq g (lean + p) (x.1 - p) x.2 (nO g (lean + x.1) x.2) ++ em sq g lean n (x.1 + x.2) r
theorem wq_end (sq : Bool) (g : Nat → Int) (a m : Nat) : (wq sq g a m 0 0).length = hd sq m + m := by
  unfold wq
  cases sq
  · rw [if_neg (by decide), qE_len, if_pos rfl]
    rfl
  · rw [if_pos rfl, qS_len, if_pos rfl]
    unfold hd
    rw [if_pos rfl]
    rfl
theorem wq_len (sq : Bool) (g : Nat → Int) (lean p m q k : Nat) (hk : k ≠ 0) : (wq sq g (lean + p) m k (nO g (lean + q) k)).length = hd sq m + m + cc sq g lean q k := by
  unfold wq cc
  cases sq
  · rw [if_neg (by decide), if_neg (by decide), qE_len, if_neg hk]
  · rw [if_pos rfl, if_pos rfl, qS_len, if_neg hk]
    unfold hd
    rw [if_pos rfl]
theorem em_len {sq : Bool} {g : Nat → Int} {lean n : Nat} : ∀ {p : Nat} {xs : List (Nat × Nat)}, GL g lean n p xs → (em sq g lean n p xs).length = ec sq g lean n p xs
  | p, [], _ => by
    rw [em, ec, wq_end]
  | p, x :: r, h => by
    obtain ⟨h1, h2, h3, h4, h5⟩ := h
    rw [em, ec, List.length_append, wq_len _ _ _ _ _ _ _ (by omega), em_len h5]
/-! the class's bytes -/
theorem s_more {N : Nat} {cnt : Int32} {f : Nat → Int32} {xs : List Int} {x : Nat} (hx : x ≤ 100000) (h : BR N cnt f xs) (hl : xs.length + ex x ≤ N) (hN : N < 1048576) : ok (m_Sequences_writeAdded (iI x) cnt N f) (fun o => BR N o.1 o.2 (xs ++ xb x)) := by
  unfold m_Sequences_writeAdded
  simp (disch := omega) only [bnd_eq, Option.bind_some, lit_0, lit_1, lit_m1, lit_4, lit_5000, iI_nI, iI_add, iI_sub, iI_mul, iI_neg, chk_iI, iI_clamp, iI_lt, iI_le, iI_eq, if_pos, if_neg, if_true, if_false, Int.toNat_natCast, lit_15]
  refine ok_bind (Q := fun o => BR N o.1 o.2 (xs ++ xb x)) ?_ (fun o ho => ok_some ho)
  refine ok_loop (fun j s => s.2.2 = iI ((x : Int) - 15 - 255 * j) ∧ (j = 0 ∨ 15 + 255 * j ≤ x) ∧ BR N s.2.1 s.1 (xs ++ List.replicate j 255)) 1000 (by omega) ⟨by simp, Or.inl rfl, by simpa using h⟩ ?_
  rintro j ⟨s1, s2, s3⟩ hj ⟨e1, e2, e3⟩
  dsimp only at e1 e3
  subst e1
  unfold m_Sequences_writeAdded_B5
  dsimp only
  have hlen : (xs ++ List.replicate j (255 : Int)).length = xs.length + j := by rw [List.length_append, List.length_replicate]
  by_cases c : x < 15
  · have : j = 0 := by omega
    subst this
    simp (disch := omega) only [bnd_eq, Option.bind_some, lit_0, lit_1, lit_m1, lit_4, lit_5000, iI_nI, iI_add, iI_sub, iI_mul, iI_neg, chk_iI, iI_clamp, iI_lt, iI_le, iI_eq, if_pos, if_neg, if_true, if_false, Int.toNat_natCast, lit_255]
    refine ok_end ?_
    unfold xb
    rw [if_pos c]
    simpa using e3
  · by_cases c2 : x < 15 + 255 * (j + 1)
    · simp (disch := omega) only [bnd_eq, Option.bind_some, lit_0, lit_1, lit_m1, lit_4, lit_5000, iI_nI, iI_add, iI_sub, iI_mul, iI_neg, chk_iI, iI_clamp, iI_lt, iI_le, iI_eq, if_pos, if_neg, if_true, if_false, Int.toNat_natCast, lit_255]
      have hex : ex x = j + 1 := by
        unfold ex
        rw [if_neg c]
        omega
      refine ok_bind (s_add _ e3 (by omega) (by omega)) ?_
      rintro ⟨u1, u2⟩ hu
      refine ok_end ?_
      dsimp only at hu ⊢
      unfold xb
      rw [if_neg c, show (x - 15) / 255 = j by omega, ← List.append_assoc, show (((x - 15) % 255 : Nat) : Int) = ((x : Int) - 15 - 255 * (j : Int)) % 256 by omega]
      exact hu
    · simp (disch := omega) only [bnd_eq, Option.bind_some, lit_0, lit_1, lit_m1, lit_4, lit_5000, iI_nI, iI_add, iI_sub, iI_mul, iI_neg, chk_iI, iI_clamp, iI_lt, iI_le, iI_eq, if_pos, if_neg, if_true, if_false, Int.toNat_natCast, lit_255]
      have hex : j + 1 ≤ ex x := by
        unfold ex
        rw [if_neg c]
        omega
      refine ok_bind (s_add _ e3 (by omega) (by omega)) ?_
      rintro ⟨u1, u2⟩ hu
      dsimp only at hu ⊢
      refine ok_go ⟨j + 1, by omega, by unfold ex at hex; rw [if_neg c] at hex; omega, ?_, Or.inr (by omega), ?_⟩
      · dsimp only
        congr 1
        omega
      · dsimp only
        rw [List.replicate_succ', ← List.append_assoc]
        exact hu
theorem s_lits {N : Nat} {cnt ct : Int32} {f hF bF lF : Nat → Int32} {xs t : List Int} (h : BR N cnt f xs) (ht : TR ct hF bF lF t) (hN : N < 1048576) {a m : Nat} (ha : a + m ≤ t.length) (hl : xs.length + m ≤ N) : ok (m_Text_copyTo (iI a) (iI m) cnt 5000 hF N f) (fun o => BR N o.1 o.2 (xs ++ lits (gx t) a m)) := by
  obtain ⟨h3, h4, h5⟩ := h
  obtain ⟨g3, g4, g5, g6⟩ := ht
  unfold m_Text_copyTo m_Bytes_addArray
  rw [h3]
  refine ok_bind (Q := fun o => BR N o.1 o.2 (xs ++ lits (gx t) a m)) ?_ (fun o ho => ok_some ho)
  rw [iI_nI, iI_nI, iI_sub, iI_sub, show (0 : Int32) = iI 0 from rfl, if_neg (by rw [iI_lt (by omega) (by omega)]; omega), if_neg (by rw [iI_lt (by omega) (by omega)]; omega), if_neg (by rw [iI_lt (by omega) (by omega)]; omega), if_neg (by rw [iI_lt (by omega) (by omega)]; omega)]
  unfold acb
  rw [iI_clamp (by omega) (by omega), iI_clamp (by omega) (by omega), iI_clamp (by omega) (by omega)]
  simp only [Int.toNat_natCast]
  rw [if_pos]
  · refine ok_bnd (ok_some ?_)
    show BR N (iI xs.length + iI m) (va_cpy hF f a xs.length m) _
    have hlen : (xs ++ lits (gx t) a m).length = xs.length + m := by
      rw [List.length_append, lits_len]
    refine ⟨by rw [iI_add, hlen]; simp, by omega, fun j hj => ?_⟩
    rw [hlen] at hj
    by_cases c : j < xs.length
    · rw [gd_l c]
      exact ⟨(h5 j c).1, by rw [pk_cpy_out (Or.inl c)]; exact (h5 j c).2⟩
    · rw [gd_r (by omega), pk_cpy_in (by omega) hj, lits_at _ _ (by omega)]
      have := g5 (a + (j - xs.length)) (by omega)
      exact ⟨this.1, this.2.1⟩
  · refine ⟨by rw [iI_lt0 (by omega)]; omega, by rw [iI_lt0 (by omega)]; omega, by rw [iI_lt0 (by omega)]; omega, by omega, by omega, fun i hi => ?_⟩
    rw [(g5 (a + i) (by omega)).2.1]
    exact fit_hb _
theorem s_write_S {N : Nat} {cnt ct : Int32} {f hF bF lF : Nat → Int32} {xs t : List Int} (h : BR N cnt f xs) (ht : TR ct hF bF lF t) (hN : N < 1048576) {a m k o : Nat} (ha : a + m ≤ t.length) (hk : k = 0 ∨ 4 ≤ k) (hk2 : k ≤ 5000) (ho : o ≤ 5000) (hl : xs.length + (qS (gx t) a m k o).length ≤ N) : ok (m_Sequences_write (iI a) (iI m) (iI k) (iI o) cnt N f 5000 hF) (fun x => x.1 = iI 1 ∧ BR N x.2.1 x.2.2 (xs ++ qS (gx t) a m k o)) := by
  have h5 := ht.2.1
  rw [qS_len] at hl
  unfold m_Sequences_write
  rw [lit_4, lit_15, lit_16, lit_0, iI_sub, iI_max (by omega) (by omega), show max ((k : Int) - 4) 0 = ((k - 4 : Nat) : Int) by omega, bnd_eq, iI_min (by omega) (by omega), iI_min (by omega) (by omega), iI_mul, iI_add, show (16 : Int) * min (m : Int) 15 + min ((k - 4 : Nat) : Int) 15 = ((16 * min m 15 + min (k - 4) 15 : Nat) : Int) by omega]
  refine ok_bind (s_add _ h (by omega) (by omega)) ?_
  rintro ⟨u1, u2⟩ hu
  dsimp only at hu ⊢
  have l1 : (xs ++ [((16 * min m 15 + min (k - 4) 15 : Nat) : Int) % 256]).length = xs.length + 1 := by rw [List.length_append, List.length_singleton]
  refine ok_bind (s_more (by omega) hu (by omega) hN) ?_
  rintro ⟨u3, u4⟩ hu2
  dsimp only at hu2 ⊢
  have l2 : (xs ++ [((16 * min m 15 + min (k - 4) 15 : Nat) : Int) % 256] ++ xb m).length = xs.length + 1 + ex m := by rw [List.length_append, l1, xb_len]
  refine ok_bind (s_lits hu2 ht hN ha (by omega)) ?_
  rintro ⟨u5, u6⟩ hu3
  dsimp only at hu3 ⊢
  have l3 : (xs ++ [((16 * min m 15 + min (k - 4) 15 : Nat) : Int) % 256] ++ xb m ++ lits (gx t) a m).length = xs.length + 1 + ex m + m := by rw [List.length_append, l2, lits_len]
  unfold qS
  by_cases c : k = 0
  · rw [if_pos c, if_leT (by omega) (by omega) (by omega), lit_1]
    refine ok_some ⟨rfl, ?_⟩
    rw [List.append_nil, ← List.append_assoc, ← List.append_assoc]
    exact hu3
  · rw [if_neg c] at hl
    rw [if_neg c, if_leF (by omega) (by omega) (by omega), iI_j (by omega), show (2 : Int32) = iI ((2 : Nat) : Int) from rfl]
    refine ok_bind (s_addNumber _ (by omega) hu3 (by omega) (by omega)) ?_
    rintro ⟨u7, u8⟩ hu4
    dsimp only at hu4 ⊢
    have l4 : (xs ++ [((16 * min m 15 + min (k - 4) 15 : Nat) : Int) % 256] ++ xb m ++ lits (gx t) a m ++ le (o : Int) 2).length = xs.length + 1 + ex m + m + 2 := by rw [List.length_append, l3, le_len]
    refine ok_bind (s_more (by omega) hu4 (by omega) hN) ?_
    rintro ⟨u9, u10⟩ hu5
    dsimp only at hu5 ⊢
    rw [lit_1]
    refine ok_some ⟨rfl, ?_⟩
    rw [← List.append_assoc, ← List.append_assoc, ← List.append_assoc, ← List.append_assoc]
    exact hu5
theorem s_writeCopy {N : Nat} {cnt : Int32} {f : Nat → Int32} {xs : List Int} (h : BR N cnt f xs) (hN : N < 1048576) {k o : Nat} (hk : 1 ≤ k) (hk2 : k ≤ 5000) (ho : o ≤ 5000) (hl : xs.length + (ecp k o).length ≤ N) : ok (m_Elements_writeCopy (iI k) (iI o) cnt N f) (fun x => BR N x.1 x.2 (xs ++ ecp k o)) := by
  rw [ecp_len] at hl
  have hJ : ¬ (4 ≤ k ∧ k ≤ 11 ∧ o < 2048) → ok (m_Elements_writeCopy_J46 (iI k) (iI o) cnt N f) (fun x => BR N x.1 x.2 (xs ++ ecp k o)) := by
    intro c
    rw [if_neg c] at hl
    unfold m_Elements_writeCopy_J46 ecp
    rw [if_neg c, lit_4, lit_1, iI_sub, iI_mul, lit_2, iI_add, show (4 : Int) * ((k : Int) - 1) + 2 = ((4 * (k - 1) + 2 : Nat) : Int) by omega]
    refine ok_bind (s_add _ h (by omega) (by omega)) ?_
    rintro ⟨u1, u2⟩ hu
    dsimp only at hu ⊢
    have l1 : (xs ++ [((4 * (k - 1) + 2 : Nat) : Int) % 256]).length = xs.length + 1 := by rw [List.length_append, List.length_singleton]
    rw [iI_j (by omega), show iI 2 = iI ((2 : Nat) : Int) from rfl]
    refine ok_bind (s_addNumber _ (by omega) hu (by omega) (by omega)) ?_
    rintro ⟨u3, u4⟩ hu2
    refine ok_some ?_
    rw [← List.append_assoc]
    exact hu2
  unfold m_Elements_writeCopy
  by_cases c1 : k < 4
  · simp (disch := omega) only [bnd_eq, Option.bind_some, lit_0, lit_1, lit_m1, lit_4, lit_5000, iI_nI, iI_add, iI_sub, iI_mul, iI_neg, chk_iI, iI_clamp, iI_lt, iI_le, iI_eq, if_pos, if_neg, if_true, if_false, Int.toNat_natCast, lit_11, lit_2047]
    exact hJ (by omega)
  · by_cases c2 : 11 < k
    · simp (disch := omega) only [bnd_eq, Option.bind_some, lit_0, lit_1, lit_m1, lit_4, lit_5000, iI_nI, iI_add, iI_sub, iI_mul, iI_neg, chk_iI, iI_clamp, iI_lt, iI_le, iI_eq, if_pos, if_neg, if_true, if_false, Int.toNat_natCast, lit_11, lit_2047]
      exact hJ (by omega)
    · by_cases c3 : 2047 < o
      · simp (disch := omega) only [bnd_eq, Option.bind_some, lit_0, lit_1, lit_m1, lit_4, lit_5000, iI_nI, iI_add, iI_sub, iI_mul, iI_neg, chk_iI, iI_clamp, iI_lt, iI_le, iI_eq, if_pos, if_neg, if_true, if_false, Int.toNat_natCast, lit_11, lit_2047]
        exact hJ (by omega)
      · rw [if_pos (show 4 ≤ k ∧ k ≤ 11 ∧ o < 2048 by omega)] at hl
        simp (disch := omega) only [bnd_eq, Option.bind_some, lit_0, lit_1, lit_m1, lit_4, lit_5000, iI_nI, iI_add, iI_sub, iI_mul, iI_neg, chk_iI, iI_clamp, iI_lt, iI_le, iI_eq, if_pos, if_neg, if_true, if_false, Int.toNat_natCast, lit_11, lit_2047, lit_32, lit_256, iI_div]
        rw [show (32 : Int) * ((o : Int) / 256) + 4 * ((k : Int) - 4) + 1 = ((32 * (o / 256) + 4 * (k - 4) + 1 : Nat) : Int) by omega]
        refine ok_bind (s_add _ h (by omega) (by omega)) ?_
        rintro ⟨u1, u2⟩ hu
        dsimp only at hu ⊢
        have l1 : (xs ++ [((32 * (o / 256) + 4 * (k - 4) + 1 : Nat) : Int) % 256]).length = xs.length + 1 := by rw [List.length_append, List.length_singleton]
        refine ok_bind (s_add _ hu (by omega) (by omega)) ?_
        rintro ⟨u3, u4⟩ hu2
        refine ok_some ?_
        unfold ecp
        rw [if_pos (show 4 ≤ k ∧ k ≤ 11 ∧ o < 2048 by omega)]
        rw [List.append_assoc] at hu2
        exact hu2
theorem s_write_E {N : Nat} {cnt ct : Int32} {f hF bF lF : Nat → Int32} {xs t : List Int} (h : BR N cnt f xs) (ht : TR ct hF bF lF t) (hN : N < 1048576) {a m k o : Nat} (ha : a + m ≤ t.length) (hk2 : k ≤ 5000) (ho : o ≤ 5000) (hl : xs.length + (qE (gx t) a m k o).length ≤ N) : ok (m_Elements_write (iI a) (iI m) (iI k) (iI o) cnt N f 5000 hF) (fun x => x.1 = iI (((if m = 0 then 0 else 1) + (if k = 0 then 0 else 1) : Nat) : Int) ∧ BR N x.2.1 x.2.2 (xs ++ qE (gx t) a m k o)) := by
  have h5 := ht.2.1
  have hl' : xs.length + (qL (gx t) a m).length + (if k = 0 then 0 else (ecp k o).length) ≤ N := by
    rw [qE_len] at hl
    rw [qL_len, ecp_len]
    omega
  have hJ : ∀ (c2 : Int32) (f2 : Nat → Int32) (j : Nat), j ≤ 1 → BR N c2 f2 (xs ++ qL (gx t) a m) → ok (m_Elements_write_J63 (iI k) (iI o) N f2 c2 (iI j)) (fun x => x.1 = iI ((j + (if k = 0 then 0 else 1) : Nat) : Int) ∧ BR N x.2.1 x.2.2 (xs ++ qE (gx t) a m k o)) := by
    intro c2 f2 j hj hbr
    unfold m_Elements_write_J63 qE
    by_cases c : k = 0
    · rw [if_pos c, if_pos c, if_le0T (by omega) (by omega), List.append_nil]
      exact ok_some ⟨rfl, hbr⟩
    · rw [if_neg c] at hl'
      rw [if_neg c, if_neg c, if_le0F (by omega) (by omega)]
      refine ok_bind (s_writeCopy hbr hN (by omega) hk2 ho (by rw [List.length_append]; omega)) ?_
      rintro ⟨u1, u2⟩ hu
      dsimp only at hu ⊢
      rw [lit_1, iI_add, bnd_eq, ← List.append_assoc]
      exact ok_some ⟨rfl, hu⟩
  unfold m_Elements_write
  by_cases c : m = 0
  · rw [if_le0T (by omega) (by omega), if_pos c, lit_0]
    refine hJ cnt f 0 (by omega) ?_
    unfold qL
    rw [if_pos c, List.append_nil]
    exact h
  · have hp := hd_pos c
    have hlw := qL_len (gx t) a m
    rw [if_le0F (by omega) (by omega), if_neg c, s_headOf_E (by omega), Option.bind_some, lit_1, iI_sub, show (hd false m : Int) - 1 = ((hd false m - 1 : Nat) : Int) by omega, bnd_eq]
    have hJ2 : ∀ z : Nat, z = (if hd false m = 1 then m - 1 else 58 + hd false m) → ok (m_Elements_write_J37 (iI a) (iI m) (iI k) (iI o) cnt N f 5000 hF (iI ((hd false m - 1 : Nat) : Int)) (iI z)) (fun x => x.1 = iI ((1 + (if k = 0 then 0 else 1) : Nat) : Int) ∧ BR N x.2.1 x.2.2 (xs ++ qE (gx t) a m k o)) := by
      intro z hz
      unfold m_Elements_write_J37
      rw [lit_4, iI_mul, show (4 : Int) * (z : Int) = ((4 * z : Nat) : Int) by omega]
      refine ok_bind (s_add _ h (by omega) (by omega)) ?_
      rintro ⟨u1, u2⟩ hu
      dsimp only at hu ⊢
      have l1 : (xs ++ [((4 * z : Nat) : Int) % 256]).length = xs.length + 1 := by rw [List.length_append, List.length_singleton]
      rw [lit_1, iI_sub, iI_j (by omega)]
      refine ok_bind (s_addNumber _ (by omega) hu (by omega) (by omega)) ?_
      rintro ⟨u3, u4⟩ hu2
      dsimp only at hu2 ⊢
      have l2 : (xs ++ [((4 * z : Nat) : Int) % 256] ++ le ((m : Int) - 1) (hd false m - 1)).length = xs.length + hd false m := by rw [List.length_append, l1, le_len]; omega
      refine ok_bind (s_lits hu2 ht hN ha (by omega)) ?_
      rintro ⟨u5, u6⟩ hu3
      dsimp only at hu3 ⊢
      rw [lit_0, iI_add, bnd_eq]
      refine hJ u5 u6 1 (by omega) ?_
      unfold qL
      rw [if_neg c, ← hz, ← List.append_assoc, ← List.append_assoc]
      exact hu3
    by_cases c2 : hd false m = 1
    · rw [if_eq0T (by omega) (by omega), iI_sub, show (m : Int) - 1 = ((m - 1 : Nat) : Int) by omega]
      exact hJ2 _ (by rw [if_pos c2])
    · rw [if_eq0F (by omega) (by omega), lit_59, iI_add, show (59 : Int) + ((hd false m - 1 : Nat) : Int) = ((58 + hd false m : Nat) : Int) by omega]
      exact hJ2 _ (by rw [if_neg c2])
def vh (n : Nat) : List Int := if n < 128 then [(n : Int) % 256] else [((128 + n % 128 : Nat) : Int) % 256, ((n / 128 : Nat) : Int) % 256]
theorem vh_len (n : Nat) : 1 ≤ (vh n).length ∧ (vh n).length ≤ 2 := by
  unfold vh
  split
  · exact ⟨Nat.le_refl _, by show 1 ≤ 2; decide⟩
  · exact ⟨by show 1 ≤ 2; decide, Nat.le_refl _⟩
theorem ishr7' : ∀ a : Nat, a < 63 → ∀ b : Nat, b < 64 → ishr (iI ((64 * a + b : Nat) : Int)) 7 = iI (((64 * a + b) / 128 : Nat) : Int) := by decide +kernel
theorem ishr7 (z : Nat) (h : z < 4001) : ishr (iI (z : Int)) 7 = iI ((z / 128 : Nat) : Int) := by
  have := ishr7' (z / 64) (by omega) (z % 64) (by omega)
  rw [show 64 * (z / 64) + z % 64 = z by omega] at this
  exact this
theorem or128' : ∀ a : Nat, a < 63 → ∀ b : Nat, b < 64 → (iI ((64 * a + b : Nat) : Int) &&& 127) ||| 128 = iI ((128 + (64 * a + b) % 128 : Nat) : Int) := by decide +kernel
theorem or128 (z : Nat) (h : z < 4001) : (iI (z : Int) &&& 127) ||| 128 = iI ((128 + z % 128 : Nat) : Int) := by
  have := or128' (z / 64) (by omega) (z % 64) (by omega)
  rw [show 64 * (z / 64) + z % 64 = z by omega] at this
  exact this
theorem ishr8 : ∀ z : Nat, z < 2048 → ishr (iI z) 8 = iI ((z / 256 : Nat) : Int) := by decide +kernel
theorem orcp : ∀ a : Nat, a < 8 → ∀ b : Nat, b < 8 → (ishl (iI a) 5 ||| ishl (iI b) 2) ||| 1 = iI ((32 * a + 4 * b + 1 : Nat) : Int) := by decide +kernel
theorem orc2' : ∀ a : Nat, a < 63 → ∀ b : Nat, b < 64 → ishl (iI ((64 * a + b : Nat) : Int)) 2 ||| 2 = iI ((4 * (64 * a + b) + 2 : Nat) : Int) := by decide +kernel
theorem orc2 (z : Nat) (h : z < 4001) : ishl (iI (z : Int)) 2 ||| 2 = iI ((4 * z + 2 : Nat) : Int) := by
  have := orc2' (z / 64) (by omega) (z % 64) (by omega)
  rw [show 64 * (z / 64) + z % 64 = z by omega] at this
  exact this
theorem shl2 : ∀ z : Nat, z < 64 → ishl (iI z) 2 = iI ((4 * z : Nat) : Int) := by decide +kernel
theorem s_vhead {N : Nat} {cnt : Int32} {f : Nat → Int32} {xs : List Int} {n : Nat} (hn : n ≤ 4000) (h : BR N cnt f xs) (hN : N < 1048576) (hl : xs.length + 2 ≤ N) : ok (m_Elements_writeHead (iI n) cnt N f) (fun o => BR N o.1 o.2 (xs ++ vh n)) := by
  unfold m_Elements_writeHead
  refine ok_bind (Q := fun o => BR N o.1 o.2 (xs ++ vh n)) ?_ (fun o ho => ok_some ho)
  refine ok_loop (fun j s => ∃ z : Nat, s.2.2 = iI z ∧ ((j = 0 ∧ z = n ∧ BR N s.2.1 s.1 xs) ∨ (j = 1 ∧ z = n / 128 ∧ 128 ≤ n ∧ BR N s.2.1 s.1 (xs ++ [((128 + n % 128 : Nat) : Int) % 256])))) 1 (by omega) ⟨n, rfl, Or.inl ⟨rfl, rfl, h⟩⟩ ?_
  rintro j ⟨s1, s2, s3⟩ hj ⟨z, e1, e2⟩
  dsimp only at e1 e2
  subst e1
  unfold m_Elements_writeHead_B2
  dsimp only
  rcases e2 with ⟨rfl, rfl, e3⟩ | ⟨rfl, rfl, e4, e3⟩
  · by_cases c : z < 128
    · simp (disch := omega) only [bnd_eq, Option.bind_some, lit_0, lit_1, lit_m1, lit_4, lit_5000, iI_nI, iI_add, iI_sub, iI_mul, iI_neg, chk_iI, iI_clamp, iI_lt, iI_le, iI_eq, if_pos, if_neg, if_true, if_false, Int.toNat_natCast, lit_128]
      refine ok_bind (s_add _ e3 (by omega) (by omega)) ?_
      rintro ⟨u1, u2⟩ hu
      refine ok_end ?_
      unfold vh
      rw [if_pos c]
      exact hu
    · rw [ishr7 z (by omega)]
      simp (disch := omega) only [bnd_eq, Option.bind_some, lit_0, lit_1, lit_m1, lit_4, lit_5000, iI_nI, iI_add, iI_sub, iI_mul, iI_neg, chk_iI, iI_clamp, iI_lt, iI_le, iI_eq, if_pos, if_neg, if_true, if_false, Int.toNat_natCast, lit_128, iI_rem]
      rw [show (128 : Int) + (z : Int) % 128 = ((128 + z % 128 : Nat) : Int) by omega]
      refine ok_bind (s_add _ e3 (by omega) (by omega)) ?_
      rintro ⟨u1, u2⟩ hu
      dsimp only at hu ⊢
      exact ok_go ⟨1, by omega, by omega, z / 128, rfl, Or.inr ⟨rfl, rfl, by omega, hu⟩⟩
  · simp (disch := omega) only [bnd_eq, Option.bind_some, lit_0, lit_1, lit_m1, lit_4, lit_5000, iI_nI, iI_add, iI_sub, iI_mul, iI_neg, chk_iI, iI_clamp, iI_lt, iI_le, iI_eq, if_pos, if_neg, if_true, if_false, Int.toNat_natCast, lit_128]
    refine ok_bind (s_add _ e3 (by rw [List.length_append, List.length_singleton]; omega) (by omega)) ?_
    rintro ⟨u1, u2⟩ hu
    refine ok_end ?_
    unfold vh
    rw [if_neg (by omega)]
    rw [List.append_assoc] at hu
    exact hu
theorem lenAt_lt {g : Nat → Int} {lean n : Nat} {j : Nat} : ∀ {p : Nat} {xs : List (Nat × Nat)}, GL g lean n p xs → j < p → lenAt xs j = 0
  | p, [], _, _ => rfl
  | p, x :: r, h, hj => by
    obtain ⟨h1, h2, h3, h4, h5⟩ := h
    show (if x.1 = j then x.2 else lenAt r j) = 0
    rw [if_neg (by omega)]
    exact lenAt_lt h5 (by omega)
def li (n : Nat) : Nat → List (Nat × Nat) → Nat
  | p, [] => n - p
  | p, x :: r => (x.1 - p) + li n (x.1 + x.2) r
def pts (sq : Bool) (n : Nat) : Nat → List (Nat × Nat) → Nat
  | p, [] => if sq = true then 1 else if n - p = 0 then 0 else 1
  | p, x :: r => (if sq = true then 1 else (if x.1 - p = 0 then 0 else 1) + 1) + pts sq n (x.1 + x.2) r
theorem li_le {g : Nat → Int} {lean n : Nat} : ∀ {p : Nat} {xs : List (Nat × Nat)}, GL g lean n p xs → li n p xs ≤ n - p ∧ xs.length ≤ n - p
  | p, [], h => ⟨Nat.le_refl _, Nat.zero_le _⟩
  | p, x :: r, h => by
    obtain ⟨h1, h2, h3, h4, h5⟩ := h
    have := li_le h5
    rw [li, List.length_cons]
    omega
theorem pts_le {g : Nat → Int} {lean n : Nat} (sq : Bool) : ∀ {p : Nat} {xs : List (Nat × Nat)}, GL g lean n p xs → pts sq n p xs ≤ 2 * (n - p) + 1
  | p, [], h => by
    rw [pts]
    repeat' split
    all_goals omega
  | p, x :: r, h => by
    obtain ⟨h1, h2, h3, h4, h5⟩ := h
    have := pts_le sq h5
    rw [pts]
    repeat' split
    all_goals omega
def Iwr_S (N : Nat) (g : Nat → Int) (base n : Nat) (xs : List (Nat × Nat)) (out : List Int) (q : Nat) (s : (Nat → Int32) × Int32 × Int32 × Int32 × Int32 × Int32 × Int32) : Prop := ∃ (w c l pa : Nat) (r : List (Nat × Nat)) (d : List Int), s.2.2.2.2.2.2 = iI q ∧ s.2.2.2.2.2.1 = iI w ∧ s.2.1 = iI c ∧ s.2.2.1 = iI l ∧ s.2.2.2.1 = iI pa ∧ GL g base n (max w q) r ∧ (∀ j, q ≤ j → lenAt xs j = lenAt r j) ∧ c + r.length = xs.length ∧ l + li n w r = li n 0 xs ∧ pa + pts true n w r = pts true n 0 xs ∧ BR N s.2.2.2.2.1 s.1 d ∧ d ++ em true g base n w r = out ∧ (true = true → ∀ x ∈ r, 4 ≤ x.2)
def Pwr_S (N : Nat) (g : Nat → Int) (base n : Nat) (xs : List (Nat × Nat)) (out : List Int) (s : (Nat → Int32) × Int32 × Int32 × Int32 × Int32 × Int32) : Prop := ∃ (w l pa : Nat) (d : List Int), s.2.2.2.2.2 = iI w ∧ s.2.1 = iI xs.length ∧ s.2.2.1 = iI l ∧ s.2.2.2.1 = iI pa ∧ w ≤ n ∧ l + (n - w) = li n 0 xs ∧ pa + pts true n w [] = pts true n 0 xs ∧ BR N s.2.2.2.2.1 s.1 d ∧ d ++ wq true g (base + w) (n - w) 0 0 = out
theorem s_row_S {N : Nat} {cnt ct : Int32} {f hF bF lF F : Nat → Int32} {t out : List Int} (h : BR N cnt f out) (ht : TR ct hF bF lF t) (hN : N < 1048576) {n base : Nat} (hn : n ≤ 4000) (hb : base + n ≤ t.length) {xs : List (Nat × Nat)} (hx : GL (gx t) base n 0 xs) (hFA : FA n F xs) (h4 : true = true → ∀ x ∈ xs, 4 ≤ x.2) (hl : out.length + (em true (gx t) base n 0 xs).length ≤ N) : ok (m_Packer_writeRow_S (iI base) (iI n) 4000 F ct 5000 bF 5000 hF cnt N f) (fun o => o.1 = iI xs.length ∧ o.2.1 = iI (li n 0 xs) ∧ o.2.2.1 = iI (pts true n 0 xs) ∧ BR N o.2.2.2.1 o.2.2.2.2 (out ++ em true (gx t) base n 0 xs)) := by
  have h5 := ht.2.1
  have hlp := li_le hx
  have hpp := pts_le true hx
  have hl2 : (out ++ em true (gx t) base n 0 xs).length ≤ N := by rw [List.length_append]; exact hl
  generalize hall : out ++ em true (gx t) base n 0 xs = all at hl2 ⊢
  unfold m_Packer_writeRow_S
  refine ok_bind (Q := Pwr_S N (gx t) base n xs all) ?_ ?_
  · refine ok_loop (Iwr_S N (gx t) base n xs all) n (by omega) ⟨0, 0, 0, 0, xs, out, rfl, rfl, rfl, rfl, rfl, by rw [Nat.max_self]; exact hx, fun j _ => rfl, by omega, by omega, by omega, h, hall, h4⟩ ?_
    rintro q ⟨s1, s2, s3, s4, s5, s6, s7⟩ hq ⟨w, c, l, pa, r, d, e1, e2, e3, e4, e5, e6, e7, e8, e9, e10, e11, e12, e13⟩
    dsimp only at e1 e2 e3 e4 e5 e11
    subst e1 e2 e3 e4 e5
    unfold m_Packer_writeRow_S_B19 m_Packer_writeRow_S_J116
    dsimp only
    have hw := e6.le
    by_cases c1 : n ≤ q
    · simp (disch := omega) only [bnd_eq, Option.bind_some, lit_0, lit_1, lit_m1, lit_4, lit_5000, iI_nI, iI_add, iI_sub, iI_mul, iI_neg, chk_iI, iI_clamp, iI_lt, iI_le, iI_eq, if_pos, if_neg, if_true, if_false, Int.toNat_natCast]
      have hr : r = [] := by
        cases r with
        | nil => rfl
        | cons x r =>
          obtain ⟨y1, y2, y3, _⟩ := e6
          omega
      subst hr
      rw [List.length_nil, Nat.add_zero] at e8
      rw [li] at e9
      exact ok_end ⟨w, l, pa, d, rfl, by rw [e8], rfl, rfl, by omega, e9, e10, e11, e12⟩
    · simp (disch := omega) only [bnd_eq, Option.bind_some, lit_0, lit_1, lit_m1, lit_4, lit_5000, iI_nI, iI_add, iI_sub, iI_mul, iI_neg, chk_iI, iI_clamp, iI_lt, iI_le, iI_eq, if_pos, if_neg, if_true, if_false, Int.toNat_natCast]
      rw [hFA q (by omega), e7 q (Nat.le_refl _)]
      have hskip : lenAt r q = 0 → GL (gx t) base n (max w (q + 1)) r → ok (some (.inl (s1, iI c, iI l, iI pa, s5, iI w, iI ((q : Int) + 1))) : Option (((Nat → Int32) × Int32 × Int32 × Int32 × Int32 × Int32 × Int32) ⊕ ((Nat → Int32) × Int32 × Int32 × Int32 × Int32 × Int32))) (St (fun s' => ∃ k', q < k' ∧ k' ≤ n ∧ Iwr_S N (gx t) base n xs all k' s') (Pwr_S N (gx t) base n xs all)) := by
        intro _ y
        exact ok_go ⟨q + 1, by omega, by omega, w, c, l, pa, r, d, by simp, rfl, rfl, rfl, rfl, y, fun j z => e7 j (by omega), e8, e9, e10, e11, e12, e13⟩
      cases r with
      | nil =>
        rw [show lenAt [] q = 0 from rfl, if_leT (by omega) (by omega) (by omega)]
        exact hskip rfl (by show max w (q + 1) ≤ n; omega)
      | cons x r =>
        obtain ⟨x1, x2⟩ := x
        obtain ⟨y1, y2, y3, y4, y5⟩ := id e6
        dsimp only at y1 y2 y3 y4 y5
        by_cases c2 : x1 = q
        · subst c2
          have hlen : lenAt ((x1, x2) :: r) x1 = x2 := by
            show (if x1 = x1 then x2 else lenAt r x1) = _
            rw [if_pos rfl]
          rw [hlen, if_leF (by omega) (by omega) (by omega), show (base : Int) + (x1 : Int) = ((base + x1 : Nat) : Int) by omega]
          refine ok_bind (s_offsetOf ht (b := base + x1) (n := x2) (by omega) (by omega)) ?_
          intro o ho
          rcases ho with ⟨o', rfl, hno⟩ | ⟨_, hno⟩
          · have ho1 := hno.2.1
            have ho2 := hno.nO
            rw [em] at e12
            dsimp only at e12
            rw [← ho2] at e12
            unfold wq at e12
            rw [if_pos rfl] at e12
            have hlen2 : d.length + (qS (gx t) (base + w) (x1 - w) x2 o').length ≤ N := by
              have := congrArg List.length e12
              rw [List.length_append, List.length_append] at this
              omega
            rw [pts] at e10
            dsimp only at e10
            rw [if_pos rfl] at e10
            rw [li] at e9
            dsimp only at e9
            rw [List.length_cons] at e8
            rw [show (base : Int) + (w : Int) = ((base + w : Nat) : Int) by omega, show (x1 : Int) - (w : Int) = ((x1 - w : Nat) : Int) by omega]
            refine ok_bind (s_write_S e11 ht hN (a := base + w) (m := x1 - w) (k := x2) (o := o') (by omega) (Or.inr (e13 rfl (x1, x2) (by simp))) (by omega) (by omega) hlen2) ?_
            rintro ⟨v1, v2, v3⟩ ⟨z1, z2⟩
            dsimp only at z1 z2 ⊢
            subst z1
            simp (disch := omega) only [bnd_eq, Option.bind_some, lit_0, lit_1, lit_m1, lit_4, lit_5000, iI_nI, iI_add, iI_sub, iI_mul, iI_neg, chk_iI, iI_clamp, iI_lt, iI_le, iI_eq, if_pos, if_neg, if_true, if_false, Int.toNat_natCast]
            refine ok_go ⟨x1 + 1, by omega, by omega, x1 + x2, c + 1, l + (x1 - w), pa + 1, r, d ++ qS (gx t) (base + w) (x1 - w) x2 o', ?_, ?_, ?_, ?_, ?_, ?_, fun j z => ?_, by omega, by omega, ?_, z2, ?_, fun z y hy => e13 z y (by simp [hy])⟩
            · dsimp only
              congr 1
            · dsimp only
              congr 1
            · dsimp only
              congr 1
            · dsimp only
              congr 1
            · dsimp only
              congr 1
            · rw [show max (x1 + x2) (x1 + 1) = x1 + x2 by omega]
              exact y5
            · rw [e7 j (by omega)]
              show (if x1 = j then x2 else lenAt r j) = _
              rw [if_neg (by omega)]
            · omega
            · rw [List.append_assoc]
              exact e12
          · obtain ⟨a, z1, z2⟩ := y4
            exact absurd z2 (hno a z1)
        · have hlen : lenAt ((x1, x2) :: r) q = 0 := by
            show (if x1 = q then x2 else lenAt r q) = _
            rw [if_neg c2]
            exact lenAt_lt y5 (by omega)
          rw [hlen, if_leT (by omega) (by omega) (by omega)]
          exact hskip hlen ⟨by show max w (q + 1) ≤ x1; omega, y2, y3, y4, y5⟩
  · rintro ⟨o1, o2, o3, o4, o5, o6⟩ ⟨w, l, pa, d, e1, e2, e3, e4, e5, e6, e7, e8, e9⟩
    dsimp only at e1 e2 e3 e4 e8 ⊢
    subst e1 e2 e3 e4
    unfold m_Packer_writeRow_S_E122
    unfold wq at e9
    rw [if_pos rfl] at e9
    have hlen2 : d.length + (qS (gx t) (base + w) (n - w) 0 0).length ≤ N := by
      have := congrArg List.length e9
      rw [List.length_append] at this
      omega
    rw [pts, if_pos rfl] at e7
    rw [show (0 : Int32) = iI ((0 : Nat) : Int) from rfl, iI_add, iI_sub, show (base : Int) + (w : Int) = ((base + w : Nat) : Int) by omega, show (n : Int) - (w : Int) = ((n - w : Nat) : Int) by omega]
    refine ok_bind (s_write_S e8 ht hN (a := base + w) (m := n - w) (k := 0) (o := 0) (by omega) (Or.inl rfl) (by omega) (by omega) hlen2) ?_
    rintro ⟨v1, v2, v3⟩ ⟨z1, z2⟩
    dsimp only at z1 z2 ⊢
    subst z1
    rw [e9] at z2
    simp (disch := omega) only [bnd_eq, Option.bind_some, lit_0, lit_1, lit_m1, lit_4, lit_5000, iI_nI, iI_add, iI_sub, iI_mul, iI_neg, chk_iI, iI_clamp, iI_lt, iI_le, iI_eq, if_pos, if_neg, if_true, if_false, Int.toNat_natCast]
    refine ok_some ⟨rfl, ?_, ?_, z2⟩
    · dsimp only
      congr 1
      omega
    · dsimp only
      congr 1
      omega
def Iwr_E (N : Nat) (g : Nat → Int) (base n : Nat) (xs : List (Nat × Nat)) (out : List Int) (q : Nat) (s : (Nat → Int32) × Int32 × Int32 × Int32 × Int32 × Int32 × Int32) : Prop := ∃ (w c l pa : Nat) (r : List (Nat × Nat)) (d : List Int), s.2.2.2.2.2.2 = iI q ∧ s.2.2.2.2.2.1 = iI w ∧ s.2.1 = iI c ∧ s.2.2.1 = iI l ∧ s.2.2.2.1 = iI pa ∧ GL g base n (max w q) r ∧ (∀ j, q ≤ j → lenAt xs j = lenAt r j) ∧ c + r.length = xs.length ∧ l + li n w r = li n 0 xs ∧ pa + pts false n w r = pts false n 0 xs ∧ BR N s.2.2.2.2.1 s.1 d ∧ d ++ em false g base n w r = out ∧ (false = true → ∀ x ∈ r, 4 ≤ x.2)
def Pwr_E (N : Nat) (g : Nat → Int) (base n : Nat) (xs : List (Nat × Nat)) (out : List Int) (s : (Nat → Int32) × Int32 × Int32 × Int32 × Int32 × Int32) : Prop := ∃ (w l pa : Nat) (d : List Int), s.2.2.2.2.2 = iI w ∧ s.2.1 = iI xs.length ∧ s.2.2.1 = iI l ∧ s.2.2.2.1 = iI pa ∧ w ≤ n ∧ l + (n - w) = li n 0 xs ∧ pa + pts false n w [] = pts false n 0 xs ∧ BR N s.2.2.2.2.1 s.1 d ∧ d ++ wq false g (base + w) (n - w) 0 0 = out
theorem s_row_E {N : Nat} {cnt ct : Int32} {f hF bF lF F : Nat → Int32} {t out : List Int} (h : BR N cnt f out) (ht : TR ct hF bF lF t) (hN : N < 1048576) {n base : Nat} (hn : n ≤ 4000) (hb : base + n ≤ t.length) {xs : List (Nat × Nat)} (hx : GL (gx t) base n 0 xs) (hFA : FA n F xs) (h4 : false = true → ∀ x ∈ xs, 4 ≤ x.2) (hl : out.length + (em false (gx t) base n 0 xs).length ≤ N) : ok (m_Packer_writeRow_E (iI base) (iI n) 4000 F ct 5000 bF 5000 hF cnt N f) (fun o => o.1 = iI xs.length ∧ o.2.1 = iI (li n 0 xs) ∧ o.2.2.1 = iI (pts false n 0 xs) ∧ BR N o.2.2.2.1 o.2.2.2.2 (out ++ em false (gx t) base n 0 xs)) := by
  have h5 := ht.2.1
  have hlp := li_le hx
  have hpp := pts_le false hx
  have hl2 : (out ++ em false (gx t) base n 0 xs).length ≤ N := by rw [List.length_append]; exact hl
  generalize hall : out ++ em false (gx t) base n 0 xs = all at hl2 ⊢
  unfold m_Packer_writeRow_E
  refine ok_bind (Q := Pwr_E N (gx t) base n xs all) ?_ ?_
  · refine ok_loop (Iwr_E N (gx t) base n xs all) n (by omega) ⟨0, 0, 0, 0, xs, out, rfl, rfl, rfl, rfl, rfl, by rw [Nat.max_self]; exact hx, fun j _ => rfl, by omega, by omega, by omega, h, hall, h4⟩ ?_
    rintro q ⟨s1, s2, s3, s4, s5, s6, s7⟩ hq ⟨w, c, l, pa, r, d, e1, e2, e3, e4, e5, e6, e7, e8, e9, e10, e11, e12, e13⟩
    dsimp only at e1 e2 e3 e4 e5 e11
    subst e1 e2 e3 e4 e5
    unfold m_Packer_writeRow_E_B19 m_Packer_writeRow_E_J116
    dsimp only
    have hw := e6.le
    by_cases c1 : n ≤ q
    · simp (disch := omega) only [bnd_eq, Option.bind_some, lit_0, lit_1, lit_m1, lit_4, lit_5000, iI_nI, iI_add, iI_sub, iI_mul, iI_neg, chk_iI, iI_clamp, iI_lt, iI_le, iI_eq, if_pos, if_neg, if_true, if_false, Int.toNat_natCast]
      have hr : r = [] := by
        cases r with
        | nil => rfl
        | cons x r =>
          obtain ⟨y1, y2, y3, _⟩ := e6
          omega
      subst hr
      rw [List.length_nil, Nat.add_zero] at e8
      rw [li] at e9
      exact ok_end ⟨w, l, pa, d, rfl, by rw [e8], rfl, rfl, by omega, e9, e10, e11, e12⟩
    · simp (disch := omega) only [bnd_eq, Option.bind_some, lit_0, lit_1, lit_m1, lit_4, lit_5000, iI_nI, iI_add, iI_sub, iI_mul, iI_neg, chk_iI, iI_clamp, iI_lt, iI_le, iI_eq, if_pos, if_neg, if_true, if_false, Int.toNat_natCast]
      rw [hFA q (by omega), e7 q (Nat.le_refl _)]
      have hskip : lenAt r q = 0 → GL (gx t) base n (max w (q + 1)) r → ok (some (.inl (s1, iI c, iI l, iI pa, s5, iI w, iI ((q : Int) + 1))) : Option (((Nat → Int32) × Int32 × Int32 × Int32 × Int32 × Int32 × Int32) ⊕ ((Nat → Int32) × Int32 × Int32 × Int32 × Int32 × Int32))) (St (fun s' => ∃ k', q < k' ∧ k' ≤ n ∧ Iwr_E N (gx t) base n xs all k' s') (Pwr_E N (gx t) base n xs all)) := by
        intro _ y
        exact ok_go ⟨q + 1, by omega, by omega, w, c, l, pa, r, d, by simp, rfl, rfl, rfl, rfl, y, fun j z => e7 j (by omega), e8, e9, e10, e11, e12, e13⟩
      cases r with
      | nil =>
        rw [show lenAt [] q = 0 from rfl, if_leT (by omega) (by omega) (by omega)]
        exact hskip rfl (by show max w (q + 1) ≤ n; omega)
      | cons x r =>
        obtain ⟨x1, x2⟩ := x
        obtain ⟨y1, y2, y3, y4, y5⟩ := id e6
        dsimp only at y1 y2 y3 y4 y5
        by_cases c2 : x1 = q
        · subst c2
          have hlen : lenAt ((x1, x2) :: r) x1 = x2 := by
            show (if x1 = x1 then x2 else lenAt r x1) = _
            rw [if_pos rfl]
          rw [hlen, if_leF (by omega) (by omega) (by omega), show (base : Int) + (x1 : Int) = ((base + x1 : Nat) : Int) by omega]
          refine ok_bind (s_offsetOf ht (b := base + x1) (n := x2) (by omega) (by omega)) ?_
          intro o ho
          rcases ho with ⟨o', rfl, hno⟩ | ⟨_, hno⟩
          · have ho1 := hno.2.1
            have ho2 := hno.nO
            rw [em] at e12
            dsimp only at e12
            rw [← ho2] at e12
            unfold wq at e12
            rw [if_neg (show ¬ (false = true) by decide)] at e12
            have hlen2 : d.length + (qE (gx t) (base + w) (x1 - w) x2 o').length ≤ N := by
              have := congrArg List.length e12
              rw [List.length_append, List.length_append] at this
              omega
            rw [pts] at e10
            dsimp only at e10
            rw [if_neg (show ¬ (false = true) by decide)] at e10
            rw [li] at e9
            dsimp only at e9
            rw [List.length_cons] at e8
            rw [show (base : Int) + (w : Int) = ((base + w : Nat) : Int) by omega, show (x1 : Int) - (w : Int) = ((x1 - w : Nat) : Int) by omega]
            refine ok_bind (s_write_E e11 ht hN (a := base + w) (m := x1 - w) (k := x2) (o := o') (by omega) (by omega) (by omega) hlen2) ?_
            rintro ⟨v1, v2, v3⟩ ⟨z1, z2⟩
            dsimp only at z1 z2 ⊢
            subst z1
            simp (disch := omega) only [bnd_eq, Option.bind_some, lit_0, lit_1, lit_m1, lit_4, lit_5000, iI_nI, iI_add, iI_sub, iI_mul, iI_neg, chk_iI, iI_clamp, iI_lt, iI_le, iI_eq, if_pos, if_neg, if_true, if_false, Int.toNat_natCast]
            refine ok_go ⟨x1 + 1, by omega, by omega, x1 + x2, c + 1, l + (x1 - w), pa + ((if x1 - w = 0 then 0 else 1) + (if x2 = 0 then 0 else 1)), r, d ++ qE (gx t) (base + w) (x1 - w) x2 o', ?_, ?_, ?_, ?_, ?_, ?_, fun j z => ?_, by omega, by omega, ?_, z2, ?_, fun z y hy => e13 z y (by simp [hy])⟩
            · dsimp only
              congr 1
            · dsimp only
              congr 1
            · dsimp only
              congr 1
            · dsimp only
              congr 1
            · dsimp only
              congr 1; rw [if_neg (show ¬ x2 = 0 by omega)]; omega
            · rw [show max (x1 + x2) (x1 + 1) = x1 + x2 by omega]
              exact y5
            · rw [e7 j (by omega)]
              show (if x1 = j then x2 else lenAt r j) = _
              rw [if_neg (by omega)]
            · rw [if_neg (show ¬ x2 = 0 by omega)]; omega
            · rw [List.append_assoc]
              exact e12
          · obtain ⟨a, z1, z2⟩ := y4
            exact absurd z2 (hno a z1)
        · have hlen : lenAt ((x1, x2) :: r) q = 0 := by
            show (if x1 = q then x2 else lenAt r q) = _
            rw [if_neg c2]
            exact lenAt_lt y5 (by omega)
          rw [hlen, if_leT (by omega) (by omega) (by omega)]
          exact hskip hlen ⟨by show max w (q + 1) ≤ x1; omega, y2, y3, y4, y5⟩
  · rintro ⟨o1, o2, o3, o4, o5, o6⟩ ⟨w, l, pa, d, e1, e2, e3, e4, e5, e6, e7, e8, e9⟩
    dsimp only at e1 e2 e3 e4 e8 ⊢
    subst e1 e2 e3 e4
    unfold m_Packer_writeRow_E_E122
    unfold wq at e9
    rw [if_neg (show ¬ (false = true) by decide)] at e9
    have hlen2 : d.length + (qE (gx t) (base + w) (n - w) 0 0).length ≤ N := by
      have := congrArg List.length e9
      rw [List.length_append] at this
      omega
    rw [pts, if_neg (show ¬ (false = true) by decide)] at e7
    rw [show (0 : Int32) = iI ((0 : Nat) : Int) from rfl, iI_add, iI_sub, show (base : Int) + (w : Int) = ((base + w : Nat) : Int) by omega, show (n : Int) - (w : Int) = ((n - w : Nat) : Int) by omega]
    refine ok_bind (s_write_E e8 ht hN (a := base + w) (m := n - w) (k := 0) (o := 0) (by omega) (by omega) (by omega) hlen2) ?_
    rintro ⟨v1, v2, v3⟩ ⟨z1, z2⟩
    dsimp only at z1 z2 ⊢
    subst z1
    rw [e9] at z2
    simp (disch := omega) only [bnd_eq, Option.bind_some, lit_0, lit_1, lit_m1, lit_4, lit_5000, iI_nI, iI_add, iI_sub, iI_mul, iI_neg, chk_iI, iI_clamp, iI_lt, iI_le, iI_eq, if_pos, if_neg, if_true, if_false, Int.toNat_natCast]
    refine ok_some ⟨rfl, ?_, ?_, z2⟩
    · dsimp only
      congr 1
      omega
    · dsimp only
      congr 1
      omega
