/-! the sum of bits -/
def b1 (c : Int32) : Int32 := if c &&& 1 = 0 then iushr c 1 else iushr c 1 ^^^ (-2097792136)
def bits (c : Int32) : Nat → Int32
  | 0 => c
  | k + 1 => b1 (bits c k)
theorem bits_s (c : Int32) (k : Nat) : bits c (k + 1) = b1 (bits c k) := by rw [bits]
def crcL (g : Nat → Int32) (p : Nat) : Nat → Int32
  | 0 => -1
  | k + 1 => bits (crcL g p k ^^^ g (p + k)) 8
theorem crcL_s (g : Nat → Int32) (p k : Nat) : crcL g p (k + 1) = bits (crcL g p k ^^^ g (p + k)) 8 := by rw [crcL]
def crcS (g : Nat → Int32) (p n : Nat) : Int32 := crcL g p n ^^^ (-1)
theorem and1 (c : Int32) : c &&& 1 = 0 ∨ c &&& 1 = 1 := by
  obtain ⟨j, hj, e⟩ := pk_andE c (m := 1) 1 (by decide)
  rcases (show j = 0 ∨ j = 1 by omega) with rfl | rfl
  · exact Or.inl e
  · exact Or.inr e
theorem c_bits (c : Int32) : iter (fun st => m_Sums_crcOf_B25 st.1 st.2) FU (c, (0 : Int32)) = some (bits c 8) := by
  refine iter_cnt (st := fun k => (bits c k, iI (k : Nat))) (n := 8) _ ?_ ?_ ?_ (by omega)
  · rfl
  · intro k hk
    unfold m_Sums_crcOf_B25 m_Sums_crcOf_J50
    dsimp only
    rw [show (8 : Int32) = iI 8 from rfl, if_leF (by omega) (by omega) (by omega), bnd_eq, bnd_eq, bits_s, show iI ((k : Nat) : Int) + (1 : Int32) = iI ((k + 1 : Nat) : Int) from iI_add _ 1]
    unfold b1
    by_cases e : bits c k &&& 1 = 0
    · rw [if_pos e, if_pos e]
    · rw [if_neg e, if_neg e]
  · unfold m_Sums_crcOf_B25
    exact if_pos (show (8 : Int32) ≤ iI ((8 : Nat) : Int) by decide)
theorem t_bits (c : Int32) : iter (fun st => m_Mo_crcOf_B23 st.1 st.2) FU (c, (0 : Int32)) = some (bits c 8) := by
  refine iter_cnt (st := fun k => (bits c k, iI (k : Nat))) (n := 8) _ ?_ ?_ ?_ (by omega)
  · rfl
  · intro k hk
    unfold m_Mo_crcOf_B23 m_Mo_crcOf_J42 m_Mo_crcOf_J58
    dsimp only
    rw [show (8 : Int32) = iI 8 from rfl, if_leF (by omega) (by omega) (by omega)]
    simp only [bnd_eq]
    rw [bits_s, show iI ((k : Nat) : Int) + (1 : Int32) = iI ((k + 1 : Nat) : Int) from iI_add _ 1]
    unfold b1
    rcases and1 (bits c k) with e | e
    · rw [if_neg (by rw [e]; decide), if_pos trivial, if_pos e]
    · rw [if_pos e, if_neg (by decide), if_neg (by rw [e]; decide)]
  · unfold m_Mo_crcOf_B23
    exact if_pos (show (8 : Int32) ≤ iI ((8 : Nat) : Int) by decide)
theorem s_crcOf {N : Nat} {cnt : Int32} {f : Nat → Int32} {xs : List Int} (h : BR N cnt f xs) (hN : N < 1048576) {p n : Nat} (hp : p + n ≤ xs.length) : m_Sums_crcOf (iI p) (iI n) cnt N f = some (crcS (rd xs) p n) := by
  have hl := h.2.1
  unfold m_Sums_crcOf
  rw [iter_cnt (st := fun k => (crcL (rd xs) p k, iI (k : Nat))) (n := n) (x := crcS (rd xs) p n) ?_ ?_ ?_ (by omega), Option.bind_some]
  · rfl
  · intro k hk
    unfold m_Sums_crcOf_B5 m_Sums_crcOf_E57
    dsimp only
    rw [if_leF (by omega) (by omega) (by omega), iI_add, s_at h (by omega) (by omega), if_pos (by omega), Option.bind_some, bnd_eq, c_bits, Option.bind_some, bnd_eq, crcL_s, show iI ((k : Nat) : Int) + (1 : Int32) = iI ((k + 1 : Nat) : Int) from iI_add _ 1, show ((p : Int) + (k : Int)).toNat = p + k by omega]
    rfl
  · unfold m_Sums_crcOf_B5
    dsimp only
    rw [if_leT (by omega) (by omega) (by omega)]
    rfl
theorem t_crcOf {N : Nat} {c : Int32} {f : Nat → Int32} {xs : List Int} (h : MR c f xs) (hN : N < 1048576) (hl : xs.length ≤ N) {p n : Nat} (hp : p + n ≤ xs.length) : m_Mo_crcOf (iI p) (iI n) N f = some (crcS (rd xs) p n) := by
  unfold m_Mo_crcOf
  rw [iter_cnt (st := fun k => (crcL (rd xs) p k, iI ((p + k : Nat) : Int))) (n := n) (x := crcS (rd xs) p n) ?_ ?_ ?_ (by omega), Option.bind_some]
  · rfl
  · intro k hk
    unfold m_Mo_crcOf_B5 m_Mo_crcOf_E64
    dsimp only
    rw [iI_add, if_leF (by omega) (by omega) (by omega), chk_iI (by omega) (by omega), iI_clamp (by omega) (by omega), Int.toNat_natCast, (h.2 _ (by omega)).2, bnd_eq, t_bits, Option.bind_some, bnd_eq, crcL_s, show iI ((p + k : Nat) : Int) + (1 : Int32) = iI ((p + (k + 1) : Nat) : Int) from iI_add _ 1]
    rfl
  · unfold m_Mo_crcOf_B5
    dsimp only
    rw [iI_add, if_leT (by omega) (by omega) (by omega)]
    rfl
def mskS (c : Int32) : Int32 := tn c 17 + (-1568478504)
theorem s_mask {N : Nat} {cnt : Int32} {f : Nat → Int32} {xs : List Int} (h : BR N cnt f xs) (hN : N < 1048576) {p n : Nat} (hp : p + n ≤ xs.length) : m_Sums_maskedCrcOf (iI p) (iI n) cnt N f = some (mskS (crcS (rd xs) p n)) := by
  unfold m_Sums_maskedCrcOf mskS
  rw [s_crcOf h hN hp, Option.bind_some, s_tn, Option.bind_some]
theorem t_mask (c : Int32) : m_Mo_masked c = some (mskS c) := by
  unfold m_Mo_masked mskS
  rw [s_tn2, Option.bind_some]
theorem p_14 : P_14 RV0 := by
  intro a1 iN wN sF ob oa oN xN bN iF wF oF bF l1 l2 mi mo md mb mr mp mif mof mdf mtf mbf h
  obtain ⟨inp, dic, out, b1, b2, b3, b4, b5, b6, b7⟩ := id h
  have hl := b5.2.1
  obtain rfl := b5.1
  obtain rfl := b6.1
  have e1 := s_sumOf b5 (by omega) (p := 0) (n := out.length) (by omega)
  have e2 := s_crcOf b5 (by omega) (p := 0) (n := out.length) (by omega)
  have e3 := s_mask b5 (by omega) (p := 0) (n := out.length) (by omega)
  have e4 := t_sumOf b6 (N := 12000) (by omega) (by omega) (p := 0) (n := out.length) (by omega)
  have e5 := t_crcOf b6 (N := 12000) (by omega) (by omega) (p := 0) (n := out.length) (by omega)
  rw [show iI ((0 : Nat) : Int) = (0 : Int32) from rfl] at e1 e2 e3 e4 e5
  unfold m_FB_sum m_Mo_sum m_Mo_sum_J30 m_Mo_sum_J56 m_Bytes_size
  rw [Option.bind_some, Option.bind_some, Option.bind_some, e1, e2, e3, e4, e5, Option.bind_some, Option.bind_some, Option.bind_some, Option.bind_some, Option.bind_some, t_mask, Option.bind_some]
  by_cases c0 : a1 = 0
  · rw [if_pos c0, if_pos c0]
    exact ⟨_, rfl, by rw [Int64.and_comm], h⟩
  · rw [if_neg c0, if_neg c0]
    by_cases c1 : a1 = 1
    · rw [if_pos c1, if_pos c1, if_neg (by rw [c1]; decide)]
      exact ⟨_, rfl, by rw [Int64.and_comm], h⟩
    · rw [if_neg c1, if_neg c1]
      by_cases c2 : a1 = 2
      · rw [if_pos c2, if_pos c2, if_pos c2]
        exact ⟨_, rfl, by rw [Int64.and_comm], h⟩
      · rw [if_neg c2, if_neg c2]
        exact ⟨_, rfl, rfl, h⟩
