/-! sums and sums of bits: both sides come to one number -/
theorem iter_count {S X : Type} {f : S → Option (S ⊕ X)} (st : Nat → S) (n : Nat) (x : X) (hb : ∀ k, k < n → f (st k) = some (.inl (st (k + 1)))) (he : f (st n) = some (.inr x)) : ∀ (N k : Nat), k ≤ n → n - k < N → iter f N (st k) = some x
  | 0, k, _, h => absurd h (Nat.not_lt_zero _)
  | N + 1, k, hk, h => by
    unfold iter
    by_cases e : k = n
    · subst e
      rw [he]
      rfl
    · rw [hb k (by omega)]
      exact iter_count st n x hb he N (k + 1) (by omega) (by omega)
theorem iter_cnt {S X : Type} {f : S → Option (S ⊕ X)} (st : Nat → S) (n : Nat) (x : X) {s : S} (hs : s = st 0) (hb : ∀ k, k < n → f (st k) = some (.inl (st (k + 1)))) (he : f (st n) = some (.inr x)) (hn : n < 1048576) : iter f FU s = some x := by
  rw [hs]
  exact iter_count st n x hb he FU 0 (Nat.zero_le _) (by unfold FU; omega)
def rd (xs : List Int) (j : Nat) : Int32 := iI (xs.getD j 0)
def n4 (g : Nat → Int32) (p : Nat) : Int32 := ((g p ||| ishl (g (p + 1)) 8) ||| ishl (g (p + 2)) 16) ||| ishl (g (p + 3)) 24
def tn (x n : Int32) : Int32 := ishl x n ||| iushr x (32 - n)
theorem bnd_eq {α β : Type} (e : α) (k : α → Option β) : bnd e k = k e := rfl
theorem s_tn (x n : Int32) : m_Sums_turned x n = some (tn x n) := by unfold m_Sums_turned tn; exact rfl
theorem s_tn2 (x n : Int32) : m_Mo_turned x n = some (tn x n) := by unfold m_Mo_turned tn; exact rfl
def mx (v w : Int32) : Int32 := tn (v + w * (-2048144777)) 13 * (-1640531535)
theorem s_mx (v w : Int32) : m_Sums_mixed v w = some (mx v w) := rfl
def m16 (g : Nat → Int32) (p : Nat) (v : Int32) : Nat → Int32
  | 0 => v
  | k + 1 => mx (m16 g p v k) (n4 g (p + 16 * k))
theorem mx_eq (v w : Int32) : tn (v + w * (-2048144777)) 13 * (-1640531535) = mx v w := by unfold mx; exact rfl
theorem m16_s (g : Nat → Int32) (p : Nat) (v : Int32) (k : Nat) : m16 g p v (k + 1) = mx (m16 g p v k) (n4 g (p + 16 * k)) := by rw [m16]
def sm4 (g : Nat → Int32) (p : Nat) (h : Int32) : Nat → Int32
  | 0 => h
  | k + 1 => tn (sm4 g p h k + n4 g (p + 4 * k) * (-1028477379)) 17 * 668265263
def sm1 (g : Nat → Int32) (p : Nat) (h : Int32) : Nat → Int32
  | 0 => h
  | k + 1 => tn (sm1 g p h k + g (p + k) * 374761393) 11 * (-1640531535)
def smE (h : Int32) : Int32 :=
  let a := (h ^^^ iushr h 15) * (-2048144777)
  let b := (a ^^^ iushr a 13) * (-1028477379)
  b ^^^ iushr b 16
def smH (g : Nat → Int32) (p n : Nat) : Int32 := if n < 16 then 374761393 else ((tn (m16 g p 606290984 (n / 16)) 1 + tn (m16 g (p + 4) (-2048144777) (n / 16)) 7) + tn (m16 g (p + 8) 0 (n / 16)) 12) + tn (m16 g (p + 12) 1640531535 (n / 16)) 18
def sumS (g : Nat → Int32) (p n : Nat) : Int32 := smE (sm1 g (p + n - n % 4) (sm4 g (p + n - n % 16) (smH g p n + iI n) (n % 16 / 4)) (n % 4))
theorem s_n32 {N : Nat} {cnt : Int32} {f : Nat → Int32} {xs : List Int} (h : BR N cnt f xs) (hN : N < 1073741824) {p : Nat} (hp : p + 4 ≤ xs.length) : m_Bytes_number32 (iI p) cnt N f = some (n4 (rd xs) p) := by
  obtain ⟨h1, h2, h3⟩ := h
  unfold m_Bytes_number32
  rw [h1, show (4 : Int32) = iI 4 from rfl, iI_sub, if_lt0F (by omega) (by omega), if_leT (by omega) (by omega) (by omega), show (1 : Int32) = iI 1 from rfl, show (2 : Int32) = iI 2 from rfl, show (3 : Int32) = iI 3 from rfl, iI_add, iI_add, iI_add, chk_iI (by omega) (by omega), chk_iI (by omega) (by omega), chk_iI (by omega) (by omega), chk_iI (by omega) (by omega), iI_clamp (by omega) (by omega), iI_clamp (by omega) (by omega), iI_clamp (by omega) (by omega), iI_clamp (by omega) (by omega)]
  have e : ∀ i, i < xs.length → f i &&& 255 = rd xs i := fun i hi => by rw [(h3 i hi).2, hb_and (h3 i hi).1]; rfl
  rw [show ((p : Int)).toNat = p by omega, show ((p : Int) + 1).toNat = p + 1 by omega, show ((p : Int) + 2).toNat = p + 2 by omega, show ((p : Int) + 3).toNat = p + 3 by omega, e p (by omega), e (p + 1) (by omega), e (p + 2) (by omega), e (p + 3) (by omega)]
  rfl
theorem s_four {N : Nat} {c : Int32} {f : Nat → Int32} {xs : List Int} (h : MR c f xs) (hN : N < 1073741824) {p : Nat} (hp : p + 4 ≤ xs.length) (hl : xs.length ≤ N) : m_Mo_four (iI p) N f = some (n4 (rd xs) p) := by
  obtain ⟨h1, h3⟩ := h
  unfold m_Mo_four
  rw [show (1 : Int32) = iI 1 from rfl, show (2 : Int32) = iI 2 from rfl, show (3 : Int32) = iI 3 from rfl, iI_add, iI_add, iI_add, chk_iI (by omega) (by omega), chk_iI (by omega) (by omega), chk_iI (by omega) (by omega), chk_iI (by omega) (by omega), iI_clamp (by omega) (by omega), iI_clamp (by omega) (by omega), iI_clamp (by omega) (by omega), iI_clamp (by omega) (by omega)]
  have e : ∀ i, i < xs.length → f i = rd xs i := fun i hi => (h3 i hi).2
  rw [show ((p : Int)).toNat = p by omega, show ((p : Int) + 1).toNat = p + 1 by omega, show ((p : Int) + 2).toNat = p + 2 by omega, show ((p : Int) + 3).toNat = p + 3 by omega, e p (by omega), e (p + 1) (by omega), e (p + 2) (by omega), e (p + 3) (by omega)]
  rfl
theorem s_sixteens {N : Nat} {cnt : Int32} {f : Nat → Int32} {xs : List Int} (h : BR N cnt f xs) (hN : N < 1048576) {p w : Nat} (hp : p + 16 * w ≤ xs.length) : m_Sums_sixteens (iI p) (iI (16 * w : Nat)) cnt N f = some (((tn (m16 (rd xs) p 606290984 w) 1 + tn (m16 (rd xs) (p + 4) (-2048144777) w) 7) + tn (m16 (rd xs) (p + 8) 0 w) 12) + tn (m16 (rd xs) (p + 12) 1640531535 w) 18) := by
  have hl := h.2.1
  unfold m_Sums_sixteens
  rw [iter_cnt (st := fun k => (m16 (rd xs) p 606290984 k, m16 (rd xs) (p + 4) (-2048144777) k, m16 (rd xs) (p + 8) 0 k, m16 (rd xs) (p + 12) 1640531535 k, iI ((p + 16 * k : Nat) : Int))) (n := w) (x := (m16 (rd xs) p 606290984 w, m16 (rd xs) (p + 4) (-2048144777) w, m16 (rd xs) (p + 8) 0 w, m16 (rd xs) (p + 12) 1640531535 w)) ?_ ?_ ?_ (by omega)]
  · rfl
  · rfl
  · intro k hk
    unfold m_Sums_sixteens_B17
    dsimp only
    rw [iI_add, if_leF (by omega) (by omega) (by omega), show (4 : Int32) = iI 4 from rfl, show (8 : Int32) = iI 8 from rfl, show (12 : Int32) = iI 12 from rfl, show (16 : Int32) = iI 16 from rfl, iI_add, iI_add, iI_add, iI_add]
    have e0 := s_n32 h (by omega) (p := p + 16 * k) (by omega)
    have e1 := s_n32 h (by omega) (p := p + 4 + 16 * k) (by omega)
    have e2 := s_n32 h (by omega) (p := p + 8 + 16 * k) (by omega)
    have e3 := s_n32 h (by omega) (p := p + 12 + 16 * k) (by omega)
    rw [show ((p + 4 + 16 * k : Nat) : Int) = ((p + 16 * k : Nat) : Int) + 4 by omega] at e1
    rw [show ((p + 8 + 16 * k : Nat) : Int) = ((p + 16 * k : Nat) : Int) + 8 by omega] at e2
    rw [show ((p + 12 + 16 * k : Nat) : Int) = ((p + 16 * k : Nat) : Int) + 12 by omega] at e3
    rw [e0, e1, e2, e3]
    simp only [Option.bind_some, s_mx, bnd]
    rw [show ((p + 16 * k : Nat) : Int) + 16 = ((p + 16 * (k + 1) : Nat) : Int) by omega]
    rfl
  · unfold m_Sums_sixteens_B17
    dsimp only
    rw [iI_add, if_leT (by omega) (by omega) (by omega)]
theorem s_tail {N : Nat} {cnt : Int32} {f : Nat → Int32} {xs : List Int} (h : BR N cnt f xs) (hN : N < 1048576) {p n w : Nat} (hp : p + n ≤ xs.length) (hw : w + n % 16 = n) (s : Int32) : m_Sums_sumOf_J32 (iI p) (iI n) cnt N f (iI w) s = some (smE (sm1 (rd xs) (p + n - n % 4) (sm4 (rd xs) (p + n - n % 16) (s + iI n) (n % 16 / 4)) (n % 4))) := by
  have hl := h.2.1
  unfold m_Sums_sumOf_J32
  simp only [bnd]
  rw [iI_add, iI_add]
  rw [iter_cnt (st := fun k => (sm4 (rd xs) (p + n - n % 16) (s + iI n) k, iI ((p + n - n % 16 + 4 * k : Nat) : Int))) (n := n % 16 / 4) (x := (sm4 (rd xs) (p + n - n % 16) (s + iI n) (n % 16 / 4), iI ((p + n - n % 4 : Nat) : Int))) ?_ ?_ ?_ (by omega)]
  · simp only [Option.bind_some]
    unfold m_Sums_sumOf_E83
    rw [iter_cnt (st := fun k => (sm1 (rd xs) (p + n - n % 4) (sm4 (rd xs) (p + n - n % 16) (s + iI n) (n % 16 / 4)) k, iI ((p + n - n % 4 + k : Nat) : Int))) (n := n % 4) (x := sm1 (rd xs) (p + n - n % 4) (sm4 (rd xs) (p + n - n % 16) (s + iI n) (n % 16 / 4)) (n % 4)) ?_ ?_ ?_ (by omega)]
    · rfl
    · rfl
    · intro k hk
      unfold m_Sums_sumOf_B83
      dsimp only
      rw [if_leF (by omega) (by omega) (by omega), s_at h (by omega) (by omega), if_pos (by omega)]
      simp only [Option.bind_some, s_tn, bnd]
      rw [show (1 : Int32) = iI 1 from rfl, iI_add, show ((p + n - n % 4 + k : Nat) : Int) + 1 = ((p + n - n % 4 + (k + 1) : Nat) : Int) by omega, Int.toNat_natCast]
      rfl
    · unfold m_Sums_sumOf_B83
      dsimp only
      rw [if_leT (by omega) (by omega) (by omega)]
  · show (s + iI n, iI ((p : Int) + (w : Int))) = (s + iI n, iI ((p + n - n % 16 + 4 * 0 : Nat) : Int))
    rw [show ((p : Int) + (w : Int)) = ((p + n - n % 16 + 4 * 0 : Nat) : Int) by omega]
  · intro k hk
    unfold m_Sums_sumOf_B46
    dsimp only
    rw [iI_sub, show (4 : Int32) = iI 4 from rfl, if_ltF (by omega) (by omega) (by omega), s_n32 h (by omega) (by omega)]
    simp only [Option.bind_some, s_tn, bnd]
    rw [iI_add, show ((p + n - n % 16 + 4 * k : Nat) : Int) + 4 = ((p + n - n % 16 + 4 * (k + 1) : Nat) : Int) by omega]
    rfl
  · unfold m_Sums_sumOf_B46
    dsimp only
    rw [iI_sub, show (4 : Int32) = iI 4 from rfl, if_ltT (by omega) (by omega) (by omega), show p + n - n % 16 + 4 * (n % 16 / 4) = p + n - n % 4 by omega]
theorem s_sumOf {N : Nat} {cnt : Int32} {f : Nat → Int32} {xs : List Int} (h : BR N cnt f xs) (hN : N < 1048576) {p n : Nat} (hp : p + n ≤ xs.length) : m_Sums_sumOf (iI p) (iI n) cnt N f = some (sumS (rd xs) p n) := by
  have hl := h.2.1
  unfold m_Sums_sumOf m_Sums_sumOf_J16
  rw [show (16 : Int32) = iI 16 from rfl, iI_rem (by omega) (by omega), iI_sub]
  unfold sumS smH
  by_cases c : n < 16
  · rw [if_ltT (by omega) (by omega) (by omega), if_pos (by decide), if_pos c]
    have e := s_tail h hN (w := 0) hp (by omega) 374761393
    rw [show iI ((0 : Nat) : Int) = (0 : Int32) from rfl] at e
    rw [e]
  · rw [if_ltF (by omega) (by omega) (by omega), if_le0F (by omega) (by omega), if_neg c, show ((n : Int) - (n : Int) % 16) = ((16 * (n / 16) : Nat) : Int) by omega, s_sixteens h hN (by omega)]
    rw [Option.bind_some, s_tail h hN (w := 16 * (n / 16)) hp (by omega)]
/-! the reference's -/
theorem t_tail {N : Nat} {c : Int32} {f : Nat → Int32} {xs : List Int} (h : MR c f xs) (hN : N < 1048576) (hl : xs.length ≤ N) {p n w : Nat} (hp : p + n ≤ xs.length) (hw : w + n % 16 = n) (s : Int32) : m_Mo_sumOf_J171 (iI n) N f (iI ((p + n : Nat) : Int)) (iI ((p + w : Nat) : Int)) s = some (smE (sm1 (rd xs) (p + n - n % 4) (sm4 (rd xs) (p + n - n % 16) (s + iI n) (n % 16 / 4)) (n % 4))) := by
  unfold m_Mo_sumOf_J171
  simp only [bnd]
  rw [iter_cnt (st := fun k => (iI ((p + n - n % 16 + 4 * k : Nat) : Int), sm4 (rd xs) (p + n - n % 16) (s + iI n) k)) (n := n % 16 / 4) (x := (iI ((p + n - n % 4 : Nat) : Int), sm4 (rd xs) (p + n - n % 16) (s + iI n) (n % 16 / 4))) ?_ ?_ ?_ (by omega)]
  · simp only [Option.bind_some]
    unfold m_Mo_sumOf_E212
    rw [iter_cnt (st := fun k => (iI ((p + n - n % 4 + k : Nat) : Int), sm1 (rd xs) (p + n - n % 4) (sm4 (rd xs) (p + n - n % 16) (s + iI n) (n % 16 / 4)) k)) (n := n % 4) (x := sm1 (rd xs) (p + n - n % 4) (sm4 (rd xs) (p + n - n % 16) (s + iI n) (n % 16 / 4)) (n % 4)) ?_ ?_ ?_ (by omega)]
    · rfl
    · rfl
    · intro k hk
      unfold m_Mo_sumOf_B212
      dsimp only
      rw [if_leF (by omega) (by omega) (by omega), chk_iI (by omega) (by omega), iI_clamp (by omega) (by omega), Int.toNat_natCast, (h.2 _ (by omega)).2]
      simp only [Option.bind_some, s_tn2, bnd]
      rw [show (1 : Int32) = iI 1 from rfl, iI_add, show ((p + n - n % 4 + k : Nat) : Int) + 1 = ((p + n - n % 4 + (k + 1) : Nat) : Int) by omega]
      rfl
    · unfold m_Mo_sumOf_B212
      dsimp only
      rw [if_leT (by omega) (by omega) (by omega)]
  · show (iI ((p + w : Nat) : Int), s + iI n) = (iI ((p + n - n % 16 + 4 * 0 : Nat) : Int), s + iI n)
    rw [show p + w = p + n - n % 16 + 4 * 0 by omega]
  · intro k hk
    unfold m_Mo_sumOf_B177
    dsimp only
    rw [iI_sub, show (4 : Int32) = iI 4 from rfl, if_ltF (by omega) (by omega) (by omega), s_four h (by omega) (by omega) hl]
    simp only [Option.bind_some, s_tn2, bnd]
    rw [iI_add, show ((p + n - n % 16 + 4 * k : Nat) : Int) + 4 = ((p + n - n % 16 + 4 * (k + 1) : Nat) : Int) by omega]
    rfl
  · unfold m_Mo_sumOf_B177
    dsimp only
    rw [iI_sub, show (4 : Int32) = iI 4 from rfl, if_ltT (by omega) (by omega) (by omega), show p + n - n % 16 + 4 * (n % 16 / 4) = p + n - n % 4 by omega]
theorem t_16 {N : Nat} {c : Int32} {f : Nat → Int32} {xs : List Int} (h : MR c f xs) (hN : N < 1048576) (hl : xs.length ≤ N) {p n : Nat} (hp : p + n ≤ xs.length) (v w x y : Int32) : iter (fun st => m_Mo_sumOf_B32 N f (iI ((p : Int) + (n : Int))) st.1 st.2.1 st.2.2.1 st.2.2.2.1 st.2.2.2.2) FU (iI p, v, w, x, y) = some (iI ((p + 16 * (n / 16) : Nat) : Int), m16 (rd xs) p v (n / 16), m16 (rd xs) (p + 4) w (n / 16), m16 (rd xs) (p + 8) x (n / 16), m16 (rd xs) (p + 12) y (n / 16)) := by
  refine iter_cnt (st := fun k => (iI ((p + 16 * k : Nat) : Int), m16 (rd xs) p v k, m16 (rd xs) (p + 4) w k, m16 (rd xs) (p + 8) x k, m16 (rd xs) (p + 12) y k)) (n := n / 16) _ ?_ ?_ ?_ (by omega)
  · rfl
  · intro k hk
    unfold m_Mo_sumOf_B32
    dsimp only
    rw [iI_sub, show (16 : Int32) = iI 16 from rfl, if_ltF (by omega) (by omega) (by omega), show (4 : Int32) = iI 4 from rfl, show (8 : Int32) = iI 8 from rfl, show (12 : Int32) = iI 12 from rfl, iI_add, iI_add, iI_add, iI_add]
    have e0 := s_four h (by omega) (p := p + 16 * k) (by omega) hl
    have e1 := s_four h (by omega) (p := p + 4 + 16 * k) (by omega) hl
    have e2 := s_four h (by omega) (p := p + 8 + 16 * k) (by omega) hl
    have e3 := s_four h (by omega) (p := p + 12 + 16 * k) (by omega) hl
    rw [show ((p + 4 + 16 * k : Nat) : Int) = ((p + 16 * k : Nat) : Int) + 4 by omega] at e1
    rw [show ((p + 8 + 16 * k : Nat) : Int) = ((p + 16 * k : Nat) : Int) + 8 by omega] at e2
    rw [show ((p + 12 + 16 * k : Nat) : Int) = ((p + 16 * k : Nat) : Int) + 12 by omega] at e3
    rw [e0, Option.bind_some, s_tn2, Option.bind_some, bnd_eq, mx_eq, e1, Option.bind_some, s_tn2, Option.bind_some, bnd_eq, mx_eq, e2, Option.bind_some, s_tn2, Option.bind_some, bnd_eq, mx_eq, e3, Option.bind_some, s_tn2, Option.bind_some, bnd_eq, mx_eq, bnd_eq, ← m16_s, ← m16_s, ← m16_s, ← m16_s, show ((p + 16 * k : Nat) : Int) + 16 = ((p + 16 * (k + 1) : Nat) : Int) by omega]
  · unfold m_Mo_sumOf_B32
    dsimp only
    rw [iI_sub, show (16 : Int32) = iI 16 from rfl, if_ltT (by omega) (by omega) (by omega)]
theorem t_sumOf {N : Nat} {c : Int32} {f : Nat → Int32} {xs : List Int} (h : MR c f xs) (hN : N < 1048576) (hl : xs.length ≤ N) {p n : Nat} (hp : p + n ≤ xs.length) : m_Mo_sumOf (iI p) (iI n) N f = some (sumS (rd xs) p n) := by
  unfold m_Mo_sumOf
  rw [bnd_eq, show (16 : Int32) = iI 16 from rfl, iI_add, t_16 h hN hl hp]
  unfold sumS smH
  by_cases q : n < 16
  · rw [if_ltT (by omega) (by omega) (by omega), if_pos q]
    have e := t_tail h hN hl (w := 0) hp (by omega) 374761393
    rw [show ((p + 0 : Nat) : Int) = (p : Int) by omega, show ((p + n : Nat) : Int) = (p : Int) + (n : Int) by omega] at e
    rw [e]
  · rw [if_ltF (by omega) (by omega) (by omega), if_neg q, Option.bind_some]
    unfold m_Mo_sumOf_E139
    rw [s_tn2, Option.bind_some, s_tn2, Option.bind_some, s_tn2, Option.bind_some, s_tn2, Option.bind_some, bnd_eq]
    have e := t_tail h hN hl (w := 16 * (n / 16)) hp (by omega) (((tn (m16 (rd xs) p 606290984 (n / 16)) 1 + tn (m16 (rd xs) (p + 4) (-2048144777) (n / 16)) 7) + tn (m16 (rd xs) (p + 8) 0 (n / 16)) 12) + tn (m16 (rd xs) (p + 12) 1640531535 (n / 16)) 18)
    rw [show ((p + n : Nat) : Int) = (p : Int) + (n : Int) by omega] at e
    rw [e]
