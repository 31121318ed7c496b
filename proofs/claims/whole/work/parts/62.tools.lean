/-! rows of blocks, numbers that are changed, sums of stretches -/
theorem lit_6 : (6 : Int32) = iI 6 := by decide
theorem lit_1000 : (1000 : Int32) = iI 1000 := by decide
def FC (k : Nat) (cnt : Int32) (F : Nat → Int32) (fl : List Int32) : Prop := cnt = iI k ∧ fl.length = 7 * k ∧ ∀ j, j < 7 * k → F j = fl.getD j 0
theorem FC.nil (F : Nat → Int32) : FC 0 0 F [] := ⟨rfl, rfl, fun j h => absurd h (by omega)⟩
theorem fd_l {xs ys : List Int32} {j : Nat} (h : j < xs.length) : (xs ++ ys).getD j 0 = xs.getD j 0 := by
  simp only [List.getD_eq_getElem?_getD]
  rw [List.getElem?_append_left h]
theorem fd_r {xs ys : List Int32} {j : Nat} (h : xs.length ≤ j) : (xs ++ ys).getD j 0 = ys.getD (j - xs.length) 0 := by
  simp only [List.getD_eq_getElem?_getD]
  rw [List.getElem?_append_right h]
theorem FC.push {k : Nat} {cnt : Int32} {F : Nat → Int32} {fl : List Int32} (h : FC k cnt F fl) (a1 a2 a3 a4 a5 a6 a7 : Int32) : FC (k + 1) (iI ((k : Int) + 1)) (upd (upd (upd (upd (upd (upd (upd F (7 * k) a1) (7 * k + 1) a2) (7 * k + 2) a3) (7 * k + 3) a4) (7 * k + 4) a5) (7 * k + 5) a6) (7 * k + 6) a7) (fl ++ [a1, a2, a3, a4, a5, a6, a7]) := by
  obtain ⟨h1, h2, h3⟩ := h
  refine ⟨rfl, by rw [List.length_append, h2]; show 7 * k + 7 = _; omega, fun j hj => ?_⟩
  by_cases c : j < 7 * k
  · rw [fd_l (by omega), pk_un (by omega), pk_un (by omega), pk_un (by omega), pk_un (by omega), pk_un (by omega), pk_un (by omega), pk_un (by omega)]
    exact h3 j c
  · rw [fd_r (by omega), h2]
    obtain ⟨i, hi, hi7⟩ : ∃ i, j = 7 * k + i ∧ i < 7 := ⟨j - 7 * k, by omega, by omega⟩
    subst hi
    rw [show 7 * k + i - 7 * k = i by omega]
    rcases (show i = 0 ∨ i = 1 ∨ i = 2 ∨ i = 3 ∨ i = 4 ∨ i = 5 ∨ i = 6 by omega) with rfl | rfl | rfl | rfl | rfl | rfl | rfl
    · rw [pk_un (by omega), pk_un (by omega), pk_un (by omega), pk_un (by omega), pk_un (by omega), pk_un (by omega)]; exact pk_us
    · rw [pk_un (by omega), pk_un (by omega), pk_un (by omega), pk_un (by omega), pk_un (by omega)]; exact pk_us
    · rw [pk_un (by omega), pk_un (by omega), pk_un (by omega), pk_un (by omega)]; exact pk_us
    · rw [pk_un (by omega), pk_un (by omega), pk_un (by omega)]; exact pk_us
    · rw [pk_un (by omega), pk_un (by omega)]; exact pk_us
    · rw [pk_un (by omega)]; exact pk_us
    · exact pk_us
theorem s_addRow {k : Nat} {cnt : Int32} {F : Nat → Int32} {fl : List Int32} (h : FC k cnt F fl) (hk : k < 1000) (a1 a2 a3 a4 a5 a6 a7 : Int32) : ok (m_Blocks_addRow a1 a2 a3 a4 a5 a6 a7 cnt 7000 F) (fun o => FC (k + 1) o.1 o.2 (fl ++ [a1, a2, a3, a4, a5, a6, a7])) := by
  have h2 := h.push a1 a2 a3 a4 a5 a6 a7
  rw [h.1]
  unfold m_Blocks_addRow
  generalize hz : (a1, a2, a3, a4, a5, a6, a7) = z
  rw [lit_1000, if_leF (by omega) (by omega) (by omega), lit_7, iI_mul, bnd_eq, show (k : Int) * 7 = ((7 * k : Nat) : Int) by omega, chk_iI (by omega) (by omega), lit_1, iI_add, chk_iI (by omega) (by omega), lit_2, iI_add, chk_iI (by omega) (by omega), lit_3, iI_add, chk_iI (by omega) (by omega), lit_4, iI_add, chk_iI (by omega) (by omega), lit_5, iI_add, chk_iI (by omega) (by omega), lit_6, iI_add, chk_iI (by omega) (by omega), bnd_eq, iI_add, iI_clamp (by omega) (by omega), iI_clamp (by omega) (by omega), iI_clamp (by omega) (by omega), iI_clamp (by omega) (by omega), iI_clamp (by omega) (by omega), iI_clamp (by omega) (by omega), iI_clamp (by omega) (by omega), show (((7 * k : Nat) : Int) + 1).toNat = 7 * k + 1 by omega, show (((7 * k : Nat) : Int) + 2).toNat = 7 * k + 2 by omega, show (((7 * k : Nat) : Int) + 3).toNat = 7 * k + 3 by omega, show (((7 * k : Nat) : Int) + 4).toNat = 7 * k + 4 by omega, show (((7 * k : Nat) : Int) + 5).toNat = 7 * k + 5 by omega, show (((7 * k : Nat) : Int) + 6).toNat = 7 * k + 6 by omega, Int.toNat_natCast]
  exact ok_some h2
theorem s_addPacked {k : Nat} {cnt : Int32} {F : Nat → Int32} {fl : List Int32} (h : FC k cnt F fl) (hk : k < 1000) (a1 a2 a3 a4 a5 a6 : Int32) : ok (m_Blocks_addPacked a1 a2 a3 a4 a5 a6 cnt 7000 F) (fun o => FC (k + 1) o.1 o.2 (fl ++ [a1, a2, a3, 0, a4, a5, a6])) := by
  unfold m_Blocks_addPacked
  exact ok_bind (s_addRow h hk a1 a2 a3 0 a4 a5 a6) (fun o ho => ok_some ho)
theorem s_addRaw {k : Nat} {cnt : Int32} {F : Nat → Int32} {fl : List Int32} (h : FC k cnt F fl) (hk : k < 1000) (a1 a2 : Int32) : ok (m_Blocks_addRaw a1 a2 cnt 7000 F) (fun o => FC (k + 1) o.1 o.2 (fl ++ [a1, a2, a2, 1, 0, a2, 0])) := by
  unfold m_Blocks_addRaw
  exact ok_bind (s_addRow h hk a1 a2 a2 1 0 a2 0) (fun o ho => ok_some ho)
theorem t_noteJ {k : Nat} {F : Nat → Int32} {fl : List Int32} (h : FC k (iI k) F fl) (hk : k < 4000) (a1 a2 a3 a4 a5 a6 a7 : Int32) : ok (m_Mo_note_J122 a1 a2 a3 (iI k) 28070 F (iI ((7 * k : Nat) : Int)) a4 a5 a6 a7) (fun o => FC (k + 1) o.1 o.2 (fl ++ [a1, a2, a3, a4, a5, a6, a7])) := by
  have h2 := h.push a1 a2 a3 a4 a5 a6 a7
  unfold m_Mo_note_J122
  rw [lit_1, iI_add, lit_2, iI_add, lit_3, iI_add, lit_4, iI_add, lit_5, iI_add, lit_6, iI_add, chk_iI (by omega) (by omega), bnd_eq, iI_add, iI_clamp (by omega) (by omega), iI_clamp (by omega) (by omega), iI_clamp (by omega) (by omega), iI_clamp (by omega) (by omega), iI_clamp (by omega) (by omega), iI_clamp (by omega) (by omega), iI_clamp (by omega) (by omega), show (((7 * k : Nat) : Int) + 1).toNat = 7 * k + 1 by omega, show (((7 * k : Nat) : Int) + 2).toNat = 7 * k + 2 by omega, show (((7 * k : Nat) : Int) + 3).toNat = 7 * k + 3 by omega, show (((7 * k : Nat) : Int) + 4).toNat = 7 * k + 4 by omega, show (((7 * k : Nat) : Int) + 5).toNat = 7 * k + 5 by omega, show (((7 * k : Nat) : Int) + 6).toNat = 7 * k + 6 by omega, Int.toNat_natCast]
  exact ok_some h2
theorem t_note {k : Nat} {cnt : Int32} {F : Nat → Int32} {fl : List Int32} (h : FC k cnt F fl) (hk : k < 4000) (a1 a2 a3 c l p : Int32) (raw : Bool) : ok (m_Mo_note a1 a2 a3 (if raw = true then 1 else 0) c l p cnt 28070 F) (fun o => FC (k + 1) o.1 o.2 (fl ++ (if raw = true then [a1, a2, a3, 1, 0, a3, 0] else [a1, a2, a3, 0, c, l, p]))) := by
  have h1 := h.1
  subst h1
  have hc : ∀ {β : Type} (i : Nat) (kk : Option β), i ≤ 6 → chk (iI ((7 * k : Nat) : Int) + iI i) 28070 kk = kk := by
    intro β i kk hi
    rw [iI_add, chk_iI (by omega) (by omega)]
  unfold m_Mo_note m_Mo_note_J55 m_Mo_note_J77 m_Mo_note_J99
  rw [lit_7, iI_mul, bnd_eq, show (7 : Int) * (k : Int) = ((7 * k : Nat) : Int) by omega, chk_iI (by omega) (by omega), show (1 : Int32) = iI ((1 : Nat) : Int) from rfl, show (2 : Int32) = iI ((2 : Nat) : Int) from rfl, show (3 : Int32) = iI ((3 : Nat) : Int) from rfl, show (4 : Int32) = iI ((4 : Nat) : Int) from rfl, show (5 : Int32) = iI ((5 : Nat) : Int) from rfl]
  simp only [hc _ _ (show 1 ≤ 6 by omega), hc _ _ (show 2 ≤ 6 by omega), hc _ _ (show 3 ≤ 6 by omega), hc _ _ (show 4 ≤ 6 by omega), hc _ _ (show 5 ≤ 6 by omega)]
  cases raw
  · rw [if_neg (show ¬ (false = true) by decide), if_pos rfl, if_pos rfl, if_pos rfl, if_pos rfl, if_neg (show ¬ (false = true) by decide)]
    exact t_noteJ h hk a1 a2 a3 0 c l p
  · rw [if_pos rfl, if_neg (show ¬ iI ((1 : Nat) : Int) = 0 by decide), if_neg (show ¬ iI ((1 : Nat) : Int) = 0 by decide), if_neg (show ¬ iI ((1 : Nat) : Int) = 0 by decide), if_neg (show ¬ iI ((1 : Nat) : Int) = 0 by decide), if_pos rfl]
    exact t_noteJ h hk a1 a2 a3 1 0 a3 0
/-! a byte that is changed -/
theorem gd_set {P R : List Int} {x b : Int} {j : Nat} : (P ++ b :: R).getD j 0 = if j = P.length then b else (P ++ x :: R).getD j 0 := by
  by_cases c : j = P.length
  · rw [if_pos c, c, gd_r (Nat.le_refl _), Nat.sub_self]
    rfl
  · rw [if_neg c]
    by_cases c2 : j < P.length
    · rw [gd_l c2, gd_l c2]
    · rw [gd_r (by omega), gd_r (by omega)]
      obtain ⟨i, hi⟩ : ∃ i, j - P.length = i + 1 := ⟨j - P.length - 1, by omega⟩
      rw [hi]
      rfl
theorem len_set {P R : List Int} {x b : Int} : (P ++ b :: R).length = (P ++ x :: R).length := by
  rw [List.length_append, List.length_append]
  rfl
theorem BR.set {N : Nat} {cnt : Int32} {f : Nat → Int32} {P R : List Int} {x b : Int} (h : BR N cnt f (P ++ x :: R)) (hb' : 0 ≤ b ∧ b < 256) : BR N cnt (upd f P.length (hb b)) (P ++ b :: R) := by
  obtain ⟨h1, h2, h3⟩ := h
  rw [← len_set (b := b)] at h1 h2 h3
  refine ⟨h1, h2, fun j hj => ?_⟩
  rw [gd_set (x := x)]
  by_cases c : j = P.length
  · rw [if_pos c, c, pk_us]
    exact ⟨hb', rfl⟩
  · rw [if_neg c, pk_un c]
    exact h3 j hj
theorem MR.set {cnt : Int32} {f : Nat → Int32} {P R : List Int} {x b : Int} (h : MR cnt f (P ++ x :: R)) (hb' : 0 ≤ b ∧ b < 256) : MR cnt (upd f P.length (iI b)) (P ++ b :: R) := by
  obtain ⟨h1, h3⟩ := h
  rw [← len_set (b := b)] at h1 h3
  refine ⟨h1, fun j hj => ?_⟩
  rw [gd_set (x := x)]
  by_cases c : j = P.length
  · rw [if_pos c, c, pk_us]
    exact ⟨hb', rfl⟩
  · rw [if_neg c, pk_un c]
    exact h3 j hj
theorem drop_s {A : List Int} {j : Nat} (h : j < A.length) : A.drop j = A.getD j 0 :: A.drop (j + 1) := by
  rw [List.drop_eq_getElem_cons h, List.getD_eq_getElem?_getD, List.getElem?_eq_getElem h]
  rfl
theorem s_change {N : Nat} {cnt : Int32} {f : Nat → Int32} {P A R : List Int} (h : BR N cnt f (P ++ (A ++ R))) (hN : N < 1048576) (z : Int) {k : Nat} (hk : A.length = k) (hk8 : k ≤ 8) : ok (m_Bytes_changeNumber (iI P.length) (jI z) (iI k) cnt N f) (fun f' => BR N cnt f' (P ++ (le z k ++ R))) := by
  have hl := h.2.1
  have hlen : (P ++ (A ++ R)).length = P.length + k + R.length := by rw [List.length_append, List.length_append]; omega
  have hcnt := h.1
  unfold m_Bytes_changeNumber
  refine ok_bind (Q := fun f' => BR N cnt f' (P ++ (le z k ++ R))) ?_ (fun o ho => ok_some ho)
  refine ok_loop (fun j s => s.2 = iI j ∧ BR N cnt s.1 (P ++ le z j ++ (A.drop j ++ R))) k (by omega) ⟨rfl, by show BR N cnt f (P ++ [] ++ (A.drop 0 ++ R)); rw [List.append_nil]; exact h⟩ ?_
  rintro j ⟨s1, s2⟩ hj ⟨e1, e2⟩
  dsimp only at e1 e2
  subst e1
  unfold m_Bytes_changeNumber_B3 m_Bytes_changeNumber_J46
  dsimp only
  by_cases c : k ≤ j
  · simp (disch := omega) only [bnd_eq, Option.bind_some, lit_0, lit_1, lit_m1, lit_4, lit_5000, iI_nI, iI_add, iI_sub, iI_mul, iI_neg, chk_iI, iI_clamp, iI_lt, iI_le, iI_eq, if_pos, if_neg, if_true, if_false, Int.toNat_natCast]
    refine ok_end ?_
    have : j = k := by omega
    subst this
    rw [List.drop_eq_nil_of_le (by omega), List.nil_append, List.append_assoc] at e2
    exact e2
  · have hu := u_byte z j (by omega)
    rw [drop_s (by omega)] at e2
    rw [hcnt]
    rw [if_leF (by omega) (by omega) (by omega), iI_add, bnd_eq, if_lt0F (by omega) (by omega), if_leF (by omega) (by omega) (by omega), chk_iI (by omega) (by omega), bnd_eq, hu, iI_clamp (by omega) (by omega), show ((P.length : Int) + (j : Int)).toNat = (P ++ le z j).length by rw [List.length_append, le_len]; omega, lit_1, iI_add]
    refine ok_go ⟨j + 1, by omega, by omega, rfl, ?_⟩
    have := e2.set (lb_in z j)
    dsimp only
    rw [← hcnt, le_s, ← List.append_assoc P (le z j), List.append_assoc (P ++ le z j)]
    exact this
theorem t_change {N : Nat} {cnt : Int32} {f : Nat → Int32} {P A R : List Int} (h : MR cnt f (P ++ (A ++ R))) (hN : N < 1048576) (hl : (P ++ (A ++ R)).length ≤ N) {z : Int} (hz : -9223372036854775808 ≤ z ∧ z < 9223372036854775808) (hk : A.length = 4) : ok (iter (fun st => m_Mo_frame_B330 N (iI P.length) (jI z) st.1 st.2) FU (f, 0)) (fun f' => MR cnt f' (P ++ (le z 4 ++ R))) := by
  have hlen : (P ++ (A ++ R)).length = P.length + 4 + R.length := by rw [List.length_append, List.length_append]; omega
  refine ok_loop (fun j s => s.2 = iI j ∧ MR cnt s.1 (P ++ le z j ++ (A.drop j ++ R))) 4 (by omega) ⟨rfl, by show MR cnt f (P ++ [] ++ (A.drop 0 ++ R)); rw [List.append_nil]; exact h⟩ ?_
  rintro j ⟨s1, s2⟩ hj ⟨e1, e2⟩
  dsimp only at e1 e2
  subst e1
  unfold m_Mo_frame_B330
  dsimp only
  by_cases c : 4 ≤ j
  · simp (disch := omega) only [bnd_eq, Option.bind_some, lit_0, lit_1, lit_m1, lit_4, lit_5000, iI_nI, iI_add, iI_sub, iI_mul, iI_neg, chk_iI, iI_clamp, iI_lt, iI_le, iI_eq, if_pos, if_neg, if_true, if_false, Int.toNat_natCast]
    refine ok_end ?_
    have : j = 4 := by omega
    subst this
    rw [List.drop_eq_nil_of_le (by omega), List.nil_append, List.append_assoc] at e2
    exact e2
  · have hu := s_byte hz j (by omega)
    rw [drop_s (by omega)] at e2
    rw [lit_4, if_leF (by omega) (by omega) (by omega), iI_add, chk_iI (by omega) (by omega), bnd_eq, hu, iI_clamp (by omega) (by omega), show ((P.length : Int) + (j : Int)).toNat = (P ++ le z j).length by rw [List.length_append, le_len]; omega, lit_1, iI_add]
    refine ok_go ⟨j + 1, by omega, by omega, rfl, ?_⟩
    have := e2.set (lb_in z j)
    dsimp only
    rw [le_s, ← List.append_assoc P (le z j), List.append_assoc (P ++ le z j)]
    exact this
/-! sums of stretches -/
theorem n4_cg {g g' : Nat → Int32} {p p' n i : Nat} (h : ∀ j, j < n → g (p + j) = g' (p' + j)) (hi : i + 4 ≤ n) : n4 g (p + i) = n4 g' (p' + i) := by
  unfold n4
  rw [h i (by omega), show p + i + 1 = p + (i + 1) by omega, show p + i + 2 = p + (i + 2) by omega, show p + i + 3 = p + (i + 3) by omega, h (i + 1) (by omega), h (i + 2) (by omega), h (i + 3) (by omega)]
  rfl
theorem m16_cg {g g' : Nat → Int32} {p p' n i : Nat} (h : ∀ j, j < n → g (p + j) = g' (p' + j)) (v : Int32) : ∀ k : Nat, i + 16 * k ≤ n + 12 → i ≤ 12 → m16 g (p + i) v k = m16 g' (p' + i) v k
  | 0, _, _ => rfl
  | k + 1, hk, hi => by
    rw [m16, m16, m16_cg h v k (by omega) hi, show p + i + 16 * k = p + (i + 16 * k) by omega, show p' + i + 16 * k = p' + (i + 16 * k) by omega, n4_cg h (by omega)]
theorem sm4_cg {g g' : Nat → Int32} {p p' n i : Nat} (h : ∀ j, j < n → g (p + j) = g' (p' + j)) (v : Int32) : ∀ k : Nat, i + 4 * k ≤ n → sm4 g (p + i) v k = sm4 g' (p' + i) v k
  | 0, _ => rfl
  | k + 1, hk => by
    rw [sm4, sm4, sm4_cg h v k (by omega), show p + i + 4 * k = p + (i + 4 * k) by omega, show p' + i + 4 * k = p' + (i + 4 * k) by omega, n4_cg h (by omega)]
theorem sm1_cg {g g' : Nat → Int32} {p p' n i : Nat} (h : ∀ j, j < n → g (p + j) = g' (p' + j)) (v : Int32) : ∀ k : Nat, i + k ≤ n → sm1 g (p + i) v k = sm1 g' (p' + i) v k
  | 0, _ => rfl
  | k + 1, hk => by
    rw [sm1, sm1, sm1_cg h v k (by omega), show p + i + k = p + (i + k) by omega, show p' + i + k = p' + (i + k) by omega, h (i + k) (by omega)]
theorem sumS_cg {g g' : Nat → Int32} {p p' n : Nat} (h : ∀ j, j < n → g (p + j) = g' (p' + j)) : sumS g p n = sumS g' p' n := by
  unfold sumS smH
  rw [show p + n - n % 4 = p + (n - n % 4) by omega, show p' + n - n % 4 = p' + (n - n % 4) by omega, show p + n - n % 16 = p + (n - n % 16) by omega, show p' + n - n % 16 = p' + (n - n % 16) by omega]
  by_cases c : n < 16
  · rw [if_pos c, if_pos c, sm4_cg h _ _ (by omega), sm1_cg h _ _ (by omega)]
  · rw [if_neg c, if_neg c]
    have e0 := m16_cg (i := 0) h 606290984 (n / 16) (by omega) (by omega)
    rw [Nat.add_zero, Nat.add_zero] at e0
    rw [e0, m16_cg h _ _ (by omega) (by omega), m16_cg h _ _ (by omega) (by omega), m16_cg h _ _ (by omega) (by omega), sm4_cg h _ _ (by omega), sm1_cg h _ _ (by omega)]
theorem rd_app (xs ys : List Int) (j : Nat) : rd (xs ++ ys) (xs.length + j) = rd ys j := by
  unfold rd
  rw [gd_r (by omega), show xs.length + j - xs.length = j by omega]
theorem sumS_app (xs ys : List Int) (p n : Nat) : sumS (rd (xs ++ ys)) (xs.length + p) n = sumS (rd ys) p n := sumS_cg (fun j _ => by rw [Nat.add_assoc, rd_app])
/-! settings -/
theorem s_isSet {sF : Nat → Int32} {j : Nat} (hj : j < 6) : m_Packer_isSet (iI j) 6 sF = some (if sF j = 0 then 0 else 1) := by
  unfold m_Packer_isSet
  rw [chk_iI (by omega) (by omega), iI_clamp (by omega) (by omega), Int.toNat_natCast]
  by_cases c : sF j = 0
  · rw [if_pos c, if_pos c]
  · rw [if_neg c, if_neg c]
theorem s_loadAlone {ci : Int32} {lF hF bF iF : Nat → Int32} {inp : List Int} (b1 : BR 4000 ci iF inp) {p n : Nat} (hp : p + n ≤ inp.length) : ok (m_Text_loadAlone (iI p) (iI n) 256 lF ci 4000 iF 5000 hF 5000 bF) (fun o => TR o.1 o.2.2.2.1 o.2.2.2.2 o.2.2.1 ((inp.drop p).take n) ∧ o.2.1 = -1) := by
  have hi := b1.2.1
  unfold m_Text_loadAlone
  refine ok_bind (s_clear lF hF bF) ?_
  rintro ⟨u1, u2, u3⟩ ⟨h1, h2⟩
  dsimp only at h1 h2 ⊢
  refine ok_bind (s_append h2 b1 (by omega) hp (by simp; omega)) ?_
  rintro ⟨u9, u10, u11, u12⟩ h4
  exact ok_some ⟨h4, h1⟩
theorem MG.congr {f : Nat → Int32} {g g' : Nat → Int} {L : Nat} (h : MG f g L) (he : ∀ j, j < L → g j = g' j) : MG f g' L := fun j hj => by
  rw [← he j hj]
  exact h j hj
theorem s_endBlock {cnt icnt bcnt : Int32} {f iF bf : Nat → Int32} {P body inp : List Int} {fl : List Int32} {k from' n sh : Nat} (h : BR 12000 cnt f (P ++ body)) (b1 : BR 4000 icnt iF inp) (hf : FC k bcnt bf fl) (hk : k < 1000) (hp : from' + n ≤ inp.length) (hl : P.length + n ≤ 12000) (hsh : sh ≤ 12000) (c l pa : Int32) : ok (m_Packer_endBlock (iI P.length) (iI from') (iI n) (iI sh) c l pa cnt bcnt 7000 bf icnt 12000 f 4000 iF) (fun o => (body.length < n → o.1 = 0 ∧ BR 12000 o.2.1 o.2.2.2.2 (P ++ body) ∧ FC (k + 1) o.2.2.1 o.2.2.2.1 (fl ++ [iI ((sh + P.length : Nat) : Int), iI body.length, iI n, 0, c, l, pa])) ∧ (¬ body.length < n → o.1 = 1 ∧ BR 12000 o.2.1 o.2.2.2.2 (P ++ (inp.drop from').take n) ∧ FC (k + 1) o.2.2.1 o.2.2.2.1 (fl ++ [iI ((sh + P.length : Nat) : Int), iI n, iI n, 1, 0, iI n, 0]))) := by
  have h2 := h.2.1
  have hlen : (P ++ body).length = P.length + body.length := List.length_append
  have b2 := b1.2.1
  have h1 := h.1
  unfold m_Packer_endBlock m_Bytes_size
  rw [Option.bind_some, h1, iI_sub, bnd_eq, iI_add, show ((P ++ body).length : Int) - (P.length : Int) = (body.length : Int) by omega, show (sh : Int) + (P.length : Int) = ((sh + P.length : Nat) : Int) by omega]
  by_cases c1 : body.length < n
  · rw [if_leF (by omega) (by omega) (by omega)]
    refine ok_bind (s_addPacked hf hk _ _ _ _ _ _) ?_
    rintro ⟨u8, u9⟩ hu
    refine ok_some ⟨fun _ => ⟨rfl, ?_, hu⟩, fun q => absurd c1 q⟩
    rw [← h1]
    exact h
  · rw [if_leT (by omega) (by omega) (by omega), s_keep (by omega) (by omega), Option.bind_some, show min (P.length : Int) ((P ++ body).length : Int) = (P.length : Int) by omega]
    have ht := h.take (k := P.length) (by omega)
    rw [List.take_left] at ht
    refine ok_bind (s_addRange ht b1 (by omega) (by omega) hp (by omega)) ?_
    rintro ⟨u4, u5⟩ hu
    dsimp only at hu ⊢
    refine ok_bind (s_addRaw hf hk _ _) ?_
    rintro ⟨u6, u7⟩ hu2
    exact ok_some ⟨fun q => absurd q c1, fun _ => ⟨rfl, hu, hu2⟩⟩
theorem t_raw {cnt mi : Int32} {f mif : Nat → Int32} {P inp : List Int} {from' n : Nat} (h : MR cnt f P) (b2 : MR mi mif inp) (hi : inp.length ≤ 4000) (hp : from' + n ≤ inp.length) (hl : P.length + n ≤ 28000) : ok (iter (fun st => m_Mo_frame_B279 28000 4000 mif (iI from') (iI n) st.1 st.2.1 st.2.2) FU (f, cnt, 0)) (fun o => MR o.2 o.1 (P ++ (inp.drop from').take n)) := by
  refine ok_loop (fun j s => s.2.2 = iI j ∧ MR s.2.1 s.1 (P ++ (inp.drop from').take j)) n (by omega) ⟨rfl, by rw [List.take_zero, List.append_nil]; exact h⟩ ?_
  rintro j ⟨s1, s2, s3⟩ hj ⟨e1, e2⟩
  dsimp only at e1 e2
  subst e1
  unfold m_Mo_frame_B279
  dsimp only
  have hdl : (inp.drop from').length = inp.length - from' := List.length_drop
  by_cases c : n ≤ j
  · simp (disch := omega) only [bnd_eq, Option.bind_some, lit_0, lit_1, lit_m1, lit_4, lit_5000, iI_nI, iI_add, iI_sub, iI_mul, iI_neg, chk_iI, iI_clamp, iI_lt, iI_le, iI_eq, if_pos, if_neg, if_true, if_false, Int.toNat_natCast]
    refine ok_end ?_
    rw [show n = j by omega]
    exact e2
  · simp (disch := omega) only [bnd_eq, Option.bind_some, lit_0, lit_1, lit_m1, lit_4, lit_5000, iI_nI, iI_add, iI_sub, iI_mul, iI_neg, chk_iI, iI_clamp, iI_lt, iI_le, iI_eq, if_pos, if_neg, if_true, if_false, Int.toNat_natCast]
    rw [show ((from' : Int) + (j : Int)).toNat = from' + j by omega]
    have hg := b2.2 (from' + j) (by omega)
    rw [hg.2]
    refine ok_bind (t_put _ e2 (by rw [List.length_append, List.length_take]; omega) (by omega)) ?_
    rintro ⟨u1, u2⟩ hu
    dsimp only at hu ⊢
    refine ok_go ⟨j + 1, by omega, by omega, by simp, ?_⟩
    dsimp only
    rw [take_s (by omega), ← List.append_assoc]
    rw [show (inp.drop from').getD j 0 = inp.getD (from' + j) 0 by simp [List.getD_eq_getElem?_getD, List.getElem?_drop]]
    rw [show inp.getD (from' + j) 0 % 256 = inp.getD (from' + j) 0 by omega] at hu
    exact hu
