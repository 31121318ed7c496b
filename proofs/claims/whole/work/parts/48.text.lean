/-! the text: its bytes, for each place the nearest one before it with the same byte, for each byte its latest place -/
def gx (t : List Int) (j : Nat) : Int := t.getD j 0
def lastAt (g : Nat → Int) (b : Int) : Nat → Int
  | 0 => -1
  | n + 1 => if g n = b then (n : Int) else lastAt g b n
theorem lastAt_s (g : Nat → Int) (b : Int) (n : Nat) : lastAt g b (n + 1) = if g n = b then (n : Int) else lastAt g b n := by rw [lastAt]
theorem lastAt_in (g : Nat → Int) (b : Int) : ∀ n : Nat, -1 ≤ lastAt g b n ∧ lastAt g b n < n
  | 0 => by rw [lastAt]; omega
  | n + 1 => by
    rw [lastAt_s]
    have := lastAt_in g b n
    split <;> omega
theorem lastAt_cg {g g' : Nat → Int} (b : Int) : ∀ n : Nat, (∀ j, j < n → g j = g' j) → lastAt g b n = lastAt g' b n
  | 0, _ => by rw [lastAt, lastAt]
  | n + 1, h => by rw [lastAt_s, lastAt_s, h n (by omega), lastAt_cg b n (fun j hj => h j (by omega))]
/-- what it says: no place between has the byte; the place has it -/
theorem lastAt_no (g : Nat → Int) (b : Int) : ∀ n j : Nat, lastAt g b n < j → j < n → g j ≠ b
  | 0, j, _, h => absurd h (Nat.not_lt_zero _)
  | n + 1, j, h1, h2 => by
    rw [lastAt_s] at h1
    by_cases e : g n = b
    · rw [if_pos e] at h1; omega
    · rw [if_neg e] at h1
      by_cases e2 : j = n
      · rw [e2]; exact e
      · exact lastAt_no g b n j h1 (by omega)
theorem lastAt_is (g : Nat → Int) (b : Int) : ∀ n : Nat, 0 ≤ lastAt g b n → g (lastAt g b n).toNat = b
  | 0, h => by rw [lastAt] at h; omega
  | n + 1, h => by
    rw [lastAt_s] at h ⊢
    by_cases e : g n = b
    · rw [if_pos e]; simpa using e
    · rw [if_neg e] at h ⊢; exact lastAt_is g b n h
def TR (cnt : Int32) (hF bF lF : Nat → Int32) (t : List Int) : Prop := cnt = iI t.length ∧ t.length ≤ 5000 ∧ (∀ j, j < t.length → (0 ≤ gx t j ∧ gx t j < 256) ∧ hF j = hb (gx t j) ∧ bF j = iI (lastAt (gx t) (gx t j) j)) ∧ ∀ b : Nat, b < 256 → lF b = iI (lastAt (gx t) b t.length)
theorem TR.push {cnt : Int32} {hF bF lF : Nat → Int32} {t : List Int} (h : TR cnt hF bF lF t) (hl : t.length < 5000) {b : Nat} (hb' : b < 256) : TR (iI (t.length + 1)) (upd hF t.length (hb b)) (upd bF t.length (lF b)) (upd lF b cnt) (t ++ [(b : Int)]) := by
  obtain ⟨h1, h2, h3, h4⟩ := h
  have e1 : ∀ j, j < t.length → gx (t ++ [(b : Int)]) j = gx t j := fun j hj => gd_l hj
  have e2 : gx (t ++ [(b : Int)]) t.length = b := by
    unfold gx
    rw [gd_r (Nat.le_refl _), Nat.sub_self]
    rfl
  refine ⟨by simp, by simp; omega, fun j hj => ?_, fun c hc => ?_⟩
  · simp only [List.length_append, List.length_cons, List.length_nil] at hj
    by_cases e : j < t.length
    · rw [e1 j e, pk_un (by omega), pk_un (by omega), lastAt_cg _ j (fun i hi => e1 i (by omega))]
      exact h3 j e
    · have e3 : j = t.length := by omega
      subst e3
      rw [e2, pk_us, pk_us, h4 b hb', lastAt_cg _ t.length (fun i hi => e1 i hi)]
      exact ⟨by omega, rfl, rfl⟩
  · rw [show (t ++ [(b : Int)]).length = t.length + 1 by simp, lastAt_s, e2, lastAt_cg _ t.length (fun i hi => e1 i hi)]
    by_cases e : c = b
    · rw [e, pk_us, if_pos rfl, h1]
    · rw [pk_un e, if_neg (by omega), h4 c hc]
theorem s_append {N2 : Nat} {cnt c2 : Int32} {hF bF lF f2 : Nat → Int32} {t ys : List Int} (h : TR cnt hF bF lF t) (h2 : BR N2 c2 f2 ys) (hN2 : N2 < 1048576) {p n : Nat} (hp : p + n ≤ ys.length) (hl : t.length + n ≤ 5000) : ok (m_Text_append (iI p) (iI n) cnt c2 N2 f2 5000 hF 256 lF 5000 bF) (fun o => TR o.1 o.2.1 o.2.2.2 o.2.2.1 (t ++ (ys.drop p).take n)) := by
  have hy := h2.2.1
  have ht := h.2.1
  unfold m_Text_append m_Text_append_E84
  refine ok_bind (Q := fun o => TR o.2.2.2 o.2.1 o.1 o.2.2.1 (t ++ (ys.drop p).take n)) ?_ (fun o ho => ok_some ho)
  refine ok_iter (I := fun s => ∃ j : Nat, j ≤ n ∧ s.2.2.2.2 = iI j ∧ TR s.2.2.2.1 s.2.1 s.1 s.2.2.1 (t ++ (ys.drop p).take j)) (μ := fun s => n - s.2.2.2.2.toNatClampNeg) ?_ FU _ ⟨0, by omega, rfl, ?_⟩ ?_
  · rintro ⟨a, b, c, d, q⟩ ⟨j, hj, e0, hb'⟩
    dsimp only at e0 hb'
    subst e0
    have e1 := hb'.1
    have e2 : (t ++ (ys.drop p).take j).length = t.length + j := by rw [List.length_append, List.length_take, List.length_drop]; omega
    unfold m_Text_append_B3
    dsimp only
    by_cases q : n ≤ j
    · rw [if_leT (by omega) (by omega) (by omega)]
      refine ok_some ?_
      rw [show n = j by omega]
      exact hb'
    · subst e1
      have h5 := (h2.2.2 (p + j) (by omega)).1
      rw [e2] at hb' ⊢
      rw [if_leF (by omega) (by omega) (by omega), show (5000 : Int32) = iI 5000 from rfl, if_leF (by omega) (by omega) (by omega), iI_add, s_at h2 (by omega) (by omega), if_pos (by omega), Option.bind_some, show ((p : Int) + (j : Int)).toNat = p + j by omega]
      rw [chk_iI (by omega) (by omega), chk_iI (by omega) (by omega), chk_iI (by omega) (by omega), chk_iI (by omega) (by omega), bnd_eq, bnd_eq, iI_clamp (by omega) (by omega), iI_clamp (by omega) (by omega), nar_hb, show (1 : Int32) = iI 1 from rfl, iI_add, iI_add]
      refine ok_some ⟨⟨j + 1, by omega, by simp, ?_⟩, ?_⟩
      · have e3 := hb'.push (by omega) (b := (ys.getD (p + j) 0).toNat) (by omega)
        rw [e2, show (((ys.getD (p + j) 0).toNat : Nat) : Int) = ys.getD (p + j) 0 by omega, List.append_assoc] at e3
        have e4 : (ys.drop p).take (j + 1) = (ys.drop p).take j ++ [ys.getD (p + j) 0] := by
          rw [take_s (by rw [List.length_drop]; omega)]
          simp only [List.getD_eq_getElem?_getD]
          rw [List.getElem?_drop]
        rw [e4, show ys.getD (p + j) 0 % 256 = ys.getD (p + j) 0 by omega, show ((t.length + j : Nat) : Int).toNat = t.length + j by omega]
        exact e3
      · show n - (iI ((j : Int) + 1)).toNatClampNeg < n - (iI (j : Int)).toNatClampNeg
        rw [iI_clamp (by omega) (by omega), iI_clamp (by omega) (by omega)]
        omega
  · show TR cnt hF bF lF (t ++ (ys.drop p).take 0)
    rw [List.take_zero, List.append_nil]
    exact h
  · show n - (0 : Int32).toNatClampNeg < FU
    unfold FU
    omega
theorem s_clear (lF hF bF : Nat → Int32) : ok (m_Text_clear 256 lF) (fun o => o.2.1 = -1 ∧ TR o.1 hF bF o.2.2 []) := by
  unfold m_Text_clear m_Arrays_fill_53178
  rw [bnd_eq]
  refine ok_bind (Q := fun o => ∀ j, j < 256 → o j = -1) ?_ ?_
  · refine ok_bind (Q := fun o => ∀ j, j < 256 → o j = -1) ?_ (fun o ho => ok_some ho)
    refine ok_iter (I := fun s => ∃ j : Nat, j ≤ 256 ∧ s.2 = iI j ∧ ∀ i, i < j → s.1 i = -1) (μ := fun s => 256 - s.2.toNatClampNeg) ?_ FU _ ⟨0, by omega, rfl, fun i hi => absurd hi (by omega)⟩ ?_
    · rintro ⟨a, b⟩ ⟨j, hj, e0, hb'⟩
      dsimp only at e0 hb'
      subst e0
      unfold m_Arrays_fill_53178_B5
      dsimp only
      rw [iI_nI]
      by_cases q : 256 ≤ j
      · rw [if_leT (by omega) (by omega) (by omega)]
        exact ok_some (fun i hi => hb' i (by omega))
      · rw [if_leF (by omega) (by omega) (by omega), chk_iI (by omega) (by omega), bnd_eq, iI_clamp (by omega) (by omega), show (1 : Int32) = iI 1 from rfl, iI_add]
        refine ok_some ⟨⟨j + 1, by omega, by simp, fun i hi => ?_⟩, ?_⟩
        · show upd a _ _ i = _
          by_cases e : i = j
          · rw [e, show ((j : Int)).toNat = j by omega, pk_us]
          · rw [pk_un (by omega)]; exact hb' i (by omega)
        · show 256 - (iI ((j : Int) + 1)).toNatClampNeg < 256 - (j : Int).toNat
          rw [iI_clamp (by omega) (by omega)]
          omega
    · show 256 - (0 : Int32).toNatClampNeg < FU
      unfold FU
      omega
  · intro o ho
    exact ok_some ⟨rfl, rfl, by simp, fun j hj => absurd hj (by simp), fun b hb' => ho b hb'⟩
theorem s_load {cw ci : Int32} {lF hF bF wF iF : Nat → Int32} {dic inp : List Int} (b3 : BR 1000 cw wF dic) (b1 : BR 4000 ci iF inp) {p n : Nat} (hp : p + n ≤ inp.length) : ok (m_Text_load (iI p) (iI n) 256 lF cw 1000 wF 5000 hF 5000 bF ci 4000 iF) (fun o => TR o.1 o.2.2.2.1 o.2.2.2.2 o.2.2.1 (dic ++ (inp.drop p).take n) ∧ o.2.1 = -1) := by
  have hd := b3.2.1
  have hi := b1.2.1
  unfold m_Text_load m_Bytes_size
  refine ok_bind (s_clear lF hF bF) ?_
  rintro ⟨u1, u2, u3⟩ ⟨h1, h2⟩
  dsimp only at h1 h2 ⊢
  rw [Option.bind_some]
  have e := s_append (p := 0) (n := dic.length) h2 b3 (by omega) (by omega) (by simp; omega)
  rw [show iI ((0 : Nat) : Int) = (0 : Int32) from rfl, ← b3.1, show ([] : List Int) ++ (dic.drop 0).take dic.length = dic by simp] at e
  refine ok_bind e ?_
  rintro ⟨u5, u6, u7, u8⟩ h3
  dsimp only at h3 ⊢
  refine ok_bind (s_append h3 b1 (by omega) hp (by omega)) ?_
  rintro ⟨u9, u10, u11, u12⟩ h4
  exact ok_some ⟨h4, h1⟩
