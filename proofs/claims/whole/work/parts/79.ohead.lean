/-! the head of a frame -/
theorem s_lk {p e : Nat} (n : Nat) (a : Int32) (ha : a = iI n) (hn : n < 1000000000) (hp : p < 1000000) (he : e < 1000000) : m_Opener_lacks a (iI p) (iI e) = some (if p + n ≤ e then 0 else 1) := by
  rw [ha, s_lacks (by omega) (by omega) (by omega)]
  by_cases c : p + n ≤ e
  · rw [if_pos c, if_pos (show (n : Int) ≤ (e : Int) - (p : Int) by omega)]
  · rw [if_neg c, if_neg (show ¬ (n : Int) ≤ (e : Int) - (p : Int) by omega)]
theorem iI_p (A n : Nat) (a : Int32) (ha : a = iI n) : iI (A : Int) + a = iI ((A + n : Nat) : Int) := by
  rw [ha, iI_add]
  rfl
theorem and194 : ∀ z : Nat, z < 256 → (iI z &&& 194 = (64 : Int32) ↔ iI z &&& 192 = (64 : Int32) ∧ iI z &&& 2 = 0) := by decide +kernel
def fhS (F : Int32) (A : Nat) : Nat := A + 2 + (if F &&& 8 = 0 then 0 else 8) + (if F &&& 1 = 0 then 0 else 4)
/-- what becomes of a frame's head: a rule and a place, or the place of its sum and its width less 4 -/
def fh (inp : List Int) (id5 : Int32) (A : Nat) : (Nat × Nat) ⊕ (Nat × Nat) := if inp.length ≤ A then .inl (1, inp.length) else if ¬ (iI (by_ inp A) &&& 194 = (64 : Int32)) then .inl (5, A) else if inp.length ≤ A + 1 then .inl (1, inp.length) else if by_ inp (A + 1) % 16 ≠ 0 ∨ by_ inp (A + 1) / 16 < 4 ∨ 7 < by_ inp (A + 1) / 16 then .inl (5, A + 1) else if inp.length ≤ fhS (iI (by_ inp A)) A then .inl (1, inp.length) else if ¬ (iI (by_ inp (fhS (iI (by_ inp A)) A)) = iI ((sumS (rd inp) A (fhS (iI (by_ inp A)) A - A)).toInt / 256 % 256)) then .inl (6, fhS (iI (by_ inp A)) A) else if ¬ (iI (by_ inp A) &&& 1 = 0) ∧ ¬ (iI (nv inp (fhS (iI (by_ inp A)) A - 4) 4) = id5) then .inl (11, fhS (iI (by_ inp A)) A - 4) else .inr (fhS (iI (by_ inp A)) A, by_ inp (A + 1) / 16 - 4)
theorem hs_byte (x : Int32) : iushr x 8 &&& 255 = iI (x.toInt / 256 % 256) := by
  rw [s_sumByte, and255]
  congr 1
  omega
theorem ht_byte (x : Int32) : ishr x 8 &&& 255 = iI (x.toInt / 256 % 256) := by
  rw [t_sumByte, and255]
def Ptd (inp : List Int) (T : (Nat × Nat) ⊕ (Nat × Nat)) (b ba : Int32) (A : Nat) (x : Int32 × Int32 × Int32 × Int32 × Int64) : Prop := (∀ r pl, T = .inl (r, pl) → x.1 = 0 ∧ x.2.1 = iI r ∧ x.2.2.1 = iI pl) ∧ (∀ S w, T = .inr (S, w) → x.1 = 1 ∧ x.2.1 = b ∧ x.2.2.1 = ba ∧ x.2.2.2.1 = iI ((S + 1 : Nat) : Int) ∧ x.2.2.2.2 = jI (nv inp (A + 2) 8))
theorem Ptd.bad {inp : List Int} {b ba a : Int32} {s : Int64} {A r pl : Nat} : Ptd inp (.inl (r, pl)) b ba A (0, iI r, iI pl, a, s) := ⟨fun r' pl' q => (by cases q; exact ⟨rfl, rfl, rfl⟩), fun S w q => (by cases q)⟩
theorem Ptd.good {inp : List Int} {b ba : Int32} {A S w : Nat} : Ptd inp (.inr (S, w)) b ba A (1, b, ba, iI ((S + 1 : Nat) : Int), jI (nv inp (A + 2) 8)) := ⟨fun r' pl' q => (by cases q), fun S' w' q => (by cases q; exact ⟨rfl, rfl, rfl, rfl, rfl⟩)⟩
theorem s_told39 {inp : List Int} {iF sF : Nat → Int32} {b ba F : Int32} {sz : Int64} (b1 : BR 4000 (iI inp.length) iF inp) {A I s5 w : Nat} (hA : A + 2 ≤ I) (hI : I ≤ A + 10) (h5 : (F &&& 1 = 0 ∧ s5 = 0) ∨ (¬ F &&& 1 = 0 ∧ s5 = 4)) (hA4 : A ≤ 4000) : ok (m_Opener_openFrameTold_J39 b ba (iI A) (iI inp.length) F sz (iI inp.length) 4000 iF 6 sF (iI I) (iI s5)) (Ptd inp (if inp.length ≤ I + s5 then .inl (1, inp.length) else if ¬ (iI (by_ inp (I + s5)) = iI ((sumS (rd inp) A (I + s5 - A)).toInt / 256 % 256)) then .inl (6, I + s5) else if ¬ (F &&& 1 = 0) ∧ ¬ (iI (nv inp (I + s5 - 4) 4) = sF 5) then .inl (11, I + s5 - 4) else .inr (I + s5, w)) b ba A) := by
  have i4 := b1.2.1
  unfold m_Opener_openFrameTold_J39 m_Opener_breaks m_Opener_isFlag m_Opener_openFrameTold_J149
  rw [bnd_eq, iI_add, show (I : Int) + (s5 : Int) = ((I + s5 : Nat) : Int) by omega]
  by_cases c1 : inp.length ≤ I + s5
  · rw [if_ltF (by omega) (by omega) (by omega), Option.bind_some, if_pos c1]
    dsimp only
    rw [bch0]
    exact ok_some Ptd.bad
  · rw [if_ltT (by omega) (by omega) (by omega), if_neg c1, iI_p A 2 2 rfl, i_nat8, s_number b1 (by omega) (by omega) (by omega), Option.bind_some, iI_sub, show ((I + s5 : Nat) : Int) - (A : Int) = ((I + s5 - A : Nat) : Int) by omega, s_sumOf b1 (by omega) (by omega), Option.bind_some, bnd_eq, s_byteAt b1 (by omega) (by omega), Option.bind_some, ← i_nat8, hs_byte]
    by_cases c2 : iI (by_ inp (I + s5)) = iI ((sumS (rd inp) A (I + s5 - A)).toInt / 256 % 256)
    · rw [if_pos c2, if_neg (show ¬ ¬ iI (by_ inp (I + s5)) = iI ((sumS (rd inp) A (I + s5 - A)).toInt / 256 % 256) from fun q => q c2)]
      rcases h5 with ⟨f1, rfl⟩ | ⟨f1, rfl⟩
      · rw [if_pos f1, Option.bind_some, if_pos rfl, bnd_eq, iI_p (I + 0) 1 1 rfl, if_neg (show ¬ (¬ (F &&& 1 = 0) ∧ ¬ (iI (nv inp (I + 0 - 4) 4) = sF 5)) from fun q => q.1 f1)]
        exact ok_some Ptd.good
      · rw [show I + 4 - 4 = I by omega, if_neg f1, Option.bind_some, if_neg (show ¬ (1 : Int32) = 0 by decide), s_num32 b1 (by omega) (by omega), Option.bind_some, ck5, tc5]
        by_cases c3 : iI (nv inp I 4) = sF 5
        · rw [if_pos c3, bnd_eq, if_neg (show ¬ (¬ (F &&& 1 = 0) ∧ ¬ (iI (nv inp I 4) = sF 5)) from fun q => q.2 c3), iI_p (I + 4) 1 1 rfl]
          exact ok_some Ptd.good
        · rw [if_neg c3, Option.bind_some, if_pos (show ¬ (F &&& 1 = 0) ∧ ¬ (iI (nv inp I 4) = sF 5) from ⟨f1, c3⟩)]
          dsimp only
          rw [bch0]
          exact ok_some (Ptd.bad (r := 11))
    · rw [if_neg c2, Option.bind_some, if_pos c2]
      dsimp only
      rw [bch0]
      exact ok_some Ptd.bad
def Phd (inp : List Int) (T : (Nat × Nat) ⊕ (Nat × Nat)) (b ba : Int32) (A : Nat) (x : Int32 × Int32 × Int32 × Int32 × Int32 × Int32 × Int64) : Prop := (∀ r pl, T = .inl (r, pl) → x.1 = 0 ∧ x.2.1 = iI r ∧ x.2.2.1 = iI pl) ∧ (∀ S w, T = .inr (S, w) → x.1 = 1 ∧ x.2.1 = b ∧ x.2.2.1 = ba ∧ x.2.2.2.1 = iI ((S + 1 : Nat) : Int) ∧ x.2.2.2.2.1 = iI (by_ inp A) ∧ x.2.2.2.2.2.1 = iI ((w + 4 : Nat) : Int) ∧ x.2.2.2.2.2.2 = jI (nv inp (A + 2) 8))
theorem Phd.bad {inp : List Int} {b ba a f w : Int32} {s : Int64} {A r pl : Nat} : Phd inp (.inl (r, pl)) b ba A (0, iI r, iI pl, a, f, w, s) := ⟨fun r' pl' q => (by cases q; exact ⟨rfl, rfl, rfl⟩), fun S w q => (by cases q)⟩
theorem s_told {inp : List Int} {iF sF : Nat → Int32} {b ba F : Int32} {sz : Int64} (b1 : BR 4000 (iI inp.length) iF inp) {A w : Nat} (hA4 : A ≤ 4000) : ok (m_Opener_openFrameTold b ba (iI A) (iI inp.length) F sz (iI inp.length) 4000 iF 6 sF) (Ptd inp (if inp.length ≤ fhS F A then .inl (1, inp.length) else if ¬ (iI (by_ inp (fhS F A)) = iI ((sumS (rd inp) A (fhS F A - A)).toInt / 256 % 256)) then .inl (6, fhS F A) else if ¬ (F &&& 1 = 0) ∧ ¬ (iI (nv inp (fhS F A - 4) 4) = sF 5) then .inl (11, fhS F A - 4) else .inr (fhS F A, w)) b ba A) := by
  unfold m_Opener_openFrameTold m_Opener_openFrameTold_J23 m_Opener_isFlag fhS
  by_cases f8 : F &&& 8 = 0
  · rw [if_pos f8, Option.bind_some, if_pos rfl, if_pos f8, bnd_eq, iI_p A 2 2 rfl, iI_p (A + 2) 0 0 rfl]
    by_cases f1 : F &&& 1 = 0
    · rw [if_pos f1, Option.bind_some, if_pos rfl, if_pos f1]
      exact s_told39 (s5 := 0) b1 (by omega) (by omega) (Or.inl ⟨f1, rfl⟩) hA4
    · rw [if_neg f1, Option.bind_some, if_neg (show ¬ (1 : Int32) = 0 by decide), if_neg f1]
      exact s_told39 (s5 := 4) b1 (by omega) (by omega) (Or.inr ⟨f1, rfl⟩) hA4
  · rw [if_neg f8, Option.bind_some, if_neg (show ¬ (1 : Int32) = 0 by decide), if_neg f8, bnd_eq, iI_p A 2 2 rfl, iI_p (A + 2) 8 8 rfl]
    by_cases f1 : F &&& 1 = 0
    · rw [if_pos f1, Option.bind_some, if_pos rfl, if_pos f1]
      exact s_told39 (s5 := 0) b1 (by omega) (by omega) (Or.inl ⟨f1, rfl⟩) hA4
    · rw [if_neg f1, Option.bind_some, if_neg (show ¬ (1 : Int32) = 0 by decide), if_neg f1]
      exact s_told39 (s5 := 4) b1 (by omega) (by omega) (Or.inr ⟨f1, rfl⟩) hA4
theorem s_head {inp : List Int} {iF sF : Nat → Int32} {b ba f0 w0 : Int32} {sz : Int64} (b1 : BR 4000 (iI inp.length) iF inp) {A : Nat} (hA : A ≤ inp.length) : ok (m_Opener_openFrameHead b ba (iI A) (iI inp.length) f0 w0 sz (iI inp.length) 4000 iF 6 sF) (Phd inp (fh inp (sF 5) A) b ba A) := by
  have i4 := b1.2.1
  have hy := b1.by
  have hF := hy.lt A
  have hW := hy.lt (A + 1)
  unfold m_Opener_openFrameHead m_Opener_openFrameHead_J54 m_Opener_openFrameHead_J138 m_Opener_breaks fh
  rw [s_lk 1 1 rfl (by omega) (by omega) (by omega), Option.bind_some]
  by_cases c1 : inp.length ≤ A
  · rw [if_neg (show ¬ A + 1 ≤ inp.length by omega), if_neg (show ¬ (1 : Int32) = 0 by decide), Option.bind_some, if_pos c1]
    dsimp only
    rw [bch0]
    exact ok_some (Phd.bad (r := 1))
  · rw [if_pos (show A + 1 ≤ inp.length by omega), if_pos rfl, s_byteAt b1 (by omega) (by omega), Option.bind_some, if_neg c1]
    obtain ⟨F, hFF⟩ : ∃ F, by_ inp A = F := ⟨_, rfl⟩
    rw [hFF] at hF ⊢
    have ha := and194 F hF
    by_cases c2 : iI F &&& 194 = (64 : Int32)
    · obtain ⟨d1, d2⟩ := ha.1 c2
      unfold m_Opener_isFlag
      rw [if_pos d1, if_pos d2, Option.bind_some, if_pos rfl, if_neg (show ¬ ¬ iI F &&& 194 = (64 : Int32) from fun q => q c2), s_lk 2 2 rfl (by omega) (by omega) (by omega), Option.bind_some]
      by_cases c3 : inp.length ≤ A + 1
      · rw [if_neg (show ¬ A + 2 ≤ inp.length by omega), if_neg (show ¬ (1 : Int32) = 0 by decide), Option.bind_some, if_pos c3]
        dsimp only
        rw [bch0]
        exact ok_some (Phd.bad (r := 1))
      · rw [if_pos (show A + 2 ≤ inp.length by omega), if_pos rfl, if_neg c3, iI_p A 1 1 rfl, s_byteAt b1 (by omega) (by omega), Option.bind_some, bnd_eq]
        obtain ⟨W, hWW⟩ : ∃ W, by_ inp (A + 1) = W := ⟨_, rfl⟩
        rw [hWW] at hW ⊢
        rw [lit_16, iI_div (by omega) (by omega), lit_4, show (7 : Int32) = iI 7 from rfl, show (W : Int) / 16 = ((W / 16 : Nat) : Int) by omega]
        have hbad : W % 16 ≠ 0 ∨ W / 16 < 4 ∨ 7 < W / 16 → ok (some ((0 : Int32), (5 : Int32), iI ((A + 1 : Nat) : Int), iI (A : Int), iI (F : Int), iI ((W / 16 : Nat) : Int), sz)) (Phd inp (if W % 16 ≠ 0 ∨ W / 16 < 4 ∨ 7 < W / 16 then .inl (5, A + 1) else if inp.length ≤ fhS (iI F) A then .inl (1, inp.length) else if ¬ (iI (by_ inp (fhS (iI F) A)) = iI ((sumS (rd inp) A (fhS (iI F) A - A)).toInt / 256 % 256)) then .inl (6, fhS (iI F) A) else if ¬ (iI F &&& 1 = 0) ∧ ¬ (iI (nv inp (fhS (iI F) A - 4) 4) = sF 5) then .inl (11, fhS (iI F) A - 4) else .inr (fhS (iI F) A, W / 16 - 4)) b ba A) := by
          intro z
          rw [if_pos z]
          exact ok_some (Phd.bad (r := 5))
        by_cases c4 : W / 16 < 4
        · rw [if_ltT (by omega) (by omega) (by omega), Option.bind_some]
          dsimp only
          rw [bch0]
          exact hbad (Or.inr (Or.inl c4))
        · rw [if_ltF (by omega) (by omega) (by omega)]
          by_cases c5 : 7 < W / 16
          · rw [if_ltT (by omega) (by omega) (by omega), Option.bind_some]
            dsimp only
            rw [bch0]
            exact hbad (Or.inr (Or.inr c5))
          · rw [if_ltF (by omega) (by omega) (by omega), Option.bind_some, iI_rem (by omega) (by omega), show (W : Int) % 16 = ((W % 16 : Nat) : Int) by omega]
            by_cases c6 : W % 16 = 0
            · rw [if_eq0T (by omega) (by omega), if_neg (show ¬ (W % 16 ≠ 0 ∨ W / 16 < 4 ∨ 7 < W / 16) by omega)]
              clear hbad
              refine ok_bind (s_told (w := W / 16 - 4) b1 (by omega)) ?_
              rintro ⟨x0, x1, x2, x3, x4⟩ ⟨g1, g2⟩
              dsimp only at g1 g2 ⊢
              generalize hT : (if inp.length ≤ fhS (iI F) A then (.inl (1, inp.length) : (Nat × Nat) ⊕ (Nat × Nat)) else if ¬ (iI (by_ inp (fhS (iI F) A)) = iI ((sumS (rd inp) A (fhS (iI F) A - A)).toInt / 256 % 256)) then .inl (6, fhS (iI F) A) else if ¬ (iI F &&& 1 = 0) ∧ ¬ (iI (nv inp (fhS (iI F) A - 4) 4) = sF 5) then .inl (11, fhS (iI F) A - 4) else .inr (fhS (iI F) A, W / 16 - 4)) = T at g1 g2 ⊢
              rcases T with ⟨r, pl⟩ | ⟨S, w⟩
              · obtain ⟨rfl, rfl, rfl⟩ := g1 r pl rfl
                rw [bch0]
                exact ok_some Phd.bad
              · obtain ⟨rfl, rfl, rfl, rfl, rfl⟩ := g2 S w rfl
                rw [bch1]
                have hw : w = W / 16 - 4 := by
                  repeat' split at hT
                  all_goals first | (cases hT; rfl) | cases hT
                subst hw
                have hw4 : iI ((W / 16 : Nat) : Int) = iI ((W / 16 - 4 + 4 : Nat) : Int) := by
                  congr 1
                  omega
                exact ok_some ⟨fun r pl q => (by cases q), fun S' w' q => (by cases q; exact ⟨rfl, rfl, rfl, rfl, congrArg (fun z : Nat => iI (z : Int)) hFF.symm, hw4, rfl⟩)⟩
            · rw [if_eq0F (by omega) (by omega), Option.bind_some]
              dsimp only
              rw [bch0]
              exact hbad (Or.inl c6)
    · rw [if_pos c2]
      have hl : ok (some ((0 : Int32), (5 : Int32), iI (A : Int), iI (A : Int), iI (F : Int), w0, sz)) (Phd inp (.inl (5, A)) b ba A) := ok_some (Phd.bad (r := 5))
      by_cases d1 : iI F &&& 192 = (64 : Int32)
      · have d2 : ¬ iI F &&& 2 = 0 := fun q => c2 (ha.2 ⟨d1, q⟩)
        unfold m_Opener_isFlag
        rw [if_pos d1, if_neg d2, Option.bind_some, if_neg (show ¬ (1 : Int32) = 0 by decide), Option.bind_some]
        dsimp only
        rw [bch0]
        exact hl
      · rw [if_neg d1, Option.bind_some]
        dsimp only
        rw [bch0]
        exact hl
