/-! the head of a frame, as the reference reads it -/
def Pth (T : (Nat × Nat) ⊕ (Nat × Nat)) (fs c l pa nm : Int32) (ff nf : Nat → Int32) (sz : Int64) (F : Int32) (J : Int32 → Int64 → Int32 → Option (Int32 × Int32 × Int32 × Int32 × Int32 × Int32 × Int32 × Int32 × Int32 × (Nat → Int32) × (Nat → Int32))) (X : Option (Int32 × Int32 × Int32 × Int32 × Int32 × Int32 × Int32 × Int32 × Int32 × (Nat → Int32) × (Nat → Int32))) : Prop := (∀ r pl, T = .inl (r, pl) → ∃ x, X = some (0, fs, c, l, pa, nm, iI r, iI pl, x, ff, nf)) ∧ (∀ S w, T = .inr (S, w) → ∃ s11, (¬ F &&& 8 = 0 → s11 = sz) ∧ X = J (iI ((w + 4 : Nat) : Int)) s11 (iI S))
theorem Pth.bad {r pl : Nat} {x fs c l pa nm : Int32} {ff nf : Nat → Int32} {sz : Int64} {F : Int32} {J : Int32 → Int64 → Int32 → Option (Int32 × Int32 × Int32 × Int32 × Int32 × Int32 × Int32 × Int32 × Int32 × (Nat → Int32) × (Nat → Int32))} : Pth (.inl (r, pl)) fs c l pa nm ff nf sz F J (some (0, fs, c, l, pa, nm, iI r, iI pl, x, ff, nf)) := ⟨fun r' pl' q => (by cases q; exact ⟨_, rfl⟩), fun S w q => (by cases q)⟩
theorem Pth.good {S w : Nat} {s11 sz : Int64} {fs c l pa nm : Int32} {ff nf : Nat → Int32} {F : Int32} {J : Int32 → Int64 → Int32 → Option (Int32 × Int32 × Int32 × Int32 × Int32 × Int32 × Int32 × Int32 × Int32 × (Nat → Int32) × (Nat → Int32))} (h : ¬ F &&& 8 = 0 → s11 = sz) : Pth (.inr (S, w)) fs c l pa nm ff nf sz F J (J (iI ((w + 4 : Nat) : Int)) s11 (iI S)) := ⟨fun r' pl' q => (by cases q), fun S' w' q => (by cases q; exact ⟨_, h, rfl⟩)⟩
theorem t_219 {inp : List Int} {mif mt ff nf mdf : Nat → Int32} {md fs c l pa nm r0 pl0 F : Int32} {s11 sz : Int64} (b2 : MR (iI inp.length) mif inp) (hy : BY inp) (i4 : inp.length ≤ 4000) {A d S w : Nat} (hS : S = A + 2 + d) (hS2 : ¬ inp.length ≤ S) (h1 : F &&& 1 = 0 ∨ 4 ≤ d) (hs : ¬ F &&& 8 = 0 → s11 = sz) : Pth (if ¬ (iI (by_ inp S) = iI ((sumS (rd inp) A (S - A)).toInt / 256 % 256)) then .inl (6, S) else if ¬ (F &&& 1 = 0) ∧ ¬ (iI (nv inp (S - 4) 4) = mt 5) then .inl (11, S - 4) else .inr (S, w)) fs c l pa nm ff nf sz F (m_Mo_readFrame_J318 (iI inp.length) md fs c l pa nm r0 pl0 4000 mif 28000 ff 28070 nf 1000 mdf F) (m_Mo_readFrame_J219 (iI inp.length) md fs c l pa nm r0 pl0 (iI A) 4000 mif 6 mt 28000 ff 28070 nf 1000 mdf F (iI ((w + 4 : Nat) : Int)) (iI ((A + 2 : Nat) : Int)) (iI ((d + 1 : Nat) : Int)) s11) := by
  unfold m_Mo_readFrame_J219 m_Mo_no
  rw [bnd_eq, show iI ((d + 1 : Nat) : Int) - 1 = iI d by rw [lit_1, iI_sub]; congr 1; omega, iI_p (A + 2) d _ rfl, ← hS, iI_sub, show (S : Int) - (A : Int) = ((S - A : Nat) : Int) by omega, t_sumOf b2 (by omega) i4 (by omega), Option.bind_some, chk_iI (by omega) (by omega), iI_clamp (by omega) (by omega), Int.toNat_natCast, t_byteAt b2 (by omega), ht_byte]
  by_cases c2 : iI (by_ inp S) = iI ((sumS (rd inp) A (S - A)).toInt / 256 % 256)
  · rw [if_pos c2.symm, if_neg (show ¬ ¬ iI (by_ inp S) = iI ((sumS (rd inp) A (S - A)).toInt / 256 % 256) from fun q => q c2)]
    by_cases f1 : F &&& 1 = 0
    · rw [if_pos f1, if_neg (show ¬ (¬ (F &&& 1 = 0) ∧ ¬ (iI (nv inp (S - 4) 4) = mt 5)) from fun q => q.1 f1)]
      exact Pth.good hs
    · have hd : 4 ≤ d := h1.resolve_left f1
      rw [if_neg f1, show iI (S : Int) - 4 = iI ((S - 4 : Nat) : Int) by rw [lit_4, iI_sub]; congr 1; omega, i_nat4, t_number b2 hy (by omega) i4 (by omega) (by omega), Option.bind_some, ck5, tc5, jI_i]
      by_cases c3 : iI (nv inp (S - 4) 4) = mt 5
      · rw [if_pos c3, if_neg (show ¬ (¬ (F &&& 1 = 0) ∧ ¬ (iI (nv inp (S - 4) 4) = mt 5)) from fun q => q.2 c3)]
        exact Pth.good hs
      · rw [if_neg c3, Option.bind_some, if_pos (show ¬ (F &&& 1 = 0) ∧ ¬ (iI (nv inp (S - 4) 4) = mt 5) from ⟨f1, c3⟩)]
        dsimp only
        rw [bch0]
        exact Pth.bad (r := 11)
  · rw [if_neg (show ¬ iI ((sumS (rd inp) A (S - A)).toInt / 256 % 256) = iI (by_ inp S) from fun q => c2 q.symm), Option.bind_some, if_pos c2]
    dsimp only
    rw [bch0]
    exact Pth.bad (r := 6)
theorem t_169 {inp : List Int} {mif mt ff nf mdf : Nat → Int32} {md fs c l pa nm r0 pl0 F : Int32} (b2 : MR (iI inp.length) mif inp) (hy : BY inp) (i4 : inp.length ≤ 4000) {A w s8 s9 : Nat} (hA : A ≤ 4000) (h8 : (F &&& 8 = 0 ∧ s8 = 0) ∨ (¬ F &&& 8 = 0 ∧ s8 = 8)) (h9 : (F &&& 1 = 0 ∧ s9 = 0) ∨ (¬ F &&& 1 = 0 ∧ s9 = 4)) : Pth (if inp.length ≤ A + 2 + s8 + s9 then .inl (1, inp.length) else if ¬ (iI (by_ inp (A + 2 + s8 + s9)) = iI ((sumS (rd inp) A (A + 2 + s8 + s9 - A)).toInt / 256 % 256)) then .inl (6, A + 2 + s8 + s9) else if ¬ (F &&& 1 = 0) ∧ ¬ (iI (nv inp (A + 2 + s8 + s9 - 4) 4) = mt 5) then .inl (11, A + 2 + s8 + s9 - 4) else .inr (A + 2 + s8 + s9, w)) fs c l pa nm ff nf (jI (nv inp (A + 2) 8)) F (m_Mo_readFrame_J318 (iI inp.length) md fs c l pa nm r0 pl0 4000 mif 28000 ff 28070 nf 1000 mdf F) (m_Mo_readFrame_J169 (iI inp.length) md fs c l pa nm r0 pl0 (iI A) 4000 mif 6 mt 28000 ff 28070 nf 1000 mdf F (iI ((w + 4 : Nat) : Int)) (iI ((A + 2 : Nat) : Int)) (iI s8) (iI s9)) := by
  unfold m_Mo_readFrame_J169 m_Mo_no
  rw [bnd_eq, iI_p s8 s9 _ rfl, iI_p (s8 + s9) 1 1 rfl, iI_sub]
  by_cases c1 : inp.length ≤ A + 2 + s8 + s9
  · rw [if_leF (by omega) (by omega) (by omega), Option.bind_some, if_pos c1]
    dsimp only
    rw [bch0]
    exact Pth.bad (r := 1)
  · rw [if_leT (by omega) (by omega) (by omega), if_neg c1]
    rcases h8 with ⟨f8, e8⟩ | ⟨f8, e8⟩
    · rw [if_pos f8]
      exact t_219 b2 hy i4 (d := s8 + s9) (by omega) c1 (by rcases h9 with q | q; exact Or.inl q.1; exact Or.inr (by omega)) (fun q => absurd f8 q)
    · rw [if_neg f8, i_nat8, t_number b2 hy (by omega) i4 (by omega) (by omega), Option.bind_some]
      exact t_219 b2 hy i4 (d := s8 + s9) (by omega) c1 (by rcases h9 with q | q; exact Or.inl q.1; exact Or.inr (by omega)) (fun _ => rfl)
theorem t_158 {inp : List Int} {mif mt ff nf mdf : Nat → Int32} {md fs c l pa nm r0 pl0 F : Int32} (b2 : MR (iI inp.length) mif inp) (hy : BY inp) (i4 : inp.length ≤ 4000) {A w s8 : Nat} (hA : A ≤ 4000) (h8 : (F &&& 8 = 0 ∧ s8 = 0) ∨ (¬ F &&& 8 = 0 ∧ s8 = 8)) : Pth (if inp.length ≤ fhS F A then .inl (1, inp.length) else if ¬ (iI (by_ inp (fhS F A)) = iI ((sumS (rd inp) A (fhS F A - A)).toInt / 256 % 256)) then .inl (6, fhS F A) else if ¬ (F &&& 1 = 0) ∧ ¬ (iI (nv inp (fhS F A - 4) 4) = mt 5) then .inl (11, fhS F A - 4) else .inr (fhS F A, w)) fs c l pa nm ff nf (jI (nv inp (A + 2) 8)) F (m_Mo_readFrame_J318 (iI inp.length) md fs c l pa nm r0 pl0 4000 mif 28000 ff 28070 nf 1000 mdf F) (m_Mo_readFrame_J158 (iI inp.length) md fs c l pa nm r0 pl0 (iI A) 4000 mif 6 mt 28000 ff 28070 nf 1000 mdf F (iI ((w + 4 : Nat) : Int)) (iI ((A + 2 : Nat) : Int)) (iI s8)) := by
  unfold m_Mo_readFrame_J158
  have e8 : (if F &&& 8 = 0 then 0 else 8) = s8 := by
    rcases h8 with ⟨f8, e8⟩ | ⟨f8, e8⟩
    · rw [if_pos f8, e8]
    · rw [if_neg f8, e8]
  by_cases f1 : F &&& 1 = 0
  · have e : fhS F A = A + 2 + s8 + 0 := by unfold fhS; rw [e8, if_pos f1]
    rw [if_pos f1, e]
    exact t_169 (s9 := 0) b2 hy i4 hA h8 (Or.inl ⟨f1, rfl⟩)
  · have e : fhS F A = A + 2 + s8 + 4 := by unfold fhS; rw [e8, if_neg f1]
    rw [if_neg f1, e]
    exact t_169 (s9 := 4) b2 hy i4 hA h8 (Or.inr ⟨f1, rfl⟩)
theorem t_ohead {inp : List Int} {mif mt ff nf mdf : Nat → Int32} {md fs c l pa nm r0 pl0 : Int32} (b2 : MR (iI inp.length) mif inp) (hy : BY inp) (i4 : inp.length ≤ 4000) {A : Nat} (hA : A ≤ inp.length) : Pth (fh inp (mt 5) A) fs c l pa nm ff nf (jI (nv inp (A + 2) 8)) (iI (by_ inp A)) (m_Mo_readFrame_J318 (iI inp.length) md fs c l pa nm r0 pl0 4000 mif 28000 ff 28070 nf 1000 mdf (iI (by_ inp A))) (m_Mo_readFrame (iI inp.length) md fs c l pa nm r0 pl0 (iI A) 4000 mif 6 mt 28000 ff 28070 nf 1000 mdf) := by
  have hF := hy.lt A
  have hW := hy.lt (A + 1)
  unfold m_Mo_readFrame m_Mo_readFrame_J125 m_Mo_no fh
  by_cases c1 : inp.length ≤ A
  · rw [if_eqT (by omega) (by omega) (by omega), Option.bind_some, if_pos c1]
    dsimp only
    rw [bch0]
    exact Pth.bad (r := 1)
  · rw [if_eqF (by omega) (by omega) (by omega), chk_iI (by omega) (by omega), iI_clamp (by omega) (by omega), Int.toNat_natCast, t_byteAt b2 (by omega), bnd_eq, if_neg c1]
    obtain ⟨F, hFF⟩ : ∃ F, by_ inp A = F := ⟨_, rfl⟩
    rw [hFF] at hF ⊢
    by_cases c2 : iI F &&& 194 = (64 : Int32)
    · rw [if_pos c2, if_neg (show ¬ ¬ iI F &&& 194 = (64 : Int32) from fun q => q c2), bnd_eq, iI_p A 1 1 rfl]
      by_cases c3 : inp.length ≤ A + 1
      · rw [if_eqT (by omega) (by omega) (by omega), Option.bind_some, if_pos c3]
        dsimp only
        rw [bch0]
        exact Pth.bad (r := 1)
      · rw [if_eqF (by omega) (by omega) (by omega), chk_iI (by omega) (by omega), iI_clamp (by omega) (by omega), Int.toNat_natCast, t_byteAt b2 (by omega), bnd_eq, if_neg c3]
        obtain ⟨W, hWW⟩ : ∃ W, by_ inp (A + 1) = W := ⟨_, rfl⟩
        rw [hWW] at hW ⊢
        have hbad : W % 16 ≠ 0 ∨ W / 16 < 4 ∨ 7 < W / 16 → Pth (if W % 16 ≠ 0 ∨ W / 16 < 4 ∨ 7 < W / 16 then .inl (5, A + 1) else if inp.length ≤ fhS (iI F) A then .inl (1, inp.length) else if ¬ (iI (by_ inp (fhS (iI F) A)) = iI ((sumS (rd inp) A (fhS (iI F) A - A)).toInt / 256 % 256)) then .inl (6, fhS (iI F) A) else if ¬ (iI F &&& 1 = 0) ∧ ¬ (iI (nv inp (fhS (iI F) A - 4) 4) = mt 5) then .inl (11, fhS (iI F) A - 4) else .inr (fhS (iI F) A, W / 16 - 4)) fs c l pa nm ff nf (jI (nv inp (A + 2) 8)) (iI F) (m_Mo_readFrame_J318 (iI inp.length) md fs c l pa nm r0 pl0 4000 mif 28000 ff 28070 nf 1000 mdf (iI F)) (some (0, fs, c, l, pa, nm, 5, iI ((A + 1 : Nat) : Int), iI ((A + 1 : Nat) : Int), ff, nf)) := by
          intro z
          rw [if_pos z]
          exact Pth.bad (r := 5)
        rw [chk_iI (by omega) (by omega), and15, ishr4 W hW, show (W : Int) % 16 = ((W % 16 : Nat) : Int) by omega]
        by_cases c6 : W % 16 = 0
        · rw [if_eq0T (by omega) (by omega), show (7 : Int32) = iI 7 from rfl]
          by_cases c4 : W / 16 < 4
          · rw [if_pos (show iI ((W / 16 : Nat) : Int) < (4 : Int32) by rw [lit_4, iI_lt (by omega) (by omega)]; omega), Option.bind_some]
            dsimp only
            rw [bch0]
            exact hbad (Or.inr (Or.inl c4))
          · rw [if_neg (show ¬ iI ((W / 16 : Nat) : Int) < (4 : Int32) by rw [lit_4, iI_lt (by omega) (by omega)]; omega)]
            by_cases c5 : 7 < W / 16
            · rw [if_leF (by omega) (by omega) (by omega), Option.bind_some]
              dsimp only
              rw [bch0]
              exact hbad (Or.inr (Or.inr c5))
            · rw [if_leT (by omega) (by omega) (by omega), bnd_eq, iI_p (A + 1) 1 1 rfl, if_neg (show ¬ (W % 16 ≠ 0 ∨ W / 16 < 4 ∨ 7 < W / 16) by omega)]
              clear hbad
              have hw : iI ((W / 16 : Nat) : Int) = iI ((W / 16 - 4 + 4 : Nat) : Int) := by congr 1; omega
              rw [hw]
              by_cases f8 : iI F &&& 8 = 0
              · rw [if_pos f8]
                exact t_158 (s8 := 0) b2 hy i4 (by omega) (Or.inl ⟨f8, rfl⟩)
              · rw [if_neg f8]
                exact t_158 (s8 := 8) b2 hy i4 (by omega) (Or.inr ⟨f8, rfl⟩)
        · rw [if_eq0F (by omega) (by omega), Option.bind_some]
          dsimp only
          rw [bch0]
          exact hbad (Or.inl c6)
    · rw [if_neg c2, if_pos c2, Option.bind_some]
      dsimp only
      rw [bch0]
      exact Pth.bad (r := 5)
