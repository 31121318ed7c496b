/-! one block, on both sides -/
def ok2 {α β : Type} (m : Option α) (m' : Option β) (P : α → β → Prop) : Prop := ∃ a b, m = some a ∧ m' = some b ∧ P a b
theorem ok2_some {α β : Type} {a : α} {b : β} {P : α → β → Prop} (h : P a b) : ok2 (some a) (some b) P := ⟨a, b, rfl, rfl, h⟩
theorem ok2_bind {α β γ δ : Type} {m : Option α} {m' : Option β} {k : α → Option γ} {k' : β → Option δ} {Q : α → β → Prop} {P : γ → δ → Prop} (h : ok2 m m' Q) (hk : ∀ a b, Q a b → ok2 (k a) (k' b) P) : ok2 (m.bind k) (m'.bind k') P := by
  obtain ⟨a, b, rfl, rfl, q⟩ := h
  exact hk a b q
theorem ok2_l {α β γ : Type} {m : Option α} {k : α → Option γ} {m' : Option β} {Q : α → Prop} {P : γ → β → Prop} (h : ok m Q) (hk : ∀ a, Q a → ok2 (k a) m' P) : ok2 (m.bind k) m' P := by
  obtain ⟨a, rfl, q⟩ := h
  exact hk a q
theorem ok2_r {α β γ : Type} {m : Option α} {k : α → Option γ} {m' : Option β} {Q : α → Prop} {P : β → γ → Prop} (h : ok m Q) (hk : ∀ a, Q a → ok2 m' (k a) P) : ok2 m' (m.bind k) P := by
  obtain ⟨a, rfl, q⟩ := h
  exact hk a q
theorem ok2_mono {α β : Type} {m : Option α} {m' : Option β} {P Q : α → β → Prop} (h : ok2 m m' Q) (hq : ∀ a b, Q a b → P a b) : ok2 m m' P := by
  obtain ⟨a, b, e1, e2, q⟩ := h
  exact ⟨a, b, e1, e2, hq a b q⟩
def St2 {S X T Y : Type} (I : S → T → Prop) (P : X → Y → Prop) : S ⊕ X → T ⊕ Y → Prop
  | .inl s, .inl t => I s t
  | .inr x, .inr y => P x y
  | _, _ => False
theorem ok2_go {S X T Y : Type} {I : S → T → Prop} {P : X → Y → Prop} {s : S} {t : T} (h : I s t) : ok2 (some (.inl s : S ⊕ X)) (some (.inl t : T ⊕ Y)) (St2 I P) := ⟨_, _, rfl, rfl, h⟩
theorem ok2_end {S X T Y : Type} {I : S → T → Prop} {P : X → Y → Prop} {x : X} {y : Y} (h : P x y) : ok2 (some (.inr x : S ⊕ X)) (some (.inr y : T ⊕ Y)) (St2 I P) := ⟨_, _, rfl, rfl, h⟩
theorem ok2_lp {S X T Y : Type} {f : S → Option (S ⊕ X)} {g : T → Option (T ⊕ Y)} {P : X → Y → Prop} (I : Nat → S → T → Prop) (n : Nat) (hb : ∀ k s t, k ≤ n → I k s t → ok2 (f s) (g t) (St2 (fun s' t' => ∃ k', k < k' ∧ k' ≤ n ∧ I k' s' t') P)) : ∀ (N : Nat) (k : Nat) (s : S) (t : T), k ≤ n → I k s t → n - k < N → ok2 (iter f N s) (iter g N t) P
  | 0, k, s, t, _, _, h => absurd h (Nat.not_lt_zero _)
  | N + 1, k, s, t, hk, hI, h => by
    unfold iter
    refine ok2_bind (hb k s t hk hI) ?_
    intro r r' hr
    cases r with
    | inl s' =>
      cases r' with
      | inl t' =>
        obtain ⟨k', h1, h2, h3⟩ := hr
        exact ok2_lp I n hb N k' s' t' h2 h3 (by omega)
      | inr y => exact hr.elim
    | inr x =>
      cases r' with
      | inl t' => exact hr.elim
      | inr y => exact ok2_some hr
theorem ok2_loop {S X T Y : Type} {f : S → Option (S ⊕ X)} {g : T → Option (T ⊕ Y)} {P : X → Y → Prop} (I : Nat → S → T → Prop) (n : Nat) (hn : n < 1048576) {s : S} {t : T} (h0 : I 0 s t) (hb : ∀ k s t, k ≤ n → I k s t → ok2 (f s) (g t) (St2 (fun s' t' => ∃ k', k < k' ∧ k' ≤ n ∧ I k' s' t') P)) : ok2 (iter f FU s) (iter g FU t) P :=
  ok2_lp I n hb FU 0 s t (Nat.zero_le _) h0 (by unfold FU; omega)
/-! the reference -/
theorem t_sequences {tf : Nat → Int32} {g : Nat → Int} {L : Nat} (h : MG tf g L) (hL : L ≤ 5000) {lean n lvl : Nat} (hnL : lean + n ≤ L) (hn : n ≤ 4000) (hlvl : lvl ≤ 2) {cnt : Int32} {f : Nat → Int32} {out : List Int} (hr : MR cnt f out) (hl : out.length + (2 * n + 1) ≤ 28000) (h0_most_f : Nat → Int32) (h0_offset_f : Nat → Int32) (h0_withCopy_f : Nat → Int32) (h0_bestCopy_f : Nat → Int32) (h0_fromHere_f : Nat → Int32) (h0_bestLiterals_f : Nat → Int32) (h0_copyAt_f : Nat → Int32) (h0_copyLength_f : Nat → Int32) (h0_copyOffset_f : Nat → Int32) : ok (m_Mo_sequences (iI lvl) cnt (iI lean) (iI n) 4000 h0_most_f 5000 tf 260000 h0_offset_f 4001 h0_withCopy_f 4001 h0_bestCopy_f 4001 h0_fromHere_f 4001 h0_bestLiterals_f 4000 h0_copyAt_f 4000 h0_copyLength_f 4000 h0_copyOffset_f 28000 f) (fun o => ∃ xs, PLAN true g lean n lvl xs ∧ MR o.1 o.2.2.2.2.2.2.2.2.2.2.2.2.2.2 (out ++ em true g lean n 0 xs) ∧ o.2.2.1 = iI xs.length ∧ o.2.2.2.1 = iI (li n 0 xs) ∧ o.2.2.2.2.1 = iI (pts true n 0 xs)) := by
  unfold m_Mo_sequences
  refine ok_bind (t_plan h hL hnL hn hlvl true _ _ _ _ _ _ _ _ _) ?_
  rintro ⟨u1, u2, u3, u4, u5, u6, u7, u8, u9, u10, u11, u12⟩ ⟨xs, hp, hca, e1, e2⟩
  dsimp only at hca e1 e2 ⊢
  have hem := em_len (sq := true) hp.1
  have hec := hp.2.2.1
  refine ok_bind (t_seqs h hL (by omega) hn hnL hr hp.1 (hp.2.1 rfl) hca (by omega) u2 u3 u4 u5 u6 u7 u8 u9) ?_
  rintro o ⟨y1, y2, y3, y4⟩
  exact ok_some ⟨xs, hp, y1, by rw [y2, e1], by rw [y3, e2], y4⟩
theorem t_elements {tf : Nat → Int32} {g : Nat → Int} {L : Nat} (h : MG tf g L) (hL : L ≤ 5000) {lean n lvl : Nat} (hnL : lean + n ≤ L) (hn : n ≤ 4000) (hlvl : lvl ≤ 2) {cnt : Int32} {f : Nat → Int32} {out : List Int} (hr : MR cnt f out) (hl : out.length + (2 * n + 3) ≤ 28000) (h0_most_f : Nat → Int32) (h0_offset_f : Nat → Int32) (h0_withCopy_f : Nat → Int32) (h0_bestCopy_f : Nat → Int32) (h0_fromHere_f : Nat → Int32) (h0_bestLiterals_f : Nat → Int32) (h0_copyAt_f : Nat → Int32) (h0_copyLength_f : Nat → Int32) (h0_copyOffset_f : Nat → Int32) : ok (m_Mo_elements (iI lvl) cnt (iI lean) (iI n) 4000 h0_most_f 5000 tf 260000 h0_offset_f 4001 h0_withCopy_f 4001 h0_bestCopy_f 4001 h0_fromHere_f 4001 h0_bestLiterals_f 4000 h0_copyAt_f 4000 h0_copyLength_f 4000 h0_copyOffset_f 28000 f) (fun o => ∃ xs, PLAN false g lean n lvl xs ∧ MR o.1 o.2.2.2.2.2.2.2.2.2.2.2.2.2.2 (out ++ (vh n ++ em false g lean n 0 xs)) ∧ o.2.2.1 = iI xs.length ∧ o.2.2.2.1 = iI (li n 0 xs) ∧ o.2.2.2.2.1 = iI (pts false n 0 xs)) := by
  unfold m_Mo_elements
  refine ok_bind (t_plan h hL hnL hn hlvl false _ _ _ _ _ _ _ _ _) ?_
  rintro ⟨u1, u2, u3, u4, u5, u6, u7, u8, u9, u10, u11, u12⟩ ⟨xs, hp, hca, e1, e2⟩
  dsimp only at hca e1 e2 ⊢
  have hem := em_len (sq := false) hp.1
  have hec := hp.2.2.1
  have hvh := vh_len n
  refine t_vhead (by omega) hr hn (by omega) (k := fun f' c' z => m_Mo_elements_E38 (iI lean) (iI n) 5000 tf 4000 4000 4000 28000 u1 u2 u3 u4 u5 u6 u7 u8 u9 u10 u11 u12 f' c' z) ?_
  intro f' c' z o hz ho he
  have hlo := congrArg List.length he
  rw [List.length_append, List.length_append, List.length_singleton] at hlo
  unfold m_Mo_elements_E38
  refine ok_bind (t_put _ ho (by omega) (by omega)) ?_
  rintro ⟨v1, v2⟩ hv
  dsimp only at hv ⊢
  rw [he] at hv
  refine ok_bind (t_elems h hL (by omega) hn hnL hv hp.1 hca (by rw [List.length_append]; omega) u2 u3 u4 u5 u6 u7 u8 u9) ?_
  rintro o ⟨y1, y2, y3, y4⟩
  exact ok_some ⟨xs, hp, by rw [← List.append_assoc]; exact y1, by rw [y2, e1], by rw [y3, e2], y4⟩
/-! the class -/
theorem s_fill {n : Nat} (hn : n ≤ 4000) (F : Nat → Int32) : ok (m_Arrays_fill_fda19 0 (iI n) 0 4000 F) (fun F' => ∀ j, j < n → F' j = 0) := by
  unfold m_Arrays_fill_fda19 m_Arrays_rangeCheck_23922
  rw [show (0 : Int32) = iI 0 from rfl, if_leT (by omega) (by omega) (by omega), if_leT (by omega) (by omega) (by omega), iI_nI, if_leT (by omega) (by omega) (by omega), Option.bind_some]
  refine ok_bind (Q := fun F' => ∀ j, j < n → F' j = iI 0) ?_ (fun o ho => ok_some ho)
  refine ok_loop (fun k s => s.2 = iI k ∧ ∀ j, j < k → s.1 j = iI 0) n (by omega) ⟨rfl, fun j hj => absurd hj (Nat.not_lt_zero _)⟩ ?_
  rintro k ⟨s1, s2⟩ hk ⟨e1, e2⟩
  dsimp only at e1 e2
  subst e1
  unfold m_Arrays_fill_fda19_B10
  dsimp only
  by_cases c : n ≤ k
  · simp (disch := omega) only [bnd_eq, Option.bind_some, lit_0, lit_1, lit_m1, lit_4, lit_5000, iI_nI, iI_add, iI_sub, iI_mul, iI_neg, chk_iI, iI_clamp, iI_lt, iI_le, iI_eq, if_pos, if_neg, if_true, if_false, Int.toNat_natCast]
    exact ok_end (fun j hj => e2 j (by omega))
  · simp (disch := omega) only [bnd_eq, Option.bind_some, lit_0, lit_1, lit_m1, lit_4, lit_5000, iI_nI, iI_add, iI_sub, iI_mul, iI_neg, chk_iI, iI_clamp, iI_lt, iI_le, iI_eq, if_pos, if_neg, if_true, if_false, Int.toNat_natCast]
    refine ok_go ⟨k + 1, by omega, by omega, by simp, fun j hj => ?_⟩
    dsimp only
    by_cases z : j = k
    · rw [z, pk_us]
    · rw [pk_un z]
      exact e2 j (by omega)
theorem s_block_S {cnt ct : Int32} {f hF bF lF : Nat → Int32} {t out : List Int} (h : BR 12000 cnt f out) (ht : TR ct hF bF lF t) {n base lvl : Nat} (hn : n ≤ 4000) (hb : base + n ≤ t.length) {xs : List (Nat × Nat)} (hp : PLAN true (gx t) base n lvl xs) (hl : out.length + (2 * n + 1) ≤ 12000) (h1 : Nat) (h0_copyAt_f : Nat → Int32) (w_h0_bestRow_form : Value) (h0_bestRow_count : Int32) (h0_text_foundOffset : Int32) (h0_text_downPlace : Int32) (h0_text_downLimit : Int32) (h0_text_downMost : Int32) (h0_text_downOffset : Int32) (h0_bestRow_rests_last : Int32) (h0_bestRow_copies_last : Int32) (h0_bestRow_lengthOfCopy_f : Nat → Int32) (h0_bestRow_rests_value_f : Nat → Int32) (h0_bestRow_rests_leastOnward_f : Nat → Int32) (h0_bestRow_rests_leastSoFar_f : Nat → Int32) (h0_bestRow_copies_value_f : Nat → Int32) (h0_bestRow_copies_leastOnward_f : Nat → Int32) (h0_bestRow_copies_leastSoFar_f : Nat → Int32) (h0_bestRow_placeOfCopy_f : Nat → Int32) (hd : DN (gx t) t.length h0_text_downPlace h0_text_downLimit h0_text_downMost h0_text_downOffset) : ok (m_Packer_packBlock_S h1 (iI base) (iI n) (iI lvl) 4000 h0_copyAt_f w_h0_bestRow_form h0_bestRow_count ct h0_text_foundOffset h0_text_downPlace h0_text_downLimit h0_text_downMost h0_text_downOffset 1 h0_bestRow_rests_last 0 h0_bestRow_copies_last 5000 hF 5000 bF 4001 h0_bestRow_lengthOfCopy_f 4001 h0_bestRow_rests_value_f 4001 h0_bestRow_rests_leastOnward_f 4001 h0_bestRow_rests_leastSoFar_f 4001 h0_bestRow_copies_value_f 4001 h0_bestRow_copies_leastOnward_f 4001 h0_bestRow_copies_leastSoFar_f 4001 h0_bestRow_placeOfCopy_f cnt 12000 f) (fun o => o.2.2.1 = iI xs.length ∧ o.2.2.2.1 = iI (li n 0 xs) ∧ o.2.2.2.2.1 = iI (pts true n 0 xs) ∧ DN (gx t) t.length o.2.2.2.2.2.2.2.2.2.1 o.2.2.2.2.2.2.2.2.2.2.1 o.2.2.2.2.2.2.2.2.2.2.2.1 o.2.2.2.2.2.2.2.2.2.2.2.2.1 ∧ BR 12000 o.2.2.2.2.2.2.2.2.2.2.2.2.2.2.2.2.2.2.2.2.2.2.2.1 o.2.2.2.2.2.2.2.2.2.2.2.2.2.2.2.2.2.2.2.2.2.2.2.2 (out ++ em true (gx t) base n 0 xs)) := by
  obtain ⟨hgl, h4, hec, M, hm, hpl⟩ := hp
  have hem := em_len (sq := true) hgl
  have hend : ∀ (F f3 f4 f5 f6 f7 f8 f9 f10 : Nat → Int32) (g12 : Value) (g13 g14 g15 g16 g17 g18 g19 g20 : Int32), FA n F xs → DN (gx t) t.length g17 g18 g19 g20 → ok (m_Packer_packBlock_S_J80 (iI base) 4000 ct 5000 hF 5000 bF cnt 12000 f (iI n) f3 f4 f5 f6 f7 f8 f9 f10 F g12 g13 g14 g15 g16 g17 g18 g19 g20) (fun o => o.2.2.1 = iI xs.length ∧ o.2.2.2.1 = iI (li n 0 xs) ∧ o.2.2.2.2.1 = iI (pts true n 0 xs) ∧ DN (gx t) t.length o.2.2.2.2.2.2.2.2.2.1 o.2.2.2.2.2.2.2.2.2.2.1 o.2.2.2.2.2.2.2.2.2.2.2.1 o.2.2.2.2.2.2.2.2.2.2.2.2.1 ∧ BR 12000 o.2.2.2.2.2.2.2.2.2.2.2.2.2.2.2.2.2.2.2.2.2.2.2.1 o.2.2.2.2.2.2.2.2.2.2.2.2.2.2.2.2.2.2.2.2.2.2.2.2 (out ++ em true (gx t) base n 0 xs)) := by
    intro F f3 f4 f5 f6 f7 f8 f9 f10 g12 g13 g14 g15 g16 g17 g18 g19 g20 hF hdn
    unfold m_Packer_packBlock_S_J80
    unfold m_Sequences_writeHead
    rw [Option.bind_some]
    refine ok_bind (s_row_S h ht (by omega) hn hb hgl hF h4 (by omega)) ?_
    rintro ⟨v1, v2, v3, v4, v5⟩ ⟨y1, y2, y3, y4⟩
    exact ok_some ⟨y1, y2, y3, hdn, y4⟩
  unfold m_Packer_packBlock_S
  rw [lit_4000, iI_min (by omega) (by omega), show imax (0 : Int32) (iI (min (n : Int) 4000)) = iI n by rw [show (0 : Int32) = iI 0 from rfl, iI_max (by omega) (by omega)]; congr 1; omega, bnd_eq]
  refine ok_bind (s_fill hn _) ?_
  intro F hF0
  rcases hpl with ⟨rfl, R, C, K, N, hdp, rfl⟩ | ⟨hlv, rfl⟩
  · rw [if_pos (by rfl)]
    refine ok_bind (s_find_S ht hn hb hdp hm _ _ _ _ _ hd _ _ _ _ _ _ _ _) ?_
    rintro ⟨v0, v1, v2, v3, v4, v5, v6, v7, v8, v9, v10, v11, v12, v13, v14, v15⟩ ⟨y1, y2, y3⟩
    dsimp only at y1 y2 y3 ⊢
    subst y1
    refine ok_bind (s_bestRow hdp hm hn y3 hF0) ?_
    intro F2 hF2
    exact hend _ _ _ _ _ _ _ _ _ _ _ _ _ _ _ _ _ _ hF2 y2
  · rw [if_neg (by rw [lit_2, iI_eq (by omega) (by omega)]; omega)]
    have hlz : iI lvl = iI (if (lvl == 1) = true then 1 else 0) := by
      by_cases c : lvl = 1
      · subst c; rfl
      · rw [show lvl = 0 by omega]; rfl
    rw [hlz]
    refine ok_bind (s_longest_S ht hn hb hm _ (lvl == 1) hF0) ?_
    rintro ⟨v1, v2⟩ hv
    dsimp only at hv ⊢
    exact hend _ _ _ _ _ _ _ _ _ _ _ _ _ _ _ _ _ _ hv hd
theorem s_block_E {cnt ct : Int32} {f hF bF lF : Nat → Int32} {t out : List Int} (h : BR 12000 cnt f out) (ht : TR ct hF bF lF t) {n base lvl : Nat} (hn : n ≤ 4000) (hb : base + n ≤ t.length) {xs : List (Nat × Nat)} (hp : PLAN false (gx t) base n lvl xs) (hl : out.length + (2 * n + 3) ≤ 12000) (h1 : Nat) (h0_copyAt_f : Nat → Int32) (w_h0_bestRow_form : Value) (h0_bestRow_count : Int32) (h0_text_foundOffset : Int32) (h0_text_downPlace : Int32) (h0_text_downLimit : Int32) (h0_text_downMost : Int32) (h0_text_downOffset : Int32) (h0_bestRow_rests_last : Int32) (h0_bestRow_copies_last : Int32) (h0_bestRow_lengthOfCopy_f : Nat → Int32) (h0_bestRow_rests_value_f : Nat → Int32) (h0_bestRow_rests_leastOnward_f : Nat → Int32) (h0_bestRow_rests_leastSoFar_f : Nat → Int32) (h0_bestRow_copies_value_f : Nat → Int32) (h0_bestRow_copies_leastOnward_f : Nat → Int32) (h0_bestRow_copies_leastSoFar_f : Nat → Int32) (h0_bestRow_placeOfCopy_f : Nat → Int32) (hd : DN (gx t) t.length h0_text_downPlace h0_text_downLimit h0_text_downMost h0_text_downOffset) : ok (m_Packer_packBlock_E h1 (iI base) (iI n) (iI lvl) 4000 h0_copyAt_f w_h0_bestRow_form h0_bestRow_count ct h0_text_foundOffset h0_text_downPlace h0_text_downLimit h0_text_downMost h0_text_downOffset 1 h0_bestRow_rests_last 0 h0_bestRow_copies_last 5000 hF 5000 bF 4001 h0_bestRow_lengthOfCopy_f 4001 h0_bestRow_rests_value_f 4001 h0_bestRow_rests_leastOnward_f 4001 h0_bestRow_rests_leastSoFar_f 4001 h0_bestRow_copies_value_f 4001 h0_bestRow_copies_leastOnward_f 4001 h0_bestRow_copies_leastSoFar_f 4001 h0_bestRow_placeOfCopy_f cnt 12000 f) (fun o => o.2.2.1 = iI xs.length ∧ o.2.2.2.1 = iI (li n 0 xs) ∧ o.2.2.2.2.1 = iI (pts false n 0 xs) ∧ DN (gx t) t.length o.2.2.2.2.2.2.2.2.2.1 o.2.2.2.2.2.2.2.2.2.2.1 o.2.2.2.2.2.2.2.2.2.2.2.1 o.2.2.2.2.2.2.2.2.2.2.2.2.1 ∧ BR 12000 o.2.2.2.2.2.2.2.2.2.2.2.2.2.2.2.2.2.2.2.2.2.2.2.1 o.2.2.2.2.2.2.2.2.2.2.2.2.2.2.2.2.2.2.2.2.2.2.2.2 (out ++ (vh n ++ em false (gx t) base n 0 xs))) := by
  obtain ⟨hgl, h4, hec, M, hm, hpl⟩ := hp
  have hem := em_len (sq := false) hgl
  have hend : ∀ (F f3 f4 f5 f6 f7 f8 f9 f10 : Nat → Int32) (g12 : Value) (g13 g14 g15 g16 g17 g18 g19 g20 : Int32), FA n F xs → DN (gx t) t.length g17 g18 g19 g20 → ok (m_Packer_packBlock_E_J80 (iI base) 4000 ct 5000 hF 5000 bF cnt 12000 f (iI n) f3 f4 f5 f6 f7 f8 f9 f10 F g12 g13 g14 g15 g16 g17 g18 g19 g20) (fun o => o.2.2.1 = iI xs.length ∧ o.2.2.2.1 = iI (li n 0 xs) ∧ o.2.2.2.2.1 = iI (pts false n 0 xs) ∧ DN (gx t) t.length o.2.2.2.2.2.2.2.2.2.1 o.2.2.2.2.2.2.2.2.2.2.1 o.2.2.2.2.2.2.2.2.2.2.2.1 o.2.2.2.2.2.2.2.2.2.2.2.2.1 ∧ BR 12000 o.2.2.2.2.2.2.2.2.2.2.2.2.2.2.2.2.2.2.2.2.2.2.2.1 o.2.2.2.2.2.2.2.2.2.2.2.2.2.2.2.2.2.2.2.2.2.2.2.2 (out ++ (vh n ++ em false (gx t) base n 0 xs))) := by
    intro F f3 f4 f5 f6 f7 f8 f9 f10 g12 g13 g14 g15 g16 g17 g18 g19 g20 hF hdn
    unfold m_Packer_packBlock_E_J80
    have hvh := vh_len n
    refine ok_bind (s_vhead hn h (by omega) (by omega)) ?_
    rintro ⟨w1, w2⟩ hw
    dsimp only at hw ⊢
    refine ok_bind (s_row_E hw ht (by omega) hn hb hgl hF h4 (by rw [List.length_append]; omega)) ?_
    rintro ⟨v1, v2, v3, v4, v5⟩ ⟨y1, y2, y3, y4⟩
    exact ok_some ⟨y1, y2, y3, hdn, by rw [← List.append_assoc]; exact y4⟩
  unfold m_Packer_packBlock_E
  rw [lit_4000, iI_min (by omega) (by omega), show imax (0 : Int32) (iI (min (n : Int) 4000)) = iI n by rw [show (0 : Int32) = iI 0 from rfl, iI_max (by omega) (by omega)]; congr 1; omega, bnd_eq]
  refine ok_bind (s_fill hn _) ?_
  intro F hF0
  rcases hpl with ⟨rfl, R, C, K, N, hdp, rfl⟩ | ⟨hlv, rfl⟩
  · rw [if_pos (by rfl)]
    refine ok_bind (s_find_E ht hn hb hdp hm _ _ _ _ _ hd _ _ _ _ _ _ _ _) ?_
    rintro ⟨v0, v1, v2, v3, v4, v5, v6, v7, v8, v9, v10, v11, v12, v13, v14, v15⟩ ⟨y1, y2, y3⟩
    dsimp only at y1 y2 y3 ⊢
    subst y1
    refine ok_bind (s_bestRow hdp hm hn y3 hF0) ?_
    intro F2 hF2
    exact hend _ _ _ _ _ _ _ _ _ _ _ _ _ _ _ _ _ _ hF2 y2
  · rw [if_neg (by rw [lit_2, iI_eq (by omega) (by omega)]; omega)]
    have hlz : iI lvl = iI (if (lvl == 1) = true then 1 else 0) := by
      by_cases c : lvl = 1
      · subst c; rfl
      · rw [show lvl = 0 by omega]; rfl
    rw [hlz]
    refine ok_bind (s_longest_E ht hn hb hm _ (lvl == 1) hF0) ?_
    rintro ⟨v1, v2⟩ hv
    dsimp only at hv ⊢
    exact hend _ _ _ _ _ _ _ _ _ _ _ _ _ _ _ _ _ _ hv hd
