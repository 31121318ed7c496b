/-! the reference's runs: the most at each place, and the nearest of each length -/
theorem lit_64 : (64 : Int32) = iI 64 := by decide
theorem lit_65 : (65 : Int32) = iI 65 := by decide
theorem Most.any {g : Nat → Int} {b lim s s' r : Nat} (h : Most g b lim s r) (hs : b ≤ s) (hs' : b ≤ s') : Most g b lim s' r := by
  refine ⟨h.1, fun q => ?_, fun a k x1 x2 x3 x4 => h.2.2 a k x1 (by omega) x3 x4⟩
  obtain ⟨a, x1, x2, x3⟩ := h.2.1 q
  exact ⟨a, x1, by omega, x3⟩
theorem Most.step {g : Nat → Int} {b lim s m r : Nat} (h : Most g b lim s m) (hs : s + 1 ≤ b) (al : Al g (b - (s + 1)) b lim r) : Most g b lim (s + 1) (max m r) := by
  have a1 := al.1
  have h1 := h.1
  refine ⟨by omega, fun q => ?_, fun a k x1 x2 x3 x4 => ?_⟩
  · by_cases c : r ≤ m
    · rw [show max m r = m by omega] at q ⊢
      obtain ⟨a, x1, x2, x3⟩ := h.2.1 q
      exact ⟨a, x1, by omega, x3⟩
    · rw [show max m r = r by omega]
      exact ⟨b - (s + 1), by omega, by omega, al.2.1⟩
  · by_cases c : a = b - (s + 1)
    · rw [c] at x4
      have := al.max x3 x4
      omega
    · have := h.2.2 a k x1 (by omega) x3 x4
      omega
theorem Most.cut {g : Nat → Int} {b lim s m l : Nat} (h : Most g b lim s m) (hl : l ≤ lim) : Most g b l s (min l m) := by
  refine ⟨by omega, fun q => ?_, fun a k x1 x2 x3 x4 => ?_⟩
  · obtain ⟨a, x1, x2, x3⟩ := h.2.1 (by omega)
    exact ⟨a, x1, x2, x3.mono (by omega)⟩
  · have := h.2.2 a k x1 x2 (by omega) x4
    omega
def RU (g : Nat → Int) (lean n : Nat) (ea : Prop) (sp : Nat → Nat) (f off : Nat → Int32) : Prop := ∀ p, p < n → ∃ m : Nat, f p = iI m ∧ Most g (lean + p) (n - p) (sp p) m ∧ (ea → ∀ k, 1 ≤ k → k ≤ m → k ≤ 64 → ∃ q : Nat, off (65 * p + k) = iI q ∧ Near g (lean + p) k q)
/-- the row of the offsets, written for some lengths -/
def wr (off : Nat → Int32) (lo hi : Nat) (v : Int32) (x : Nat) : Int32 := if lo ≤ x ∧ x < hi then v else off x
theorem t_runs1 {g : Nat → Int} {lean n : Nat} {ea : Prop} {sp : Nat → Nat} {f off : Nat → Int32} (h : RU g lean n ea sp f off) {p o m r : Nat} (hp : p < n) (ho : 1 ≤ o) (hob : o ≤ lean + p) (x2 : Most g (lean + p) (n - p) (sp p) m) (x3 : ea → ∀ k, 1 ≤ k → k ≤ m → k ≤ 64 → ∃ q : Nat, off (65 * p + k) = iI q ∧ Near g (lean + p) k q) (hsp : sp p + 1 = o) (al : Al g (lean + p - o) (lean + p) (n - p) r) {off2 : Nat → Int32} (hoff : ea → off2 = wr off (65 * p + (m + 1)) (65 * p + (min r 64 + 1)) (iI o)) : RU g lean n ea (fun j => if j = p then o else sp j) (upd f p (iI ((max m r : Nat) : Int))) off2 := by
  intro j hj
  by_cases e : j = p
  · subst e
    refine ⟨max m r, by rw [pk_us], ?_, fun q k k1 k2 k3 => ?_⟩
    · dsimp only
      rw [if_pos rfl]
      subst hsp
      exact x2.step (by omega) al
    · rw [hoff q]
      unfold wr
      by_cases c : k ≤ m
      · obtain ⟨q', y1, y2⟩ := x3 q k k1 c k3
        refine ⟨q', ?_, y2⟩
        rw [if_neg (by omega), y1]
      · refine ⟨o, by rw [if_pos (by omega)], ho, hob, al.2.1.mono (by omega), fun o' z1 z2 z3 => ?_⟩
        have := al.1
        have := x2.2.2 (lean + j - o') k (by omega) (by omega) (by omega) z3
        omega
  · obtain ⟨m', x1, x2, x3⟩ := h j hj
    refine ⟨m', by rw [pk_un e]; exact x1, by dsimp only; rw [if_neg e]; exact x2, fun q k k1 k2 k3 => ?_⟩
    obtain ⟨q', y1, y2⟩ := x3 q k k1 k2 k3
    refine ⟨q', ?_, y2⟩
    rw [hoff q]
    unfold wr
    rw [if_neg (by omega), y1]
theorem wr_nil (off : Nat → Int32) {lo hi : Nat} (h : hi ≤ lo) (v : Int32) : wr off lo hi v = off := by
  funext x
  unfold wr
  rw [if_neg (by omega)]
theorem wr_s (off : Nat → Int32) {lo hi : Nat} (h : lo ≤ hi) (v : Int32) : upd (wr off lo hi v) hi v = wr off lo (hi + 1) v := by
  funext x
  by_cases e : x = hi
  · rw [e, pk_us]
    unfold wr
    rw [if_pos (by omega)]
  · rw [pk_un e]
    unfold wr
    by_cases c : lo ≤ x ∧ x < hi
    · rw [if_pos c, if_pos (by omega)]
    · rw [if_neg c, if_neg (by omega)]
theorem t_runs2 {ea : Prop} {a1 : Int32} (hea : ea → a1 ≠ 0) (off : Nat → Int32) {p m r o : Nat} (hp : p < 4000) (hm : m ≤ 4000) (hr : r ≤ 4000) (ho : o ≤ 5000) : ok (iter (fun st => m_Mo_runs_B112 a1 260000 (iI o) (iI p) (iI r) st.1 st.2) FU (off, iI ((m : Int) + 1))) (fun x => ea → x = wr off (65 * p + (m + 1)) (65 * p + (min r 64 + 1)) (iI o)) := by
  refine ok_loop (fun i s => s.2 = iI ((m : Int) + 1 + i) ∧ s.1 = wr off (65 * p + (m + 1)) (65 * p + (m + 1 + i)) (iI o) ∧ (i = 0 ∨ m + i ≤ min r 64)) 4000 (by omega) ⟨by simp, by rw [wr_nil _ (by omega)], Or.inl rfl⟩ ?_
  rintro k ⟨s1, s2⟩ hk ⟨e1, e2, e3⟩
  dsimp only at e1 e2
  subst e1 e2
  unfold m_Mo_runs_B112
  by_cases c0 : a1 = 0
  · rw [if_pos c0]
    exact ok_end (fun q => absurd c0 (hea q))
  · rw [if_neg c0]
    by_cases c1 : m + 1 + k ≤ min r 64
    · simp (disch := omega) only [bnd_eq, Option.bind_some, lit_0, lit_1, lit_m1, lit_4, lit_5000, iI_nI, iI_add, iI_sub, iI_mul, iI_neg, chk_iI, iI_clamp, iI_lt, iI_le, iI_eq, if_pos, if_neg, Int.toNat_natCast, lit_64, lit_65]
      refine ok_go ⟨k + 1, by omega, by omega, by simp [Int.add_assoc], ?_, Or.inr (by omega)⟩
      rw [show ((65 : Int) * (p : Int) + ((m : Int) + 1 + (k : Int))).toNat = 65 * p + (m + 1 + k) by omega]
      exact wr_s _ (by omega) _
    · by_cases c2 : (r : Int) < (m : Int) + 1 + k
      · simp (disch := omega) only [bnd_eq, Option.bind_some, lit_0, lit_1, lit_m1, lit_4, lit_5000, iI_nI, iI_add, iI_sub, iI_mul, iI_neg, chk_iI, iI_clamp, iI_lt, iI_le, iI_eq, if_pos, if_neg, Int.toNat_natCast, lit_64, lit_65]
        refine ok_end (fun _ => ?_)
        rcases e3 with e3 | e3
        · subst e3
          rw [wr_nil _ (by omega), wr_nil _ (by omega)]
        · rw [show m + 1 + k = min r 64 + 1 by omega]
      · simp (disch := omega) only [bnd_eq, Option.bind_some, lit_0, lit_1, lit_m1, lit_4, lit_5000, iI_nI, iI_add, iI_sub, iI_mul, iI_neg, chk_iI, iI_clamp, iI_lt, iI_le, iI_eq, if_pos, if_neg, Int.toNat_natCast, lit_64, lit_65]
        refine ok_end (fun _ => ?_)
        rcases e3 with e3 | e3
        · subst e3
          rw [wr_nil _ (by omega), wr_nil _ (by omega)]
        · rw [show m + 1 + k = min r 64 + 1 by omega]
def Irun (g : Nat → Int) (lean n : Nat) (ea : Prop) (o : Nat) (k : Nat) (s : (Nat → Int32) × (Nat → Int32) × Int32 × Int32) : Prop := ∃ r : Nat, s.2.2.1 = iI r ∧ s.2.2.2 = iI ((n : Int) - 1 - k) ∧ RU g lean n ea (fun p => if n ≤ p + k then o + 1 else o) s.1 s.2.1 ∧ (o + 1 ≤ lean + (n - k) → Al g (lean + (n - k) - (o + 1)) (lean + (n - k)) k r) ∧ r ≤ k
theorem RU.sp {g : Nat → Int} {lean n : Nat} {ea : Prop} {sp sp' : Nat → Nat} {f off : Nat → Int32} (h : RU g lean n ea sp f off) (hs : ∀ p, p < n → sp p = sp' p ∨ (lean + p ≤ sp p ∧ lean + p ≤ sp' p)) : RU g lean n ea sp' f off := by
  intro p hp
  obtain ⟨m, x1, x2, x3⟩ := h p hp
  refine ⟨m, x1, ?_, x3⟩
  rcases hs p hp with e | e
  · rw [← e]; exact x2
  · exact x2.any e.1 e.2
theorem t_runs3 {f : Nat → Int32} {g : Nat → Int} {L : Nat} (h : MG f g L) (hL : L ≤ 5000) {lean n : Nat} (hn : lean + n ≤ L) (hn4 : n ≤ 4000) {ea : Prop} {a1 : Int32} (hea : ea → a1 ≠ 0) {mf off : Nat → Int32} {o : Nat} (ho : o + 1 < lean + n) (hr : RU g lean n ea (fun _ => o) mf off) : ok (iter (fun st => m_Mo_runs_B48 a1 (iI lean) 4000 5000 f 260000 (iI ((o : Int) + 1)) st.1 st.2.1 st.2.2.1 st.2.2.2) FU (mf, off, (0 : Int32), iI ((n : Int) - 1))) (fun x => RU g lean n ea (fun _ => o + 1) x.1 x.2) := by
  refine ok_loop (Irun g lean n ea o) n (by omega) ⟨0, rfl, by simp, hr.sp (fun p hp => Or.inl (by rw [if_neg (by omega)])), fun q => ⟨by omega, E.zero _ _ _, fun q => absurd q (by omega)⟩, by omega⟩ ?_
  rintro k ⟨s1, s2, s3, s4⟩ hk ⟨r, e1, e2, e3, e4, e5⟩
  dsimp only at e1 e2 e3
  subst e1 e2
  unfold m_Mo_runs_B48
  by_cases c1 : (n : Int) - 1 - k < 0
  · simp (disch := omega) only [bnd_eq, Option.bind_some, lit_0, lit_1, lit_m1, lit_4, lit_5000, iI_nI, iI_add, iI_sub, iI_mul, iI_neg, chk_iI, iI_clamp, iI_lt, iI_le, iI_eq, if_pos, if_neg, Int.toNat_natCast]
    exact ok_end (e3.sp (fun p hp => Or.inl (by rw [if_pos (by omega)])))
  · by_cases c2 : (lean : Int) + ((n : Int) - 1 - k) < (o : Int) + 1
    · simp (disch := omega) only [bnd_eq, Option.bind_some, lit_0, lit_1, lit_m1, lit_4, lit_5000, iI_nI, iI_add, iI_sub, iI_mul, iI_neg, chk_iI, iI_clamp, iI_lt, iI_le, iI_eq, if_pos, if_neg, Int.toNat_natCast]
      refine ok_end (e3.sp (fun p hp => ?_))
      by_cases c3 : n ≤ p + k
      · exact Or.inl (by rw [if_pos c3])
      · right
        rw [if_neg c3]
        omega
    · simp (disch := omega) only [bnd_eq, Option.bind_some, lit_0, lit_1, lit_m1, lit_4, lit_5000, iI_nI, iI_add, iI_sub, iI_mul, iI_neg, chk_iI, iI_clamp, iI_lt, iI_le, iI_eq, if_pos, if_neg, Int.toNat_natCast]
      obtain ⟨m, x1, x2, x3⟩ := e3 (n - 1 - k) (by omega)
      dsimp only at x2
      rw [if_neg (by omega)] at x2
      have x4 := x2.1
      have hJ : ∀ r2 : Nat, r2 ≤ k + 1 → Al g (lean + (n - 1 - k) - (o + 1)) (lean + (n - 1 - k)) (n - (n - 1 - k)) r2 → ok (m_Mo_runs_J100 a1 4000 260000 (iI ((o : Int) + 1)) s1 s2 (iI ((n : Int) - 1 - k)) (iI r2)) (St (fun s' => ∃ k', k < k' ∧ k' ≤ n ∧ Irun g lean n ea o k' s') (fun x => RU g lean n ea (fun _ => o + 1) x.1 x.2)) := by
        intro r2 y1 al
        unfold m_Mo_runs_J100 m_Mo_runs_E149
        simp (disch := omega) only [bnd_eq, Option.bind_some, lit_0, lit_1, lit_m1, lit_4, lit_5000, iI_nI, iI_add, iI_sub, iI_mul, iI_neg, chk_iI, iI_clamp, iI_lt, iI_le, iI_eq, if_pos, if_neg, Int.toNat_natCast]
        rw [show ((n : Int) - 1 - (k : Int)).toNat = n - 1 - k by omega, x1]
        simp (disch := omega) only [bnd_eq, Option.bind_some, lit_0, lit_1, lit_m1, lit_4, lit_5000, iI_nI, iI_add, iI_sub, iI_mul, iI_neg, chk_iI, iI_clamp, iI_lt, iI_le, iI_eq, if_pos, if_neg, Int.toNat_natCast]
        have e := t_runs2 hea s2 (p := n - 1 - k) (m := m) (r := r2) (o := o + 1) (by omega) (by omega) (by omega) (by omega)
        rw [show ((n - 1 - k : Nat) : Int) = (n : Int) - 1 - k by omega, show ((o + 1 : Nat) : Int) = (o : Int) + 1 by omega] at e
        refine ok_bind e ?_
        intro off2 ho2
        rw [t_great (by omega) (by omega)]
        simp (disch := omega) only [bnd_eq, Option.bind_some, lit_0, lit_1, lit_m1, lit_4, lit_5000, iI_nI, iI_add, iI_sub, iI_mul, iI_neg, chk_iI, iI_clamp, iI_lt, iI_le, iI_eq, if_pos, if_neg, Int.toNat_natCast]
        have e6 := t_runs1 e3 (p := n - 1 - k) (o := o + 1) (m := m) (r := r2) (off2 := off2) (by omega) (by omega) (by omega) (by rw [if_neg (by omega)]; exact x2) x3 (by rw [if_neg (by omega)]) al (fun q => by rw [show ((o + 1 : Nat) : Int) = (o : Int) + 1 by omega]; exact ho2 q)
        refine ok_go ⟨k + 1, by omega, by omega, r2, rfl, ?_, ?_, fun q => ?_, by omega⟩
        · show iI ((n : Int) - 1 - k + -1) = iI ((n : Int) - 1 - ((k + 1 : Nat) : Int))
          congr 1
          omega
        · rw [show max (m : Int) (r2 : Int) = ((max m r2 : Nat) : Int) by omega]
          refine e6.sp (fun p hp => Or.inl ?_)
          by_cases z : p = n - 1 - k
          · rw [if_pos z, if_pos (by omega)]
          · rw [if_neg z]
            by_cases z2 : n ≤ p + k
            · rw [if_pos z2, if_pos (by omega)]
            · rw [if_neg z2, if_neg (by omega)]
        · rw [show n - (k + 1) = n - 1 - k by omega]
          rw [show n - (n - 1 - k) = k + 1 by omega] at al
          exact al
      rw [show ((lean : Int) + ((n : Int) - 1 - (k : Int))).toNat = lean + (n - 1 - k) by omega, show ((lean : Int) + ((n : Int) - 1 - (k : Int)) - ((o : Int) + 1)).toNat = lean + (n - 1 - k) - (o + 1) by omega]
      simp only [h.eq (show lean + (n - 1 - k) < L by omega) (show lean + (n - 1 - k) - (o + 1) < L by omega)]
      by_cases c3 : g (lean + (n - 1 - k)) = g (lean + (n - 1 - k) - (o + 1))
      · rw [if_pos c3]
        have al := e4 (by omega)
        have := hJ (r + 1) (by omega) ?_
        · rw [show ((r + 1 : Nat) : Int) = (r : Int) + 1 by omega] at this
          exact this
        · refine ⟨by omega, fun i hi => ?_, fun q => ?_⟩
          · cases i with
            | zero => exact c3.symm
            | succ i =>
              have := al.2.1 i (by omega)
              rw [show lean + (n - k) - (o + 1) + i = lean + (n - 1 - k) - (o + 1) + (i + 1) by omega, show lean + (n - k) + i = lean + (n - 1 - k) + (i + 1) by omega] at this
              exact this
          · have := al.2.2 (by omega)
            rw [show lean + (n - k) - (o + 1) + r = lean + (n - 1 - k) - (o + 1) + (r + 1) by omega, show lean + (n - k) + r = lean + (n - 1 - k) + (r + 1) by omega] at this
            exact this
      · rw [if_neg c3]
        exact hJ 0 (by omega) ⟨by omega, E.zero _ _ _, fun _ q => c3 q.symm⟩
theorem t_runs {f : Nat → Int32} {g : Nat → Int} {L : Nat} (h : MG f g L) (hL : L ≤ 5000) {lean n : Nat} (hn : lean + n ≤ L) (hn4 : n ≤ 4000) {ea : Prop} {a1 : Int32} (hea : ea → a1 ≠ 0) (mf off : Nat → Int32) : ok (m_Mo_runs a1 (iI lean) (iI n) 4000 mf 5000 f 260000 off) (fun x => RU g lean n ea (fun _ => 5000) x.1 x.2) := by
  unfold m_Mo_runs
  refine ok_bind (Q := fun x => ∀ p, p < n → x p = 0) ?_ ?_
  · refine ok_loop (fun k s => s.2 = iI k ∧ ∀ p, p < k → s.1 p = 0) n (by omega) ⟨rfl, fun p hp => absurd hp (by omega)⟩ ?_
    rintro k ⟨s1, s2⟩ hk ⟨e1, e2⟩
    dsimp only at e1 e2
    subst e1
    unfold m_Mo_runs_B2
    by_cases c : n ≤ k
    · simp (disch := omega) only [bnd_eq, Option.bind_some, lit_0, lit_1, lit_m1, lit_4, lit_5000, iI_nI, iI_add, iI_sub, iI_mul, iI_neg, chk_iI, iI_clamp, iI_lt, iI_le, iI_eq, if_pos, if_neg, Int.toNat_natCast]
      exact ok_end (fun p hp => e2 p (by omega))
    · simp (disch := omega) only [bnd_eq, Option.bind_some, lit_0, lit_1, lit_m1, lit_4, lit_5000, iI_nI, iI_add, iI_sub, iI_mul, iI_neg, chk_iI, iI_clamp, iI_lt, iI_le, iI_eq, if_pos, if_neg, Int.toNat_natCast]
      refine ok_go ⟨k + 1, by omega, by omega, by simp, fun p hp => ?_⟩
      by_cases z : p = k
      · rw [z]; exact pk_us
      · dsimp only
        rw [pk_un z]
        exact e2 p (by omega)
  · intro x hx
    unfold m_Mo_runs_E23
    refine ok_bind (Q := fun x => RU g lean n ea (fun _ => 5000) x.1 x.2) ?_ (fun o ho => ok_some ho)
    refine ok_loop (fun k s => s.2.2 = iI ((k : Int) + 1) ∧ RU g lean n ea (fun _ => k) s.1 s.2.1) (lean + n) (by omega) ⟨rfl, fun p hp => ⟨0, hx p hp, ⟨by omega, fun q => absurd q (by omega), fun a k x1 x2 _ _ => by dsimp only at x2; omega⟩, fun q k x1 x2 => by omega⟩⟩ ?_
    rintro k ⟨s1, s2, s3⟩ hk ⟨e1, e2⟩
    dsimp only at e1 e2
    subst e1
    unfold m_Mo_runs_B25
    by_cases c : (lean : Int) + n ≤ (k : Int) + 1
    · simp (disch := omega) only [bnd_eq, Option.bind_some, lit_0, lit_1, lit_m1, lit_4, lit_5000, iI_nI, iI_add, iI_sub, iI_mul, iI_neg, chk_iI, iI_clamp, iI_lt, iI_le, iI_eq, if_pos, if_neg, Int.toNat_natCast]
      refine ok_end (e2.sp (fun p hp => Or.inr ?_))
      omega
    · simp (disch := omega) only [bnd_eq, Option.bind_some, lit_0, lit_1, lit_m1, lit_4, lit_5000, iI_nI, iI_add, iI_sub, iI_mul, iI_neg, chk_iI, iI_clamp, iI_lt, iI_le, iI_eq, if_pos, if_neg, Int.toNat_natCast]
      refine ok_bind (t_runs3 h hL hn hn4 hea (by omega) e2) ?_
      intro x hx
      unfold m_Mo_runs_E173
      simp (disch := omega) only [bnd_eq, Option.bind_some, lit_0, lit_1, lit_m1, lit_4, lit_5000, iI_nI, iI_add, iI_sub, iI_mul, iI_neg, chk_iI, iI_clamp, iI_lt, iI_le, iI_eq, if_pos, if_neg, Int.toNat_natCast]
      exact ok_go ⟨k + 1, by omega, by omega, rfl, hx⟩
