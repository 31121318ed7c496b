/-! the row with the fewest bytes: what it is, and the reference's -/
theorem lit_15 : (15 : Int32) = iI 15 := by decide
theorem lit_255 : (255 : Int32) = iI 255 := by decide
theorem lit_256 : (256 : Int32) = iI 256 := by decide
theorem lit_2048 : (2048 : Int32) = iI 2048 := by decide
theorem lit_inf : (2147483647 : Int32) = iI 2147483647 := by decide
theorem upd_upd (f : Nat → Int32) (p : Nat) (a b : Int32) : upd (upd f p a) p b = upd f p b := by
  funext j
  by_cases c : j = p
  · rw [c, pk_us, pk_us]
  · rw [pk_un c, pk_un c, pk_un c]
def ex (x : Nat) : Nat := if x < 15 then 0 else (x - 15) / 255 + 1
def hd (sq : Bool) (m : Nat) : Nat := if sq = true then 1 + ex m else if m = 0 then 0 else if m ≤ 60 then 1 else if m ≤ 256 then 2 else 3
noncomputable def cc (sq : Bool) (g : Nat → Int) (lean p k : Nat) : Nat := if sq = true then 2 + ex (k - 4) else if 4 ≤ k ∧ k ≤ 11 ∧ nO g (lean + p) k < 2048 then 2 else 3
def hi (sq : Bool) (M : Nat → Nat) (n p : Nat) : Nat := if sq = true then mt true M n p else if p < n then min 64 (M p) else 0
def l0 (sq : Bool) : Nat := if sq = true then 3 else 0
theorem ex_le {x : Nat} (h : x ≤ 4000) : ex x ≤ 16 := by
  unfold ex
  split <;> omega
theorem ex_2 (x : Nat) : ex x ≤ x := by
  unfold ex
  split <;> omega
theorem hd_le (sq : Bool) {m : Nat} (h : m ≤ 4000) : hd sq m ≤ 17 := by
  unfold hd
  have := ex_le h
  split
  · omega
  · split
    · omega
    · split
      · omega
      · split <;> omega
theorem cc_le (sq : Bool) (g : Nat → Int) (lean p : Nat) {k : Nat} (h : k ≤ 4000) : cc sq g lean p k ≤ 18 := by
  unfold cc
  have := ex_le (show k - 4 ≤ 4000 by omega)
  split
  · omega
  · split <;> omega
theorem hi_in {g : Nat → Int} {lean n : Nat} {M : Nat → Nat} (h : HM g lean n M) (sq : Bool) {p k : Nat} (h1 : 1 ≤ k) (h2 : k ≤ hi sq M n p) : p < n ∧ p + k ≤ n ∧ ∃ a, a < lean + p ∧ E g a (lean + p) k := by
  unfold hi at h2
  split at h2
  · obtain ⟨x1, x2, a, x3, x4⟩ := mt_GL h true (p := p) (by omega)
    exact ⟨by omega, by omega, a, x3, x4.mono h2⟩
  · split at h2
    · rename_i c
      have hm := h p c
      have := hm.1
      obtain ⟨a, x1, x2, x3⟩ := hm.2.1 (by omega)
      exact ⟨c, by omega, a, x1, x3.mono (by omega)⟩
    · omega
theorem hi_le {g : Nat → Int} {lean n : Nat} {M : Nat → Nat} (h : HM g lean n M) (sq : Bool) (p : Nat) : hi sq M n p ≤ n - p := by
  by_cases c : hi sq M n p = 0
  · omega
  · have := (hi_in h sq (p := p) (k := hi sq M n p) (by omega) (Nat.le_refl _)).2.1
    omega
theorem hi_lo {sq : Bool} {M : Nat → Nat} {n p : Nat} : hi true M n p = 0 ∨ 4 ≤ hi true M n p := by
  unfold hi mt
  rw [if_pos rfl]
  split
  · exact Or.inl rfl
  · right; omega
def DC (inf hi cur : Nat) (c R : Nat → Nat) (p W K : Nat) : Prop := (K = 0 ∧ W = inf ∧ hi ≤ cur) ∨ (cur < K ∧ K ≤ hi ∧ W = c K + R (p + K) ∧ ∀ k, cur < k → k ≤ hi → W ≤ c k + R (p + k) ∧ (K < k → W < c k + R (p + k)))
theorem DC.down {inf hi k p W K : Nat} {c R : Nat → Nat} (h : DC inf hi (k + 1) c R p W K) (hk : k + 1 ≤ hi) (hx : c (k + 1) + R (p + (k + 1)) < inf) : (W ≤ c (k + 1) + R (p + (k + 1)) → DC inf hi k c R p W K) ∧ (¬ W ≤ c (k + 1) + R (p + (k + 1)) → DC inf hi k c R p (c (k + 1) + R (p + (k + 1))) (k + 1)) := by
  refine ⟨fun hw => ?_, fun hw => ?_⟩
  · rcases h with ⟨h1, h2, h3⟩ | ⟨h1, h2, h3, h4⟩
    · omega
    · refine Or.inr ⟨by omega, h2, h3, fun k' x1 x2 => ?_⟩
      by_cases e : k' = k + 1
      · subst e
        exact ⟨hw, fun q => by omega⟩
      · exact h4 k' (by omega) x2
  · refine Or.inr ⟨by omega, hk, rfl, fun k' x1 x2 => ?_⟩
    by_cases e : k' = k + 1
    · subst e
      exact ⟨Nat.le_refl _, fun q => by omega⟩
    · rcases h with ⟨h1, h2, h3⟩ | ⟨h1, h2, h3, h4⟩
      · omega
      · have := (h4 k' (by omega) x2).1
        exact ⟨by omega, fun _ => by omega⟩
theorem DC.up {inf fr to l p W K nx cv : Nat} {c R : Nat → Nat} (h : DC inf (fr - 1) l c R p W K) (hf : l < fr) (ht : fr ≤ to) (hc : ∀ k, fr ≤ k → k ≤ to → c k = cv) (hl : Lst true R (p + fr) (p + to) nx) (hx : cv + R nx < inf) : (W < cv + R nx → DC inf to l c R p W K) ∧ (¬ W < cv + R nx → DC inf to l c R p (cv + R nx) (nx - p)) := by
  obtain ⟨l1, l2, l3, l4⟩ := hl
  obtain ⟨k0, rfl⟩ : ∃ k0, nx = p + k0 := ⟨nx - p, by omega⟩
  refine ⟨fun hw => ?_, fun hw => ?_⟩
  · rcases h with ⟨h1, h2, h3⟩ | ⟨h1, h2, h3, h4⟩
    · omega
    · refine Or.inr ⟨h1, by omega, h3, fun k x1 x2 => ?_⟩
      by_cases e : k ≤ fr - 1
      · exact h4 k x1 e
      · have := l3 (p + k) (by omega) (by omega)
        rw [hc k (by omega) x2]
        exact ⟨by omega, fun _ => by omega⟩
  · rw [show p + k0 - p = k0 by omega]
    refine Or.inr ⟨by omega, by omega, by rw [hc k0 (by omega) (by omega)], fun k x1 x2 => ?_⟩
    by_cases e : k ≤ fr - 1
    · rcases h with ⟨h1, h2, h3⟩ | ⟨h1, h2, h3, h4⟩
      · omega
      · have := (h4 k x1 e).1
        exact ⟨by omega, fun _ => by omega⟩
    · have := l3 (p + k) (by omega) (by omega)
      have y := l4 (p + k) (by omega) (by omega)
      rw [hc k (by omega) x2]
      refine ⟨by omega, fun z => ?_⟩
      by_cases e2 : R (p + k) = R (p + k0)
      · have := (y e2).1 rfl
        omega
      · omega
theorem DC.sym {inf inf' hi l p W K W' K' : Nat} {c R : Nat → Nat} (h : DC inf hi l c R p W K) (h' : DC inf' hi l c R p W' K') : K = K' ∧ ((W = inf ∧ W' = inf' ∧ hi ≤ l) ∨ (W = W' ∧ l < K' ∧ K' ≤ hi)) := by
  rcases h with ⟨h1, h2, h3⟩ | ⟨h1, h2, h3, h4⟩
  · rcases h' with ⟨g1, g2, g3⟩ | ⟨g1, g2, g3, g4⟩
    · exact ⟨by omega, Or.inl ⟨h2, g2, h3⟩⟩
    · omega
  · rcases h' with ⟨g1, g2, g3⟩ | ⟨g1, g2, g3, g4⟩
    · omega
    · have a1 := h4 K' g1 g2
      have a2 := g4 K h1 h2
      rw [← g3] at a1
      rw [← h3] at a2
      by_cases e1 : K < K'
      · have := a1.2 e1
        omega
      · by_cases e2 : K' < K
        · have := a2.2 e2
          omega
        · exact ⟨by omega, Or.inr ⟨by omega, g1, g2⟩⟩
theorem DC.congr {inf hi l p W K : Nat} {c R R' : Nat → Nat} (h : DC inf hi l c R p W K) (hR : ∀ k, l < k → k ≤ hi → R (p + k) = R' (p + k)) : DC inf hi l c R' p W K := by
  rcases h with h | ⟨h1, h2, h3, h4⟩
  · exact Or.inl h
  · refine Or.inr ⟨h1, h2, by rw [h3, hR K h1 h2], fun k x1 x2 => ?_⟩
    rw [← hR k x1 x2]
    exact h4 k x1 x2
def DR (inf cur : Nat) (H T : Nat → Nat) (p W N : Nat) : Prop := (W = inf ∧ ∀ m, m < cur → T (p + m) = 2147483647) ∨ (N < cur ∧ T (p + N) ≠ 2147483647 ∧ W = H N + T (p + N) ∧ ∀ m, m < cur → T (p + m) ≠ 2147483647 → W ≤ H m + T (p + m) ∧ (m < N → W < H m + T (p + m)))
theorem DR.next {inf cur p W N : Nat} {H T : Nat → Nat} (h : DR inf cur H T p W N) (hx : T (p + cur) ≠ 2147483647 → H cur + T (p + cur) < inf) : (T (p + cur) = 2147483647 → DR inf (cur + 1) H T p W N) ∧ (T (p + cur) ≠ 2147483647 → W ≤ H cur + T (p + cur) → DR inf (cur + 1) H T p W N) ∧ (T (p + cur) ≠ 2147483647 → ¬ W ≤ H cur + T (p + cur) → DR inf (cur + 1) H T p (H cur + T (p + cur)) cur) := by
  refine ⟨fun hw => ?_, fun h0 hw => ?_, fun h0 hw => ?_⟩
  · rcases h with ⟨h1, h2⟩ | ⟨h1, h2, h3, h4⟩
    · refine Or.inl ⟨h1, fun m x1 => ?_⟩
      by_cases e : m = cur
      · rw [e]; exact hw
      · exact h2 m (by omega)
    · refine Or.inr ⟨by omega, h2, h3, fun m x1 x2 => ?_⟩
      by_cases e : m = cur
      · subst e
        exact absurd hw x2
      · exact h4 m (by omega) x2
  · have := hx h0
    rcases h with ⟨h1, h2⟩ | ⟨h1, h2, h3, h4⟩
    · omega
    · refine Or.inr ⟨by omega, h2, h3, fun m x1 x2 => ?_⟩
      by_cases e : m = cur
      · subst e
        exact ⟨hw, fun q => by omega⟩
      · exact h4 m (by omega) x2
  · refine Or.inr ⟨by omega, h0, rfl, fun m x1 x2 => ?_⟩
    by_cases e : m = cur
    · subst e
      exact ⟨Nat.le_refl _, fun q => by omega⟩
    · rcases h with ⟨h1, h2⟩ | ⟨h1, h2, h3, h4⟩
      · exact absurd (h2 m (by omega)) x2
      · have := (h4 m (by omega) x2).1
        exact ⟨by omega, fun _ => by omega⟩
theorem DR.sym {inf inf' cur p W N W' N' : Nat} {H T : Nat → Nat} (h : DR inf cur H T p W N) (h' : DR inf' cur H T p W' N') {m : Nat} (hm : m < cur) (ht : T (p + m) ≠ 2147483647) : W = W' ∧ N = N' := by
  rcases h with ⟨h1, h2⟩ | ⟨h1, h2, h3, h4⟩
  · exact absurd (h2 m hm) ht
  · rcases h' with ⟨g1, g2⟩ | ⟨g1, g2, g3, g4⟩
    · exact absurd (g2 m hm) ht
    · have a1 := h4 N' g1 g2
      have a2 := g4 N h1 h2
      rw [← g3] at a1
      rw [← h3] at a2
      by_cases e1 : N < N'
      · have := a2.2 e1
        omega
      · by_cases e2 : N' < N
        · have := a1.2 e2
          omega
        · omega
theorem DR.congr {inf cur p W N : Nat} {H T T' : Nat → Nat} (h : DR inf cur H T p W N) (hT : ∀ m, m < cur → T (p + m) = T' (p + m)) : DR inf cur H T' p W N := by
  rcases h with ⟨h1, h2⟩ | ⟨h1, h2, h3, h4⟩
  · exact Or.inl ⟨h1, fun m x => by rw [← hT m x]; exact h2 m x⟩
  · refine Or.inr ⟨h1, by rw [← hT N h1]; exact h2, by rw [← hT N h1]; exact h3, fun m x1 => ?_⟩
    rw [← hT m x1]
    exact h4 m x1
def tz (n : Nat) (C : Nat → Nat) (q : Nat) : Nat := if q = n then 0 else C q
def DP (sq : Bool) (g : Nat → Int) (lean n : Nat) (M R C K N : Nat → Nat) (p0 : Nat) : Prop := ∀ p, p0 ≤ p → p ≤ n → DC 2147483647 (hi sq M n p) (l0 sq) (cc sq g lean p) R p (C p) (K p) ∧ DR 2147483647 (n - p + 1) (fun m => hd sq m + m) (tz n C) p (R p) (N p)
def up (f : Nat → Nat) (p x j : Nat) : Nat := if j = p then x else f j
theorem up_s (f : Nat → Nat) (p x : Nat) : up f p x p = x := if_pos rfl
theorem up_n (f : Nat → Nat) {p j : Nat} (x : Nat) (h : j ≠ p) : up f p x j = f j := if_neg h
theorem DP.put {sq : Bool} {g : Nat → Int} {lean n : Nat} {M R C K N : Nat → Nat} {p c k r m : Nat} (h : DP sq g lean n M R C K N (p + 1)) (h1 : DC 2147483647 (hi sq M n p) (l0 sq) (cc sq g lean p) R p c k) (h2 : DR 2147483647 (n - p + 1) (fun m => hd sq m + m) (tz n (up C p c)) p r m) : DP sq g lean n M (up R p r) (up C p c) (up K p k) (up N p m) p := by
  intro j x1 x2
  by_cases e : j = p
  · subst e
    rw [up_s, up_s, up_s, up_s]
    exact ⟨h1.congr (fun k y1 y2 => by rw [up_n _ _ (by omega)]), h2⟩
  · rw [up_n _ _ e, up_n _ _ e, up_n _ _ e, up_n _ _ e]
    obtain ⟨y1, y2⟩ := h j (by omega) x2
    refine ⟨y1.congr (fun k z1 z2 => by rw [up_n _ _ (by omega)]), y2.congr (fun m z1 => ?_)⟩
    unfold tz
    rw [up_n _ _ (by omega)]
theorem DP.R {sq : Bool} {g : Nat → Int} {lean n : Nat} {M R C K N : Nat → Nat} {p0 p : Nat} (h : DP sq g lean n M R C K N p0) (h1 : p0 ≤ p) (h2 : p ≤ n) : R p = hd sq (N p) + N p + tz n C (p + N p) ∧ tz n C (p + N p) ≠ 2147483647 ∧ p + N p ≤ n ∧ R p ≤ hd sq (n - p) + (n - p) := by
  have ht : tz n C (p + (n - p)) = 0 := by
    unfold tz
    rw [if_pos (by omega)]
  rcases (h p h1 h2).2 with ⟨x1, x2⟩ | ⟨x1, x2, x3, x4⟩
  · have := x2 (n - p) (by omega)
    omega
  · have := (x4 (n - p) (by omega) (by omega)).1
    rw [ht] at this
    exact ⟨x3, x2, by omega, by omega⟩
theorem DP.Rb {sq : Bool} {g : Nat → Int} {lean n : Nat} {M R C K N : Nat → Nat} {p0 p : Nat} (h : DP sq g lean n M R C K N p0) (hn : n ≤ 4000) (h1 : p0 ≤ p) (h2 : p ≤ n) : R p ≤ 4100 := by
  have := (h.R h1 h2).2.2.2
  have := hd_le sq (show n - p ≤ 4000 by omega)
  omega
theorem DC.Cb {inf : Nat} {sq : Bool} {g : Nat → Int} {lean n : Nat} {M R : Nat → Nat} {p W K : Nat} (hm : HM g lean n M) (hn : n ≤ 4000) (h : DC inf (hi sq M n p) (l0 sq) (cc sq g lean p) R p W K) (hR : ∀ j, p < j → j ≤ n → R j ≤ 4100) : (W = inf ∧ K = 0) ∨ (W ≤ 4200 ∧ 1 ≤ K ∧ p + K ≤ n ∧ K ≤ hi sq M n p ∧ l0 sq < K) := by
  rcases h with ⟨x1, x2, x3⟩ | ⟨x1, x2, x3, x4⟩
  · exact Or.inl ⟨x2, x1⟩
  · right
    have := hi_le hm sq p
    have a1 := cc_le sq g lean p (show K ≤ 4000 by omega)
    have a2 := hR (p + K) (by omega) (by omega)
    exact ⟨by omega, by omega, by omega, x2, x1⟩
theorem DP.Cb {sq : Bool} {g : Nat → Int} {lean n : Nat} {M R C K N : Nat → Nat} {p0 p : Nat} (h : DP sq g lean n M R C K N p0) (hm : HM g lean n M) (hn : n ≤ 4000) (h1 : p0 ≤ p) (h2 : p ≤ n) : (C p = 2147483647 ∧ K p = 0) ∨ (C p ≤ 4200 ∧ 1 ≤ K p ∧ p + K p ≤ n ∧ K p ≤ hi sq M n p ∧ l0 sq < K p) :=
  DC.Cb hm hn (h p h1 h2).1 (fun j x1 x2 => h.Rb hn (by omega) x2)
/-- the row of copies that the tables tell -/
def dpl (n : Nat) (K N : Nat → Nat) : Nat → Nat → List (Nat × Nat)
  | 0, _ => []
  | f + 1, p => if n ≤ p then [] else if p + N p = n then [] else (p + N p, K (p + N p)) :: dpl n K N f (p + N p + K (p + N p))
theorem dpl_e {n : Nat} {K N : Nat → Nat} {f p : Nat} (h : n ≤ p) : dpl n K N f p = [] := by
  cases f with
  | zero => rw [dpl]
  | succ f => rw [dpl, if_pos h]
theorem dpl_l {n : Nat} {K N : Nat → Nat} {f p : Nat} (h : p < n) (e : p + N p = n) : dpl n K N (f + 1) p = [] := by rw [dpl, if_neg (by omega), if_pos e]
theorem dpl_s {n : Nat} {K N : Nat → Nat} {f p : Nat} (h : p < n) (e : p + N p ≠ n) : dpl n K N (f + 1) p = (p + N p, K (p + N p)) :: dpl n K N f (p + N p + K (p + N p)) := by rw [dpl, if_neg (by omega), if_neg e]
theorem DP.at {sq : Bool} {g : Nat → Int} {lean n : Nat} {M R C K N : Nat → Nat} (h : DP sq g lean n M R C K N 0) (hm : HM g lean n M) (hn : n ≤ 4000) {p : Nat} (hp : p < n) (e : p + N p ≠ n) : p + N p < n ∧ 1 ≤ K (p + N p) ∧ p + N p + K (p + N p) ≤ n ∧ K (p + N p) ≤ hi sq M n (p + N p) ∧ l0 sq < K (p + N p) ∧ C (p + N p) = cc sq g lean (p + N p) (K (p + N p)) + R (p + N p + K (p + N p)) ∧ R p = hd sq (N p) + N p + C (p + N p) ∧ ∃ a, a < lean + (p + N p) ∧ E g a (lean + (p + N p)) (K (p + N p)) := by
  obtain ⟨x1, x2, x3, x4⟩ := h.R (Nat.zero_le _) (show p ≤ n by omega)
  have t1 : tz n C (p + N p) = C (p + N p) := by unfold tz; rw [if_neg e]
  rw [t1] at x1 x2
  rcases h.Cb hm hn (Nat.zero_le _) x3 with ⟨y1, _⟩ | ⟨y1, y2, y3, y4, y5⟩
  · exact absurd y1 x2
  · refine ⟨by omega, y2, y3, y4, y5, ?_, x1, (hi_in hm sq y2 y4).2.2⟩
    rcases (h (p + N p) (Nat.zero_le _) x3).1 with ⟨z1, z2, z3⟩ | ⟨z1, z2, z3, z4⟩
    · omega
    · exact z3
theorem dpl_GL {sq : Bool} {g : Nat → Int} {lean n : Nat} {M R C K N : Nat → Nat} (h : DP sq g lean n M R C K N 0) (hm : HM g lean n M) (hn : n ≤ 4000) : ∀ (f p : Nat), p ≤ n → GL g lean n p (dpl n K N f p)
  | 0, p, hp => by rw [dpl]; exact hp
  | f + 1, p, hp => by
    by_cases c : n ≤ p
    · rw [dpl_e c]; exact hp
    · by_cases e : p + N p = n
      · rw [dpl_l (by omega) e]; exact hp
      · rw [dpl_s (by omega) e]
        obtain ⟨a1, a2, a3, a4, a5, a6, a7, a8⟩ := h.at hm hn (show p < n by omega) e
        exact ⟨by omega, a2, a3, a8, dpl_GL h hm hn f _ a3⟩
/-- the bytes that a row of copies takes -/
noncomputable def ec (sq : Bool) (g : Nat → Int) (lean n : Nat) : Nat → List (Nat × Nat) → Nat
  | p, [] => hd sq (n - p) + (n - p)
  | p, x :: r => hd sq (x.1 - p) + (x.1 - p) + cc sq g lean x.1 x.2 + ec sq g lean n (x.1 + x.2) r
theorem dpl_ec {sq : Bool} {g : Nat → Int} {lean n : Nat} {M R C K N : Nat → Nat} (h : DP sq g lean n M R C K N 0) (hm : HM g lean n M) (hn : n ≤ 4000) : ∀ (f p : Nat), p ≤ n → n - p ≤ f → ec sq g lean n p (dpl n K N f p) = R p
  | f, p, hp, hf => by
    by_cases c : n ≤ p
    · rw [dpl_e c, ec]
      have : p = n := by omega
      subst this
      obtain ⟨x1, x2, x3, x4⟩ := h.R (Nat.zero_le _) (Nat.le_refl p)
      have : N p = 0 := by omega
      rw [this] at x1
      rw [x1, Nat.sub_self]
      unfold tz
      rw [if_pos (by omega)]
    · obtain ⟨f, rfl⟩ : ∃ m, f = m + 1 := ⟨f - 1, by omega⟩
      by_cases e : p + N p = n
      · rw [dpl_l (by omega) e, ec]
        obtain ⟨x1, x2, x3, x4⟩ := h.R (Nat.zero_le _) (show p ≤ n by omega)
        rw [x1, show N p = n - p by omega]
        unfold tz
        rw [if_pos (by omega)]
        omega
      · rw [dpl_s (by omega) e, ec]
        obtain ⟨a1, a2, a3, a4, a5, a6, a7, a8⟩ := h.at hm hn (show p < n by omega) e
        dsimp only
        rw [dpl_ec h hm hn f _ a3 (by omega), a7, a6, show p + N p - p = N p by omega]
        omega
/-! the reference's own words for the costs -/
theorem t_ext {x : Nat} (h : x ≤ 100000) : m_Mo_ext (iI x) = some (iI (ex x)) := by
  unfold m_Mo_ext ex
  by_cases c : x < 15
  · rw [if_pos c]
    simp (disch := omega) only [bnd_eq, Option.bind_some, lit_0, lit_1, lit_m1, lit_4, lit_5000, iI_nI, iI_add, iI_sub, iI_mul, iI_neg, chk_iI, iI_clamp, iI_lt, iI_le, iI_eq, if_pos, if_neg, if_true, if_false, Int.toNat_natCast, lit_15]
    rfl
  · rw [if_neg c]
    simp (disch := omega) only [bnd_eq, Option.bind_some, lit_0, lit_1, lit_m1, lit_4, lit_5000, iI_nI, iI_add, iI_sub, iI_mul, iI_neg, chk_iI, iI_clamp, iI_lt, iI_le, iI_eq, if_pos, if_neg, if_true, if_false, Int.toNat_natCast, lit_15, lit_255, iI_div]
    congr 2
    omega
theorem t_literals (sq : Bool) {m : Nat} (h : m ≤ 4000) : m_Mo_literals (iI m) (iI (if sq = true then 1 else 0)) = some (iI ((hd sq m + m : Nat) : Int)) := by
  unfold m_Mo_literals
  cases sq
  · rw [if_pos (by simp [lit_0])]
    unfold hd
    rw [if_neg (show ¬ (false = true) by decide)]
    by_cases c1 : m = 0
    · rw [if_pos c1]
      subst c1
      rfl
    · rw [if_neg c1]
      by_cases c2 : m ≤ 60
      · rw [if_pos c2]
        simp (disch := omega) only [bnd_eq, Option.bind_some, lit_0, lit_1, lit_m1, lit_4, lit_5000, iI_nI, iI_add, iI_sub, iI_mul, iI_neg, chk_iI, iI_clamp, iI_lt, iI_le, iI_eq, if_pos, if_neg, if_true, if_false, Int.toNat_natCast, lit_60, lit_256, lit_2, lit_3]
        congr 2
      · rw [if_neg c2]
        by_cases c3 : m ≤ 256
        · rw [if_pos c3]
          simp (disch := omega) only [bnd_eq, Option.bind_some, lit_0, lit_1, lit_m1, lit_4, lit_5000, iI_nI, iI_add, iI_sub, iI_mul, iI_neg, chk_iI, iI_clamp, iI_lt, iI_le, iI_eq, if_pos, if_neg, if_true, if_false, Int.toNat_natCast, lit_60, lit_256, lit_2, lit_3]
          congr 2
        · rw [if_neg c3]
          simp (disch := omega) only [bnd_eq, Option.bind_some, lit_0, lit_1, lit_m1, lit_4, lit_5000, iI_nI, iI_add, iI_sub, iI_mul, iI_neg, chk_iI, iI_clamp, iI_lt, iI_le, iI_eq, if_pos, if_neg, if_true, if_false, Int.toNat_natCast, lit_60, lit_256, lit_2, lit_3]
          congr 2
  · rw [if_neg (by rw [if_pos rfl]; decide), t_ext (by omega), Option.bind_some]
    unfold hd
    rw [if_pos rfl, lit_1, iI_add, iI_add]
    congr 2
theorem t_cheap {k o : Nat} (hk : k ≤ 100000) (ho : o ≤ 100000) : m_Mo_cheap (iI k) (iI o) = some (iI ((if 4 ≤ k ∧ k ≤ 11 ∧ o < 2048 then 2 else 3 : Nat) : Int)) := by
  unfold m_Mo_cheap
  rw [iI_j (by omega), show (4 : Int64) = jI 4 from rfl, show (11 : Int64) = jI 11 from rfl, s_in (by omega) (by omega) (by omega), Option.bind_some]
  by_cases c : (4 : Int) ≤ k ∧ (k : Int) ≤ 11
  · rw [if_pos c, if_neg (show ¬ (1 : Int32) = 0 by decide)]
    by_cases c2 : o < 2048
    · rw [if_pos (show 4 ≤ k ∧ k ≤ 11 ∧ o < 2048 by omega)]
      simp (disch := omega) only [bnd_eq, Option.bind_some, lit_0, lit_1, lit_m1, lit_4, lit_5000, iI_nI, iI_add, iI_sub, iI_mul, iI_neg, chk_iI, iI_clamp, iI_lt, iI_le, iI_eq, if_pos, if_neg, if_true, if_false, Int.toNat_natCast, lit_2048, lit_2, lit_3]
      rfl
    · rw [if_neg (show ¬ (4 ≤ k ∧ k ≤ 11 ∧ o < 2048) by omega)]
      simp (disch := omega) only [bnd_eq, Option.bind_some, lit_0, lit_1, lit_m1, lit_4, lit_5000, iI_nI, iI_add, iI_sub, iI_mul, iI_neg, chk_iI, iI_clamp, iI_lt, iI_le, iI_eq, if_pos, if_neg, if_true, if_false, Int.toNat_natCast, lit_2048, lit_2, lit_3]
      rfl
  · rw [if_neg c, if_pos rfl, if_neg (show ¬ (4 ≤ k ∧ k ≤ 11 ∧ o < 2048) by omega)]
    rfl
/-! the reference's search -/
def Ics (inf : Nat) (f1 f4 : Nat → Int32) (hi l : Nat) (c R : Nat → Nat) (p : Nat) (k : Nat) (s : (Nat → Int32) × (Nat → Int32) × Int32) : Prop := ∃ W K : Nat, k ≤ hi ∧ s.2.2 = iI ((hi - k : Nat) : Int) ∧ s.1 = upd f1 p (iI K) ∧ s.2.1 = upd f4 p (iI W) ∧ W ≤ inf ∧ DC inf hi (max (hi - k) l) c R p W K
def Pcs (inf : Nat) (f1 f4 : Nat → Int32) (hi l : Nat) (c R : Nat → Nat) (p : Nat) (b w : Nat → Int32) : Prop := ∃ W K : Nat, b = upd f1 p (iI K) ∧ w = upd f4 p (iI W) ∧ DC inf hi l c R p W K
theorem t_copies_S {g : Nat → Int} {lean n : Nat} {M R : Nat → Nat} (hm : HM g lean n M) (hn : n ≤ 4000) {p : Nat} (hp : p ≤ n) (hR : ∀ j, p < j → j ≤ n → R j ≤ 4100) {f1 f3 f4 : Nat → Int32} (h3 : ∀ j, p < j → j ≤ n → f3 j = iI (R j)) : ok (iter (fun st => m_Mo_fewest_B35 4001 4001 4001 f3 (iI p) st.1 st.2.1 st.2.2) FU (upd f1 p 0, upd f4 p 2147483647, iI (hi true M n p))) (fun o => Pcs 2147483647 f1 f4 (hi true M n p) 3 (cc true g lean p) R p o.1 o.2) := by
  have hle := hi_le hm true p
  refine ok_loop (Ics 2147483647 f1 f4 (hi true M n p) 3 (cc true g lean p) R p) (hi true M n p) (by omega) ⟨2147483647, 0, by omega, by simp, rfl, rfl, Nat.le_refl _, Or.inl ⟨rfl, rfl, by omega⟩⟩ ?_
  rintro k ⟨s1, s2, s3⟩ hk ⟨W, K, e0, e1, e2, e3, e4, e5⟩
  dsimp only at e1 e2 e3
  subst e1 e2 e3
  unfold m_Mo_fewest_B35 m_Mo_fewest_J85
  dsimp only
  by_cases c : hi true M n p - k < 4
  · simp (disch := omega) only [bnd_eq, Option.bind_some, lit_0, lit_1, lit_m1, lit_4, lit_5000, iI_nI, iI_add, iI_sub, iI_mul, iI_neg, chk_iI, iI_clamp, iI_lt, iI_le, iI_eq, if_pos, if_neg, if_true, if_false, Int.toNat_natCast]
    refine ok_end ⟨W, K, rfl, rfl, ?_⟩
    rw [show max (hi true M n p - k) 3 = 3 by omega] at e5
    exact e5
  · obtain ⟨q, hq⟩ : ∃ q, hi true M n p - k = q + 1 := ⟨hi true M n p - k - 1, by omega⟩
    rw [hq] at e5 c ⊢
    rw [show max (q + 1) 3 = q + 1 by omega] at e5
    have hcc : cc true g lean p (q + 1) = 2 + ex (q + 1 - 4) := by unfold cc; rw [if_pos rfl]
    have b1 := ex_le (show q + 1 - 4 ≤ 4000 by omega)
    have b2 := hR (p + (q + 1)) (by omega) (by omega)
    have hd := e5.down (by omega) (by omega)
    rw [hcc] at hd
    simp (disch := omega) only [bnd_eq, Option.bind_some, lit_0, lit_1, lit_m1, lit_4, lit_5000, iI_nI, iI_add, iI_sub, iI_mul, iI_neg, chk_iI, iI_clamp, iI_lt, iI_le, iI_eq, if_pos, if_neg, if_true, if_false, Int.toNat_natCast]
    rw [show ((q + 1 : Nat) : Int) - 4 = ((q + 1 - 4 : Nat) : Int) by omega, t_ext (by omega)]
    simp (disch := omega) only [bnd_eq, Option.bind_some, lit_0, lit_1, lit_m1, lit_4, lit_5000, iI_nI, iI_add, iI_sub, iI_mul, iI_neg, chk_iI, iI_clamp, iI_lt, iI_le, iI_eq, if_pos, if_neg, if_true, if_false, Int.toNat_natCast, lit_2]
    rw [show ((p : Int) + ((q + 1 : Nat) : Int)).toNat = p + (q + 1) by omega, h3 _ (by omega) (by omega), pk_us]
    simp (disch := omega) only [bnd_eq, Option.bind_some, lit_0, lit_1, lit_m1, lit_4, lit_5000, iI_nI, iI_add, iI_sub, iI_mul, iI_neg, chk_iI, iI_clamp, iI_lt, iI_le, iI_eq, if_pos, if_neg, if_true, if_false, Int.toNat_natCast, lit_2]
    by_cases c2 : W ≤ 2 + ex (q + 1 - 4) + R (p + (q + 1))
    · rw [if_pos (by omega)]
      refine ok_go ⟨k + 1, by omega, by omega, W, K, by omega, ?_, rfl, rfl, e4, ?_⟩
      · dsimp only
        congr 1
        omega
      · rw [show max (hi true M n p - (k + 1)) 3 = q by omega]
        exact hd.1 c2
    · rw [if_neg (by omega)]
      refine ok_go ⟨k + 1, by omega, by omega, 2 + ex (q + 1 - 4) + R (p + (q + 1)), q + 1, by omega, ?_, ?_, ?_, by omega, ?_⟩
      · dsimp only
        congr 1
        omega
      · exact upd_upd _ _ _ _
      · dsimp only
        rw [upd_upd]
        congr 2
      · rw [show max (hi true M n p - (k + 1)) 3 = q by omega]
        exact hd.2 c2
theorem t_copies_E {g : Nat → Int} {lean n : Nat} {M R : Nat → Nat} (hm : HM g lean n M) (hn : n ≤ 4000) (hln : lean + n ≤ 5000) {p : Nat} (hp : p ≤ n) (hR : ∀ j, p < j → j ≤ n → R j ≤ 4100) {f1 f3 f4 mf off : Nat → Int32} (h3 : ∀ j, p < j → j ≤ n → f3 j = iI (R j)) (hf : ∀ p, p < n → mf p = iI (M p)) (ho : ∀ k, 1 ≤ k → k ≤ hi false M n p → ∃ q : Nat, off (65 * p + k) = iI q ∧ Near g (lean + p) k q) : ok (m_Mo_element (iI p) (iI n) 260000 off 4001 f3 4001 (upd f4 p 2147483647) 4001 (upd f1 p 0) 4000 mf) (fun o => Pcs 2147483647 f1 f4 (hi false M n p) 0 (cc false g lean p) R p o.2 o.1) := by
  have hle := hi_le hm false p
  have h64 : hi false M n p ≤ 64 := by
    unfold hi
    rw [if_neg (by decide)]
    split <;> omega
  have hJ : ok (m_Mo_element_J23 (iI p) 260000 off 4001 f3 4001 (upd f4 p 2147483647) 4001 (upd f1 p 0) (iI (hi false M n p))) (fun o => Pcs 2147483647 f1 f4 (hi false M n p) 0 (cc false g lean p) R p o.2 o.1) := by
    unfold m_Mo_element_J23
    refine ok_bind (Q := fun o => Pcs 2147483647 f1 f4 (hi false M n p) 0 (cc false g lean p) R p o.2 o.1) ?_ (fun o ho => ok_some ho)
    refine ok_loop (Ics 2147483647 f1 f4 (hi false M n p) 0 (cc false g lean p) R p) (hi false M n p) (by omega) ⟨2147483647, 0, by omega, by simp, rfl, rfl, Nat.le_refl _, Or.inl ⟨rfl, rfl, by omega⟩⟩ ?_
    rintro k ⟨s1, s2, s3⟩ hk ⟨W, K, e0, e1, e2, e3, e4, e5⟩
    dsimp only at e1 e2 e3
    subst e1 e2 e3
    unfold m_Mo_element_B24 m_Mo_element_J77
    dsimp only
    by_cases c : hi false M n p - k = 0
    · simp (disch := omega) only [bnd_eq, Option.bind_some, lit_0, lit_1, lit_m1, lit_4, lit_5000, iI_nI, iI_add, iI_sub, iI_mul, iI_neg, chk_iI, iI_clamp, iI_lt, iI_le, iI_eq, if_pos, if_neg, if_true, if_false, Int.toNat_natCast]
      refine ok_end ⟨W, K, rfl, rfl, ?_⟩
      rw [show max (hi false M n p - k) 0 = 0 by omega] at e5
      exact e5
    · obtain ⟨q, hq⟩ : ∃ q, hi false M n p - k = q + 1 := ⟨hi false M n p - k - 1, by omega⟩
      obtain ⟨o, ho1, ho2⟩ := ho (q + 1) (by omega) (by omega)
      have ho3 := ho2.2.1
      rw [hq] at e5 c ⊢
      rw [show max (q + 1) 0 = q + 1 by omega] at e5
      have hcc : cc false g lean p (q + 1) = if 4 ≤ q + 1 ∧ q + 1 ≤ 11 ∧ o < 2048 then 2 else 3 := by unfold cc; rw [if_neg (by decide), ← ho2.nO]
      have b1 := cc_le false g lean p (show q + 1 ≤ 4000 by omega)
      have b2 := hR (p + (q + 1)) (by omega) (by omega)
      have hd := e5.down (by omega) (by omega)
      simp (disch := omega) only [bnd_eq, Option.bind_some, lit_0, lit_1, lit_m1, lit_4, lit_5000, iI_nI, iI_add, iI_sub, iI_mul, iI_neg, chk_iI, iI_clamp, iI_lt, iI_le, iI_eq, if_pos, if_neg, if_true, if_false, Int.toNat_natCast, lit_65]
      rw [show ((65 : Int) * (p : Int) + ((q + 1 : Nat) : Int)).toNat = 65 * p + (q + 1) by omega, ho1, t_cheap (by omega) (by omega), ← hcc]
      simp (disch := omega) only [bnd_eq, Option.bind_some, lit_0, lit_1, lit_m1, lit_4, lit_5000, iI_nI, iI_add, iI_sub, iI_mul, iI_neg, chk_iI, iI_clamp, iI_lt, iI_le, iI_eq, if_pos, if_neg, if_true, if_false, Int.toNat_natCast]
      rw [show ((p : Int) + ((q + 1 : Nat) : Int)).toNat = p + (q + 1) by omega, h3 _ (by omega) (by omega), pk_us]
      simp (disch := omega) only [bnd_eq, Option.bind_some, lit_0, lit_1, lit_m1, lit_4, lit_5000, iI_nI, iI_add, iI_sub, iI_mul, iI_neg, chk_iI, iI_clamp, iI_lt, iI_le, iI_eq, if_pos, if_neg, if_true, if_false, Int.toNat_natCast]
      by_cases c2 : W ≤ cc false g lean p (q + 1) + R (p + (q + 1))
      · rw [if_pos (by omega)]
        refine ok_go ⟨k + 1, by omega, by omega, W, K, by omega, ?_, rfl, rfl, e4, ?_⟩
        · dsimp only
          congr 1
          omega
        · rw [show max (hi false M n p - (k + 1)) 0 = q by omega]
          exact hd.1 c2
      · rw [if_neg (by omega)]
        refine ok_go ⟨k + 1, by omega, by omega, cc false g lean p (q + 1) + R (p + (q + 1)), q + 1, by omega, ?_, ?_, ?_, by omega, ?_⟩
        · dsimp only
          congr 1
          omega
        · exact upd_upd _ _ _ _
        · dsimp only
          rw [upd_upd]
          congr 2
        · rw [show max (hi false M n p - (k + 1)) 0 = q by omega]
          exact hd.2 c2
  unfold m_Mo_element
  by_cases c : p = n
  · have : hi false M n p = 0 := by omega
    rw [this] at hJ ⊢
    simp (disch := omega) only [bnd_eq, Option.bind_some, lit_0, lit_1, lit_m1, lit_4, lit_5000, iI_nI, iI_add, iI_sub, iI_mul, iI_neg, chk_iI, iI_clamp, iI_lt, iI_le, iI_eq, if_pos, if_neg, if_true, if_false, Int.toNat_natCast]
    exact hJ
  · have h1 := hf p (by omega)
    simp (disch := omega) only [bnd_eq, Option.bind_some, lit_0, lit_1, lit_m1, lit_4, lit_5000, iI_nI, iI_add, iI_sub, iI_mul, iI_neg, chk_iI, iI_clamp, iI_lt, iI_le, iI_eq, if_pos, if_neg, if_true, if_false, Int.toNat_natCast]
    rw [h1, lit_64, t_small (by omega) (by have := (hm p (by omega)).1; omega), Option.bind_some]
    have : (min (64 : Int) (M p : Int)) = ((hi false M n p : Nat) : Int) := by
      unfold hi
      rw [if_neg (by decide), if_pos (by omega)]
      omega
    rw [this]
    exact hJ
def Irs (f2 f3 : Nat → Int32) (n : Nat) (H T : Nat → Nat) (p : Nat) (k : Nat) (s : (Nat → Int32) × (Nat → Int32) × Int32) : Prop := ∃ W N : Nat, p + k ≤ n + 1 ∧ s.2.2 = iI k ∧ ((W = 2147483647 ∧ s.1 = f2) ∨ (W < 2147483647 ∧ s.1 = upd f2 p (iI N))) ∧ s.2.1 = upd f3 p (iI W) ∧ DR 2147483647 k H T p W N
def Prs (f2 f3 : Nat → Int32) (n : Nat) (H T : Nat → Nat) (p : Nat) (o : (Nat → Int32) × (Nat → Int32)) : Prop := ∃ W N : Nat, o.1 = upd f2 p (iI N) ∧ o.2 = upd f3 p (iI W) ∧ DR 2147483647 (n - p + 1) H T p W N
theorem t_rest (sq : Bool) {n p : Nat} (hp : p ≤ n) (hn : n ≤ 4000) {C : Nat → Nat} (hC : ∀ q, p ≤ q → q < n → C q = 2147483647 ∨ C q ≤ 4200) {f2 f3 f4 : Nat → Int32} (h4 : ∀ j, p ≤ j → j < n → f4 j = iI (C j)) : ok (iter (fun st => m_Mo_fewest_B109 (iI (if sq = true then 1 else 0)) (iI n) 4001 4001 4001 (iI p) f4 st.1 st.2.1 st.2.2) FU (f2, upd f3 p 2147483647, 0)) (Prs f2 f3 n (fun m => hd sq m + m) (tz n C) p) := by
  refine ok_loop (Irs f2 f3 n (fun m => hd sq m + m) (tz n C) p) (n - p + 1) (by omega) ⟨2147483647, 0, by omega, rfl, Or.inl ⟨rfl, rfl⟩, rfl, Or.inl ⟨rfl, fun m hm => absurd hm (Nat.not_lt_zero _)⟩⟩ ?_
  rintro k ⟨s1, s2, s3⟩ hk ⟨W, N, e0, e1, e2, e3, e4⟩
  dsimp only at e1 e2 e3
  subst e1 e3
  unfold m_Mo_fewest_B109
  dsimp only
  by_cases c : n < p + k
  · simp (disch := omega) only [bnd_eq, Option.bind_some, lit_0, lit_1, lit_m1, lit_4, lit_5000, iI_nI, iI_add, iI_sub, iI_mul, iI_neg, chk_iI, iI_clamp, iI_lt, iI_le, iI_eq, if_pos, if_neg, if_true, if_false, Int.toNat_natCast]
    refine ok_end ⟨W, N, ?_, rfl, ?_⟩
    · rcases e2 with ⟨x1, x2⟩ | ⟨x1, x2⟩
      · rcases e4 with ⟨y1, y2⟩ | ⟨y1, y2, y3, y4⟩
        · have := y2 (n - p) (by omega)
          unfold tz at this
          rw [if_pos (by omega)] at this
          omega
        · exfalso
          dsimp only at y3
          have a1 := hd_le sq (show N ≤ 4000 by omega)
          have a2 : tz n C (p + N) ≤ 4200 := by
            unfold tz at y2 ⊢
            by_cases q : p + N = n
            · rw [if_pos q]; omega
            · rw [if_neg q] at y2 ⊢
              have := hC (p + N) (by omega) (by omega)
              omega
          omega
      · exact x2
    · rw [show n - p + 1 = k by omega]
      exact e4
  · have hb : tz n C (p + k) = 2147483647 ∨ tz n C (p + k) ≤ 4200 := by
      unfold tz
      by_cases q : p + k = n
      · rw [if_pos q]; omega
      · rw [if_neg q]
        exact hC (p + k) (by omega) (by omega)
    have b1 := hd_le sq (show k ≤ 4000 by omega)
    have hWb : W ≤ 2147483647 := by
      rcases e2 with ⟨x1, x2⟩ | ⟨x1, x2⟩ <;> omega
    have hx := e4.next (fun q => by omega)
    have hJ : ok (m_Mo_fewest_J141 (iI (if sq = true then 1 else 0)) 4001 4001 (iI p) s1 (upd f3 p (iI W)) (iI k) (iI (tz n C (p + k)))) (St (fun s' => ∃ k', k < k' ∧ k' ≤ n - p + 1 ∧ Irs f2 f3 n (fun m => hd sq m + m) (tz n C) p k' s') (Prs f2 f3 n (fun m => hd sq m + m) (tz n C) p)) := by
      unfold m_Mo_fewest_J141 m_Mo_fewest_J188
      rw [t_literals sq (by omega)]
      by_cases q : tz n C (p + k) = 2147483647
      · rw [if_pos (by rw [q]; rfl)]
        simp (disch := omega) only [bnd_eq, Option.bind_some, lit_0, lit_1, lit_m1, lit_4, lit_5000, iI_nI, iI_add, iI_sub, iI_mul, iI_neg, chk_iI, iI_clamp, iI_lt, iI_le, iI_eq, if_pos, if_neg, if_true, if_false, Int.toNat_natCast]
        exact ok_go ⟨k + 1, by omega, by omega, W, N, by omega, by simp, e2, rfl, hx.1 q⟩
      · rw [if_neg (by rw [lit_inf, iI_eq (by omega) (by omega)]; omega)]
        simp (disch := omega) only [bnd_eq, Option.bind_some, lit_0, lit_1, lit_m1, lit_4, lit_5000, iI_nI, iI_add, iI_sub, iI_mul, iI_neg, chk_iI, iI_clamp, iI_lt, iI_le, iI_eq, if_pos, if_neg, if_true, if_false, Int.toNat_natCast]
        rw [pk_us]
        by_cases q2 : W ≤ hd sq k + k + tz n C (p + k)
        · rw [if_leT (by omega) (by omega) (by omega)]
          exact ok_go ⟨k + 1, by omega, by omega, W, N, by omega, by simp, e2, rfl, hx.2.1 q q2⟩
        · rw [if_leF (by omega) (by omega) (by omega)]
          refine ok_go ⟨k + 1, by omega, by omega, hd sq k + k + tz n C (p + k), k, by omega, by simp, Or.inr ⟨by omega, ?_⟩, ?_, hx.2.2 q q2⟩
          · dsimp only
            rcases e2 with ⟨x1, x2⟩ | ⟨x1, x2⟩
            · rw [x2]
            · rw [x2, upd_upd]
          · dsimp only
            rw [upd_upd]
            congr 2
    by_cases q : p + k = n
    · rw [show tz n C (p + k) = 0 by unfold tz; rw [if_pos q]] at hJ
      simp (disch := omega) only [bnd_eq, Option.bind_some, lit_0, lit_1, lit_m1, lit_4, lit_5000, iI_nI, iI_add, iI_sub, iI_mul, iI_neg, chk_iI, iI_clamp, iI_lt, iI_le, iI_eq, if_pos, if_neg, if_true, if_false, Int.toNat_natCast]
      exact hJ
    · simp (disch := omega) only [bnd_eq, Option.bind_some, lit_0, lit_1, lit_m1, lit_4, lit_5000, iI_nI, iI_add, iI_sub, iI_mul, iI_neg, chk_iI, iI_clamp, iI_lt, iI_le, iI_eq, if_pos, if_neg, if_true, if_false, Int.toNat_natCast]
      rw [show ((p : Int) + (k : Int)).toNat = p + k by omega, h4 (p + k) (by omega) (by omega), show C (p + k) = tz n C (p + k) by unfold tz; rw [if_neg q]]
      exact hJ
def TB (n p0 : Nat) (f1 f2 f3 f4 : Nat → Int32) (R C K N : Nat → Nat) : Prop := ∀ j, p0 ≤ j → j ≤ n → f1 j = iI (K j) ∧ f2 j = iI (N j) ∧ f3 j = iI (R j) ∧ f4 j = iI (C j)
theorem TB.put {n p : Nat} {f1 f2 f3 f4 : Nat → Int32} {R C K N : Nat → Nat} (h : TB n (p + 1) f1 f2 f3 f4 R C K N) (k m r c : Nat) : TB n p (upd f1 p (iI k)) (upd f2 p (iI m)) (upd f3 p (iI r)) (upd f4 p (iI c)) (up R p r) (up C p c) (up K p k) (up N p m) := by
  intro j x1 x2
  by_cases e : j = p
  · subst e
    rw [pk_us, pk_us, pk_us, pk_us, up_s, up_s, up_s, up_s]
    exact ⟨rfl, rfl, rfl, rfl⟩
  · rw [pk_un e, pk_un e, pk_un e, pk_un e, up_n _ _ e, up_n _ _ e, up_n _ _ e, up_n _ _ e]
    exact h j (by omega) x2
def Ifw (sq : Bool) (g : Nat → Int) (lean n : Nat) (M : Nat → Nat) (k : Nat) (s : (Nat → Int32) × (Nat → Int32) × (Nat → Int32) × (Nat → Int32) × Int32) : Prop := ∃ R C K N : Nat → Nat, k ≤ n + 1 ∧ s.2.2.2.2 = iI ((n : Int) - k) ∧ DP sq g lean n M R C K N (n + 1 - k) ∧ TB n (n + 1 - k) s.1 s.2.1 s.2.2.1 s.2.2.2.1 R C K N
def Pfw (sq : Bool) (g : Nat → Int) (lean n : Nat) (M : Nat → Nat) (s : (Nat → Int32) × (Nat → Int32) × (Nat → Int32) × (Nat → Int32)) : Prop := ∃ R C K N : Nat → Nat, DP sq g lean n M R C K N 0 ∧ TB n 0 s.1 s.2.1 s.2.2.1 s.2.2.2 R C K N
theorem t_tables {g : Nat → Int} {lean n : Nat} {M : Nat → Nat} (sq : Bool) (hm : HM g lean n M) (hn : n ≤ 4000) (hln : lean + n ≤ 5000) {mf off : Nat → Int32} (hf : ∀ p, p < n → mf p = iI (M p)) (ho : sq = false → ∀ p, p < n → ∀ k, 1 ≤ k → k ≤ M p → k ≤ 64 → ∃ q : Nat, off (65 * p + k) = iI q ∧ Near g (lean + p) k q) (bc bl fh wc : Nat → Int32) : ok (iter (fun st => m_Mo_fewest_B5 (iI (if sq = true then 1 else 0)) (iI n) 4001 4001 4000 mf 4001 4001 260000 off st.1 st.2.1 st.2.2.1 st.2.2.2.1 st.2.2.2.2) FU (bc, bl, fh, wc, iI n)) (Pfw sq g lean n M) := by
  refine ok_loop (Ifw sq g lean n M) (n + 1) (by omega) ⟨fun _ => 0, fun _ => 0, fun _ => 0, fun _ => 0, by omega, by simp, fun p x1 x2 => by omega, fun p x1 x2 => by omega⟩ ?_
  rintro k ⟨s1, s2, s3, s4, s5⟩ hk ⟨R, C, K, N, e0, e1, e2, e3⟩
  dsimp only at e1 e3
  subst e1
  unfold m_Mo_fewest_B5
  dsimp only
  by_cases c : k = n + 1
  · simp (disch := omega) only [bnd_eq, Option.bind_some, lit_0, lit_1, lit_m1, lit_4, lit_5000, iI_nI, iI_add, iI_sub, iI_mul, iI_neg, chk_iI, iI_clamp, iI_lt, iI_le, iI_eq, if_pos, if_neg, if_true, if_false, Int.toNat_natCast]
    rw [show n + 1 - k = 0 by omega] at e2 e3
    exact ok_end ⟨R, C, K, N, e2, e3⟩
  · obtain ⟨p, hpk⟩ : ∃ p, p + k = n := ⟨n - k, by omega⟩
    rw [show n + 1 - k = p + 1 by omega] at e2 e3
    rw [show (n : Int) - (k : Int) = ((p : Nat) : Int) by omega]
    have hJ : ∀ f1 f4 : Nat → Int32, Pcs 2147483647 s1 s4 (hi sq M n p) (l0 sq) (cc sq g lean p) R p f1 f4 → ok (m_Mo_fewest_J99 (iI (if sq = true then 1 else 0)) (iI n) 4001 4001 4001 s2 s3 (iI p) f1 f4) (St (fun s' => ∃ k', k < k' ∧ k' ≤ n + 1 ∧ Ifw sq g lean n M k' s') (Pfw sq g lean n M)) := by
      rintro f1 f4 ⟨W, B, rfl, rfl, hdc⟩
      have hcb := DC.Cb hm hn hdc (fun j x1 x2 => e2.Rb hn (by omega) x2)
      unfold m_Mo_fewest_J99
      simp (disch := omega) only [bnd_eq, Option.bind_some, lit_0, lit_1, lit_m1, lit_4, lit_5000, iI_nI, iI_add, iI_sub, iI_mul, iI_neg, chk_iI, iI_clamp, iI_lt, iI_le, iI_eq, if_pos, if_neg, if_true, if_false, Int.toNat_natCast]
      refine ok_bind (t_rest sq (n := n) (p := p) (by omega) hn (C := up C p W) (fun q x1 x2 => ?_) (fun j x1 x2 => ?_)) ?_
      · by_cases z : q = p
        · subst z
          rw [up_s]
          omega
        · rw [up_n _ _ z]
          have := e2.Cb hm hn (p := q) (by omega) (by omega)
          omega
      · by_cases z : j = p
        · subst z
          rw [up_s, pk_us]
        · rw [up_n _ _ z, pk_un z]
          exact (e3 j (by omega) (by omega)).2.2.2
      · rintro ⟨o1, o2⟩ ⟨W2, N2, y1, y2, y3⟩
        dsimp only at y1 y2 ⊢
        subst y1 y2
        unfold m_Mo_fewest_E194
        simp (disch := omega) only [bnd_eq, Option.bind_some, lit_0, lit_1, lit_m1, lit_4, lit_5000, iI_nI, iI_add, iI_sub, iI_mul, iI_neg, chk_iI, iI_clamp, iI_lt, iI_le, iI_eq, if_pos, if_neg, if_true, if_false, Int.toNat_natCast]
        refine ok_go ⟨k + 1, by omega, by omega, up R p W2, up C p W, up K p B, up N p N2, by omega, ?_, ?_, ?_⟩
        · dsimp only
          congr 1
          omega
        · rw [show n + 1 - (k + 1) = p by omega]
          exact e2.put hdc y3
        · rw [show n + 1 - (k + 1) = p by omega]
          exact e3.put _ _ _ _
    have hR : ∀ j, p < j → j ≤ n → R j ≤ 4100 := fun j x1 x2 => e2.Rb hn (by omega) x2
    have h3 : ∀ j, p < j → j ≤ n → s3 j = iI (R j) := fun j x1 x2 => (e3 j (by omega) x2).2.2.1
    simp (disch := omega) only [bnd_eq, Option.bind_some, lit_0, lit_1, lit_m1, lit_4, lit_5000, iI_nI, iI_add, iI_sub, iI_mul, iI_neg, chk_iI, iI_clamp, iI_lt, iI_le, iI_eq, if_pos, if_neg, if_true, if_false, Int.toNat_natCast]
    cases sq
    · rw [if_pos (show ((if false = true then (1 : Int) else 0) = 0) from rfl)]
      refine ok_bind (t_copies_E hm hn hln (show p ≤ n by omega) hR h3 hf (fun k x1 x2 => ?_)) ?_
      · have hp := hi_in hm false x1 x2
        refine ho rfl p hp.1 k x1 ?_ ?_
        · unfold hi at x2
          rw [if_neg (by decide), if_pos hp.1] at x2
          omega
        · unfold hi at x2
          rw [if_neg (by decide), if_pos hp.1] at x2
          omega
      · rintro ⟨u1, u2⟩ hu
        exact hJ u2 u1 hu
    · rw [if_neg (show ¬ ((if true = true then (1 : Int) else 0) = 0) by decide)]
      have hmt := t_match hn (fun p hp => ⟨hf p hp, (hm p hp).1⟩) true (p := p) (by omega)
      rw [if_pos rfl] at hmt
      rw [show iI 1 = iI 1 from rfl, hmt, Option.bind_some, show mt true M n p = hi true M n p by unfold hi; rw [if_pos rfl]]
      refine ok_bind (t_copies_S (g := g) hm hn (show p ≤ n by omega) hR h3) ?_
      rintro ⟨u1, u2⟩ hu
      unfold m_Mo_fewest_E91
      exact hJ u1 u2 hu
theorem t_fewest {f : Nat → Int32} {g : Nat → Int} {L : Nat} (h : MG f g L) (hL : L ≤ 5000) {lean n : Nat} (hnL : lean + n ≤ L) {M : Nat → Nat} (sq : Bool) (hm : HM g lean n M) (hn : n ≤ 4000) {mf off : Nat → Int32} (hf : ∀ p, p < n → mf p = iI (M p)) (ho : sq = false → ∀ p, p < n → ∀ k, 1 ≤ k → k ≤ M p → k ≤ 64 → ∃ q : Nat, off (65 * p + k) = iI q ∧ Near g (lean + p) k q) (bc bl fh wc ca cl co : Nat → Int32) : ok (m_Mo_fewest (iI (if sq = true then 1 else 0)) (iI lean) (iI n) 0 4001 wc 4001 bc 4000 mf 4001 fh 4001 bl 260000 off 4000 ca 4000 cl 5000 f 4000 co) (fun o => ∃ R C K N : Nat → Nat, DP sq g lean n M R C K N 0 ∧ CA g lean o.2.2.2.2.2.1 o.2.2.2.2.2.2.1 o.2.2.2.2.2.2.2 o.1 (dpl n K N n 0)) := by
  unfold m_Mo_fewest m_Mo_fewest_E200
  refine ok_bind (t_tables sq hm hn (by omega) hf ho bc bl fh wc) ?_
  rintro ⟨f1, f2, f3, f4⟩ ⟨R, C, K, N, hdp, htb⟩
  dsimp only at htb ⊢
  refine ok_bind (Q := fun o => CA g lean o.2.2.2.2.2.1 o.2.2.2.2.2.2.1 o.2.2.2.2.2.2.2 o.1 (dpl n K N n 0)) ?_ (fun o ho => ok_some ⟨R, C, K, N, hdp, ho⟩)
  refine ok_loop (fun p s => ∃ (fu : Nat) (d : List (Nat × Nat)), s.2.2.2.2 = iI p ∧ CA g lean s.1 s.2.1 s.2.2.1 s.2.2.2.1 d ∧ d.length ≤ p ∧ n - p ≤ fu ∧ d ++ dpl n K N fu p = dpl n K N n 0) n (by omega) ⟨n, [], rfl, ⟨rfl, fun i hi => absurd hi (Nat.not_lt_zero _)⟩, Nat.le_refl _, by omega, rfl⟩ ?_
  rintro p ⟨s1, s2, s3, s4, s5⟩ hp ⟨fu, d, e1, e2, e3, e4, e5⟩
  dsimp only at e1 e2
  subst e1
  unfold m_Mo_fewest_B202
  dsimp only
  by_cases c : n ≤ p
  · simp (disch := omega) only [bnd_eq, Option.bind_some, lit_0, lit_1, lit_m1, lit_4, lit_5000, iI_nI, iI_add, iI_sub, iI_mul, iI_neg, chk_iI, iI_clamp, iI_lt, iI_le, iI_eq, if_pos, if_neg, if_true, if_false, Int.toNat_natCast]
    rw [dpl_e c, List.append_nil] at e5
    rw [← e5]
    exact ok_end e2
  · obtain ⟨fu, rfl⟩ : ∃ m, fu = m + 1 := ⟨fu - 1, by omega⟩
    have hN := (hdp.R (Nat.zero_le _) (show p ≤ n by omega)).2.2.1
    simp (disch := omega) only [bnd_eq, Option.bind_some, lit_0, lit_1, lit_m1, lit_4, lit_5000, iI_nI, iI_add, iI_sub, iI_mul, iI_neg, chk_iI, iI_clamp, iI_lt, iI_le, iI_eq, if_pos, if_neg, if_true, if_false, Int.toNat_natCast]
    rw [(htb p (Nat.zero_le _) (by omega)).2.1]
    simp (disch := omega) only [bnd_eq, Option.bind_some, lit_0, lit_1, lit_m1, lit_4, lit_5000, iI_nI, iI_add, iI_sub, iI_mul, iI_neg, chk_iI, iI_clamp, iI_lt, iI_le, iI_eq, if_pos, if_neg, if_true, if_false, Int.toNat_natCast]
    by_cases c2 : p + N p = n
    · rw [if_pos (by omega)]
      rw [dpl_l (by omega) c2, List.append_nil] at e5
      rw [← e5]
      exact ok_end e2
    · obtain ⟨a1, a2, a3, a4, a5, a6, a7, a8⟩ := hdp.at hm hn (show p < n by omega) c2
      rw [if_neg (by omega), show (p : Int) + (N p : Int) = ((p + N p : Nat) : Int) by omega]
      simp (disch := omega) only [bnd_eq, Option.bind_some, lit_0, lit_1, lit_m1, lit_4, lit_5000, iI_nI, iI_add, iI_sub, iI_mul, iI_neg, chk_iI, iI_clamp, iI_lt, iI_le, iI_eq, if_pos, if_neg, if_true, if_false, Int.toNat_natCast]
      rw [(htb (p + N p) (Nat.zero_le _) (by omega)).1]
      refine ok_bind (t_copy h hL a3 a2 hnL a8 e2 (by omega)) ?_
      rintro ⟨v1, v2, v3, v4⟩ hv
      simp (disch := omega) only [bnd_eq, Option.bind_some, lit_0, lit_1, lit_m1, lit_4, lit_5000, iI_nI, iI_add, iI_sub, iI_mul, iI_neg, chk_iI, iI_clamp, iI_lt, iI_le, iI_eq, if_pos, if_neg, if_true, if_false, Int.toNat_natCast]
      rw [dpl_s (by omega) c2] at e5
      refine ok_go ⟨p + N p + K (p + N p), by omega, a3, fu, d ++ [(p + N p, K (p + N p))], ?_, hv, ?_, by omega, ?_⟩
      · dsimp only
        congr 1
      · rw [List.length_append, List.length_singleton]
        omega
      · rw [List.append_assoc]
        exact e5
