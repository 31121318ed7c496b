/-! the cheapest copy at a place; the whole search; the row that is chosen -/
theorem least_of {P : Nat → Prop} : ∀ n : Nat, P n → ∃ o, P o ∧ o ≤ n ∧ ∀ o', o' < o → ¬ P o'
  | 0, h => ⟨0, h, Nat.le_refl _, fun o' h' => absurd h' (Nat.not_lt_zero _)⟩
  | n + 1, h => by
    by_cases c : ∃ m, m ≤ n ∧ P m
    · obtain ⟨m, h1, h2⟩ := c
      obtain ⟨o, a1, a2, a3⟩ := least_of m h2
      exact ⟨o, a1, by omega, a3⟩
    · exact ⟨n + 1, h, Nat.le_refl _, fun o' h' q => c ⟨o', by omega, q⟩⟩
termination_by n => n
theorem Near.ex {g : Nat → Int} {a b k : Nat} (ha : a < b) (he : E g a b k) : ∃ o, Near g b k o ∧ o ≤ b - a := by
  obtain ⟨o, ⟨o1, o2, o3⟩, o4, o5⟩ := least_of (P := fun o => 1 ≤ o ∧ o ≤ b ∧ E g (b - o) b k) (b - a) ⟨by omega, by omega, by rw [show b - (b - a) = a by omega]; exact he⟩
  exact ⟨o, ⟨o1, o2, o3, fun o' h1 h2 h3 => o5 o' h2 ⟨h1, by omega, h3⟩⟩, o4⟩
theorem nO_near {g : Nat → Int} {b k : Nat} (h : ∃ a, a < b ∧ E g a b k) : Near g b k (nO g b k) := by
  obtain ⟨a, x1, x2⟩ := h
  obtain ⟨o, y1, y2⟩ := Near.ex x1 x2
  rw [← y1.nO]
  exact y1
def sc (sq : Bool) (cl k : Nat) : Nat := if sq = true then 4 + sh true (k - 4) else if k < 4 then 3 else if cl < k then 64 else cl
def cv (sq : Bool) (cl k : Nat) : Nat := if sq = true then 2 + ex (k - 4) else if k < 4 then 3 else if cl < k then 3 else 2
def stc (sq : Bool) (cl fr st : Nat) : Prop := if sq = true then 255 * st ≤ fr + 236 else st ≤ 2 ∧ (fr < 4 → st = 0) ∧ (fr ≤ cl → st ≤ 1)
theorem s_sameCost_S {k : Nat} (cl : Nat) (h : k ≤ 100000) (h4 : 4 ≤ k) : m_Sequences_sameCostTo (iI k) = some (iI (sc true cl k)) := by
  unfold m_Sequences_sameCostTo sc
  rw [if_pos rfl, lit_4, iI_sub, show (k : Int) - 4 = ((k - 4 : Nat) : Int) by omega, s_sameHead_S (by omega), Option.bind_some, iI_add]
  congr 2
theorem s_cost_S {k : Nat} (cl : Nat) (h : k ≤ 100000) (h4 : 4 ≤ k) : m_Sequences_copyCost (iI k) = some (iI (cv true cl k)) := by
  unfold m_Sequences_copyCost cv
  rw [if_pos rfl, lit_4, iI_sub, show (k : Int) - 4 = ((k - 4 : Nat) : Int) by omega, s_added (by omega), Option.bind_some, lit_2, iI_add]
  congr 2
theorem s_sameCost_E {k : Nat} (cl : Nat) (h : k ≤ 100000) (hc : cl ≤ 100000) : m_Elements_sameCostTo (iI k) (iI cl) = some (iI (sc false cl k)) := by
  unfold m_Elements_sameCostTo sc
  rw [if_neg (show ¬ (false = true) by decide)]
  by_cases c1 : k < 4
  · rw [if_pos c1]
    simp (disch := omega) only [bnd_eq, Option.bind_some, lit_0, lit_1, lit_m1, lit_4, lit_5000, iI_nI, iI_add, iI_sub, iI_mul, iI_neg, chk_iI, iI_clamp, iI_lt, iI_le, iI_eq, if_pos, if_neg, if_true, if_false, Int.toNat_natCast, lit_64, lit_3]
    rfl
  · rw [if_neg c1]
    by_cases c2 : cl < k
    · rw [if_pos c2]
      simp (disch := omega) only [bnd_eq, Option.bind_some, lit_0, lit_1, lit_m1, lit_4, lit_5000, iI_nI, iI_add, iI_sub, iI_mul, iI_neg, chk_iI, iI_clamp, iI_lt, iI_le, iI_eq, if_pos, if_neg, if_true, if_false, Int.toNat_natCast, lit_64, lit_3]
      rfl
    · rw [if_neg c2]
      simp (disch := omega) only [bnd_eq, Option.bind_some, lit_0, lit_1, lit_m1, lit_4, lit_5000, iI_nI, iI_add, iI_sub, iI_mul, iI_neg, chk_iI, iI_clamp, iI_lt, iI_le, iI_eq, if_pos, if_neg, if_true, if_false, Int.toNat_natCast, lit_64, lit_3]
theorem s_cost_E {k : Nat} (cl : Nat) (h : k ≤ 100000) (hc : cl ≤ 100000) : m_Elements_copyCost (iI k) (iI cl) = some (iI (cv false cl k)) := by
  unfold m_Elements_copyCost cv
  rw [if_neg (show ¬ (false = true) by decide)]
  by_cases c1 : k < 4
  · rw [if_pos c1]
    simp (disch := omega) only [bnd_eq, Option.bind_some, lit_0, lit_1, lit_m1, lit_4, lit_5000, iI_nI, iI_add, iI_sub, iI_mul, iI_neg, chk_iI, iI_clamp, iI_lt, iI_le, iI_eq, if_pos, if_neg, if_true, if_false, Int.toNat_natCast, lit_2, lit_3]
    rfl
  · rw [if_neg c1]
    by_cases c2 : cl < k
    · rw [if_pos c2]
      simp (disch := omega) only [bnd_eq, Option.bind_some, lit_0, lit_1, lit_m1, lit_4, lit_5000, iI_nI, iI_add, iI_sub, iI_mul, iI_neg, chk_iI, iI_clamp, iI_lt, iI_le, iI_eq, if_pos, if_neg, if_true, if_false, Int.toNat_natCast, lit_2, lit_3]
      rfl
    · rw [if_neg c2]
      simp (disch := omega) only [bnd_eq, Option.bind_some, lit_0, lit_1, lit_m1, lit_4, lit_5000, iI_nI, iI_add, iI_sub, iI_mul, iI_neg, chk_iI, iI_clamp, iI_lt, iI_le, iI_eq, if_pos, if_neg, if_true, if_false, Int.toNat_natCast, lit_2, lit_3]
      rfl
theorem cv_le {sq : Bool} {cl k : Nat} (h : k ≤ 4000) : cv sq cl k ≤ 18 := by
  unfold cv
  have := ex_le (show k - 4 ≤ 4000 by omega)
  repeat' split
  all_goals omega
theorem sc_le {sq : Bool} {cl k : Nat} (h : k ≤ 65536) (h4 : l0 sq < k) : (k ≤ sc sq cl k ∨ (sq = false ∧ 64 ≤ sc sq cl k)) ∧ sc sq cl k ≤ cl + k + 65540 := by
  unfold sc
  unfold l0 at h4
  have := sh_le true (k - 4)
  cases sq
  · rw [if_neg (by decide)]
    by_cases c1 : k < 4
    · rw [if_pos c1]
      omega
    · rw [if_neg c1]
      by_cases c2 : cl < k
      · rw [if_pos c2]
        exact ⟨Or.inr ⟨rfl, by omega⟩, by omega⟩
      · rw [if_neg c2]
        omega
  · rw [if_pos rfl]
    rw [if_pos rfl] at h4
    omega
theorem sc_cc {sq : Bool} {g : Nat → Int} {base p r cl : Nat} (hcl : sq = false → ∀ k, 1 ≤ k → k ≤ r → (k ≤ cl ↔ k ≤ 11 ∧ nO g (base + p) k < 2048)) (hr : r ≤ 4000) {fr k : Nat} (h0 : l0 sq < fr) (h1 : fr ≤ k) (h2 : k ≤ r) (h3 : k ≤ sc sq cl fr) : cc sq g base p k = cv sq cl fr := by
  unfold sc at h3
  unfold cc cv
  unfold l0 at h0
  cases sq
  · rw [if_neg (by decide)] at h3 ⊢
    rw [if_neg (show ¬ (false = true) by decide)]
    rw [if_neg (by decide)] at h0
    have hk := hcl rfl k (by omega) h2
    by_cases c1 : fr < 4
    · rw [if_pos c1] at h3 ⊢
      rw [if_neg (by omega)]
    · rw [if_neg c1] at h3 ⊢
      by_cases c2 : cl < fr
      · rw [if_pos c2]
        rw [if_neg (fun q => by have := hk.2 ⟨q.2.1, q.2.2⟩; omega)]
      · rw [if_neg c2] at h3 ⊢
        have := hk.1 h3
        rw [if_pos ⟨by omega, this.1, this.2⟩]
  · rw [if_pos rfl] at h3 h0 ⊢
    rw [if_pos rfl]
    have := sh_hd true (m := fr - 4) (k := k - 4) (by omega) (by omega) (by omega)
    unfold hd at this
    rw [if_pos rfl, if_pos rfl] at this
    omega
theorem stc_lt {sq : Bool} {cl fr st : Nat} (h : stc sq cl fr st) (h1 : fr ≤ 4000) : st < 32 := by
  unfold stc at h
  split at h <;> omega
theorem stc_s {sq : Bool} {cl fr st r : Nat} (h : stc sq cl fr st) (h0 : l0 sq < fr) (hr : r ≤ 4000) (hr2 : sq = false → r ≤ 64) (h2 : sc sq cl fr < r) (h1 : fr ≤ r) : stc sq cl (sc sq cl fr + 1) (st + 1) := by
  unfold stc at *
  unfold sc at *
  unfold l0 at h0
  cases sq
  · have := hr2 rfl
    rw [if_neg (by decide)] at h h2 h0 ⊢
    rw [if_neg (show ¬ (false = true) by decide)]
    by_cases c1 : fr < 4
    · rw [if_pos c1]
      omega
    · rw [if_neg c1] at h2 ⊢
      by_cases c2 : cl < fr
      · rw [if_pos c2] at h2
        omega
      · rw [if_neg c2]
        omega
  · rw [if_pos rfl] at h h2 h0 ⊢
    unfold sh at *
    rw [if_pos rfl] at h2
    rw [if_pos rfl, if_pos rfl]
    by_cases c : fr - 4 < 15
    · rw [if_pos c]
      omega
    · rw [if_neg c]
      omega
def Ifc (sq : Bool) (lf : Nat → Int32) (g : Nat → Int) (base p r cl : Nat) (R : Nat → Nat) (k : Nat) (s : (Nat → Int32) × Int32 × Int32 × Int32) : Prop := ∃ W K fr st : Nat, s.1 = upd lf p (iI K) ∧ s.2.1 = iI W ∧ s.2.2.1 = iI fr ∧ s.2.2.2 = iI st ∧ fr = l0 sq + 1 + k ∧ (fr ≤ r + 1 ∨ fr = l0 sq + 1) ∧ st ≤ k ∧ (fr ≤ r → stc sq cl fr st) ∧ W ≤ 268435456 ∧ DC 268435456 (fr - 1) (l0 sq) (cc sq g base p) R p W K
def Pfc (sq : Bool) (lf : Nat → Int32) (g : Nat → Int) (base p r : Nat) (R : Nat → Nat) (o : (Nat → Int32) × Int32) : Prop := ∃ W K : Nat, o.1 = upd lf p (iI K) ∧ o.2 = iI W ∧ DC 268435456 r (l0 sq) (cc sq g base p) R p W K
theorem s_cand_S {g : Nat → Int} {base n p r cl : Nat} {R : Nat → Nat} (hn : n ≤ 4000) (hpr : p + r ≤ n) (hcl0 : cl ≤ 11) (hcl : true = false → ∀ k, 1 ≤ k → k ≤ r → (k ≤ cl ↔ k ≤ 11 ∧ nO g (base + p) k < 2048)) (hRb : ∀ j, j ≤ n → R j ≤ 4100) {lf rv ro rs : Nat → Int32} (hr : LW true n R (p + 1) rv ro rs) : ok (iter (fun st => m_BestRow_findCopy_S_B86 (iI p) 4001 (iI (if true = true then 1 else 0)) (iI n) 4001 rv 4001 ro 4001 rs (iI r) st.1 st.2.1 st.2.2.1 st.2.2.2) FU (upd lf p 0, 268435456, 4, 0)) (Pfc true lf g base p r R) := by
  have hVB : VB n R := fun j hj => by
    have := hRb j hj
    omega
  have hl0 : l0 true = 3 := rfl
  refine ok_loop (Ifc true lf g base p r cl R) 4001 (by omega) ⟨268435456, 0, 4, 0, rfl, rfl, rfl, rfl, rfl, Or.inr rfl, Nat.le_refl _, fun _ => by unfold stc; simp, Nat.le_refl _, Or.inl ⟨rfl, rfl, by omega⟩⟩ ?_
  rintro k ⟨s1, s2, s3, s4⟩ hk ⟨W, K, fr, st, e1, e2, e3, e4, e5, e6, e7, e8, e9, e10⟩
  dsimp only at e1 e2 e3 e4
  subst e1 e2 e3 e4
  unfold m_BestRow_findCopy_S_B86 m_BestRow_findCopy_S_J179
  dsimp only
  by_cases c : r < fr
  · have hend : ok (some (.inr (upd lf p (iI K), iI W)) : Option (((Nat → Int32) × Int32 × Int32 × Int32) ⊕ ((Nat → Int32) × Int32))) (St (fun s' => ∃ k', k < k' ∧ k' ≤ 4001 ∧ Ifc true lf g base p r cl R k' s') (Pfc true lf g base p r R)) := by
      refine ok_end ⟨W, K, rfl, rfl, ?_⟩
      by_cases z : fr - 1 = r
      · rw [← z]
        exact e10
      · rcases e10 with ⟨y1, y2, y3⟩ | ⟨y1, y2, y3, y4⟩
        · exact Or.inl ⟨y1, y2, by omega⟩
        · omega
    by_cases c2 : 32 ≤ st
    · simp (disch := omega) only [bnd_eq, Option.bind_some, lit_0, lit_1, lit_m1, lit_4, lit_5000, iI_nI, iI_add, iI_sub, iI_mul, iI_neg, chk_iI, iI_clamp, iI_lt, iI_le, iI_eq, if_pos, if_neg, if_true, if_false, Int.toNat_natCast, lit_32]
      exact hend
    · simp (disch := omega) only [bnd_eq, Option.bind_some, lit_0, lit_1, lit_m1, lit_4, lit_5000, iI_nI, iI_add, iI_sub, iI_mul, iI_neg, chk_iI, iI_clamp, iI_lt, iI_le, iI_eq, if_pos, if_neg, if_true, if_false, Int.toNat_natCast, lit_32]
      exact hend
  · have hst := stc_lt (e8 (by omega)) (by omega)
    have hsc := sc_le (sq := true) (cl := cl) (k := fr) (by omega) (by omega)
    have hsc1 : fr ≤ sc true cl fr ∨ r ≤ sc true cl fr := by
      rcases hsc.1 with q | q
      · exact Or.inl q
      · exact absurd q.1 (by decide)
    have hsc3 := hsc.2
    clear hsc
    have hcv := cv_le (sq := true) (cl := cl) (show fr ≤ 4000 by omega)
    obtain ⟨to, hto, t1, t2, t3, t4⟩ : ∃ to, min r (sc true cl fr) = to ∧ to ≤ r ∧ to ≤ sc true cl fr ∧ fr ≤ to ∧ (to + 1 ≤ r → to = sc true cl fr) := ⟨_, rfl, by omega, by omega, by omega, by omega⟩
    have hst2 : to + 1 ≤ r → stc true cl (to + 1) (st + 1) := by
      intro z
      have z2 := t4 z
      rw [z2]
      exact stc_s (r := r) (e8 (by omega)) (by omega) (by omega) (fun q => by exact absurd q (by decide)) (by omega) (by omega)
    clear t4 e8 e6 hsc1
    simp (disch := omega) only [bnd_eq, Option.bind_some, lit_0, lit_1, lit_m1, lit_4, lit_5000, iI_nI, iI_add, iI_sub, iI_mul, iI_neg, chk_iI, iI_clamp, iI_lt, iI_le, iI_eq, if_pos, if_neg, if_true, if_false, Int.toNat_natCast, lit_32]
    rw [s_sameCost_S cl (by omega) (by omega), Option.bind_some, iI_min (by omega) (by omega), show min (r : Int) (sc true cl fr : Int) = ((to : Nat) : Int) by omega]
    clear hto
    simp (disch := omega) only [bnd_eq, Option.bind_some, lit_0, lit_1, lit_m1, lit_4, lit_5000, iI_nI, iI_add, iI_sub, iI_mul, iI_neg, chk_iI, iI_clamp, iI_lt, iI_le, iI_eq, if_pos, if_neg, if_true, if_false, Int.toNat_natCast]
    rw [show (p : Int) + (fr : Int) = ((p + fr : Nat) : Int) by omega, show (p : Int) + (to : Int) = ((p + to : Nat) : Int) by omega]
    refine ok_bind (s_least hr hVB hn (a := p + fr) (b := p + to) (by omega) (by omega) (by omega)) ?_
    rintro x ⟨nx, rfl, hl⟩
    have hnx1 := hl.1
    have hnx2 := hl.2.1
    have hRn := hRb nx (by omega)
    have hup := e10.up (cv := cv true cl fr) (by omega) t3 (fun k y1 y2 => sc_cc hcl (by omega) (by omega) y1 (by omega) (by omega)) hl (by omega)
    rw [s_cost_S cl (by omega) (by omega), Option.bind_some, s_valueAt hr hn (by omega) (by omega), Option.bind_some, iI_add, iI_sub, show (cv true cl fr : Int) + (R nx : Int) = ((cv true cl fr + R nx : Nat) : Int) by omega]
    by_cases c3 : W < cv true cl fr + R nx
    · have hx := hup.1 c3
      clear hup
      rw [if_ltT (by omega) (by omega) (by omega)]
      exact ok_go ⟨to - l0 true, by omega, by omega, W, K, to + 1, st + 1, rfl, rfl, by simp, by simp, by omega, Or.inl (by omega), by omega, hst2, e9, by rw [show to + 1 - 1 = to by omega]; exact hx⟩
    · have hx := hup.2 c3
      clear hup
      rw [if_ltF (by omega) (by omega) (by omega)]
      refine ok_go ⟨to - l0 true, by omega, by omega, _, nx - p, to + 1, st + 1, ?_, rfl, by simp, by simp, by omega, Or.inl (by omega), by omega, hst2, by omega, by rw [show to + 1 - 1 = to by omega]; exact hx⟩
      dsimp only
      rw [upd_upd]
      congr 2
      omega
theorem s_findCopy_S {cnt : Int32} {hF bF lF : Nat → Int32} {t : List Int} (h : TR cnt hF bF lF t) {n base : Nat} (hn : n ≤ 4000) (hb : base + n ≤ t.length) {M R C K N : Nat → Nat} (hdp : DP true (gx t) base n M R C K N 0) (hm : HM (gx t) base n M) {p : Nat} (hp : p ≤ n) (fo dp dl dm dO : Int32) (hd : DN (gx t) t.length dp dl dm dO) {lf rv ro rs cf co cs : Nat → Int32} (hr : LW true n R (p + 1) rv ro rs) (hc : LW false n (vC C) (p + 1) cf co cs) : ok (m_BestRow_findCopy_S (iI base) (iI p) (iI n) cnt fo dp dl dm dO 5000 hF 5000 bF 4001 lf (iI (if true = true then 1 else 0)) (iI n) 4001 rv 4001 ro 4001 rs (iI (if false = true then 1 else 0)) (iI n) 4001 cf 4001 co 4001 cs) (fun o => DN (gx t) t.length o.2.1 o.2.2.1 o.2.2.2.1 o.2.2.2.2.1 ∧ o.2.2.2.2.2.1 = upd lf p (iI (K p)) ∧ LW false n (vC C) p o.2.2.2.2.2.2.1 o.2.2.2.2.2.2.2.1 o.2.2.2.2.2.2.2.2) := by
  have ht := h.2.1
  have hl := lim_le true n p
  have hRb : ∀ j, j ≤ n → R j ≤ 4100 := fun j hj => hdp.Rb hn (Nat.zero_le _) hj
  have hCb : ∀ q, q ≤ n → C q = 2147483647 ∨ C q ≤ 4200 := fun q hq => by
    have := hdp.Cb hm hn (Nat.zero_le _) hq
    omega
  unfold m_BestRow_findCopy_S m_Sequences_mostCopy m_Sequences_mostClose m_Sequences_closeSpan m_Sequences_leastCopy
  rw [s_limitAt_S hn hp, Option.bind_some, Option.bind_some, bnd_eq, lit_4000, iI_min (by omega) (by omega), show min (lim true n p : Int) 4000 = ((min (lim true n p) 4000 : Nat) : Int) by omega, iI_add, show (base : Int) + (p : Int) = ((base + p : Nat) : Int) by omega]
  refine ok_bind (s_down h fo dp dl dm dO hd (b := base + p) (lim := min (lim true n p) 4000) (by omega)) ?_
  rintro ⟨r, u5, u6, u7, u8, u9⟩ ⟨r', e1, e2, e3⟩
  dsimp only at e1 e3 ⊢
  subst e1
  have hr1 := e2.1
  have hrh : r' = hi true M n p ∨ (r' ≤ l0 true ∧ hi true M n p ≤ l0 true) := by
    by_cases c : p < n
    · have hmm := (hm p c).cut (show min (lim true n p) 4000 ≤ n - p by omega)
      have e4 := e2.eq hmm (by omega) (by omega)
      have hmp := (hm p c).1
      have e5 : min (lim true n p) 4000 = lim true n p := by omega
      rw [e5] at e4
      unfold hi mt l0
      rw [if_pos rfl, ← e4, if_pos rfl]
      by_cases z : r' < 4
      · rw [if_pos z]
        right
        omega
      · rw [if_neg z]
        left
        rfl
    · have := lim_end true (show n ≤ p by omega)
      have h2 := hi_le hm true p
      left
      omega
  rw [Option.bind_some, Option.bind_some, lit_0, iI_min (by omega) (by omega), show min (r' : Int) 0 = ((min r' 0 : Nat) : Int) by omega]
  refine ok_bind (s_reach h u5 (b := base + p) (lim := min r' 0) (span := 0) (by omega) (by omega)) ?_
  rintro ⟨cl, u13⟩ ⟨cl', e4, e5, e9⟩
  clear e9
  dsimp only at e4 ⊢
  subst e4
  have hcl0 := e5.1
  have hcl : true = false → ∀ k, 1 ≤ k → k ≤ r' → (k ≤ cl' ↔ k ≤ 11 ∧ nO (gx t) (base + p) k < 2048) := by
    exact fun q => absurd q (by decide)
  simp (disch := omega) only [bnd_eq, Option.bind_some, lit_0, lit_1, lit_m1, lit_4, lit_5000, iI_nI, iI_add, iI_sub, iI_mul, iI_neg, chk_iI, iI_clamp, iI_lt, iI_le, iI_eq, if_pos, if_neg, if_true, if_false, Int.toNat_natCast]
  refine ok_bind (s_cand_S (g := gx t) (base := base) (cl := cl') (R := R) hn (show p + r' ≤ n by omega) (by omega) hcl hRb hr) ?_
  rintro ⟨o1, o2⟩ ⟨W, K', y1, y2, y3⟩
  dsimp only at y1 y2 ⊢
  subst y1 y2
  have d1 : DC 268435456 (hi true M n p) (l0 true) (cc true (gx t) base p) R p W K' := by
    rcases hrh with z | ⟨z1, z2⟩
    · rw [← z]
      exact y3
    · rcases y3 with ⟨w1, w2, w3⟩ | ⟨w1, w2, w3, w4⟩
      · exact Or.inl ⟨w1, w2, z2⟩
      · omega
  obtain ⟨k1, k2⟩ := d1.sym (hdp p (Nat.zero_le _) hp).1
  have hW : W + p = vC C p := by
    unfold vC
    rcases k2 with ⟨w1, w2, w3⟩ | ⟨w1, w2, w3⟩
    · rw [if_pos w2, w1]
    · rcases hdp.Cb hm hn (Nat.zero_le _) hp with z | z
      · omega
      · rw [if_neg (by omega), w1]
  unfold m_BestRow_findCopy_S_E191
  rw [iI_add, show (W : Int) + (p : Int) = ((vC C p : Nat) : Int) by omega]
  refine ok_bind (s_put hc (vC_b hn hCb) hn hp) ?_
  rintro ⟨v1, v2, v3⟩ hv
  exact ok_some ⟨e3, by rw [k1], hv⟩
def Ifd_S (g : Nat → Int) (L n : Nat) (R C K N : Nat → Nat) (k : Nat) (s : (Nat → Int32) × (Nat → Int32) × (Nat → Int32) × (Nat → Int32) × (Nat → Int32) × (Nat → Int32) × (Nat → Int32) × (Nat → Int32) × Int32 × Int32 × Int32 × Int32 × Int32 × Int32) : Prop := k ≤ n + 1 ∧ s.2.2.2.2.2.2.2.2.2.2.2.2.2 = iI ((n : Int) - k) ∧ LW false n (vC C) (n + 1 - k) s.2.2.1 s.1 s.2.1 ∧ LW true n R (n + 1 - k) s.2.2.2.2.2.2.2.1 s.2.2.2.2.2.1 s.2.2.2.2.2.2.1 ∧ (∀ j, n + 1 - k ≤ j → j ≤ n → s.2.2.2.1 j = iI (K j) ∧ s.2.2.2.2.1 j = iI ((j + N j : Nat) : Int)) ∧ DN g L s.2.2.2.2.2.2.2.2.2.1 s.2.2.2.2.2.2.2.2.2.2.1 s.2.2.2.2.2.2.2.2.2.2.2.1 s.2.2.2.2.2.2.2.2.2.2.2.2.1
def Pfd_S (g : Nat → Int) (L n : Nat) (K N : Nat → Nat) (o : Int32 × Int32 × Int32 × Int32 × Int32 × Int32 × Int32 × Int32 × (Nat → Int32) × (Nat → Int32) × (Nat → Int32) × (Nat → Int32) × (Nat → Int32) × (Nat → Int32) × (Nat → Int32) × (Nat → Int32)) : Prop := o.1 = iI n ∧ DN g L o.2.2.2.2.1 o.2.2.2.2.2.1 o.2.2.2.2.2.2.1 o.2.2.2.2.2.2.2.1 ∧ ∀ j, j ≤ n → o.2.2.2.2.2.2.2.2.1 j = iI (K j) ∧ o.2.2.2.2.2.2.2.2.2.2.2.2.2.2.2 j = iI ((j + N j : Nat) : Int)
theorem s_find_S {cnt : Int32} {hF bF lF : Nat → Int32} {t : List Int} (h : TR cnt hF bF lF t) {n base : Nat} (hn : n ≤ 4000) (hb : base + n ≤ t.length) {M R C K N : Nat → Nat} (hdp : DP true (gx t) base n M R C K N 0) (hm : HM (gx t) base n M) (fo dp dl dm dO : Int32) (hd : DN (gx t) t.length dp dl dm dO) (lf rv ro rs cf co cs pf : Nat → Int32) : ok (m_BestRow_find_S (iI base) (iI n) (iI (if false = true then 1 else 0)) (iI (if true = true then 1 else 0)) cnt fo dp dl dm dO 5000 hF 5000 bF 4001 lf 4001 rv 4001 ro 4001 rs 4001 cf 4001 co 4001 cs 4001 pf) (Pfd_S (gx t) t.length n K N) := by
  unfold m_BestRow_find_S m_Lows_start
  rw [lit_4000, iI_min (by omega) (by omega), lit_0, iI_max (by omega) (by omega), show max (0 : Int) (min (n : Int) 4000) = ((n : Nat) : Int) by omega]
  simp (disch := omega) only [bnd_eq, Option.bind_some, lit_0, lit_1, lit_m1, lit_4, lit_5000, iI_nI, iI_add, iI_sub, iI_mul, iI_neg, chk_iI, iI_clamp, iI_lt, iI_le, iI_eq, if_pos, if_neg, if_true, if_false, Int.toNat_natCast]
  rw [iI_min (by omega) (by omega), show min (n : Int) 4000 = ((n : Nat) : Int) by omega]
  refine ok_bind (Q := Pfd_S (gx t) t.length n K N) ?_ (fun o ho => ok_some ho)
  refine ok_loop (Ifd_S (gx t) t.length n R C K N) (n + 1) (by omega) ⟨by omega, by simp, LW.start _ _ _ _ _ _, LW.start _ _ _ _ _ _, fun j x1 x2 => by omega, hd⟩ ?_
  rintro k ⟨s1, s2, s3, s4, s5, s6, s7, s8, s9, s10, s11, s12, s13, s14⟩ hk ⟨e0, e1, e2, e3, e4, e5⟩
  dsimp only at e1 e2 e3 e4 e5
  subst e1
  unfold m_BestRow_find_S_B49
  dsimp only
  by_cases c : k = n + 1
  · simp (disch := omega) only [bnd_eq, Option.bind_some, lit_0, lit_1, lit_m1, lit_4, lit_5000, iI_nI, iI_add, iI_sub, iI_mul, iI_neg, chk_iI, iI_clamp, iI_lt, iI_le, iI_eq, if_pos, if_neg, if_true, if_false, Int.toNat_natCast]
    rw [show n + 1 - k = 0 by omega] at e4
    exact ok_end ⟨rfl, e5, fun j hj => e4 j (Nat.zero_le _) hj⟩
  · obtain ⟨p, hpk⟩ : ∃ p, p + k = n := ⟨n - k, by omega⟩
    rw [show n + 1 - k = p + 1 by omega] at e2 e3 e4
    rw [show (n : Int) - (k : Int) = ((p : Nat) : Int) by omega]
    rw [if_lt0F (by omega) (by omega)]
    refine ok_bind (s_findCopy_S h hn hb hdp hm (show p ≤ n by omega) s9 s10 s11 s12 s13 e5 e3 e2) ?_
    rintro ⟨u18, u19, u20, u21, u22, u23, u24, u25, u26⟩ ⟨y1, y2, y3⟩
    dsimp only at y1 y2 y3 ⊢
    subst y2
    refine ok_bind (s_rest_S hdp hm hn (show p ≤ n by omega) (pf := s5) y3 e3) ?_
    rintro ⟨u27, u28, u29, u30⟩ ⟨z1, z2⟩
    dsimp only at z1 z2 ⊢
    subst z1
    simp (disch := omega) only [bnd_eq, Option.bind_some, lit_0, lit_1, lit_m1, lit_4, lit_5000, iI_nI, iI_add, iI_sub, iI_mul, iI_neg, chk_iI, iI_clamp, iI_lt, iI_le, iI_eq, if_pos, if_neg, if_true, if_false, Int.toNat_natCast]
    refine ok_go ⟨k + 1, by omega, by omega, by omega, ?_, ?_, ?_, ?_, y1⟩
    · dsimp only
      congr 1
      omega
    · rw [show n + 1 - (k + 1) = p by omega]
      exact y3
    · rw [show n + 1 - (k + 1) = p by omega]
      exact z2
    · rw [show n + 1 - (k + 1) = p by omega]
      intro j x1 x2
      dsimp only
      by_cases w : j = p
      · subst w
        rw [pk_us, pk_us]
        exact ⟨rfl, rfl⟩
      · rw [pk_un w, pk_un w]
        exact e4 j (by omega) x2
theorem s_cand_E {g : Nat → Int} {base n p r cl : Nat} {R : Nat → Nat} (hn : n ≤ 4000) (hpr : p + r ≤ n) (hr64 : r ≤ 64) (hcl0 : cl ≤ 11) (hcl : false = false → ∀ k, 1 ≤ k → k ≤ r → (k ≤ cl ↔ k ≤ 11 ∧ nO g (base + p) k < 2048)) (hRb : ∀ j, j ≤ n → R j ≤ 4100) {lf rv ro rs : Nat → Int32} (hr : LW true n R (p + 1) rv ro rs) : ok (iter (fun st => m_BestRow_findCopy_E_B86 (iI p) 4001 (iI (if true = true then 1 else 0)) (iI n) 4001 rv 4001 ro 4001 rs (iI r) (iI cl) st.1 st.2.1 st.2.2.1 st.2.2.2) FU (upd lf p 0, 268435456, 1, 0)) (Pfc false lf g base p r R) := by
  have hVB : VB n R := fun j hj => by
    have := hRb j hj
    omega
  have hl0 : l0 false = 0 := rfl
  refine ok_loop (Ifc false lf g base p r cl R) 4001 (by omega) ⟨268435456, 0, 1, 0, rfl, rfl, rfl, rfl, rfl, Or.inr rfl, Nat.le_refl _, fun _ => by unfold stc; simp, Nat.le_refl _, Or.inl ⟨rfl, rfl, by omega⟩⟩ ?_
  rintro k ⟨s1, s2, s3, s4⟩ hk ⟨W, K, fr, st, e1, e2, e3, e4, e5, e6, e7, e8, e9, e10⟩
  dsimp only at e1 e2 e3 e4
  subst e1 e2 e3 e4
  unfold m_BestRow_findCopy_E_B86 m_BestRow_findCopy_E_J179
  dsimp only
  by_cases c : r < fr
  · have hend : ok (some (.inr (upd lf p (iI K), iI W)) : Option (((Nat → Int32) × Int32 × Int32 × Int32) ⊕ ((Nat → Int32) × Int32))) (St (fun s' => ∃ k', k < k' ∧ k' ≤ 4001 ∧ Ifc false lf g base p r cl R k' s') (Pfc false lf g base p r R)) := by
      refine ok_end ⟨W, K, rfl, rfl, ?_⟩
      by_cases z : fr - 1 = r
      · rw [← z]
        exact e10
      · rcases e10 with ⟨y1, y2, y3⟩ | ⟨y1, y2, y3, y4⟩
        · exact Or.inl ⟨y1, y2, by omega⟩
        · omega
    by_cases c2 : 32 ≤ st
    · simp (disch := omega) only [bnd_eq, Option.bind_some, lit_0, lit_1, lit_m1, lit_4, lit_5000, iI_nI, iI_add, iI_sub, iI_mul, iI_neg, chk_iI, iI_clamp, iI_lt, iI_le, iI_eq, if_pos, if_neg, if_true, if_false, Int.toNat_natCast, lit_32]
      exact hend
    · simp (disch := omega) only [bnd_eq, Option.bind_some, lit_0, lit_1, lit_m1, lit_4, lit_5000, iI_nI, iI_add, iI_sub, iI_mul, iI_neg, chk_iI, iI_clamp, iI_lt, iI_le, iI_eq, if_pos, if_neg, if_true, if_false, Int.toNat_natCast, lit_32]
      exact hend
  · have hst := stc_lt (e8 (by omega)) (by omega)
    have hsc := sc_le (sq := false) (cl := cl) (k := fr) (by omega) (by omega)
    have hsc1 : fr ≤ sc false cl fr ∨ r ≤ sc false cl fr := by
      rcases hsc.1 with q | q
      · exact Or.inl q
      · have := q.2; omega
    have hsc3 := hsc.2
    clear hsc
    have hcv := cv_le (sq := false) (cl := cl) (show fr ≤ 4000 by omega)
    obtain ⟨to, hto, t1, t2, t3, t4⟩ : ∃ to, min r (sc false cl fr) = to ∧ to ≤ r ∧ to ≤ sc false cl fr ∧ fr ≤ to ∧ (to + 1 ≤ r → to = sc false cl fr) := ⟨_, rfl, by omega, by omega, by omega, by omega⟩
    have hst2 : to + 1 ≤ r → stc false cl (to + 1) (st + 1) := by
      intro z
      have z2 := t4 z
      rw [z2]
      exact stc_s (r := r) (e8 (by omega)) (by omega) (by omega) (fun q => by omega) (by omega) (by omega)
    clear t4 e8 e6 hsc1
    simp (disch := omega) only [bnd_eq, Option.bind_some, lit_0, lit_1, lit_m1, lit_4, lit_5000, iI_nI, iI_add, iI_sub, iI_mul, iI_neg, chk_iI, iI_clamp, iI_lt, iI_le, iI_eq, if_pos, if_neg, if_true, if_false, Int.toNat_natCast, lit_32]
    rw [s_sameCost_E cl (by omega) (by omega), Option.bind_some, iI_min (by omega) (by omega), show min (r : Int) (sc false cl fr : Int) = ((to : Nat) : Int) by omega]
    clear hto
    simp (disch := omega) only [bnd_eq, Option.bind_some, lit_0, lit_1, lit_m1, lit_4, lit_5000, iI_nI, iI_add, iI_sub, iI_mul, iI_neg, chk_iI, iI_clamp, iI_lt, iI_le, iI_eq, if_pos, if_neg, if_true, if_false, Int.toNat_natCast]
    rw [show (p : Int) + (fr : Int) = ((p + fr : Nat) : Int) by omega, show (p : Int) + (to : Int) = ((p + to : Nat) : Int) by omega]
    refine ok_bind (s_least hr hVB hn (a := p + fr) (b := p + to) (by omega) (by omega) (by omega)) ?_
    rintro x ⟨nx, rfl, hl⟩
    have hnx1 := hl.1
    have hnx2 := hl.2.1
    have hRn := hRb nx (by omega)
    have hup := e10.up (cv := cv false cl fr) (by omega) t3 (fun k y1 y2 => sc_cc hcl (by omega) (by omega) y1 (by omega) (by omega)) hl (by omega)
    rw [s_cost_E cl (by omega) (by omega), Option.bind_some, s_valueAt hr hn (by omega) (by omega), Option.bind_some, iI_add, iI_sub, show (cv false cl fr : Int) + (R nx : Int) = ((cv false cl fr + R nx : Nat) : Int) by omega]
    by_cases c3 : W < cv false cl fr + R nx
    · have hx := hup.1 c3
      clear hup
      rw [if_ltT (by omega) (by omega) (by omega)]
      exact ok_go ⟨to - l0 false, by omega, by omega, W, K, to + 1, st + 1, rfl, rfl, by simp, by simp, by omega, Or.inl (by omega), by omega, hst2, e9, by rw [show to + 1 - 1 = to by omega]; exact hx⟩
    · have hx := hup.2 c3
      clear hup
      rw [if_ltF (by omega) (by omega) (by omega)]
      refine ok_go ⟨to - l0 false, by omega, by omega, _, nx - p, to + 1, st + 1, ?_, rfl, by simp, by simp, by omega, Or.inl (by omega), by omega, hst2, by omega, by rw [show to + 1 - 1 = to by omega]; exact hx⟩
      dsimp only
      rw [upd_upd]
      congr 2
      omega
theorem s_findCopy_E {cnt : Int32} {hF bF lF : Nat → Int32} {t : List Int} (h : TR cnt hF bF lF t) {n base : Nat} (hn : n ≤ 4000) (hb : base + n ≤ t.length) {M R C K N : Nat → Nat} (hdp : DP false (gx t) base n M R C K N 0) (hm : HM (gx t) base n M) {p : Nat} (hp : p ≤ n) (fo dp dl dm dO : Int32) (hd : DN (gx t) t.length dp dl dm dO) {lf rv ro rs cf co cs : Nat → Int32} (hr : LW true n R (p + 1) rv ro rs) (hc : LW false n (vC C) (p + 1) cf co cs) : ok (m_BestRow_findCopy_E (iI base) (iI p) (iI n) cnt fo dp dl dm dO 5000 hF 5000 bF 4001 lf (iI (if true = true then 1 else 0)) (iI n) 4001 rv 4001 ro 4001 rs (iI (if false = true then 1 else 0)) (iI n) 4001 cf 4001 co 4001 cs) (fun o => DN (gx t) t.length o.2.1 o.2.2.1 o.2.2.2.1 o.2.2.2.2.1 ∧ o.2.2.2.2.2.1 = upd lf p (iI (K p)) ∧ LW false n (vC C) p o.2.2.2.2.2.2.1 o.2.2.2.2.2.2.2.1 o.2.2.2.2.2.2.2.2) := by
  have ht := h.2.1
  have hl := lim_le false n p
  have hRb : ∀ j, j ≤ n → R j ≤ 4100 := fun j hj => hdp.Rb hn (Nat.zero_le _) hj
  have hCb : ∀ q, q ≤ n → C q = 2147483647 ∨ C q ≤ 4200 := fun q hq => by
    have := hdp.Cb hm hn (Nat.zero_le _) hq
    omega
  unfold m_BestRow_findCopy_E m_Elements_mostCopy m_Elements_mostClose m_Elements_closeSpan m_Elements_leastCopy
  rw [s_limitAt_E hn hp, Option.bind_some, Option.bind_some, bnd_eq, lit_64, iI_min (by omega) (by omega), show min (lim false n p : Int) 64 = ((min (lim false n p) 64 : Nat) : Int) by omega, iI_add, show (base : Int) + (p : Int) = ((base + p : Nat) : Int) by omega]
  refine ok_bind (s_down h fo dp dl dm dO hd (b := base + p) (lim := min (lim false n p) 64) (by omega)) ?_
  rintro ⟨r, u5, u6, u7, u8, u9⟩ ⟨r', e1, e2, e3⟩
  dsimp only at e1 e3 ⊢
  subst e1
  have hr1 := e2.1
  have hrh : r' = hi false M n p ∨ (r' ≤ l0 false ∧ hi false M n p ≤ l0 false) := by
    by_cases c : p < n
    · have hmm := (hm p c).cut (show min (lim false n p) 64 ≤ n - p by omega)
      have e4 := e2.eq hmm (by omega) (by omega)
      have hmp := (hm p c).1
      left
      have e5 : lim false n p = n - p := by unfold lim; rw [if_neg (by decide)]
      rw [e5] at e4
      unfold hi
      rw [if_neg (by decide), if_pos c]
      omega
    · have := lim_end false (show n ≤ p by omega)
      have h2 := hi_le hm false p
      left
      omega
  rw [Option.bind_some, Option.bind_some, lit_11, lit_2047, iI_min (by omega) (by omega), show min (r' : Int) 11 = ((min r' 11 : Nat) : Int) by omega]
  refine ok_bind (s_reach h u5 (b := base + p) (lim := min r' 11) (span := 2047) (by omega) (by omega)) ?_
  rintro ⟨cl, u13⟩ ⟨cl', e4, e5, e9⟩
  clear e9
  dsimp only at e4 ⊢
  subst e4
  have hcl0 := e5.1
  have hcl : false = false → ∀ k, 1 ≤ k → k ≤ r' → (k ≤ cl' ↔ k ≤ 11 ∧ nO (gx t) (base + p) k < 2048) := by
    intro _ k y1 y2
    obtain ⟨a0, z1, z2, z3⟩ := e2.2.1 (by omega)
    have hno := nO_near ⟨a0, z1, z3.mono y2⟩
    refine ⟨fun q => ⟨by omega, ?_⟩, fun q => ?_⟩
    · obtain ⟨a1, w1, w2, w3⟩ := e5.2.1 (by omega)
      obtain ⟨o, v1, v2⟩ := Near.ex w1 (w3.mono q)
      have := v1.nO
      omega
    · have h1 := hno.1
      have h2 := hno.2.1
      exact e5.2.2 (base + p - nO (gx t) (base + p) k) k (by omega) (by omega) (by omega) hno.2.2.1
  simp (disch := omega) only [bnd_eq, Option.bind_some, lit_0, lit_1, lit_m1, lit_4, lit_5000, iI_nI, iI_add, iI_sub, iI_mul, iI_neg, chk_iI, iI_clamp, iI_lt, iI_le, iI_eq, if_pos, if_neg, if_true, if_false, Int.toNat_natCast]
  refine ok_bind (s_cand_E (g := gx t) (base := base) (cl := cl') (R := R) hn (show p + r' ≤ n by omega) (by omega) (by omega) hcl hRb hr) ?_
  rintro ⟨o1, o2⟩ ⟨W, K', y1, y2, y3⟩
  dsimp only at y1 y2 ⊢
  subst y1 y2
  have d1 : DC 268435456 (hi false M n p) (l0 false) (cc false (gx t) base p) R p W K' := by
    rcases hrh with z | ⟨z1, z2⟩
    · rw [← z]
      exact y3
    · rcases y3 with ⟨w1, w2, w3⟩ | ⟨w1, w2, w3, w4⟩
      · exact Or.inl ⟨w1, w2, z2⟩
      · omega
  obtain ⟨k1, k2⟩ := d1.sym (hdp p (Nat.zero_le _) hp).1
  have hW : W + p = vC C p := by
    unfold vC
    rcases k2 with ⟨w1, w2, w3⟩ | ⟨w1, w2, w3⟩
    · rw [if_pos w2, w1]
    · rcases hdp.Cb hm hn (Nat.zero_le _) hp with z | z
      · omega
      · rw [if_neg (by omega), w1]
  unfold m_BestRow_findCopy_E_E191
  rw [iI_add, show (W : Int) + (p : Int) = ((vC C p : Nat) : Int) by omega]
  refine ok_bind (s_put hc (vC_b hn hCb) hn hp) ?_
  rintro ⟨v1, v2, v3⟩ hv
  exact ok_some ⟨e3, by rw [k1], hv⟩
def Ifd_E (g : Nat → Int) (L n : Nat) (R C K N : Nat → Nat) (k : Nat) (s : (Nat → Int32) × (Nat → Int32) × (Nat → Int32) × (Nat → Int32) × (Nat → Int32) × (Nat → Int32) × (Nat → Int32) × (Nat → Int32) × Int32 × Int32 × Int32 × Int32 × Int32 × Int32) : Prop := k ≤ n + 1 ∧ s.2.2.2.2.2.2.2.2.2.2.2.2.2 = iI ((n : Int) - k) ∧ LW false n (vC C) (n + 1 - k) s.2.2.1 s.1 s.2.1 ∧ LW true n R (n + 1 - k) s.2.2.2.2.2.2.2.1 s.2.2.2.2.2.1 s.2.2.2.2.2.2.1 ∧ (∀ j, n + 1 - k ≤ j → j ≤ n → s.2.2.2.1 j = iI (K j) ∧ s.2.2.2.2.1 j = iI ((j + N j : Nat) : Int)) ∧ DN g L s.2.2.2.2.2.2.2.2.2.1 s.2.2.2.2.2.2.2.2.2.2.1 s.2.2.2.2.2.2.2.2.2.2.2.1 s.2.2.2.2.2.2.2.2.2.2.2.2.1
def Pfd_E (g : Nat → Int) (L n : Nat) (K N : Nat → Nat) (o : Int32 × Int32 × Int32 × Int32 × Int32 × Int32 × Int32 × Int32 × (Nat → Int32) × (Nat → Int32) × (Nat → Int32) × (Nat → Int32) × (Nat → Int32) × (Nat → Int32) × (Nat → Int32) × (Nat → Int32)) : Prop := o.1 = iI n ∧ DN g L o.2.2.2.2.1 o.2.2.2.2.2.1 o.2.2.2.2.2.2.1 o.2.2.2.2.2.2.2.1 ∧ ∀ j, j ≤ n → o.2.2.2.2.2.2.2.2.1 j = iI (K j) ∧ o.2.2.2.2.2.2.2.2.2.2.2.2.2.2.2 j = iI ((j + N j : Nat) : Int)
theorem s_find_E {cnt : Int32} {hF bF lF : Nat → Int32} {t : List Int} (h : TR cnt hF bF lF t) {n base : Nat} (hn : n ≤ 4000) (hb : base + n ≤ t.length) {M R C K N : Nat → Nat} (hdp : DP false (gx t) base n M R C K N 0) (hm : HM (gx t) base n M) (fo dp dl dm dO : Int32) (hd : DN (gx t) t.length dp dl dm dO) (lf rv ro rs cf co cs pf : Nat → Int32) : ok (m_BestRow_find_E (iI base) (iI n) (iI (if false = true then 1 else 0)) (iI (if true = true then 1 else 0)) cnt fo dp dl dm dO 5000 hF 5000 bF 4001 lf 4001 rv 4001 ro 4001 rs 4001 cf 4001 co 4001 cs 4001 pf) (Pfd_E (gx t) t.length n K N) := by
  unfold m_BestRow_find_E m_Lows_start
  rw [lit_4000, iI_min (by omega) (by omega), lit_0, iI_max (by omega) (by omega), show max (0 : Int) (min (n : Int) 4000) = ((n : Nat) : Int) by omega]
  simp (disch := omega) only [bnd_eq, Option.bind_some, lit_0, lit_1, lit_m1, lit_4, lit_5000, iI_nI, iI_add, iI_sub, iI_mul, iI_neg, chk_iI, iI_clamp, iI_lt, iI_le, iI_eq, if_pos, if_neg, if_true, if_false, Int.toNat_natCast]
  rw [iI_min (by omega) (by omega), show min (n : Int) 4000 = ((n : Nat) : Int) by omega]
  refine ok_bind (Q := Pfd_E (gx t) t.length n K N) ?_ (fun o ho => ok_some ho)
  refine ok_loop (Ifd_E (gx t) t.length n R C K N) (n + 1) (by omega) ⟨by omega, by simp, LW.start _ _ _ _ _ _, LW.start _ _ _ _ _ _, fun j x1 x2 => by omega, hd⟩ ?_
  rintro k ⟨s1, s2, s3, s4, s5, s6, s7, s8, s9, s10, s11, s12, s13, s14⟩ hk ⟨e0, e1, e2, e3, e4, e5⟩
  dsimp only at e1 e2 e3 e4 e5
  subst e1
  unfold m_BestRow_find_E_B49
  dsimp only
  by_cases c : k = n + 1
  · simp (disch := omega) only [bnd_eq, Option.bind_some, lit_0, lit_1, lit_m1, lit_4, lit_5000, iI_nI, iI_add, iI_sub, iI_mul, iI_neg, chk_iI, iI_clamp, iI_lt, iI_le, iI_eq, if_pos, if_neg, if_true, if_false, Int.toNat_natCast]
    rw [show n + 1 - k = 0 by omega] at e4
    exact ok_end ⟨rfl, e5, fun j hj => e4 j (Nat.zero_le _) hj⟩
  · obtain ⟨p, hpk⟩ : ∃ p, p + k = n := ⟨n - k, by omega⟩
    rw [show n + 1 - k = p + 1 by omega] at e2 e3 e4
    rw [show (n : Int) - (k : Int) = ((p : Nat) : Int) by omega]
    rw [if_lt0F (by omega) (by omega)]
    refine ok_bind (s_findCopy_E h hn hb hdp hm (show p ≤ n by omega) s9 s10 s11 s12 s13 e5 e3 e2) ?_
    rintro ⟨u18, u19, u20, u21, u22, u23, u24, u25, u26⟩ ⟨y1, y2, y3⟩
    dsimp only at y1 y2 y3 ⊢
    subst y2
    refine ok_bind (s_rest_E hdp hm hn (show p ≤ n by omega) (pf := s5) y3 e3) ?_
    rintro ⟨u27, u28, u29, u30⟩ ⟨z1, z2⟩
    dsimp only at z1 z2 ⊢
    subst z1
    simp (disch := omega) only [bnd_eq, Option.bind_some, lit_0, lit_1, lit_m1, lit_4, lit_5000, iI_nI, iI_add, iI_sub, iI_mul, iI_neg, chk_iI, iI_clamp, iI_lt, iI_le, iI_eq, if_pos, if_neg, if_true, if_false, Int.toNat_natCast]
    refine ok_go ⟨k + 1, by omega, by omega, by omega, ?_, ?_, ?_, ?_, y1⟩
    · dsimp only
      congr 1
      omega
    · rw [show n + 1 - (k + 1) = p by omega]
      exact y3
    · rw [show n + 1 - (k + 1) = p by omega]
      exact z2
    · rw [show n + 1 - (k + 1) = p by omega]
      intro j x1 x2
      dsimp only
      by_cases w : j = p
      · subst w
        rw [pk_us, pk_us]
        exact ⟨rfl, rfl⟩
      · rw [pk_un w, pk_un w]
        exact e4 j (by omega) x2
theorem s_bestRow {sq : Bool} {g : Nat → Int} {base n : Nat} {M R C K N : Nat → Nat} (hdp : DP sq g base n M R C K N 0) (hm : HM g base n M) (hn : n ≤ 4000) {lf pf F : Nat → Int32} (hl : ∀ j, j ≤ n → lf j = iI (K j) ∧ pf j = iI ((j + N j : Nat) : Int)) (hF0 : ∀ j, j < n → F j = 0) : ok (m_Packer_chooseBestRow (iI n) (iI n) 4001 pf 4001 lf 4000 F) (fun F' => FA n F' (dpl n K N n 0)) := by
  have hpf : ∀ j, j ≤ n → m_BestRow_placeFrom (iI j) (iI n) 4001 pf = some (iI ((j + N j : Nat) : Int)) := by
    intro j hj
    unfold m_BestRow_placeFrom
    simp (disch := omega) only [bnd_eq, Option.bind_some, lit_0, lit_1, lit_m1, lit_4, lit_5000, iI_nI, iI_add, iI_sub, iI_mul, iI_neg, chk_iI, iI_clamp, iI_lt, iI_le, iI_eq, if_pos, if_neg, if_true, if_false, Int.toNat_natCast]
    rw [(hl j hj).2]
  have hla : ∀ j, j ≤ n → m_BestRow_lengthAt (iI j) (iI n) 4001 lf = some (iI (K j)) := by
    intro j hj
    unfold m_BestRow_lengthAt
    simp (disch := omega) only [bnd_eq, Option.bind_some, lit_0, lit_1, lit_m1, lit_4, lit_5000, iI_nI, iI_add, iI_sub, iI_mul, iI_neg, chk_iI, iI_clamp, iI_lt, iI_le, iI_eq, if_pos, if_neg, if_true, if_false, Int.toNat_natCast]
    rw [(hl j hj).1]
  have hN : ∀ p, p ≤ n → p + N p ≤ n := fun p hp => (hdp.R (Nat.zero_le _) hp).2.2.1
  unfold m_Packer_chooseBestRow m_Packer_chooseBestRow_E62
  rw [show (0 : Int32) = iI ((0 : Nat) : Int) from rfl, hpf 0 (Nat.zero_le _), Option.bind_some]
  refine ok_bind (Q := fun F' => FA n F' (dpl n K N n 0)) ?_ (fun o ho => ok_some ho)
  refine ok_loop (fun p s => ∃ (f st : Nat) (d : List (Nat × Nat)), s.2.1 = iI ((p + N p : Nat) : Int) ∧ s.2.2 = iI st ∧ st ≤ p ∧ FA n s.1 d ∧ (∀ x ∈ d, x.1 < p) ∧ n - p ≤ f ∧ d ++ dpl n K N f p = dpl n K N n 0) n (by omega) ⟨n, 0, [], rfl, rfl, Nat.le_refl _, fun j hj => hF0 j hj, fun x hx => absurd hx (by simp), by omega, rfl⟩ ?_
  rintro p ⟨s1, s2, s3⟩ hp ⟨f, st, d, e1, e2, e3, e4, e5, e6, e7⟩
  dsimp only at e1 e2 e4
  subst e1 e2
  unfold m_Packer_chooseBestRow_B11
  dsimp only
  have hNp := hN p hp
  by_cases c : p + N p = n
  · have hd : FA n s1 (dpl n K N n 0) := by
      have : dpl n K N f p = [] := by
        by_cases z : n ≤ p
        · exact dpl_e z
        · obtain ⟨f, rfl⟩ : ∃ m, f = m + 1 := ⟨f - 1, by omega⟩
          exact dpl_l (by omega) c
      rw [this, List.append_nil] at e7
      rw [← e7]
      exact e4
    by_cases c2 : 4000 ≤ st
    · simp (disch := omega) only [bnd_eq, Option.bind_some, lit_0, lit_1, lit_m1, lit_4, lit_5000, iI_nI, iI_add, iI_sub, iI_mul, iI_neg, chk_iI, iI_clamp, iI_lt, iI_le, iI_eq, if_pos, if_neg, if_true, if_false, Int.toNat_natCast, lit_4000]
      exact ok_end hd
    · simp (disch := omega) only [bnd_eq, Option.bind_some, lit_0, lit_1, lit_m1, lit_4, lit_5000, iI_nI, iI_add, iI_sub, iI_mul, iI_neg, chk_iI, iI_clamp, iI_lt, iI_le, iI_eq, if_pos, if_neg, if_true, if_false, Int.toNat_natCast, lit_4000]
      exact ok_end hd
  · obtain ⟨f, rfl⟩ : ∃ m, f = m + 1 := ⟨f - 1, by omega⟩
    obtain ⟨a1, a2, a3, a4, a5, a6, a7, a8⟩ := hdp.at hm hn (show p < n by omega) c
    rw [dpl_s (by omega) c] at e7
    simp (disch := omega) only [bnd_eq, Option.bind_some, lit_0, lit_1, lit_m1, lit_4, lit_5000, iI_nI, iI_add, iI_sub, iI_mul, iI_neg, chk_iI, iI_clamp, iI_lt, iI_le, iI_eq, if_pos, if_neg, if_true, if_false, Int.toNat_natCast, lit_4000]
    rw [hla _ (by omega)]
    simp (disch := omega) only [bnd_eq, Option.bind_some, lit_0, lit_1, lit_m1, lit_4, lit_5000, iI_nI, iI_add, iI_sub, iI_mul, iI_neg, chk_iI, iI_clamp, iI_lt, iI_le, iI_eq, if_pos, if_neg, if_true, if_false, Int.toNat_natCast]
    rw [pk_us]
    simp (disch := omega) only [bnd_eq, Option.bind_some, lit_0, lit_1, lit_m1, lit_4, lit_5000, iI_nI, iI_add, iI_sub, iI_mul, iI_neg, chk_iI, iI_clamp, iI_lt, iI_le, iI_eq, if_pos, if_neg, if_true, if_false, Int.toNat_natCast]
    rw [show ((p + N p : Nat) : Int) + (K (p + N p) : Int) = ((p + N p + K (p + N p) : Nat) : Int) by omega, hpf _ a3]
    simp (disch := omega) only [bnd_eq, Option.bind_some, lit_0, lit_1, lit_m1, lit_4, lit_5000, iI_nI, iI_add, iI_sub, iI_mul, iI_neg, chk_iI, iI_clamp, iI_lt, iI_le, iI_eq, if_pos, if_neg, if_true, if_false, Int.toNat_natCast]
    refine ok_go ⟨p + N p + K (p + N p), by omega, a3, f, st + 1, d ++ [(p + N p, K (p + N p))], rfl, by simp, by omega, e4.push (fun x hx => by have := e5 x hx; omega), fun x hx => ?_, by omega, ?_⟩
    · rw [List.mem_append, List.mem_singleton] at hx
      rcases hx with hx | hx
      · have := e5 x hx
        omega
      · rw [hx]
        dsimp only
        omega
    · rw [List.append_assoc]
      exact e7
