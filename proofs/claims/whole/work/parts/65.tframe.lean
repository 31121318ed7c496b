/-! one block of a frame: the reference; the frame of both -/
def Pfb {X : Type} (P body : List Int) (sF : Nat → Int32) (from' k : Nat) (B z : Int) (fl : List Int32) (r : ((Nat → Int32) × (Nat → Int32) × (Nat → Int32) × (Nat → Int32) × (Nat → Int32) × (Nat → Int32) × (Nat → Int32) × (Nat → Int32) × (Nat → Int32) × (Nat → Int32) × (Nat → Int32) × (Nat → Int32) × Int32 × Int32 × Int32 × Int32 × Int32 × Int32 × Int32 × Int32 × Int32) ⊕ X) : Prop := ∃ s', r = Sum.inl s' ∧ s'.2.2.2.2.2.2.2.2.2.2.2.2.2.2.2.2.2.2.2.2 = iI ((from' : Int) + B) ∧ MR s'.2.2.2.2.2.2.2.2.2.2.2.2.2.2.2.2.2.2.2.1 s'.2.2.2.2.2.1 (P ++ (le z 4 ++ body ++ sm_ sF body)) ∧ FC k s'.2.2.2.2.2.2.2.2.2.2.2.2.2.2.2.2.2.2.1 s'.2.2.2.2.2.2.2.2.1 fl
theorem t_J324 {P body : List Int} {from' n k : Nat} {B : Int} {raw : Bool} {fl : List Int32} {sF nf f : Nat → Int32} {nm cnt : Int32} (u68 : Int32) (u69 : Int32) (u70 : Nat → Int32) (u74 : Int32) (u75 : Int32) (u76 : Int32) (u77 : Int32) (u78 : Nat → Int32) (u79 : Nat → Int32) (u80 : Nat → Int32) (u81 : Nat → Int32) (u82 : Nat → Int32) (u83 : Nat → Int32) (u84 : Nat → Int32) (u85 : Nat → Int32) (u86 : Nat → Int32) (h : MR cnt f (P ++ (le 0 4 ++ body))) (hB : sF 0 = iI B) (hl : P.length + body.length + 8 ≤ 28000) (hbl : body.length ≤ 4000) (hf : FC k nm nf fl) (hk : k < 4000) (hs2 : sF 2 = 0 ∨ sF 2 = 1) : ok (m_Mo_frame_J324 28000 6 sF 28070 nf nm (iI P.length) (iI from') (iI n) u68 u69 u70 u74 u75 u76 u77 u78 u79 u80 u81 u82 u83 u84 u85 u86 (if raw = true then 1 else 0) f cnt (iI body.length) (if raw = true then 2147483648 else 0)) (Pfb P body sF from' (k + 1) B ((body.length : Int) + (if raw = true then 2147483648 else 0)) (fl ++ (if raw = true then [iI ((P.length + 4 : Nat) : Int), iI body.length, iI n, 1, 0, iI n, 0] else [iI ((P.length + 4 : Nat) : Int), iI body.length, iI n, 0, u75, u76, u77]))) := by
  have hlen0 : (P ++ (le 0 4 ++ body)).length = P.length + 4 + body.length := by rw [List.length_append, List.length_append, le_len]; omega
  unfold m_Mo_frame_J324
  have hz : (iI (body.length : Int)).toInt64 ||| (if raw = true then (2147483648 : Int64) else 0) = jI ((body.length : Int) + (if raw = true then 2147483648 else 0)) := by
    rw [iI_j (by omega)]
    cases raw
    · rw [if_neg (by decide), if_neg (by decide), jor0, Int.add_zero]
    · rw [if_pos rfl, if_pos rfl, jor _ (by omega)]
  rw [bnd_eq, hz]
  generalize hzz : (body.length : Int) + (if raw = true then 2147483648 else 0) = z
  have hzb : -9223372036854775808 ≤ z ∧ z < 9223372036854775808 := by
    rw [← hzz]
    split <;> omega
  refine ok_bind (t_change h (by omega) (by omega) hzb (le_len 0 4)) ?_
  intro f' hf'
  have hlen : (P ++ (le z 4 ++ body)).length = P.length + 4 + body.length := by rw [List.length_append, List.length_append, le_len]; omega
  unfold m_Mo_frame_E365 m_Mo_frame_J408
  rw [i_nat4, iI_add, show (P.length : Int) + ((4 : Nat) : Int) = ((P.length + 4 : Nat) : Int) by omega]
  refine ok_bind (t_note hf hk _ _ _ _ _ _ raw) ?_
  rintro ⟨v1, v2⟩ hv
  dsimp only at hv ⊢
  rw [ck2, ck0, tc2, ite_10 hs2, tc0, hB, iI_add]
  by_cases c : sF 2 = 0
  · rw [if_pos c]
    refine ok_some ⟨_, rfl, rfl, ?_, hv⟩
    unfold sm_
    rw [if_pos c, List.append_nil]
    exact hf'
  · rw [if_neg c, t_sumOf hf' (by omega) (by omega) (by omega), Option.bind_some, i32_j]
    have e : sumS (rd (P ++ (le z 4 ++ body))) (P.length + 4) body.length = sumS (rd body) 0 body.length := by
      have := sumS_app (P ++ le z 4) body 0 body.length
      rw [List.append_assoc, List.length_append, le_len] at this
      exact this
    rw [e]
    refine ok_bind (t_lowest ⟨by have := Int32.le_toInt (sumS (rd body) 0 body.length); omega, by have := Int32.toInt_lt (sumS (rd body) 0 body.length); omega⟩ (by omega) hf' (by omega) (by omega)) ?_
    rintro ⟨w1, w2⟩ hw
    rw [bnd_eq]
    refine ok_some ⟨_, rfl, rfl, ?_, hv⟩
    unfold sm_
    rw [if_neg c, ← List.append_assoc P (le z 4 ++ body)]
    exact hw
theorem t_fblock {P dic inp : List Int} {from' n k lvl bf : Nat} {B : Int} {fl : List Int32} {sF nf f mdf mif : Nat → Int32} {nm cnt md mi : Int32} (f45 : Nat → Int32) (f46 : Nat → Int32) (f47 : Nat → Int32) (f48 : Nat → Int32) (f49 : Nat → Int32) (f51 : Nat → Int32) (f52 : Nat → Int32) (f54 : Nat → Int32) (f55 : Nat → Int32) (f56 : Nat → Int32) (h : MR cnt f P) (b2 : MR mi mif inp) (b4 : MR md mdf dic) (hin : inp.length ≤ 4000) (hdi : dic.length ≤ 1000) (hp : from' + n ≤ inp.length) (hB : sF 0 = iI B) (hl : P.length + 2 * n + 12 ≤ 28000) (hlvl : lvl ≤ 2) (hf : FC k nm nf fl) (hk : k < 4000) (hs2 : sF 2 = 0 ∨ sF 2 = 1) {t : List Int} {base : Nat} (htb : (bf = 0 ∧ t = dic ++ (inp.drop from').take n ∧ base = dic.length) ∨ (bf = from' ∧ t = dic ++ inp ∧ base = dic.length + from')) : ok (m_Mo_frame_J217 (iI lvl) md 28000 6 sF 1000 mdf 5000 4000 mif 4000 260000 4001 4001 4001 4001 4000 4000 4000 28070 f45 f46 f47 f48 f49 f f51 f52 nf f54 f55 f56 nm cnt (iI from') (iI n) (iI bf)) (fun r => ∃ xs, PLAN true (gx t) base n lvl xs ∧ Pfb P (fb (em true (gx t) base n 0 xs) ((inp.drop from').take n) n) sF from' (k + 1) B (fz (em true (gx t) base n 0 xs) n) (fl ++ frow (P.length + 4) (em true (gx t) base n 0 xs) n (iI xs.length) (iI (li n 0 xs)) (iI (pts true n 0 xs))) r) := by
  have hdt : ((inp.drop from').take n).length = n := by rw [List.length_take, List.length_drop]; omega
  have hPl : (P ++ le 0 4).length = P.length + 4 := by rw [List.length_append, le_len]
  have hbf : bf ≤ from' := by
    rcases htb with ⟨rfl, _⟩ | ⟨rfl, _⟩ <;> omega
  unfold m_Mo_frame_J217
  refine ok_bind (t_lay1 b4 b2 hdi hin f55 hp hbf) ?_
  rintro ⟨w1, w2, w3⟩ ⟨e1, e2, e3⟩
  dsimp only at e1 e2 e3 ⊢
  subst e1 e2
  have hbase : base = dic.length + bf := by
    rcases htb with ⟨rfl, _, rfl⟩ | ⟨rfl, _, rfl⟩ <;> omega
  have hmg : MG w3 (gx t) (dic.length + bf + n) := by
    refine e3.congr (fun j hj => ?_)
    rcases htb with ⟨rfl, rfl, rfl⟩ | ⟨rfl, rfl, rfl⟩
    · by_cases c : j < dic.length
      · rw [gx_app_l c, gx_app_l c]
      · rw [gx_app_r (by omega), gx_app_r (by omega), Nat.sub_zero, gx_take (by omega)]
    · rw [Nat.sub_self, List.drop_zero]
  rw [j_0, i_nat4]
  refine ok_bind (t_lowest (by omega) (by omega) h (by omega) (by omega)) ?_
  rintro ⟨w4, w5⟩ hw
  dsimp only at hw ⊢
  rw [← hbase] at hmg ⊢
  refine ok_bind (t_sequences hmg (by omega) (by omega) (by omega) hlvl hw (by omega) _ _ _ _ _ _ _ _ _) ?_
  rintro ⟨v0, v1, v2, v3, v4, v5, v6, v7, v8, v9, v10, v11, v12, v13, v14⟩ ⟨xs, hpl, y1, y2, y3, y4⟩
  dsimp only at y1 y2 y3 y4 ⊢
  subst y2 y3 y4
  have hem := em_len (sq := true) hpl.1
  have hec := hpl.2.2.1
  generalize hee : em true (gx t) base n 0 xs = e at y1 hem
  have hlP : (P ++ le 0 4 ++ e).length = P.length + 4 + e.length := by rw [List.length_append, hPl]
  have hy1 := y1.1
  rw [hlP] at hy1
  rw [hy1, h.1, iI_sub, iI_sub, bnd_eq, show ((P.length + 4 + e.length : Nat) : Int) - (P.length : Int) - ((4 : Nat) : Int) = (e.length : Int) by omega]
  unfold m_Mo_frame_J261 m_Mo_frame_E305 m_Mo_frame_J309
  by_cases c : e.length < n
  · rw [if_ltT (by omega) (by omega) (by omega), if_pos rfl, if_pos rfl, ← hy1]
    rw [List.append_assoc] at y1
    have := t_J324 (P := P) (body := e) (from' := from') (n := n) (B := B) (raw := false) (sF := sF) (iI ((base : Nat) : Int)) (iI n) w3 v1 (iI xs.length) (iI (li n 0 xs)) (iI (pts true n 0 xs)) v5 v6 v7 v8 v9 v10 v11 v12 v13 y1 hB (by omega) (by omega) hf hk hs2
    refine ok_mono this ?_
    intro r hr
    refine ⟨xs, hpl, ?_⟩
    rw [hee]
    unfold fb fz frow
    rw [if_pos c, if_pos c, if_pos c]
    rw [if_neg (show ¬ (false = true) by decide), Int.add_zero] at hr
    exact hr
  · rw [if_ltF (by omega) (by omega) (by omega), if_neg (show ¬ (1 : Int32) = 0 by decide), bnd_eq, i_nat4, iI_add, show (P.length : Int) + ((4 : Nat) : Int) = ((P.length + 4 : Nat) : Int) by omega]
    have ht := y1.take (k := P.length + 4) (by omega)
    rw [← hPl, List.take_left, hPl] at ht
    refine ok_bind (t_raw ht b2 hin hp (by omega)) ?_
    rintro ⟨f2, c2⟩ hf2
    dsimp only at hf2 ⊢
    rw [if_neg (show ¬ (1 : Int32) = 0 by decide)]
    rw [List.append_assoc] at hf2
    have := t_J324 (P := P) (body := (inp.drop from').take n) (from' := from') (n := n) (B := B) (raw := true) (sF := sF) (iI ((base : Nat) : Int)) (iI n) w3 v1 (iI xs.length) (iI (li n 0 xs)) (iI (pts true n 0 xs)) v5 v6 v7 v8 v9 v10 v11 v12 v13 hf2 hB (by omega) (by omega) hf hk hs2
    rw [hdt] at this
    refine ok_mono this ?_
    intro r hr
    refine ⟨xs, hpl, ?_⟩
    rw [hee]
    unfold fb fz frow
    rw [if_neg c, if_neg c, if_neg c]
    rw [if_pos rfl, if_pos rfl] at hr
    exact hr
