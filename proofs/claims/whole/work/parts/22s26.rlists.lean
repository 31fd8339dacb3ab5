/-! STATEMENTS of names, in the reference -/
section MM162
variable {X : mX} {t : m3} {w : Bool} {i i' : Nat → Nat → Int32} {l : Nat → Nat → Int64} {δ : mQ} {m : Nat} {e : Bool × Nat × Nat} {n k s a b c p g y : Nat} {L : List Nat} {x : Int32}
theorem rkk_0 : (rk k = 0) ↔ k = 0 := by
  unfold rk
  repeat' split
  all_goals omega
theorem rkk_2 : (rk k = 2) ↔ k = 123 := by
  unfold rk
  repeat' split
  all_goals omega
theorem rkk_3 : (rk k = 3) ↔ k = 125 := by
  unfold rk
  repeat' split
  all_goals omega
theorem rkk_4 : (rk k = 4) ↔ k = 58 := by
  unfold rk
  repeat' split
  all_goals omega
theorem rkk_5 : (rk k = 5) ↔ k = 59 := by
  unfold rk
  repeat' split
  all_goals omega
theorem rkk_6 : (rk k = 6) ↔ k = 44 := by
  unfold rk
  repeat' split
  all_goals omega
theorem rkk_7 : (rk k = 7) ↔ k = 42 := by
  unfold rk
  repeat' split
  all_goals omega
/-- what a statement gives back -/
def RSt (X : mX) (m : Nat) (w : Bool) (l : Nat → Nat → Int64) (e : Bool × Nat × Nat) (i : Nat → Nat → Int32) (V : Option mm_R) (r : mE (m3 × mQ)) : Prop := ∃ i', V = some (.inl none, mm_Z m w i' l e) ∧ mG fRp i i' ∧ (match r with
  | .inl p => i' 83 46 = nI p ∧ p ≤ 1200
  | .inr q => TZ X i' q.1 ∧ DRf 9 i' q.2)
theorem RSt.tr {r : mE (m3 × mQ)} {V : Option mm_R} (hf : mG fRp i i') (h : RSt X m w l e i' V r) : RSt X m w l e i V r := by
  obtain ⟨i1, h1, h2, h3⟩ := h
  exact ⟨i1, h1, hf.tr h2, h3⟩
theorem RI.tr {r : mE (m3 × Int32)} {V : Option mm_R} (hf : mG fTk i i') (h : RI X m w l e i' V r) : RI X m w l e i V r := by
  obtain ⟨x, i1, h1, h2, h3⟩ := h
  exact ⟨x, i1, h1, hf.tr h2, h3⟩
theorem DRf.wr (h : DRf g i δ) (hn : ¬ uRf g δ k a) : DRf g (mm_ww i k a x) δ := h.ku (fun k' j' z => mw_ne (fun q => hn (by rw [← q.1, ← q.2]; exact z)))
theorem DRf.fin (h : DRf s i δ) (hs : s < 4) (hn : 0 < pN (dP δ) s) (h2 : s = 2 → i 93 (pN (dP δ) 2 - 1) = pR (dP δ) (pN (dP δ) 2 - 1)) (h3 : s = 3 → i 94 (pN (dP δ) 3 - 1) = pU (dP δ) (pN (dP δ) 3 - 1)) : DRf 9 (mm_ww i 83 (rOf s) (nI (pN (dP δ) s))) δ := by
  have hO := @rOf_in s
  obtain ⟨a1, a2, a3, a4, a5, a6, a7, a8⟩ := h
  have far : ∀ k j, k ≠ 83 → mm_ww i 83 (rOf s) (nI (pN (dP δ) s)) k j = i k j := fun k j z => by rw [mw_k z]
  refine ⟨a1.ku (by rw [mw_j (by omega)]) (fun j _ => far _ _ (by omega)) (fun k j _ _ _ => far _ _ (by omega)), fun j hj => ?_, fun a ha => by rw [far _ _ (by omega)]; exact a3 a ha, fun r hr => ?_, fun r hr => ?_, fun k hk => ?_, fun k hk => ?_, a8.ku (fun k j _ _ _ => far _ _ (by omega)) (fun j _ => far _ _ (by omega)) (fun k j _ _ _ => far _ _ (by omega)) (by rw [mw_j (by omega)])⟩
  · rw [cnt9 hj]
    by_cases z : j = s
    · rw [z, mw_s]
    · rw [mw_j (show rOf j ≠ rOf s by
        rw [show rOf s = 14 + s from if_pos hs]
        unfold rOf
        split
        · omega
        · split
          · omega
          · split <;> omega), a2 j hj]
      unfold cnt7
      rw [if_neg z]
  · rw [cnt9 (by omega)] at hr
    rw [far _ _ (by omega)]
    by_cases z : s = 2
    · by_cases z2 : r < pN (dP δ) 2 - 1
      · exact a4 r (by unfold cnt7; rw [if_pos z.symm]; exact z2)
      · have := h2 z
        rw [show r = pN (dP δ) 2 - 1 by omega]; exact this
    · exact a4 r (by unfold cnt7; rw [if_neg (by omega)]; exact hr)
  · rw [cnt9 (by omega)] at hr
    rw [far _ _ (by omega)]
    by_cases z : s = 3
    · by_cases z2 : r < pN (dP δ) 3 - 1
      · exact a5 r (by unfold cnt7; rw [if_pos z.symm]; exact z2)
      · have := h3 z
        rw [show r = pN (dP δ) 3 - 1 by omega]; exact this
    · exact a5 r (by unfold cnt7; rw [if_neg (by omega)]; exact hr)
  · rw [far _ _ (by omega), far _ _ (by omega), far _ _ (by omega), far _ _ (by omega), far _ _ (by omega), far _ _ (by omega)]
    exact a6 k hk
  · rw [far _ _ (by omega), far _ _ (by omega), far _ _ (by omega), far _ _ (by omega), far _ _ (by omega)]
    exact a7 k hk
theorem uRf_83 {j : Nat} (hj : ¬ (j = 10 ∨ (14 ≤ j ∧ j ≤ 17) ∨ j = 21 ∨ j = 28 ∨ j = 34 ∨ j = 38)) : ¬ uRf g δ 83 j := by
  intro z
  rcases z with z | z | z | z | z | z | z | z | z | z | z <;> omega
/-- an attribute -/
theorem r_att (h : TZ X i t) (hW : WDS l) (hD : DRf 9 i δ) (hd : DW δ) (hk : t.2.2 = 200) : RSt X m w l e i (mm_V 213 0 [some (.ref 83)] [] (mm_Z m w i l e)) (sAtt X t δ) := by
  have hc : i 83 15 = nI (pN (dP δ) 1) := hD.ct (s := 1) (by omega)
  have h8 := hd.2.1.2.1
  rw [mr_213_0, hc]
  unfold sAtt
  by_cases q : pN (dP δ) 1 = 8
  · obtain ⟨e1, e2, e3, e4⟩ := h.fl (m := m) (w := w) (l := l) (e := e)
    rw [if_pos (by rw [q]; rfl), e1, mb_l, mb_0, mr_213_17, if_pos q]
    exact ⟨_, rfl, e2.mo (fun a b y => fTk_R y), e3, e4⟩
  · rw [if_neg (show ¬ nI (pN (dP δ) 1) = 8 from fun z => q ((nI_eq (b := 8) (by omega) (by omega)).mp z)), if_neg q]
    obtain ⟨i1, k1, k2, k3⟩ := h.adv (m := m) (w := w) (e := e) hW (by omega)
    have c1 : i1 83 15 = nI (pN (dP δ) 1) := by rw [k3 _ _ (by unfold fTk; omega)]; exact hc
    rw [k1, mb_l, mb_0, mr_213_22, c1, if_neg (no_out (by omega) (by omega)), nI_clamp (by omega)]
    obtain ⟨i2, f1, f2, f3, f4⟩ := r_dec (m := m) (w := w) (l := l) (e := e) (s := 1) (x := 2) (y := nI (pN (dP δ) 1)) (k2.ww (k := 92) (a := pN (dP δ) 1) (x := 0) (by unfold fTk; omega)) hW ((hD.tk k3).wr (k := 92) (a := pN (dP δ) 1) (x := 0) (fun z => by rcases z with z | z | z | z | z | z | z | z | z | z | z <;> omega)) hd (by omega) (fun _ => mw_s) rfl rfl
    have f3' : i2 83 15 = nI (pN (dP δ) 1) := by
      have : i2 83 15 = mm_ww i1 92 (pN (dP δ) 1) 0 83 15 := f3
      rw [this, mw_k (by omega)]; exact c1
    have fr : mG fRp i i2 := ((k3.mo (fun a b z => fTk_R z)).tr (mG.ww (P := fRp) (by unfold fRp; omega))).tr f2
    rw [f1, mb_l, mb_0, mr_213_41, f3', nI_1]
    refine ⟨_, rfl, fr.tr (mG.ww (P := fRp) (by unfold fRp; omega)), ?_⟩
    cases hr : sDec X 1 (nx X t) δ with
    | inl p =>
      rw [hr] at f4
      exact ⟨by rw [mw_j (by omega)]; exact f4.1, f4.2⟩
    | inr r =>
      rw [hr] at f4
      obtain ⟨-, mr, -⟩ := mo_dec k2.tk hr
      have e5 : pN (dP r.2) 1 = pN (dP δ) 1 + 1 := by rw [mr]; exact pSn_s
      refine ⟨f4.1.ww (by unfold fTk; omega), ?_⟩
      have := f4.2.fin (by omega) (by omega) (fun z => absurd z (by decide)) (fun z => absurd z (by decide))
      rw [e5] at this
      exact this
theorem DRf.sa (h : DRf g i δ) (ha : a < pN (dP δ) 1) : DRf g (mm_ww i 92 a (nI b)) (dSa δ a b) := by
  obtain ⟨a1, a2, a3, a4, a5, a6, a7, a8⟩ := h
  have far : ∀ k j, k ≠ 92 → mm_ww i 92 a (nI b) k j = i k j := fun k j z => by rw [mw_k z]
  refine ⟨a1.ku (far _ _ (by omega)) (fun j _ => far _ _ (by omega)) (fun k j _ _ _ => far _ _ (by omega)), fun j hj => by rw [far _ _ (by omega)]; exact a2 j hj, fun c hc => ?_, fun r hr => by rw [far _ _ (by omega)]; exact a4 r hr, fun r hr => by rw [far _ _ (by omega)]; exact a5 r hr, fun k hk => ?_, fun k hk => ?_, a8.ku (fun k j _ _ _ => far _ _ (by omega)) (fun j _ => far _ _ (by omega)) (fun k j _ _ _ => far _ _ (by omega)) (far _ _ (by omega))⟩
  · show mm_ww i 92 a (nI b) 92 c = nI (va_up (dA δ) a b c)
    rw [up_if, mw_r]
    split
    · rfl
    · exact a3 c hc
  · rw [far _ _ (by omega), far _ _ (by omega), far _ _ (by omega), far _ _ (by omega), far _ _ (by omega), far _ _ (by omega)]
    exact a6 k hk
  · rw [far _ _ (by omega), far _ _ (by omega), far _ _ (by omega), far _ _ (by omega), far _ _ (by omega)]
    exact a7 k hk
/-- attributes of a type -/
theorem r_ats (hW : WDS l) : ∀ (d : Nat) (t : m3) (δ : mQ) (i : Nat → Nat → Int32) (u1 : Option Value), TZ X i t → DRf 0 i δ → DW δ → pN (dP δ) 0 = y + 1 → 1200 ≤ t.1 + d → RSt X m w l e i (mm_V 214 31 [some (.ref 83), u1] [] (mm_Z m w i l e)) (sAts X y d t δ) := by
  have out : ∀ (t : m3) (δ : mQ) (i : Nat → Nat → Int32) (u1 : Option Value), TZ X i t → DRf 0 i δ → DW δ → pN (dP δ) 0 = y + 1 → RSt X m w l e i (mm_V 214 86 [some (.ref 83), u1] [] (mm_Z m w i l e)) (.inr (t, δ)) := fun t δ i u1 h hD hd hy => by
    have hc : i 83 14 = nI y := by
      have := hD.2.1 0 (by omega)
      rw [show cnt7 δ 0 0 = y by unfold cnt7; rw [if_pos rfl]; omega] at this
      exact this
    rw [mr_214_86, hc, nI_1]
    refine ⟨_, rfl, mG.ww (P := fRp) (by unfold fRp; omega), h.ww (by unfold fTk; omega), ?_⟩
    have := hD.fin (by omega) (by omega) (fun z => absurd z (by decide)) (fun z => absurd z (by decide))
    rw [hy] at this
    exact this
  intro d
  induction d with
  | zero =>
    intro t δ i u1 h hD hd hy hl
    have hz := h.xw.1
    have k0 : t.2.2 = 0 := h.tk.ok.2.2.2.2.mpr (by omega)
    rw [mr_214_31, r_live h.k6, mb_l, mb_v, mr_214_35, if_neg (by decide), if_neg (fun z => by have := rkk_6.mp ((h.isK (x := 6) (k := 6) rfl (by omega)).mp z); omega)]
    exact out t δ i u1 h hD hd hy
  | succ d ih =>
    intro t δ i u1 h hD hd hy hl
    rw [mr_214_31, r_live h.k6, mb_l, mb_v, mr_214_35, if_neg (by decide), sAts]
    by_cases q : t.2.2 = 44
    · obtain ⟨i1, k1, k2, k3⟩ := h.adv (m := m) (w := w) (e := e) hW (by omega)
      have gt := h.tk.gt (by omega) (by omega)
      rw [if_pos ((h.isK (x := 6) (k := 6) rfl (by omega)).mpr (rkk_6.mpr q)), if_pos q, k1, mb_l, mb_0, mr_214_51]
      have hD1 := hD.tk k3
      obtain ⟨x, i2, f1, f2, f3⟩ := r_num (m := m) (w := w) (l := l) (e := e) (s := 1) (x := 2) k2 hW hD1.1 hd rfl (by omega)
      have fr : mG fRp i i2 := (k3.mo (fun a b z => fTk_R z)).tr (f2.mo (fun a b z => fTk_R z))
      rw [f1, mb_l, mb_v, mr_214_56]
      cases hr : sNum X 1 (nx X t) δ with
      | inl p =>
        rw [hr] at f3
        have f3' : i2 83 46 = nI p ∧ p ≤ 1200 := f3
        rw [r_dead f3'.1 f3'.2, mb_l, mb_v, mr_214_61, if_pos rfl, mr_214_31, r_dead f3'.1 f3'.2, mb_l, mb_v, mr_214_35, if_pos rfl, mr_214_86]
        exact ⟨_, rfl, fr.tr (mG.ww (P := fRp) (by unfold fRp; omega)), by rw [mw_j (by omega)]; exact f3'.1, f3'.2⟩
      | inr r =>
        rw [hr] at f3
        have f3' : x = nI r.2 ∧ TZ X i2 r.1 := f3
        obtain ⟨m1, m2, m3⟩ := mo_num hd k2.tk hr
        have h8 := hd.2.1.2.1
        have h24 := hd.2.1.1
        have hD2 := hD1.tk f2
        have c2 : i2 83 14 = nI y := by
          have := hD2.2.1 0 (by omega)
          rw [show cnt7 δ 0 0 = y by unfold cnt7; rw [if_pos rfl]; omega] at this
          exact this
        have bA := (hd.2.2.2.1 r.2).1
        have b24 : (2 : Nat) ^ pN (dP δ) 0 ≤ 2 ^ 24 := Nat.pow_le_pow_right (by decide) h24
        rw [r_live f3'.2.k6, mb_l, mb_v, mr_214_61, if_neg (by decide), f3'.1, if_neg (no_out (by omega) (by omega)), if_neg (no_out (by omega) (by omega)), nI_clamp (by omega), c2, hD2.2.2.1 r.2 m3, or_bit (by omega) (by omega)]
        have e1 := ih r.1 (dSa δ r.2 (dA δ r.2 ||| 2 ^ y)) (mm_ww i2 92 r.2 (nI (dA δ r.2 ||| 2 ^ y))) (some (.int (nI r.2))) (f3'.2.ww (by unfold fTk; omega)) (hD2.sa m3) (hd.sa (by omega) m3) hy (by have := m1.2; omega)
        exact e1.tr (fr.tr (mG.ww (P := fRp) (by unfold fRp; omega)))
    · rw [if_neg (fun z => q (rkk_6.mp ((h.isK (x := 6) (k := 6) rfl (by omega)).mp z))), if_neg q]
      exact out t δ i u1 h hD hd hy
/-- a type -/
theorem r_typ (h : TZ X i t) (hW : WDS l) (hD : DRf 9 i δ) (hd : DW δ) (hk : t.2.2 = 201) : RSt X m w l e i (mm_V 214 0 [some (.ref 83), none] [] (mm_Z m w i l e)) (sTyp X t δ) := by
  have hc : i 83 14 = nI (pN (dP δ) 0) := hD.ct (s := 0) (by omega)
  have h8 := hd.2.1.1
  rw [mr_214_0, hc]
  unfold sTyp
  by_cases q : pN (dP δ) 0 = 24
  · obtain ⟨e1, e2, e3, e4⟩ := h.fl (m := m) (w := w) (l := l) (e := e)
    rw [if_pos (by rw [q]; rfl), e1, mb_l, mb_0, mr_214_17, if_pos q]
    exact ⟨_, rfl, e2.mo (fun a b y => fTk_R y), e3, e4⟩
  · rw [if_neg (show ¬ nI (pN (dP δ) 0) = 24 from fun z => q ((nI_eq (b := 24) (by omega) (by omega)).mp z)), if_neg q]
    obtain ⟨i1, k1, k2, k3⟩ := h.adv (m := m) (w := w) (e := e) hW (by omega)
    have c1 : i1 83 14 = nI (pN (dP δ) 0) := by rw [k3 _ _ (by unfold fTk; omega)]; exact hc
    rw [k1, mb_l, mb_0, mr_214_22, c1]
    obtain ⟨i2, f1, f2, f3, f4⟩ := r_dec (m := m) (w := w) (l := l) (e := e) (s := 0) (x := 1) (y := nI (pN (dP δ) 0)) k2 hW (hD.tk k3) hd (by omega) (fun z => absurd z (by decide)) rfl rfl
    have fr : mG fRp i i2 := (k3.mo (fun a b z => fTk_R z)).tr f2
    rw [f1, mb_l, mb_0]
    cases hr : sDec X 0 (nx X t) δ with
    | inl p =>
      rw [hr] at f4
      have f4' : i2 83 46 = nI p ∧ p ≤ 1200 := f4
      rw [mr_214_31, r_dead f4'.1 f4'.2, mb_l, mb_v, mr_214_35, if_pos rfl, mr_214_86]
      exact ⟨_, rfl, fr.tr (mG.ww (P := fRp) (by unfold fRp; omega)), by rw [mw_j (by omega)]; exact f4'.1, f4'.2⟩
    | inr r =>
      rw [hr] at f4
      have f4' : TZ X i2 r.1 ∧ DRf 0 i2 r.2 := f4
      obtain ⟨m1, mr, m2, m4, -⟩ := mo_dec k2.tk hr
      have e5 : pN (dP r.2) 0 = pN (dP δ) 0 + 1 := by rw [mr]; exact pSn_s
      have dw : DW r.2 := by rw [mr]; exact hd.ad' h.xw k2.tk (by omega) q m2 m4
      exact (r_ats hW 1200 r.1 r.2 i2 none f4'.1 f4'.2 dw e5 (by omega)).tr fr
/-- names in braces -/
theorem r_lst (hW : WDS l) (hd : DW δ) (hs : s < 4) : ∀ (d : Nat) (t : m3) (b : Nat) (i : Nat → Nat → Int32) (x3 : Int32) (u4 : Option Value), TZ X i t → RN i δ → b < 2 ^ 24 → x3 = (if b ≠ 0 ∧ t.2.2 = 125 then 0 else 1) → 1200 ≤ t.1 + d → RI X m w l e i (mm_V 215 12 [some (.ref 83), some (.int (nI (s + 1))), some (.int (nI b)), some (.int x3), u4] [] (mm_Z m w i l e)) (eI (sLst X s δ d t b)) := by
  have bad : ∀ (i0 i2 : Nat → Nat → Int32) (v x3 x : Int32) (u4 : Option Value) (p : Nat), i2 83 46 = nI p → p ≤ 1200 → mG fTk i0 i2 → RI X m w l e i0 (mm_V 215 21 [some (.ref 83), some (.int (nI (s + 1))), some (.int v), some (.int x3), u4] [.int x] (mm_Z m w i2 l e)) (.inl p) := fun i0 i2 v x3 x u4 p z1 z2 z3 => by
    rw [mr_215_21, r_dead z1 z2, mb_l, mb_v, mr_215_34, if_pos rfl, mr_215_12, if_pos rfl, r_needs z1 z2, mb_l, mb_0, mr_215_59]
    exact ⟨_, i2, rfl, z3, z1, z2⟩
  intro d
  induction d with
  | zero =>
    intro t b i x3 u4 h hn hb hx hl
    have hz := h.xw.1
    have k0 : t.2.2 = 0 := h.tk.ok.2.2.2.2.mpr (by omega)
    have e0 : sNum X s t δ = .inl t.1 := by unfold sNum; rw [if_neg (fun z => by have := nf_2 hd h.xw h.tk (by omega); omega)]
    rw [if_neg (fun z => by omega)] at hx
    obtain ⟨x, i2, f1, f2, f3⟩ := r_num (m := m) (w := w) (l := l) (e := e) (s := s) (x := nI (s + 1)) h hW hn hd rfl hs
    rw [e0] at f3
    have f3' : i2 83 46 = nI t.1 ∧ t.1 ≤ 1200 := f3
    rw [mr_215_12, hx, if_neg (by decide), f1, mb_l, mb_v]
    exact bad i i2 _ _ _ _ _ f3'.1 f3'.2 f2
  | succ d ih =>
    intro t b i x3 u4 h hn hb hx hl
    rw [sLst]
    by_cases q : b ≠ 0 ∧ t.2.2 = 125
    · rw [if_pos q] at hx
      obtain ⟨i2, f1, f2, f3⟩ := h.need (m := m) (w := w) (l := l) (e := e) (x := 3) (k := 3) hW rfl (by omega) rkk_3 (by omega)
      rw [if_pos q.2] at f3
      rw [mr_215_12, hx, if_pos rfl, f1, mb_l, mb_0, mr_215_59, if_pos q]
      exact ⟨_, i2, rfl, f2, rfl, f3⟩
    · rw [if_neg q] at hx
      obtain ⟨x, i2, f1, f2, f3⟩ := r_num (m := m) (w := w) (l := l) (e := e) (s := s) (x := nI (s + 1)) h hW hn hd rfl hs
      rw [mr_215_12, hx, if_neg (by decide), f1, mb_l, mb_v, if_neg q]
      cases hr : sNum X s t δ with
      | inl p =>
        rw [hr] at f3
        have f3' : i2 83 46 = nI p ∧ p ≤ 1200 := f3
        exact bad i i2 _ _ _ _ _ f3'.1 f3'.2 f2
      | inr r =>
        rw [hr] at f3
        have f3' : x = nI r.2 ∧ TZ X i2 r.1 := f3
        obtain ⟨m1, m2, m3⟩ := mo_num hd h.tk hr
        rw [mr_215_21, r_live f3'.2.k6, mb_l, mb_v, mr_215_34, if_neg (by decide), f3'.1, or_bit (by omega) (by omega)]
        have hn2 : RN i2 δ := hn.ku (f2 _ _ (by unfold fTk; omega)) (fun j _ => f2 _ _ (by unfold fTk; omega)) (fun k j _ _ _ => f2 _ _ (by unfold fTk; omega))
        have b0 : b ||| 2 ^ r.2 ≠ 0 := fun z => by
          have := Nat.right_le_or (n := b) (m := 2 ^ r.2)
          have := Nat.two_pow_pos r.2
          omega
        have go : ∀ x3 u4, x3 = (if b ||| 2 ^ r.2 ≠ 0 ∧ r.1.2.2 = 125 then 0 else 1) → RI X m w l e i (mm_V 215 12 [some (.ref 83), some (.int (nI (s + 1))), some (.int (nI (b ||| 2 ^ r.2))), some (.int x3), u4] [] (mm_Z m w i2 l e)) (eI (sLst X s δ d r.1 (b ||| 2 ^ r.2))) := fun x3 u4 z => (ih r.1 (b ||| 2 ^ r.2) i2 x3 u4 f3'.2 hn2 (Nat.or_lt_two_pow hb (Nat.pow_lt_pow_right (by decide) m2)) z (by have := m1.2; omega)).tr f2
        by_cases q2 : r.1.2.2 = 125
        · rw [if_pos ((f3'.2.isK (x := 3) (k := 3) rfl (by omega)).mpr (rkk_3.mpr q2))]
          exact go _ _ (by rw [if_pos ⟨b0, q2⟩])
        · rw [if_neg (fun z => q2 (rkk_3.mp ((f3'.2.isK (x := 3) (k := 3) rfl (by omega)).mp z)))]
          exact go _ _ (by rw [if_neg (fun z => q2 z.2)])
theorem r_brc (h : TZ X i t) (hW : WDS l) (hn : RN i δ) (hd : DW δ) (hs : s < 4) {x : Int32} (hx : x = nI (s + 1)) : RI X m w l e i (mm_V 215 0 [some (.ref 83), some (.int x), none, none, none] [] (mm_Z m w i l e)) (eI (sBrc X s t δ)) := by
  obtain ⟨i2, f1, f2, f3⟩ := h.need (m := m) (w := w) (l := l) (e := e) (x := 2) (k := 2) hW rfl (by omega) rkk_2 (by omega)
  rw [mr_215_0, f1, mb_l, mb_0, mr_215_5]
  unfold sBrc
  by_cases q : t.2.2 = 123
  · rw [if_pos q] at f3
    have f3' : TZ X i2 (nx X t) := f3
    rw [r_live f3'.k6, mb_l, mb_v, mr_215_11, if_pos q, hx]
    have hn2 : RN i2 δ := hn.ku (f2 _ _ (by unfold fTk; omega)) (fun j _ => f2 _ _ (by unfold fTk; omega)) (fun k j _ _ _ => f2 _ _ (by unfold fTk; omega))
    exact (r_lst hW hd hs 1200 (nx X t) 0 i2 1 none f3' hn2 (by decide) (by rw [if_neg (fun z => z.1 rfl)]) (by omega)).tr f2
  · rw [if_neg q] at f3
    have f3' : i2 83 46 = nI t.1 ∧ t.1 ≤ 1200 := f3
    rw [r_dead f3'.1 f3'.2, mb_l, mb_v, mr_215_11, mr_215_12, if_pos rfl, r_needs f3'.1 f3'.2, mb_l, mb_0, mr_215_59, if_neg q]
    exact ⟨_, i2, rfl, f2, f3'.1, f3'.2⟩
theorem DRf.sr (h : DRf 2 i δ) (hn : pN (dP δ) 2 = n + 1) : DRf 2 (mm_ww i 93 n x) (dSp δ (pSr (dP δ) n x)) := by
  have hq : DRf 2 (mm_ww i 93 n x) δ := h.wr (fun z => by
    rcases z with z | z | z | z | z | z | z | z | z | z | z
    any_goals omega
    have := z.2
    unfold cnt7 at this
    rw [if_pos rfl] at this
    omega)
  obtain ⟨a1, a2, a3, a4, a5, a6, a7, a8⟩ := hq
  refine ⟨a1, a2, a3, fun r hr => ?_, a5, a6, a7, a8⟩
  have hr' : r < cnt7 δ 2 2 := hr
  show mm_ww i 93 n x 93 r = va_up (pR (dP δ)) n x r
  rw [up_if, if_neg (by unfold cnt7 at hr'; rw [if_pos rfl] at hr'; omega)]
  exact a4 r hr'
theorem DRf.su (h : DRf 3 i δ) (hn : pN (dP δ) 3 = n + 1) : DRf 3 (mm_ww i 94 n x) (dSp δ (pSu (dP δ) n x)) := by
  have hq : DRf 3 (mm_ww i 94 n x) δ := h.wr (fun z => by
    rcases z with z | z | z | z | z | z | z | z | z | z | z
    any_goals omega
    have := z.2
    unfold cnt7 at this
    rw [if_pos rfl] at this
    omega)
  obtain ⟨a1, a2, a3, a4, a5, a6, a7, a8⟩ := hq
  refine ⟨a1, a2, a3, a4, fun r hr => ?_, a6, a7, a8⟩
  have hr' : r < cnt7 δ 3 3 := hr
  show mm_ww i 94 n x 94 r = va_up (pU (dP δ)) n x r
  rw [up_if, if_neg (by unfold cnt7 at hr'; rw [if_pos rfl] at hr'; omega)]
  exact a5 r hr'
/-- a role -/
theorem r_rol (h : TZ X i t) (hW : WDS l) (hD : DRf 9 i δ) (hd : DW δ) (hk : t.2.2 = 202) : RSt X m w l e i (mm_V 216 0 [some (.ref 83)] [] (mm_Z m w i l e)) (sRol X t δ) := by
  have hc : i 83 16 = nI (pN (dP δ) 2) := hD.ct (s := 2) (by omega)
  have h8 := hd.2.1.2.2.1
  rw [mr_216_0, hc]
  unfold sRol
  by_cases q : pN (dP δ) 2 = 6
  · obtain ⟨e1, e2, e3, e4⟩ := h.fl (m := m) (w := w) (l := l) (e := e)
    rw [if_pos (by rw [q]; rfl), e1, mb_l, mb_0, mr_216_17, if_pos q]
    exact ⟨_, rfl, e2.mo (fun a b y => fTk_R y), e3, e4⟩
  · rw [if_neg (show ¬ nI (pN (dP δ) 2) = 6 from fun z => q ((nI_eq (b := 6) (by omega) (by omega)).mp z)), if_neg q]
    obtain ⟨i1, k1, k2, k3⟩ := h.adv (m := m) (w := w) (e := e) hW (by omega)
    have c1 : i1 83 16 = nI (pN (dP δ) 2) := by rw [k3 _ _ (by unfold fTk; omega)]; exact hc
    rw [k1, mb_l, mb_0, mr_216_22, c1]
    obtain ⟨i2, f1, f2, f3, f4⟩ := r_dec (m := m) (w := w) (l := l) (e := e) (s := 2) (x := 3) (y := nI (pN (dP δ) 2)) k2 hW (hD.tk k3) hd (by omega) (fun z => absurd z (by decide)) rfl rfl
    have c2 : i2 83 16 = nI (pN (dP δ) 2) := by
      have : i2 83 16 = i1 83 16 := f3
      rw [this]; exact c1
    have fr : mG fRp i i2 := (k3.mo (fun a b z => fTk_R z)).tr f2
    rw [f1, mb_l, mb_0, mr_216_31]
    cases hr : sDec X 2 (nx X t) δ with
    | inl p =>
      rw [hr] at f4
      have f4' : i2 83 46 = nI p ∧ p ≤ 1200 := f4
      rw [r_dead f4'.1 f4'.2, mb_l, mb_v, mr_216_35, if_pos rfl, mr_216_52]
      exact ⟨_, rfl, fr.tr (mG.ww (P := fRp) (by unfold fRp; omega)), by rw [mw_j (by omega)]; exact f4'.1, f4'.2⟩
    | inr r =>
      rw [hr] at f4
      have f4' : TZ X i2 r.1 ∧ DRf 2 i2 r.2 := f4
      obtain ⟨m1, mr, m2, m4, -⟩ := mo_dec k2.tk hr
      have e5 : pN (dP r.2) 2 = pN (dP δ) 2 + 1 := by rw [mr]; exact pSn_s
      have dw : DW r.2 := by rw [mr]; exact hd.ad' h.xw k2.tk (by omega) q m2 m4
      obtain ⟨x, i3, g1, g2, g3⟩ := r_brc (m := m) (w := w) (l := l) (e := e) (s := 0) (x := 1) f4'.1 hW f4'.2.1 dw (by omega) rfl
      have c3 : i3 83 16 = nI (pN (dP δ) 2) := by rw [g2 _ _ (by unfold fTk; omega)]; exact c2
      have fr3 : mG fRp i (mm_ww (mm_ww i3 93 (pN (dP δ) 2) x) 83 16 (nI (pN (dP δ) 2 + 1))) := ((fr.tr (g2.mo (fun a b z => fTk_R z))).tr (mG.ww (P := fRp) (by unfold fRp; omega))).tr (mG.ww (P := fRp) (by unfold fRp; omega))
      rw [r_live f4'.1.k6, mb_l, mb_v, mr_216_35, if_neg (by decide), c2, g1, mb_l, mb_v, mr_216_51, if_neg (no_out (by omega) (by omega)), nI_clamp (by omega), mr_216_52, mw_k (by omega), c3, nI_1]
      refine ⟨_, rfl, fr3, ?_⟩
      cases hb : sBrc X 0 r.1 r.2 with
      | inl p =>
        rw [hb] at g3
        have g3' : i3 83 46 = nI p ∧ p ≤ 1200 := g3
        rw [eB_r, hb]
        exact ⟨by rw [mw_j (by omega), mw_k (by omega)]; exact g3'.1, g3'.2⟩
      | inr q2 =>
        rw [hb] at g3
        have g3' : x = nI q2.2 ∧ TZ X i3 q2.1 := g3
        rw [eB_r, hb]
        refine ⟨(g3'.2.ww (by unfold fTk; omega)).ww (by unfold fTk; omega), ?_⟩
        have d1 := (f4'.2.tk g2).sr (x := x) e5
        have e6 : pN (dP (dSp r.2 (pSr (dP r.2) (pN (dP δ) 2) x))) 2 = pN (dP δ) 2 + 1 := e5
        have := d1.fin (by omega) (by omega) (fun _ => by rw [e6, show pN (dP δ) 2 + 1 - 1 = pN (dP δ) 2 by omega, mw_s]; exact up_s.symm) (fun z => absurd z (by decide))
        rw [e6, g3'.1] at this
        rw [g3'.1]
        exact this
/-- a user -/
theorem r_use (h : TZ X i t) (hW : WDS l) (hD : DRf 9 i δ) (hd : DW δ) (hk : t.2.2 = 203) : RSt X m w l e i (mm_V 217 0 [some (.ref 83)] [] (mm_Z m w i l e)) (sUse X t δ) := by
  have hc : i 83 17 = nI (pN (dP δ) 3) := hD.ct (s := 3) (by omega)
  have h8 := hd.2.1.2.2.2.1
  rw [mr_217_0, hc]
  unfold sUse
  by_cases q : pN (dP δ) 3 = 4
  · obtain ⟨e1, e2, e3, e4⟩ := h.fl (m := m) (w := w) (l := l) (e := e)
    rw [if_pos (by rw [q]; rfl), e1, mb_l, mb_0, mr_217_16, if_pos q]
    exact ⟨_, rfl, e2.mo (fun a b y => fTk_R y), e3, e4⟩
  · rw [if_neg (show ¬ nI (pN (dP δ) 3) = 4 from fun z => q ((nI_eq (b := 4) (by omega) (by omega)).mp z)), if_neg q]
    obtain ⟨i1, k1, k2, k3⟩ := h.adv (m := m) (w := w) (e := e) hW (by omega)
    have c1 : i1 83 17 = nI (pN (dP δ) 3) := by rw [k3 _ _ (by unfold fTk; omega)]; exact hc
    rw [k1, mb_l, mb_0, mr_217_21, c1]
    obtain ⟨i2, f1, f2, f3, f4⟩ := r_dec (m := m) (w := w) (l := l) (e := e) (s := 3) (x := 4) (y := nI (pN (dP δ) 3)) k2 hW (hD.tk k3) hd (by omega) (fun z => absurd z (by decide)) rfl rfl
    have c2 : i2 83 17 = nI (pN (dP δ) 3) := by
      have : i2 83 17 = i1 83 17 := f3
      rw [this]; exact c1
    have fr : mG fRp i i2 := (k3.mo (fun a b z => fTk_R z)).tr f2
    rw [f1, mb_l, mb_0, mr_217_30]
    cases hr : sDec X 3 (nx X t) δ with
    | inl p =>
      rw [hr] at f4
      have f4' : i2 83 46 = nI p ∧ p ≤ 1200 := f4
      rw [r_dead f4'.1 f4'.2, mb_l, mb_v, mr_217_34, if_pos rfl, mr_217_51]
      exact ⟨_, rfl, fr.tr (mG.ww (P := fRp) (by unfold fRp; omega)), by rw [mw_j (by omega)]; exact f4'.1, f4'.2⟩
    | inr r =>
      rw [hr] at f4
      have f4' : TZ X i2 r.1 ∧ DRf 3 i2 r.2 := f4
      obtain ⟨m1, mr, m2, m4, -⟩ := mo_dec k2.tk hr
      have e5 : pN (dP r.2) 3 = pN (dP δ) 3 + 1 := by rw [mr]; exact pSn_s
      have dw : DW r.2 := by rw [mr]; exact hd.ad' h.xw k2.tk (by omega) q m2 m4
      obtain ⟨x, i3, g1, g2, g3⟩ := r_brc (m := m) (w := w) (l := l) (e := e) (s := 2) (x := 3) f4'.1 hW f4'.2.1 dw (by omega) rfl
      have c3 : i3 83 17 = nI (pN (dP δ) 3) := by rw [g2 _ _ (by unfold fTk; omega)]; exact c2
      have fr3 : mG fRp i (mm_ww (mm_ww i3 94 (pN (dP δ) 3) x) 83 17 (nI (pN (dP δ) 3 + 1))) := ((fr.tr (g2.mo (fun a b z => fTk_R z))).tr (mG.ww (P := fRp) (by unfold fRp; omega))).tr (mG.ww (P := fRp) (by unfold fRp; omega))
      rw [r_live f4'.1.k6, mb_l, mb_v, mr_217_34, if_neg (by decide), c2, g1, mb_l, mb_v, mr_217_50, if_neg (no_out (by omega) (by omega)), nI_clamp (by omega), mr_217_51, mw_k (by omega), c3, nI_1]
      refine ⟨_, rfl, fr3, ?_⟩
      cases hb : sBrc X 2 r.1 r.2 with
      | inl p =>
        rw [hb] at g3
        have g3' : i3 83 46 = nI p ∧ p ≤ 1200 := g3
        rw [eB_r, hb]
        exact ⟨by rw [mw_j (by omega), mw_k (by omega)]; exact g3'.1, g3'.2⟩
      | inr q2 =>
        rw [hb] at g3
        have g3' : x = nI q2.2 ∧ TZ X i3 q2.1 := g3
        rw [eB_r, hb]
        refine ⟨(g3'.2.ww (by unfold fTk; omega)).ww (by unfold fTk; omega), ?_⟩
        have d1 := (f4'.2.tk g2).su (x := x) e5
        have e6 : pN (dP (dSp r.2 (pSu (dP r.2) (pN (dP δ) 3) x))) 3 = pN (dP δ) 3 + 1 := e5
        have := d1.fin (by omega) (by omega) (fun z => absurd z (by decide)) (fun _ => by rw [e6, show pN (dP δ) 3 + 1 - 1 = pN (dP δ) 3 by omega, mw_s]; exact up_s.symm)
        rw [e6, g3'.1] at this
        rw [g3'.1]
        exact this
end MM162
