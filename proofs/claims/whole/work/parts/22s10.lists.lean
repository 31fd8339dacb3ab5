/-! ATTRIBUTES, TYPES, ROLES, USERS in the class -/
section MM139
variable {X : mX} {t : m3} {w p : Bool} {i i' i0 : Nat → Nat → Int32} {l l' l0 : Nat → Nat → Int64} {δ δ' : mQ} {ρ : mP} {m : Nat} {e : Bool × Nat × Nat} {n k s a b c : Nat} {L : List Nat} {x y : Int32}
theorem nI_or {a b : Nat} (ha : a < 2 ^ 32) (hb : b < 2 ^ 32) : nI a ||| nI b = nI (a ||| b) := by
  apply Int32.toBitVec_inj.mp
  show BitVec.ofNat 32 a ||| BitVec.ofNat 32 b = BitVec.ofNat 32 (a ||| b)
  apply BitVec.eq_of_toNat_eq
  rw [BitVec.toNat_or, BitVec.toNat_ofNat, BitVec.toNat_ofNat, BitVec.toNat_ofNat, Nat.mod_eq_of_lt ha, Nat.mod_eq_of_lt hb, Nat.mod_eq_of_lt (Nat.or_lt_two_pow ha hb)]
theorem sh_1n : ∀ y, y < 31 → (1 : Int32) <<< (nI y &&& 31) = nI (2 ^ y) := by decide +kernel
theorem or_bit {v y : Nat} (hv : v < 2 ^ 31) (hy : y < 31) : nI v ||| ((1 : Int32) <<< (nI y &&& 31)) = nI (v ||| 2 ^ y) := by
  rw [sh_1n y hy, nI_or (by omega) (by have : 2 ^ y < 2 ^ 31 := Nat.pow_lt_pow_right (by decide) hy; omega)]
theorem or_ne {v y : Nat} : v ||| 2 ^ y ≠ 0 := by
  intro h
  have h1 : 2 ^ y ≤ v ||| 2 ^ y := Nat.right_le_or
  have h2 : 0 < 2 ^ y := Nat.pow_pos (by decide)
  omega
/-- a statement of the class -/
def CG (X : mX) (w : Bool) (i0 : Nat → Nat → Int32) (l0 : Nat → Nat → Int64) (m : Nat) (e : Bool × Nat × Nat) (V : Option mm_R) (r : mE (m3 × mQ)) : Prop := ∃ x i' l', V = some (.inl (some (.int x)), mm_Z m w i' l' e) ∧ (match r with
  | .inl p => x = 0 ∧ CF w i0 l0 i' l' p
  | .inr q => x = 1 ∧ CQ X w i0 l0 i' l' q.1 q.2 ∧ i' (mm_P (!w)) 18 = nI (dC q.2))
theorem CG.bad {r : mE (m3 × mQ)} (hr : r = .inl n) (h : CF w i0 l0 i l n) : CG X w i0 l0 m e (some (.inl (some (.int 0)), mm_Z m w i l e)) r := by
  subst hr; exact ⟨0, i, l, rfl, rfl, h⟩
theorem CG.ok {r : mE (m3 × mQ)} (hr : r = .inr (t, δ)) (h : CQ X w i0 l0 i l t δ) (hc : i (mm_P (!w)) 18 = nI (dC δ)) : CG X w i0 l0 m e (some (.inl (some (.int 1)), mm_Z m w i l e)) r := by
  subst hr; exact ⟨1, i, l, rfl, rfl, h, hc⟩
theorem fr_P (h : mG (fun k j => k = 28 ∧ 1 ≤ j ∧ j ≤ 3) i i') : i' (mm_P (!w)) 18 = i (mm_P (!w)) 18 := by
  have := mP_c (!w)
  exact h _ _ (by omega)
theorem c_att (h : CQ X w i0 l0 i l t δ) (hk : t.2.2 = 200) (hc : i (mm_P (!w)) 18 = nI (dC δ)) : CG X w i0 l0 m e (mm_V 4 0 [some (.ref 3)] [] (mm_Z m w i l e)) (sAtt X t δ) := by
  have hf := h.full (m := m) (e := e) (s := 1) (x := 1) (by omega) (h.dw.2.1.mx 1 (by omega)) rfl
  rw [mr_4_0, hf, mb_l, mb_v, mr_4_8]
  unfold sAtt
  by_cases q : pN (dP δ) 1 = 8
  · rw [if_pos q, decide_eq_true (show pN (dP δ) 1 = mMx 1 from q), if_bt]
    exact CG.bad rfl h.cf
  · obtain ⟨i1, l1, f1, f2, f3, f4⟩ := h.adv (m := m) (e := e) (by omega)
    rw [if_neg q, decide_eq_false (show ¬ pN (dP δ) 1 = mMx 1 from q), if_bf, f1, mb_l, mb_0, mr_4_20]
    unfold sDec
    rcases f2.dec (m := m) (e := e) (s := 1) (x1 := 100) (x2 := 1) (by omega) q rfl rfl with ⟨d1, d2, i2, l2, v, g1, g2, g3⟩ | ⟨d1, g1⟩
    · rw [g1, mb_l, mb_v, mr_4_27, if_pos (Or.inr rfl), if_pos ⟨d1, d2⟩]
      refine CG.ok rfl g2 ?_
      rw [g3, fr_P f3, hc]; rfl
    · rw [g1, mb_l, mb_v, mr_4_27, if_pos (Or.inl rfl), if_neg d1]
      exact CG.bad rfl f2.cf
/-- a type of an attribute more -/
theorem DC.sa (h : DC w i l δ) : DC w (mm_ww i (mm_P (!w) + 2) a (nI b)) l (dSa δ a b) := by
  obtain ⟨h1, h2, h3, h4, h5⟩ := h
  have hp := mP_c (!w)
  refine ⟨h1.ku (fun j => by rw [mw_k (by omega)]) (fun j _ => by rw [mw_k (by omega)]) (fun j _ => by rw [mw_k (by omega)]) (fun k j b1 b2 _ => by rw [mw_k (by omega)]) (fun k j b1 b2 _ => by rw [mw_k (by omega)]), h2.ku (fun k j b1 b2 _ => by rw [mw_k (by omega)]) (fun j _ => by rw [mw_k (by omega)]) (fun k j b1 b2 _ => by rw [mw_k (by omega)]), ⟨by rw [mw_k (by omega)]; exact h3.1, fun j hj => by rw [mw_k (by omega)]; exact h3.2 j hj⟩, ⟨fun k hk => by rw [mw_k (by omega)]; exact h4.1 k hk, fun k hk => by rw [mw_k (by omega)]; exact h4.2 k hk⟩, fun c hc => ?_⟩
  show _ = nI (va_up (dA δ) a b c)
  rw [up_if]
  by_cases z : c = a
  · subst z; rw [mw_s, if_pos rfl]
  · rw [mw_j z, if_neg z]; exact h5 c hc
/-- a write of the draft -/
theorem CQ.wr (h : CQ X w i0 l0 i l t δ) {kk j : Nat} {v : Int32} (hk : mm_P (!w) + 1 ≤ kk ∧ kk ≤ mm_P (!w) + 18 ∨ kk = 25 ∨ kk = 26) (hd : DC w (mm_ww i kk j v) l δ') (hw : DW δ') : CQ X w i0 l0 (mm_ww i kk j v) l t δ' := by
  have hp := mP_c (!w)
  have f1 : mG (fP w) i (mm_ww i kk j v) := mG.ww (by unfold fP; omega)
  obtain ⟨k1, k2, k3, k4⟩ := h.kc
  exact ⟨⟨h.1.1.fr f1, h.xw, h.tk, by rw [mw_k (by omega)]; exact k1, fun z => by rw [mw_k (by omega)]; exact k2 z, by rw [mw_k (by omega)]; exact k3, k4⟩, hd, hw, h.2.2.2.1.fr f1, h.2.2.2.2.1.tr f1, h.2.2.2.2.2⟩
theorem c_ats {y : Nat} : ∀ (D k : Nat) (t : m3) (δ : mQ) (i : Nat → Nat → Int32) (l : Nat → Nat → Int64) (u3 : Option Value), CQ X w i0 l0 i l t δ → i (mm_P (!w)) 18 = nI (dC δ) → y < pN (dP δ) 0 → k + D = 1200 → CG X w i0 l0 m e (mm_V 5 43 [some (.ref 3), some (.int (nI y)), some (.int (nI k)), u3] [] (mm_Z m w i l e)) (sAts X y D t δ)
  | 0, k, t, δ, i, l, u3, h, hc, hy, hk => by
    rw [mr_5_43, na_1200, if_neg (fun z => by have := (nI_ltI (by omega) (by omega)).mp z; omega)]
    exact CG.ok rfl h hc
  | D + 1, k, t, δ, i, l, u3, h, hc, hy, hk => by
    have hd := h.tk.kd h.xw
    have hp := mP_c (!w)
    have e44 : (nI t.2.2 = 44) ↔ t.2.2 = 44 := nI_eq (by omega) (by decide : 44 < 2 ^ 31)
    have y24 : y < 24 := by have := h.dw.2.1.1; omega
    rw [mr_5_43, na_1200, if_pos ((nI_ltI (by omega) (by omega)).mpr (by omega)), h.k3, sAts]
    by_cases q : t.2.2 = 44
    · obtain ⟨i1, l1, f1, f2, f3, f4⟩ := h.adv (m := m) (e := e) (by omega)
      rw [if_pos (e44.mpr q), if_pos q, f1, mb_l, mb_0, mr_5_69, f2.num (s := 1) (x := 100) (by omega) rfl, mb_l, mb_v, mr_5_75]
      unfold sNum
      by_cases z : dI δ (tLt X (nx X t)) < dL δ ∧ (dG δ (dI δ (tLt X (nx X t)))).2.1 = 1
      · have ha : (dG δ (dI δ (tLt X (nx X t)))).2.2 < pN (dP δ) 1 := by
          have := (h.dw.1.1 _ z.1).2.2.2.2.2
          rw [z.2] at this; exact this
        have h8 := h.dw.2.1.2.1
        have a24 := (h.dw.v z.1).2.1
        have kn : (nx X t).2.2 ≠ 1 := by
          intro y1
          have : tLt X (nx X t) = [] := tLt_no (by omega)
          rw [this] at z
          exact (h.dw.1.1 _ z.1).2.1 (dI_at z.1)
        rw [if_pos z, if_neg (na_m1 (by omega)), if_neg (no_out (by omega) (by omega)), if_neg (no_out (by omega) (by omega)), nI_clamp (by omega), f2.dc.2.2.2.2 _ (by omega)]
        generalize ea : (dG δ (dI δ (tLt X (nx X t)))).2.2 = a at ha a24
        have hv : dA δ a < 2 ^ 24 := Nat.lt_of_lt_of_le (h.dw.2.2.2.1 a).1 (Nat.pow_le_pow_right (by decide) h.dw.2.1.1)
        rw [or_bit (by omega) (by omega)]
        have g1 : CQ X w i0 l0 (mm_ww i1 (mm_P (!w) + 2) a (nI (dA δ a ||| 2 ^ y))) l1 (nx X t) (dSa δ a (dA δ a ||| 2 ^ y)) := f2.wr (by omega) f2.dc.sa (h.dw.sa hy ha)
        obtain ⟨i2, l2, e1, e2, e3, e4⟩ := g1.adv (m := m) (e := e) kn
        rw [e1, mb_l, mb_0, mr_5_105, nI_1]
        rw [if_pos z]
        exact c_ats D (k + 1) _ _ i2 l2 _ e2 (by rw [fr_P e3, mw_k (by omega), fr_P f3, hc]; rfl) hy (by omega)
      · rw [if_neg z, if_pos rfl, if_neg z]
        exact CG.bad rfl f2.cf
    · rw [if_neg (fun z => q (e44.mp z)), if_neg q]
      exact CG.ok rfl h hc
theorem c_typ (h : CQ X w i0 l0 i l t δ) (hk : t.2.2 = 201) (hc : i (mm_P (!w)) 18 = nI (dC δ)) : CG X w i0 l0 m e (mm_V 5 0 [some (.ref 3), none, none, none] [] (mm_Z m w i l e)) (sTyp X t δ) := by
  have hf := h.full (m := m) (e := e) (s := 0) (x := 0) (by omega) (h.dw.2.1.mx 0 (by omega)) rfl
  rw [mr_5_0, h.dc.1.1 0 (by omega), hf, mb_l, mb_v, mr_5_18]
  unfold sTyp
  by_cases q : pN (dP δ) 0 = 24
  · rw [if_pos q, decide_eq_true (show pN (dP δ) 0 = mMx 0 from q), if_bt]
    exact CG.bad rfl h.cf
  · obtain ⟨i1, l1, f1, f2, f3, f4⟩ := h.adv (m := m) (e := e) (by omega)
    rw [if_neg q, decide_eq_false (show ¬ pN (dP δ) 0 = mMx 0 from q), if_bf, f1, mb_l, mb_0, mr_5_30]
    unfold sDec
    rcases f2.dec (m := m) (e := e) (s := 0) (x1 := 0) (x2 := 0) (by omega) q rfl rfl with ⟨d1, d2, i2, l2, v, g1, g2, g3⟩ | ⟨d1, g1⟩
    · rw [g1, mb_l, mb_v, mr_5_36, if_neg (by decide), if_pos ⟨d1, d2⟩, na_0]
      exact c_ats 1200 0 _ _ i2 l2 none g2 (by rw [g3, fr_P f3, hc]; rfl) (by show pN (dP δ) 0 < pN (pSn (dP δ) 0 (pN (dP δ) 0 + 1)) 0; rw [pSn_s]; omega) rfl
    · rw [g1, mb_l, mb_v, mr_5_36, if_pos rfl, if_neg d1]
      exact CG.bad rfl f2.cf
/-- lists depend on names alone -/
theorem sNum_cg {δ' : mQ} (h : dN δ' = dN δ) : sNum X s t δ' = sNum X s t δ := by
  have e1 : dL δ' = dL δ := by unfold dL; rw [h]
  have e2 : ∀ j, dG δ' j = dG δ j := fun j => by unfold dG; rw [h]
  have e3 : ∀ L, dI δ' L = dI δ L := fun L => by unfold dI; simp only [e1, e2]
  unfold sNum
  rw [e1, e3, e2]
theorem sLst_cg {δ' : mQ} (h : dN δ' = dN δ) : ∀ (D : Nat) (t : m3) (b : Nat), sLst X s δ' D t b = sLst X s δ D t b
  | 0, t, b => rfl
  | D + 1, t, b => by
    rw [sLst, sLst, sNum_cg h]
    have := fun r : m3 × Nat => sLst_cg h D r.1 (b ||| 2 ^ r.2)
    simp only [this]
theorem sBrc_cg {δ' : mQ} (h : dN δ' = dN δ) : sBrc X s t δ' = sBrc X s t δ := by
  unfold sBrc
  rw [sLst_cg h]
/-- a list of names -/
def f28 (k j : Nat) : Prop := k = 28 ∧ 1 ≤ j ∧ j ≤ 3
def CI (X : mX) (w : Bool) (i0 : Nat → Nat → Int32) (l0 : Nat → Nat → Int64) (m : Nat) (e : Bool × Nat × Nat) (δ : mQ) (c0 : Nat → Nat → Int32) (V : Option mm_R) (r : mE (m3 × Nat)) : Prop := ∃ x i' l', V = some (.inl (some (.int x)), mm_Z m w i' l' e) ∧ (match r with
  | .inl p => x = 0 ∧ CF w i0 l0 i' l' p ∧ mG f28 c0 i'
  | .inr q => x = nI q.2 ∧ q.2 ≠ 0 ∧ q.2 < 2 ^ 24 ∧ CQ X w i0 l0 i' l' q.1 δ ∧ mG f28 c0 i')
theorem CI.tr {r : mE (m3 × Nat)} {c0 c1 : Nat → Nat → Int32} {V : Option mm_R} (hf : mG f28 c0 c1) (h : CI X w i0 l0 m e δ c1 V r) : CI X w i0 l0 m e δ c0 V r := by
  obtain ⟨x, i', l', h1, h2⟩ := h
  refine ⟨x, i', l', h1, ?_⟩
  cases r with
  | inl p => exact ⟨h2.1, h2.2.1, hf.tr h2.2.2⟩
  | inr q => exact ⟨h2.1, h2.2.1, h2.2.2.1, h2.2.2.2.1, hf.tr h2.2.2.2.2⟩
theorem CI.bad {r : mE (m3 × Nat)} (hr : r = .inl n) (h : CF w i0 l0 i l n) : CI X w i0 l0 m e δ i (some (.inl (some (.int 0)), mm_Z m w i l e)) r := by
  subst hr; exact ⟨0, i, l, rfl, rfl, h, mG.rf⟩
theorem c_lst (hs : s < 4) : ∀ (D k : Nat) (t : m3) (b : Nat) (i : Nat → Nat → Int32) (l : Nat → Nat → Int64) (u4 : Option Value), CQ X w i0 l0 i l t δ → b < 2 ^ 24 → k + D = 1200 → CI X w i0 l0 m e δ i (mm_V 15 18 [some (.ref 3), some (.int (nI (100 * s))), some (.int (nI b)), some (.int (nI k)), u4] [] (mm_Z m w i l e)) (sLst X s δ D t b)
  | 0, k, t, b, i, l, u4, h, hb, hk => by
    rw [mr_15_18, na_1200, if_neg (fun z => by have := (nI_ltI (by omega) (by omega)).mp z; omega)]
    exact CI.bad rfl h.cf
  | D + 1, k, t, b, i, l, u4, h, hb, hk => by
    have t43 : CI X w i0 l0 m e δ i (mm_V 15 43 [some (.ref 3), some (.int (nI (100 * s))), some (.int (nI b)), some (.int (nI k)), u4] [] (mm_Z m w i l e)) (eB (sNum X s t δ) (fun r => sLst X s δ D r.1 (b ||| 2 ^ r.2))) := by
      rw [mr_15_43, h.num hs rfl, mb_l, mb_v, mr_15_48]
      unfold sNum
      by_cases z : dI δ (tLt X t) < dL δ ∧ (dG δ (dI δ (tLt X t))).2.1 = s
      · have a24 := (h.dw.v z.1).2.1
        have kn : t.2.2 ≠ 1 := by
          intro y1
          have : tLt X t = [] := tLt_no (by omega)
          rw [this] at z
          exact (h.dw.1.1 _ z.1).2.1 (dI_at z.1)
        obtain ⟨i1, l1, f1, f2, f3, f4⟩ := h.adv (m := m) (e := e) kn
        rw [if_pos z, if_neg (na_m1 (by omega)), f1, mb_l, mb_0, mr_15_72, or_bit (by omega) (by omega), nI_1, if_pos z]
        have := c_lst hs D (k + 1) (nx X t) (b ||| 2 ^ (dG δ (dI δ (tLt X t))).2.2) i1 l1 (some (.int (nI (dG δ (dI δ (tLt X t))).2.2))) f2 (Nat.or_lt_two_pow hb (Nat.pow_lt_pow_right (by decide) a24)) (by omega)
        exact this.tr f3
      · rw [if_neg z, if_pos rfl, if_neg z]
        exact CI.bad rfl h.cf
    rw [mr_15_18, na_1200, if_pos ((nI_ltI (by omega) (by omega)).mpr (by omega)), sLst]
    by_cases q : b = 0
    · rw [if_pos (by rw [q]; rfl), if_neg (fun z => z.1 q)]
      exact t43
    · rw [if_neg (fun z => q ((nz_eq (by omega)).mp z))]
      rcases h.takes (m := m) (e := e) (k := 125) (x := 125) (by omega) (by omega) rfl with ⟨d1, i1, l1, f1, f2, f3, f4⟩ | ⟨d1, f1⟩
      · rw [f1, mb_l, mb_v, mr_15_38, if_bt, if_pos ⟨q, d1⟩]
        exact ⟨_, i1, l1, rfl, rfl, q, hb, f2, f3⟩
      · rw [f1, mb_l, mb_v, mr_15_38, if_bf, if_neg (fun z => d1 z.2)]
        exact t43
theorem c_brc (h : CQ X w i0 l0 i l t δ) (hs : s < 4) {x1 : Int32} (h1 : x1 = nI (100 * s)) : CI X w i0 l0 m e δ i (mm_V 15 0 [some (.ref 3), some (.int x1), none, none, none] [] (mm_Z m w i l e)) (sBrc X s t δ) := by
  subst h1
  rw [mr_15_0]
  unfold sBrc
  rcases h.takes (m := m) (e := e) (k := 123) (x := 123) (by omega) (by omega) rfl with ⟨d1, i1, l1, f1, f2, f3, f4⟩ | ⟨d1, f1⟩
  · rw [f1, mb_l, mb_v, mr_15_9, if_bt, if_pos d1]
    have := c_lst (m := m) (e := e) hs 1200 0 (nx X t) 0 i1 l1 none f2 (by omega) rfl
    exact this.tr f3
  · rw [f1, mb_l, mb_v, mr_15_9, if_bf, if_neg d1]
    exact CI.bad rfl h.cf
end MM139
