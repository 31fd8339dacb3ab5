/-! RULES AND MOVES in the class -/
section MM141
variable {X : mX} {t : m3} {w p : Bool} {i i' i0 : Nat → Nat → Int32} {l l' l0 : Nat → Nat → Int64} {δ δ' : mQ} {ρ : mP} {m : Nat} {e : Bool × Nat × Nat} {n k s a b c r : Nat} {L : List Nat} {x y v : Int32}
theorem mw_ne {i : Nat → Nat → Int32} {k j k' j' : Nat} {x : Int32} (h : ¬ (k' = k ∧ j' = j)) : mm_ww i k j x k' j' = i k' j' := by
  by_cases q : k' = k
  · subst q; exact mw_j (fun z => h ⟨rfl, z⟩)
  · rw [mw_k q]
/-- a write behind what is used -/
theorem CQ.jk (h : CQ X w i0 l0 i l t δ) {kk j : Nat} {v : Int32} (hk : mm_P (!w) + 1 ≤ kk ∧ kk ≤ mm_P (!w) + 18 ∨ kk = 25 ∨ kk = 26) (hn : ¬ uC w δ kk j) : CQ X w i0 l0 (mm_ww i kk j v) l t δ :=
  h.wr hk (h.dc.ku (fun k' j' z => mw_ne (fun y => hn (by rw [← y.1, ← y.2]; exact z))) (fun _ _ => rfl)) h.dw
theorem uC_ru {kk : Nat} (hk : mm_P (!w) + 5 ≤ kk ∧ kk ≤ mm_P (!w) + 9 ∨ kk = 25) : ¬ uC w δ kk (pN (dP δ) 4) := by
  have hp := mP_c (!w)
  intro z
  rcases z with z | z | z | z | z | z | z | z | z | z | z | z | z <;> omega
theorem uC_mo {kk : Nat} (hk : mm_P (!w) + 10 ≤ kk ∧ kk ≤ mm_P (!w) + 13 ∨ kk = 26) : ¬ uC w δ kk (pN (dP δ) 5) := by
  have hp := mP_c (!w)
  intro z
  rcases z with z | z | z | z | z | z | z | z | z | z | z | z | z <;> omega
/-- a rule more -/
theorem DC.ru (h : DC w i l δ) {x : Nat × Int32 × Int32 × Nat × Int32} (h1 : i 25 (pN (dP δ) 4) = nI a) (h2 : i (mm_P (!w) + 5) (pN (dP δ) 4) = nI x.1) (h3 : i (mm_P (!w) + 6) (pN (dP δ) 4) = x.2.1) (h4 : i (mm_P (!w) + 7) (pN (dP δ) 4) = x.2.2.1) (h5 : i (mm_P (!w) + 8) (pN (dP δ) 4) = nI x.2.2.2.1) (h6 : i (mm_P (!w) + 9) (pN (dP δ) 4) = x.2.2.2.2) : DC w (mm_ww i (mm_P (!w) + 1) 4 (nI (pN (dP δ) 4 + 1))) l (dRu δ a x) := by
  have hp := mP_c (!w)
  obtain ⟨⟨a1, a2, a3, a4, a5⟩, b2, b3, b4, b5⟩ := h
  have ep : ∀ j, pN (dP (dRu δ a x)) j = if j = 4 then pN (dP δ) 4 + 1 else pN (dP δ) j := fun j => up_if
  have far : ∀ k j, k ≠ mm_P (!w) + 1 → mm_ww i (mm_P (!w) + 1) 4 (nI (pN (dP δ) 4 + 1)) k j = i k j := fun k j z => by rw [mw_k z]
  refine ⟨⟨fun j hj => ?_, fun u hu => ?_, fun u hu => ?_, fun k hk => ?_, fun k hk => ?_⟩, ?_, ⟨?_, fun j hj => ?_⟩, ⟨fun k hk => ?_, fun k hk => ?_⟩, fun c hc => ?_⟩
  · rw [ep]
    by_cases z : j = 4
    · subst z; rw [mw_s, if_pos rfl]
    · rw [mw_j z, if_neg z]; exact a1 j hj
  · rw [far _ _ (by omega)]; exact a2 u hu
  · rw [far _ _ (by omega)]; exact a3 u hu
  · have el : pL (dP (dRu δ a x)) k = if k = pN (dP δ) 4 then x else pL (dP δ) k := up_if
    rw [ep, if_pos rfl] at hk
    rw [far _ _ (by omega), far _ _ (by omega), far _ _ (by omega), far _ _ (by omega), far _ _ (by omega), el]
    by_cases z : k = pN (dP δ) 4
    · subst z; rw [if_pos rfl]; exact ⟨h2, h3, h4, h5, h6⟩
    · rw [if_neg z]; exact a4 k (by omega)
  · rw [far _ _ (by omega), far _ _ (by omega), far _ _ (by omega), far _ _ (by omega)]; exact a5 k hk
  · exact b2.ku (fun k j c1 c2 _ => far k j (by omega)) (fun j _ => far _ _ (by omega)) (fun k j c1 c2 _ => far k j (by omega))
  · rw [far _ _ (by omega)]; exact b3.1
  · rw [far _ _ (by omega)]; exact b3.2 j hj
  · have er : dR (dRu δ a x) k = if k = pN (dP δ) 4 then a else dR δ k := up_if
    rw [ep, if_pos rfl] at hk
    rw [far _ _ (by omega), er]
    by_cases z : k = pN (dP δ) 4
    · subst z; rw [if_pos rfl]; exact h1
    · rw [if_neg z]; exact b4.1 k (by omega)
  · rw [far _ _ (by omega)]; exact b4.2 k hk
  · rw [far _ _ (by omega)]; exact b5 c hc
theorem DC.mo (h : DC w i l δ) {x : Nat × Nat × Nat × Nat} (h1 : i 26 (pN (dP δ) 5) = nI a) (h2 : i (mm_P (!w) + 10) (pN (dP δ) 5) = nI x.1) (h3 : i (mm_P (!w) + 11) (pN (dP δ) 5) = nI x.2.1) (h4 : i (mm_P (!w) + 12) (pN (dP δ) 5) = nI x.2.2.1) (h5 : i (mm_P (!w) + 13) (pN (dP δ) 5) = nI x.2.2.2) : DC w (mm_ww i (mm_P (!w) + 1) 5 (nI (pN (dP δ) 5 + 1))) l (dMo δ a x) := by
  have hp := mP_c (!w)
  obtain ⟨⟨a1, a2, a3, a4, a5⟩, b2, b3, b4, b5⟩ := h
  have ep : ∀ j, pN (dP (dMo δ a x)) j = if j = 5 then pN (dP δ) 5 + 1 else pN (dP δ) j := fun j => up_if
  have far : ∀ k j, k ≠ mm_P (!w) + 1 → mm_ww i (mm_P (!w) + 1) 5 (nI (pN (dP δ) 5 + 1)) k j = i k j := fun k j z => by rw [mw_k z]
  refine ⟨⟨fun j hj => ?_, fun u hu => ?_, fun u hu => ?_, fun k hk => ?_, fun k hk => ?_⟩, ?_, ⟨?_, fun j hj => ?_⟩, ⟨fun k hk => ?_, fun k hk => ?_⟩, fun c hc => ?_⟩
  · rw [ep]
    by_cases z : j = 5
    · subst z; rw [mw_s, if_pos rfl]
    · rw [mw_j z, if_neg z]; exact a1 j hj
  · rw [far _ _ (by omega)]; exact a2 u hu
  · rw [far _ _ (by omega)]; exact a3 u hu
  · rw [far _ _ (by omega), far _ _ (by omega), far _ _ (by omega), far _ _ (by omega), far _ _ (by omega)]; exact a4 k hk
  · have el : pM (dP (dMo δ a x)) k = if k = pN (dP δ) 5 then x else pM (dP δ) k := up_if
    rw [ep, if_pos rfl] at hk
    rw [far _ _ (by omega), far _ _ (by omega), far _ _ (by omega), far _ _ (by omega), el]
    by_cases z : k = pN (dP δ) 5
    · subst z; rw [if_pos rfl]; exact ⟨h2, h3, h4, h5⟩
    · rw [if_neg z]; exact a5 k (by omega)
  · exact b2.ku (fun k j c1 c2 _ => far k j (by omega)) (fun j _ => far _ _ (by omega)) (fun k j c1 c2 _ => far k j (by omega))
  · rw [far _ _ (by omega)]; exact b3.1
  · rw [far _ _ (by omega)]; exact b3.2 j hj
  · rw [far _ _ (by omega)]; exact b4.1 k hk
  · have er : dM (dMo δ a x) k = if k = pN (dP δ) 5 then a else dM δ k := up_if
    rw [ep, if_pos rfl] at hk
    rw [far _ _ (by omega), er]
    by_cases z : k = pN (dP δ) 5
    · subst z; rw [if_pos rfl]; exact h1
    · rw [if_neg z]; exact b4.2 k (by omega)
  · rw [far _ _ (by omega)]; exact b5 c hc
/-- a named one is no wrong token -/
theorem nm_1k (hd : DW δ) (h : dI δ (tLt X t) < dL δ) : t.2.2 ≠ 1 := by
  intro y1
  have e1 : tLt X t = [] := tLt_no (by omega)
  rw [e1] at h
  exact (hd.1.1 _ h).2.1 (dI_at h)
theorem nm_v (hd : DW δ) {j : Nat} (h : j < dL δ) (h2 : (dG δ j).2.1 < 2) : vW (dP δ) (nI (dV δ j)) := by
  have h1 := (hd.1.1 j h).2.2.2.2.2
  rcases (show (dG δ j).2.1 = 0 ∨ (dG δ j).2.1 = 1 by omega) with z | z
  · rw [z] at h1
    exact Or.inl ⟨_, h1, by unfold dV; rw [z]; congr 1; omega⟩
  · rw [z] at h1
    exact Or.inr ⟨_, h1, by unfold dV; rw [z]⟩
/-- what a side answers, in the class: the value, or -1 -/
theorem sid_v (hd : DW δ) {self : Bool} (hs : self = true → t.2.2 ≠ 210) : (sSid X self t δ = .inl t.1 ∧ (if t.2.2 = 42 then (400 : Int32) else if dI δ (tLt X t) < dL δ ∧ (dG δ (dI δ (tLt X t))).2.1 < 2 then nI (dV δ (dI δ (tLt X t))) else -1) = -1) ∨ (∃ v, sSid X self t δ = .inr (nx X t, v) ∧ (if t.2.2 = 42 then (400 : Int32) else if dI δ (tLt X t) < dL δ ∧ (dG δ (dI δ (tLt X t))).2.1 < 2 then nI (dV δ (dI δ (tLt X t))) else -1) = v ∧ v ≠ -1 ∧ t.2.2 ≠ 1 ∧ (v = 400 ∨ vW (dP δ) v)) := by
  unfold sSid
  by_cases q : t.2.2 = 42
  · right
    rw [if_pos q, if_pos q]
    exact ⟨400, rfl, rfl, by decide, by omega, Or.inl rfl⟩
  · rw [if_neg q, if_neg q, if_neg (fun z => hs z.1 z.2)]
    by_cases z : dI δ (tLt X t) < dL δ ∧ (dG δ (dI δ (tLt X t))).2.1 < 2
    · right
      rw [if_pos z, if_pos z]
      have := (hd.v z.1).2.2
      exact ⟨_, rfl, rfl, na_m1 (by omega), nm_1k hd z.1, Or.inr (nm_v hd z.1 z.2)⟩
    · left
      rw [if_neg z, if_neg z]
      exact ⟨rfl, rfl⟩
/-- : and a class -/
theorem c_cls (h : CQ X w i0 l0 i l t δ) : ∃ x i' l', mm_V 16 0 [some (.ref 3), none] [] (mm_Z m w i l e) = some (.inl (some (.int x)), mm_Z m w i' l' e) ∧ mG f28 i i' ∧ (match eB (sCol X t) (fun r3 => sCls X r3) with
  | .inl p => x = -1 ∧ CF w i0 l0 i' l' p
  | .inr q => x = nI q.2 ∧ q.2 < 5 ∧ CQ X w i0 l0 i' l' q.1 δ) := by
  rw [mr_16_0]
  unfold sCol
  rcases h.takes (m := m) (e := e) (k := 58) (x := 58) (by omega) (by omega) rfl with ⟨d1, i1, l1, f1, f2, f3, f4⟩ | ⟨d1, f1⟩
  · have hd := f2.tk.kd f2.xw
    rw [f1, mb_l, mb_v, mr_16_9, if_bt, f2.k3, if_pos d1, mr_164_0]
    show ∃ x i' l', _ ∧ _ ∧ (match sCls X (nx X t) with
      | .inl p => x = -1 ∧ CF w i0 l0 i' l' p
      | .inr q => x = nI q.2 ∧ q.2 < 5 ∧ CQ X w i0 l0 i' l' q.1 δ)
    unfold sCls
    have k1 : ∀ v, v < 244 → ((nI v - 220 < 0) ↔ v < 220) := by decide +kernel
    have k2 : ∀ v, v < 244 → ((nI v - 220 < 5) ↔ v < 225) := by decide +kernel
    by_cases q1 : (nx X t).2.2 < 220
    · rw [if_pos ((k1 _ hd).mpr q1), mb_l, mb_v, mr_16_30, if_pos rfl, if_neg (by omega)]
      exact ⟨_, i1, l1, rfl, f3, rfl, f2.cf⟩
    · rw [if_neg (fun z => q1 ((k1 _ hd).mp z))]
      by_cases q2 : (nx X t).2.2 < 225
      · obtain ⟨i2, l2, g1, g2, g3, g4⟩ := f2.adv (m := m) (e := e) (by omega)
        rw [if_pos ((k2 _ hd).mpr q2), mb_l, mb_v, mr_16_30, if_neg (by decide), g1, mb_l, mb_0, mr_16_42, if_pos ⟨by omega, by omega⟩]
        exact ⟨_, i2, l2, rfl, mG.tr f3 g3, by rw [show (220 : Int32) = nI 220 by decide, na_sub (by omega)], by dsimp only; omega, g2⟩
      · rw [if_neg (fun z => q2 ((k2 _ hd).mp z)), mb_l, mb_v, mr_16_30, if_pos rfl, if_neg (by omega)]
        exact ⟨_, i1, l1, rfl, f3, rfl, f2.cf⟩
  · rw [f1, mb_l, mb_v, mr_16_9, if_bf, if_neg d1]
    exact ⟨_, i, l, rfl, mG.rf, rfl, h.cf⟩
theorem eB_as {α β γ : Type} {x : mE α} {f : α → mE β} {g : β → mE γ} : eB (eB x f) g = eB x (fun a => eB (f a) g) := by cases x <;> rfl
theorem c_rul (h : CQ X w i0 l0 i l t δ) (hk : 204 ≤ t.2.2 ∧ t.2.2 ≤ 207) (hc : i (mm_P (!w)) 18 = nI (dC δ)) : CG X w i0 l0 m e (mm_V 8 0 [some (.ref 3), none] [] (mm_Z m w i l e)) (sRul X t δ) := by
  have hp := mP_c (!w)
  have hf := h.full (m := m) (e := e) (s := 4) (x := 4) (by omega) (h.dw.2.1.mx 4 (by omega)) rfl
  have h60 : pN (dP δ) 4 ≤ 60 := h.dw.2.1.2.2.2.2.1
  have hz : xz X ≤ 1200 := h.xw.le
  have ht := h.tk.ok.2.2.2.1
  rw [mr_8_0, h.dc.1.1 4 (by omega), hf, mb_l, mb_v, mr_8_18]
  unfold sRul
  by_cases q : pN (dP δ) 4 = 60
  · rw [if_pos q, decide_eq_true (show pN (dP δ) 4 = mMx 4 from q), if_bt]
    exact CG.bad rfl h.cf
  · have no60 : ¬ mm_out (nI (pN (dP δ) 4)) 60 := no_out (by omega) (by omega)
    have ek : i 28 3 - 204 = nI (t.2.2 - 204) := by rw [h.k3, show (204 : Int32) = nI 204 by decide, na_sub (by omega)]
    rw [if_neg q, decide_eq_false (show ¬ pN (dP δ) 4 = mMx 4 from q), if_bf, if_neg no60, if_neg no60, nI_clamp (by omega), ek, h.kc.1]
    have h1 : CQ X w i0 l0 (mm_ww (mm_ww i 25 (pN (dP δ) 4) (nI t.1)) (mm_P (!w) + 5) (pN (dP δ) 4) (nI (t.2.2 - 204))) l t δ := (h.jk (by omega) (uC_ru (by omega))).jk (by omega) (uC_ru (by omega))
    have v25 : mm_ww (mm_ww i 25 (pN (dP δ) 4) (nI t.1)) (mm_P (!w) + 5) (pN (dP δ) 4) (nI (t.2.2 - 204)) 25 (pN (dP δ) 4) = nI t.1 := by rw [mw_k (by omega), mw_s]
    have v5 : mm_ww (mm_ww i 25 (pN (dP δ) 4) (nI t.1)) (mm_P (!w) + 5) (pN (dP δ) 4) (nI (t.2.2 - 204)) (mm_P (!w) + 5) (pN (dP δ) 4) = nI (t.2.2 - 204) := mw_s
    have vc : mm_ww (mm_ww i 25 (pN (dP δ) 4) (nI t.1)) (mm_P (!w) + 5) (pN (dP δ) 4) (nI (t.2.2 - 204)) (mm_P (!w)) 18 = nI (dC δ) := by rw [mw_k (by omega), mw_k (by omega), hc]
    generalize mm_ww (mm_ww i 25 (pN (dP δ) 4) (nI t.1)) (mm_P (!w) + 5) (pN (dP δ) 4) (nI (t.2.2 - 204)) = j1 at h1 v25 v5 vc
    obtain ⟨i1, l1, f1, f2, f3, f4⟩ := h1.adv (m := m) (e := e) (by omega)
    rw [f1, mb_l, mb_0, mr_8_63, f2.types, mb_l, mb_v, mr_8_75, if_neg no60, if_neg no60, nI_clamp (by omega), mw_s]
    rcases sid_v (X := X) (t := nx X t) (self := false) h.dw (fun z => by cases z) with ⟨s1, s2⟩ | ⟨sv, s1, s2, s3, s4, s5⟩
    · rw [s2, if_pos rfl, s1]
      exact CG.bad rfl (f2.cf.wr (by omega))
    rw [s2, if_neg s3, s1]
    have h2 : CQ X w i0 l0 (mm_ww i1 (mm_P (!w) + 6) (pN (dP δ) 4) sv) l1 (nx X t) δ := f2.jk (by omega) (uC_ru (by omega))
    have w6 : mm_ww i1 (mm_P (!w) + 6) (pN (dP δ) 4) sv (mm_P (!w) + 6) (pN (dP δ) 4) = sv := mw_s
    have w5 : mm_ww i1 (mm_P (!w) + 6) (pN (dP δ) 4) sv (mm_P (!w) + 5) (pN (dP δ) 4) = nI (t.2.2 - 204) := by rw [mw_k (by omega), f3 _ _ (by omega)]; exact v5
    have w25 : mm_ww i1 (mm_P (!w) + 6) (pN (dP δ) 4) sv 25 (pN (dP δ) 4) = nI t.1 := by rw [mw_k (by omega), f3 _ _ (by omega)]; exact v25
    have wc : mm_ww i1 (mm_P (!w) + 6) (pN (dP δ) 4) sv (mm_P (!w)) 18 = nI (dC δ) := by rw [mw_k (by omega), f3 _ _ (by omega)]; exact vc
    generalize mm_ww i1 (mm_P (!w) + 6) (pN (dP δ) 4) sv = j2 at h2 w6 w5 w25 wc
    obtain ⟨i2, l2, g1, g2, g3, g4⟩ := h2.adv (m := m) (e := e) s4
    rw [g1, mb_l, mb_0, mr_8_98, g2.k3]
    show CG X w i0 l0 m e _ (eB (sSid X true (nx X (nx X t)) δ) _)
    have hd2 := g2.tk.kd g2.xw
    have e210 : (nI (nx X (nx X t)).2.2 = 210) ↔ (nx X (nx X t)).2.2 = 210 := nI_eq (by omega) (by decide : 210 < 2 ^ 31)
    have tail : ∀ (tv : Int32), sSid X true (nx X (nx X t)) δ = .inr (nx X (nx X (nx X t)), tv) → (tv = -1 ∨ tv = 400 ∨ vW (dP δ) tv) → (nx X (nx X t)).2.2 ≠ 1 → CG X w i0 l0 m e (mm_V 8 156 [some (.ref 3), some (.int (nI (pN (dP δ) 4)))] [] (mm_Z m w (mm_ww i2 (mm_P (!w) + 7) (pN (dP δ) 4) tv) l2 e)) (eB (sSid X true (nx X (nx X t)) δ) (fun r2 => eB (sCol X r2.1) (fun r3 => eB (sCls X r3) (fun r4 => eB (sPrm X r4.2 r4.1) (fun r5 => .inr (r5.1, dRu δ t.1 (t.2.2 - 204, sv, r2.2, r4.2, nI r5.2))))))) := by
      intro tv s6 s7 s8
      rw [s6]
      have h3 : CQ X w i0 l0 (mm_ww i2 (mm_P (!w) + 7) (pN (dP δ) 4) tv) l2 (nx X (nx X t)) δ := g2.jk (by omega) (uC_ru (by omega))
      have x7 : mm_ww i2 (mm_P (!w) + 7) (pN (dP δ) 4) tv (mm_P (!w) + 7) (pN (dP δ) 4) = tv := mw_s
      have x6 : mm_ww i2 (mm_P (!w) + 7) (pN (dP δ) 4) tv (mm_P (!w) + 6) (pN (dP δ) 4) = sv := by rw [mw_k (by omega), g3 _ _ (by omega)]; exact w6
      have x5 : mm_ww i2 (mm_P (!w) + 7) (pN (dP δ) 4) tv (mm_P (!w) + 5) (pN (dP δ) 4) = nI (t.2.2 - 204) := by rw [mw_k (by omega), g3 _ _ (by omega)]; exact w5
      have x25 : mm_ww i2 (mm_P (!w) + 7) (pN (dP δ) 4) tv 25 (pN (dP δ) 4) = nI t.1 := by rw [mw_k (by omega), g3 _ _ (by omega)]; exact w25
      have xc : mm_ww i2 (mm_P (!w) + 7) (pN (dP δ) 4) tv (mm_P (!w)) 18 = nI (dC δ) := by rw [mw_k (by omega), g3 _ _ (by omega)]; exact wc
      generalize mm_ww i2 (mm_P (!w) + 7) (pN (dP δ) 4) tv = j3 at h3 x7 x6 x5 x25 xc
      obtain ⟨i3, l3, p1, p2, p3, p4⟩ := h3.adv (m := m) (e := e) s8
      obtain ⟨cv, i4, l4, q1, q2, q3⟩ := c_cls (m := m) (e := e) p2
      rw [mr_8_156, p1, mb_l, mb_0, mr_8_163, q1, mb_l, mb_v, mr_8_175, if_neg no60, if_neg no60, if_neg no60, nI_clamp (by omega), mw_s]
      show CG X w i0 l0 m e _ (eB (sCol X (nx X (nx X (nx X t)))) (fun r3 => eB (sCls X r3) (fun r4 => eB (sPrm X r4.2 r4.1) (fun r5 => .inr (r5.1, dRu δ t.1 (t.2.2 - 204, sv, tv, r4.2, nI r5.2))))))
      rw [← eB_as]
      cases hcl : eB (sCol X (nx X (nx X (nx X t)))) (fun r3 => sCls X r3) with
      | inl z =>
        rw [hcl] at q3
        rw [q3.1, if_pos rfl]
        exact CG.bad rfl (q3.2.wr (by omega))
      | inr z =>
        rw [hcl] at q3
        obtain ⟨q4, q5, q6⟩ := q3
        rw [q4, if_neg (na_m1 (by omega))]
        have h4 : CQ X w i0 l0 (mm_ww i4 (mm_P (!w) + 8) (pN (dP δ) 4) (nI z.2)) l4 z.1 δ := q6.jk (by omega) (uC_ru (by omega))
        have fr : ∀ k, k = mm_P (!w) + 5 ∨ k = mm_P (!w) + 6 ∨ k = mm_P (!w) + 7 ∨ k = 25 ∨ k = mm_P (!w) → ∀ j, mm_ww i4 (mm_P (!w) + 8) (pN (dP δ) 4) (nI z.2) k j = j3 k j := fun k hk j => by rw [mw_k (by omega), q2 _ _ (by unfold f28; omega), p3 _ _ (by omega)]
        have y8 : mm_ww i4 (mm_P (!w) + 8) (pN (dP δ) 4) (nI z.2) (mm_P (!w) + 8) (pN (dP δ) 4) = nI z.2 := mw_s
        generalize mm_ww i4 (mm_P (!w) + 8) (pN (dP δ) 4) (nI z.2) = j4 at h4 fr y8
        obtain ⟨pv, i5, l5, r1, r2⟩ := c_prm (m := m) (e := e) h4 q5
        rw [r1, mb_l, mb_v, mr_8_212, if_neg no60, if_neg no60, nI_clamp (by omega), mw_s]
        show CG X w i0 l0 m e _ (eB (sPrm X z.2 z.1) (fun r5 => .inr (r5.1, dRu δ t.1 (t.2.2 - 204, sv, tv, z.2, nI r5.2))))
        cases hpr : sPrm X z.2 z.1 with
        | inl u =>
          rw [hpr] at r2
          obtain ⟨r3, r4, -⟩ := r2
          rw [r3, if_pos rfl]
          exact CG.bad rfl ((r4.wr (by omega)).wr (by omega))
        | inr u =>
          rw [hpr] at r2
          obtain ⟨r3, r4, r5, r6, r7⟩ := r2
          have h5 : CQ X w i0 l0 (mm_ww i5 (mm_P (!w) + 9) (pN (dP δ) 4) (nI u.2)) l5 u.1 δ := r6.jk (by omega) (uC_ru (by omega))
          have fr2 : ∀ k, k = mm_P (!w) + 5 ∨ k = mm_P (!w) + 6 ∨ k = mm_P (!w) + 7 ∨ k = 25 ∨ k = mm_P (!w) → ∀ j, mm_ww i5 (mm_P (!w) + 9) (pN (dP δ) 4) (nI u.2) k j = j3 k j := fun k hk j => by rw [mw_k (by omega), r7 _ _ (by unfold f28; omega), fr k hk]
          have z8 : mm_ww i5 (mm_P (!w) + 9) (pN (dP δ) 4) (nI u.2) (mm_P (!w) + 8) (pN (dP δ) 4) = nI z.2 := by rw [mw_k (by omega), r7 _ _ (by unfold f28; omega)]; exact y8
          have z9 : mm_ww i5 (mm_P (!w) + 9) (pN (dP δ) 4) (nI u.2) (mm_P (!w) + 9) (pN (dP δ) 4) = nI u.2 := mw_s
          have z1 : mm_ww i5 (mm_P (!w) + 9) (pN (dP δ) 4) (nI u.2) (mm_P (!w) + 1) 4 = nI (pN (dP δ) 4) := h5.dc.1.1 4 (by omega)
          have z1' : i5 (mm_P (!w) + 1) 4 = nI (pN (dP δ) 4) := r6.dc.1.1 4 (by omega)
          rw [r3, if_neg (fun y => r4 ((nz_eq (by omega)).mp y)), z1', nI_1]
          refine CG.ok rfl (h5.wr (by omega) (h5.dc.ru (a := t.1) (x := (t.2.2 - 204, sv, tv, z.2, nI u.2)) ?_ ?_ ?_ ?_ z8 z9) ?_) ?_
          · rw [fr2 _ (by omega)]; exact x25
          · rw [fr2 _ (by omega)]; exact x5
          · rw [fr2 _ (by omega)]; exact x6
          · rw [fr2 _ (by omega)]; exact x7
          · exact h.dw.ru (by omega) q (by dsimp only; omega) (by dsimp only; omega) s5 s7
          · rw [mw_k (by omega), fr2 _ (by omega)]; exact xc
    by_cases q210 : (nx X (nx X t)).2.2 = 210
    · rw [if_pos (e210.mpr q210), mr_8_127, if_neg no60, g2.k3, if_pos (e210.mpr q210), nI_clamp (by omega)]
      exact tail (-1) (by unfold sSid; rw [if_neg (by omega), if_pos ⟨rfl, q210⟩]) (Or.inl rfl) (by omega)
    · rw [if_neg (fun z => q210 (e210.mp z)), g2.types, mb_l, mb_v, mr_8_127, if_neg no60, g2.k3, if_neg (fun z => q210 (e210.mp z)), if_neg no60, nI_clamp (by omega), mw_s]
      rcases sid_v (X := X) (t := nx X (nx X t)) (self := true) h.dw (fun _ => q210) with ⟨u1, u2⟩ | ⟨tv, u1, u2, u3, u4, u5⟩
      · rw [u2, if_pos rfl, u1]
        exact CG.bad rfl (g2.cf.wr (by omega))
      · rw [u2, if_neg u3]
        exact tail tv u1 (Or.inr u5) u4
end MM141
