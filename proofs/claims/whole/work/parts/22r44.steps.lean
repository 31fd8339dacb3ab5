/-! DEEDS as steps of acts -/
section MM103
theorem tk_do {τ : mT} {q : mD} (n : Nat) : tk (tDo τ q) n = if q.1 ≤ 1 ∧ n = q.2.1 then q.1 + 1 else tk τ n := by
  obtain ⟨k, a, v, c, d, e⟩ := q
  rcases k with _ | _ | _ | _ | _ | _ | _ | k
  · show tk (tAd (tMk τ a 1 v) c d a) n = _
    rw [tk_tAd, tk_tMk]
    by_cases z : n = a
    · subst z; rw [up_s, if_pos ⟨Nat.zero_le 1, rfl⟩]
    · rw [up_n z, if_neg (fun y => z y.2)]
  · show tk (tAd (tMk τ a 2 v) c d a) n = _
    rw [tk_tAd, tk_tMk]
    by_cases z : n = a
    · subst z; rw [up_s, if_pos ⟨Nat.le_refl 1, rfl⟩]
    · rw [up_n z, if_neg (fun y => z y.2)]
  · rw [if_neg (fun y => absurd (show 2 ≤ 1 from y.1) (by decide))]; rfl
  · rw [if_neg (fun y => absurd (show 3 ≤ 1 from y.1) (by decide))]; rfl
  · rw [if_neg (fun y => absurd (show 4 ≤ 1 from y.1) (by decide))]; rfl
  · rw [if_neg (fun y => absurd (show 5 ≤ 1 from y.1) (by decide))]; rfl
  · rw [if_neg (fun y => absurd (show 6 ≤ 1 from y.1) (by decide))]; rfl
  · rw [if_neg (fun y => absurd y.1 (by show ¬ k + 7 ≤ 1; omega))]; rfl
theorem L_do {π : mP} {τ : mT} {q : mD} (hI : TI τ) (ho : tOk τ q) (hd : dOk π τ q) (h6 : q.1 ≠ 6) (y : Nat) : tL τ y ≤ tL (tDo τ q) y ∧ (q.1 ≤ 1 → y = q.2.1 → tL (tDo τ q) y ≠ 0) := by
  obtain ⟨k, a, v, c, d, e⟩ := q
  rcases k with _ | _ | _ | _ | _ | _ | _ | k
  · obtain ⟨p1, p2, p3, p4, p5, p6, p7, p8, p9⟩ := ho
    obtain ⟨d1, d2, d3⟩ := hd
    have h0 : tk τ a = 2 → ts τ a = 0 := fun z => hI.2.2.1 a p1 p2 z d1
    have k2 : tk (tMk τ a 1 v) c = 2 := by rw [tk_tMk, up_n (Ne.symm p5)]; exact p4
    have e1 : tL (tAd (tMk τ a 1 v) c d a) y = tL τ y + (if y = a then 1 else 0) := by rw [L_ad p3 k2, L_mk h0]
    have e2 : tL (tDo τ (0, a, v, c, d, e)) y = tL τ y + (if y = a then 1 else 0) := e1
    rw [e2]
    refine ⟨by omega, fun _ z => ?_⟩
    rw [if_pos z]; omega
  · obtain ⟨p1, p2, p3, p4, p5, p6, p7, p8, p9⟩ := ho
    obtain ⟨d1, d2, d3⟩ := hd
    have h0 : tk τ a = 2 → ts τ a = 0 := fun z => hI.2.2.1 a p1 p2 z d1
    have k2 : tk (tMk τ a 2 v) c = 2 := by rw [tk_tMk, up_n (Ne.symm p5)]; exact p4
    have e1 : tL (tAd (tMk τ a 2 v) c d a) y = tL τ y + (if y = a then 1 else 0) := by rw [L_ad p3 k2, L_mk h0]
    have e2 : tL (tDo τ (0 + 1, a, v, c, d, e)) y = tL τ y + (if y = a then 1 else 0) := e1
    rw [e2]
    refine ⟨by omega, fun _ z => ?_⟩
    rw [if_pos z]; omega
  · have ho2 : tk τ a = 1 := ho.2
    have e1 : tL (tEm τ a) y = tL τ y := L_fs (a := a) (fun j q => by unfold tLd; simp only [tk_tEm, ts_tEm, td_tEm, up_n q]) (by omega) (by rw [tk_tEm]; omega)
    have e2 : tL (tDo τ (0 + 1 + 1, a, v, c, d, e)) y = tL τ y := e1
    rw [e2]
    exact ⟨Nat.le_refl _, fun z => absurd (show 2 ≤ 1 from z) (by decide)⟩
  · have ho2 : tk τ a = 1 := ho.2.1
    have e1 : tL (tWr τ a c v) y = tL τ y := L_fs (a := a) (fun j q => by unfold tLd; simp only [tk_tWr, ts_tWr, td_tWr, up_n q]) (by omega) (by rw [tk_tWr]; omega)
    have e2 : tL (tDo τ (0 + 1 + 1 + 1, a, v, c, d, e)) y = tL τ y := e1
    rw [e2]
    exact ⟨Nat.le_refl _, fun z => absurd (show 3 ≤ 1 from z) (by decide)⟩
  · have e1 : tL (tRl τ a v) y = tL τ y := L_cg (fun j _ => by unfold tLd; rfl)
    have e2 : tL (tDo τ (0 + 1 + 1 + 1 + 1, a, v, c, d, e)) y = tL τ y := e1
    rw [e2]
    exact ⟨Nat.le_refl _, fun z => absurd (show 4 ≤ 1 from z) (by decide)⟩
  · have e1 : tL (tAd τ a d c) y = tL τ y + (if y = c then 1 else 0) := L_ad ho.1 ho.2.1
    have e2 : tL (tDo τ (0 + 1 + 1 + 1 + 1 + 1, a, v, c, d, e)) y = tL τ y + (if y = c then 1 else 0) := e1
    rw [e2]
    exact ⟨by omega, fun z => absurd (show 5 ≤ 1 from z) (by decide)⟩
  · exact absurd rfl h6
  · obtain ⟨p1, p2, p3, p4, p5, p6, p7, p8⟩ := ho
    have e1 : tL (tAd (tRm τ a (tE τ a d)) c e (td τ a (tE τ a d))) y = tL (tRm τ a (tE τ a d)) y + (if y = td τ a (tE τ a d) then 1 else 0) := L_ad p6 p7
    have e3 := L_rm (y := y) p1 p2 p5
    have e2 : tL (tDo τ (k + 7, a, v, c, d, e)) y = tL (tRm τ a (tE τ a d)) y + (if y = td τ a (tE τ a d) then 1 else 0) := e1
    rw [e2]
    refine ⟨?_, fun z => absurd z (by show ¬ k + 7 ≤ 1; omega)⟩
    by_cases z : y = td τ a (tE τ a d)
    · rw [if_pos z]; rw [if_pos z.symm] at e3; omega
    · rw [if_neg z]; rw [if_neg (Ne.symm z)] at e3; omega
variable {w : Bool} {l : Nat → Nat → Int64} {e : Bool × Nat × Nat} {π : mP} {m : Nat} {ψ : mS} {b B p n : Nat} {i0 i i' : Nat → Nat → Int32} {s a x y : Int32} {r : Int32 × mS}
theorem iv_yn {q : mD} (hI : IV π b ψ) (ho : tOk (yT ψ) q) (hd : dOk π (yT ψ) q) (hf : q.1 ≤ 1 → tk (yT ψ) q.2.1 = 0) (h6 : q.1 ≠ 6) : IV π b (yn ψ q) := by
  refine ⟨ti_do hI.ti ho hd, tv_do hI.tv ho hd, ⟨fun n h1 h2 h3 h4 => ?_, fun o g1 g2 g3 => ?_⟩, hI.hw, hI.hv, hI.jv.note hI.ti hI.tv ho hd, hI.kv, ⟨hI.pw, hI.po⟩, fun o g1 g2 g3 g4 => ?_⟩
  · have h3 : tk (tDo (yT ψ) q) n ≠ 0 := h3
    have h4 : tL (tDo (yT ψ) q) n = 0 := h4
    obtain ⟨l1, l2⟩ := L_do hI.ti ho hd h6 n
    rw [tk_do] at h3
    by_cases z : q.1 ≤ 1 ∧ n = q.2.1
    · exact absurd h4 (l2 z.1 z.2)
    · rw [if_neg z] at h3
      exact hI.th.1 n h1 h2 h3 (by omega)
  · show tk (tDo (yT ψ) q) _ ≠ 0
    rw [tk_do]
    split
    · omega
    · exact hI.th.2 o g1 g2 g3
  · have g4 : tk (tDo (yT ψ) q) (hO (yH ψ) o).2.1 = 2 := g4
    rw [tk_do] at g4
    by_cases z : q.1 ≤ 1 ∧ (hO (yH ψ) o).2.1 = q.2.1
    · have := hI.th.2 o g1 g2 g3
      rw [z.2] at this
      exact absurd (hf z.1) this
    · rw [if_neg z] at g4
      exact hI.hm o g1 g2 g3 g4
/-- a deed in the class -/
theorem CS.nt {q : mD} (h : CS w π i ψ) (hI : IV π b ψ) (ho : tOk (yT ψ) q) : ∃ i', mm_V 83 0 [some (.ref 56), some (.int (mDc q 0)), some (.int (mDc q 1)), some (.int (mDc q 2)), some (.int (mDc q 3)), some (.int (mDc q 4)), none] [] (mm_Z m w i l e) = some (.inl none, mm_Z m w i' l e) ∧ CS w π i' (yn ψ q) ∧ mG (fun k j => (57 ≤ k ∧ k ≤ 67) ∨ (k = 56 ∧ j = 3)) i i' := by
  obtain ⟨h1, h2, h3, h4, h5, h6, h7⟩ := h
  obtain ⟨i1, e1, e2, e3, e4⟩ := jc_note (m := m) (w := w) (l := l) (e := e) h1 h2 hI.tw h3 hI.jv.2.2.1 ho
  have hh : HC i1 (yH ψ) := h4.kp (fun k j a1 a2 => e4 k j (by omega))
  have hg : GC i1 (yK ψ) := h5.kp (fun j a1 => e4 30 j (by omega)) (fun k j a1 a2 => e4 k j (by omega))
  have hp : PC w i1 π := h6.kp (fun k j a1 a2 => by have := pc_far w a1 a2; exact e4 k j (by omega))
  have h30 : i1 30 1 = 1 := by rw [e4 30 1 (by omega)]; exact h7
  refine ⟨i1, e1, ?_, e4⟩
  by_cases z : (yQ ψ).length + 1 < 200
  · rw [if_pos z] at e3
    have a1 : yS (yn ψ q) = yS ψ := if_pos z
    have a2 : yQ (yn ψ q) = yQ ψ ++ [q] := if_pos z
    exact ⟨e2, by rw [a1]; exact e3.1, by rw [a2]; exact e3.2, hh, hg, hp, h30⟩
  · rw [if_neg z] at e3
    have a1 : yS (yn ψ q) = tDo (yT ψ) q := if_neg z
    have a2 : yQ (yn ψ q) = [] := if_neg z
    exact ⟨e2, by rw [a1]; exact e3.1, by rw [a2]; exact e3.2, hh, hg, hp, h30⟩
theorem RS.nt {q : mD} (h : RS π i ψ) (hI : IV π b ψ) (ho : tOk (yT ψ) q) : ∃ i', mm_V 277 0 [some (.ref 83), some (.int (mDr q 0)), some (.int (mDr q 1)), some (.int (mDr q 2)), some (.int (mDr q 3)), some (.int (mDr q 4))] [] (mm_Z m w i l e) = some (.inl none, mm_Z m w i' l e) ∧ RS π i' (yn ψ q) ∧ mG (fun k j => (113 ≤ k ∧ k ≤ 120) ∨ (k = 83 ∧ j = 57)) i i' := by
  obtain ⟨h1, h2, h3, h4, h5, h6, h7⟩ := h
  obtain ⟨i1, e1, e2, e3, e4⟩ := jr_act (m := m) (w := w) (l := l) (e := e) h1 h2 hI.tw hI.tn h3 hI.jv.2.2.1 ho
  have hh : HR i1 (yH ψ) := h4.kp (fun k j a1 a2 => e4 k j (by omega))
  have hg : GR i1 (yK ψ) := h5.kp (fun j a1 => e4 83 j (by omega)) (fun k j a1 a2 => e4 k j (by omega))
  have hp : PR i1 π := h6.kp (fun j a1 => e4 83 j (by omega)) (fun k j a1 a2 => e4 k j (by omega))
  have h30 : i1 83 5 = 1 := by rw [e4 83 5 (by omega)]; exact h7
  refine ⟨i1, e1, ?_, e4⟩
  by_cases z : (yQ ψ).length + 1 < 200
  · rw [if_pos z] at e3
    have a1 : yS (yn ψ q) = yS ψ := if_pos z
    have a2 : yQ (yn ψ q) = yQ ψ ++ [q] := if_pos z
    exact ⟨e2, by rw [a1]; exact e3.1, by rw [a2]; exact e3.2, hh, hg, hp, h30⟩
  · rw [if_neg z] at e3
    have a1 : yS (yn ψ q) = tDo (yT ψ) q := if_neg z
    have a2 : yQ (yn ψ q) = [] := if_neg z
    exact ⟨e2, by rw [a1]; exact e3.1, by rw [a2]; exact e3.2, hh, hg, hp, h30⟩
theorem CD.nt {q : mD} (h : CD w π i0 b i ψ x y) (ho : tOk (yT ψ) q) (hd : dOk π (yT ψ) q) (hf : q.1 ≤ 1 → tk (yT ψ) q.2.1 = 0) (h6 : q.1 ≠ 6) : ∃ i', mm_V 83 0 [some (.ref 56), some (.int (mDc q 0)), some (.int (mDc q 1)), some (.int (mDc q 2)), some (.int (mDc q 3)), some (.int (mDc q 4)), none] [] (mm_Z m w i l e) = some (.inl none, mm_Z m w i' l e) ∧ CD w π i0 b i' (yn ψ q) x y := by
  obtain ⟨i1, e1, e2, e3⟩ := CS.nt (m := m) (l := l) (e := e) h.1 h.2.1 ho
  exact ⟨i1, e1, e2, iv_yn h.2.1 ho hd hf h6, h.2.2.1.tr (e3.mo (fun k j z => by unfold fC; omega)), by rw [e3 80 4 (by omega)]; exact h.2.2.2.1, by rw [e3 80 5 (by omega)]; exact h.2.2.2.2⟩
theorem RD.nt {q : mD} (h : RD π i0 b i ψ s a x) (ho : tOk (yT ψ) q) (hd : dOk π (yT ψ) q) (hf : q.1 ≤ 1 → tk (yT ψ) q.2.1 = 0) (h6 : q.1 ≠ 6) : ∃ i', mm_V 277 0 [some (.ref 83), some (.int (mDr q 0)), some (.int (mDr q 1)), some (.int (mDr q 2)), some (.int (mDr q 3)), some (.int (mDr q 4))] [] (mm_Z m w i l e) = some (.inl none, mm_Z m w i' l e) ∧ RD π i0 b i' (yn ψ q) s a x := by
  obtain ⟨i1, e1, e2, e3⟩ := RS.nt (m := m) (w := w) (l := l) (e := e) h.1 h.2.1 ho
  exact ⟨i1, e1, e2, iv_yn h.2.1 ho hd hf h6, h.2.2.1.tr (e3.mo (fun k j z => by unfold fR; omega)), by rw [e3 83 81 (by omega)]; exact h.hs, by rw [e3 83 82 (by omega)]; exact h.ha, by rw [e3 83 83 (by omega)]; exact h.hx⟩
end MM103
