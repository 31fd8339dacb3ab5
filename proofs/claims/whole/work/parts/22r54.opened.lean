/-! OPENINGS as steps of acts -/
section MM113
variable {w : Bool} {l : Nat → Nat → Int64} {e : Bool × Nat × Nat} {π : mP} {m : Nat} {ψ : mS} {b B p n : Nat} {i0 i i' : Nat → Nat → Int32} {s a x y : Int32} {r : Int32 × mS} {L M : List Nat} {η : mH}
theorem CS.hd {η' : mH} (h : CS w π i ψ) (H : HC i' η') (f : ∀ k j, k < 69 ∨ 79 < k → i' k j = i k j) : CS w π i' (yh ψ η') := by
  obtain ⟨h1, h2, h3, h4, h5, h6, h7⟩ := h
  exact ⟨h1.kp (fun k z a1 a2 => f k z (by simp only [mm_Tr, cond_true] at a1 a2; omega)), h2.kp (fun k z a1 a2 => f k z (by simp only [mm_Tr, cond_false] at a1 a2; omega)), h3.kp (f _ _ (by omega)) (fun z => f _ _ (by omega)), H, h5.kp (fun z a1 => f _ _ (by omega)) (fun k z a1 a2 => f k z (by omega)), h6.kp (fun k z a1 a2 => by have := pc_far w a1 a2; exact f k z (by omega)), by rw [f _ _ (by omega)]; exact h7⟩
theorem RS.hd {η' : mH} (h : RS π i ψ) (H : HR i' η') (f : ∀ k j, k < 121 ∨ 129 < k → i' k j = i k j) : RS π i' (yh ψ η') := by
  obtain ⟨h1, h2, h3, h4, h5, h6, h7⟩ := h
  exact ⟨h1.kp (fun k z a1 a2 => f k z (by omega)), h2.kp (fun z => f _ _ (by omega)), h3.kp (f _ _ (by omega)) (fun z => f _ _ (by omega)), H, h5.kp (fun z a1 => f _ _ (by omega)) (fun k z a1 a2 => f k z (by omega)), h6.kp (fun z a1 => f _ _ (by omega)) (fun k z a1 a2 => f k z (by omega)), by rw [f _ _ (by omega)]; exact h7⟩
theorem CD.hd {η' : mH} (h : CD w π i0 b i ψ x y) (H : HC i' η') (f : ∀ k j, k < 69 ∨ 79 < k → i' k j = i k j) (hI : IV π b (yh ψ η')) : CD w π i0 b i' (yh ψ η') x y :=
  ⟨h.1.hd H f, hI, h.2.2.1.tr (fun k j z => f k j (by unfold fC at z; omega)), by rw [f _ _ (by omega)]; exact h.2.2.2.1, by rw [f _ _ (by omega)]; exact h.2.2.2.2⟩
theorem RD.hd {η' : mH} (h : RD π i0 b i ψ s a x) (H : HR i' η') (f : ∀ k j, k < 121 ∨ 129 < k → i' k j = i k j) (hI : IV π b (yh ψ η')) : RD π i0 b i' (yh ψ η') s a x :=
  ⟨h.1.hd H f, hI, h.2.2.1.tr (fun k j z => f k j (by unfold fR at z; omega)), by rw [f _ _ (by omega)]; exact h.hs, by rw [f _ _ (by omega)]; exact h.ha, by rw [f _ _ (by omega)]; exact h.hx⟩
theorem op_ct {v : Bool × Nat × Nat × Nat × Nat} (hp : p < 8) (hh : hFh η p < 6) (y : Nat) : hCt (hOp η p v) y = hCt η y + (if y = hFo η then 1 else 0) := by
  have h0 : hH (hSo η (hFo η) v) (6 * p + hFh η p) = 0 := hFh_0 hh
  have e1 := hTl_ct (o := hFo η) (y := y) (show 6 * p + hFh η p < 48 by omega) h0
  exact e1
theorem up_if {α : Type} {f : Nat → α} {k y : Nat} {v : α} : va_up f k v y = if y = k then v else f y := by
  by_cases z : y = k
  · subst z; rw [up_s, if_pos rfl]
  · rw [up_n z, if_neg z]
theorem op_o {v : Bool × Nat × Nat × Nat × Nat} (y : Nat) : hO (hOp η p v) y = if y = hFo η then v else hO η y := up_if (f := hO η)
theorem op_old {v : Bool × Nat × Nat × Nat × Nat} (hp : p < 8) (hh : hFh η p < 6) (ho : hFo η < 16) {y : Nat} (hy : hCt η y ≠ 0) : hCt (hOp η p v) y ≠ 0 ∧ hO (hOp η p v) y = hO η y := by
  have h0 := hFo_0 ho
  have hn : y ≠ hFo η := fun z => by rw [z] at hy; exact hy h0
  rw [op_ct hp hh, op_o, if_neg hn, if_neg hn]
  exact ⟨by omega, rfl⟩
theorem op_cs {v : Bool × Nat × Nat × Nat × Nat} (hp : p < 8) (hh : hFh η p < 6) {y : Nat} (hy : hCt (hOp η p v) y ≠ 0) : (y = hFo η ∧ hO (hOp η p v) y = v) ∨ (hCt η y ≠ 0 ∧ hO (hOp η p v) y = hO η y) := by
  rw [op_ct hp hh] at hy
  rw [op_o]
  by_cases z : y = hFo η
  · exact Or.inl ⟨z, if_pos z⟩
  · rw [if_neg z] at hy ⊢
    exact Or.inr ⟨by omega, rfl⟩
theorem HWw_op {v : Bool × Nat × Nat × Nat × Nat} (hw : HWw η) (hp : p < 8) (hP0 : hP η p ≠ 0) (hh : hFh η p < 6) (ho : hFo η < 16) (h1 : v.1 = true → v.2.1 < 4 ∧ hC η v.2.1 ≠ 0 ∧ (v.2.2.1 = 1 ∨ v.2.2.1 = 2)) (h2 : v.1 = false → v.2.1 < 32) (h3 : v.2.2.1 ≤ 7) (h4 : v.2.2.2.1 ≤ 24) (h5 : v.2.2.2.2 < 2 ^ 30) : HWw (hOp η p v) := by
  have hHv : ∀ k, hH (hOp η p v) k = va_up (hH η) (6 * p + hFh η p) (hFo η + 1) k := fun k => rfl
  refine ⟨fun q hq => ⟨(hw.1 q hq).1, fun z h hh6 => ?_⟩, fun k hk => ?_, fun o ho16 hc => ?_, hw.2.2.2⟩
  · have z : hP η q = 0 := z
    have hne : q ≠ p := fun y => hP0 (by rw [← y]; exact z)
    rw [hHv, up_n (by omega)]
    exact (hw.1 q hq).2 z h hh6
  · rw [hHv]
    by_cases z : k = 6 * p + hFh η p
    · rw [z, up_s]; omega
    · rw [up_n z]; exact hw.2.1 k hk
  · rcases op_cs hp hh hc with ⟨z1, z2⟩ | ⟨z1, z2⟩
    · rw [z2]; exact ⟨h1, h2, h3, h4, h5⟩
    · rw [z2]; exact hw.2.2.1 o ho16 z1
theorem HW.of (hw : HWw η) (h : ∀ k, k < 4 → hC η k ≠ 0 → ∃ o, o < 16 ∧ hCt η o ≠ 0 ∧ (hO η o).1 = true ∧ (hO η o).2.1 = k) : HW η := ⟨hw.1, hw.2.1, hw.2.2.1, fun k hk => ⟨(hw.2.2.2 k hk).1, (hw.2.2.2 k hk).2, h k hk⟩⟩
theorem iv_op (hI : IV π b ψ) (hp : p < 8) (hP0 : hP (yH ψ) p ≠ 0) (hh : hFh (yH ψ) p < 6) (ho : hFo (yH ψ) < 16) (hn : n < 32) (hk : tk (yT ψ) n ≠ 0) {md : Nat} (hm : md ≤ 7) (hd : tk (yT ψ) n = 2 → md = 1) : IV π b (yh ψ (hOp (yH ψ) p (false, n, md, 0, hP (yH ψ) p - 1))) := by
  have hw := hI.hw
  have hw1 : HWw (hOp (yH ψ) p (false, n, md, 0, hP (yH ψ) p - 1)) := HWw_op hw.weak hp hP0 hh ho (fun z => absurd (show false = true from z) (by decide)) (fun _ => hn) hm (Nat.zero_le 24) (by show hP (yH ψ) p - 1 < 2 ^ 30; have := (hw.1 p hp).1; omega)
  have hw2 : HW (hOp (yH ψ) p (false, n, md, 0, hP (yH ψ) p - 1)) := HW.of hw1 (fun k hk4 hc => by
    obtain ⟨o, o1, o2, o3, o4⟩ := (hw.2.2.2 k hk4).2.2 hc
    obtain ⟨y1, y2⟩ := op_old (v := (false, n, md, 0, hP (yH ψ) p - 1)) hp hh ho o2
    exact ⟨o, o1, y1, by rw [y2]; exact o3, by rw [y2]; exact o4⟩)
  refine ⟨hI.ti, hI.tv, ⟨fun n' g1 g2 g3 g4 => ?_, fun o g1 g2 g3 => ?_⟩, hw2, ⟨hI.hv.1, fun o g1 g2 => ?_, hI.hv.2.2⟩, hI.jv, hI.kv, ⟨hI.pw, hI.po⟩, fun o g1 g2 g3 g4 => ?_⟩
  · have := hI.th.1 n' g1 g2 g3 g4
    rw [he_iff] at this
    obtain ⟨o, o1, o2, o3, o4⟩ := this
    obtain ⟨y1, y2⟩ := op_old (v := (false, n, md, 0, hP (yH ψ) p - 1)) hp hh ho o2
    exact (he_iff (hOp (yH ψ) p (false, n, md, 0, hP (yH ψ) p - 1)) n').mpr ⟨o, o1, y1, by rw [y2]; exact o3, by rw [y2]; exact o4⟩
  · have g2 : hCt (hOp (yH ψ) p (false, n, md, 0, hP (yH ψ) p - 1)) o ≠ 0 := g2
    have g3 : (hO (hOp (yH ψ) p (false, n, md, 0, hP (yH ψ) p - 1)) o).1 = false := g3
    show tk (yT ψ) (hO (hOp (yH ψ) p (false, n, md, 0, hP (yH ψ) p - 1)) o).2.1 ≠ 0
    rcases op_cs hp hh g2 with ⟨z1, z2⟩ | ⟨z1, z2⟩
    · rw [z2]; exact hk
    · rw [z2] at g3 ⊢; exact hI.th.2 o g1 z1 g3
  · have g2 : hCt (hOp (yH ψ) p (false, n, md, 0, hP (yH ψ) p - 1)) o ≠ 0 := g2
    show pVal π (nI (hO (hOp (yH ψ) p (false, n, md, 0, hP (yH ψ) p - 1)) o).2.2.2.2) = true
    rcases op_cs hp hh g2 with ⟨z1, z2⟩ | ⟨z1, z2⟩
    · rw [z2]; exact hI.hv.1 p hp hP0
    · rw [z2]; exact hI.hv.2.1 o g1 z1
  · have g2 : hCt (hOp (yH ψ) p (false, n, md, 0, hP (yH ψ) p - 1)) o ≠ 0 := g2
    have g3 : (hO (hOp (yH ψ) p (false, n, md, 0, hP (yH ψ) p - 1)) o).1 = false := g3
    have g4 : tk (yT ψ) (hO (hOp (yH ψ) p (false, n, md, 0, hP (yH ψ) p - 1)) o).2.1 = 2 := g4
    show (hO (hOp (yH ψ) p (false, n, md, 0, hP (yH ψ) p - 1)) o).2.2.1 = 1
    rcases op_cs hp hh g2 with ⟨z1, z2⟩ | ⟨z1, z2⟩
    · rw [z2] at g4 ⊢; exact hd g4
    · rw [z2] at g3 g4 ⊢; exact hI.hm o g1 z1 g3 g4
def yo (ψ : mS) (p n md : Nat) : mS := yh ψ (hOp (yH ψ) p (false, n, md, 0, hP (yH ψ) p - 1))
theorem CD.op (h : CD w π i0 b i ψ x y) (hp : p < 8) (hP0 : hP (yH ψ) p ≠ 0) (hh : hFh (yH ψ) p < 6) (ho : hFo (yH ψ) < 16) (hn : n < 32) (hk : tk (yT ψ) n ≠ 0) {md : Nat} {x4 : Int32} (h4 : x4 &&& 7 = nI md) (hm : md ≤ 7) (hd : tk (yT ψ) n = 2 → md = 1) : ∃ i', mm_V 69 0 [some (.ref 68), some (.int (nI p)), some (.int (nI n)), some (.int (-1)), some (.int x4), none] [] (mm_Z m w i l e) = some (.inl (some (.int (nI (hFh (yH ψ) p)))), mm_Z m w i' l e) ∧ CD w π i0 b i' (yo ψ p n md) x y := by
  obtain ⟨i1, e1, e2, e3⟩ := hc_open (m := m) (w := w) (l := l) (e := e) h.1.2.2.2.1 h.iv.hw hp hP0 (b := false) (n := n) h4 hh ho
  exact ⟨i1, e1, h.hd e2 (fun k j z => by rw [e3 k (by omega)]) (iv_op h.iv hp hP0 hh ho hn hk hm hd)⟩
theorem RD.op (h : RD π i0 b i ψ s a x) (hp : p < 8) (hP0 : hP (yH ψ) p ≠ 0) (hh : hFh (yH ψ) p < 6) (ho : hFo (yH ψ) < 16) (hn : n < 32) (hk : tk (yT ψ) n ≠ 0) {md : Nat} (hm : md ≤ 7) (hd : tk (yT ψ) n = 2 → md = 1) : ∃ i', mm_V 301 0 [some (.ref 83), some (.int (nI p)), some (.int (nI n)), some (.int (nI md)), none, none] [] (mm_Z m w i l e) = some (.inl (some (.int (nI (hFh (yH ψ) p)))), mm_Z m w i' l e) ∧ RD π i0 b i' (yo ψ p n md) s a x := by
  obtain ⟨i1, e1, e2, e3⟩ := hr_openNode (m := m) (w := w) (l := l) (e := e) h.1.2.2.2.1 h.iv.hw hp hP0 (b := false) (n := n) (md := md) hh ho
  exact ⟨i1, e1, h.hd e2 (fun k j z => by rw [e3 k (by omega)]) (iv_op h.iv hp hP0 hh ho hn hk hm hd)⟩
end MM113
