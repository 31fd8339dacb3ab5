/-! A NAME IS TAKEN AWAY: the deed and the sweep; rmdir, unlink -/
section MM106
theorem cl_id {η : mH} (hw : HW η) : hCl η = η := by
  have h : (fun k => if k < 4 ∧ hLv η k = false then 0 else hC η k) = hC η := by
    funext k
    by_cases q : k < 4 ∧ hLv η k = false
    · rw [if_pos q]
      by_cases z : hC η k = 0
      · exact z.symm
      · have := (lv_iff η k).mpr ((hw.2.2.2 k q.1).2.2 z)
        rw [q.2] at this
        exact absurd this (by decide)
    · rw [if_neg q]
  unfold hCl
  rw [h]
  rfl
theorem go_one {τ : mT} {held : Nat → Bool} {n : Nat} (h1 : 1 ≤ n) (h2 : n < 32) (hk : tk τ n ≠ 0) (h : ∀ j, 1 ≤ j → j < 32 → j ≠ n → tk τ j ≠ 0 → tL τ j = 0 → held j = true) : (if n ≠ 0 ∧ tL τ n = 0 ∧ held n = false then tDr τ n else τ) = tGo held τ := by
  have e : (fun j => if 1 ≤ j ∧ j < 32 ∧ tk τ j ≠ 0 ∧ tL τ j = 0 ∧ held j = false then 0 else tk τ j) = if n ≠ 0 ∧ tL τ n = 0 ∧ held n = false then va_up (tk τ) n 0 else tk τ := by
    funext j
    by_cases z : j = n
    · subst z
      by_cases q : tL τ j = 0 ∧ held j = false
      · rw [if_pos ⟨h1, h2, hk, q⟩, if_pos ⟨by omega, q⟩, up_s]
      · rw [if_neg (fun y => q y.2.2.2), if_neg (fun y => q y.2)]
    · have q : ¬ (1 ≤ j ∧ j < 32 ∧ tk τ j ≠ 0 ∧ tL τ j = 0 ∧ held j = false) := fun y => by
        have := h j y.1 y.2.1 z y.2.2.1 y.2.2.2.1
        rw [y.2.2.2.2] at this
        exact absurd this (by decide)
      rw [if_neg q]
      split
      · rw [up_n z]
      · rfl
  unfold tGo
  rw [e]
  split <;> rfl
def yu (ψ : mS) (q : mD) : mS := yg (yn ψ q) (tGo (hHe (yH ψ)) (tDo (yT ψ) q)) (yH ψ)
variable {w : Bool} {l : Nat → Nat → Int64} {e : Bool × Nat × Nat} {π : mP} {m : Nat} {ψ : mS} {b B p n : Nat} {i0 i i' : Nat → Nat → Int32} {s a x y : Int32} {r : Int32 × mS} {L : List Nat}
theorem iv_yu {q : mD} (hI : IV π b ψ) (ho : tOk (yT ψ) q) (hd : dOk π (yT ψ) q) (h2 : 2 ≤ q.1) : IV π b (yu ψ q) := by
  have T := ti_do hI.ti ho hd
  have ek : ∀ n, tk (tDo (yT ψ) q) n = tk (yT ψ) n := fun n => by rw [tk_do, if_neg (fun z => by omega)]
  have T0 : tk (tDo (yT ψ) q) 0 = 2 := by rw [ek]; exact hI.ti.2.2.2.2.2
  have th := TH_go (η := yH ψ) T.2.2.1 T.1 (by omega) hI.hw.weak (by omega) (fun o g1 g2 g3 => by rw [ek]; exact hI.th.2 o g1 g2 g3)
  rw [cl_id hI.hw] at th
  refine ⟨ti_go T, tv_go (tv_do hI.tv ho hd), th, hI.hw, hI.hv, (hI.jv.note hI.ti hI.tv ho hd).go T, hI.kv, ⟨hI.pw, hI.po⟩, fun o g1 g2 g3 g4 => ?_⟩
  have g4 : tk (tGo (hHe (yH ψ)) (tDo (yT ψ) q)) (hO (yH ψ) o).2.1 = 2 := g4
  have g5 : tk (tDo (yT ψ) q) (hO (yH ψ) o).2.1 = 2 := by
    unfold tGo at g4
    have g4 : (if 1 ≤ (hO (yH ψ) o).2.1 ∧ (hO (yH ψ) o).2.1 < 32 ∧ tk (tDo (yT ψ) q) (hO (yH ψ) o).2.1 ≠ 0 ∧ tL (tDo (yT ψ) q) (hO (yH ψ) o).2.1 = 0 ∧ hHe (yH ψ) (hO (yH ψ) o).2.1 = false then 0 else tk (tDo (yT ψ) q) (hO (yH ψ) o).2.1) = 2 := g4
    split at g4
    · omega
    · exact g4
  rw [ek] at g5
  exact hI.hm o g1 g2 g3 g5
theorem CD.rmv {d z : Nat} (h : CD w π i0 b i ψ (nI z) y) (ho : tOk (yT ψ) (6, d, 0, 0, z, 0)) (hd : dOk π (yT ψ) (6, d, 0, 0, z, 0)) : ∃ i', mm_V 100 0 [some (.ref 80), some (.int (nI d)), some (.int (nI (td (yT ψ) d (tE (yT ψ) d z))))] [] (mm_Z m w i l e) = some (.inl (some (.int 0)), mm_Z m w i' l e) ∧ CD w π i0 b i' (yu ψ (6, d, 0, 0, z, 0)) (nI z) y := by
  obtain ⟨i1, e1, e2, e3⟩ := CS.nt (m := m) (l := l) (e := e) h.1 h.2.1 ho
  have e1 : mm_V 83 0 [some (.ref 56), some (.int 6), some (.int (nI d)), some (.int (nI z)), some (.int 0), some (.int 0), none] [] (mm_Z m w i l e) = some (.inl none, mm_Z m w i1 l e) := e1
  have T := ti_do h.iv.ti ho hd
  obtain ⟨p1, p2, p3, p4, p5⟩ := ho
  have hn := ((h.iv.tw d p1).2.2 p2).2 _ p5
  have hkn : tk (yT ψ) (td (yT ψ) d (tE (yT ψ) d z)) ≠ 0 := h.iv.ti.2.2.2.2.1 d p1 p2 _ p5
  obtain ⟨t1, t2, t3, t4, t5, t6, t7⟩ := e2
  have t1 : TC true i1 (tDo (yT ψ) (6, d, 0, 0, z, 0)) := t1
  obtain ⟨i2, d1, d2, d3⟩ := hc_drop (m := m) (w := w) (l := l) (e := e) (η := yH ψ) t4.2.2.1 h.iv.hw.b3 t1 T.1 hn.2.2.2
  have ek : ∀ n, tk (tDo (yT ψ) (6, d, 0, 0, z, 0)) n = tk (yT ψ) n := fun n => by rw [tk_do, if_neg (fun z => absurd (show 6 ≤ 1 from z.1) (by decide))]
  rw [go_one hn.2.2.1 hn.2.2.2 (by rw [ek]; exact hkn) (fun j j1 j2 j3 j4 j5 => by
    rw [ek] at j4
    refine h.iv.th.1 j j1 j2 j4 ?_
    have e4 := L_rm (τ := yT ψ) (y := j) p1 p2 p5
    have e5 : tL (tRm (yT ψ) d (tE (yT ψ) d z)) j = 0 := j5
    rw [if_neg (Ne.symm j3)] at e4
    omega)] at d2
  refine ⟨i2, by rw [mr_100_0, h.2.2.2.1, e1, mb_l, mb_0, mr_100_16, d1, mb_l, mb_0, mr_100_24], ⟨d2, t2.kp (fun k j a1 a2 => by rw [d3 k (by simp only [mm_Tr, cond_false] at a1 a2; omega)]), t3.kp (by rw [d3 _ (by omega)]) (fun j => by rw [d3 _ (by omega)]), t4.kp (fun k j a1 a2 => by rw [d3 k (by omega)]), t5.kp (fun j a1 => by rw [d3 _ (by omega)]) (fun k j a1 a2 => by rw [d3 k (by omega)]), t6.kp (fun k j a1 a2 => by have := pc_far w a1 a2; rw [d3 k (by omega)]), by rw [d3 _ (by omega)]; exact t7⟩, iv_yu h.iv ⟨p1, p2, p3, p4, p5⟩ hd (show 2 ≤ 6 by decide), (h.2.2.1.tr (e3.mo (fun k j z => by unfold fC; omega))).tr (fun k j z => by rw [d3 k (by unfold fC at z; omega)]), by rw [d3 _ (by omega), e3 80 4 (by omega)]; exact h.2.2.2.1, by rw [d3 _ (by omega), e3 80 5 (by omega)]; exact h.2.2.2.2⟩
theorem tka_no (h : RD π i0 b i ψ s a x) (hs : s < 0) : mm_V 295 0 [some (.ref 83)] [] (mm_Z m w i l e) = some (.inl (some (.int s)), mm_Z m w i l e) := by
  rw [mr_295_0, h.bd hs, mb_l, mb_v, mr_295_4, if_bf, mr_295_27, h.hs]
theorem RD.tka {d z : Nat} (h : RD π i0 b i ψ 0 (nI d) (nI z)) (ho : tOk (yT ψ) (6, d, 0, 0, z, 0)) (hd : dOk π (yT ψ) (6, d, 0, 0, z, 0)) : ∃ i', mm_V 295 0 [some (.ref 83)] [] (mm_Z m w i l e) = some (.inl (some (.int 0)), mm_Z m w i' l e) ∧ RD π i0 b i' (yu ψ (6, d, 0, 0, z, 0)) 0 (nI d) (nI z) := by
  obtain ⟨i1, e1, e2, e3⟩ := RS.nt (m := m) (w := w) (l := l) (e := e) h.1 h.2.1 ho
  have e1 : mm_V 277 0 [some (.ref 83), some (.int 6), some (.int (nI d)), some (.int (nI z)), some (.int 0), some (.int 0)] [] (mm_Z m w i l e) = some (.inl none, mm_Z m w i1 l e) := e1
  have T := ti_do h.iv.ti ho hd
  obtain ⟨t1, t2, t3, t4, t5, t6, t7⟩ := e2
  have t1 : TR i1 (tDo (yT ψ) (6, d, 0, 0, z, 0)) := t1
  have t4 : HR i1 (yH ψ) := t4
  obtain ⟨i2, d1, d2, d3⟩ := tr_sweep (m := m) (w := w) (l := l) (e := e) (held := hHe (yH ψ)) (fun n hn => hr_held t4 h.iv.hw hn) t1 T.1
  rw [swp_eq T.2.2.1] at d2
  have f : ∀ j, i2 83 j = i1 83 j := fun j => by rw [d3 _ (by omega)]
  have g : ∀ j, 81 ≤ j → j ≤ 83 → i2 83 j = i 83 j := fun j a1 a2 => by rw [f, e3 83 j (by omega)]
  refine ⟨i2, by rw [mr_295_0, h.gd, mb_l, mb_v, mr_295_4, if_bt, h.ha, h.hx, e1, mb_l, mb_0, mr_295_23, d1, mb_l, mb_0, mr_295_27, g _ (by omega) (by omega), h.hs], ⟨d2, t2.kp (fun j => by rw [d3 _ (by omega)]), t3.kp (by rw [d3 _ (by omega)]) (fun j => by rw [d3 _ (by omega)]), t4.kp (fun k j a1 a2 => by rw [d3 k (by omega)]), t5.kp (fun j a1 => by rw [d3 _ (by omega)]) (fun k j a1 a2 => by rw [d3 k (by omega)]), t6.kp (fun j a1 => by rw [d3 _ (by omega)]) (fun k j a1 a2 => by rw [d3 k (by omega)]), by rw [d3 _ (by omega)]; exact t7⟩, iv_yu h.iv ho hd (show 2 ≤ 6 by decide), (h.2.2.1.tr (e3.mo (fun k j z => by unfold fR; omega))).tr (fun k j z => by rw [d3 k (by unfold fR at z; omega)]), by rw [g _ (by omega) (by omega)]; exact h.hs, by rw [g _ (by omega) (by omega)]; exact h.ha, by rw [g _ (by omega) (by omega)]; exact h.hx⟩
end MM106
