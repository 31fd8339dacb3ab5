/-! CLOSE, DUP, SEEK; a process ends -/
section MM117
variable {w : Bool} {l : Nat → Nat → Int64} {e : Bool × Nat × Nat} {π : mP} {m : Nat} {ψ : mS} {b B p n h o : Nat} {i0 i i' : Nat → Nat → Int32} {s a x y : Int32} {r : Int32 × mS} {η : mH}
theorem hc_f (H : HC i η) (ho : o < 16) (hc : hCt η o ≠ 0) (hf : (hO η o).1 = false) : i 72 (nI o).toNatClampNeg = nI (hO η o).2.1 := by
  rw [nI_clamp (by omega), ((H.2.2.1 _ ho).2 hc).1, hf, if_neg (by decide)]
theorem hc_t (H : HC i η) (ho : o < 16) (hc : hCt η o ≠ 0) (hf : (hO η o).1 = true) : i 72 (nI o).toNatClampNeg = -1 ∧ i 73 (nI o).toNatClampNeg = nI (hO η o).2.1 := by
  rw [nI_clamp (by omega), ((H.2.2.1 _ ho).2 hc).1, ((H.2.2.1 _ ho).2 hc).2.1, hf, if_pos rfl, if_pos rfl]
  exact ⟨rfl, rfl⟩
theorem hc_m (H : HC i η) (ho : o < 16) (hc : hCt η o ≠ 0) : i 74 (nI o).toNatClampNeg = nI (hO η o).2.2.1 := by
  rw [nI_clamp (by omega), ((H.2.2.1 _ ho).2 hc).2.2.1]
theorem hc_p (H : HC i η) (ho : o < 16) (hc : hCt η o ≠ 0) : i 75 (nI o).toNatClampNeg = nI (hO η o).2.2.2.1 := by
  rw [nI_clamp (by omega), ((H.2.2.1 _ ho).2 hc).2.2.2.1]
theorem hr_nn (H : HR i η) (ho : o < 16) (hc : hCt η o ≠ 0) : i 123 (nI o).toNatClampNeg = nI (hN (hO η o)) := by
  rw [nI_clamp (by omega), (H.2.2.1 _ ho).1, if_neg hc]
theorem hr_f (H : HR i η) (ho : o < 16) (hc : hCt η o ≠ 0) (hf : (hO η o).1 = false) : i 123 (nI o).toNatClampNeg = nI (hO η o).2.1 := by
  rw [hr_nn H ho hc]; unfold hN; rw [hf, if_neg (by decide)]
theorem hr_m (H : HR i η) (ho : o < 16) (hc : hCt η o ≠ 0) : i 124 (nI o).toNatClampNeg = nI (hO η o).2.2.1 := by
  rw [nI_clamp (by omega), ((H.2.2.1 _ ho).2 hc).1]
theorem hr_p (H : HR i η) (ho : o < 16) (hc : hCt η o ≠ 0) : i 125 (nI o).toNatClampNeg = nI (hO η o).2.2.2.1 := by
  rw [nI_clamp (by omega), ((H.2.2.1 _ ho).2 hc).2.1]
theorem nd_ok (hI : IV π b ψ) (ho : o < 16) (hc : hCt (yH ψ) o ≠ 0) (hf : (hO (yH ψ) o).1 = false) : (hO (yH ψ) o).2.1 < 32 ∧ tk (yT ψ) (hO (yH ψ) o).2.1 ≠ 0 := ⟨(hI.hw.2.2.1 o ho hc).2.1 hf, hI.th.2 o ho hc hf⟩
theorem hr_isPipe (H : HR i η) (hw : HW η) (ho : o < 16) (hc : hCt η o ≠ 0) : mm_V 310 0 [some (.ref 83), some (.int (nI o))] [] (mm_Z m w i l e) = some (.inl (some (.int (bI (hO η o).1))), mm_Z m w i l e) := by
  have a := hw.2.2.1 o ho hc
  have k1 : (nI (hN (hO η o)) < 100) ↔ hN (hO η o) < 100 := by
    rw [na_100]
    refine nI_ltI ?_ (by omega)
    have := hN_lt (x := hO η o) (fun z => (a.1 z).1) a.2.1
    omega
  rw [mr_310_0, if_neg (no_out (by omega) (by omega))]
  cases q : (hO η o).1 with
  | false =>
    have : hN (hO η o) < 100 := by unfold hN; rw [q, if_neg (by decide)]; have := a.2.1 q; omega
    rw [if_pos (by rw [hr_nn H ho hc]; exact k1.mpr this)]; rfl
  | true =>
    have : ¬ hN (hO η o) < 100 := by
      unfold hN; rw [q, if_pos rfl]
      split <;> omega
    rw [if_neg (by rw [hr_nn H ho hc]; exact fun z => this (k1.mp z))]; rfl
theorem hr_pipeOf (H : HR i η) (hw : HW η) (ho : o < 16) (hc : hCt η o ≠ 0) (hf : (hO η o).1 = true) : mm_V 311 0 [some (.ref 83), some (.int (nI o))] [] (mm_Z m w i l e) = some (.inl (some (.int (nI (hO η o).2.1))), mm_Z m w i l e) := by
  have a := (hw.2.2.1 o ho hc).1 hf
  have e1 : hN (hO η o) % 100 = (hO η o).2.1 ∧ hN (hO η o) < 2 ^ 31 := by
    unfold hN; rw [hf, if_pos rfl]
    split <;> omega
  rw [mr_311_0, if_neg (no_out (by omega) (by omega)), hr_nn H ho hc, na_100, na_re e1.2 (by omega), e1.1]
/-- openings go away, nodes and pipes with them -/
def yl (ψ : mS) (η : mH) : mS := yg ψ (tGo (hHe η) (yT ψ)) (hCl η)
theorem iv_cl {η' : mH} (hI : IV π b ψ) (hw : HWw η') (h1 : ∀ y, hCt η' y ≤ hCt (yH ψ) y) (h2 : ∀ y, hO η' y = hO (yH ψ) y) (h3 : ∀ k, hC η' k = hC (yH ψ) k) (h4 : ∀ p, p < 8 → hP η' p ≠ 0 → hP η' p = hP (yH ψ) p) : IV π b (yl ψ η') := by
  have T := hI.ti
  have nz : ∀ y, hCt η' y ≠ 0 → hCt (yH ψ) y ≠ 0 := fun y z => by have := h1 y; omega
  have th := TH_go (η := η') T.2.2.1 T.1 (by rw [T.2.2.2.2.2]; omega) hw (by rw [T.2.2.2.2.2]; decide) (fun o g1 g2 g3 => by rw [h2] at g3 ⊢; exact hI.th.2 o g1 (nz o g2) g3)
  have hHC : ∀ y, hCt (hCl η') y = hCt η' y := fun _ => rfl
  have hOC : ∀ y, hO (hCl η') y = hO η' y := fun _ => rfl
  refine ⟨ti_go T, tv_go hI.tv, th, hw.cl, ⟨fun p hp z => ?_, fun o g1 g2 => ?_, fun k hk z => ?_⟩, hI.jv.go T, hI.kv, ⟨hI.pw, hI.po⟩, fun o g1 g2 g3 g4 => ?_⟩
  · have z : hP η' p ≠ 0 := z
    show pVal π (nI (hP η' p - 1)) = true
    have e1 := h4 p hp z
    rw [e1]; rw [e1] at z
    exact hI.hv.1 p hp z
  · have g2 : hCt (hCl η') o ≠ 0 := g2
    show pVal π (nI (hO (hCl η') o).2.2.2.2) = true
    rw [hHC] at g2
    rw [hOC, h2]
    exact hI.hv.2.1 o g1 (nz o g2)
  · have z : (if k < 4 ∧ hLv η' k = false then 0 else hC η' k) ≠ 0 := z
    show pVal π (nI ((if k < 4 ∧ hLv η' k = false then 0 else hC η' k) - 1)) = true
    by_cases q : k < 4 ∧ hLv η' k = false
    · rw [if_pos q] at z; exact absurd rfl z
    · rw [if_neg q, h3] at z ⊢; exact hI.hv.2.2 k hk z
  · have g2 : hCt (hCl η') o ≠ 0 := g2
    have g3 : (hO (hCl η') o).1 = false := g3
    have g4 : tk (tGo (hHe η') (yT ψ)) (hO (hCl η') o).2.1 = 2 := g4
    show (hO (hCl η') o).2.2.1 = 1
    rw [hHC] at g2
    rw [hOC, h2] at g3 g4 ⊢
    refine hI.hm o g1 (nz o g2) g3 ?_
    have g4 : (if 1 ≤ (hO (yH ψ) o).2.1 ∧ (hO (yH ψ) o).2.1 < 32 ∧ tk (yT ψ) (hO (yH ψ) o).2.1 ≠ 0 ∧ tL (yT ψ) (hO (yH ψ) o).2.1 = 0 ∧ hHe η' (hO (yH ψ) o).2.1 = false then 0 else tk (yT ψ) (hO (yH ψ) o).2.1) = 2 := g4
    split at g4
    · omega
    · exact g4
theorem CD.gl {τ' : mT} {η' : mH} (g : CD w π i0 b i ψ x y) (H : HC i' η') (T : TC true i' τ') (f : ∀ q, q ≠ 58 → q < 69 ∨ 79 < q → i' q = i q) (hI : IV π b (yg ψ τ' η')) : CD w π i0 b i' (yg ψ τ' η') x y := by
  obtain ⟨⟨h1, h2, h3, h4, h5, h6, h7⟩, -, hG, hx, hy⟩ := g
  exact ⟨⟨T, h2.kp (fun k z a1 a2 => by rw [f k (by simp only [mm_Tr, cond_false] at a1 a2; omega) (by simp only [mm_Tr, cond_false] at a1 a2; omega)]), h3.kp (by rw [f _ (by omega) (by omega)]) (fun z => by rw [f _ (by omega) (by omega)]), H, h5.kp (fun z a1 => by rw [f _ (by omega) (by omega)]) (fun k z a1 a2 => by rw [f k (by omega) (by omega)]), h6.kp (fun k z a1 a2 => by have := pc_far w a1 a2; rw [f k (by omega) (by omega)]), by rw [f _ (by omega) (by omega)]; exact h7⟩, hI, hG.tr (fun k j z => by rw [f k (by unfold fC at z; omega) (by unfold fC at z; omega)]), by rw [f _ (by omega) (by omega)]; exact hx, by rw [f _ (by omega) (by omega)]; exact hy⟩
theorem RD.gl {τ' : mT} {η' : mH} (g : RD π i0 b i ψ s a x) (H : HR i' η') (T : TR i' τ') (f : ∀ q, q ≠ 113 → q < 121 ∨ 129 < q → i' q = i q) (hI : IV π b (yg ψ τ' η')) : RD π i0 b i' (yg ψ τ' η') s a x := by
  obtain ⟨⟨h1, h2, h3, h4, h5, h6, h7⟩, -, hG, hs, ha, hx⟩ := g
  exact ⟨⟨T, h2.kp (fun z => by rw [f _ (by omega) (by omega)]), h3.kp (by rw [f _ (by omega) (by omega)]) (fun z => by rw [f _ (by omega) (by omega)]), H, h5.kp (fun z a1 => by rw [f _ (by omega) (by omega)]) (fun k z a1 a2 => by rw [f k (by omega) (by omega)]), h6.kp (fun z a1 => by rw [f _ (by omega) (by omega)]) (fun k z a1 a2 => by rw [f k (by omega) (by omega)]), by rw [f _ (by omega) (by omega)]; exact h7⟩, hI, hG.tr (fun k j z => by rw [f k (by unfold fR at z; omega) (by unfold fR at z; omega)]), by rw [f _ (by omega) (by omega)]; exact hs, by rw [f _ (by omega) (by omega)]; exact ha, by rw [f _ (by omega) (by omega)]; exact hx⟩
/-- close -/
def aCls (p h : Nat) (ψ : mS) : Int32 × mS := if hH (yH ψ) (6 * p + h) = 0 then (-9, ψ) else (0, yl ψ (hUn (yH ψ) (6 * p + h)))
theorem iv_un (hI : IV π b ψ) {k : Nat} : IV π b (yl ψ (hUn (yH ψ) k)) := iv_cl hI (HWw_un hI.hw.weak) (fun y => hUn_le k y) (fun _ => rfl) (fun _ => rfl) (fun _ _ _ => rfl)
theorem ca_cls (g : CD w π i0 b i ψ x y) (hB : b ≤ B) (hp : p < 8) (hh : h < 6) : CA m w l e π i0 B (mm_V 46 0 [some (.ref 81), some (.int (nI p)), some (.int (nI h))] [] (mm_Z m w i l e)) (aCls p h ψ) := by
  have H : HC i (yH ψ) := g.1.2.2.2.1
  have h16 := g.iv.hw.2.1 (6 * p + h) (by omega)
  unfold aCls
  rw [mr_46_0, hc_opening H hp hh, mb_l, mb_v, mr_46_9]
  by_cases q : hH (yH ψ) (6 * p + h) = 0
  · rw [if_pos q, if_pos ((nz_m1 (by omega)).mpr q)]
    exact CA.dead g hB rfl
  · obtain ⟨i1, e1, e2, e3, e4⟩ := hc_release (m := m) (w := w) (l := l) (e := e) H g.iv.hw g.1.1 g.iv.tw hp hh q
    rw [rl_hold g.iv.hw (by omega) q] at e2
    rw [rl_tree g.iv.hw (by omega) q g.iv.ti.2.2.1 g.iv.th] at e3
    rw [if_neg q, if_neg (by rw [nz_m1 (by omega)]; exact q), e1, mb_l, mb_0, mr_46_25]
    exact CA.dead (g.gl e2 e3 (fun q z1 z2 => e4 q z1 (by omega) (by omega) (by omega)) (iv_un g.iv)) hB rfl
theorem HRw_un {k : Nat} (H : HR i η) : HRw (mm_ww i 122 k (-1)) (hUn η k) := by
  obtain ⟨a1, a2, a3, a4⟩ := H
  refine ⟨fun p hp => by rw [mw_k (by omega)]; exact a1 p hp, fun j hj => ?_, fun o ho hc => ?_, fun y hy => ?_⟩
  · show _ = nI (va_up (hH η) k 0 j) - 1
    by_cases z : j = k
    · subst z; rw [mw_s, up_s]; rfl
    · rw [mw_j z, up_n z]; exact a2 j hj
  · have hc' : hCt η o ≠ 0 := by have := hUn_le (η := η) k o; omega
    rw [mw_k (by omega), mw_k (by omega), mw_k (by omega), mw_k (by omega)]
    have := a3 o ho
    rw [if_neg hc'] at this
    exact ⟨this.1, this.2 hc'⟩
  · simp only [mw_k (show 127 ≠ 122 by omega), mw_k (show 128 ≠ 122 by omega), mw_k (show 129 ≠ 122 by omega)]
    exact a4 y hy
theorem ra_cls (g : RD π i0 b i ψ 0 a x) (hB : b ≤ B) (hp : p < 8) (hh : h < 6) : RA m w l e π i0 B (mm_V 317 29 [some (.ref 83), some (.int (nI p)), some (.int 0), some (.int (nI h)), none, none] [.int 0] (mm_Z m w i l e)) (aCls p h ψ) := by
  have H : HR i (yH ψ) := g.1.2.2.2.1
  have h16 := g.iv.hw.2.1 (6 * p + h) (by omega)
  have e6 : 6 * nI p + nI h = nI (6 * p + h) := by rw [na_6, na_mul, nI_add]
  have e122 : i 122 (6 * nI p + nI h).toNatClampNeg = nI (hH (yH ψ) (6 * p + h)) - 1 := by rw [e6, nI_clamp (by omega), H.2.1 _ (by omega)]
  unfold aCls
  rw [mr_317_29, if_pos rfl, if_pos rfl, if_neg (by rw [e6]; exact no_out (by omega) (by omega))]
  by_cases q : hH (yH ψ) (6 * p + h) = 0
  · rw [if_pos (by rw [e122, nz_ng (by omega)]; exact q), if_pos q, mr_317_58, show (Value.int 0) = Value.int (bI false) from rfl, rs_must g.hs, if_neg (by decide), mb_l, mb_0, mr_317_63, g.st.bd (by decide), mb_l, mb_v, mr_317_67, if_bf, mr_317_86, mw_s]
    exact RA.ret (r := (-9, ψ)) g.st hB
  · rw [if_neg (by rw [e122, nz_ng (by omega)]; exact q), if_neg q, mr_317_58, show (Value.int 1) = Value.int (bI true) from rfl, rs_must g.hs, if_pos rfl, mb_l, mb_0, mr_317_63, g.st.gd, mb_l, mb_v, mr_317_67, if_bt, if_neg (by rw [e6]; exact no_out (by omega) (by omega)), e6, nI_clamp (by omega)]
    have g1 := g.st (s' := 0)
    have H1 : HR (mm_ww i 83 81 0) (yH ψ) := g1.1.2.2.2.1
    have T1 : TR (mm_ww (mm_ww i 83 81 0) 122 (6 * p + h) (-1)) (yT ψ) := g1.1.1.kp (fun k j a1 a2 => by rw [mw_k (by omega)])
    obtain ⟨i1, e1, e2, e3, e4⟩ := hr_clean (m := m) (w := w) (l := l) (e := e) (HRw_un (k := 6 * p + h) H1) (HWw_un g.iv.hw.weak) T1 g.iv.tw
    rw [swp_eq g.iv.ti.2.2.1] at e3
    have g2 : RD π i0 b i1 (yl ψ (hUn (yH ψ) (6 * p + h))) 0 a x := g1.gl e2 e3 (fun q z1 z2 => by rw [e4 q (by omega) (by omega) z1, mw_k (by omega)]) (iv_un g.iv)
    rw [e1, mb_l, mb_0, mr_317_86, g2.hs]
    exact RA.ret (r := (0, yl ψ (hUn (yH ψ) (6 * p + h)))) g2 hB
/-- a process ends -/
def yf (ψ : mS) (p : Nat) : mS := yl ψ (hSp (hUm (yH ψ) p 6) p)
theorem iv_yf (hI : IV π b ψ) (hp : p < 8) : IV π b (yf ψ p) := iv_cl hI (HWw_sp (HWw_um hI.hw.weak) (fun h hh => by
    show (if 6 * p ≤ 6 * p + h ∧ 6 * p + h < 6 * p + 6 then 0 else hH (yH ψ) (6 * p + h)) = 0
    rw [if_pos ⟨by omega, by omega⟩])) (fun y => hUm_le 6 y) (fun _ => rfl) (fun _ => rfl) (fun q hq z => by
    have z : va_up (hP (yH ψ)) p 0 q ≠ 0 := z
    show va_up (hP (yH ψ)) p 0 q = hP (yH ψ) q
    by_cases y : q = p
    · subst y; rw [up_s] at z; exact absurd rfl z
    · rw [up_n y])
theorem CD.fi (g : CD w π i0 b i ψ x y) (hp : p < 8) : ∃ i', mm_V 81 0 [some (.ref 68), some (.int (nI p)), none] [] (mm_Z m w i l e) = some (.inl none, mm_Z m w i' l e) ∧ CD w π i0 b i' (yf ψ p) x y := by
  obtain ⟨i1, e1, e2, e3, e4⟩ := hc_stop (m := m) (w := w) (l := l) (e := e) g.1.2.2.2.1 g.iv.hw g.1.1 g.iv.ti.2.2.1 g.iv.tw g.iv.th g.iv.ti.2.2.2.2.2 hp
  exact ⟨i1, e1, g.gl e2 e3 (fun q z1 z2 => e4 q z1 (by omega) (by omega) (by omega) (by omega)) (iv_yf g.iv hp)⟩
theorem RD.fi (g : RD π i0 b i ψ s a x) (hp : p < 8) : ∃ i', mm_V 322 0 [some (.ref 83), some (.int (nI p)), none] [] (mm_Z m w i l e) = some (.inl none, mm_Z m w i' l e) ∧ RD π i0 b i' (yf ψ p) s a x := by
  obtain ⟨i1, e1, e2, e3, e4⟩ := hr_finish (m := m) (w := w) (l := l) (e := e) g.1.2.2.2.1 g.iv.hw g.1.1 g.iv.ti.2.2.1 g.iv.tw hp
  exact ⟨i1, e1, g.gl e2 e3 (fun q z1 z2 => e4 q (by omega) (by omega) (by omega) (by omega) z1) (iv_yf g.iv hp)⟩
end MM117
