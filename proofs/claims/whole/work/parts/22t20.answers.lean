/-! ANSWERS of acts are no words of refusal; bytes stay bytes -/
section MM197
variable {n k j b B p h M v u c d : Nat} {x y : Int32} {π : mP} {ψ : mS} {L N : List Nat} {η : mH} {κ : mK} {τ σ : mT} {r : Int32 × mS} {K : mS → Int32 × mS} {q : mD} {g : Bool}
def BV (ψ : mS) : Prop := (∀ n k, ¬ tb (yT ψ) n k < 0) ∧ (∀ n k, ¬ tb (yS ψ) n k < 0) ∧ (∀ q : mD, q ∈ yQ ψ → q.1 = 3 → ¬ q.2.2.1 < 0) ∧ ∀ k j, ¬ hB (yH ψ) k j < 0
def rb (r : Int32 × mS) : Prop := -50 < r.1 ∧ BV r.2
theorem gt_b (h : ¬ x < 0) : -50 < x := by
  rw [Int32.lt_iff_toInt_lt] at h ⊢
  have h : ¬ x.toInt < 0 := h
  show -50 < x.toInt
  omega
theorem gt_n (h : k < 2 ^ 31) : -50 < nI k := gt_b (nI_nn h)
theorem tb_do (h : ∀ n k, ¬ tb τ n k < 0) (hq : q.1 = 3 → ¬ q.2.2.1 < 0) : ∀ n k, ¬ tb (tDo τ q) n k < 0 := by
  obtain ⟨k0, a, x, c, d, e⟩ := q
  match k0 with
  | 0 => exact h
  | 1 => exact h
  | 2 => exact h
  | 3 =>
    have hx : ¬ x < 0 := hq rfl
    intro n k
    show ¬ va_up (tb τ) a (fun k => if k = c then x else if ts τ a ≤ k then 0 else tb τ a k) n k < 0
    by_cases z : n = a
    · subst z
      rw [show va_up (tb τ) n (fun k => if k = c then x else if ts τ n ≤ k then 0 else tb τ n k) n = (fun k => if k = c then x else if ts τ n ≤ k then 0 else tb τ n k) by simp [va_up]]
      show ¬ (if k = c then x else if ts τ n ≤ k then 0 else tb τ n k) < 0
      split
      · exact hx
      · split
        · decide
        · exact h n k
    · rw [show va_up (tb τ) a (fun k => if k = c then x else if ts τ a ≤ k then 0 else tb τ a k) n = tb τ n by simp [va_up, z]]
      exact h n k
  | 4 => exact h
  | 5 => exact h
  | 6 => exact h
  | k0 + 7 => exact h
theorem tb_run : ∀ (Q : List mD) (σ : mT), (∀ n k, ¬ tb σ n k < 0) → (∀ q : mD, q ∈ Q → q.1 = 3 → ¬ q.2.2.1 < 0) → ∀ n k, ¬ tb (tRun σ Q) n k < 0
  | [], _, h, _ => h
  | q :: Q, σ, h, hq => tb_run Q (tDo σ q) (tb_do h (hq q (List.mem_cons_self))) (fun q' hq' => hq q' (List.mem_cons_of_mem _ hq'))
theorem bv_yn (h : BV ψ) (hq : q.1 = 3 → ¬ q.2.2.1 < 0) : BV (yn ψ q) := by
  obtain ⟨h1, h2, h3, h4⟩ := h
  refine ⟨tb_do h1 hq, ?_, ?_, h4⟩
  · show ∀ n k, ¬ tb (qS (yT ψ) (yS ψ) (yQ ψ) q) n k < 0
    unfold qS
    split
    · exact h2
    · exact tb_do h1 hq
  · show ∀ q' : mD, q' ∈ qQ (yQ ψ) q → q'.1 = 3 → ¬ q'.2.2.1 < 0
    unfold qQ
    split
    · intro q' hm
      rcases List.mem_append.mp hm with hm | hm
      · exact h3 q' hm
      · rw [List.mem_singleton.mp hm]; exact hq
    · intro q' hm
      exact absurd hm List.not_mem_nil
theorem bv_yh (h : BV ψ) (hh : hB η = hB (yH ψ)) : BV (yh ψ η) := ⟨h.1, h.2.1, h.2.2.1, by
  show ∀ k j, ¬ hB η k j < 0
  rw [hh]; exact h.2.2.2⟩
theorem rb_ck {u v c : Nat} (h : BV ψ) (hK : rb (K (yA π ψ u v c x))) : rb (aCk π u v c x ψ K) := by
  unfold aCk
  split
  · exact hK
  · exact ⟨by show (-50 : Int32) < -2; decide, h⟩
theorem rb_mu (h : BV ψ) (hx : -50 < x) (hK : g = true → rb r) : rb (aMu g x ψ r) := by
  unfold aMu
  split
  · exact hK (by assumption)
  · exact ⟨hx, h⟩
theorem wK_gt {τ : mT} {c : Nat} : ∀ (L : List Nat) (a : Nat) (κ : mK), -50 < (wK π τ c L a κ).1
  | [], a, κ => by
    show (-50 : Int32) < 0
    decide
  | x :: L, a, κ => by
    rw [wK]
    split
    · show (-50 : Int32) < -4; decide
    · split
      · show (-50 : Int32) < -2; decide
      · split
        · exact wK_gt L _ _
        · show (-50 : Int32) < -3; decide
theorem rb_wa {K : Nat → mS → Int32 × mS} (h : BV ψ) (hK : (wW π p L ψ).1 = 0 → rb (K (wW π p L ψ).2.1 (yk ψ (wW π p L ψ).2.2))) : rb (aWa π p L ψ K) := by
  unfold aWa
  split
  · exact hK (by assumption)
  · exact ⟨wK_gt _ _ _, h⟩
theorem rb_pl {K : Nat → mS → Int32 × mS} (h : BV ψ) (hK : ∀ d κ, rb (K d (yk ψ κ))) : rb (aPl π p L ψ K) := by
  unfold aPl
  split
  · exact ⟨by show (-50 : Int32) < -6; decide, h⟩
  · exact rb_wa h (fun _ => rb_mu h (by decide) (fun _ => rb_ck h (hK _ _)))
theorem tL_le (h : TW τ) (x : Nat) : tL τ x ≤ 24 * 32 := by
  refine tSum_le 32 0 (fun j _ hj => ?_)
  unfold tLd
  split
  · have := tCnt_le (fun k => td τ j k == x) (ts τ j) 0
    have := (h j (by omega)).2.1
    omega
  · omega
theorem tFst_31 {p : Nat → Bool} {d k : Nat} (h : k + d < 2 ^ 20) : tFst p d k < 2 ^ 20 := by
  have := (tFst_le p d k).2
  omega
theorem rb_look (hI : IV π b ψ) (hb : b + 16 < 2 ^ 29) (hp : p < 8) (hP0 : hP (yH ψ) p ≠ 0) (hO : pO L) (h : BV ψ) : rb (aLook π p L ψ) := by
  unfold aLook
  obtain ⟨_, _, n1, _⟩ := wW_ok hI hp hP0 hO.1 (by omega)
  refine rb_wa h (fun _ => rb_ck h ⟨gt_n ?_, h⟩)
  have h1 := hI.tw _ n1
  have h2 := tL_le hI.tw (wW π p L ψ).2.1
  show 2 * ts (yT ψ) (wW π p L ψ).2.1 + (tk (yT ψ) (wW π p L ψ).2.1 - 1) + 100 * tL (yT ψ) (wW π p L ψ).2.1 < 2 ^ 31
  have h3 := h1.1
  have h4 := h1.2.1
  omega
theorem rb_nc {K : mS → Int32 × mS} {cr : Int32} (h : BV ψ) (hK : ∀ κ, rb (K (yk ψ κ))) : rb (aNc π p d k cr ψ K) := by
  unfold aNc
  exact rb_ck h (rb_mu h (by decide) (fun _ => rb_ck h (rb_mu h (by decide) (fun _ => hK _))))
theorem rb_mkd (h : BV ψ) : rb (aMkd π p L ψ) := by
  unfold aMkd
  refine rb_pl h (fun d κ => rb_mu h (by decide) (fun _ => rb_nc (ψ := yk ψ κ) h (fun κ2 => ⟨gt_n ?_, bv_yn (ψ := yk ψ κ2) h (fun z => absurd (show 1 = 3 from z) (by decide))⟩)))
  have := tFst_31 (p := fun k => tk (yT (yk ψ κ)) k == 0) (d := 32) (k := 0) (by omega)
  unfold tFree
  omega
theorem bv_yu (h : BV ψ) (hq : q.1 = 3 → ¬ q.2.2.1 < 0) : BV (yu ψ q) := by
  have h1 := bv_yn (q := q) h hq
  exact ⟨h1.1, h1.2.1, h1.2.2.1, h1.2.2.2⟩
theorem rb_rmd (h : BV ψ) : rb (aRmd π p L ψ) := by
  unfold aRmd
  exact rb_pl h (fun d κ => rb_mu h (by decide) (fun _ => rb_mu h (by decide) (fun _ => rb_ck h (rb_ck h (rb_mu h (by decide) (fun _ => ⟨by show (-50 : Int32) < 0; decide, bv_yu (ψ := yk ψ _) h (fun z => absurd (show 6 = 3 from z) (by decide))⟩))))))
theorem rb_unl (h : BV ψ) : rb (aUnl π p L ψ) := by
  unfold aUnl
  exact rb_pl h (fun d κ => rb_mu h (by decide) (fun _ => rb_mu h (by decide) (fun _ => rb_ck h (rb_ck h ⟨by show (-50 : Int32) < 0; decide, bv_yu (ψ := yk ψ _) h (fun z => absurd (show 6 = 3 from z) (by decide))⟩))))
theorem rb_fin (h : BV ψ) : rb (aFin p v ψ) := ⟨gt_n (show v % 100 < 2 ^ 31 by omega), bv_yh h rfl⟩
theorem rb_run (h : BV ψ) : rb (aRun π p L ψ) := by
  unfold aRun
  refine rb_wa h (fun _ => rb_mu h (by decide) (fun _ => rb_ck h (rb_mu h (by decide) (fun _ => ?_))))
  split
  · exact rb_fin (ψ := yk ψ _) h
  · exact rb_ck h (rb_ck h (rb_fin (ψ := yk ψ _) h))
theorem rb_nd (h : BV ψ) (hK : ∀ κ, rb (K (yk ψ κ))) : rb (aNd π u v x ψ K) := by
  unfold aNd
  split
  · exact hK (yK ψ)
  · exact rb_ck h (hK _)
theorem rb_oo (h : BV ψ) : rb (aOo p n M ψ) := by
  unfold aOo
  refine rb_mu h (by decide) (fun _ => ⟨gt_n ?_, ?_⟩)
  · have := tFst_31 (p := fun h => hH (yH ψ) (6 * p + h) == 0) (d := 6) (k := 0) (by omega)
    unfold hFh
    omega
  · unfold yo
    split
    · exact bv_yh (bv_yn (ψ := ψ) h (fun z => absurd (show 2 = 3 from z) (by decide))) rfl
    · exact bv_yh h rfl
theorem rb_old (h : BV ψ) : rb (aOld π p n M ψ) := by
  unfold aOld
  split
  · exact rb_mu h (by decide) (fun _ => rb_ck h (rb_oo (ψ := yk ψ _) h))
  · exact rb_nd h (fun κ => rb_oo (ψ := yk ψ κ) h)
theorem rb_new (h : BV ψ) : rb (aNew π p d v M ψ) := by
  unfold aNew
  refine rb_mu h (by decide) (fun _ => rb_nc h (fun κ => rb_nd (ψ := yk ψ κ) h (fun κ2 => rb_mu (ψ := yk ψ κ2) h (by decide) (fun _ => ⟨gt_n ?_, ?_⟩))))
  · have := tFst_31 (p := fun h => hH (yH ψ) (6 * p + h) == 0) (d := 6) (k := 0) (by omega)
    unfold hFh
    omega
  · unfold yo
    exact bv_yh (bv_yn (ψ := yk ψ κ2) h (fun z => absurd (show 0 = 3 from z) (by decide))) rfl
theorem rb_opn (h : BV ψ) : rb (aOpn π p L M ψ) := by
  unfold aOpn
  split
  · exact rb_old h
  · refine rb_pl h (fun d κ => ?_)
    split
    · exact rb_old (ψ := yk ψ κ) h
    · exact rb_new (ψ := yk ψ κ) h
theorem rb_lnk (h : BV ψ) : rb (aLnk π p L N ψ) := by
  unfold aLnk
  exact rb_wa h (fun _ => rb_mu h (by decide) (fun _ => rb_pl (ψ := yk ψ _) h (fun d κ => rb_mu h (by decide) (fun _ => rb_ck h (rb_ck h (rb_mu h (by decide) (fun _ => ⟨by show (-50 : Int32) < 0; decide, bv_yn (ψ := yk ψ _) h (fun z => absurd (show 5 = 3 from z) (by decide))⟩)))))))
theorem rb_ren (h : BV ψ) : rb (aRen π p L N ψ) := by
  unfold aRen
  exact rb_pl h (fun d κ => rb_mu h (by decide) (fun _ => rb_pl (ψ := yk ψ κ) h (fun c κ2 => rb_mu h (by decide) (fun _ => rb_ck h (rb_ck h (rb_ck h (rb_mu h (by decide) (fun _ => rb_mu h (by decide) (fun _ => ⟨by show (-50 : Int32) < 0; decide, bv_yn (ψ := yk ψ _) h (fun z => absurd (show 7 = 3 from z) (by decide))⟩)))))))))
theorem rb_rel (h : BV ψ) : rb (aRel π p L x ψ) := by
  unfold aRel
  exact rb_wa h (fun _ => rb_mu h (by decide) (fun _ => rb_ck h (rb_ck h ⟨by show (-50 : Int32) < 0; decide, bv_yn (ψ := yk ψ _) h (fun z => absurd (show 4 = 3 from z) (by decide))⟩)))
theorem bv_yl (h : BV ψ) (hh : hB η = hB (yH ψ)) : BV (yl ψ η) := ⟨h.1, h.2.1, h.2.2.1, by
  show ∀ k j, ¬ hB η k j < 0
  rw [hh]; exact h.2.2.2⟩
theorem rb_cls (hb : BV ψ) : rb (aCls p h ψ) := by
  unfold aCls
  split
  · exact ⟨by show (-50 : Int32) < -9; decide, hb⟩
  · exact ⟨by show (-50 : Int32) < 0; decide, bv_yl hb rfl⟩
theorem rb_us (hb : BV ψ) (hK : hH (yH ψ) (6 * p + h) ≠ 0 → ∀ κ, rb (K (yk ψ κ))) : rb (aUs π p h ψ K) := by
  unfold aUs
  split
  · exact ⟨by show (-50 : Int32) < -9; decide, hb⟩
  · rename_i z
    split
    · exact hK z (yK ψ)
    · exact rb_ck hb (hK z _)
theorem hFh_31 : hFh η p < 2 ^ 20 := tFst_31 (by omega)
theorem rb_dup (hb : BV ψ) : rb (aDup π p h ψ) := by
  unfold aDup
  exact rb_us hb (fun _ κ => rb_mu hb (by decide) (fun _ => ⟨gt_n (by have := hFh_31 (η := yH ψ) (p := p); omega), bv_yh (ψ := yk ψ κ) hb rfl⟩))
theorem rb_sek (hv : v ≤ 24) (hb : BV ψ) : rb (aSek π p h v ψ) := by
  unfold aSek
  exact rb_us hb (fun _ κ => rb_mu hb (by decide) (fun _ => ⟨gt_n (by omega), bv_yh (ψ := yk ψ κ) hb rfl⟩))
theorem bv_if {P : Prop} [Decidable P] {ψ' : mS} (h1 : BV ψ) (h2 : BV ψ') : BV (if P then ψ else ψ') := by
  split
  · exact h1
  · exact h2
theorem rb_emp (hb : BV ψ) : rb (aEmp π p h ψ) := by
  unfold aEmp
  refine rb_us hb (fun _ κ => rb_mu hb (by decide) (fun _ => rb_ck (ψ := yk ψ κ) hb ?_))
  have hb' : BV (yA π (yk ψ κ) (cP (yH ψ) p) (cN (yT ψ) (oN ψ p h)) 0 2) := hb
  exact ⟨by show (-50 : Int32) < 0; decide, bv_if hb' (bv_yn hb' (fun z => absurd (show 2 = 3 from z) (by decide)))⟩
theorem rb_lst (hI : IV π b ψ) (hp : p < 8) (hh : h < 6) (hb : BV ψ) : rb (aLst π p h ψ) := by
  unfold aLst
  refine rb_us hb (fun z κ => rb_mu hb (by decide) (fun q => rb_ck (ψ := yk ψ κ) hb ?_))
  obtain ⟨o1, o2, _⟩ := us_ok hI hp hh z
  obtain ⟨q1, q2⟩ := (Bool.and_eq_true _ _).mp q
  have f0 : (hO (yH ψ) (oO ψ p h)).1 = false := by
    have : (!(hO (yH ψ) (oO ψ p h)).1) = true := q1
    cases hz : (hO (yH ψ) (oO ψ p h)).1 <;> simp_all
  have n1 : oN ψ p h < 32 := (hI.hw.2.2.1 _ o1 o2).2.1 f0
  split
  · rename_i z2
    have := (((hI.tw _ n1).2.2 (of_decide_eq_true q2)).2 _ z2).2.1
    exact ⟨gt_n (by omega), bv_yh (ψ := yk ψ _) hb rfl⟩
  · exact ⟨by show (-50 : Int32) < 256; decide, hb⟩
theorem bv_by (hb : BV ψ) {f : Nat → Int32} (hf : ∀ j, ¬ f j < 0) : BV (yh ψ (hBy (yH ψ) k n f)) := ⟨hb.1, hb.2.1, hb.2.2.1, fun a j => by
  show ¬ va_up (hB (yH ψ)) k f a j < 0
  by_cases z : a = k
  · rw [z, show va_up (hB (yH ψ)) k f k = f by simp [va_up]]; exact hf j
  · rw [show va_up (hB (yH ψ)) k f a = hB (yH ψ) a by simp [va_up, z]]; exact hb.2.2.2 a j⟩
theorem rb_rp (hb : BV ψ) : rb (aRp π p k ψ) := by
  unfold aRp
  refine rb_ck hb ?_
  split
  · split
    · exact ⟨by show (-50 : Int32) < -12; decide, hb⟩
    · exact ⟨by show (-50 : Int32) < 256; decide, hb⟩
  · exact ⟨gt_b (hb.2.2.2 _ _), bv_by (ψ := yk ψ _) hb (fun j => hb.2.2.2 _ _)⟩
theorem rb_rd (hb : BV ψ) : rb (aRd π p h ψ) := by
  unfold aRd
  refine rb_us hb (fun _ κ => rb_mu hb (by decide) (fun _ => ?_))
  split
  · exact rb_rp (ψ := yk ψ κ) hb
  · refine rb_mu (ψ := yk ψ κ) hb (by decide) (fun _ => rb_ck (ψ := yk ψ κ) hb ?_)
    split
    · exact ⟨gt_b (hb.1 _ _), bv_yh (ψ := yk ψ _) hb rfl⟩
    · exact ⟨by show (-50 : Int32) < 256; decide, hb⟩
theorem rb_wp (hx : ¬ x < 0) (hb : BV ψ) : rb (aWp π p k x ψ) := by
  unfold aWp
  refine rb_ck hb (rb_mu hb (by decide) (fun _ => rb_mu hb (by decide) (fun _ => ⟨by show (-50 : Int32) < 0; decide, bv_by (ψ := yk ψ _) hb (fun j => ?_)⟩)))
  by_cases z : j = hS (yH ψ) k
  · rw [z, show va_up (hB (yH ψ) k) (hS (yH ψ) k) x (hS (yH ψ) k) = x by simp [va_up]]; exact hx
  · rw [show va_up (hB (yH ψ) k) (hS (yH ψ) k) x j = hB (yH ψ) k j by simp [va_up, z]]; exact hb.2.2.2 k j
theorem rb_wr (hx : ¬ x < 0) (hb : BV ψ) : rb (aWr π p h x ψ) := by
  unfold aWr
  refine rb_us hb (fun _ κ => rb_mu hb (by decide) (fun _ => ?_))
  split
  · exact rb_wp (ψ := yk ψ κ) hx hb
  · refine rb_ck (ψ := yk ψ κ) hb (rb_mu (ψ := yk ψ _) hb (by decide) (fun _ => ⟨by show (-50 : Int32) < 0; decide, ?_⟩))
    show BV (yw ψ p h x (yk ψ _))
    unfold yw
    split
    · exact bv_yh (bv_yn (ψ := yk ψ _) hb (fun _ => hx)) rfl
    · exact bv_yn (ψ := yk ψ _) hb (fun _ => hx)
theorem rb_frk (hb : BV ψ) : rb (aFrk π p ψ) := by
  unfold aFrk
  refine rb_ck hb (rb_mu hb (by decide) (fun _ => ⟨gt_n ?_, bv_yh (ψ := yk ψ _) hb rfl⟩))
  have := tFst_31 (p := fun q => hP (yH ψ) q == 0) (d := 8) (k := 0) (by omega)
  unfold hFp
  omega
theorem bv_yf (hb : BV ψ) : BV (yf ψ p) := bv_yl hb rfl
theorem rb_pip (hb : BV ψ) : rb (aPip π p ψ) := by
  unfold aPip
  refine rb_ck hb (rb_mu hb (by decide) (fun _ => ⟨gt_n ?_, bv_yh (ψ := yk ψ _) hb rfl⟩))
  have h1 := hFh_31 (η := hP1 (yH ψ) p (hFq (yH ψ))) (p := p)
  have h2 := hFh_31 (η := yH ψ) (p := p)
  omega
theorem rb_lv (hb : BV ψ) : rb (aLv p ψ) := ⟨by show (-50 : Int32) < 0; decide, bv_yf hb⟩
theorem rb_sig (hb : BV ψ) : rb (aSig π p k ψ) := by
  unfold aSig
  exact rb_ck hb ⟨by show (-50 : Int32) < 0; decide, bv_yf (ψ := yk ψ _) hb⟩
theorem rb_trc (hb : BV ψ) : rb (aTrc π p k ψ) := by
  unfold aTrc
  exact rb_ck hb ⟨by show (-50 : Int32) < 0; decide, hb⟩
theorem rb_swi (hb : BV ψ) : rb (aSwi π p x ψ) := by
  unfold aSwi
  exact rb_mu hb (by decide) (fun _ => rb_ck hb ⟨by show (-50 : Int32) < 0; decide, bv_yh (ψ := yk ψ _) hb rfl⟩)
end MM197
