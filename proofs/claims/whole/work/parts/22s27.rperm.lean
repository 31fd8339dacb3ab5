/-! SIDES, CLASSES AND PERMISSIONS, in the reference -/
section MM163
variable {X : mX} {t : m3} {w : Bool} {i i' : Nat → Nat → Int32} {l : Nat → Nat → Int64} {δ : mQ} {m : Nat} {e : Bool × Nat × Nat} {n k s a b c p g y : Nat} {L : List Nat} {x : Int32}
theorem rvv_n (h : a < 400) : rvv (nI a) = nI a := by
  unfold rvv
  rw [if_neg (show ¬ nI a = 400 from fun z => by have := (nI_eq (b := 400) (by omega) (by omega)).mp z; omega), if_neg (na_m1 (by omega))]
theorem rwd_11 (hk : k < 244) : (rwd k = 11) ↔ k = 210 := by
  unfold rwd
  repeat' split
  all_goals omega
/-- a side of a rule -/
theorem r_sid (h : TZ X i t) (hW : WDS l) (hn : RN i δ) (hd : DW δ) {self : Bool} {x : Int32} (hx : x = bI self) : RI X m w l e i (mm_V 218 0 [some (.ref 83), some (.int x), none] [] (mm_Z m w i l e)) (eB (sSid X self t δ) (fun q => .inr (q.1, rvv q.2))) := by
  have h42 := hd.l42
  have hk := h.tk.kd h.xw
  have adv : ∀ s0, t.2.2 ≠ 1 → RI X m w l e i (mm_V 218 37 [some (.ref 83), some (.int x), none] [.int s0] (mm_Z m w i l e)) (.inr (nx X t, s0)) := fun s0 z => by
    obtain ⟨i1, k1, k2, k3⟩ := h.adv (m := m) (w := w) (e := e) hW z
    rw [mr_218_37, k1, mb_l, mb_0, mr_218_42]
    exact ⟨_, i1, rfl, k3, rfl, k2⟩
  obtain ⟨e1, e2, e3, e4⟩ := h.fl (m := m) (w := w) (l := l) (e := e)
  have bad : ∀ v, RI X m w l e i (mm_V 218 63 [some (.ref 83), some (.int x), some (.int v)] [] (mm_Z m w i l e)) (.inl t.1) := fun v => by
    rw [mr_218_63, e1, mb_l, mb_0, mr_218_71]
    exact ⟨0, _, rfl, e2, e3, e4⟩
  have nam : RI X m w l e i (mm_V 218 44 [some (.ref 83), some (.int x), none] [] (mm_Z m w i l e)) (eB (if dI δ (tLt X t) < dL δ ∧ (dG δ (dI δ (tLt X t))).2.1 < 2 then .inr (nx X t, nI (dV δ (dI δ (tLt X t)))) else .inl t.1) (fun q => .inr (q.1, rvv q.2))) := by
    rw [mr_218_44, h.name hn hd, mb_l, mb_v, mr_218_48]
    by_cases q : dI δ (tLt X t) < dL δ
    · obtain ⟨a1, a2, a3⟩ := hn.2 _ q
      obtain ⟨v1, v2, v3⟩ := hd.v q
      rw [if_pos q, if_neg (nI_nn (by omega)), if_neg (no_out (by omega) (by omega)), nI_clamp (by omega), a2]
      by_cases q2 : (dG δ (dI δ (tLt X t))).2.1 < 2
      · obtain ⟨i1, k1, k2, k3⟩ := h.adv (m := m) (w := w) (e := e) hW (by rw [dI_k hd h.xw h.tk q]; omega)
        rw [if_neg (show ¬ (2 : Int32) < nI ((dG δ (dI δ (tLt X t))).2.1 + 1) from fun z => by have := (nI_ltI (a := 2) (by omega) (by omega)).mp z; omega), k1, mb_l, mb_0, mr_218_77, if_neg (no_out (by omega) (by omega)), if_neg (no_out (by omega) (by omega)), if_pos (show dI δ (tLt X t) < dL δ ∧ (dG δ (dI δ (tLt X t))).2.1 < 2 from ⟨q, q2⟩), eB_r, rvv_n v3]
        have z90 : i1 90 (nI (dI δ (tLt X t))).toNatClampNeg = nI ((dG δ (dI δ (tLt X t))).2.1 + 1) := by rw [nI_clamp (by omega), k3 _ _ (by unfold fTk; omega), a2]
        have z91 : i1 91 (nI (dI δ (tLt X t))).toNatClampNeg = nI (dG δ (dI δ (tLt X t))).2.2 := by rw [nI_clamp (by omega), k3 _ _ (by unfold fTk; omega), a3]
        simp only [z90, z91]
        by_cases q3 : (dG δ (dI δ (tLt X t))).2.1 = 0
        · rw [if_pos (by rw [q3]; rfl)]
          exact ⟨_, i1, rfl, k3, by unfold dV; rw [q3]; simp, k2⟩
        · rw [if_neg (show ¬ nI ((dG δ (dI δ (tLt X t))).2.1 + 1) = 1 from fun z => q3 (by have := (nI_eq (b := 1) (by omega) (by omega)).mp z; omega)), if_neg (no_out (by omega) (by omega)), na_100, nI_add]
          exact ⟨_, i1, rfl, k3, by unfold dV; rw [show (dG δ (dI δ (tLt X t))).2.1 = 1 by omega], k2⟩
      · rw [if_pos (show (2 : Int32) < nI ((dG δ (dI δ (tLt X t))).2.1 + 1) from (nI_ltI (a := 2) (by omega) (by omega)).mpr (by omega)), if_neg (fun z => q2 z.2)]
        exact bad _
    · rw [if_neg q, if_pos (by decide), if_neg (fun z => q z.1)]
      exact bad _
  rw [mr_218_0]
  unfold sSid
  by_cases q : t.2.2 = 42
  · have z := (h.isK (x := 7) (k := 7) rfl (by omega)).mpr (rkk_7.mpr q)
    rw [if_pos z, if_pos z, if_pos q]
    exact adv _ (by omega)
  · have z : ¬ i 83 42 = 7 := fun z => q (rkk_7.mp ((h.isK (x := 7) (k := 7) rfl (by omega)).mp z))
    rw [if_neg z, if_neg q, hx]
    cases self
    · rw [if_bf, if_neg (fun z => Bool.false_ne_true z.1), ← show x = bI false from hx]
      exact nam
    · rw [if_bt]
      by_cases q2 : t.2.2 = 210
      · rw [if_pos ((h.isW (x := 11) (k := 11) rfl (by omega)).mpr ((rwd_11 hk).mpr q2)), if_neg z, if_pos ⟨rfl, q2⟩, ← show x = bI true from hx]
        exact adv _ (by omega)
      · rw [if_neg (fun y => q2 ((rwd_11 hk).mp ((h.isW (x := 11) (k := 11) rfl (by omega)).mp y))), if_neg (fun y => q2 y.2), ← show x = bI true from hx]
        exact nam
theorem rwd_c (hk : k < 244) : (15 ≤ rwd k ∧ rwd k ≤ 19) ↔ (220 ≤ k ∧ k ≤ 224) := by
  unfold rwd
  repeat' split
  all_goals omega
/-- a class -/
theorem r_cls (h : TZ X i t) (hW : WDS l) : RI X m w l e i (mm_V 219 0 [some (.ref 83), none] [] (mm_Z m w i l e)) (eI (sCls X t)) := by
  have hk := h.tk.kd h.xw
  have hr := rwd_lt hk
  rw [mr_219_0, h.k5, in_n (a := 15) (b := 19) (c := rwd t.2.2) (xa := 15) (xb := 19) (by omega) (by omega) (by omega) rfl rfl, mb_l, mb_v, mr_219_11]
  unfold sCls
  by_cases q : 220 ≤ t.2.2 ∧ t.2.2 ≤ 224
  · obtain ⟨i1, k1, k2, k3⟩ := h.adv (m := m) (w := w) (e := e) hW (by omega)
    have e5 : rwd t.2.2 = t.2.2 - 205 := by unfold rwd; rw [if_neg (by omega), if_neg (by omega), if_neg (by omega), if_neg (by omega), if_neg (by omega), if_neg (by omega), if_pos (by omega)]
    rw [decide_eq_true ((rwd_c hk).mpr q), if_bt, k1, mb_l, mb_0, mr_219_36, if_pos q, h.k5, show (15 : Int32) = nI 15 by decide, na_sub (by omega)]
    exact ⟨_, i1, rfl, k3, by rw [e5, show t.2.2 - 205 - 15 = t.2.2 - 220 by omega], k2⟩
  · obtain ⟨e1, e2, e3, e4⟩ := h.fl (m := m) (w := w) (l := l) (e := e)
    rw [decide_eq_false (fun z => q ((rwd_c hk).mp z)), if_bf, e1, mb_l, mb_0, mr_219_22, if_neg q]
    exact ⟨0, _, rfl, e2, e3, e4⟩
def mnO (c : Nat) : Nat := if c = 0 then 10 else if c = 1 then 9 else if c = 2 then 5 else if c = 3 then 3 else 1
theorem r_many (hc : c < 5) : mm_V 220 0 [some (.int (nI c))] [] (mm_Z m w i l e) = some (.inl (some (.int (nI (mnO c)))), mm_Z m w i l e) := by
  rw [mr_220_0]
  rcases (show c = 0 ∨ c = 1 ∨ c = 2 ∨ c = 3 ∨ c = 4 by omega) with z | z | z | z | z <;> subst z <;> rfl
def rPl : List (List Nat) := [[40, 41, 42, 43, 44, 45, 46, 47, 48, 49], [40, 50, 51, 52, 43, 44, 46, 47, 48], [53, 54, 55, 56, 57], [40, 41, 43], [58]]
def rPt (c k : Nat) : Nat := (rPl.getD c []).getD k 0
/-- permissions of the classes, in the reference -/
def PTb (i : Nat → Nat → Int32) : Prop := ∀ c, c < 5 → ∀ k, k < mnO c → i 86 (10 * c + k) = nI (rPt c k)
theorem mnO_l : ∀ c, c < 5 → mnO c = (pWs c).length := by decide +kernel
theorem pt_1 : ∀ c, c < 5 → ∀ j, j < 44 → ∀ k, k < mnO c → ((40 ≤ rwd (200 + j) ∧ rPt c k = rwd (200 + j)) ↔ k = wI (pWs c) (WW.getD j [])) := by decide +kernel
theorem pt_2 : ∀ c, c < 5 → ∀ k, k < mnO c → 200 ≤ kW ((pWs c).getD k []) := by decide +kernel
theorem pt_3 : ∀ c, c < 5 → ∀ k, k < mnO c → rPt c k < 100 := by decide +kernel
theorem mnO_1 : ∀ c, c < 5 → 1 ≤ mnO c ∧ mnO c ≤ 10 := by decide +kernel
theorem kW_nil : kW [] = 2 := by decide +kernel
theorem pt_w (hc : c < 5) (ht : TK X t) (hw : XW X) (hk : k < mnO c) : (40 ≤ rwd t.2.2 ∧ rPt c k = rwd t.2.2) ↔ k = wI (pWs c) (tLt X t) := by
  have hd := ht.kd hw
  by_cases q : 200 ≤ t.2.2
  · have l2 := ((ht.lt hw).2.2 (Or.inr q)).2.1
    have := pt_1 c hc (t.2.2 - 200) (by omega) k hk
    rw [show 200 + (t.2.2 - 200) = t.2.2 by omega, kW_at l2 q] at this
    exact this
  · have e0 : rwd t.2.2 = 0 := if_pos (by omega)
    constructor
    · intro z; omega
    · intro z
      exfalso
      have h1 := wI_at (Ws := pWs c) (L := tLt X t) (by rw [← z, ← mnO_l c hc]; exact hk)
      have h2 := pt_2 c hc k hk
      rw [z, h1] at h2
      by_cases q2 : t.2.2 = 2
      · have := ((ht.lt hw).2.2 (Or.inl q2)).2.1
        omega
      · rw [tLt_no (by omega), kW_nil] at h2
        omega
theorem r_per_loop (h : TZ X i t) (hc : c < 5) (hP : PTb i) (hW : WDS l) : ∀ (d k : Nat) (x : Int32), k + d = mnO c → (x = -1 ∨ (wI (pWs c) (tLt X t) < k ∧ x = nI (wI (pWs c) (tLt X t)))) → (wI (pWs c) (tLt X t) < k → x = nI (wI (pWs c) (tLt X t))) → RI X m w l e i (mm_V 221 4 [some (.ref 83), some (.int (nI c)), some (.int x), some (.int (nI k))] [] (mm_Z m w i l e)) (eB (sPer X c t) (fun r => .inr (r.1, nI (2 ^ r.2)))) := by
  have hd := rwd_lt (h.tk.kd h.xw)
  have h1 := mnO_1 c hc
  have hl := mnO_l c hc
  intro d
  induction d with
  | zero =>
    intro k x hk hx hx2
    rw [mr_221_4, r_many hc, mb_l, mb_v, mr_221_9, if_neg (fun z => by have := (nI_ltI (by omega) (by omega)).mp z; omega)]
    unfold sPer
    by_cases q : wI (pWs c) (tLt X t) < (pWs c).length
    · have ex := hx2 (by omega)
      have kn : t.2.2 ≠ 1 := fun z => by
        rw [tLt_no (by omega), pWs_n c hc] at q
        omega
      obtain ⟨i1, k1, k2, k3⟩ := h.adv (m := m) (w := w) (e := e) hW kn
      rw [if_neg (by rw [ex]; exact nI_nn (by omega)), k1, mb_l, mb_0, mr_221_69, if_pos q, ex, sh_1n _ (by omega)]
      exact ⟨_, i1, rfl, k3, rfl, k2⟩
    · obtain ⟨e1, e2, e3, e4⟩ := h.fl (m := m) (w := w) (l := l) (e := e)
      have ex : x = -1 := by
        rcases hx with z | z
        · exact z
        · omega
      rw [if_pos (by rw [ex]; decide), e1, mb_l, mb_0, mr_221_63, if_neg q]
      exact ⟨0, _, rfl, e2, e3, e4⟩
  | succ d ih =>
    intro k x hk hx hx2
    have hp := pt_w hc h.tk h.xw (show k < mnO c by omega)
    have h3 := pt_3 c hc k (by omega)
    rw [mr_221_4, r_many hc, mb_l, mb_v, mr_221_9, if_pos ((nI_ltI (by omega) (by omega)).mpr (by omega)), h.k5, nI_1]
    have no : k ≠ wI (pWs c) (tLt X t) → RI X m w l e i (mm_V 221 4 [some (.ref 83), some (.int (nI c)), some (.int x), some (.int (nI (k + 1)))] [] (mm_Z m w i l e)) (eB (sPer X c t) (fun r => .inr (r.1, nI (2 ^ r.2)))) := fun z => ih (k + 1) x (by omega) (by
      rcases hx with y | y
      · exact Or.inl y
      · exact Or.inr ⟨by omega, y.2⟩) (fun y => hx2 (by omega))
    by_cases q : rwd t.2.2 < 40
    · rw [if_pos (show nI (rwd t.2.2) < 40 from (nI_ltI (b := 40) (by omega) (by omega)).mpr q)]
      exact no (fun z => by have := (hp.mpr z).1; omega)
    · rw [if_neg (show ¬ nI (rwd t.2.2) < 40 from fun z => q ((nI_ltI (b := 40) (by omega) (by omega)).mp z)), na_10, na_mul, nI_add, if_neg (no_out (by omega) (by omega)), nI_clamp (by omega), hP c hc k (by omega)]
      by_cases q2 : rPt c k = rwd t.2.2
      · have ek := hp.mp ⟨by omega, q2⟩
        rw [if_pos (by rw [q2])]
        exact ih (k + 1) (nI k) (by omega) (Or.inr ⟨by omega, by rw [← ek]⟩) (fun _ => by rw [← ek])
      · rw [if_neg (fun z => q2 ((nI_eq (by omega) (by omega)).mp z))]
        exact no (fun z => q2 (hp.mpr z).2)
/-- a permission -/
theorem r_per (h : TZ X i t) (hc : c < 5) (hP : PTb i) (hW : WDS l) : RI X m w l e i (mm_V 221 0 [some (.ref 83), some (.int (nI c)), none, none] [] (mm_Z m w i l e)) (eB (sPer X c t) (fun r => .inr (r.1, nI (2 ^ r.2)))) := by
  rw [mr_221_0]
  exact r_per_loop h hc hP hW (mnO c) 0 (-1) (by omega) (Or.inl rfl) (fun z => by omega)
theorem PTb.tk (h : PTb i) (hf : mG fTk i i') : PTb i' := fun c hc k hk => by rw [hf _ _ (by unfold fTk; omega)]; exact h c hc k hk
theorem r_pes (hW : WDS l) (hc : c < 5) : ∀ (d : Nat) (t : m3) (b : Nat) (i : Nat → Nat → Int32) (x3 : Int32), TZ X i t → PTb i → b < 2 ^ 24 → x3 = (if b ≠ 0 ∧ t.2.2 = 125 then 0 else 1) → 1200 ≤ t.1 + d → RI X m w l e i (mm_V 222 44 [some (.ref 83), some (.int (nI c)), some (.int (nI b)), some (.int x3)] [] (mm_Z m w i l e)) (eI (sPes X c d t b)) := by
  have bad : ∀ (i0 i2 : Nat → Nat → Int32) (v u x x3 : Int32) (p : Nat), i2 83 46 = nI p → p ≤ 1200 → mG fTk i0 i2 → RI X m w l e i0 (mm_V 222 54 [some (.ref 83), some (.int (nI c)), some (.int v), some (.int x3)] [.int x, .int u] (mm_Z m w i2 l e)) (.inl p) := fun i0 i2 v u x x3 p z1 z2 z3 => by
    rw [mr_222_54, r_dead z1 z2, mb_l, mb_v, mr_222_60, if_pos rfl, mr_222_44, if_pos rfl, r_needs z1 z2, mb_l, mb_0, mr_222_85]
    exact ⟨_, i2, rfl, z3, z1, z2⟩
  intro d
  induction d with
  | zero =>
    intro t b i x3 h hP hb hx hl
    have hz := h.xw.1
    have k0 : t.2.2 = 0 := h.tk.ok.2.2.2.2.mpr (by omega)
    have e0 : sPer X c t = .inl t.1 := by unfold sPer; rw [tLt_no (by omega), pWs_n c hc, if_neg (by omega)]
    rw [if_neg (fun z => by omega)] at hx
    obtain ⟨x, i2, f1, f2, f3⟩ := r_per (m := m) (w := w) (l := l) (e := e) h hc hP hW
    rw [e0] at f3
    have f3' : i2 83 46 = nI t.1 ∧ t.1 ≤ 1200 := f3
    rw [mr_222_44, hx, if_neg (by decide), f1, mb_l, mb_v]
    exact bad i i2 _ _ _ _ _ f3'.1 f3'.2 f2
  | succ d ih =>
    intro t b i x3 h hP hb hx hl
    rw [sPes]
    by_cases q : b ≠ 0 ∧ t.2.2 = 125
    · rw [if_pos q] at hx
      obtain ⟨i2, f1, f2, f3⟩ := h.need (m := m) (w := w) (l := l) (e := e) (x := 3) (k := 3) hW rfl (by omega) rkk_3 (by omega)
      rw [if_pos q.2] at f3
      rw [mr_222_44, hx, if_pos rfl, f1, mb_l, mb_0, mr_222_85, if_pos q]
      exact ⟨_, i2, rfl, f2, rfl, f3⟩
    · rw [if_neg q] at hx
      obtain ⟨x, i2, f1, f2, f3⟩ := r_per (m := m) (w := w) (l := l) (e := e) h hc hP hW
      rw [mr_222_44, hx, if_neg (by decide), f1, mb_l, mb_v, if_neg q]
      cases hr : sPer X c t with
      | inl p =>
        rw [hr] at f3
        have f3' : i2 83 46 = nI p ∧ p ≤ 1200 := f3
        exact bad i i2 _ _ _ _ _ f3'.1 f3'.2 f2
      | inr r =>
        rw [hr] at f3
        have f3' : x = nI (2 ^ r.2) ∧ TZ X i2 r.1 := f3
        obtain ⟨m1, m2⟩ := mo_per hc h.tk hr
        have hb2 : (2 : Nat) ^ r.2 < 2 ^ 24 := Nat.pow_lt_pow_right (by decide) (by omega)
        have hb3 := Nat.two_pow_pos r.2
        rw [mr_222_54, r_live f3'.2.k6, mb_l, mb_v, mr_222_60, if_neg (by decide), f3'.1, nI_or (by omega) (by omega)]
        have b0 : b ||| 2 ^ r.2 ≠ 0 := fun z => by
          have := Nat.right_le_or (n := b) (m := 2 ^ r.2)
          omega
        have go : ∀ x3, x3 = (if b ||| 2 ^ r.2 ≠ 0 ∧ r.1.2.2 = 125 then 0 else 1) → RI X m w l e i (mm_V 222 44 [some (.ref 83), some (.int (nI c)), some (.int (nI (b ||| 2 ^ r.2))), some (.int x3)] [] (mm_Z m w i2 l e)) (eI (sPes X c d r.1 (b ||| 2 ^ r.2))) := fun x3 z => (ih r.1 (b ||| 2 ^ r.2) i2 x3 f3'.2 (hP.tk f2) (Nat.or_lt_two_pow hb hb2) z (by have := m1.2; omega)).tr f2
        by_cases q2 : r.1.2.2 = 125
        · rw [if_pos ((f3'.2.isK (x := 3) (k := 3) rfl (by omega)).mpr (rkk_3.mpr q2))]
          exact go _ (by rw [if_pos ⟨b0, q2⟩])
        · rw [if_neg (fun z => q2 (rkk_3.mp ((f3'.2.isK (x := 3) (k := 3) rfl (by omega)).mp z)))]
          exact go _ (by rw [if_neg (fun z => q2 z.2)])
theorem star_v : ∀ c, c < 5 → ((1 : Int32) <<< (nI (mnO c) &&& 31)) - 1 = nI (2 ^ (pWs c).length - 1) := by decide +kernel
/-- permissions -/
theorem r_prm (h : TZ X i t) (hc : c < 5) (hP : PTb i) (hW : WDS l) : RI X m w l e i (mm_V 222 0 [some (.ref 83), some (.int (nI c)), none, none] [] (mm_Z m w i l e)) (eI (sPrm X c t)) := by
  rw [mr_222_0]
  unfold sPrm
  by_cases q : t.2.2 = 42
  · obtain ⟨i1, k1, k2, k3⟩ := h.adv (m := m) (w := w) (e := e) hW (by omega)
    rw [if_pos ((h.isK (x := 7) (k := 7) rfl (by omega)).mpr (rkk_7.mpr q)), k1, mb_l, mb_0, mr_222_13, r_many hc, mb_l, mb_v, mr_222_18, if_pos q, star_v c hc]
    exact ⟨_, i1, rfl, k3, rfl, k2⟩
  · rw [if_neg (fun z => q (rkk_7.mp ((h.isK (x := 7) (k := 7) rfl (by omega)).mp z))), if_neg q]
    by_cases q2 : t.2.2 = 123
    · obtain ⟨i1, k1, k2, k3⟩ := h.adv (m := m) (w := w) (e := e) hW (by omega)
      rw [if_pos ((h.isK (x := 2) (k := 2) rfl (by omega)).mpr (rkk_2.mpr q2)), k1, mb_l, mb_0, mr_222_40, if_pos q2]
      exact (r_pes hW hc 1200 (nx X t) 0 i1 1 k2 (hP.tk k3) (by decide) (by rw [if_neg (fun z => z.1 rfl)]) (by omega)).tr k3
    · rw [if_neg (fun z => q2 (rkk_2.mp ((h.isK (x := 2) (k := 2) rfl (by omega)).mp z))), if_neg q2]
      obtain ⟨x, i2, f1, f2, f3⟩ := r_per (m := m) (w := w) (l := l) (e := e) h hc hP hW
      rw [f1, mb_l, mb_v, mr_222_35]
      refine ⟨_, i2, rfl, f2, ?_⟩
      cases hr : sPer X c t with
      | inl p => rw [hr] at f3; exact f3
      | inr r => rw [hr] at f3; exact f3
end MM163
