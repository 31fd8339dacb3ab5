/-! EVENTS: all events of a text -/
section MM207
variable {X : mX} {w : Bool} {i i' : Nat → Nat → Int32} {l l' : Nat → Nat → Int64} {m : Nat} {e : Bool × Nat × Nat} {n k j p q c d : Nat} {x x1 x2 x3 y pr a b : Int32} {L : List Nat} {t t' : mTk} {V : Option mm_R} {ev : mEv}
def tV (X : mX) (t : mTk) : Prop := ∃ n, n ≤ xz X ∧ t = etk X n
theorem tV.mk (h : n ≤ xz X) : tV X (etk X n) := ⟨n, h, rfl⟩
theorem tV.bd (h : tV X t) : t.1 ≤ t.2.1 ∧ t.2.1 ≤ xz X ∧ t.2.2.1 < 60 ∧ (t.2.2.1 ≠ 0 → t.1 < t.2.1) := by
  obtain ⟨n, h1, h2⟩ := h
  obtain ⟨a1, a2, a3⟩ := etk_k h1
  obtain ⟨_, _, _, a4, _⟩ := etk_bd h1
  rw [h2]
  exact ⟨a1, a2, a3, a4⟩
theorem tV.nx (h : tV X t) : tV X (etk X t.2.1) ∧ t.2.1 ≤ (etk X t.2.1).1 := ⟨tV.mk h.bd.2.1, (etk_bd h.bd.2.1).1⟩
theorem eNl_go : ∀ (d j : Nat) (a b : Int32) (t : mTk), tV X t → eNl X k pr d j a b t = .inr (ev, t') → ev.1 = k ∧ tV X t' ∧ t.1 + 1 ≤ t'.1
  | 0, j, a, b, t, ht, h => by
    rw [eNl] at h
    have hb := ht.bd
    have hn := ht.nx
    split at h
    · rename_i z
      have h3 := hb.2.2.2 (by omega)
      cases h
      exact ⟨rfl, hn.1, by omega⟩
    · cases h
  | d + 1, j, a, b, t, ht, h => by
    rw [eNl] at h
    have hb := ht.bd
    have hn := ht.nx
    split at h
    · obtain ⟨h1, h2, h3⟩ := eNl_go d (j + 1) _ _ _ hn.1 h
      exact ⟨h1, h2, by omega⟩
    · cases h
theorem WA_3 : ∀ j, j < 22 → 3 ≤ (WA.getD j []).length := by decide +kernel
theorem WL_4 : ∀ j, j < 3 → 4 ≤ (WL.getD j []).length := by decide +kernel
theorem tV_wd (ht : tV X t) (h : t.2.2.1 = 2) (hv : t.2.2.2 < 25) : t.1 + 3 ≤ t.2.1 ∧ (22 ≤ t.2.2.2 → t.1 + 4 ≤ t.2.1) := by
  obtain ⟨n, h1, h2⟩ := ht
  have key : ∀ p, eW (wl X p) < 25 → p + 3 ≤ lE X p ∧ (22 ≤ eW (wl X p) → p + 4 ≤ lE X p) := fun p hp => by
    have hl : (wl X p).length ≤ lE X p - p := by
      unfold wl
      split
      · rw [sg_len]; exact Nat.le_refl _
      · exact Nat.zero_le _
    by_cases q1 : wI WA (wl X p) < 22
    · have e1 := eW_A q1
      have e2 := WA_3 _ q1
      rw [wI_at (by rw [WA_len]; exact q1)] at e2
      exact ⟨by omega, fun z => by omega⟩
    · by_cases q2 : wI WL (wl X p) < 3
      · have e2 := WL_4 _ q2
        rw [wI_at (by rw [WL_len]; exact q2)] at e2
        exact ⟨by omega, fun z => by omega⟩
      · unfold eW at hp
        rw [if_neg q1, if_neg q2] at hp
        omega
  subst h2
  revert h hv
  unfold etk
  split
  · split
    · intro _ hv
      exact key _ hv
    · split
      · intro z _
        exfalso
        have z : (if 8 < nmE X (bb X n) - bb X n then 1 else 3) = 2 := z
        split at z <;> omega
      · intro z _
        exfalso
        have z : (if xs X (bb X n) = 59 then 59 else 1) = 2 := z
        split at z <;> omega
  · intro z _
    exact absurd (show 0 = 2 from z) (by decide)
theorem eWd_go {lo : Bool} (ht : tV X t) (h : eWd X pr lo t = .inr (ev, t')) : ev.1 < 25 ∧ tV X t' ∧ t.1 + 4 ≤ t'.1 ∧ (lo = true → t.1 + 5 ≤ t'.1) ∧ t.2.2.1 = 2 := by
  by_cases z : eGd lo t
  · rw [show eWd X pr lo t = eNl X t.2.2.2 pr (eNu t.2.2.2) 0 0 0 (etk X t.2.1) from if_pos z] at h
    have hv : t.2.2.2 < 25 := by
      have := z.2
      cases lo with
      | true => rw [if_pos rfl] at this; omega
      | false => rw [if_neg Bool.false_ne_true] at this; omega
    obtain ⟨w1, w2⟩ := tV_wd ht z.1 hv
    have hn := ht.nx
    obtain ⟨e1, e2, e3⟩ := eNl_go _ _ _ _ _ hn.1 h
    refine ⟨by omega, e2, by omega, fun hl => ?_, z.1⟩
    have := z.2
    rw [if_pos hl] at this
    have := w2 this.1
    omega
  · rw [show eWd X pr lo t = .inl t.1 from if_neg z] at h
    cases h
theorem eRd_go (ht : tV X t) (h : eRd X t = .inr (ev, t')) : ev.1 < 25 ∧ tV X t' ∧ t.1 + 5 ≤ t'.1 ∧ t.2.2.1 ≠ 0 := by
  unfold eRd at h
  have hb := ht.bd
  have hn := ht.nx
  split at h
  · rename_i z
    obtain ⟨a1, a2, a3, _, _⟩ := eWd_go hn.1 h
    have := hb.2.2.2 (by omega)
    exact ⟨a1, a2, by omega, by omega⟩
  · obtain ⟨a1, a2, _, a3, a4⟩ := eWd_go ht h
    exact ⟨a1, a2, a3 rfl, by omega⟩
theorem eRd_0 (h : t.2.2.1 = 0) : eRd X t = .inl t.1 := by
  unfold eRd
  rw [if_neg (by omega), eWd, if_neg (fun z => by have := z.1; omega)]
def eAl (X : mX) : Nat → mTk → Nat ⊕ List mEv
  | 0, _ => .inr []
  | d + 1, t => if t.2.2.1 = 0 then .inr [] else match eRd X t with
    | .inl p => .inl p
    | .inr r => match eAl X d r.2 with
      | .inl p => .inl p
      | .inr L => .inr (r.1 :: L)
theorem eAl_0 (h : t.2.2.1 = 0) : eAl X d t = .inr [] := by
  cases d with
  | zero => rfl
  | succ d => rw [eAl, if_pos h]
theorem eAl_f (h : t.2.2.1 ≠ 0) (h2 : eRd X t = .inl p) : eAl X (d + 1) t = .inl p := by
  rw [eAl, if_neg h, h2]
theorem eAl_s {r : mEv × mTk} (h : t.2.2.1 ≠ 0) (h2 : eRd X t = .inr r) : eAl X (d + 1) t = (match eAl X d r.2 with
      | .inl p => .inl p
      | .inr L => .inr (r.1 :: L)) := by
  rw [eAl, if_neg h, h2]
theorem eAl_len : ∀ (d : Nat) (t : mTk) (Q : List mEv), tV X t → eAl X d t = .inr Q → 5 * Q.length + t.1 ≤ xz X ∧ (∀ v, v ∈ Q → v.1 < 25)
  | 0, t, Q, ht, h => by
    rw [eAl] at h
    cases h
    have := ht.bd
    exact ⟨by show 5 * 0 + t.1 ≤ xz X; omega, fun v hv => absurd hv List.not_mem_nil⟩
  | d + 1, t, Q, ht, h => by
    have hb := ht.bd
    by_cases z : t.2.2.1 = 0
    · rw [eAl_0 z] at h
      cases h
      exact ⟨by show 5 * 0 + t.1 ≤ xz X; omega, fun v hv => absurd hv List.not_mem_nil⟩
    · cases hr : eRd X t with
      | inl p => rw [eAl_f z hr] at h; cases h
      | inr r =>
        obtain ⟨ev, t'⟩ := r
        obtain ⟨a1, a2, a3, _⟩ := eRd_go ht hr
        rw [eAl_s z hr] at h
        cases h2 : eAl X d t' with
        | inl p => simp only [h2] at h; cases h
        | inr L =>
          simp only [h2] at h
          cases h
          obtain ⟨b1, b2⟩ := eAl_len d t' L a2 h2
          refine ⟨by rw [List.length_cons]; omega, fun v hv => ?_⟩
          rcases List.mem_cons.mp hv with hv | hv
          · rw [hv]; exact a1
          · exact b2 v hv
/-- the class looks for a fault -/
theorem c_fl (hw : XW X) : ∀ (d c : Nat) (t : mTk) (i : Nat → Nat → Int32) (l : Nat → Nat → Int64), tV X t → 5 * c ≤ t.1 → 1205 ≤ t.1 + 5 * d → XC X i → ES i → EC i l t → ∃ i' l', mm_V 26 6 [some (.ref 29), some (.int (nI c))] [] (mm_Z m w i l e) = some (.inl (some (.int (match eAl X d t with | .inl p => nI p | .inr _ => -1))), mm_Z m w i' l' e) ∧ mG fEv i i' ∧ lG lEc l l'
  | 0, c, t, i, l, ht, hc, hd, hX, hS, hE => by
    have hz := hw.le
    have hb := ht.bd
    omega
  | d + 1, c, t, i, l, ht, hc, hd, hX, hS, hE => by
    have hz := hw.le
    have hb := ht.bd
    rw [mr_26_6, if_neg (show ¬ (1200 : Int32) < nI c from fun z => by have := (nI_ltI (a := 1200) (by omega) (by omega)).mp z; omega), hE.2.2.1]
    by_cases z : t.2.2.1 = 0
    · rw [if_pos (show nI t.2.2.1 = 0 by rw [z]; rfl), eAl_0 z]
      exact ⟨i, l, rfl, mG.rf, lG.rf⟩
    · rw [if_neg (show ¬ nI t.2.2.1 = 0 from fun y => z ((nI_eq (b := 0) (by omega) (by omega)).mp y))]
      obtain ⟨i1, l1, f1, f2, f3⟩ := c_rd (m := m) (w := w) (e := e) hX hw hS hE hb.2.1 hb.2.2.1
      cases hr : eRd X t with
      | inl p =>
        rw [hr] at f3
        obtain ⟨f3, f4⟩ := f3
        rw [f3, mb_l, mb_v, mr_26_24, if_pos rfl, f4, eAl_f z hr]
        exact ⟨i1, l1, rfl, f1, f2⟩
      | inr r =>
        rw [hr] at f3
        obtain ⟨f3, f4, _⟩ := f3
        obtain ⟨a1, a2, a3, _⟩ := eRd_go ht hr
        rw [f3, mb_l, mb_v, mr_26_24, if_neg (by decide), nI_1, eAl_s z hr]
        obtain ⟨i2, l2, g1, g2, g3⟩ := c_fl hw d (c + 1) r.2 i1 l1 a2 (by omega) (by omega) (hX.ev f1) (hS.ev f1) f4
        refine ⟨i2, l2, ?_, f1.tr g2, f2.tr g3⟩
        rw [g1]
        cases eAl X d r.2 <;> rfl
def eRs (X : mX) : Nat ⊕ List mEv := eAl X 241 (etk X 0)
theorem c_start (hX : XC X i) (hw : XW X) : ∃ i' l', mm_V 27 0 [some (.ref 29)] [] (mm_Z m w i l e) = some (.inl none, mm_Z m w i' l' e) ∧ EC i' l' (etk X 0) ∧ mG fEv i i' ∧ lG lEc l l' := by
  have f1 : mG fEv i (mm_ww i 29 2 0) := mG.ww (by unfold fEv; omega)
  obtain ⟨i1, l1, e1, g1, g2, g3⟩ := ec_adv (m := m) (w := w) (l := l) (e := e) (n := 0) (hX.ev f1) hw mw_s (Nat.zero_le _)
  rw [mr_27_0, e1, mb_l, mb_0, mr_27_9]
  exact ⟨i1, l1, rfl, g1, f1.tr (fEc_v g2), g3⟩
theorem c_fault (hX : XC X i) (hw : XW X) (hS : ES i) : ∃ i' l', mm_V 26 0 [some (.ref 29), none] [] (mm_Z m w i l e) = some (.inl (some (.int (match eRs X with | .inl p => nI p | .inr _ => -1))), mm_Z m w i' l' e) ∧ mG fEv i i' ∧ lG lEc l l' := by
  obtain ⟨i1, l1, e1, g1, g2, g3⟩ := c_start (m := m) (w := w) (l := l) (e := e) hX hw
  obtain ⟨i2, l2, h1, h2, h3⟩ := c_fl (m := m) (w := w) (e := e) hw 241 0 (etk X 0) i1 l1 (tV.mk (Nat.zero_le _)) (by omega) (by omega) (hX.ev g2) (hS.ev g2) g1
  have h1 : mm_V 26 6 [some (.ref 29), some (.int 0)] [] (mm_Z m w i1 l1 e) = _ := h1
  rw [mr_26_0, e1, mb_l, mb_0, mr_26_4, h1]
  exact ⟨i2, l2, rfl, g2.tr h2, g3.tr h3⟩
/-- the reference reads all events -/
def fEq (c k j : Nat) : Prop := (k = 83 ∧ (j = 43 ∨ j = 69 ∨ (74 ≤ j ∧ j ≤ 76))) ∨ (131 ≤ k ∧ k ≤ 134 ∧ c ≤ j)
theorem r_fl (hw : XW X) (hW : EWD l) : ∀ (d c : Nat) (t : mTk) (i : Nat → Nat → Int32), tV X t → 5 * c ≤ t.1 → 1205 ≤ t.1 + 5 * d → XP X i → ER i t → i 83 69 = nI c → ∃ i', mG (fEq c) i i' ∧ (match eAl X d t with
    | .inl p => mm_V 332 16 [some (.ref 83), some (.int 1), none, none, none] [] (mm_Z m w i l e) = mm_V 332 36 [some (.ref 83), some (.int 0), none, none, none] [] (mm_Z m w i' l e) ∧ i' 83 43 = nI p
    | .inr Q => mm_V 332 16 [some (.ref 83), some (.int 1), none, none, none] [] (mm_Z m w i l e) = mm_V 332 36 [some (.ref 83), some (.int 1), none, none, none] [] (mm_Z m w i' l e) ∧ i' 83 69 = nI (c + Q.length) ∧ (∀ k v, Q[k]? = some v → SE i' (c + k) v))
  | 0, c, t, i, ht, hc, hd, hX, hE, h69 => by
    have hz := hw.le
    have hb := ht.bd
    omega
  | d + 1, c, t, i, ht, hc, hd, hX, hE, h69 => by
    have hz := hw.le
    have hb := ht.bd
    rw [mr_332_16, if_neg (by decide), hE.2.2.1]
    by_cases z : t.2.2.1 = 0
    · rw [if_pos (eK_0.mpr z), eAl_0 z]
      exact ⟨i, mG.rf, rfl, h69, fun k v hk => by cases hk⟩
    · rw [if_neg (fun y => z (eK_0.mp y))]
      obtain ⟨i1, f1, f3⟩ := r_rd (m := m) (w := w) (e := e) (n := c) hX hw hW (by omega) hE hb.2.1 h69
      have f1' : mG (fEq c) i i1 := f1.mo (fun k j z => by unfold fEs at z; unfold fEq; omega)
      cases hr : eRd X t with
      | inl p =>
        rw [hr] at f3
        obtain ⟨f3, f4⟩ := f3
        rw [f3, mb_l, mb_v, mr_332_32, mr_332_16, if_pos rfl, eAl_f z hr]
        exact ⟨i1, f1', rfl, f4⟩
      | inr r =>
        rw [hr] at f3
        obtain ⟨f3, f4, f5, f6⟩ := f3
        obtain ⟨a1, a2, a3, _⟩ := eRd_go ht hr
        rw [f3, mb_l, mb_v, mr_332_32, eAl_s z hr]
        obtain ⟨i2, g1, g2⟩ := r_fl hw hW d (c + 1) r.2 i1 a2 (by omega) (by omega) (hX.es f1) f4 f6
        have g1' : mG (fEq c) i i2 := f1'.tr (g1.mo (fun k j z => by unfold fEq at z; unfold fEq; omega))
        refine ⟨i2, g1', ?_⟩
        cases h2 : eAl X d r.2 with
        | inl p =>
          rw [h2] at g2
          exact g2
        | inr L =>
          rw [h2] at g2
          obtain ⟨k1, k2, k3⟩ := g2
          refine ⟨k1, by rw [k2, List.length_cons]; congr 1; omega, fun k v hk => ?_⟩
          rcases k with _ | k
          · rw [List.getElem?_cons_zero] at hk
            cases hk
            have fr : ∀ k, 131 ≤ k → k ≤ 134 → i2 k c = i1 k c := fun k h1 h2 => g1 _ _ (by unfold fEq; omega)
            obtain ⟨s1, s2, s3, s4, s5⟩ := f5
            exact ⟨by rw [Nat.add_zero, fr _ (by omega) (by omega)]; exact s1, by rw [Nat.add_zero, fr _ (by omega) (by omega)]; exact s2, fun y => by rw [Nat.add_zero, fr _ (by omega) (by omega)]; exact s3 y, fun y => by rw [Nat.add_zero, fr _ (by omega) (by omega)]; exact s4 y, s5⟩
          · rw [List.getElem?_cons_succ] at hk
            have := k3 k v hk
            rw [show c + (k + 1) = c + 1 + k by omega]
            exact this
end MM207
