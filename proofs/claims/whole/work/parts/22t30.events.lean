/-! EVENTS: events are done, class and reference -/
section MM208
variable {X : mX} {w : Bool} {i i' : Nat → Nat → Int32} {l l' : Nat → Nat → Int64} {m : Nat} {e : Bool × Nat × Nat} {n k j p q c d b : Nat} {x x1 x2 x3 y pr : Int32} {t t' : mTk} {V : Option mm_R} {ev : mEv} {o : mOl} {R : List Int32} {π : mP} {ψ : mS}
/-- places that no part of the loaded state is -/
def fOc (k _j : Nat) : Prop := k ≤ 2 ∨ k = 28 ∨ k = 29 ∨ 80 ≤ k
def fO (k j : Nat) : Prop := k ≤ 82 ∨ 146 ≤ k ∨ (k = 83 ∧ (j ≤ 4 ∨ j = 6 ∨ (8 ≤ j ∧ j ≤ 13) ∨ (40 ≤ j ∧ j ≤ 56) ∨ (58 ≤ j ∧ j ≤ 78) ∨ (80 ≤ j ∧ j ≤ 83) ∨ (87 ≤ j ∧ j ≤ 90))) ∨ (84 ≤ k ∧ k ≤ 86) ∨ (88 ≤ k ∧ k ≤ 91) ∨ k = 111 ∨ k = 112 ∨ (130 ≤ k ∧ k ≤ 135)
theorem OC.fo (h : OC w i o) (hf : mG fOc i i') : OC w i' o := by
  cases o with
  | none => exact NCz.kp h (fun k j a _ _ => hf k j (by unfold fOc; omega))
  | some o =>
    refine CS.kp h (fun k j a _ _ => hf k j (by unfold fOc; omega)) (PC.kp h.2.2.2.2.2.1 (fun k j a b => hf k j ?_))
    unfold fOc
    cases w
    · have a : 4 + 1 ≤ k := a
      have b : k ≤ 4 + 18 := b
      omega
    · have a : 31 + 1 ≤ k := a
      have b : k ≤ 31 + 18 := b
      omega
theorem OR.fo (h : OR i o) (hf : mG fO i i') : OR i' o := by
  have far : ∀ k j, ¬ (k ≤ 82 ∨ 146 ≤ k ∨ (k = 83 ∧ (j ≤ 4 ∨ j = 6 ∨ (8 ≤ j ∧ j ≤ 13) ∨ (40 ≤ j ∧ j ≤ 56) ∨ (58 ≤ j ∧ j ≤ 78) ∨ (80 ≤ j ∧ j ≤ 83) ∨ (87 ≤ j ∧ j ≤ 90))) ∨ (84 ≤ k ∧ k ≤ 86) ∨ (88 ≤ k ∧ k ≤ 91) ∨ k = 111 ∨ k = 112 ∨ (130 ≤ k ∧ k ≤ 135)) → i' k j = i k j := hf
  cases o with
  | none =>
    obtain ⟨h1, h2, h3, h4⟩ := h
    exact ⟨h1.kp (fun k j a b => far k j (by omega)), h2.kp (far _ _ (by omega)) (fun j => far _ _ (by omega)), h3.kp (fun j _ => far _ _ (by omega)) (fun k j a b => far k j (by omega)), (far _ _ (by omega)).trans h4⟩
  | some q =>
    obtain ⟨⟨h1, h2, h3, h4, h5, h6, h7⟩, h8⟩ := h
    exact ⟨⟨h1.kp (fun k j a b => far k j (by omega)), h2.kp (fun j => far _ _ (by omega)), h3.kp (far _ _ (by omega)) (fun j => far _ _ (by omega)), h4.kp (fun k j a b => far k j (by omega)), h5.kp (fun j _ => far _ _ (by omega)) (fun k j a b => far k j (by omega)), h6.kp (fun j a => far _ _ (by omega)) (fun k j a b => far k j (by omega)), (far _ _ (by omega)).trans h7⟩, h8.kp (far _ _ (by omega)) (fun j => far _ _ (by omega))⟩
theorem eNl_in {k : Nat} : ∀ (d j : Nat) (a b : Int32) (t : mTk), tV X t → eNl X k pr d j a b t = .inl p → p ≤ xz X
  | 0, j, a, b, t, ht, h => by
    have hb := ht.bd
    rw [eNl] at h
    split at h
    · cases h
    · cases h; omega
  | d + 1, j, a, b, t, ht, h => by
    have hb := ht.bd
    rw [eNl] at h
    split at h
    · exact eNl_in d (j + 1) _ _ _ ht.nx.1 h
    · cases h; omega
theorem eWd_in {lo : Bool} (ht : tV X t) (h : eWd X pr lo t = .inl p) : p ≤ xz X := by
  have hb := ht.bd
  by_cases z : eGd lo t
  · rw [show eWd X pr lo t = eNl X t.2.2.2 pr (eNu t.2.2.2) 0 0 0 (etk X t.2.1) from if_pos z] at h
    exact eNl_in _ _ _ _ _ ht.nx.1 h
  · rw [show eWd X pr lo t = .inl t.1 from if_neg z] at h
    cases h; omega
theorem eRd_in (ht : tV X t) (h : eRd X t = .inl p) : p ≤ xz X := by
  unfold eRd at h
  split at h
  · exact eWd_in ht.nx.1 h
  · exact eWd_in ht h
theorem eAl_in : ∀ (d : Nat) (t : mTk), tV X t → eAl X d t = .inl p → p ≤ xz X
  | 0, t, ht, h => by rw [eAl] at h; cases h
  | d + 1, t, ht, h => by
    by_cases z : t.2.2.1 = 0
    · rw [eAl_0 z] at h; cases h
    · cases hr : eRd X t with
      | inl p' => rw [eAl_f z hr] at h; cases h; exact eRd_in ht hr
      | inr r =>
        rw [eAl_s z hr] at h
        cases h2 : eAl X d r.2 with
        | inl p' => simp only [h2] at h; cases h; exact eAl_in d r.2 (eRd_go ht hr).2.1 h2
        | inr L => simp only [h2] at h; cases h
noncomputable def eRun : List mEv → mOl → List Int32 × mOl
  | [], o => ([], o)
  | ev :: Q, o => (aCd (wEv ev o).1 :: (eRun Q (wEv ev o).2).1, (eRun Q (wEv ev o).2).2)
theorem eRun_len : ∀ (Q : List mEv) (o : mOl), (eRun Q o).1.length = Q.length
  | [], o => rfl
  | ev :: Q, o => by
    show (eRun Q (wEv ev o).2).1.length + 1 = Q.length + 1
    rw [eRun_len Q]
/-- on the way all is well -/
def eOV : Nat → List mEv → mOl → Prop
  | b, [], o => OV b o
  | b, ev :: Q, o => OV b o ∧ aOkA (wEv ev o).1 ∧ eOV (b + 16) Q (wEv ev o).2
def fCe (k j : Nat) : Prop := fC k j ∨ fEv k j ∨ (k = 0 ∧ j = 9) ∨ k = 82 ∨ (k = 1 ∧ j = 1)
theorem fEv_oc (h : mG fEv i i') : mG fOc i i' := h.mo (fun k j z => by unfold fEv at z; unfold fOc; omega)
theorem fEv_ce (h : mG fEv i i') : mG fCe i i' := h.mo (fun k j z => Or.inr (Or.inl z))
theorem c_el (hw : XW X) : ∀ (d c : Nat) (t : mTk) (i : Nat → Nat → Int32) (l : Nat → Nat → Int64) (o : mOl) (b : Nat) (Q : List mEv), eAl X d t = .inr Q → c + Q.length ≤ 240 → tV X t → 1205 ≤ t.1 + 5 * d → XC X i → ES i → EC i l t → OC w i o → OV b o → OB o → b + 16 * Q.length < 2 ^ 29 → i 0 9 = nI c → ∃ i' l', mm_V 179 27 [some (.ref 0), some (.int (-1)), some (.int (nI c))] [] (mm_Z m w i l e) = some (.inl (some (.int (-1))), mm_Z m w (mm_ww i' 1 1 0) l' e) ∧ mG fCe i i' ∧ lG lEc l l' ∧ OC w i' (eRun Q o).2 ∧ OV (b + 16 * Q.length) (eRun Q o).2 ∧ OB (eRun Q o).2 ∧ i' 0 9 = nI (c + Q.length) ∧ (∀ k v, (eRun Q o).1[k]? = some v → i' 82 (c + k) = v) ∧ (∀ k, k < c → i' 82 k = i 82 k) ∧ eOV b Q o
  | 0, c, t, i, l, o, b, Q, hQ, hc, ht, hd, hX, hS, hE, ho, hv, hB, hb, h9 => by
    have hz := hw.le
    have hb := ht.bd
    omega
  | d + 1, c, t, i, l, o, b, Q, hQ, hc, ht, hd, hX, hS, hE, ho, hv, hB, hb, h9 => by
    have hz := hw.le
    have tb := ht.bd
    rw [mr_179_27]
    by_cases z : t.2.2.1 = 0
    · rw [eAl_0 z] at hQ
      cases hQ
      by_cases c2 : c < 240
      · obtain ⟨i1, l1, f1, f2, f3⟩ := c_rd (m := m) (w := w) (e := e) hX hw hS hE tb.2.1 tb.2.2.1
        rw [eRd_0 z] at f3
        obtain ⟨f3, f4⟩ := f3
        rw [if_pos (show nI c < Int32.ofNat 240 from (nI_ltI (b := 240) (by omega) (by omega)).mpr c2), f3, mb_l, mb_v, mr_179_43, if_pos rfl]
        exact ⟨i1, l1, rfl, fEv_ce f1, f2, ho.fo (fEv_oc f1), hv, hB, by rw [f1 _ _ (by unfold fEv; omega)]; exact h9, fun k v hk => (by cases hk), fun k _ => f1 _ _ (by unfold fEv; omega), hv⟩
      · rw [if_neg (show ¬ nI c < Int32.ofNat 240 from fun y => c2 ((nI_ltI (b := 240) (by omega) (by omega)).mp y))]
        exact ⟨i, l, rfl, mG.rf, lG.rf, ho, hv, hB, h9, fun k v hk => (by cases hk), fun k _ => rfl, hv⟩
    · cases hr : eRd X t with
      | inl p => rw [eAl_f z hr] at hQ; cases hQ
      | inr r =>
        rw [eAl_s z hr] at hQ
        cases h2 : eAl X d r.2 with
        | inl p => simp only [h2] at hQ; cases hQ
        | inr L =>
          simp only [h2] at hQ
          cases hQ
          rw [List.length_cons] at hc hb
          obtain ⟨a1, a2, a3, _⟩ := eRd_go ht hr
          obtain ⟨i1, l1, f1, f2, f3⟩ := c_rd (m := m) (w := w) (e := e) hX hw hS hE tb.2.1 tb.2.2.1
          rw [hr] at f3
          obtain ⟨f3, f4, f5, f6, f7, f8⟩ := f3
          rw [if_pos (show nI c < Int32.ofNat 240 from (nI_ltI (b := 240) (by omega) (by omega)).mpr (by omega)), f3, mb_l, mb_v, mr_179_43, if_neg (by decide), f5, f6, f7, f8]
          obtain ⟨i2, e2, g1, g2, g3, g4, g5⟩ := c_event (m := m) (l := l1) (e := e) a1 (ho.fo (fEv_oc f1)) hv (by omega) hB
          have far : ∀ k j, ¬ ((k = 30 ∧ j ≠ 1) ∨ (50 ≤ k ∧ k ≤ 80)) → i2 k j = i1 k j := g1
          have h9' : i2 0 9 = nI c := by rw [far _ _ (by omega), f1 _ _ (by unfold fEv; omega)]; exact h9
          rw [e2, mb_l, mb_v, mr_179_83, if_neg (no_out (by omega) (by omega)), nI_clamp (by omega), nI_1, h9', nI_1]
          have far3 : ∀ k j, ¬ (k = 82 ∨ (k = 0 ∧ j = 9)) → mm_ww (mm_ww i2 82 c (aCd (wEv r.1 o).1)) 0 9 (nI (c + 1)) k j = i2 k j := fun k j y => by rw [mw_ne (by omega), mw_ne (by omega)]
          have s82 : mm_ww (mm_ww i2 82 c (aCd (wEv r.1 o).1)) 0 9 (nI (c + 1)) 82 c = aCd (wEv r.1 o).1 := by rw [mw_k (by decide), mw_s]
          have s82' : ∀ k, k < c → mm_ww (mm_ww i2 82 c (aCd (wEv r.1 o).1)) 0 9 (nI (c + 1)) 82 k = i 82 k := fun k hk => by rw [mw_k (by decide), mw_j (by omega), far _ _ (by omega), f1 _ _ (by unfold fEv; omega)]
          have s9 : mm_ww (mm_ww i2 82 c (aCd (wEv r.1 o).1)) 0 9 (nI (c + 1)) 0 9 = nI (c + 1) := mw_s
          generalize mm_ww (mm_ww i2 82 c (aCd (wEv r.1 o).1)) 0 9 (nI (c + 1)) = i3 at far3 s82 s82' s9
          have all : ∀ k j, ¬ ((k = 30 ∧ j ≠ 1) ∨ (50 ≤ k ∧ k ≤ 80) ∨ k = 82 ∨ (k = 0 ∧ j = 9)) → i3 k j = i1 k j := fun k j y => by rw [far3 k j (by omega), far k j (by omega)]
          obtain ⟨i4, l4, k1, k2, k3, k4, k5, k6, k7, k8, k9, k10⟩ := c_el hw d (c + 1) r.2 i3 l1 (wEv r.1 o).2 (b + 16) L h2 (by omega) a2 (by omega) ((hX.ev f1).kp (all _ _ (by omega)) (fun j => all _ _ (by omega))) (fun k hk => by rw [all _ _ (by omega)]; exact hS.ev f1 k hk) ⟨by rw [all _ _ (by omega)]; exact f4.1, by rw [all _ _ (by omega)]; exact f4.2.1, by rw [all _ _ (by omega)]; exact f4.2.2.1, fun y => by rw [all _ _ (by omega)]; exact f4.2.2.2.1 y, f4.2.2.2.2⟩ (g2.fo (fun k j y => far3 k j (by unfold fOc at y; omega))) g3 g4 (by omega) s9
          refine ⟨i4, l4, k1, ?_, f2.tr k3, k4, ?_, k6, ?_, fun k v hk => ?_, fun k hk => ?_, hv, g5, k10⟩
          · refine ((fEv_ce f1).tr (fun k j y => ?_)).tr k2
            rw [far3 k j (by unfold fCe at y; omega), g1 k j (fun q => y (Or.inl q))]
          · rw [List.length_cons, show b + 16 * (L.length + 1) = b + 16 + 16 * L.length by omega]; exact k5
          · rw [k7, List.length_cons]; congr 1; omega
          · rcases k with _ | k
            · have hk : some (aCd (wEv r.1 o).1) = some v := hk
              cases hk
              rw [Nat.add_zero, k9 c (by omega), s82]
            · have hk : (eRun L (wEv r.1 o).2).1[k]? = some v := hk
              rw [show c + (k + 1) = c + 1 + k by omega]
              exact k8 k v hk
          · rw [k9 k (by omega), s82' k hk]
end MM208
section MM209
variable {X : mX} {w : Bool} {i i' : Nat → Nat → Int32} {l l' : Nat → Nat → Int64} {m : Nat} {e : Bool × Nat × Nat} {n k j p q c d b : Nat} {x x1 x2 x3 y pr : Int32} {t t' : mTk} {V : Option mm_R} {ev : mEv} {o : mOl} {R : List Int32} {π : mP} {ψ : mS}
/-- results of events: class, reference -/
def CR (i : Nat → Nat → Int32) (R : List Int32) : Prop := i 0 9 = nI R.length ∧ ∀ k v, R[k]? = some v → i 82 k = v
def RR (i : Nat → Nat → Int32) (R : List Int32) : Prop := i 83 77 = nI R.length ∧ ∀ k v, R[k]? = some v → i 135 k = v
noncomputable def wEs (X : mX) (R : List Int32) (o : mOl) : mA × List Int32 × mOl := match eRs X with
  | .inl p => (.inl (some (nI p)), R, o)
  | .inr Q => (.inl (some (-1)), (eRun Q o).1, (eRun Q o).2)
theorem c_events (hX : XC X i) (hw : XW X) (hS : ES i) (ho : OC w i o) (hv : OV b o) (hB : OB o) (hb : b + 3840 < 2 ^ 29) (hR : CR i R) (hl : R.length ≤ 240) : ∃ i' l', mm_V 179 0 [some (.ref 0), none, none] [] (mm_Z m w i l e) = some (aAn (wEs X R o).1, mm_Z m w i' l' e) ∧ mG fCe i i' ∧ lG lEc l l' ∧ OC w i' (wEs X R o).2.2 ∧ OV (b + 3840) (wEs X R o).2.2 ∧ OB (wEs X R o).2.2 ∧ CR i' (wEs X R o).2.1 ∧ (wEs X R o).2.1.length ≤ 240 ∧ XC (xEd X 0) i' ∧ (∀ Q, eRs X = .inr Q → eOV b Q o ∧ Q.length ≤ 240) := by
  have hz := hw.le
  obtain ⟨i1, l1, e1, g1, g2⟩ := c_fault (m := m) (w := w) (l := l) (e := e) hX hw hS
  rw [mr_179_0, e1, mb_l, mb_v, mr_179_7]
  have xd : ∀ i, XC (xEd X 0) (mm_ww i 1 1 0) := fun i => ⟨mw_s, fun k hk => absurd (show k < 0 from hk) (by omega)⟩
  unfold wEs
  cases hr : eRs X with
  | inl p =>
    have hp := eAl_in 241 _ (tV.mk (Nat.zero_le _)) hr
    have f3 : mG fCe i (mm_ww i1 1 1 0) := (fEv_ce g1).tr (mG.ww (by unfold fCe; omega))
    have all : ∀ k j, ¬ (k = 29 ∨ (k = 1 ∧ j = 1)) → mm_ww i1 1 1 0 k j = i k j := fun k j y => by rw [mw_ne (by omega), g1 k j (by unfold fEv; omega)]
    simp only
    rw [if_neg (ne_m1 (by omega))]
    exact ⟨_, l1, rfl, f3, g2, ho.fo (fun k j y => all k j (by unfold fOc at y; omega)), hv.up (by omega), hB, ⟨by rw [all _ _ (by omega)]; exact hR.1, fun k v hk => by rw [all _ _ (by omega)]; exact hR.2 k v hk⟩, hl, xd _, fun Q h => by cases h⟩
  | inr Q =>
    simp only
    obtain ⟨b1, b2⟩ := eAl_len 241 _ Q (tV.mk (Nat.zero_le _)) hr
    have hQ : Q.length ≤ 240 := by omega
    have f0 : mG fOc i1 (mm_ww i1 0 9 0) := mG.ww (by unfold fOc; omega)
    have hX1 : XC X (mm_ww i1 0 9 0) := (hX.ev g1).kp (by rw [mw_k (by omega)]) (fun j => by rw [mw_k (by omega)])
    obtain ⟨i2, l2, e2, k1, k2, k3⟩ := c_start (m := m) (w := w) (l := l1) (e := e) hX1 hw
    have hS2 : ES i2 := fun k hk => by rw [k2 _ _ (by unfold fEv; omega), mw_k (by omega)]; exact hS.ev g1 k hk
    obtain ⟨i3, l3, h1, h2, h3, h4, h5, h6, h7, h8, _, h10⟩ := c_el (m := m) (e := e) hw 241 0 (etk X 0) i2 l2 o b Q hr (by omega) (tV.mk (Nat.zero_le _)) (by omega) (hX1.ev k2) hS2 k1 (((ho.fo (fEv_oc g1)).fo f0).fo (fEv_oc k2)) hv hB (by omega) (by rw [k2 _ _ (by unfold fEv; omega), mw_s]; rfl)
    have h1 : mm_V 179 27 [some (.ref 0), some (.int (-1)), some (.int 0)] [] (mm_Z m w i2 l2 e) = _ := h1
    rw [if_pos trivial, e2, mb_l, mb_0, mr_179_25, h1]
    have f9 : mG fCe i1 (mm_ww i1 0 9 0) := mG.ww (by unfold fCe; omega)
    refine ⟨_, l3, rfl, ((((fEv_ce g1).tr f9).tr (fEv_ce k2)).tr h2).tr (mG.ww (by unfold fCe; omega)), (g2.tr k3).tr h3, h4.fo (mG.ww (by unfold fOc; omega)), h5.up (by omega), h6, ⟨?_, fun k v hk => ?_⟩, ?_, xd _, fun Q' hQ' => ?_⟩
    · rw [mw_k (by decide), h7, eRun_len, Nat.zero_add]
    · rw [mw_k (by decide)]
      have := h8 k v hk
      rw [Nat.zero_add] at this
      exact this
    · rw [eRun_len]; exact hQ
    · cases hQ'
      exact ⟨h10, hQ⟩
def fRe (k j : Nat) : Prop := fRc k j ∨ k = 135
/-- the code that is kept -/
theorem r_ecode {A : mA} (ha : aOkA A) (hA : RA0 fAc A i y) (hc : c < 240) {u4 : Option Value} : ∃ u, mm_V 332 72 [some (.ref 83), some (.int x1), some (.int x2), some (.int (nI c)), u4] [.int y] (mm_Z m w i l e) = mm_V 332 59 [some (.ref 83), some (.int x1), some (.int x2), some (.int (nI (c + 1))), u] [] (mm_Z m w (mm_ww i 135 c (aCd A)) l e) := by
  have no := no_out (len := 300) (show c < 300 by omega) (by omega)
  refine ⟨some (.int y), ?_⟩
  obtain ⟨h1, h2⟩ := hA
  rw [mr_332_72, h1]
  match A, ha, h2 with
  | .inl (some v), _, h2 =>
    rw [h2 v rfl, if_pos (show nI (aTh fAc (.inl (some v))) = 0 from rfl), if_neg no, nI_clamp (by omega), nI_1]; rfl
  | .inr q, hq, _ =>
    rcases hq with hq | hq | hq
    · subst hq
      rw [if_neg (show ¬ nI (aTh fAc (.inr 0)) = 0 by decide), if_neg (show ¬ nI (aTh fAc (.inr 0)) = 1 by decide), if_pos (show nI (aTh fAc (.inr 0)) = 2 by decide), if_neg no, nI_clamp (by omega), nI_1]; rfl
    · subst hq
      rw [if_neg (show ¬ nI (aTh fAc (.inr 2)) = 0 by decide), if_pos (show nI (aTh fAc (.inr 2)) = 1 by decide), if_neg no, nI_clamp (by omega), nI_1]; rfl
    · subst hq
      rw [if_neg (show ¬ nI (aTh fAc (.inr 3)) = 0 by decide), if_neg (show ¬ nI (aTh fAc (.inr 3)) = 1 by decide), if_neg (show ¬ nI (aTh fAc (.inr 3)) = 2 by decide), if_neg no, nI_clamp (by omega), nI_1]; rfl
theorem SE.kp {n : Nat} (h : SE i n ev) (hf : ∀ k, 131 ≤ k → k ≤ 134 → i' k n = i k n) : SE i' n ev := by
  obtain ⟨s1, s2, s3, s4, s5⟩ := h
  exact ⟨by rw [hf _ (by omega) (by omega)]; exact s1, by rw [hf _ (by omega) (by omega)]; exact s2, fun y => by rw [hf _ (by omega) (by omega)]; exact s3 y, fun y => by rw [hf _ (by omega) (by omega)]; exact s4 y, s5⟩
theorem r_el : ∀ (Q : List mEv) (c b : Nat) (i : Nat → Nat → Int32) (o : mOl) (u4 : Option Value), c + Q.length ≤ 240 → i 83 69 = nI (c + Q.length) → (∀ k v, Q[k]? = some v → SE i (c + k) v) → OR i o → eOV b Q o → b + 16 * Q.length < 2 ^ 29 → ∃ i', mm_V 332 59 [some (.ref 83), some (.int x1), some (.int x2), some (.int (nI c)), u4] [] (mm_Z m w i l e) = some (.inl (some (.int (-1))), mm_Z m w (mm_ww (mm_ww i' 83 77 (nI (c + Q.length))) 83 0 0) l e) ∧ mG fRe i i' ∧ OR i' (eRun Q o).2 ∧ (∀ k v, (eRun Q o).1[k]? = some v → i' 135 (c + k) = v) ∧ (∀ k, k < c → i' 135 k = i 135 k)
  | [], c, b, i, o, u4, hc, h69, hS, ho, hv, hb => by
    rw [List.length_nil, Nat.add_zero] at *
    rw [mr_332_59, h69, if_neg (fun z => by have := (nI_ltI (by omega) (by omega)).mp z; omega)]
    exact ⟨i, rfl, mG.rf, ho, fun k v hk => (by cases hk), fun k _ => rfl⟩
  | ev :: Q, c, b, i, o, u4, hc, h69, hS, ho, hv, hb => by
    rw [List.length_cons] at *
    obtain ⟨v1, v2, v3⟩ := hv
    obtain ⟨y, i1, e1, g1, g2, g3⟩ := r_event (m := m) (w := w) (l := l) (e := e) (n := c) (by omega) (hS 0 ev rfl) ho v1 (by omega)
    obtain ⟨u, e2⟩ := r_ecode (m := m) (w := w) (l := l) (e := e) (x1 := x1) (x2 := x2) (c := c) v2 g1 (by omega) (u4 := u4)
    rw [mr_332_59, h69, if_pos ((nI_ltI (by omega) (by omega)).mpr (by omega)), e1, mb_l, mb_v, e2]
    have far : ∀ k j, ¬ (((k = 83 ∧ (j = 57 ∨ j = 79 ∨ (81 ≤ j ∧ j ≤ 86) ∨ j = 91)) ∨ k = 111 ∨ (113 ≤ k ∧ k ≤ 129) ∨ (136 ≤ k ∧ k ≤ 145)) ∨ (k = 83 ∧ j = 0)) → i1 k j = i k j := g2
    obtain ⟨i2, h1, h2, h3, h4, h5⟩ := r_el Q (c + 1) (b + 16) (mm_ww i1 135 c (aCd (wEv ev o).1)) (wEv ev o).2 u (by omega) (by rw [mw_k (by decide), far _ _ (by omega), h69]; congr 1; omega) (fun k v hk => by
      rw [show c + 1 + k = c + (k + 1) by omega]
      exact (hS (k + 1) v hk).kp (fun k' a1 a2 => by rw [mw_k (by omega), far _ _ (by omega)])) (g3.fo (mG.ww (by unfold fO; omega))) v3 (by omega)
    rw [show c + 1 + Q.length = c + (Q.length + 1) by omega] at h1
    have f2 : mG fRe i i1 := g2.mo (fun k j z => Or.inl z)
    have f3 : mG fRe i1 (mm_ww i1 135 c (aCd (wEv ev o).1)) := mG.ww (Or.inr rfl)
    refine ⟨i2, h1, (f2.tr f3).tr h2, h3, fun k v hk => ?_, fun k hk => ?_⟩
    · rcases k with _ | k
      · have hk : some (aCd (wEv ev o).1) = some v := hk
        cases hk
        rw [Nat.add_zero, h5 c (by omega), mw_s]
      · have hk : (eRun Q (wEv ev o).2).1[k]? = some v := hk
        rw [show c + (k + 1) = c + 1 + k by omega]
        exact h4 k v hk
    · rw [h5 k (by omega), mw_j (by omega), far _ _ (by omega)]
def fRv (k j : Nat) : Prop := fRe k j ∨ (k = 83 ∧ (j = 2 ∨ j = 43 ∨ j = 69 ∨ (74 ≤ j ∧ j ≤ 77))) ∨ (131 ≤ k ∧ k ≤ 134)
theorem r_events (hX : XP X i) (hw : XW X) (hW : EWD l) (ho : OR i o) (hv : OV b o) (hR : RR i R) (hb : b + 3840 < 2 ^ 29) (hQ : ∀ Q, eRs X = .inr Q → eOV b Q o ∧ Q.length ≤ 240) : ∃ i', mm_V 332 0 [some (.ref 83), none, none, none, none] [] (mm_Z m w i l e) = some (aAn (wEs X R o).1, mm_Z m w i' l e) ∧ i' 83 0 = nI 0 ∧ mG fRv i i' ∧ OR i' (wEs X R o).2.2 ∧ RR i' (wEs X R o).2.1 ∧ XP (xEd X 0) i' := by
  have hz := hw.le
  have far0 : ∀ k j, ¬ (k = 83 ∧ (j = 69 ∨ j = 76)) → mm_ww (mm_ww i 83 69 0) 83 76 0 k j = i k j := fun k j y => by rw [mw_ne (by omega), mw_ne (by omega)]
  have s69 : mm_ww (mm_ww i 83 69 0) 83 76 0 83 69 = nI 0 := by rw [mw_j (by decide), mw_s]; rfl
  have s76 : mm_ww (mm_ww i 83 69 0) 83 76 0 83 76 = nI 0 := mw_s
  rw [mr_332_0]
  generalize mm_ww (mm_ww i 83 69 0) 83 76 0 = i0 at far0 s69 s76
  have hX0 : XP X i0 := ⟨by rw [far0 _ _ (by omega)]; exact hX.1, fun k hk => by rw [far0 _ _ (by omega)]; exact hX.2 k hk⟩
  obtain ⟨i1, e1, g1, g2⟩ := er_tok (m := m) (w := w) (l := l) (e := e) (n := 0) hX0 hw hW s76 (Nat.zero_le _)
  have far1 : ∀ k j, ¬ (k = 83 ∧ (j = 43 ∨ j = 69 ∨ (74 ≤ j ∧ j ≤ 76))) → i1 k j = i k j := fun k j y => by rw [g2 k j (by unfold fEr; omega), far0 k j (by omega)]
  have hX1 : XP X i1 := ⟨by rw [far1 _ _ (by omega)]; exact hX.1, fun k hk => by rw [far1 _ _ (by omega)]; exact hX.2 k hk⟩
  obtain ⟨i2, f1, f2⟩ := r_fl (m := m) (w := w) (e := e) hw hW 241 0 (etk X 0) i1 (tV.mk (Nat.zero_le _)) (by omega) (by omega) hX1 g1 (by rw [g2 _ _ (by unfold fEr; omega)]; exact s69)
  have far2 : ∀ k j, ¬ ((k = 83 ∧ (j = 43 ∨ j = 69 ∨ (74 ≤ j ∧ j ≤ 76))) ∨ (131 ≤ k ∧ k ≤ 134)) → i2 k j = i k j := fun k j y => by rw [f1 k j (by unfold fEq; omega), far1 k j (by omega)]
  have ho2 : OR i2 o := ho.fo (fun k j y => far2 k j (by unfold fO at y; omega))
  rw [e1, mb_l, mb_0, mr_332_14]
  unfold wEs
  have f2 : (match eRs X with
    | .inl p => mm_V 332 16 [some (.ref 83), some (.int 1), none, none, none] [] (mm_Z m w i1 l e) = mm_V 332 36 [some (.ref 83), some (.int 0), none, none, none] [] (mm_Z m w i2 l e) ∧ i2 83 43 = nI p
    | .inr Q => mm_V 332 16 [some (.ref 83), some (.int 1), none, none, none] [] (mm_Z m w i1 l e) = mm_V 332 36 [some (.ref 83), some (.int 1), none, none, none] [] (mm_Z m w i2 l e) ∧ i2 83 69 = nI (0 + Q.length) ∧ (∀ k v, Q[k]? = some v → SE i2 (0 + k) v)) := f2
  cases hr : eRs X with
  | inl p =>
    rw [hr] at f2
    obtain ⟨f2, f3⟩ := f2
    rw [f2, mr_332_36, if_pos rfl, f3]
    have far3 : ∀ k j, ¬ (k = 83 ∧ (j = 2 ∨ j = 0)) → mm_ww (mm_ww i2 83 2 0) 83 0 0 k j = i2 k j := fun k j y => by rw [mw_ne (by omega), mw_ne (by omega)]
    refine ⟨_, rfl, mw_s, fun k j y => ?_, ho2.fo (fun k j y => far3 k j (by unfold fO at y; omega)), ⟨?_, fun k v hk => ?_⟩, ⟨by rw [mw_j (by decide), mw_s]; rfl, fun k hk => absurd (show k < 0 from hk) (by omega)⟩⟩
    · unfold fRv fRe fRc fR at y
      rw [far3 k j (by omega), far2 k j (by omega)]
    · rw [far3 _ _ (by omega), far2 _ _ (by omega)]; exact hR.1
    · rw [far3 _ _ (by omega), far2 _ _ (by omega)]; exact hR.2 k v hk
  | inr Q =>
    rw [hr] at f2
    obtain ⟨f2, f3, f4⟩ := f2
    obtain ⟨q1, q2⟩ := hQ Q hr
    rw [f2, mr_332_36, if_neg (by decide)]
    have far3 : ∀ k j, ¬ (k = 83 ∧ j = 2) → mm_ww i2 83 2 0 k j = i2 k j := fun k j y => mw_ne y
    have s2 : mm_ww i2 83 2 0 83 2 = 0 := mw_s
    generalize mm_ww i2 83 2 0 = i3 at far3 s2
    obtain ⟨i4, h1, h2, h3, h4, _⟩ := r_el (m := m) (w := w) (l := l) (e := e) (x1 := 1) (x2 := i2 83 43) Q 0 b i3 o none (by omega) (by rw [far3 _ _ (by omega)]; exact f3) (fun k v hk => (f4 k v hk).kp (fun k' a1 a2 => far3 _ _ (by omega))) (ho2.fo (fun k j y => far3 k j (by unfold fO at y; omega))) q1 (by omega)
    have h1 : mm_V 332 59 [some (.ref 83), some (.int 1), some (.int (i2 83 43)), some (.int 0), none] [] (mm_Z m w i3 l e) = _ := h1
    rw [h1]
    have far5 : ∀ k j, ¬ (k = 83 ∧ (j = 77 ∨ j = 0)) → mm_ww (mm_ww i4 83 77 (nI (0 + Q.length))) 83 0 0 k j = i4 k j := fun k j y => by rw [mw_ne (by omega), mw_ne (by omega)]
    refine ⟨_, rfl, mw_s, fun k j y => ?_, h3.fo (fun k j y => far5 k j (by unfold fO at y; omega)), ⟨?_, fun k v hk => ?_⟩, ⟨?_, fun k hk => absurd (show k < 0 from hk) (by omega)⟩⟩
    · unfold fRv fRe fRc fR at y
      rw [far5 k j (by omega), h2 k j (by unfold fRe fRc fR; omega), far3 k j (by omega), far2 k j (by omega)]
    · rw [mw_j (by decide), mw_s, Nat.zero_add]
      show nI Q.length = nI (eRun Q o).1.length
      rw [eRun_len]
    · rw [far5 _ _ (by omega)]
      have := h4 k v hk
      rw [Nat.zero_add] at this
      exact this
    · rw [far5 _ _ (by omega), h2 _ _ (by unfold fRe fRc fR; omega), s2]; rfl
end MM209
