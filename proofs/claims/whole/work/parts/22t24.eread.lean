/-! EVENTS: an event is read, in the class -/
section MM201
variable {X : mX} {w : Bool} {i i' : Nat → Nat → Int32} {l l' : Nat → Nat → Int64} {m : Nat} {e : Bool × Nat × Nat} {n k j p q c d : Nat} {x x1 x2 y pr a b : Int32} {L : List Nat} {t : mTk} {V : Option mm_R}
def eNu (k : Nat) : Nat := [1, 1, 1, 1, 1, 2, 2, 2, 2, 1, 1, 1, 1, 1, 2, 2, 0, 0, 0, 1, 1, 1, 0, 1, 2].getD k 0
theorem eNu_le : ∀ k, k < 25 → eNu k ≤ 2 := by decide +kernel
def ES (i : Nat → Nat → Int32) : Prop := ∀ k, k < 25 → i 1000002 k = nI (eNu k)
abbrev mEv : Type := Nat × Int32 × Int32 × Int32
/-- numbers of an event, then its end -/
def eNl (X : mX) (k : Nat) (pr : Int32) : Nat → Nat → Int32 → Int32 → mTk → Nat ⊕ (mEv × mTk)
  | 0, _, a, b, t => if t.2.2.1 = 59 then .inr ((k, pr, a, b), etk X t.2.1) else .inl t.1
  | d + 1, j, a, b, t => if t.2.2.1 = 3 then eNl X k pr d (j + 1) (if j = 0 then nI t.2.2.2 else a) (if j = 0 then b else nI t.2.2.2) (etk X t.2.1) else .inl t.1
/-- the word of an event, and so on -/
def eWd (X : mX) (pr : Int32) (lo : Bool) (t : mTk) : Nat ⊕ (mEv × mTk) := if t.2.2.1 = 2 ∧ (if lo = true then 22 ≤ t.2.2.2 ∧ t.2.2.2 < 25 else t.2.2.2 < 22) then eNl X t.2.2.2 pr (eNu t.2.2.2) 0 0 0 (etk X t.2.1) else .inl t.1
def eRd (X : mX) (t : mTk) : Nat ⊕ (mEv × mTk) := if t.2.2.1 = 3 then eWd X (nI t.2.2.2) false (etk X t.2.1) else eWd X (-1) true t
theorem eW_le : eW L ≤ 25 := by
  unfold eW
  split
  · omega
  · split <;> omega
theorem etk_k (hn : n ≤ xz X) : (etk X n).1 ≤ (etk X n).2.1 ∧ (etk X n).2.1 ≤ xz X ∧ (etk X n).2.2.1 < 60 := by
  obtain ⟨h1, h2, h3, _, _⟩ := etk_bd hn
  refine ⟨h2, h3, ?_⟩
  unfold etk
  split
  · split
    · show 2 < 60; omega
    · split
      · show (if _ then 1 else 3) < 60
        split <;> omega
      · show (if _ then 59 else 1) < 60
        split <;> omega
  · show 0 < 60; omega
def fEv (k j : Nat) : Prop := k = 29 ∧ 1 ≤ j ∧ j ≤ 9
theorem fEc_v (h : mG fEc i i') : mG fEv i i' := h.mo (fun k j z => by unfold fEc at z; unfold fEv; omega)
/-- what reading an event leaves behind in the class -/
def EO (m : Nat) (w : Bool) (l : Nat → Nat → Int64) (e : Bool × Nat × Nat) (i : Nat → Nat → Int32) (V : Option mm_R) (r : Nat ⊕ (mEv × mTk)) : Prop := ∃ i' l', mG fEv i i' ∧ lG lEc l l' ∧ (match r with
  | .inl p => V = some (.inl (some (.int 0)), mm_Z m w i' l' e) ∧ i' 29 1 = nI p
  | .inr r => V = some (.inl (some (.int 1)), mm_Z m w i' l' e) ∧ EC i' l' r.2 ∧ i' 29 7 = nI r.1.1 ∧ i' 29 6 = r.1.2.1 ∧ i' 29 8 = r.1.2.2.1 ∧ i' 29 9 = r.1.2.2.2)
theorem EO.fr {r : Nat ⊕ (mEv × mTk)} {i0 : Nat → Nat → Int32} {l0 : Nat → Nat → Int64} (h : EO m w l e i V r) (h1 : mG fEv i0 i) (h2 : lG lEc l0 l) : EO m w l0 e i0 V r := by
  obtain ⟨i', l', a1, a2, a3⟩ := h
  exact ⟨i', l', h1.tr a1, h2.tr a2, a3⟩
theorem EO.no (h1 : V = some (.inl (some (.int 0)), mm_Z m w i l e)) (h2 : i 29 1 = nI p) : EO m w l e i V (.inl p) := ⟨i, l, mG.rf, lG.rf, h1, h2⟩
theorem ES.ev (h : ES i) (hf : mG fEv i i') : ES i' := fun k hk => by rw [hf _ _ (by unfold fEv; omega)]; exact h k hk
theorem XC.ev (h : XC X i) (hf : mG fEv i i') : XC X i' := h.kp (hf _ _ (by unfold fEv; omega)) (fun j => hf _ _ (by unfold fEv; omega))
theorem c_nl (hw : XW X) (hk : k < 25) : ∀ (d j : Nat) (a b : Int32) (t : mTk) (i : Nat → Nat → Int32) (l : Nat → Nat → Int64), j + d = eNu k → XC X i → ES i → EC i l t → t.2.1 ≤ xz X → t.2.2.1 < 60 → i 29 6 = pr → i 29 7 = nI k → i 29 8 = a → i 29 9 = b → EO m w l e i (mm_V 28 108 [some (.ref 29), some (.int x1), some (.int x2), some (.int (nI j))] [] (mm_Z m w i l e)) (eNl X k pr d j a b t)
  | 0, j, a, b, t, i, l, hj, hX, hS, hE, ht, hk6, h6, h7, h8, h9 => by
    have hz := hw.le
    have e2 := eNu_le k hk
    have ek : i 1000002 (i 29 7).toNatClampNeg = nI (eNu k) := by rw [h7, nI_clamp (by omega)]; exact hS k hk
    rw [mr_28_108, if_neg (by rw [h7]; exact no_out (by omega) (by omega)), ek, if_neg (fun z => by have := (nI_ltI (by omega) (by omega)).mp z; omega), hE.2.2.1, eNl]
    by_cases z : t.2.2.1 = 59
    · obtain ⟨i1, l1, e1, g1, g2, g3⟩ := ec_adv (m := m) (w := w) (l := l) (e := e) hX hw hE.2.1 ht
      rw [if_pos (show nI t.2.2.1 = 59 by rw [z]; rfl), e1, mb_l, mb_0, mr_28_193, if_pos z]
      exact ⟨i1, l1, fEc_v g2, g3, rfl, g1, by rw [g2 _ _ (by unfold fEc; omega)]; exact h7, by rw [g2 _ _ (by unfold fEc; omega)]; exact h6, by rw [g2 _ _ (by unfold fEc; omega)]; exact h8, by rw [g2 _ _ (by unfold fEc; omega)]; exact h9⟩
    · rw [if_neg (show ¬ nI t.2.2.1 = 59 from fun y => z ((nI_eq (b := 59) (by omega) (by omega)).mp y)), if_neg z]
      exact EO.no rfl hE.1
  | d + 1, j, a, b, t, i, l, hj, hX, hS, hE, ht, hk6, h6, h7, h8, h9 => by
    have hz := hw.le
    have e2 := eNu_le k hk
    have ek : i 1000002 (i 29 7).toNatClampNeg = nI (eNu k) := by rw [h7, nI_clamp (by omega)]; exact hS k hk
    rw [mr_28_108, if_neg (by rw [h7]; exact no_out (by omega) (by omega)), ek, if_pos ((nI_ltI (by omega) (by omega)).mpr (by omega)), hE.2.2.1, eNl]
    by_cases z : t.2.2.1 = 3
    · rw [if_pos (show nI t.2.2.1 = 3 by rw [z]; rfl), if_pos z, hE.2.2.2.1 z, h8]
      have key : ∀ (a' b' : Int32), EO m w l e i (mm_V 28 165 [some (.ref 29), some (.int x1), some (.int x2), some (.int (nI j))] [.int b', .ref 29] (mm_Z m w (mm_ww i 29 8 a') l e)) (eNl X k pr d (j + 1) a' b' (etk X t.2.1)) := fun a' b' => by
        rw [mr_28_165]
        have f1 : mG fEv i (mm_ww (mm_ww i 29 8 a') 29 9 b') := (mG.ww (by unfold fEv; omega)).tr (mG.ww (by unfold fEv; omega))
        obtain ⟨i1, l1, e1, g1, g2, g3⟩ := ec_adv (m := m) (w := w) (l := l) (e := e) (hX.ev f1) hw (by rw [mw_j (by decide), mw_j (by decide)]; exact hE.2.1) ht
        have f2 := f1.tr (fEc_v g2)
        obtain ⟨k1, k2, k3⟩ := etk_k ht
        rw [e1, mb_l, mb_0, mr_28_172, nI_1]
        refine (c_nl hw hk d (j + 1) a' b' (etk X t.2.1) i1 l1 (by omega) (hX.ev f2) (hS.ev f2) g1 k2 k3 ?_ ?_ ?_ ?_).fr f2 g3
        · rw [g2 _ _ (by unfold fEc; omega), mw_j (by decide), mw_j (by decide)]; exact h6
        · rw [g2 _ _ (by unfold fEc; omega), mw_j (by decide), mw_j (by decide)]; exact h7
        · rw [g2 _ _ (by unfold fEc; omega), mw_j (by decide), mw_s]
        · rw [g2 _ _ (by unfold fEc; omega), mw_s]
      by_cases zj : j = 0
      · have t := key (nI t.2.2.2) b
        rw [if_pos (show nI j = 0 by rw [zj]; rfl), mr_28_146, if_pos (show nI j = 0 by rw [zj]; rfl), h9, if_pos zj, if_pos zj]
        exact t
      · have nj : ¬ nI j = 0 := fun y => zj ((nI_eq (b := 0) (by omega) (by omega)).mp y)
        have t := key a (nI t.2.2.2)
        rw [if_neg nj, mr_28_146, if_neg nj, hE.2.2.2.1 z, if_neg zj, if_neg zj]
        exact t
    · rw [if_neg (show ¬ nI t.2.2.1 = 3 from fun y => z ((nI_eq (b := 3) (by omega) (by omega)).mp y)), if_neg z]
      exact EO.no rfl hE.1
theorem WL_A : ∀ j, j < 3 → wI WA (WL.getD j []) = 22 := by decide +kernel
theorem eW_A (h : wI WA L < 22) : eW L = wI WA L := by unfold eW; rw [if_pos h]
theorem eW_L (h : wI WL L < 3) : eW L = 22 + wI WL L := by
  have h1 : WL.getD (wI WL L) [] = L := wI_at (by rw [WL_len]; exact h)
  have h2 := WL_A (wI WL L) h
  rw [h1] at h2
  unfold eW
  rw [if_neg (by omega), if_pos h]
theorem wF_n (Ws : List (List Nat)) : wI Ws L ≤ Ws.length := by
  unfold wI
  have := (tFst_le (fun j => Ws.getD j [] == L) Ws.length 0).2
  omega
/-- the word, in the class: lo tells whether no process stands before it -/
theorem c_wd {lo : Bool} (hX : XC X i) (hw : XW X) (hS : ES i) (hE : EC i l t) (ht : t.2.1 ≤ xz X) (hk : t.2.2.1 < 60) (h6 : i 29 6 = pr) : EO m w l e i (mm_V 28 38 [some (.ref 29), some (.int (bI lo)), none, none] [] (mm_Z m w i l e)) (eWd X pr lo t) := by
  have hz := hw.le
  rw [mr_28_38, hE.2.2.1]
  by_cases z : t.2.2.1 = 2
  · obtain ⟨L, l1, l2, l3, l4⟩ := hE.2.2.2.2 z
    rw [if_pos (show nI t.2.2.1 = 2 by rw [z]; rfl)]
    have go : ∀ (x2 : Int32) (c : Nat), c < 25 → c = t.2.2.2 → EO m w l e i (mm_V 28 89 [some (.ref 29), some (.int (bI lo)), some (.int x2), none] [.int (nI c), .ref 29] (mm_Z m w i l e)) (eNl X t.2.2.2 pr (eNu t.2.2.2) 0 0 0 (etk X t.2.1)) := fun x2 c hc ec => by
      rw [mr_28_89]
      have f1 : mG fEv i (mm_ww (mm_ww (mm_ww i 29 7 (nI c)) 29 8 0) 29 9 0) := ((mG.ww (by unfold fEv; omega)).tr (mG.ww (by unfold fEv; omega))).tr (mG.ww (by unfold fEv; omega))
      obtain ⟨i1, l1, e1, g1, g2, g3⟩ := ec_adv (m := m) (w := w) (l := l) (e := e) (hX.ev f1) hw (by rw [mw_j (by decide), mw_j (by decide), mw_j (by decide)]; exact hE.2.1) ht
      have f2 := f1.tr (fEc_v g2)
      obtain ⟨k1, k2, k3⟩ := etk_k ht
      rw [e1, mb_l, mb_0, mr_28_106]
      have t := c_nl (m := m) (w := w) (e := e) (pr := pr) (x1 := bI lo) (x2 := x2) hw hc (eNu c) 0 0 0 (etk X t.2.1) i1 l1 (by omega) (hX.ev f2) (hS.ev f2) g1 k2 k3 (by rw [g2 _ _ (by unfold fEc; omega), mw_j (by decide), mw_j (by decide), mw_j (by decide)]; exact h6) (by rw [g2 _ _ (by unfold fEc; omega), mw_j (by decide), mw_j (by decide), mw_s]) (by rw [g2 _ _ (by unfold fEc; omega), mw_j (by decide), mw_s]) (by rw [g2 _ _ (by unfold fEc; omega), mw_s])
      rw [ec] at t
      exact t.fr f2 g3
    cases lo with
    | false =>
      have w1 := xc_word (m := m) (w := w) (i := i) (l := l) (e := e) tAt_s tAt_l tAt_k WA_g l1 l2
      have w1 : mm_V 129 0 [some (.ref 1000106), some (.long (lN (pk 0 L))), none, none, none, none, none, none] [] (mm_Z m w i l e) = some (.inl (some (.int (if wI WA L < WA.length then nI (wI WA L) else -1))), mm_Z m w i l e) := w1
      rw [WA_len] at w1
      rw [if_bf, mr_28_57, l3, w1, mb_l, mb_v, mr_28_64, mr_28_68, eWd]
      by_cases q : wI WA L < 22
      · have e1 := eW_A q
        rw [if_pos q, if_neg (ne_m1 (by omega)), if_bf, if_pos ⟨z, by rw [if_neg Bool.false_ne_true, ← l4, e1]; exact q⟩]
        exact go _ (wI WA L) (by omega) (by rw [← l4, e1])
      · have e1 : ¬ eW L < 22 := by
          unfold eW
          rw [if_neg q]
          split <;> omega
        rw [if_neg q, if_pos rfl, if_neg (fun y => e1 (by have := y.2; rw [if_neg Bool.false_ne_true, ← l4] at this; exact this))]
        exact EO.no rfl hE.1
    | true =>
      have w1 := xc_word (m := m) (w := w) (i := i) (l := l) (e := e) tLo_s tLo_l tLo_k WL_g l1 l2
      have w1 : mm_V 129 0 [some (.ref 1000105), some (.long (lN (pk 0 L))), none, none, none, none, none, none] [] (mm_Z m w i l e) = some (.inl (some (.int (if wI WL L < WL.length then nI (wI WL L) else -1))), mm_Z m w i l e) := w1
      rw [WL_len] at w1
      rw [if_bt, mr_28_57, l3, w1, mb_l, mb_v, mr_28_64, mr_28_68, eWd]
      by_cases q : wI WL L < 3
      · have e1 := eW_L q
        rw [if_pos q, if_neg (ne_m1 (by omega)), if_bt, if_pos ⟨z, by rw [if_pos rfl, ← l4, e1]; omega⟩, show (22 : Int32) = nI 22 from rfl, nI_add]
        exact go _ (22 + wI WL L) (by omega) (by rw [← l4, e1])
      · have e1 : ¬ (22 ≤ eW L ∧ eW L < 25) := by
          unfold eW
          rw [if_neg q]
          split <;> omega
        rw [if_neg q, if_pos rfl, if_neg (fun y => e1 (by have := y.2; rw [if_pos rfl, ← l4] at this; exact this))]
        exact EO.no rfl hE.1
  · rw [if_neg (show ¬ nI t.2.2.1 = 2 from fun y => z ((nI_eq (b := 2) (by omega) (by omega)).mp y)), mr_28_68, if_pos rfl, eWd, if_neg (fun y => z y.1)]
    exact EO.no rfl hE.1
theorem c_rd (hX : XC X i) (hw : XW X) (hS : ES i) (hE : EC i l t) (ht : t.2.1 ≤ xz X) (hk : t.2.2.1 < 60) : EO m w l e i (mm_V 28 0 [some (.ref 29), none, none, none] [] (mm_Z m w i l e)) (eRd X t) := by
  have hz := hw.le
  rw [mr_28_0, hE.2.2.1, eRd]
  by_cases z : t.2.2.1 = 3
  · rw [if_pos (show nI t.2.2.1 = 3 by rw [z]; rfl), if_pos rfl, mr_28_27, if_pos rfl, hE.2.2.2.1 z, if_pos z]
    have f1 : mG fEv i (mm_ww i 29 6 (nI t.2.2.2)) := mG.ww (by unfold fEv; omega)
    obtain ⟨i1, l1, e1, g1, g2, g3⟩ := ec_adv (m := m) (w := w) (l := l) (e := e) (hX.ev f1) hw (by rw [mw_j (by decide)]; exact hE.2.1) ht
    have f2 := f1.tr (fEc_v g2)
    obtain ⟨k1, k2, k3⟩ := etk_k ht
    rw [e1, mb_l, mb_0]
    exact (c_wd (lo := false) (hX.ev f2) hw (hS.ev f2) g1 k2 k3 (by rw [g2 _ _ (by unfold fEc; omega), mw_s])).fr f2 g3
  · rw [if_neg (show ¬ nI t.2.2.1 = 3 from fun y => z ((nI_eq (b := 3) (by omega) (by omega)).mp y)), if_neg (by decide), mr_28_27, if_neg (by decide), if_neg z]
    have f1 : mG fEv i (mm_ww i 29 6 (-1)) := mG.ww (by unfold fEv; omega)
    exact (c_wd (lo := true) (hX.ev f1) hw (hS.ev f1) ⟨by rw [mw_j (by decide)]; exact hE.1, by rw [mw_j (by decide)]; exact hE.2.1, by rw [mw_j (by decide)]; exact hE.2.2.1, fun y => by rw [mw_j (by decide)]; exact hE.2.2.2.1 y, hE.2.2.2.2⟩ ht hk mw_s).fr f1 lG.rf
end MM201
