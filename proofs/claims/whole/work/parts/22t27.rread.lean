/-! EVENTS: an event is read, in the reference -/
section MM205
variable {X : mX} {w : Bool} {i i' : Nat → Nat → Int32} {l l' : Nat → Nat → Int64} {m : Nat} {e : Bool × Nat × Nat} {n k j p q c d : Nat} {x x1 x2 x3 y pr : Int32} {L : List Nat} {t : mTk} {V : Option mm_R} {lo : Bool}
theorem er_nu : ∀ (k : Nat), k < 25 → mm_V 329 0 [some (.int (nI (rI k)))] [] (mm_Z m w i l e) = some (.inl (some (.int (nI (eNu k)))), mm_Z m w i l e)
  | 0, _ => by
    show mm_V 329 0 [some (.int (nI 0))] [] (mm_Z m w i l e) = some (.inl (some (.int (nI 1))), mm_Z m w i l e)
    rw [mr_329_0, if_pos (by decide), mr_329_14, rf_in, mb_l, mb_v, mr_329_21, if_pos (by decide), if_neg (by decide), if_neg (by decide), if_neg (by decide)]; rfl
  | 1, _ => by
    show mm_V 329 0 [some (.int (nI 1))] [] (mm_Z m w i l e) = some (.inl (some (.int (nI 1))), mm_Z m w i l e)
    rw [mr_329_0, if_pos (by decide), mr_329_14, rf_in, mb_l, mb_v, mr_329_21, if_pos (by decide), if_neg (by decide), if_neg (by decide), if_neg (by decide)]; rfl
  | 2, _ => by
    show mm_V 329 0 [some (.int (nI 2))] [] (mm_Z m w i l e) = some (.inl (some (.int (nI 1))), mm_Z m w i l e)
    rw [mr_329_0, if_pos (by decide), mr_329_14, rf_in, mb_l, mb_v, mr_329_21, if_pos (by decide), if_neg (by decide), if_neg (by decide), if_neg (by decide)]; rfl
  | 3, _ => by
    show mm_V 329 0 [some (.int (nI 3))] [] (mm_Z m w i l e) = some (.inl (some (.int (nI 1))), mm_Z m w i l e)
    rw [mr_329_0, if_pos (by decide), mr_329_14, rf_in, mb_l, mb_v, mr_329_21, if_pos (by decide), if_neg (by decide), if_neg (by decide), if_neg (by decide)]; rfl
  | 4, _ => by
    show mm_V 329 0 [some (.int (nI 4))] [] (mm_Z m w i l e) = some (.inl (some (.int (nI 1))), mm_Z m w i l e)
    rw [mr_329_0, if_pos (by decide), mr_329_14, rf_in, mb_l, mb_v, mr_329_21, if_pos (by decide), if_neg (by decide), if_neg (by decide), if_neg (by decide)]; rfl
  | 5, _ => by
    show mm_V 329 0 [some (.int (nI 5))] [] (mm_Z m w i l e) = some (.inl (some (.int (nI 2))), mm_Z m w i l e)
    rw [mr_329_0, if_pos (by decide), mr_329_14, rf_in, mb_l, mb_v, mr_329_21, if_neg (by decide)]; rfl
  | 6, _ => by
    show mm_V 329 0 [some (.int (nI 6))] [] (mm_Z m w i l e) = some (.inl (some (.int (nI 2))), mm_Z m w i l e)
    rw [mr_329_0, if_pos (by decide), mr_329_14, rf_in, mb_l, mb_v, mr_329_21, if_neg (by decide)]; rfl
  | 7, _ => by
    show mm_V 329 0 [some (.int (nI 7))] [] (mm_Z m w i l e) = some (.inl (some (.int (nI 2))), mm_Z m w i l e)
    rw [mr_329_0, if_pos (by decide), mr_329_14, rf_in, mb_l, mb_v, mr_329_21, if_neg (by decide)]; rfl
  | 8, _ => by
    show mm_V 329 0 [some (.int (nI 8))] [] (mm_Z m w i l e) = some (.inl (some (.int (nI 2))), mm_Z m w i l e)
    rw [mr_329_0, if_pos (by decide), mr_329_14, rf_in, mb_l, mb_v, mr_329_21, if_neg (by decide)]; rfl
  | 9, _ => by
    show mm_V 329 0 [some (.int (nI 9))] [] (mm_Z m w i l e) = some (.inl (some (.int (nI 1))), mm_Z m w i l e)
    rw [mr_329_0, if_pos (by decide), mr_329_14, rf_in, mb_l, mb_v, mr_329_21, if_pos (by decide), if_neg (by decide), if_neg (by decide), if_neg (by decide)]; rfl
  | 10, _ => by
    show mm_V 329 0 [some (.int (nI 10))] [] (mm_Z m w i l e) = some (.inl (some (.int (nI 1))), mm_Z m w i l e)
    rw [mr_329_0, if_pos (by decide), mr_329_14, rf_in, mb_l, mb_v, mr_329_21, if_pos (by decide), if_neg (by decide), if_neg (by decide), if_neg (by decide)]; rfl
  | 11, _ => by
    show mm_V 329 0 [some (.int (nI 11))] [] (mm_Z m w i l e) = some (.inl (some (.int (nI 1))), mm_Z m w i l e)
    rw [mr_329_0, if_pos (by decide), mr_329_14, rf_in, mb_l, mb_v, mr_329_21, if_pos (by decide), if_neg (by decide), if_neg (by decide), if_neg (by decide)]; rfl
  | 12, _ => by
    show mm_V 329 0 [some (.int (nI 12))] [] (mm_Z m w i l e) = some (.inl (some (.int (nI 1))), mm_Z m w i l e)
    rw [mr_329_0, if_pos (by decide), mr_329_14, rf_in, mb_l, mb_v, mr_329_21, if_pos (by decide), if_neg (by decide), if_neg (by decide), if_neg (by decide)]; rfl
  | 13, _ => by
    show mm_V 329 0 [some (.int (nI 13))] [] (mm_Z m w i l e) = some (.inl (some (.int (nI 1))), mm_Z m w i l e)
    rw [mr_329_0, if_pos (by decide), mr_329_14, rf_in, mb_l, mb_v, mr_329_21, if_pos (by decide), if_neg (by decide), if_neg (by decide), if_neg (by decide)]; rfl
  | 14, _ => by
    show mm_V 329 0 [some (.int (nI 14))] [] (mm_Z m w i l e) = some (.inl (some (.int (nI 2))), mm_Z m w i l e)
    rw [mr_329_0, if_pos (by decide), mr_329_14, rf_in, mb_l, mb_v, mr_329_21, if_pos (by decide), if_pos (by decide)]; rfl
  | 15, _ => by
    show mm_V 329 0 [some (.int (nI 15))] [] (mm_Z m w i l e) = some (.inl (some (.int (nI 2))), mm_Z m w i l e)
    rw [mr_329_0, if_pos (by decide), mr_329_14, rf_in, mb_l, mb_v, mr_329_21, if_pos (by decide), if_neg (by decide), if_pos (by decide)]; rfl
  | 16, _ => by
    show mm_V 329 0 [some (.int (nI 19))] [] (mm_Z m w i l e) = some (.inl (some (.int (nI 0))), mm_Z m w i l e)
    rw [mr_329_0, if_neg (by decide), if_pos (by decide)]; rfl
  | 17, _ => by
    show mm_V 329 0 [some (.int (nI 20))] [] (mm_Z m w i l e) = some (.inl (some (.int (nI 0))), mm_Z m w i l e)
    rw [mr_329_0, if_neg (by decide), if_pos (by decide)]; rfl
  | 18, _ => by
    show mm_V 329 0 [some (.int (nI 21))] [] (mm_Z m w i l e) = some (.inl (some (.int (nI 0))), mm_Z m w i l e)
    rw [mr_329_0, if_neg (by decide), if_pos (by decide)]; rfl
  | 19, _ => by
    show mm_V 329 0 [some (.int (nI 17))] [] (mm_Z m w i l e) = some (.inl (some (.int (nI 1))), mm_Z m w i l e)
    rw [mr_329_0, if_pos (by decide), mr_329_14, rf_in, mb_l, mb_v, mr_329_21, if_pos (by decide), if_neg (by decide), if_neg (by decide), if_neg (by decide)]; rfl
  | 20, _ => by
    show mm_V 329 0 [some (.int (nI 18))] [] (mm_Z m w i l e) = some (.inl (some (.int (nI 1))), mm_Z m w i l e)
    rw [mr_329_0, if_pos (by decide), mr_329_14, rf_in, mb_l, mb_v, mr_329_21, if_pos (by decide), if_neg (by decide), if_neg (by decide), if_neg (by decide)]; rfl
  | 21, _ => by
    show mm_V 329 0 [some (.int (nI 16))] [] (mm_Z m w i l e) = some (.inl (some (.int (nI 1))), mm_Z m w i l e)
    rw [mr_329_0, if_pos (by decide), mr_329_14, rf_in, mb_l, mb_v, mr_329_21, if_pos (by decide), if_neg (by decide), if_neg (by decide), if_neg (by decide)]; rfl
  | 22, _ => by
    show mm_V 329 0 [some (.int (nI 22))] [] (mm_Z m w i l e) = some (.inl (some (.int (nI 0))), mm_Z m w i l e)
    rw [mr_329_0, if_neg (by decide), if_pos (by decide)]; rfl
  | 23, _ => by
    show mm_V 329 0 [some (.int (nI 23))] [] (mm_Z m w i l e) = some (.inl (some (.int (nI 1))), mm_Z m w i l e)
    rw [mr_329_0, if_neg (by decide), if_neg (by decide), mr_329_14, rf_in, mb_l, mb_v, mr_329_21, if_pos (by decide), if_neg (by decide), if_neg (by decide), if_neg (by decide)]; rfl
  | 24, _ => by
    show mm_V 329 0 [some (.int (nI 24))] [] (mm_Z m w i l e) = some (.inl (some (.int (nI 2))), mm_Z m w i l e)
    rw [mr_329_0, if_neg (by decide), if_neg (by decide), mr_329_14, rf_in, mb_l, mb_v, mr_329_21, if_pos (by decide), if_neg (by decide), if_neg (by decide), if_pos (by decide)]; rfl
  | k + 25, hk => absurd hk (by omega)
def fEs (n k j : Nat) : Prop := (k = 83 ∧ (j = 43 ∨ j = 69 ∨ (74 ≤ j ∧ j ≤ 76))) ∨ (131 ≤ k ∧ k ≤ 134 ∧ j = n)
/-- an event kept by the reference at n -/
def SE (i : Nat → Nat → Int32) (n : Nat) (ev : mEv) : Prop := i 131 n = nI (rI ev.1) ∧ i 132 n = ev.2.1 ∧ (1 ≤ eNu ev.1 → i 133 n = ev.2.2.1) ∧ (2 ≤ eNu ev.1 → i 134 n = ev.2.2.2) ∧ (eNu ev.1 = 0 → ev.2.2.1 = 0) ∧ (eNu ev.1 ≤ 1 → ev.2.2.2 = 0) ∧ ev.1 < 25
def RO (n m : Nat) (w : Bool) (l : Nat → Nat → Int64) (e : Bool × Nat × Nat) (i : Nat → Nat → Int32) (V : Option mm_R) (r : Nat ⊕ (mEv × mTk)) : Prop := ∃ i', mG (fEs n) i i' ∧ (match r with
  | .inl p => V = some (.inl (some (.int 0)), mm_Z m w i' l e) ∧ i' 83 43 = nI p
  | .inr r => V = some (.inl (some (.int 1)), mm_Z m w i' l e) ∧ ER i' r.2 ∧ SE i' n r.1 ∧ i' 83 69 = nI (n + 1))
theorem RO.fr {r : Nat ⊕ (mEv × mTk)} {i0 : Nat → Nat → Int32} (h : RO n m w l e i V r) (h1 : mG (fEs n) i0 i) : RO n m w l e i0 V r := by
  obtain ⟨i', a1, a3⟩ := h
  exact ⟨i', h1.tr a1, a3⟩
theorem RO.no (h1 : V = some (.inl (some (.int 0)), mm_Z m w i l e)) (h2 : i 83 43 = nI p) : RO n m w l e i V (.inl p) := ⟨i, mG.rf, h1, h2⟩
theorem fEr_s (h : mG fEr i i') : mG (fEs n) i i' := h.mo (fun k j z => by unfold fEr at z; unfold fEs; omega)
theorem XP.es (h : XP X i) (hf : mG (fEs n) i i') : XP X i' := ⟨by rw [hf _ _ (by unfold fEs; omega)]; exact h.1, fun k hk => by rw [hf _ _ (by unfold fEs; omega)]; exact h.2 k hk⟩
theorem r_nl (hw : XW X) (hW : EWD l) (hk : k < 25) (hn : n < 300) : ∀ (d j : Nat) (a b : Int32) (P : Nat) (i : Nat → Nat → Int32), j + d = eNu k → XP X i → i 83 76 = nI P → P ≤ xz X → i 83 69 = nI n → i 131 n = nI (rI k) → i 132 n = pr → (1 ≤ j → i 133 n = a) → (2 ≤ j → i 134 n = b) → (j = 0 → a = 0) → (j ≤ 1 → b = 0) → RO n m w l e i (mm_V 330 103 [some (.ref 83), some (.int x1), some (.int (nI (eNu k))), some (.int (nI j))] [] (mm_Z m w i l e)) (eNl X k pr d j a b (etk X P))
  | 0, j, a, b, P, i, hj, hX, h76, hP, h69, h131, h132, h133, h134, ha, hb => by
    have hz := hw.le
    have e2 := eNu_le k hk
    obtain ⟨i1, e1, g1, g2⟩ := er_tok (m := m) (w := w) (l := l) (e := e) hX hw hW h76 hP
    have f1 : mG (fEs n) i i1 := fEr_s g2
    obtain ⟨k1, k2, k3⟩ := etk_k hP
    rw [mr_330_103, if_neg (fun z => by have := (nI_ltI (by omega) (by omega)).mp z; omega), e1, mb_l, mb_0, mr_330_166, g1.2.2.1, eNl]
    by_cases z : (etk X P).2.2.1 = 59
    · obtain ⟨i2, e3, g3, g4⟩ := er_tok (m := m) (w := w) (l := l) (e := e) (hX.es f1) hw hW g1.2.1 k2
      have fr : ∀ k j, ¬ fEr k j → i2 k j = i k j := fun k j z => by rw [g4 k j z, g2 k j z]
      rw [if_pos (eK_59.mpr z), e3, mb_l, mb_0, mr_330_181, if_pos z, fr 83 69 (by unfold fEr; omega), h69, nI_1]
      refine ⟨_, (f1.tr (fEr_s g4)).tr (mG.ww (by unfold fEs; omega)), rfl, ⟨?_, ?_, ?_, fun y => ?_⟩, ⟨?_, ?_, fun y => ?_, fun y => ?_, fun y => ?_, fun y => ?_, hk⟩, mw_s⟩
      · rw [mw_j (by decide)]; exact g3.1
      · rw [mw_j (by decide)]; exact g3.2.1
      · rw [mw_j (by decide)]; exact g3.2.2.1
      · rw [mw_j (by decide)]; exact g3.2.2.2 y
      · rw [mw_k (by decide), fr _ _ (by unfold fEr; omega)]; exact h131
      · rw [mw_k (by decide), fr _ _ (by unfold fEr; omega)]; exact h132
      · rw [mw_k (by decide), fr _ _ (by unfold fEr; omega)]; exact h133 (by have y : 1 ≤ eNu k := y; omega)
      · rw [mw_k (by decide), fr _ _ (by unfold fEr; omega)]; exact h134 (by have y : 2 ≤ eNu k := y; omega)
      · exact ha (by have y : eNu k = 0 := y; omega)
      · exact hb (by have y : eNu k ≤ 1 := y; omega)
    · rw [if_neg (fun y => z (eK_59.mp y)), if_neg z]
      exact (RO.no rfl g1.1).fr f1
  | d + 1, j, a, b, P, i, hj, hX, h76, hP, h69, h131, h132, h133, h134, ha, hb => by
    have hz := hw.le
    have e2 := eNu_le k hk
    obtain ⟨i1, e1, g1, g2⟩ := er_tok (m := m) (w := w) (l := l) (e := e) hX hw hW h76 hP
    have f1 : mG (fEs n) i i1 := fEr_s g2
    obtain ⟨k1, k2, k3⟩ := etk_k hP
    have g69 : i1 83 69 = nI n := by rw [g2 _ _ (by unfold fEr; omega)]; exact h69
    have fr : ∀ k, 131 ≤ k → i1 k n = i k n := fun k hk => g2 _ _ (by unfold fEr; omega)
    rw [mr_330_103, if_pos ((nI_ltI (by omega) (by omega)).mpr (by omega)), e1, mb_l, mb_0, mr_330_112, g1.2.2.1, eNl]
    by_cases z : (etk X P).2.2.1 = 3
    · rw [if_pos (eK_3.mpr z), if_pos z, g69, g1.2.2.2 z]
      by_cases zj : j = 0
      · rw [if_pos (show nI j = 0 by rw [zj]; rfl), if_pos zj, if_pos zj, if_neg (no_out (by omega) (by omega)), nI_clamp (by omega), nI_1]
        have f2 : mG (fEs n) i1 (mm_ww i1 133 n (nI (etk X P).2.2.2)) := mG.ww (by unfold fEs; omega)
        refine (r_nl hw hW hk hn d (j + 1) _ b (etk X P).2.1 _ (by omega) ((hX.es f1).es f2) ?_ k2 ?_ ?_ ?_ (fun _ => mw_s) (fun y => by omega) (fun y => by omega) (fun _ => hb (by omega))).fr (f1.tr f2)
        · rw [mw_k (by decide)]; exact g1.2.1
        · rw [mw_k (by decide)]; exact g69
        · rw [mw_k (by decide), fr _ (by omega)]; exact h131
        · rw [mw_k (by decide), fr _ (by omega)]; exact h132
      · have nj : ¬ nI j = 0 := fun y => zj ((nI_eq (b := 0) (by omega) (by omega)).mp y)
        rw [if_neg nj, if_neg zj, if_neg zj, if_neg (no_out (by omega) (by omega)), nI_clamp (by omega), nI_1]
        have f2 : mG (fEs n) i1 (mm_ww i1 134 n (nI (etk X P).2.2.2)) := mG.ww (by unfold fEs; omega)
        refine (r_nl hw hW hk hn d (j + 1) a _ (etk X P).2.1 _ (by omega) ((hX.es f1).es f2) ?_ k2 ?_ ?_ ?_ (fun _ => ?_) (fun _ => mw_s) (fun y => by omega) (fun y => by omega)).fr (f1.tr f2)
        · rw [mw_k (by decide)]; exact g1.2.1
        · rw [mw_k (by decide)]; exact g69
        · rw [mw_k (by decide), fr _ (by omega)]; exact h131
        · rw [mw_k (by decide), fr _ (by omega)]; exact h132
        · rw [mw_k (by decide), fr _ (by omega)]; exact h133 (by omega)
    · rw [if_neg (fun y => z (eK_3.mp y)), if_neg z]
      exact (RO.no rfl g1.1).fr f1
theorem r_wd (hX : XP X i) (hw : XW X) (hW : EWD l) (hn : n < 300) (hE : ER i t) (ht : t.2.1 ≤ xz X) (h69 : i 83 69 = nI n) (h132 : i 132 n = pr) : RO n m w l e i (mm_V 330 44 [some (.ref 83), some (.int (bI (!lo))), none, none] [] (mm_Z m w i l e)) (eWd X pr lo t) := by
  have hz := hw.le
  have go : ∀ (hg : eGd lo t), RO n m w l e i (mm_V 330 80 [some (.ref 83), some (.int (bI (!lo))), none, none] [] (mm_Z m w i l e)) (eNl X t.2.2.2 pr (eNu t.2.2.2) 0 0 0 (etk X t.2.1)) := fun hg => by
    have hk : t.2.2.2 < 25 := by
      have := hg.2
      cases lo with
      | true => rw [if_pos rfl] at this; omega
      | false => rw [if_neg Bool.false_ne_true] at this; omega
    have ek : eK t = nI (rI t.2.2.2) := by rw [eK_w hg.1, rIx, if_pos hk, fI, if_pos (rI_b _ hk).1]
    have f2 : mG (fEs n) i (mm_ww i 131 n (nI (rI t.2.2.2))) := mG.ww (by unfold fEs; omega)
    rw [mr_330_80, h69, if_neg (no_out (by omega) (by omega)), nI_clamp (by omega), hE.2.2.1, ek, er_nu _ hk, mb_l, mb_v, mr_330_100]
    exact (r_nl hw hW hk hn (eNu t.2.2.2) 0 0 0 t.2.1 _ (by omega) (hX.es f2) (by rw [mw_k (by decide)]; exact hE.2.1) ht (by rw [mw_k (by decide)]; exact h69) mw_s (by rw [mw_k (by decide)]; exact h132) (fun y => by omega) (fun y => by omega) (fun _ => rfl) (fun _ => rfl)).fr f2
  rw [mr_330_44, hE.2.2.1]
  show RO n m w l e i _ (if eGd lo t then _ else _)
  cases lo with
  | true =>
    show RO n m w l e i (if bI false = 0 then _ else _) _
    rw [if_bf, rf_in, mb_l, mb_v, mr_330_75]
    by_cases z : ¬ eK t < 22 ∧ ¬ 24 < eK t
    · rw [decide_eq_true z, if_bt, if_pos (eK_lo.mp z)]
      exact go (eK_lo.mp z)
    · rw [decide_eq_false z, if_bf, if_neg (fun y => z (eK_lo.mpr y))]
      exact RO.no rfl hE.1
  | false =>
    show RO n m w l e i (if bI true = 0 then _ else _) _
    rw [if_bt, rf_in, mb_l, mb_v, mr_330_58]
    by_cases z : ¬ eK t < 0 ∧ ¬ 21 < eK t
    · rw [decide_eq_true z, if_bt, if_pos (eK_pr.mp z)]
      exact go (eK_pr.mp z)
    · rw [decide_eq_false z, if_bf, if_neg (fun y => z (eK_pr.mpr y))]
      exact RO.no rfl hE.1
theorem r_rd (hX : XP X i) (hw : XW X) (hW : EWD l) (hn : n < 300) (hE : ER i t) (ht : t.2.1 ≤ xz X) (h69 : i 83 69 = nI n) : RO n m w l e i (mm_V 330 0 [some (.ref 83), none, none, none] [] (mm_Z m w i l e)) (eRd X t) := by
  have hz := hw.le
  rw [mr_330_0, hE.2.2.1, eRd]
  by_cases z : t.2.2.1 = 3
  · have f1 : mG (fEs n) i (mm_ww i 132 n (nI t.2.2.2)) := mG.ww (by unfold fEs; omega)
    obtain ⟨i1, e1, g1, g2⟩ := er_tok (m := m) (w := w) (l := l) (e := e) (hX.es f1) hw hW (by rw [mw_k (by decide)]; exact hE.2.1) ht
    have f2 := f1.tr (fEr_s (n := n) g2)
    obtain ⟨k1, k2, k3⟩ := etk_k ht
    rw [if_pos (eK_3.mpr z), mr_330_14, if_neg (by decide), hE.2.2.2 z, h69, mr_330_35, if_neg (no_out (by omega) (by omega)), if_neg (by decide), nI_clamp (by omega), e1, mb_l, mb_0, if_pos z]
    exact (r_wd (lo := false) (hX.es f2) hw hW hn g1 k2 (by rw [g2 _ _ (by unfold fEr; omega), mw_k (by decide)]; exact h69) (by rw [g2 _ _ (by unfold fEr; omega), mw_s])).fr f2
  · have f1 : mG (fEs n) i (mm_ww i 132 n (-1)) := mG.ww (by unfold fEs; omega)
    rw [if_neg (fun y => z (eK_3.mp y)), mr_330_14, if_pos rfl, h69, mr_330_35, if_neg (no_out (by omega) (by omega)), if_pos rfl, nI_clamp (by omega), if_neg z]
    exact (r_wd (lo := true) (hX.es f1) hw hW hn ⟨by rw [mw_k (by decide)]; exact hE.1, by rw [mw_k (by decide)]; exact hE.2.1, by rw [mw_k (by decide)]; exact hE.2.2.1, fun y => by rw [mw_k (by decide)]; exact hE.2.2.2 y⟩ ht (by rw [mw_k (by decide)]; exact h69) mw_s).fr f1
end MM205
