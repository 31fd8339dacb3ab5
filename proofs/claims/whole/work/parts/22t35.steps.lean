/-! THE LAW: the world; each call as a step of the class and a step of the reference -/
section MM215
variable {X : mX} {w : Bool} {i i' : Nat → Nat → Int32} {l l' : Nat → Nat → Int64} {m : Nat} {e : Bool × Nat × Nat} {n k j p q c d b b' : Nat} {x x1 x2 x3 x4 y v : Int32} {V : Option mm_R} {o : mOl} {R : List Int32} {π : mP} {ψ : mS} {f : Nat → Nat} {A : mA}
def rG (k _j : Nat) : Prop := 83 ≤ k ∧ k ≤ 145 ∧ k ≠ 86
def WCl (w : Bool) (i : Nat → Nat → Int32) (X : mX) (o : mOl) (R : List Int32) : Prop := XC X i ∧ OC w i o ∧ CR i R
def WRf (i : Nat → Nat → Int32) (X : mX) (o : mOl) (R : List Int32) : Prop := XP X i ∧ OR i o ∧ RR i R
def EVn (i : Nat → Nat → Int32) (l : Nat → Nat → Int64) : Prop := ST i ∧ ES i ∧ PTb i ∧ WDS l ∧ EWD l
def VV (b : Nat) (X : mX) (o : mOl) (R : List Int32) : Prop := XW X ∧ OV b o ∧ OB o ∧ R.length ≤ 240
def WD (w : Bool) (i : Nat → Nat → Int32) (l : Nat → Nat → Int64) (b : Nat) (X : mX) (o : mOl) (R : List Int32) : Prop := WCl w i X o R ∧ WRf i X o R ∧ EVn i l ∧ VV b X o R
/-- the answer, put out -/
def lOut (A : mA) (l : Nat → Nat → Int64) : Nat → Nat → Int64 := match A with
  | .inl (some v) => mm_wl l 146 0 v.toInt64
  | _ => l
theorem CR.kp (h : CR i R) (h1 : i' 0 9 = i 0 9) (h2 : ∀ k, i' 82 k = i 82 k) : CR i' R := ⟨h1.trans h.1, fun k v hk => (h2 k).trans (h.2 k v hk)⟩
theorem RR.kp (h : RR i R) (h1 : i' 83 77 = i 83 77) (h2 : ∀ k, i' 135 k = i 135 k) : RR i' R := ⟨h1.trans h.1, fun k v hk => (h2 k).trans (h.2 k v hk)⟩
theorem XP.kp (h : XP X i) (h1 : i' 83 2 = i 83 2) (h2 : ∀ j, i' 84 j = i 84 j) : XP X i' := ⟨by rw [h1]; exact h.1, fun k hk => by rw [h2]; exact h.2 k hk⟩
theorem WCl.kp (h : WCl w i X o R) (hf : mG rG i i') : WCl w i' X o R := by
  have far : ∀ k j, k ≤ 82 → i' k j = i k j := fun k j a => hf k j (fun z => by have := z.1; omega)
  exact ⟨h.1.kp (far _ _ (by omega)) (fun j => far _ _ (by omega)), h.2.1.fo (fun k j y => far k j (by unfold fOc at y; omega)), h.2.2.kp (far _ _ (by omega)) (fun j => far _ _ (by omega))⟩
theorem WRf.kp (h : WRf i X o R) (hf : mG cF i i') : WRf i' X o R := by
  have far : ∀ k j, 83 ≤ k → i' k j = i k j := fun k j a => hf k j (fun z => by have z : k < 83 := z; omega)
  exact ⟨h.1.kp (far _ _ (by omega)) (fun j => far _ _ (by omega)), h.2.1.fo (fun k j y => far k j (by unfold fO at y; omega)), h.2.2.kp (far _ _ (by omega)) (fun j => far _ _ (by omega))⟩
theorem EVn.kc (h : EVn i l) (hf : mG cF i i') (hl : lG cF l l') : EVn i' l' := by
  have far : ∀ k j, 83 ≤ k → i' k j = i k j := fun k j a => hf k j (fun z => by have z : k < 83 := z; omega)
  have fal : ∀ k j, 83 ≤ k → l' k j = l k j := fun k j a => hl k j (fun z => by have z : k < 83 := z; omega)
  obtain ⟨h1, h2, h3, h4, h5⟩ := h
  exact ⟨⟨fun s hs => by rw [far _ _ (by omega)]; exact h1.1 s hs, fun s hs => by rw [far _ _ (by omega)]; exact h1.2 s hs⟩, fun k hk => by rw [far _ _ (by omega)]; exact h2 k hk, h3.kp (fun j => far _ _ (by omega)), fun k hk => by rw [fal _ _ (by omega)]; exact h4 k hk, fun k hk => by rw [fal _ _ (by omega)]; exact h5 k hk⟩
theorem EVn.kr (h : EVn i l) (hf : mG rG i i') : EVn i' l := by
  have far : ∀ k j, (146 ≤ k ∨ k = 86) → i' k j = i k j := fun k j a => hf k j (fun z => by unfold rG at z; omega)
  obtain ⟨h1, h2, h3, h4, h5⟩ := h
  exact ⟨⟨fun s hs => by rw [far _ _ (by omega)]; exact h1.1 s hs, fun s hs => by rw [far _ _ (by omega)]; exact h1.2 s hs⟩, fun k hk => by rw [far _ _ (by omega)]; exact h2 k hk, h3.kp (fun j => far _ _ (by omega)), h4, h5⟩
theorem lOut_far (A : mA) {k j : Nat} (hk : k ≠ 146) : lOut A l k j = l k j := by
  unfold lOut
  split
  · exact ml_n (fun z => hk z.1)
  · rfl
theorem EVn.ko (h : EVn i l) : EVn i (lOut A l) := by
  obtain ⟨h1, h2, h3, h4, h5⟩ := h
  exact ⟨h1, h2, h3, fun k hk => by rw [lOut_far A (by omega)]; exact h4 k hk, fun k hk => by rw [lOut_far A (by omega)]; exact h5 k hk⟩
theorem VV.up (h : VV b X o R) (hb : b ≤ b') : VV b' X o R := ⟨h.1, h.2.1.up hb, h.2.2⟩
/-- a step of the class; of the reference; of the reference, without an answer -/
def StC (m : Nat) (l : Nat → Nat → Int64) (e : Bool × Nat × Nat) (i : Nat → Nat → Int32) (V : Option mm_R) (A : mA) (X : mX) (o : mOl) (R : List Int32) : Prop := ∃ w' i' l' e', eL e e' ∧ V = some (aAn A, mm_Z m w' i' l' e') ∧ mG cF i i' ∧ lG cF l l' ∧ WCl w' i' X o R
def StR (f : Nat → Nat) (m : Nat) (w : Bool) (l : Nat → Nat → Int64) (e : Bool × Nat × Nat) (i : Nat → Nat → Int32) (V : Option mm_R) (A : mA) (X : mX) (o : mOl) (R : List Int32) : Prop := ∃ y i', V = some (.inl (some (.int y)), mm_Z m w i' l e) ∧ RA0 f A i' y ∧ mG rG i i' ∧ WRf i' X o R
def StW (f : Nat → Nat) (m : Nat) (w : Bool) (l : Nat → Nat → Int64) (e : Bool × Nat × Nat) (i : Nat → Nat → Int32) (V : Option mm_R) (A : mA) (X : mX) (o : mOl) (R : List Int32) : Prop := ∃ i', V = some (.inl none, mm_Z m w i' l e) ∧ i' 83 0 = nI (aTh f A) ∧ mG rG i i' ∧ WRf i' X o R
theorem StC.see (h : CSee m w l e i V A) (hc : WCl w i X o R) : StC m l e i V A X o R := by
  obtain ⟨e', h0, h⟩ := h
  exact ⟨w, i, l, e', h0, h, mG.rf, lG.rf, hc⟩
theorem StR.see (h : RSee f m w l e i V A) (hc : WRf i X o R) : StR f m w l e i V A X o R := by
  obtain ⟨y, i', h1, h2, h3⟩ := h
  have far : ∀ k j, ¬ ((k = 83 ∧ j = 0) ∨ k = 111) → i' k j = i k j := h3
  exact ⟨y, i', h1, h2, h3.mo (fun k j z => by unfold rG; omega), hc.1.kp (far _ _ (by omega)) (fun j => far _ _ (by omega)), hc.2.1.fo (fun k j y => far k j (by unfold fO at y; omega)), hc.2.2.kp (far _ _ (by omega)) (fun j => far _ _ (by omega))⟩
theorem fC_c (h : mG fC i i') : mG cF i i' := h.mo (fun k j z => by unfold fC at z; show k < 83; omega)
theorem StC.act {W : mA × mOl} (h : CM m w l e i V W) (hc : WCl w i X o R) : StC m l e i V W.1 X W.2 R := by
  obtain ⟨i', e', h0, h1, h2, h3⟩ := h
  have far : ∀ k j, ¬ ((k = 30 ∧ j ≠ 1) ∨ (50 ≤ k ∧ k ≤ 80)) → i' k j = i k j := h2
  exact ⟨w, i', l, e', h0, h1, fC_c h2, lG.rf, hc.1.kp (far _ _ (by omega)) (fun j => far _ _ (by omega)), h3, hc.2.2.kp (far _ _ (by omega)) (fun j => far _ _ (by omega))⟩
theorem fRc_far (h : mG fRc i i') : ∀ k j, ¬ (((k = 83 ∧ (j = 57 ∨ j = 79 ∨ (81 ≤ j ∧ j ≤ 86) ∨ j = 91)) ∨ k = 111 ∨ (113 ≤ k ∧ k ≤ 129) ∨ (136 ≤ k ∧ k ≤ 145)) ∨ (k = 83 ∧ j = 0)) → i' k j = i k j := h
theorem fRc_r (h : mG fRc i i') : mG rG i i' := h.mo (fun k j z => by unfold fRc fR at z; unfold rG; omega)
theorem StR.act {W : mA × mOl} (h : RM m w l e i V W) (hc : WRf i X o R) : StR fAc m w l e i V W.1 X W.2 R := by
  obtain ⟨y, i', h1, h2, h3, h4⟩ := h
  have far := fRc_far h3
  exact ⟨y, i', h1, h2, fRc_r h3, hc.1.kp (far _ _ (by omega)) (fun j => far _ _ (by omega)), h4, hc.2.2.kp (far _ _ (by omega)) (fun j => far _ _ (by omega))⟩
/-- put -/
def wPt (x : Int32) (X : mX) : mA × mX := if pGd x 4 0 = false then (.inr 0, X) else if 1200 < xz X + pCn x 4 0 then (.inr 1, X) else (.inl (some (nI (xz (xPt x 4 0 X)))), xPt x 4 0 X)
theorem cs_put (hw : XW X) (hc : WCl w i X o R) : StC m l e i (mm_V 157 0 [some (.ref 0), some (.int x), none, none, none] [] (mm_Z m w i l e)) (wPt x X).1 (wPt x X).2 o R ∧ XW (wPt x X).2 := by
  unfold wPt
  rcases c_put (m := m) (w := w) (l := l) (e := e) (x := x) hc.1 hw with ⟨h1, h2⟩ | ⟨h1, h2, h3⟩ | ⟨h1, h2, i', h3, h4, h5, h6⟩
  · rw [if_pos h1]
    exact ⟨⟨w, i, l, _, Or.inr rfl, h2, mG.rf, lG.rf, hc⟩, hw⟩
  · rw [if_neg (by rw [h1]; decide), if_pos h2]
    exact ⟨⟨w, i, l, _, Or.inr rfl, h3, mG.rf, lG.rf, hc⟩, hw⟩
  · have far : ∀ k j, ¬ ((k = 1 ∧ j = 1) ∨ k = 2) → i' k j = i k j := h6
    rw [if_neg (by rw [h1]; decide), if_neg (by omega)]
    exact ⟨⟨w, i', l, e, Or.inl rfl, h3, h6.mo (fun k j z => by show k < 83; omega), lG.rf, h4, hc.2.1.fo (fun k j y => far k j (by unfold fOc at y; omega)), hc.2.2.kp (far _ _ (by omega)) (fun j => far _ _ (by omega))⟩, h5⟩
theorem rs_put (hw : XW X) (hc : WRf i X o R) : StR fNo m w l e i (mm_V 196 0 [some (.ref 83), some (.int x), none, none, none, none] [] (mm_Z m w i l e)) (wPt x X).1 (wPt x X).2 o R := by
  have w0 : ∀ v, WRf (mm_ww i 83 0 v) X o R := fun v => ⟨hc.1.kp (mw_j (by decide)) (fun j => by rw [mw_k (by decide)]), hc.2.1.w0, hc.2.2.kp (mw_j (by decide)) (fun j => by rw [mw_k (by decide)])⟩
  have g0 : ∀ v, mG rG i (mm_ww i 83 0 v) := fun v => mG.ww (by unfold rG; omega)
  unfold wPt
  rcases r_put (m := m) (w := w) (l := l) (e := e) (x := x) hc.1 hw with ⟨h1, h2⟩ | ⟨h1, h2, h3⟩ | ⟨h1, h2, i', h3, h4, h5, h6⟩
  · rw [if_pos h1]
    exact ⟨_, _, h2, ⟨mw_s, fun v z => by cases z⟩, g0 _, w0 _⟩
  · rw [if_neg (by rw [h1]; decide), if_pos h2]
    exact ⟨_, _, h3, ⟨mw_s, fun v z => by cases z⟩, g0 _, w0 _⟩
  · have far : ∀ k j, ¬ ((k = 83 ∧ (j = 0 ∨ j = 2)) ∨ k = 84) → i' k j = i k j := h6
    rw [if_neg (by rw [h1]; decide), if_neg (by omega)]
    exact ⟨_, i', h3, ⟨h5, fun v z => by cases z; rfl⟩, h6.mo (fun k j z => by unfold rG; omega), h4, hc.2.1.fo (fun k j y => far k j (by unfold fO at y; omega)), hc.2.2.kp (far _ _ (by omega)) (fun j => far _ _ (by omega))⟩
/-- end -/
def wEd (x : Int32) (X : mX) : mA × mX := if x < 0 ∨ nI (xz X) < x then (.inr 0, X) else (.inl none, xEd X x.toNatClampNeg)
theorem cs_end (hw : XW X) (hc : WCl w i X o R) : StC m l e i (mm_V 158 0 [some (.ref 0), some (.int x)] [] (mm_Z m w i l e)) (wEd x X).1 (wEd x X).2 o R ∧ XW (wEd x X).2 := by
  have hz := hw.le
  unfold wEd
  rcases c_end (m := m) (w := w) (l := l) (e := e) (x := x) hc.1 hw with ⟨h1, h2⟩ | ⟨n, h1, h2, h3, h4⟩
  · rw [if_pos h1]
    exact ⟨⟨w, i, l, _, Or.inr rfl, h2, mG.rf, lG.rf, hc⟩, hw⟩
  · have far : ∀ k j, ¬ (k = 1 ∧ j = 1) → mm_ww i 1 1 (nI n) k j = i k j := fun k j y => mw_ne y
    have h0 : ¬ (x < 0 ∨ nI (xz X) < x) := by
      rw [h2]
      rintro (z | z)
      · exact nI_nn (by omega) z
      · have := (nI_ltI (by omega) (by omega)).mp z
        omega
    rw [if_neg h0, h2, nI_clamp (by omega)]
    rw [h2] at h3
    exact ⟨⟨w, _, l, e, Or.inl rfl, h3, mG.ww (by show 1 < 83; omega), lG.rf, h4, hc.2.1.fo (fun k j y => far k j (by unfold fOc at y; omega)), hc.2.2.kp (far _ _ (by omega)) (fun j => far _ _ (by omega))⟩, ⟨by show n ≤ 1200; omega, fun k hk => hw.2 k (by have hk : k < n := hk; omega)⟩⟩
theorem rs_end (hw : XW X) (hc : WRf i X o R) : StW (fun _ => 1) m w l e i (mm_V 197 0 [some (.ref 83), some (.int x)] [] (mm_Z m w i l e)) (wEd x X).1 (wEd x X).2 o R := by
  have hz := hw.le
  unfold wEd
  rcases r_end (m := m) (w := w) (l := l) (e := e) (x := x) hc.1 hw with ⟨h1, h2⟩ | ⟨n, h1, h2, h3, h4⟩
  · rw [if_pos h1]
    exact ⟨_, h2, mw_s, mG.ww (by unfold rG; omega), hc.1.kp (mw_j (by decide)) (fun j => by rw [mw_k (by decide)]), hc.2.1.w0, hc.2.2.kp (mw_j (by decide)) (fun j => by rw [mw_k (by decide)])⟩
  · have far : ∀ k j, ¬ (k = 83 ∧ (j = 0 ∨ j = 2)) → mm_ww (mm_ww i 83 0 (nI 0)) 83 2 (nI n) k j = i k j := fun k j y => by rw [mw_ne (by omega), mw_ne (by omega)]
    have h0 : ¬ (x < 0 ∨ nI (xz X) < x) := by
      rw [h2]
      rintro (z | z)
      · exact nI_nn (by omega) z
      · have := (nI_ltI (by omega) (by omega)).mp z
        omega
    rw [if_neg h0, h2, nI_clamp (by omega)]
    rw [h2] at h3
    exact ⟨_, h3, by rw [mw_j (by decide), mw_s]; rfl, (mG.ww (by unfold rG; omega)).tr (mG.ww (by unfold rG; omega)), h4, hc.2.1.fo (fun k j y => far k j (by unfold fO at y; omega)), hc.2.2.kp (far _ _ (by omega)) (fun j => far _ _ (by omega))⟩
/-- load -/
theorem cs_load (hw : XW X) (hs : ST i) (hv : OV b o) (hc : WCl w i X o R) : StC m l e i (mm_V 159 0 [some (.ref 0), none] [] (mm_Z m w i l e)) (wLd X o).1 X (wLd X o).2 R ∧ OV b (wLd X o).2 := by
  obtain ⟨w', i', l', e', h0, h1, h2, h3, h4, h5⟩ := c_load (m := m) (l := l) (e := e) hc.1 hw hs hc.2.1 hv
  have far : ∀ k j, ¬ (3 ≤ k ∧ k ≤ 79) → i' k j = i k j := h2
  exact ⟨⟨w', i', l', e', h0, h1, h2.mo (fun k j z => by unfold fLd at z; show k < 83; omega), h3, hc.1.kp (far _ _ (by omega)) (fun j => far _ _ (by omega)), h4, hc.2.2.kp (far _ _ (by omega)) (fun j => far _ _ (by omega))⟩, ov_ld hw hv h5⟩
theorem rs_load (hw : XW X) (hW : WDS l) (hP : PTb i) (hv : OV b o) (hc : WRf i X o R) : StR (fun _ => 1) m w l e i (mm_V 256 0 [some (.ref 83), none, none, none] [] (mm_Z m w i l e)) (wLd X o).1 X (wLd X o).2 R := by
  obtain ⟨y, i', h1, h2, h3, h4⟩ := r_load (m := m) (w := w) (e := e) hc.1 hw hW hP hc.2.1 hv
  have far : ∀ k j, ¬ ((k = 83 ∧ (j = 0 ∨ j = 5 ∨ j = 7 ∨ (9 ≤ j ∧ j ≤ 49) ∨ j = 57 ∨ j = 86)) ∨ (87 ≤ k ∧ k ≤ 110) ∨ (112 ≤ k ∧ k ≤ 127)) → i' k j = i k j := h3
  exact ⟨y, i', h1, h2, h3.mo (fun k j z => by unfold fRl at z; unfold rG; omega), hc.1.kp (far _ _ (by omega)) (fun j => far _ _ (by omega)), h4, hc.2.2.kp (far _ _ (by omega)) (fun j => far _ _ (by omega))⟩
/-- sync, crash, label -/
theorem cs_sync (hv : OV b o) (hc : WCl w i X o R) : StC m l e i (mm_V 181 0 [some (.ref 0)] [] (mm_Z m w i l e)) (.inl none) X (wSyn o) R ∧ OV b (wSyn o) := by
  obtain ⟨i', h1, h2, h3, h4⟩ := c_msync (m := m) (l := l) (e := e) hc.2.1 hv
  have far : ∀ k j, ¬ ((k = 30 ∧ j ≠ 1) ∨ (50 ≤ k ∧ k ≤ 80)) → i' k j = i k j := h2
  exact ⟨⟨w, i', l, e, Or.inl rfl, h1, fC_c h2, lG.rf, hc.1.kp (far _ _ (by omega)) (fun j => far _ _ (by omega)), h3, hc.2.2.kp (far _ _ (by omega)) (fun j => far _ _ (by omega))⟩, h4⟩
theorem rs_sync (hv : OV b o) (hc : WRf i X o R) : StW fAc m w l e i (mm_V 280 0 [some (.ref 83)] [] (mm_Z m w i l e)) (.inl none) X (wSyn o) R := by
  obtain ⟨i', h1, h2, h3, h4⟩ := r_sync (m := m) (w := w) (l := l) (e := e) hc.2.1 hv
  have far := fRc_far h3
  exact ⟨i', h1, h2, fRc_r h3, hc.1.kp (far _ _ (by omega)) (fun j => far _ _ (by omega)), h4, hc.2.2.kp (far _ _ (by omega)) (fun j => far _ _ (by omega))⟩
theorem cs_crash (hv : OV b o) (hc : WCl w i X o R) : StC m l e i (mm_V 182 0 [some (.ref 0), some (.int x)] [] (mm_Z m w i l e)) (aVo (wCra x o).1) X (wCra x o).2 R ∧ OV b (wCra x o).2 := by
  obtain ⟨i', e', h0, h1, h2, h3, h4⟩ := c_mcrash (m := m) (l := l) (e := e) (x1 := x) hc.2.1 hv
  have far : ∀ k j, ¬ ((k = 30 ∧ j ≠ 1) ∨ (50 ≤ k ∧ k ≤ 80)) → i' k j = i k j := h2
  exact ⟨⟨w, i', l, e', h0, h1, fC_c h2, lG.rf, hc.1.kp (far _ _ (by omega)) (fun j => far _ _ (by omega)), h3, hc.2.2.kp (far _ _ (by omega)) (fun j => far _ _ (by omega))⟩, h4⟩
theorem aTh_vo : aTh f (aVo A) = aTh f A := by
  cases A <;> rfl
theorem rs_crash (hv : OV b o) (hc : WRf i X o R) : StW fAc m w l e i (mm_V 281 0 [some (.ref 83), some (.int x), none] [] (mm_Z m w i l e)) (aVo (wCra x o).1) X (wCra x o).2 R := by
  obtain ⟨i', h1, h2, h3, h4⟩ := r_crash (m := m) (w := w) (l := l) (e := e) (x1 := x) hc.2.1 hv
  have far := fRc_far h3
  exact ⟨i', h1, by rw [aTh_vo]; exact h2, fRc_r h3, hc.1.kp (far _ _ (by omega)) (fun j => far _ _ (by omega)), h4, hc.2.2.kp (far _ _ (by omega)) (fun j => far _ _ (by omega))⟩
theorem cs_label (hv : OV b o) (hc : WCl w i X o R) : StC m l e i (mm_V 174 0 [some (.ref 0), some (.int x1), some (.int x2)] [] (mm_Z m w i l e)) (aVo (wLab x1 x2 o).1) X (wLab x1 x2 o).2 R ∧ OV b (wLab x1 x2 o).2 := by
  obtain ⟨i', e', h0, h1, h2, h3, h4⟩ := c_mlabel (m := m) (l := l) (e := e) (x1 := x1) (x2 := x2) hc.2.1 hv
  have far : ∀ k j, ¬ ((k = 30 ∧ j ≠ 1) ∨ (50 ≤ k ∧ k ≤ 80)) → i' k j = i k j := h2
  exact ⟨⟨w, i', l, e', h0, h1, fC_c h2, lG.rf, hc.1.kp (far _ _ (by omega)) (fun j => far _ _ (by omega)), h3, hc.2.2.kp (far _ _ (by omega)) (fun j => far _ _ (by omega))⟩, h4⟩
theorem rs_label (hv : OV b o) (hc : WRf i X o R) : StW fAc m w l e i (mm_V 326 0 [some (.ref 83), some (.int x1), some (.int x2), none] [] (mm_Z m w i l e)) (aVo (wLab x1 x2 o).1) X (wLab x1 x2 o).2 R := by
  obtain ⟨i', h1, h2, h3, h4⟩ := r_label (m := m) (w := w) (l := l) (e := e) (x1 := x1) (x2 := x2) hc.2.1 hv
  have far := fRc_far h3
  exact ⟨i', h1, by rw [aTh_vo]; exact h2, fRc_r h3, hc.1.kp (far _ _ (by omega)) (fun j => far _ _ (by omega)), h4, hc.2.2.kp (far _ _ (by omega)) (fun j => far _ _ (by omega))⟩
/-- events -/
theorem cs_events (hw : XW X) (hS : ES i) (hv : OV b o) (hB : OB o) (hb : b + 3840 < 2 ^ 29) (hl : R.length ≤ 240) (hc : WCl w i X o R) : StC m l e i (mm_V 179 0 [some (.ref 0), none, none] [] (mm_Z m w i l e)) (wEs X R o).1 (xEd X 0) (wEs X R o).2.2 (wEs X R o).2.1 ∧ OV (b + 3840) (wEs X R o).2.2 ∧ OB (wEs X R o).2.2 ∧ (wEs X R o).2.1.length ≤ 240 ∧ (∀ Q, eRs X = .inr Q → eOV b Q o ∧ Q.length ≤ 240) := by
  obtain ⟨i', l', h1, h2, h3, h4, h5, h6, h7, h8, h9, h10⟩ := c_events (m := m) (l := l) (e := e) hc.1 hw hS hc.2.1 hv hB hb hc.2.2 hl
  exact ⟨⟨w, i', l', e, Or.inl rfl, h1, h2.mo (fun k j z => by unfold fCe fC fEv at z; show k < 83; omega), h3.mo (fun k j z => by unfold lEc at z; show k < 83; omega), h9, h4, h7⟩, h5, h6, h8, h10⟩
theorem rs_events (hw : XW X) (hW : EWD l) (hv : OV b o) (hb : b + 3840 < 2 ^ 29) (hQ : ∀ Q, eRs X = .inr Q → eOV b Q o ∧ Q.length ≤ 240) (hc : WRf i X o R) : ∃ i', mm_V 332 0 [some (.ref 83), none, none, none, none] [] (mm_Z m w i l e) = some (aAn (wEs X R o).1, mm_Z m w i' l e) ∧ mG rG i i' ∧ WRf i' (xEd X 0) (wEs X R o).2.2 (wEs X R o).2.1 := by
  obtain ⟨i', h1, h2, h3, h4, h5, h6⟩ := r_events (m := m) (w := w) (e := e) hc.1 hw hW hc.2.1 hv hc.2.2 hb hQ
  exact ⟨i', h1, h3.mo (fun k j z => by unfold fRv fRe fRc fR at z; unfold rG; omega), h6, h4, h5⟩
end MM215
