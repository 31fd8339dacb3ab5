/-! ACTS: the class's methods -/
section MM198
variable {w : Bool} {i i0 i' : Nat → Nat → Int32} {l : Nat → Nat → Int64} {m : Nat} {e : Bool × Nat × Nat} {n k j b B p c base : Nat} {x y x1 x2 x3 x4 : Int32} {π : mP} {ψ : mS} {o : mOl} {η : mH} {κ : mK} {τ : mT} {a : mA} {K : mX}
theorem rb_go (hI : IV π b ψ) (hb : b + 16 < 2 ^ 29) (hp : p < 8) (hP0 : hP (yH ψ) p ≠ 0) (hk : k ≤ 21) (hr : aRb k x3 x4 = true) (h : BV ψ) : rb (aGo π k p x3 x4 ψ) := by
  have v255 : ¬ x4 &&& 255 < 0 := by
    rw [(and_255 x4).1]
    exact nI_nn (by have := (and_255 x4).2; omega)
  match k, hk with
  | 0, _ => exact rb_look hI hb hp hP0 (pLs_s (show pOk x3 = true from hr)).1 h
  | 1, _ => exact rb_mkd h
  | 2, _ => exact rb_rmd h
  | 3, _ => exact rb_unl h
  | 4, _ => exact rb_run h
  | 5, _ => exact rb_opn h
  | 6, _ => exact rb_lnk h
  | 7, _ => exact rb_ren h
  | 8, _ => exact rb_rel h
  | 9, _ => exact rb_cls h
  | 10, _ => exact rb_dup h
  | 11, _ => exact rb_rd h
  | 12, _ =>
    obtain ⟨c, c1, c2, c3⟩ := x_ha (c := 5) (show inR x3 5 = true from hr) (by omega)
    exact rb_lst hI hp (by rw [c3]; omega) h
  | 13, _ => exact rb_emp h
  | 14, _ => exact rb_wr v255 h
  | 15, _ =>
    obtain ⟨c, c1, c2, c3⟩ := x_ha (c := 24) ((Bool.and_eq_true _ _).mp (show (inR x3 5 && inR x4 24) = true from hr)).2 (by omega)
    exact rb_sek (by rw [c3]; exact c1) h
  | 16, _ => exact rb_frk h
  | 17, _ => exact rb_pip h
  | 18, _ => exact rb_lv h
  | 19, _ => exact rb_sig h
  | 20, _ => exact rb_trc h
  | 21, _ => exact rb_swi h
  | k + 22, hk => exact absurd hk (by omega)
def OB : mOl → Prop
  | none => True
  | some q => BV q.2.2
/-- an answer that no word of refusal is -/
def aOkA (a : mA) : Prop := match a with
  | .inl (some v) => -50 < v
  | .inl none => False
  | .inr c => c = 0 ∨ c = 2 ∨ c = 3
theorem ob_act {a : Option Nat} (ha : ∀ k, a = some k → k ≤ 21) (hv : OV b o) (hb : b + 16 < 2 ^ 29) (h : OB o) : aOkA (wAct a x2 x3 x4 o).1 ∧ OB (wAct a x2 x3 x4 o).2 := by
  cases o with
  | none => exact ⟨Or.inr (Or.inl rfl), trivial⟩
  | some q =>
    unfold wAct
    simp only
    cases hr : (inR x2 7 && aRg a x3 x4) with
    | false => exact ⟨Or.inl rfl, h⟩
    | true =>
      rw [if_tf]
      cases hq : (decide (hP (yH q.2.2) x2.toNatClampNeg ≠ 0) && aPq a x3 (yH q.2.2)) with
      | false => exact ⟨Or.inr (Or.inr rfl), h⟩
      | true =>
        rw [if_tf]
        obtain ⟨r1, r2⟩ := (Bool.and_eq_true _ _).mp hr
        obtain ⟨q1, q2⟩ := (Bool.and_eq_true _ _).mp hq
        obtain ⟨p, p1, p2, p3⟩ := x_ha (c := 7) r1 (by omega)
        rw [p3] at q1 ⊢
        cases a with
        | none => cases r2
        | some k => exact rb_go hv.1 hb (by omega) (of_decide_eq_true q1) (ha k rfl) r2 h
theorem c_told (h : aOkA a) : ∃ e', eL e e' ∧ mm_V 184 0 [some (.int (aCd a))] [] (mm_Z m w i l e) = some (aAn a, mm_Z m w i l e') := by
  rw [mr_184_0]
  match a, h with
  | .inl (some v), h =>
    have h : (-50 : Int32) < v := h
    rw [Int32.lt_iff_toInt_lt] at h
    have h : (-50 : Int) < v.toInt := h
    have n1 : ∀ c : Int32, c.toInt ≤ -100 → ¬ v = c := fun c hc z => by rw [z] at h; omega
    have ev : aCd (.inl (some v)) = v := rfl
    rw [ev, if_neg (n1 (-102) (by decide)), if_neg (n1 (-100) (by decide)), if_neg (n1 (-101) (by decide))]
    exact ⟨e, Or.inl rfl, rfl⟩
  | .inr c, h =>
    rcases h with h | h | h
    · subst h
      rw [if_neg (by decide), if_pos (by decide)]
      exact ⟨mm_te e, Or.inr rfl, rfl⟩
    · subst h
      rw [if_pos (by decide)]
      exact ⟨mm_te e, Or.inr rfl, rfl⟩
    · subst h
      rw [if_neg (by decide), if_neg (by decide), if_pos (by decide)]
      exact ⟨mm_te e, Or.inr rfl, rfl⟩
theorem c_actOf (hc : base + c < 2 ^ 30) : mm_V 183 0 [some (.int (nI base)), some (.int x), some (.int (nI (c + 1)))] [] (mm_Z m w i l e) = some (.inl (some (.int (aI (aOp base c x)))), mm_Z m w i l e) := by
  rw [mr_183_0]
  by_cases z1 : x < 0
  · rw [if_pos z1, aOp_f (decide_eq_false (fun z => z.1 z1))]; rfl
  · rw [if_neg z1]
    by_cases z2 : nI c < x
    · rw [if_neg (fun z => by
        rw [Int32.lt_iff_toInt_lt] at z z2
        rw [nI_toInt (by omega)] at z z2
        omega), aOp_f (decide_eq_false (fun z => z.2 z2))]; rfl
    · obtain ⟨k, k1, k2, k3⟩ := aOp_t (base := base) (c := c) (x := x) (decide_eq_true ⟨z1, z2⟩) (by omega)
      rw [k3, k2, if_pos ((nI_ltI (by omega) (by omega)).mpr (by omega)), nI_add]; rfl
/-- what a call of the class does -/
def CM (m : Nat) (w : Bool) (l : Nat → Nat → Int64) (e : Bool × Nat × Nat) (i : Nat → Nat → Int32) (V : Option mm_R) (W : mA × mOl) : Prop := ∃ i' e', eL e e' ∧ V = some (aAn W.1, mm_Z m w i' l e') ∧ mG fC i i' ∧ OC w i' W.2
theorem CM.mk {a : Option Nat} {F G : Option Value → mm_M → Option mm_R} (ha : ∀ k, a = some k → k ≤ 21) (ho : OC w i o) (hv : OV b o) (hb : b + 16 < 2 ^ 29) (hB : OB o) (hF : ∀ x i', F (some (.int x)) (mm_Z m w i' l e) = mm_bi true (mm_V 184 0 [some (.int x)] [] (mm_Z m w i' l e)) G) (hG : ∀ x i' e', G (some (.int x)) (mm_Z m w i' l e') = some (.inl (some (.int x)), mm_Z m w i' l e')) : CM m w l e i (mm_bi true (mm_V 185 0 [some (.ref 0), some (.int (aI a)), some (.int x2), some (.int x3), some (.int x4)] [] (mm_Z m w i l e)) F) (wAct a x2 x3 x4 o) := by
  obtain ⟨i1, e1, g1, g2, g3⟩ := c_act (m := m) (l := l) (e := e) (x2 := x2) (x3 := x3) (x4 := x4) ha ho hv hb
  have hok := (ob_act (x2 := x2) (x3 := x3) (x4 := x4) ha hv hb hB).1
  obtain ⟨e', t0, t1⟩ := c_told (m := m) (w := w) (i := i1) (l := l) (e := e) hok
  rw [e1, mb_l, hF, t1]
  refine ⟨i1, e', t0, ?_, g1, g2⟩
  revert hok
  generalize (wAct a x2 x3 x4 o).1 = A
  intro hok
  match A, hok with
  | .inl (some v), _ => exact hG v i1 e'
  | .inr c, _ => rfl
theorem c_onPath (ho : OC w i o) (hv : OV b o) (hb : b + 16 < 2 ^ 29) (hB : OB o) : CM m w l e i (mm_V 166 0 [some (.ref 0), some (.int x1), some (.int x2), some (.int x3)] [] (mm_Z m w i l e)) (wAct (aOp 0 4 x2) x1 x3 0 o) := by
  have t := c_actOf (m := m) (w := w) (i := i) (l := l) (e := e) (base := 0) (c := 4) (x := x2) (by omega)
  have t : mm_V 183 0 [some (.int 0), some (.int x2), some (.int 5)] [] (mm_Z m w i l e) = _ := t
  rw [mr_166_0, t, mb_l, mb_v, mr_166_7]
  exact CM.mk (fun k z => by have := aOp_le (by omega) _ z; omega) ho hv hb hB (fun x i' => mr_166_13 _ _ _ _ _ _ _ _ _) (fun x i' e' => mr_166_16 _ _ _ _ _ _ _ _ _)
theorem c_onPaths (ho : OC w i o) (hv : OV b o) (hb : b + 16 < 2 ^ 29) (hB : OB o) : CM m w l e i (mm_V 167 0 [some (.ref 0), some (.int x1), some (.int x2), some (.int x3), some (.int x4)] [] (mm_Z m w i l e)) (wAct (aOp 5 3 x2) x1 x3 x4 o) := by
  have t := c_actOf (m := m) (w := w) (i := i) (l := l) (e := e) (base := 5) (c := 3) (x := x2) (by omega)
  have t : mm_V 183 0 [some (.int 5), some (.int x2), some (.int 4)] [] (mm_Z m w i l e) = _ := t
  rw [mr_167_0, t, mb_l, mb_v, mr_167_7]
  exact CM.mk (fun k z => by have := aOp_le (by omega) _ z; omega) ho hv hb hB (fun x i' => mr_167_14 _ _ _ _ _ _ _ _ _ _) (fun x i' e' => mr_167_17 _ _ _ _ _ _ _ _ _ _)
theorem c_onHandle (ho : OC w i o) (hv : OV b o) (hb : b + 16 < 2 ^ 29) (hB : OB o) : CM m w l e i (mm_V 168 0 [some (.ref 0), some (.int x1), some (.int x2), some (.int x3)] [] (mm_Z m w i l e)) (wAct (aOp 9 4 x2) x1 x3 0 o) := by
  have t := c_actOf (m := m) (w := w) (i := i) (l := l) (e := e) (base := 9) (c := 4) (x := x2) (by omega)
  have t : mm_V 183 0 [some (.int 9), some (.int x2), some (.int 5)] [] (mm_Z m w i l e) = _ := t
  rw [mr_168_0, t, mb_l, mb_v, mr_168_8]
  exact CM.mk (fun k z => by have := aOp_le (by omega) _ z; omega) ho hv hb hB (fun x i' => mr_168_14 _ _ _ _ _ _ _ _ _) (fun x i' e' => mr_168_17 _ _ _ _ _ _ _ _ _)
theorem c_write (ho : OC w i o) (hv : OV b o) (hb : b + 16 < 2 ^ 29) (hB : OB o) : CM m w l e i (mm_V 169 0 [some (.ref 0), some (.int x1), some (.int x2), some (.int x3)] [] (mm_Z m w i l e)) (wAct (some 14) x1 x2 x3 o) := by
  rw [mr_169_0]
  exact CM.mk (a := some 14) (fun k z => by cases z; omega) ho hv hb hB (fun x i' => mr_169_9 _ _ _ _ _ _ _ _ _) (fun x i' e' => mr_169_12 _ _ _ _ _ _ _ _ _)
theorem c_seek (ho : OC w i o) (hv : OV b o) (hb : b + 16 < 2 ^ 29) (hB : OB o) : CM m w l e i (mm_V 170 0 [some (.ref 0), some (.int x1), some (.int x2), some (.int x3)] [] (mm_Z m w i l e)) (wAct (some 15) x1 x2 x3 o) := by
  rw [mr_170_0]
  exact CM.mk (a := some 15) (fun k z => by cases z; omega) ho hv hb hB (fun x i' => mr_170_9 _ _ _ _ _ _ _ _ _) (fun x i' e' => mr_170_12 _ _ _ _ _ _ _ _ _)
theorem c_alone (ho : OC w i o) (hv : OV b o) (hb : b + 16 < 2 ^ 29) (hB : OB o) : CM m w l e i (mm_V 171 0 [some (.ref 0), some (.int x1), some (.int x2)] [] (mm_Z m w i l e)) (wAct (aOp 16 2 x2) x1 0 0 o) := by
  have t := c_actOf (m := m) (w := w) (i := i) (l := l) (e := e) (base := 16) (c := 2) (x := x2) (by omega)
  have t : mm_V 183 0 [some (.int 16), some (.int x2), some (.int 3)] [] (mm_Z m w i l e) = _ := t
  rw [mr_171_0, t, mb_l, mb_v, mr_171_8]
  exact CM.mk (fun k z => by have := aOp_le (by omega) _ z; omega) ho hv hb hB (fun x i' => mr_171_14 _ _ _ _ _ _ _ _) (fun x i' e' => mr_171_17 _ _ _ _ _ _ _ _)
theorem c_onProcess (ho : OC w i o) (hv : OV b o) (hb : b + 16 < 2 ^ 29) (hB : OB o) : CM m w l e i (mm_V 172 0 [some (.ref 0), some (.int x1), some (.int x2), some (.int x3)] [] (mm_Z m w i l e)) (wAct (aOp 19 1 x2) x1 x3 0 o) := by
  have t := c_actOf (m := m) (w := w) (i := i) (l := l) (e := e) (base := 19) (c := 1) (x := x2) (by omega)
  have t : mm_V 183 0 [some (.int 19), some (.int x2), some (.int 2)] [] (mm_Z m w i l e) = _ := t
  rw [mr_172_0, t, mb_l, mb_v, mr_172_8]
  exact CM.mk (fun k z => by have := aOp_le (by omega) _ z; omega) ho hv hb hB (fun x i' => mr_172_14 _ _ _ _ _ _ _ _ _) (fun x i' e' => mr_172_17 _ _ _ _ _ _ _ _ _)
theorem c_switch (ho : OC w i o) (hv : OV b o) (hb : b + 16 < 2 ^ 29) (hB : OB o) : CM m w l e i (mm_V 173 0 [some (.ref 0), some (.int x1), some (.int x2)] [] (mm_Z m w i l e)) (wAct (some 21) x1 x2 0 o) := by
  rw [mr_173_0]
  exact CM.mk (a := some 21) (fun k z => by cases z; omega) ho hv hb hB (fun x i' => mr_173_9 _ _ _ _ _ _ _ _) (fun x i' e' => mr_173_12 _ _ _ _ _ _ _ _)
/-- an answer without a number -/
def aVo : mA → mA
  | .inl _ => .inl none
  | .inr c => .inr c
theorem ob_sy (h : OB o) : OB (wSyn o) := by
  cases o with
  | none => trivial
  | some q => exact ⟨h.1, h.1, fun q' hm => absurd hm List.not_mem_nil, h.2.2.2⟩
theorem ob_cr (h : OB o) : OB (wCra x o).2 := by
  cases o with
  | none => trivial
  | some q =>
    rw [wCra]
    split
    · have t : ∀ n k, ¬ tb (yCg q.2.2 x.toNatClampNeg) n k < 0 := tb_run _ _ h.2.1 (fun q' hm => h.2.2.1 q' (List.mem_of_mem_take hm))
      exact ⟨t, t, fun q' hm => absurd hm List.not_mem_nil, h.2.2.2⟩
    · exact h
theorem ob_la (h : OB o) : OB (wLab x3 x4 o).2 := by
  cases o with
  | none => trivial
  | some q =>
    rw [wLab]
    split
    · exact h
    · split
      · exact h
      · exact bv_yn h (fun z => absurd (show 4 = 3 from z) (by decide))
theorem ob_ld {X : mX} (h : OB o) : OB (wLd X o).2 := by
  unfold wLd
  split
  · exact h
  · cases o with
    | none =>
      simp only
      split
      · have t : ∀ n k, ¬ tb zT1 n k < 0 := fun n k => by show ¬ (0 : Int32) < 0; decide
        exact ⟨t, t, fun q' hm => absurd hm List.not_mem_nil, fun k j => by show ¬ (0 : Int32) < 0; decide⟩
      · exact h
    | some q =>
      simp only
      split
      · exact ⟨h.1, h.1, fun q' hm => absurd hm List.not_mem_nil, h.2.2.2⟩
      · exact h
theorem ok_cr : aOkA (wCra x o).1 := by
  cases o with
  | none => exact Or.inr (Or.inl rfl)
  | some q =>
    rw [wCra]
    split
    · show (-50 : Int32) < 0
      decide
    · exact Or.inl rfl
theorem ok_la : aOkA (wLab x3 x4 o).1 := by
  cases o with
  | none => exact Or.inr (Or.inl rfl)
  | some q =>
    rw [wLab]
    split
    · exact Or.inl rfl
    · split
      · exact Or.inr (Or.inr rfl)
      · show (-50 : Int32) < 0
        decide
theorem c_msync (ho : OC w i o) (hv : OV b o) : ∃ i', mm_V 181 0 [some (.ref 0)] [] (mm_Z m w i l e) = some (.inl none, mm_Z m w i' l e) ∧ mG fC i i' ∧ OC w i' (wSyn o) ∧ OV b (wSyn o) := by
  obtain ⟨i1, e1, g1, g2, g3⟩ := c_sync (m := m) (l := l) (e := e) (x2 := -1) (x3 := 0) (x4 := 0) ho hv
  rw [mr_181_0, e1, mb_l, mb_v, mr_181_9]
  exact ⟨i1, rfl, g1, g2, g3⟩
theorem c_mcrash (ho : OC w i o) (hv : OV b o) : ∃ i' e', eL e e' ∧ mm_V 182 0 [some (.ref 0), some (.int x1)] [] (mm_Z m w i l e) = some (aAn (aVo (wCra x1 o).1), mm_Z m w i' l e') ∧ mG fC i i' ∧ OC w i' (wCra x1 o).2 ∧ OV b (wCra x1 o).2 := by
  obtain ⟨i1, e1, g1, g2, g3⟩ := c_crash (m := m) (l := l) (e := e) (x2 := -1) (x3 := x1) (x4 := 0) ho hv
  obtain ⟨e', t0, t1⟩ := c_told (m := m) (w := w) (i := i1) (l := l) (e := e) (ok_cr (x := x1) (o := o))
  rw [mr_182_0, e1, mb_l, mb_v, mr_182_9, t1]
  refine ⟨i1, e', t0, ?_, g1, g2, g3⟩
  have hok := ok_cr (x := x1) (o := o)
  revert hok
  generalize (wCra x1 o).1 = A
  intro hok
  match A, hok with
  | .inl (some v), _ => exact mr_182_12 _ _ _ _ _ _ _
  | .inr c, _ => rfl
theorem c_mlabel (ho : OC w i o) (hv : OV b o) : ∃ i' e', eL e e' ∧ mm_V 174 0 [some (.ref 0), some (.int x1), some (.int x2)] [] (mm_Z m w i l e) = some (aAn (aVo (wLab x1 x2 o).1), mm_Z m w i' l e') ∧ mG fC i i' ∧ OC w i' (wLab x1 x2 o).2 ∧ OV b (wLab x1 x2 o).2 := by
  obtain ⟨i1, e1, g1, g2, g3⟩ := c_label (m := m) (l := l) (e := e) (x2 := -1) (x3 := x1) (x4 := x2) ho hv
  obtain ⟨e', t0, t1⟩ := c_told (m := m) (w := w) (i := i1) (l := l) (e := e) (ok_la (x3 := x1) (x4 := x2) (o := o))
  rw [mr_174_0, e1, mb_l, mb_v, mr_174_9, t1]
  refine ⟨i1, e', t0, ?_, g1, g2, g3⟩
  have hok := ok_la (x3 := x1) (x4 := x2) (o := o)
  revert hok
  generalize (wLab x1 x2 o).1 = A
  intro hok
  match A, hok with
  | .inl (some v), _ => exact mr_174_12 _ _ _ _ _ _ _ _
  | .inr c, _ => rfl
end MM198
