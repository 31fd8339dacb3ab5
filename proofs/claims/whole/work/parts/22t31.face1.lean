/-! FACES: policy, vector, move, identifier -/
section MM210
variable {X : mX} {w : Bool} {i i' : Nat → Nat → Int32} {l l' : Nat → Nat → Int64} {m : Nat} {e : Bool × Nat × Nat} {n k j p q c d b : Nat} {x x1 x2 x3 y v : Int32} {V : Option mm_R} {o : mOl} {R : List Int32} {π : mP} {ψ : mS} {f : Nat → Nat} {A : mA}
def oT : mOl → mT
  | none => zT
  | some q => yT q.2.2
def oH : mOl → mH
  | none => zH
  | some q => yH q.2.2
def oK : mOl → mK
  | none => zK
  | some q => yK q.2.2
def oQ : mOl → List mD
  | none => []
  | some q => yQ q.2.2
theorem OC.ct (h : OC w i o) : TC true i (oT o) := by
  cases o with
  | none => exact h.1
  | some q => exact h.1
theorem OC.ch (h : OC w i o) : HC i (oH o) := by
  cases o with
  | none => exact h.2.2.1
  | some q => exact h.2.2.2.1
theorem OC.cg (h : OC w i o) : GC i (oK o) := by
  cases o with
  | none => exact h.2.2.2.1
  | some q => exact h.2.2.2.2.1
theorem OC.cj (h : OC w i o) : JC i (oQ o) := by
  cases o with
  | none => exact h.2.1
  | some q => exact h.2.2.1
theorem OR.ct (h : OR i o) : TR i (oT o) := by
  cases o with
  | none => exact h.1
  | some q => exact h.1.1
theorem OR.cg (h : OR i o) : GR i (oK o) := by
  cases o with
  | none => exact h.2.2.1
  | some q => exact h.1.2.2.2.2.1
theorem OR.cj (h : OR i o) : JR i (oQ o) := by
  cases o with
  | none => exact h.2.1
  | some q => exact h.1.2.2.1
theorem OV.wt (h : OV b o) : TW (oT o) := by
  cases o with
  | none => exact zTw
  | some q => exact h.1.tw
theorem OV.gw (h : OV b o) : GW (oK o) := by
  cases o with
  | none => exact ⟨Nat.zero_le _, Nat.zero_le _, rfl, show (0 : Nat) < 2 ^ 30 by decide, List.nodup_nil⟩
  | some q => exact h.1.kv.1
/-- what a call that only looks gives: class, reference -/
def CSee (m : Nat) (w : Bool) (l : Nat → Nat → Int64) (e : Bool × Nat × Nat) (i : Nat → Nat → Int32) (V : Option mm_R) (A : mA) : Prop := ∃ e', eL e e' ∧ V = some (aAn A, mm_Z m w i l e')
def RSee (f : Nat → Nat) (m : Nat) (w : Bool) (l : Nat → Nat → Int64) (e : Bool × Nat × Nat) (i : Nat → Nat → Int32) (V : Option mm_R) (A : mA) : Prop := ∃ y i', V = some (.inl (some (.int y)), mm_Z m w i' l e) ∧ RA0 f A i' y ∧ mG (fun k j => (k = 83 ∧ j = 0) ∨ k = 111) i i'
theorem CSee.ok (h : V = some (.inl (some (.int v)), mm_Z m w i l e)) : CSee m w l e i V (.inl (some v)) := ⟨e, Or.inl rfl, h⟩
theorem CSee.no (h : V = some (.inr c, mm_Z m w i l (mm_te e))) : CSee m w l e i V (.inr c) := ⟨mm_te e, Or.inr rfl, h⟩
theorem RSee.ok (h : V = some (.inl (some (.int v)), mm_Z m w (mm_ww i 83 0 (nI 0)) l e)) : RSee f m w l e i V (.inl (some v)) := ⟨v, _, h, ⟨mw_s, fun v' z => by cases z; rfl⟩, mG.ww (Or.inl ⟨rfl, rfl⟩)⟩
theorem RSee.no (h : V = some (.inl (some (.int y)), mm_Z m w (mm_ww i 83 0 (nI (f c))) l e)) : RSee f m w l e i V (.inr c) := ⟨y, _, h, ⟨mw_s, fun v' z => by cases z⟩, mG.ww (Or.inl ⟨rfl, rfl⟩)⟩
theorem rr_00 : mm_V 194 0 [some (.ref 83), some (.int 0), some (.int 0), some (.int 0)] [] (mm_Z m w i l e) = some (.inl (some (.int 0)), mm_Z m w (mm_ww i 83 0 (nI 0)) l e) := r_refuse (a := false) (b := false) (g := false)
theorem rr_10 : mm_V 194 0 [some (.ref 83), some (.int 1), some (.int 0), some (.int 0)] [] (mm_Z m w i l e) = some (.inl (some (.int 1)), mm_Z m w (mm_ww i 83 0 (nI 1)) l e) := r_refuse (a := true) (b := false) (g := false)
theorem rr_01 : mm_V 194 0 [some (.ref 83), some (.int 0), some (.int 1), some (.int 0)] [] (mm_Z m w i l e) = some (.inl (some (.int 1)), mm_Z m w (mm_ww i 83 0 (nI 2)) l e) := r_refuse (a := false) (b := true) (g := false)
theorem rr_11 : mm_V 194 0 [some (.ref 83), some (.int 1), some (.int 1), some (.int 0)] [] (mm_Z m w i l e) = some (.inl (some (.int 1)), mm_Z m w (mm_ww i 83 0 (nI 1)) l e) := r_refuse (a := true) (b := true) (g := false)
theorem lt_7 : x < 7 ↔ ¬ 6 < x := by
  rw [Int32.lt_iff_toInt_lt, Int32.lt_iff_toInt_lt]
  show x.toInt < 7 ↔ ¬ 6 < x.toInt
  omega
theorem lt_5 : x < 5 ↔ ¬ 4 < x := by
  rw [Int32.lt_iff_toInt_lt, Int32.lt_iff_toInt_lt]
  show x.toInt < 5 ↔ ¬ 4 < x.toInt
  omega
/-- below n -/
def inT (n : Nat) (x : Int32) : Bool := decide (¬ x < 0 ∧ x < nI n)
theorem inT_n (h : inT n x = true) (hn : n < 2 ^ 30) : ∃ k, k < n ∧ x = nI k := by
  obtain ⟨h1, h2⟩ := of_decide_eq_true h
  obtain ⟨a, a1, a2⟩ := i_nat h1 (n := n) (fun z => by
    rw [Int32.lt_iff_toInt_lt] at z h2
    omega) (by omega)
  rw [a2] at h2
  exact ⟨a, (nI_ltI (by omega) (by omega)).mp h2, a2⟩
theorem if_inT {α : Type} {A B : α} : (if x < 0 then B else if x < nI n then A else B) = if inT n x = true then A else B := by
  unfold inT
  by_cases z1 : x < 0
  · rw [if_pos z1, if_neg (by simp [z1])]
  · rw [if_neg z1]
    by_cases z2 : x < nI n
    · rw [if_pos z2, if_pos (decide_eq_true ⟨z1, z2⟩)]
    · rw [if_neg z2, if_neg (fun z => z2 (of_decide_eq_true z).2)]
theorem inT_r (hn : n < 2 ^ 30) : decide (¬ x < 0 ∧ ¬ (nI n - 1) < x) = inT n x := by
  unfold inT
  refine decide_eq_decide.mpr (and_congr Iff.rfl ?_)
  cases n with
  | zero =>
    rw [show nI 0 - 1 = (-1 : Int32) by decide, Int32.lt_iff_toInt_lt, Int32.lt_iff_toInt_lt]
    show ¬ (-1 : Int) < x.toInt ↔ x.toInt < 0
    omega
  | succ n =>
    rw [nI_pred, Int32.lt_iff_toInt_lt, Int32.lt_iff_toInt_lt, nI_toInt (by omega), nI_toInt (by omega)]
    omega
def wPo (x : Int32) : mOl → mA
  | none => .inr 2
  | some q => if inR x 6 = true then .inl (some (nI (pN q.1 x.toNatClampNeg))) else .inr 0
theorem c_policy (ho : OC w i o) : CSee m w l e i (mm_V 161 0 [some (.ref 0), some (.int x)] [] (mm_Z m w i l e)) (wPo x o) := by
  rw [mr_161_0]
  cases o with
  | none =>
    have h : NCz i := ho
    rw [if_pos h.2.2.2.2]
    exact CSee.no rfl
  | some q =>
    have h : CS w q.1 i q.2.2 := ho
    rw [h.2.2.2.2.2.2, if_neg (by decide), if_inL (d := 6) lt_7, wPo]
    by_cases hr : inR x 6 = true
    · obtain ⟨k, k1, k2⟩ := inR_n (n := 6) hr (by omega)
      rw [if_pos hr, if_pos hr, k2, if_neg (no_out (by omega) (by omega)), nI_clamp (by omega), h.2.2.2.2.2.1.1.1 k (by omega)]
      exact CSee.ok rfl
    · rw [if_neg hr, if_neg hr]
      exact CSee.no rfl
theorem r_policy (ho : OR i o) : RSee fAc m w l e i (mm_V 257 0 [some (.ref 83), some (.int x)] [] (mm_Z m w i l e)) (wPo x o) := by
  rw [mr_257_0]
  cases o with
  | none =>
    have h : NR i := ho
    rw [if_pos h.2.2.2, mr_257_13, if_pos h.2.2.2, mr_257_35, rr_10, mb_l, mb_v, mr_257_39, if_neg (by decide)]
    exact RSee.no (c := 2) rfl
  | some q =>
    have h : RS q.1 i q.2.2 := ho.1
    have h5 := h.2.2.2.2.2.2
    obtain ⟨p0, p1, p2, p3, p4, p5, p6⟩ := h.2.2.2.2.2.1.1.1
    rw [h5, if_neg (by decide), mr_257_13, h5, if_neg (by decide), rf_in, mb_l, mb_v, mr_257_27, wPo]
    show RSee fAc m w l e i (if bI (inR x 6) = 0 then _ else _) _
    cases hr : inR x 6 with
    | false =>
      rw [if_bf, mr_257_35, rr_01, mb_l, mb_v, mr_257_39, if_neg (by decide), if_neg Bool.false_ne_true]
      exact RSee.no (c := 0) rfl
    | true =>
      obtain ⟨k, k1, k2⟩ := inR_n (n := 6) hr (by omega)
      rw [if_bt, mr_257_35, rr_00, mb_l, mb_v, mr_257_39, if_pos rfl, if_pos rfl, k2, nI_clamp (by omega)]
      simp only [mm_sw]
      match k, k1 with
      | 0, _ => rw [if_pos (by decide), mw_j (by decide), p0]; exact RSee.ok rfl
      | 1, _ => rw [if_neg (by decide), if_pos (by decide), mw_j (by decide), p1]; exact RSee.ok rfl
      | 2, _ => rw [if_neg (by decide), if_neg (by decide), if_pos (by decide), mw_j (by decide), p2]; exact RSee.ok rfl
      | 3, _ => rw [if_neg (by decide), if_neg (by decide), if_neg (by decide), if_pos (by decide), mw_j (by decide), p3]; exact RSee.ok rfl
      | 4, _ => rw [if_neg (by decide), if_neg (by decide), if_neg (by decide), if_neg (by decide), if_pos (by decide), mw_j (by decide), p4]; exact RSee.ok rfl
      | 5, _ => rw [if_neg (by decide), if_neg (by decide), if_neg (by decide), if_neg (by decide), if_neg (by decide), if_pos (by decide), mw_j (by decide), p5]; exact RSee.ok rfl
      | 6, _ => rw [if_neg (by decide), if_neg (by decide), if_neg (by decide), if_neg (by decide), if_neg (by decide), if_neg (by decide), mw_j (by decide), p6]; exact RSee.ok rfl
      | k + 7, hk => exact absurd hk (by omega)
theorem c_isClass : mm_V 164 0 [some (.int x)] [] (mm_Z m w i l e) = some (.inl (some (.int (bI (inR x 4)))), mm_Z m w i l e) := by
  rw [mr_164_0, if_inL (d := 4) lt_5, if_ret]
def wVe (x1 x2 x3 : Int32) : mOl → mA
  | none => .inr 2
  | some q => if (pVal q.1 x1 && (pVal q.1 x2 && inR x3 4)) = true then .inl (some (pVec q.1 x1.toNatClampNeg x2.toNatClampNeg x3.toNatClampNeg)) else .inr 0
theorem pv_n (hP : PW π) (h : pVal π x = true) : ∃ a, a < 2 ^ 30 ∧ x = nI a := by
  obtain ⟨⟨h1, _, _⟩, h2⟩ := pv_ok hP h
  exact ⟨x.toNatClampNeg, by omega, h2⟩
theorem c_vector (ho : OC w i o) (hv : OV b o) : CSee m w l e i (mm_V 162 0 [some (.ref 0), some (.int x1), some (.int x2), some (.int x3)] [] (mm_Z m w i l e)) (wVe x1 x2 x3 o) := by
  rw [mr_162_0]
  cases o with
  | none =>
    have h : NCz i := ho
    rw [if_pos h.2.2.2.2]
    exact CSee.no rfl
  | some q =>
    have h : CS w q.1 i q.2.2 := ho
    have hP := hv.1.pw
    have h0 := h.2.2.2.2.2.1.1
    rw [h.2.2.2.2.2.2, if_neg (by decide), pc_isValid h0 hP, mb_l, mb_v, mr_162_31, wVe]
    cases v1 : pVal q.1 x1 with
    | false => rw [if_bf, if_neg (by simp)]; exact CSee.no rfl
    | true =>
      rw [if_bt, pc_isValid h0 hP, mb_l, mb_v, mr_162_45]
      cases v2 : pVal q.1 x2 with
      | false => rw [if_bf, if_neg (by simp)]; exact CSee.no rfl
      | true =>
        rw [if_bt, c_isClass, mb_l, mb_v, mr_162_52]
        cases v3 : inR x3 4 with
        | false => rw [if_bf, if_neg (by simp)]; exact CSee.no rfl
        | true =>
          obtain ⟨a1, b1, c1⟩ := pv_n hP v1
          obtain ⟨a2, b2, c2⟩ := pv_n hP v2
          obtain ⟨a3, b3, c3⟩ := inR_n (n := 4) v3 (by omega)
          rw [if_bt, if_pos (by rfl), c1, c2, c3, pc_vectorOf h.2.2.2.2.2.1 hP hv.1.po (by omega) (by omega) (by omega), mb_l, mb_v, mr_162_78, nI_clamp (by omega), nI_clamp (by omega), nI_clamp (by omega)]
          exact CSee.ok rfl
theorem r_vector (ho : OR i o) (hv : OV b o) : RSee fAc m w l e i (mm_V 258 0 [some (.ref 83), some (.int x1), some (.int x2), some (.int x3), none] [] (mm_Z m w i l e)) (wVe x1 x2 x3 o) := by
  rw [mr_258_0]
  cases o with
  | none =>
    have h : NR i := ho
    rw [if_pos h.2.2.2, mr_258_37, if_pos h.2.2.2, if_pos rfl, mr_258_62, rr_11, mb_l, mb_v, mr_258_66, if_neg (by decide)]
    exact RSee.no (c := 2) rfl
  | some q =>
    have h : RS q.1 i q.2.2 := ho.1
    have h5 := h.2.2.2.2.2.2
    have hP := hv.1.pw
    have h0 := h.2.2.2.2.2.1.1
    have n5 : ¬ i 83 5 = 0 := by rw [h5]; decide
    have bad : RSee fAc m w l e i (mm_V 258 37 [some (.ref 83), some (.int x1), some (.int x2), some (.int x3), none] [.int 0] (mm_Z m w i l e)) (.inr 0) := by
      rw [mr_258_37, if_neg n5, if_pos rfl, mr_258_62, rr_01, mb_l, mb_v, mr_258_66, if_neg (by decide)]
      exact RSee.no (c := 0) rfl
    rw [if_neg n5, pr_isValid h0 hP, mb_l, mb_v, mr_258_12, wVe]
    cases v1 : pVal q.1 x1 with
    | false => rw [if_bf, if_neg (by simp)]; exact bad
    | true =>
      rw [if_bt, pr_isValid h0 hP, mb_l, mb_v, mr_258_20]
      cases v2 : pVal q.1 x2 with
      | false => rw [if_bf, if_neg (by simp)]; exact bad
      | true =>
        rw [if_bt, rf_in, mb_l, mb_v, mr_258_29]
        show RSee fAc m w l e i (if bI (inR x3 4) = 0 then _ else _) _
        cases v3 : inR x3 4 with
        | false => rw [if_bf, if_neg (by simp)]; exact bad
        | true =>
          obtain ⟨a1, b1, c1⟩ := pv_n hP v1
          obtain ⟨a2, b2, c2⟩ := pv_n hP v2
          obtain ⟨a3, b3, c3⟩ := inR_n (n := 4) v3 (by omega)
          have hp : PR (mm_ww i 83 0 (nI 0)) q.1 := h.2.2.2.2.2.1.kp (fun j y => mw_j (by omega)) (fun k j y _ => by rw [mw_k (by omega)])
          rw [if_bt, if_pos (by rfl), mr_258_37, if_neg n5, if_neg (by decide), mr_258_62, rr_00, mb_l, mb_v, mr_258_66, if_pos rfl, c1, c2, c3]
          obtain ⟨i2, e2, g2⟩ := pr_vectorOf (m := m) (w := w) (l := l) (e := e) hp hP hv.1.po (a := a1) (b := a2) (cl := a3) (by omega) (by omega) (by omega)
          rw [e2, mb_l, mb_v, mr_258_78, nI_clamp (by omega), nI_clamp (by omega), nI_clamp (by omega)]
          refine ⟨_, i2, rfl, ⟨by rw [g2 83 (by decide), mw_s]; rfl, fun v z => by cases z; rfl⟩, fun k j y => ?_⟩
          rw [g2 k (fun z => y (Or.inr z)), mw_ne (fun z => y (Or.inl z))]
def wMo (x1 x2 x3 : Int32) : mOl → mA
  | none => .inr 2
  | some q => if (inT (pN q.1 0) x1 && (inT (pN q.1 0) x2 && inR x3 4)) = true then .inl (some (pTo q.1 x1.toNatClampNeg x2.toNatClampNeg x3.toNatClampNeg)) else .inr 0
theorem pc_isT {p : Bool} (h : PC0 p i π) : mm_V 114 0 [some (.ref (mm_P p)), some (.int x)] [] (mm_Z m w i l e) = some (.inl (some (.int (bI (inT (pN π 0) x)))), mm_Z m w i l e) := by
  rw [mr_114_0, h.1 0 (by omega), if_inT, if_ret]
theorem c_move (ho : OC w i o) (hv : OV b o) : CSee m w l e i (mm_V 163 0 [some (.ref 0), some (.int x1), some (.int x2), some (.int x3)] [] (mm_Z m w i l e)) (wMo x1 x2 x3 o) := by
  rw [mr_163_0]
  cases o with
  | none =>
    have h : NCz i := ho
    rw [if_pos h.2.2.2.2]
    exact CSee.no rfl
  | some q =>
    have h : CS w q.1 i q.2.2 := ho
    have hP := hv.1.pw
    have h0 := h.2.2.2.2.2.1.1
    have hn := hP.1
    rw [h.2.2.2.2.2.2, if_neg (by decide), pc_isT h0, mb_l, mb_v, mr_163_31, wMo]
    cases v1 : inT (pN q.1 0) x1 with
    | false => rw [if_bf, if_neg (by simp)]; exact CSee.no rfl
    | true =>
      rw [if_bt, pc_isT h0, mb_l, mb_v, mr_163_45]
      cases v2 : inT (pN q.1 0) x2 with
      | false => rw [if_bf, if_neg (by simp)]; exact CSee.no rfl
      | true =>
        rw [if_bt, c_isClass, mb_l, mb_v, mr_163_52]
        cases v3 : inR x3 4 with
        | false => rw [if_bf, if_neg (by simp)]; exact CSee.no rfl
        | true =>
          obtain ⟨a1, b1, c1⟩ := inT_n v1 (by omega)
          obtain ⟨a2, b2, c2⟩ := inT_n v2 (by omega)
          obtain ⟨a3, b3, c3⟩ := inR_n (n := 4) v3 (by omega)
          rw [if_bt, if_pos (by rfl), c1, c2, c3, pc_movedType h0 hP (by omega) (by omega) (by omega), mb_l, mb_v, mr_163_78, nI_clamp (by omega), nI_clamp (by omega), nI_clamp (by omega)]
          exact CSee.ok rfl
theorem r_move (ho : OR i o) (hv : OV b o) : RSee fAc m w l e i (mm_V 259 0 [some (.ref 83), some (.int x1), some (.int x2), some (.int x3), none] [] (mm_Z m w i l e)) (wMo x1 x2 x3 o) := by
  rw [mr_259_0]
  cases o with
  | none =>
    have h : NR i := ho
    rw [if_pos h.2.2.2, mr_259_49, if_pos h.2.2.2, if_pos rfl, mr_259_74, rr_11, mb_l, mb_v, mr_259_78, if_neg (by decide)]
    exact RSee.no (c := 2) rfl
  | some q =>
    have h : RS q.1 i q.2.2 := ho.1
    have h5 := h.2.2.2.2.2.2
    have hP := hv.1.pw
    have h0 := h.2.2.2.2.2.1.1
    have hn := hP.1
    have n5 : ¬ i 83 5 = 0 := by rw [h5]; decide
    have bad : RSee fAc m w l e i (mm_V 259 49 [some (.ref 83), some (.int x1), some (.int x2), some (.int x3), none] [.int 0] (mm_Z m w i l e)) (.inr 0) := by
      rw [mr_259_49, if_neg n5, if_pos rfl, mr_259_74, rr_01, mb_l, mb_v, mr_259_78, if_neg (by decide)]
      exact RSee.no (c := 0) rfl
    rw [if_neg n5, h0.1.1, rf_in, inT_r (by omega), mb_l, mb_v, mr_259_18, wMo]
    cases v1 : inT (pN q.1 0) x1 with
    | false => rw [if_bf, if_neg (by simp)]; exact bad
    | true =>
      rw [if_bt, h0.1.1, rf_in, inT_r (by omega), mb_l, mb_v, mr_259_32]
      cases v2 : inT (pN q.1 0) x2 with
      | false => rw [if_bf, if_neg (by simp)]; exact bad
      | true =>
        rw [if_bt, rf_in, mb_l, mb_v, mr_259_41]
        show RSee fAc m w l e i (if bI (inR x3 4) = 0 then _ else _) _
        cases v3 : inR x3 4 with
        | false => rw [if_bf, if_neg (by simp)]; exact bad
        | true =>
          obtain ⟨a1, b1, c1⟩ := inT_n v1 (by omega)
          obtain ⟨a2, b2, c2⟩ := inT_n v2 (by omega)
          obtain ⟨a3, b3, c3⟩ := inR_n (n := 4) v3 (by omega)
          have hp : PR (mm_ww i 83 0 (nI 0)) q.1 := h.2.2.2.2.2.1.kp (fun j y => mw_j (by omega)) (fun k j y _ => by rw [mw_k (by omega)])
          rw [if_bt, if_pos (by rfl), mr_259_49, if_neg n5, if_neg (by decide), mr_259_74, rr_00, mb_l, mb_v, mr_259_78, if_pos rfl, c1, c2, c3, pr_moveOf hp.1 hP (by omega) (by omega) (by omega), mb_l, mb_v, mr_259_90, nI_clamp (by omega), nI_clamp (by omega), nI_clamp (by omega)]
          exact RSee.ok rfl
noncomputable def wId (x : Int32) (o : mOl) : mA := if x < 0 then .inr 0 else .inl (some (if kIx (kI (oK o)) x < (kI (oK o)).length then nI (kIx (kI (oK o)) x + 1) else -1))
theorem c_identifier (ho : OC w i o) (hv : OV b o) : CSee m w l e i (mm_V 165 0 [some (.ref 0), some (.int x)] [] (mm_Z m w i l e)) (wId x o) := by
  rw [mr_165_0, wId]
  by_cases z : x < 0
  · rw [if_pos z, if_pos z]; exact CSee.no rfl
  · rw [if_neg z, if_neg z, gc_identifierOf ho.cg hv.gw, mb_l, mb_v, mr_165_22]
    exact CSee.ok rfl
theorem kIx_un {L : List Int32} (h : L.Nodup) (hk : k < L.length) (he : L.getD k 0 = x) : kIx L x = k := by
  have h1 := kIx_le L x
  by_cases z : kIx L x = L.length
  · exact absurd he (kIx_no z hk)
  · exact nd_inj h (by omega) hk (by rw [kIx_at (by omega), he])
theorem r_ids_loop {L : List Int32} (h : i 83 79 = nI L.length) (h2 : ∀ k, k < L.length → i 136 k = L.getD k 0) (hl : L.length ≤ 576) (hn : L.Nodup) : ∀ (D k : Nat) (y : Int32), k + D = L.length → mm_V 260 24 [some (.ref 83), some (.int x), some (.int y), some (.int (nI k))] [] (mm_Z m w i l e) = some (.inl (some (.int (if k ≤ kIx L x ∧ kIx L x < L.length then nI (kIx L x + 1) else y))), mm_Z m w i l e)
  | 0, k, y, hk => by
    rw [mr_260_24, h, if_neg (fun z => by have := (nI_ltI (by omega) (by omega)).mp z; omega), if_neg (by omega)]
  | D + 1, k, y, hk => by
    rw [mr_260_24, h, if_pos ((nI_ltI (by omega) (by omega)).mpr (by omega)), if_neg (no_out (by omega) (by omega)), nI_clamp (by omega), h2 k (by omega), nI_1]
    by_cases z : L.getD k 0 = x
    · have e1 := kIx_un hn (by omega) z
      rw [if_pos z, r_ids_loop h h2 hl hn D (k + 1) _ (by omega), e1, if_neg (by omega), if_pos (by omega)]
    · have e1 : kIx L x ≠ k := fun y => z (by rw [← y]; exact kIx_at (by omega))
      rw [if_neg z, r_ids_loop h h2 hl hn D (k + 1) _ (by omega)]
      by_cases q : k ≤ kIx L x ∧ kIx L x < L.length
      · rw [if_pos (by omega), if_pos q]
      · rw [if_neg (by omega), if_neg q]
theorem r_identifier (ho : OR i o) (hv : OV b o) : RSee (fun _ => 1) m w l e i (mm_V 260 0 [some (.ref 83), some (.int x), none, none] [] (mm_Z m w i l e)) (wId x o) := by
  rw [mr_260_0, wId]
  by_cases z : x < 0
  · rw [if_pos z, if_pos z, mr_260_10, rr_10, mb_l, mb_v, mr_260_15, if_neg (by decide)]
    exact RSee.no (c := 0) rfl
  · have hg := ho.cg
    have hw := hv.gw
    have t := r_ids_loop (m := m) (w := w) (l := l) (e := e) (i := mm_ww i 83 0 (nI 0)) (x := x) (L := kI (oK o)) (by rw [mw_j (by decide)]; exact hg.1.1) (fun k hk => by rw [mw_k (by decide)]; exact hg.1.2 k hk) hw.1 hw.2.2.2.2 (kI (oK o)).length 0 (-1) (by omega)
    have t : mm_V 260 24 [some (.ref 83), some (.int x), some (.int (-1)), some (.int 0)] [] (mm_Z m w (mm_ww i 83 0 (nI 0)) l e) = _ := t
    rw [if_neg z, if_neg z, mr_260_10, rr_00, mb_l, mb_v, mr_260_15, if_pos rfl, t]
    refine RSee.ok ?_
    by_cases q : kIx (kI (oK o)) x < (kI (oK o)).length
    · rw [if_pos ⟨Nat.zero_le _, q⟩, if_pos q]
    · rw [if_neg (fun y => q y.2), if_neg q]
end MM210
