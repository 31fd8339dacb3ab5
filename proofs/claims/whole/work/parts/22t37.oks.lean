/-! THE LAW: what answers may be -/
section MM217
variable {X : mX} {w : Bool} {i i' : Nat → Nat → Int32} {l l' : Nat → Nat → Int64} {m : Nat} {e : Bool × Nat × Nat} {a n k j p q c d b b' : Nat} {x x1 x2 x3 x4 y v : Int32} {V : Option mm_R} {o : mOl} {R : List Int32} {f : Nat → Nat} {A : mA}
theorem ok_pt : (∃ v, (wPt x X).1 = .inl (some v)) ∨ ∃ c, (wPt x X).1 = .inr c ∧ (c = 0 ∨ c = 1) := by
  unfold wPt
  split
  · exact Or.inr ⟨0, rfl, Or.inl rfl⟩
  · split
    · exact Or.inr ⟨1, rfl, Or.inr rfl⟩
    · exact Or.inl ⟨_, rfl⟩
theorem ok_ed : (wEd x X).1 = .inl none ∨ ∃ c, (wEd x X).1 = .inr c ∧ (c = 0) := by
  unfold wEd
  split
  · exact Or.inr ⟨0, rfl, rfl⟩
  · exact Or.inl rfl
theorem ok_ld : (∃ v, (wLd X o).1 = .inl (some v)) ∨ ∃ c, (wLd X o).1 = .inr c ∧ (c = 2) := by
  unfold wLd
  split
  · exact Or.inl ⟨_, rfl⟩
  · split
    · split
      · exact Or.inl ⟨_, rfl⟩
      · exact Or.inr ⟨2, rfl, rfl⟩
    · split
      · exact Or.inl ⟨_, rfl⟩
      · exact Or.inr ⟨2, rfl, rfl⟩
theorem ok_po : (∃ v, wPo x o = .inl (some v)) ∨ ∃ c, wPo x o = .inr c ∧ (c = 2 ∨ c = 0) := by
  cases o with
  | none => exact Or.inr ⟨2, rfl, Or.inl rfl⟩
  | some q =>
    rw [wPo]
    split
    · exact Or.inl ⟨_, rfl⟩
    · exact Or.inr ⟨0, rfl, Or.inr rfl⟩
theorem ok_ve : (∃ v, wVe x1 x2 x3 o = .inl (some v)) ∨ ∃ c, wVe x1 x2 x3 o = .inr c ∧ (c = 2 ∨ c = 0) := by
  cases o with
  | none => exact Or.inr ⟨2, rfl, Or.inl rfl⟩
  | some q =>
    rw [wVe]
    split
    · exact Or.inl ⟨_, rfl⟩
    · exact Or.inr ⟨0, rfl, Or.inr rfl⟩
theorem ok_mo : (∃ v, wMo x1 x2 x3 o = .inl (some v)) ∨ ∃ c, wMo x1 x2 x3 o = .inr c ∧ (c = 2 ∨ c = 0) := by
  cases o with
  | none => exact Or.inr ⟨2, rfl, Or.inl rfl⟩
  | some q =>
    rw [wMo]
    split
    · exact Or.inl ⟨_, rfl⟩
    · exact Or.inr ⟨0, rfl, Or.inr rfl⟩
theorem ok_id : (∃ v, wId x o = .inl (some v)) ∨ ∃ c, wId x o = .inr c ∧ (c = 0) := by
  unfold wId
  by_cases z : x < 0
  · rw [if_pos z]; exact Or.inr ⟨0, rfl, rfl⟩
  · rw [if_neg z]; exact Or.inl ⟨_, rfl⟩
theorem ok_cx : (∃ v, wCx x1 x2 o = .inl (some v)) ∨ ∃ c, wCx x1 x2 o = .inr c ∧ (c = 0) := by
  have go : ∀ (P : Prop) [Decidable P] (v : Int32), (∃ v', (if P then (.inl (some v) : mA) else .inr 0) = .inl (some v')) ∨ ∃ c, (if P then (.inl (some v) : mA) else .inr 0) = .inr c ∧ (c = 0) := fun P _ v => by
    by_cases z : P
    · rw [if_pos z]; exact Or.inl ⟨_, rfl⟩
    · rw [if_neg z]; exact Or.inr ⟨0, rfl, rfl⟩
  by_cases z0 : x2 = 0
  · rw [z0, wCx_0]; exact go _ _
  · by_cases z1 : x2 = 1
    · rw [z1, wCx_1]; exact go _ _
    · by_cases z2 : x2 = 2
      · rw [z2, wCx_2]; exact go _ _
      · rw [wCx_n z0 z1 z2]; exact Or.inr ⟨0, rfl, rfl⟩
theorem ok_no : (∃ v, wNo x1 x2 o = .inl (some v)) ∨ ∃ c, wNo x1 x2 o = .inr c ∧ (c = 0 ∨ c = 3) := by
  unfold wNo
  by_cases z : (inR x1 31 && decide (¬ x2 < 0)) = true
  · rw [if_pos z]
    by_cases z2 : tk (oT o) x1.toNatClampNeg ≠ 0 ∧ x2 - 3 < nI (ts (oT o) x1.toNatClampNeg)
    · rw [if_pos z2]; exact Or.inl ⟨_, rfl⟩
    · rw [if_neg z2]; exact Or.inr ⟨3, rfl, Or.inr rfl⟩
  · rw [if_neg z]; exact Or.inr ⟨0, rfl, Or.inl rfl⟩
theorem ok_rc : (∃ v, wRc x1 x2 o = .inl (some v)) ∨ ∃ c, wRc x1 x2 o = .inr c ∧ (c = 4 ∨ c = 0) := by
  unfold wRc
  by_cases z : inT (kR (oK o)).length x1 = true
  · rw [if_pos z]
    by_cases z2 : inR x2 4 = true
    · rw [if_pos z2]; exact Or.inl ⟨_, rfl⟩
    · rw [if_neg z2]; exact Or.inr ⟨0, rfl, Or.inr rfl⟩
  · rw [if_neg z]; exact Or.inr ⟨4, rfl, Or.inl rfl⟩
theorem ok_ab : (∃ v, wAb x o = .inl (some v)) ∨ ∃ c, wAb x o = .inr c ∧ (c = 0) := by
  unfold wAb
  by_cases z : inR x 7 = true
  · rw [if_pos z]; exact Or.inl ⟨_, rfl⟩
  · rw [if_neg z]; exact Or.inr ⟨0, rfl, rfl⟩
theorem ok_rs : (∃ v, wRs x R = .inl (some v)) ∨ ∃ c, wRs x R = .inr c ∧ (c = 4) := by
  unfold wRs
  by_cases z : x = -1
  · rw [if_pos z]; exact Or.inl ⟨_, rfl⟩
  · rw [if_neg z]
    by_cases z2 : inT R.length x = true
    · rw [if_pos z2]; exact Or.inl ⟨_, rfl⟩
    · rw [if_neg z2]; exact Or.inr ⟨4, rfl, rfl⟩
theorem ok_a (h : aOkA A) : (∃ v, A = .inl (some v)) ∨ ∃ c, A = .inr c ∧ (c = 2 ∨ c = 0 ∨ c = 3) := by
  match A, h with
  | .inl (some v), _ => exact Or.inl ⟨v, rfl⟩
  | .inr c, hc => exact Or.inr ⟨c, rfl, by
      rcases hc with h | h | h
      · exact Or.inr (Or.inl h)
      · exact Or.inl h
      · exact Or.inr (Or.inr h)⟩
theorem ok_v (h : aOkA A) : aVo A = .inl none ∨ ∃ c, aVo A = .inr c ∧ (c = 2 ∨ c = 0 ∨ c = 3) := by
  rcases ok_a h with ⟨v, h⟩ | ⟨c, h, hc⟩
  · rw [h]; exact Or.inl rfl
  · rw [h]; exact Or.inr ⟨c, rfl, hc⟩
theorem ok_vc : aVo (wCra x o).1 = .inl none ∨ ∃ c, aVo (wCra x o).1 = .inr c ∧ (c = 2 ∨ c = 0) := by
  cases o with
  | none => exact Or.inr ⟨2, rfl, Or.inl rfl⟩
  | some q =>
    rw [wCra]
    split
    · exact Or.inl rfl
    · exact Or.inr ⟨0, rfl, Or.inr rfl⟩
theorem ok_es : ∃ v, (wEs X R o).1 = .inl (some v) := by
  unfold wEs
  split
  · exact ⟨_, rfl⟩
  · exact ⟨_, rfl⟩
theorem f0_no (c : Nat) : nI (fNo c) ≠ 0 := by unfold fNo; split <;> decide
theorem f0_ac (c : Nat) : nI (fAc c) ≠ 0 := by
  unfold fAc
  split
  · decide
  · split <;> decide
theorem f0_re (c : Nat) : nI (fRec c) ≠ 0 := by unfold fRec; split <;> decide
theorem f0_1 (c : Nat) : nI ((fun _ => 1 : Nat → Nat) c) ≠ 0 := show nI 1 ≠ 0 by decide
/-- the law compares -/
theorem lw_tail {P : Nat → Prop} {B Y : Option mm_R} (hA : (∃ v, A = .inl (some v)) ∨ ∃ c, A = .inr c ∧ P c) (h : RA0 f A i y) (hf : ∀ c, nI (f c) ≠ 0) : (if nI (aTh f A) = 0 then (if lg_cmp (lOut A l 146 0) (y : Int32).toInt64 = 0 then B else Y) else B) = B := by
  rcases hA with ⟨v, rfl⟩ | ⟨c, rfl, _⟩
  · have e1 : lOut (.inl (some v)) l 146 0 = v.toInt64 := ml_s
    rw [h.2 v rfl, if_pos (show nI (aTh f (.inl (some v))) = 0 from rfl), e1, if_pos (cmp_0.mpr rfl)]
  · rw [if_neg (show ¬ nI (aTh f (.inr c)) = 0 from hf c)]
theorem nI_p2 : nI a + 2 = nI (a + 2) := by rw [show (2 : Int32) = nI 2 from rfl, nI_add]
theorem nI_p3 : nI a + 3 = nI (a + 3) := by rw [show (3 : Int32) = nI 3 from rfl, nI_add]
theorem nI_p4 : nI a + 4 = nI (a + 4) := by rw [show (4 : Int32) = nI 4 from rfl, nI_add]
theorem nI_p5 : nI a + 5 = nI (a + 5) := by rw [show (5 : Int32) = nI 5 from rfl, nI_add]
/-- a step of the law -/
def LwS (m : Nat) (e : Bool × Nat × Nat) (i : Nat → Nat → Int32) (b a : Nat) (V : Option mm_R) : Prop := ∃ w' i' l' e' X' o' R' u5 u6, eL e e' ∧ V = mm_V 360 1608 [some (.ref 1000000), some (.ref 0), some (.ref 83), some (.ref 146), some (.int (nI a)), u5, u6] [] (mm_Z m w' i' l' e') ∧ WD w' i' l' (b + 3840) X' o' R' ∧ (∀ j, i' 1000000 j = i 1000000 j)
end MM217
