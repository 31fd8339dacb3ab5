/-! LIMITS in the reference -/
section MM75
variable {p w : Bool} {i : Nat → Nat → Int32} {l : Nat → Nat → Int64} {e : Bool × Nat × Nat} {π : mP} {m : Nat}
def oAt (a b : Nat) (op : mO) : Bool := (match op.1 with
  | 3 => decide (a / 1000 = b / 1000)
  | 4 => decide (a / 100 % 10 = b / 100 % 10)
  | 5 => decide (a % 100 = b % 100)
  | 6 => mB op.2.2 (a % 100)
  | _ => mB op.2.2 (b % 100)) != op.2.1
def oEv (a b : Nat) (op : mO) (st : List Bool) : List Bool := match op.1 with
  | 0 => (match st with
    | x :: r => (!x) :: r
    | [] => [])
  | 1 => (match st with
    | y :: x :: r => (x && y) :: r
    | _ => [])
  | 2 => (match st with
    | y :: x :: r => (x || y) :: r
    | _ => [])
  | _ => oAt a b op :: st
def oOk : Nat → List mO → Prop
  | h, [] => h = 1
  | h, c :: r => c.1 ≤ 7 ∧ (if c.1 = 0 then 1 ≤ h ∧ oOk h r else if c.1 = 1 ∨ c.1 = 2 then 2 ≤ h ∧ oOk (h - 1) r else h < 60 ∧ oOk (h + 1) r)
def oRun (a b : Nat) (ops : List mO) (st : List Bool) : List Bool := ops.foldl (fun s c => oEv a b c s) st
/-- how the reference keeps an operation -/
def rT (i : Nat → Nat → Int32) (k : Nat) (op : mO) : Prop := (op.1 = 0 ∧ i 109 k = -1) ∨ (op.1 = 1 ∧ i 109 k = -2) ∨ (op.1 = 2 ∧ i 109 k = -3) ∨ (3 ≤ op.1 ∧ op.1 ≤ 5 ∧ (∃ t, (t = op.1 - 3 ∨ t = op.1) ∧ i 109 k = nI (t + (if op.2.1 = true then 1000 else 0))) ∧ i 110 k = -1) ∨ (6 ≤ op.1 ∧ op.1 ≤ 7 ∧ i 109 k = nI ((if op.1 = 6 then 2 else 5) + (if op.2.1 = true then 1000 else 0)) ∧ rM i (i 110 k) op.2.2 ∧ ¬ i 110 k < 0)
def rSeg (i : Nat → Nat → Int32) (s : Nat) (ops : List mO) : Prop := ∀ j op, ops[j]? = some op → rT i (s + j) op
theorem rM.kp {i i' : Nat → Nat → Int32} {x v : Int32} (h : rM i x v) (h1 : i' 83 14 = i 83 14) (h2 : ∀ j, i' 92 j = i 92 j) : rM i' x v := by
  unfold rM
  rw [h1]
  rcases h with h | h | ⟨a, h3, h4, h5⟩
  · exact Or.inl h
  · exact Or.inr (Or.inl h)
  · exact Or.inr (Or.inr ⟨a, h3, h4, by rw [h2, h5]⟩)
theorem rSeg.kp {i i' : Nat → Nat → Int32} {s : Nat} {ops : List mO} (h : rSeg i s ops) (h1 : i' 83 14 = i 83 14) (h2 : ∀ j, i' 92 j = i 92 j) (h3 : ∀ j, i' 109 j = i 109 j) (h4 : ∀ j, i' 110 j = i 110 j) : rSeg i' s ops := by
  intro j op hq
  have := h j op hq
  unfold rT at this ⊢
  rw [h3, h4]
  rcases this with q | q | q | q | ⟨q1, q2, q3, q4, q5⟩
  · exact Or.inl q
  · exact Or.inr (Or.inl q)
  · exact Or.inr (Or.inr (Or.inl q))
  · exact Or.inr (Or.inr (Or.inr (Or.inl q)))
  · exact Or.inr (Or.inr (Or.inr (Or.inr ⟨q1, q2, q3, q4.kp h1 h2, q5⟩)))
def oPt (t c : Nat) : Nat := if t = 0 then c / 1000 else if t = 1 then c / 100 % 10 else c % 100
theorem pr_partOf {t c : Nat} (ht : t < 3) (hc : c < 2 ^ 31) : mm_V 245 0 [some (.int (nI t)), some (.int (nI c))] [] (mm_Z m w i l e) = some (.inl (some (.int (nI (oPt t c)))), mm_Z m w i l e) := by
  rw [mr_245_0]
  rcases (show t = 0 ∨ t = 1 ∨ t = 2 by omega) with rfl | rfl | rfl
  · rw [if_pos (by decide), mr_241_0, mb_l, mb_v, mr_245_8, mr_245_27, na_1000, na_div hc (by omega)]; rfl
  · rw [if_neg (by decide), if_pos (by decide), mr_242_0, mb_l, mb_v, mr_245_20, mr_245_27, na_100, na_10, na_div hc (by omega), na_re (by omega) (by omega)]; rfl
  · rw [if_neg (by decide), if_neg (by decide), mr_243_0, mb_l, mb_v, mr_245_27, na_100, na_re hc (by omega)]; rfl
theorem oPt_lt {t c : Nat} (hc : c < 2 ^ 31) : oPt t c < 2 ^ 31 := by unfold oPt; split <;> (try split) <;> omega
theorem pr_ho_end {k a b t : Nat} {ng x : Bool} {x5 : Int32} (hk : k < 1300) (ht : t < 6) (h9 : i 109 k = nI (t + (if ng = true then 1000 else 0))) : mm_V 246 100 [some (.ref 83), some (.int (nI k)), some (.int (nI a)), some (.int (nI b)), some (.int (nI t)), some (.int x5), some (.int (bI x))] [] (mm_Z m w i l e) = some (.inl (some (.int (bI (x != ng)))), mm_Z m w i l e) := by
  rw [mr_246_100, if_neg (no_out hk (by omega)), nI_clamp (by omega), h9, na_1000]
  simp only [nI_ltI (show t + (if ng = true then 1000 else 0) < 2 ^ 31 by split <;> omega) (show 1000 < 2 ^ 31 by omega)]
  cases ng
  · rw [if_pos (by simp; omega)]
    cases x <;> rfl
  · rw [if_neg (by simp)]
    cases x <;> rfl
theorem pr_holds {k a b : Nat} {op : mO} (hk : k < 1300) (ha : a < 2 ^ 31) (hb : b < 2 ^ 31) (h : rT i k op) (h3 : 3 ≤ op.1) : mm_V 246 0 [some (.ref 83), some (.int (nI k)), some (.int (nI a)), some (.int (nI b)), none, none, none] [] (mm_Z m w i l e) = some (.inl (some (.int (bI (oAt a b op)))), mm_Z m w i l e) := by
  have ho : ¬ mm_out (nI k) 1300 := no_out hk (by omega)
  obtain ⟨c, ng, mk⟩ := op
  dsimp only at h3
  -- the first part
  have first : ∀ t, t < 6 → i 109 k = nI (t + (if ng = true then 1000 else 0)) → mm_V 246 0 [some (.ref 83), some (.int (nI k)), some (.int (nI a)), some (.int (nI b)), none, none, none] [] (mm_Z m w i l e) = mm_V 246 30 [some (.ref 83), some (.int (nI k)), some (.int (nI a)), some (.int (nI b)), some (.int (nI t)), none, none] [.int (nI (oPt (t % 3) (if t < 3 then a else b)))] (mm_Z m w i l e) := by
    intro t ht h9
    have e1 : mm_re (nI (t + (if ng = true then 1000 else 0))) (nI 1000) = nI t := by
      rw [na_re (by split <;> omega) (by omega)]
      congr 1
      split <;> omega
    rw [mr_246_0, if_neg ho]
    simp only [nI_clamp (show k < 2 ^ 31 by omega), h9, na_1000, e1, na_3, na_re (show t < 2 ^ 31 by omega) (show 3 < 2 ^ 31 by omega), nI_ltI (show t < 2 ^ 31 by omega) (show 3 < 2 ^ 31 by omega)]
    by_cases q : t < 3
    · rw [if_pos q, if_pos q, mr_246_27, pr_partOf (by omega) ha, mb_l, mb_v]
    · rw [if_neg q, if_neg q, mr_246_27, pr_partOf (by omega) hb, mb_l, mb_v]
  rcases h with h | h | h | ⟨-, h5, ⟨t, ht, h9⟩, h10⟩ | ⟨h6, h7, h9, h10, h11⟩
  · have := h.1; dsimp only at this; omega
  · have := h.1; dsimp only at this; omega
  · have := h.1; dsimp only at this; omega
  · dsimp only at h5 ht h9
    have ht6 : t < 6 := by omega
    rw [first t ht6 h9, mr_246_30, if_neg ho]
    simp only [nI_clamp (show k < 2 ^ 31 by omega), h10]
    rw [if_pos (by decide), na_3]
    simp only [nI_ltI (show t < 2 ^ 31 by omega) (show 3 < 2 ^ 31 by omega), na_re (show t < 2 ^ 31 by omega) (show 3 < 2 ^ 31 by omega)]
    have e2 : t % 3 = c - 3 := by omega
    have fin : ∀ u v, u < 2 ^ 31 → v < 2 ^ 31 → mm_V 246 61 [some (.ref 83), some (.int (nI k)), some (.int (nI a)), some (.int (nI b)), some (.int (nI t)), some (.int (nI u)), none] [.int (nI v), .int (nI u)] (mm_Z m w i l e) = some (.inl (some (.int (bI (decide (u = v) != ng)))), mm_Z m w i l e) := by
      intro u v hu hv
      rw [mr_246_61]
      simp only [nI_eq hu hv]
      rw [if_bI (F := fun z => mm_V 246 100 [some (.ref 83), some (.int (nI k)), some (.int (nI a)), some (.int (nI b)), some (.int (nI t)), some (.int (nI u)), some (.int z)] [] (mm_Z m w i l e))]
      exact pr_ho_end hk ht6 h9
    have eo : ∀ (x y : Nat), oPt (c - 3) x = oPt (c - 3) y ↔ (match c with | 3 => x / 1000 = y / 1000 | 4 => x / 100 % 10 = y / 100 % 10 | _ => x % 100 = y % 100) := by
      intro x y
      rcases (show c = 3 ∨ c = 4 ∨ c = 5 by omega) with rfl | rfl | rfl <;> exact Iff.rfl
    by_cases q : t < 3
    · rw [if_pos q, if_pos q, mr_246_58, pr_partOf (by omega) hb, mb_l, mb_v, fin _ _ (oPt_lt ha) (oPt_lt hb), e2]
      congr 6
      rcases (show c = 3 ∨ c = 4 ∨ c = 5 by omega) with rfl | rfl | rfl <;> rfl
    · rw [if_neg q, if_neg q, mr_246_58, pr_partOf (by omega) ha, mb_l, mb_v, fin _ _ (oPt_lt hb) (oPt_lt ha), e2]
      congr 6
      rcases (show c = 3 ∨ c = 4 ∨ c = 5 by omega) with rfl | rfl | rfl
      · show (decide (b / 1000 = a / 1000) != ng) = (decide (a / 1000 = b / 1000) != ng)
        rw [decide_eq_decide.mpr (eq_comm (a := b / 1000))]
      · show (decide (b / 100 % 10 = a / 100 % 10) != ng) = (decide (a / 100 % 10 = b / 100 % 10) != ng)
        rw [decide_eq_decide.mpr (eq_comm (a := b / 100 % 10))]
      · show (decide (b % 100 = a % 100) != ng) = (decide (a % 100 = b % 100) != ng)
        rw [decide_eq_decide.mpr (eq_comm (a := b % 100))]
  · dsimp only at h6 h7 h9 h10
    have ht6 : (if c = 6 then 2 else 5) < 6 := by split <;> omega
    rw [first _ ht6 h9, mr_246_30, if_neg ho]
    simp only [nI_clamp (show k < 2 ^ 31 by omega)]
    rw [if_neg h11, if_neg ho, pr_meaning h10, mb_l, mb_v, mr_246_84]
    rcases (show c = 6 ∨ c = 7 by omega) with rfl | rfl
    · have e1 : oPt ((if 6 = 6 then 2 else 5) % 3) (if (if 6 = 6 then 2 else 5) < 3 then a else b) = a % 100 := rfl
      rw [e1, if_bI (F := fun z => mm_V 246 100 [some (.ref 83), some (.int (nI k)), some (.int (nI a)), some (.int (nI b)), some (.int (nI (if 6 = 6 then 2 else 5))), some (.int (nI (a % 100))), some (.int z)] [] (mm_Z m w i l e))]
      exact pr_ho_end hk ht6 h9
    · have e1 : oPt ((if 7 = 6 then 2 else 5) % 3) (if (if 7 = 6 then 2 else 5) < 3 then a else b) = b % 100 := rfl
      rw [e1, if_bI (F := fun z => mm_V 246 100 [some (.ref 83), some (.int (nI k)), some (.int (nI a)), some (.int (nI b)), some (.int (nI (if 7 = 6 then 2 else 5))), some (.int (nI (b % 100))), some (.int z)] [] (mm_Z m w i l e))]
      exact pr_ho_end hk ht6 h9
end MM75
