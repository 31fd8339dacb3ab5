/-! THE MEMORY of the small machine -/
section MM3
/-- tags (what a cell is: 1 ints, 2 bytes, 3 truths, 4 longs, 10 + c an object of class c; its length), ints, longs, references; how many cells are known, whether no other cell was made, how many cells and slots were made -/
abbrev mm_M : Type := (Nat → Nat × Nat) × (Nat → Nat → Int32) × (Nat → Nat → Int64) × (Nat → Nat → Value) × Nat × Bool × Nat × Nat
/-- an instruction, its length, two numbers that its links give, a constant -/
abbrev mm_E : Type := Instr × Nat × Nat × Nat × Value
def mm_gt (μ : mm_M) (k : Nat) : Nat × Nat := μ.1 k
def mm_gi (μ : mm_M) (k j : Nat) : Int32 := μ.2.1 k j
def mm_gl (μ : mm_M) (k j : Nat) : Int64 := μ.2.2.1 k j
def mm_gr (μ : mm_M) (k j : Nat) : Value := μ.2.2.2.1 k j
def mm_nx (μ : mm_M) : Nat := μ.2.2.2.2.1
def mm_ex (μ : mm_M) : Bool := μ.2.2.2.2.2.1
def mm_cn (μ : mm_M) : Nat := μ.2.2.2.2.2.2.1
def mm_sn (μ : mm_M) : Nat := μ.2.2.2.2.2.2.2
def mm_si (μ : mm_M) (k j : Nat) (x : Int32) : mm_M := (μ.1, va_up μ.2.1 k (upd (μ.2.1 k) j x), μ.2.2)
def mm_sa (μ : mm_M) (k : Nat) (f : Nat → Int32) : mm_M := (μ.1, va_up μ.2.1 k f, μ.2.2)
def mm_sl (μ : mm_M) (k j : Nat) (x : Int64) : mm_M := (μ.1, μ.2.1, va_up μ.2.2.1 k (vp_updL (μ.2.2.1 k) j x), μ.2.2.2)
def mm_sr (μ : mm_M) (k j : Nat) (v : Value) : mm_M := (μ.1, μ.2.1, μ.2.2.1, va_up μ.2.2.2.1 k (va_up (μ.2.2.2.1 k) j v), μ.2.2.2.2)
/-- a new cell -/
def mm_al (μ : mm_M) (t : Nat × Nat) (n : Nat) : mm_M := (va_up μ.1 (mm_nx μ) t, va_up μ.2.1 (mm_nx μ) (fun _ => 0), va_up μ.2.2.1 (mm_nx μ) (fun _ => 0), va_up μ.2.2.2.1 (mm_nx μ) (fun _ => .null), mm_nx μ + 1, mm_ex μ, mm_cn μ + 1, mm_sn μ + n)
/-- an exception is made: its cell isn't known -/
def mm_th (μ : mm_M) : mm_M := (μ.1, μ.2.1, μ.2.2.1, μ.2.2.2.1, mm_nx μ, false, mm_cn μ + 1, mm_sn μ + 6)
def mm_fvOf (ci k : Nat) (fi : Nat → Int32) (fj : Nat → Int64) (fr : Nat → Value) : Value := match mm_ty ci k with
  | 0 => .int (fi k)
  | 1 => .int (fi k)
  | 2 => .long (fj k)
  | _ => fr k
def mm_fsOf (r : Nat → Nat) (ci : Nat) (fi : Nat → Int32) (fj : Nat → Int64) (fr : Nat → Value) : List Value := (List.range (mm_nf ci)).map (fun k => mm_cv r (mm_fvOf ci k fi fj fr))
def mm_cellOf (r : Nat → Nat) (cA : Nat → ClassId) (t : Nat × Nat) (fi : Nat → Int32) (fj : Nat → Int64) (fr : Nat → Value) : va_E := match t.1 with
  | 1 => .inl (cA 1, t.2, .inl fi)
  | 2 => .inl (cA 2, t.2, .inl fi)
  | 3 => .inl (cA 3, t.2, .inl fi)
  | 4 => .inl (cA 4, t.2, .inr (.inl fj))
  | n => .inr (n - 10, mm_fsOf r (n - 10) fi fj fr)
def mm_cell (r : Nat → Nat) (cA : Nat → ClassId) (μ : mm_M) (k : Nat) : va_E := mm_cellOf r cA (μ.1 k) (μ.2.1 k) (μ.2.2.1 k) (μ.2.2.2.1 k)
def mm_ws (r : Nat → Nat) (cA : Nat → ClassId) (μ : mm_M) : va_W := (List.range (mm_nx μ)).map (fun k => (r k, mm_cell r cA μ k))
variable {r : Nat → Nat} {cA : Nat → ClassId} {μ : mm_M}
theorem mm_ws_at {k : Nat} (h : k < mm_nx μ) : (mm_ws r cA μ)[k]? = some (r k, mm_cell r cA μ k) := by simp [mm_ws, h]
theorem mm_ws_set {μ' : mm_M} {k : Nat} {e : va_E} (hn : mm_nx μ' = mm_nx μ) (hk : k < mm_nx μ) (he : mm_cell r cA μ' k = e) (ho : ∀ j, j ≠ k → mm_cell r cA μ' j = mm_cell r cA μ j) : (mm_ws r cA μ).set k (r k, e) = mm_ws r cA μ' := by
  apply List.ext_getElem?
  intro j
  by_cases hj : j = k
  · subst hj
    rw [List.getElem?_set_self (by simp [mm_ws, hk]), mm_ws_at (by rw [hn]; exact hk), he]
  · rw [List.getElem?_set_ne (fun q => hj q.symm)]
    unfold mm_ws
    rw [hn]
    by_cases hl : j < mm_nx μ
    · simp [hl, ho j hj]
    · simp [hl]
theorem mm_ws_push {μ' : mm_M} {q : Nat} {e : va_E} (hn : mm_nx μ' = mm_nx μ + 1) (hq : r (mm_nx μ) = q) (he : mm_cell r cA μ' (mm_nx μ) = e) (ho : ∀ j, j < mm_nx μ → mm_cell r cA μ' j = mm_cell r cA μ j) : mm_ws r cA μ ++ [(q, e)] = mm_ws r cA μ' := by
  unfold mm_ws
  rw [hn, List.range_succ, List.map_append]
  congr 1
  · apply List.map_congr_left
    intro j hj
    rw [ho j (List.mem_range.mp hj)]
  · simp [hq, he]
theorem mm_up_s {α : Type} {f : Nat → α} {k : Nat} {x : α} : va_up f k x k = x := by simp [va_up]
theorem mm_up_n {α : Type} {f : Nat → α} {k j : Nat} {x : α} (h : j ≠ k) : va_up f k x j = f j := by simp [va_up, h]
theorem mm_cell_si {k j : Nat} {x : Int32} (i : Nat) (h : i ≠ k) : mm_cell r cA (mm_si μ k j x) i = mm_cell r cA μ i := by
  simp only [mm_cell, mm_si, mm_up_n h]
theorem mm_cell_sa {k : Nat} {f : Nat → Int32} (i : Nat) (h : i ≠ k) : mm_cell r cA (mm_sa μ k f) i = mm_cell r cA μ i := by
  simp only [mm_cell, mm_sa, mm_up_n h]
theorem mm_cell_sl {k j : Nat} {x : Int64} (i : Nat) (h : i ≠ k) : mm_cell r cA (mm_sl μ k j x) i = mm_cell r cA μ i := by
  simp only [mm_cell, mm_sl, mm_up_n h]
theorem mm_cell_sr {k j : Nat} {x : Value} (i : Nat) (h : i ≠ k) : mm_cell r cA (mm_sr μ k j x) i = mm_cell r cA μ i := by
  simp only [mm_cell, mm_sr, mm_up_n h]
theorem mm_cell_al {t : Nat × Nat} {n : Nat} (i : Nat) (h : i < mm_nx μ) : mm_cell r cA (mm_al μ t n) i = mm_cell r cA μ i := by
  have h2 : i ≠ mm_nx μ := Nat.ne_of_lt h
  simp only [mm_cell, mm_al, mm_up_n h2]
theorem mm_cellOf_1 {t : Nat × Nat} {fi : Nat → Int32} {fj : Nat → Int64} {fr : Nat → Value} (h : t.1 = 1) : mm_cellOf r cA t fi fj fr = .inl (cA 1, t.2, .inl fi) := by simp only [mm_cellOf, h]
theorem mm_cellOf_2 {t : Nat × Nat} {fi : Nat → Int32} {fj : Nat → Int64} {fr : Nat → Value} (h : t.1 = 2) : mm_cellOf r cA t fi fj fr = .inl (cA 2, t.2, .inl fi) := by simp only [mm_cellOf, h]
theorem mm_cellOf_3 {t : Nat × Nat} {fi : Nat → Int32} {fj : Nat → Int64} {fr : Nat → Value} (h : t.1 = 3) : mm_cellOf r cA t fi fj fr = .inl (cA 3, t.2, .inl fi) := by simp only [mm_cellOf, h]
theorem mm_cellOf_4 {t : Nat × Nat} {fi : Nat → Int32} {fj : Nat → Int64} {fr : Nat → Value} (h : t.1 = 4) : mm_cellOf r cA t fi fj fr = .inl (cA 4, t.2, .inr (.inl fj)) := by simp only [mm_cellOf, h]
theorem mm_cellOf_o {t : Nat × Nat} {ci : Nat} {fi : Nat → Int32} {fj : Nat → Int64} {fr : Nat → Value} (h : t.1 = 10 + ci) : mm_cellOf r cA t fi fj fr = .inr (ci, mm_fsOf r ci fi fj fr) := by
  unfold mm_cellOf
  rw [h]
  split
  · omega
  · omega
  · omega
  · omega
  · rw [show 10 + ci - 10 = ci by omega]
theorem mm_fsOf_at {ci k : Nat} {fi : Nat → Int32} {fj : Nat → Int64} {fr : Nat → Value} (h : k < mm_nf ci) : (mm_fsOf r ci fi fj fr)[k]? = some (mm_cv r (mm_fvOf ci k fi fj fr)) := by simp [mm_fsOf, h]
theorem mm_fsOf_set {ci k : Nat} {fi fi' : Nat → Int32} {fj fj' : Nat → Int64} {fr fr' : Nat → Value} {v : Value} (hk : k < mm_nf ci) (hv : mm_fvOf ci k fi' fj' fr' = v) (ho : ∀ j, j ≠ k → fi' j = fi j ∧ fj' j = fj j ∧ fr' j = fr j) : (mm_fsOf r ci fi fj fr).set k (mm_cv r v) = mm_fsOf r ci fi' fj' fr' := by
  apply List.ext_getElem?
  intro j
  by_cases hj : j = k
  · subst hj
    rw [List.getElem?_set_self (by simp [mm_fsOf, hk]), mm_fsOf_at hk, hv]
  · rw [List.getElem?_set_ne (fun q => hj q.symm)]
    by_cases hl : j < mm_nf ci
    · rw [mm_fsOf_at hl, mm_fsOf_at hl]
      obtain ⟨h1, h2, h3⟩ := ho j hj
      unfold mm_fvOf
      rw [h1, h2, h3]
    · simp [mm_fsOf, hl]
/-- a store into a field: what the field's kind takes -/
def mm_pf (μ : mm_M) (o ci k : Nat) (v : Value) : Option mm_M := match mm_ty ci k with
  | 0 => match v with
    | .int x => some (mm_si μ o k x)
    | _ => none
  | 1 => match v with
    | .int x => if x = 0 ∨ x = 1 then some (mm_si μ o k x) else none
    | _ => none
  | 2 => match v with
    | .long x => some (mm_sl μ o k x)
    | _ => none
  | 3 => match v with
    | .ref q => some (mm_sr μ o k (.ref q))
    | _ => none
  | _ => none
theorem mm_tyF_0 {t : FieldType} (h : mm_tyF t = 0) : t = .int := by cases t <;> first | rfl | cases h
theorem mm_tyF_1 {t : FieldType} (h : mm_tyF t = 1) : t = .boolean := by cases t <;> first | rfl | cases h
theorem mm_tyF_2 {t : FieldType} (h : mm_tyF t = 2) : t = .long := by cases t <;> first | rfl | cases h
theorem mm_tyF_3 {t : FieldType} (h : mm_tyF t = 3) : (∃ n, t = .object n) ∨ ∃ u, t = .array u := by cases t <;> first | exact Or.inl ⟨_, rfl⟩ | exact Or.inr ⟨_, rfl⟩ | cases h
/-- what a stored value is worth: it fits, and the cell is the new memory's -/
theorem mm_pf_ok {o ci k : Nat} {v : Value} {μ' : mm_M} (h : mm_pf μ o ci k v = some μ') (hk : k < mm_nf ci) (ht : (μ.1 o).1 = 10 + ci) {ty : FieldType} (hty : mm_tyF ty = mm_ty ci k) :
    narrow ty (mm_cv r v) = mm_cv r v ∧ fits ty (mm_cv r v) = true ∧ mm_nx μ' = mm_nx μ ∧ mm_cell r cA μ' o = .inr (ci, (mm_fsOf r ci (μ.2.1 o) (μ.2.2.1 o) (μ.2.2.2.1 o)).set k (mm_cv r v)) ∧ ∀ j, j ≠ o → mm_cell r cA μ' j = mm_cell r cA μ j := by
  unfold mm_pf at h
  split at h
  · rename_i h0
    split at h
    · rename_i x
      cases h
      rw [h0] at hty
      cases mm_tyF_0 hty
      refine ⟨rfl, rfl, rfl, ?_, fun j hj => mm_cell_si j hj⟩
      unfold mm_cell mm_si
      rw [mm_cellOf_o ht]
      congr 2
      refine (mm_fsOf_set hk ?_ (fun j hj => ⟨?_, rfl, rfl⟩)).symm
      · simp only [mm_fvOf, h0, mm_up_s]
        simp [upd]
      · simp only [mm_up_s]
        simp [upd, hj]
    · cases h
  · rename_i h0
    split at h
    · split at h
      · rename_i x hx
        cases h
        rw [h0] at hty
        cases mm_tyF_1 hty
        refine ⟨?_, ?_, rfl, ?_, fun j hj => mm_cell_si j hj⟩
        · rcases hx with rfl | rfl <;> rfl
        · rcases hx with rfl | rfl <;> rfl
        · unfold mm_cell mm_si
          rw [mm_cellOf_o ht]
          congr 2
          refine (mm_fsOf_set hk ?_ (fun j hj => ⟨?_, rfl, rfl⟩)).symm
          · simp only [mm_fvOf, h0, mm_up_s]
            simp [upd]
          · simp only [mm_up_s]
            simp [upd, hj]
      · cases h
    · cases h
  · rename_i h0
    split at h
    · rename_i x
      cases h
      rw [h0] at hty
      cases mm_tyF_2 hty
      refine ⟨rfl, rfl, rfl, ?_, fun j hj => mm_cell_sl j hj⟩
      unfold mm_cell mm_sl
      rw [mm_cellOf_o ht]
      congr 2
      refine (mm_fsOf_set hk ?_ (fun j hj => ⟨rfl, ?_, rfl⟩)).symm
      · simp only [mm_fvOf, h0, mm_up_s]
        simp [vp_updL]
      · simp only [mm_up_s]
        simp [vp_updL, hj]
    · cases h
  · rename_i h0
    split at h
    · rename_i x
      cases h
      rw [h0] at hty
      refine ⟨?_, ?_, rfl, ?_, fun j hj => mm_cell_sr j hj⟩
      · rcases mm_tyF_3 hty with ⟨n, rfl⟩ | ⟨u, rfl⟩ <;> rfl
      · rcases mm_tyF_3 hty with ⟨n, rfl⟩ | ⟨u, rfl⟩ <;> rfl
      · unfold mm_cell mm_sr
        rw [mm_cellOf_o ht]
        congr 2
        refine (mm_fsOf_set hk ?_ (fun j hj => ⟨rfl, rfl, ?_⟩)).symm
        · simp only [mm_fvOf, h0, mm_up_s]
        · simp only [mm_up_s, mm_up_n hj]
    · cases h
  · cases h
end MM3
