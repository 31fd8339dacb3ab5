/-! A SMALL MACHINE: a pure evaluator of the instructions that the class, the reference and the law use, over a memory of numbered cells. Parts 1x: it is sound for the machine of the Statement. An abstract reference is a number; 'r' tells its address. -/
section MM1
def mm_cv (r : Nat → Nat) : Value → Value
  | .ref k => .ref (r k)
  | v => v
theorem mm_cv_cat (r : Nat → Nat) (v : Value) : (mm_cv r v).category = v.category := by cases v <;> rfl
/-- the locals, by places: none where nothing is known (also a long's second place) -/
def mm_lv (r : Nat → Nat) : Nat → List (Option Value) → List (Nat × Value)
  | _, [] => []
  | i, none :: t => mm_lv r (i + 1) t
  | i, some v :: t => (i, mm_cv r v) :: mm_lv r (i + 1) t
theorem mm_lv_in {r : Nat → Nat} : ∀ {L : List (Option Value)} {i j : Nat} {v : Value}, L[j]? = some (some v) → (i + j, mm_cv r v) ∈ mm_lv r i L
  | [], i, j, v, h => by simp at h
  | none :: t, i, 0, v, h => by simp at h
  | none :: t, i, j + 1, v, h => by
    have := mm_lv_in (r := r) (L := t) (i := i + 1) (j := j) (v := v) (by simpa using h)
    rw [show i + (j + 1) = i + 1 + j by omega]
    exact this
  | some w :: t, i, 0, v, h => by
    have e : w = v := by simpa using h
    subst e
    exact List.mem_cons_self
  | some w :: t, i, j + 1, v, h => by
    have := mm_lv_in (r := r) (L := t) (i := i + 1) (j := j) (v := v) (by simpa using h)
    rw [show i + (j + 1) = i + 1 + j by omega]
    exact List.mem_cons_of_mem _ this
theorem mm_lv_of {r : Nat → Nat} : ∀ {L : List (Option Value)} {i : Nat} {q : Nat × Value}, q ∈ mm_lv r i L → ∃ (j : Nat) (v : Value), q = (i + j, mm_cv r v) ∧ L[j]? = some (some v)
  | [], i, q, h => by cases h
  | none :: t, i, q, h => by
    obtain ⟨j, v, e, hj⟩ := mm_lv_of (L := t) h
    exact ⟨j + 1, v, by rw [e, show i + 1 + j = i + (j + 1) by omega], by simpa using hj⟩
  | some w :: t, i, q, h => by
    rcases List.mem_cons.mp h with h | h
    · exact ⟨0, w, h, rfl⟩
    · obtain ⟨j, v, e, hj⟩ := mm_lv_of (L := t) h
      exact ⟨j + 1, v, by rw [e, show i + 1 + j = i + (j + 1) by omega], by simpa using hj⟩
theorem mm_get {r : Nat → Nat} {ls : Array Slot} {nL : Nat} {L : List (Option Value)} (h : lv_has ls nL (mm_lv r 0 L)) {i : Nat} {v : Value} (hi : L[i]? = some (some v)) : ls[i]? = some (.val (mm_cv r v)) := by
  have := h.2.2 _ (mm_lv_in (r := r) (i := 0) hi)
  simpa using this
/-- a long that begins one place ahead is gone -/
def mm_cl (L : List (Option Value)) : Nat → List (Option Value)
  | 0 => L
  | k + 1 => match L[k]? with
    | some (some w) => if w.category = 2 then L.set k none else L
    | _ => L
def mm_s1 (L : List (Option Value)) (k : Nat) (v : Value) : List (Option Value) := (mm_cl L k).set k (some v)
def mm_s2 (L : List (Option Value)) (k : Nat) (v : Value) : List (Option Value) := ((mm_cl L k).set k (some v)).set (k + 1) none
theorem mm_cl_at {L : List (Option Value)} {k j : Nat} {w : Value} (h : (mm_cl L k)[j]? = some (some w)) : L[j]? = some (some w) ∧ ¬ (j + 1 = k ∧ w.category = 2) := by
  cases k with
  | zero => exact ⟨h, fun q => by omega⟩
  | succ k =>
    simp only [mm_cl] at h
    by_cases hjk : j = k
    · subst hjk
      split at h
      · rename_i w' hw
        split at h
        · rename_i hc
          have hl : j < L.length := by
            rcases Nat.lt_or_ge j L.length with q | q
            · exact q
            · rw [List.getElem?_eq_none q] at hw; cases hw
          rw [List.getElem?_set_self hl] at h
          cases h
        · rename_i hc
          rw [hw] at h
          cases h
          exact ⟨hw, fun q => hc q.2⟩
      · rename_i hw
        exact absurd h (fun q => hw w q)
    · have h2 : L[j]? = some (some w) := by
        split at h
        · split at h
          · rw [List.getElem?_set_ne (fun q => hjk q.symm)] at h; exact h
          · exact h
        · exact h
      exact ⟨h2, fun q => hjk (by omega)⟩
theorem mm_fit1 {r : Nat → Nat} {ls : Array Slot} {nL : Nat} {L : List (Option Value)} {i : Nat} {v : Value} (h : lv_has ls nL ((i, mm_cv r v) :: (mm_lv r 0 L).filter (fun q => !(q.1 == i) && !(q.1 + 1 == i && q.2.category == 2)))) : lv_has ls nL (mm_lv r 0 (mm_s1 L i v)) := by
  refine ⟨h.1, h.2.1, fun q hq => h.2.2 q ?_⟩
  obtain ⟨j, w, rfl, hj⟩ := mm_lv_of hq
  simp only [Nat.zero_add]
  unfold mm_s1 at hj
  by_cases hji : j = i
  · subst hji
    have e : w = v := by
      rw [List.getElem?_set] at hj
      simp at hj
      exact hj.2.symm
    subst e
    exact List.mem_cons_self
  · rw [List.getElem?_set_ne (fun q => hji q.symm)] at hj
    obtain ⟨h1, h2⟩ := mm_cl_at hj
    refine List.mem_cons_of_mem _ (List.mem_filter.mpr ⟨?_, ?_⟩)
    · have := mm_lv_in (r := r) (i := 0) h1
      simpa using this
    · simp only [mm_cv_cat, Bool.and_eq_true, Bool.not_eq_true', beq_eq_false_iff_ne, ne_eq, Bool.and_eq_false_iff]
      refine ⟨hji, ?_⟩
      by_cases hc : j + 1 = i
      · exact Or.inr (fun q => h2 ⟨hc, by simpa using q⟩)
      · exact Or.inl hc
theorem mm_fit2 {r : Nat → Nat} {ls : Array Slot} {nL : Nat} {L : List (Option Value)} {i : Nat} {v : Value} (h : lv_has ls nL ((i, mm_cv r v) :: (mm_lv r 0 L).filter (fun q => !(q.1 == i) && (!(q.1 == i + 1) && !(q.1 + 1 == i && q.2.category == 2))))) : lv_has ls nL (mm_lv r 0 (mm_s2 L i v)) := by
  refine ⟨h.1, h.2.1, fun q hq => h.2.2 q ?_⟩
  obtain ⟨j, w, rfl, hj⟩ := mm_lv_of hq
  simp only [Nat.zero_add]
  unfold mm_s2 at hj
  have hj1 : j ≠ i + 1 := by
    intro e
    subst e
    rw [List.getElem?_set] at hj
    simp at hj
  rw [List.getElem?_set_ne (fun q => hj1 q.symm)] at hj
  by_cases hji : j = i
  · subst hji
    have e : w = v := by
      rw [List.getElem?_set] at hj
      simp at hj
      exact hj.2.symm
    subst e
    exact List.mem_cons_self
  · rw [List.getElem?_set_ne (fun q => hji q.symm)] at hj
    obtain ⟨h1, h2⟩ := mm_cl_at hj
    refine List.mem_cons_of_mem _ (List.mem_filter.mpr ⟨?_, ?_⟩)
    · have := mm_lv_in (r := r) (i := 0) h1
      simpa using this
    · simp only [mm_cv_cat, Bool.and_eq_true, Bool.not_eq_true', beq_eq_false_iff_ne, ne_eq, Bool.and_eq_false_iff]
      refine ⟨hji, hj1, ?_⟩
      by_cases hc : j + 1 = i
      · exact Or.inr (fun q => h2 ⟨hc, by simpa using q⟩)
      · exact Or.inl hc
/-- where a jump goes -/
def mm_tg (pc : Nat) (off : Int) : Option Nat := match (pc : Int) + off with
  | .ofNat n => some n
  | .negSucc _ => none
theorem mm_tg_eq {pc n : Nat} {off : Int} (h : mm_tg pc off = some n) : (pc : Int) + off = (n : Int) := by
  unfold mm_tg at h
  split at h
  · rename_i k hk
    cases h
    exact hk
  · cases h
def mm_cc : Jvm.ClassFile.Cond → Int32 → Int32 → Bool
  | .eq, x, y => decide (x = y)
  | .ne, x, y => !decide (x = y)
  | .lt, x, y => decide (x < y)
  | .ge, x, y => decide (y ≤ x)
  | .gt, x, y => decide (y < x)
  | .le, x, y => decide (x ≤ y)
def mm_i1 (f : Int32 → Value) (S : List Value) : Option (List Value) := match S with
  | .int x :: t => some (f x :: t)
  | _ => none
def mm_i2 (f : Int32 → Int32 → Int32) (S : List Value) : Option (List Value) := match S with
  | .int y :: .int x :: t => some (.int (f x y) :: t)
  | _ => none
def mm_d2 (f : Int32 → Int32 → Int32) (S : List Value) : Option (List Value) := match S with
  | .int y :: .int x :: t => if y = 0 then none else some (.int (f x y) :: t)
  | _ => none
def mm_l1 (f : Int64 → Value) (S : List Value) : Option (List Value) := match S with
  | .long x :: t => some (f x :: t)
  | _ => none
def mm_l2 (f : Int64 → Int64 → Value) (S : List Value) : Option (List Value) := match S with
  | .long y :: .long x :: t => some (f x y :: t)
  | _ => none
def mm_ls (f : Int64 → Int32 → Int64) (S : List Value) : Option (List Value) := match S with
  | .int y :: .long x :: t => some (.long (f x y) :: t)
  | _ => none
/-- instructions that touch the operand stack alone -/
def mm_sS (i : Instr) (len : Nat) (S : List Value) : Option (List Value) := match i, len with
  | .iconst n, 1 => some (.int (Int32.ofInt n) :: S)
  | .bipush n, 2 => some (.int (Int8.ofInt n).toInt32 :: S)
  | .sipush n, 3 => some (.int (Int16.ofInt n).toInt32 :: S)
  | .lconst n, 1 => some (.long (Int64.ofNat (n : Nat)) :: S)
  | .iadd, 1 => mm_i2 (fun x y => x + y) S
  | .isub, 1 => mm_i2 (fun x y => x - y) S
  | .imul, 1 => mm_i2 (fun x y => x * y) S
  | .iand, 1 => mm_i2 (fun x y => x &&& y) S
  | .ior, 1 => mm_i2 (fun x y => x ||| y) S
  | .ixor, 1 => mm_i2 (fun x y => x ^^^ y) S
  | .ishl, 1 => mm_i2 (fun x y => x <<< (y &&& 31)) S
  | .ishr, 1 => mm_i2 (fun x y => x >>> (y &&& 31)) S
  | .iushr, 1 => mm_i2 (fun x y => (x.toUInt32 >>> (y.toUInt32 &&& Int32.toUInt32 31)).toInt32) S
  | .idiv, 1 => mm_d2 (fun x y => x / y) S
  | .irem, 1 => mm_d2 (fun x y => x - x / y * y) S
  | .land, 1 => mm_l2 (fun x y => .long (x &&& y)) S
  | .lor, 1 => mm_l2 (fun x y => .long (x ||| y)) S
  | .lcmp, 1 => mm_l2 (fun x y => .int (lg_cmp x y)) S
  | .lshl, 1 => mm_ls (fun x y => x <<< (y.toInt64 &&& 63)) S
  | .lshr, 1 => mm_ls (fun x y => x >>> (y.toInt64 &&& 63)) S
  | .lushr, 1 => mm_ls (fun x y => (x.toUInt64 >>> (y.toInt64.toUInt64 &&& Int64.toUInt64 63)).toInt64) S
  | .i2l, 1 => mm_i1 (fun x => .long x.toInt64) S
  | .i2b, 1 => mm_i1 (fun x => .int x.toInt8.toInt32) S
  | .l2i, 1 => mm_l1 (fun x => .int x.toInt32) S
  | .dup, 1 => match S with
    | v :: t => if v.category = 1 then some (v :: v :: t) else none
    | _ => none
  | .pop, 1 => match S with
    | v :: t => if v.category = 1 then some t else none
    | _ => none
  | .dup2, 1 => match S with
    | v :: w :: t => if v.category = 1 ∧ w.category = 1 then some (v :: w :: v :: w :: t) else none
    | _ => none
  | _, _ => none
/-- loads -/
def mm_sL (i : Instr) (len : Nat) (L : List (Option Value)) : Option Value := match i, len with
  | .iload k, 2 => match L[k]? with
    | some (some (.int x)) => some (.int x)
    | _ => none
  | .iload_n k, 1 => match L[(k : Nat)]? with
    | some (some (.int x)) => some (.int x)
    | _ => none
  | .lload k, 2 => match L[k]? with
    | some (some (.long x)) => some (.long x)
    | _ => none
  | .lload_n k, 1 => match L[(k : Nat)]? with
    | some (some (.long x)) => some (.long x)
    | _ => none
  | .aload k, 2 => match L[k]? with
    | some (some (.ref x)) => some (.ref x)
    | _ => none
  | .aload_n k, 1 => match L[(k : Nat)]? with
    | some (some (.ref x)) => some (.ref x)
    | _ => none
  | _, _ => none
/-- stores: which place, how wide -/
def mm_sT (i : Instr) (len : Nat) (nL : Nat) (L : List (Option Value)) (S : List Value) : Option (List (Option Value) × List Value) := match i, len with
  | .istore k, 2 => match S with
    | .int x :: t => if k < nL then some (mm_s1 L k (.int x), t) else none
    | _ => none
  | .istore_n k, 1 => match S with
    | .int x :: t => if (k : Nat) < nL then some (mm_s1 L k (.int x), t) else none
    | _ => none
  | .astore k, 2 => match S with
    | .ref x :: t => if k < nL then some (mm_s1 L k (.ref x), t) else none
    | _ => none
  | .astore_n k, 1 => match S with
    | .ref x :: t => if (k : Nat) < nL then some (mm_s1 L k (.ref x), t) else none
    | _ => none
  | .lstore k, 2 => match S with
    | .long x :: t => if k + 1 < nL then some (mm_s2 L k (.long x), t) else none
    | _ => none
  | .lstore_n k, 1 => match S with
    | .long x :: t => if (k : Nat) + 1 < nL then some (mm_s2 L k (.long x), t) else none
    | _ => none
  | .iinc k n, 3 => match L[k]? with
    | some (some (.int x)) => if k < nL then some (mm_s1 L k (.int (x + Int32.ofInt n)), S) else none
    | _ => none
  | _, _ => none
/-- jumps: where to, and the stack -/
def mm_sJ (i : Instr) (len pc : Nat) (S : List Value) : Option (Nat × List Value) := match i with
  | .goto off => if len = 3 then (mm_tg pc off).map (fun t => (t, S)) else none
  | .ifCond c off => match S with
    | .int x :: t => if len = 3 then (mm_tg pc off).map (fun g => (bif mm_cc c x 0 then g else pc + 3, t)) else none
    | _ => none
  | .if_icmp c off => match S with
    | .int y :: .int x :: t => if len = 3 then (mm_tg pc off).map (fun g => (bif mm_cc c x y then g else pc + 3, t)) else none
    | _ => none
  | .tableswitch d lo hi offs => match S with
    | .int x :: t => if x.toInt < lo ∨ hi < x.toInt then (mm_tg pc d).map (fun g => (g, t)) else match offs[(x.toInt - lo).toNat]? with
      | some off => (mm_tg pc off).map (fun g => (g, t))
      | none => none
    | _ => none
  | .lookupswitch d ps => match S with
    | .int x :: t => if (ps.toList.zip (ps.toList.drop 1)).all (fun (a, next) => a.1 < next.1) = true then (mm_tg pc (Op.lookupswitch.offset ps.toList d x.toInt)).map (fun g => (g, t)) else none
    | _ => none
  | _ => none
end MM1
