section MM5
def mm_sl0 : List Value → List (Option Value)
  | [] => []
  | v :: t => if v.category = 2 then some v :: none :: mm_sl0 t else some v :: mm_sl0 t
/-- the locals at a method's entry -/
def mm_L0 (n : Nat) (As : List Value) : List (Option Value) := mm_sl0 As ++ List.replicate (n - (mm_sl0 As).length) none
/-- arguments off the stack, first one first -/
def mm_pop (k : Nat) (S : List Value) : Option (List Value × List Value) := if k ≤ S.length ∧ ((S.drop k).map (fun v => v.category)).sum ≤ 8 then some ((S.take k).reverse, S.drop k) else none
def mm_as (l : List (Nat × Nat)) (i : Nat) : Option Nat := match l with
  | [] => none
  | (k, a) :: t => if k = i then some a else mm_as t i
/-- the first handler of the list that covers pc and takes the exception -/
def mm_ca (pc E : Nat) : List (Nat × Nat × Nat × Nat) → Option Nat
  | [] => none
  | (a, b, h, x) :: t => if a ≤ pc ∧ pc < b ∧ mm_as mm_xls x = some E then some h else mm_ca pc E t
/-- where a handler stores what it caught: the place, and what is behind it -/
def mm_hs (m h : Nat) : Option (Nat × Nat) := match mm_at m h with
  | some (.astore k, 2, _) => if k < mm_ml m then some (k, h + 2) else none
  | some (.astore_n k, 1, _) => if (k : Nat) < mm_ml m then some (k, h + 1) else none
  | _ => none
def mm_forget (L : List (Option Value)) (k : Nat) : List (Option Value) := (mm_cl L k).set k none
/-- the receiver of a call of method a -/
def mm_rc (a : Nat) (μ : mm_M) (As : List Value) : Bool := match As with
  | .ref o :: _ => decide (mm_wr μ o (10 + mm_ow a))
  | _ => false
/-- constants, new cells, the library's own -/
def mm_sN (en : mm_E) (S : List Value) (μ : mm_M) : Option (List Value × mm_M) := match en.1 with
  | .ldc _ => if en.2.1 = 2 then some (en.2.2.2.2 :: S, μ) else none
  | .ldc_w _ => if en.2.1 = 3 then some (en.2.2.2.2 :: S, μ) else none
  | .ldc2_w _ => if en.2.1 = 3 then some (en.2.2.2.2 :: S, μ) else none
  | .getstatic _ => if en.2.1 = 3 then some (en.2.2.2.2 :: S, μ) else none
  | .new _ => if en.2.1 = 3 ∧ en.2.2.1 < 13 ∧ mm_ex μ = true ∧ mm_nx μ < 1000 then some (.ref (mm_nx μ) :: S, mm_al μ (10 + en.2.2.1, 0) (mm_nf en.2.2.1)) else none
  | .newarray t => match S with
    | .int n :: r => if en.2.1 = 2 ∧ ¬ n < 0 ∧ n.toNatClampNeg ≤ 100000 ∧ mm_ex μ = true ∧ mm_nx μ < 1000 then (match t with
      | .int => some (.ref (mm_nx μ) :: r, mm_al μ (1, n.toNatClampNeg) n.toNatClampNeg)
      | .byte => some (.ref (mm_nx μ) :: r, mm_al μ (2, n.toNatClampNeg) n.toNatClampNeg)
      | .boolean => some (.ref (mm_nx μ) :: r, mm_al μ (3, n.toNatClampNeg) n.toNatClampNeg)
      | .long => some (.ref (mm_nx μ) :: r, mm_al μ (4, n.toNatClampNeg) n.toNatClampNeg)
      | _ => none) else none
    | _ => none
  | .invokespecial _ => if en.2.1 = 3 ∧ en.2.2.1 = 903 then (match S with
    | .ref _ :: r => if (r.map (fun v => v.category)).sum ≤ 8 then some (r, μ) else none
    | _ => none) else none
  | .invokestatic _ => if en.2.1 = 3 ∧ en.2.2.1 = 902 then (match S with
    | .int n :: .int dp :: .ref d :: .int sp :: .ref o :: r => if mm_wr μ o 1 ∧ mm_wr μ d 1 ∧ ¬ sp < 0 ∧ ¬ dp < 0 ∧ ¬ n < 0 ∧ sp.toNatClampNeg + n.toNatClampNeg ≤ (mm_gt μ o).2 ∧ dp.toNatClampNeg + n.toNatClampNeg ≤ (mm_gt μ d).2 ∧ (r.map (fun v => v.category)).sum ≤ 8 then
        some (r, mm_sa μ d (va_cpy (μ.2.1 o) (μ.2.1 d) sp.toNatClampNeg dp.toNatClampNeg n.toNatClampNeg)) else none
    | _ => none) else if en.2.1 = 3 ∧ en.2.2.1 = 904 then (match S with
    | .int y :: .int x :: r => if (r.map (fun v => v.category)).sum ≤ 8 then some (.int (if x < y then y else x) :: r, μ) else none
    | _ => none) else if en.2.1 = 3 ∧ en.2.2.1 = 905 then (match S with
    | .int y :: .int x :: r => if (r.map (fun v => v.category)).sum ≤ 8 then some (.int (if y < x then y else x) :: r, μ) else none
    | _ => none) else none
  | _ => none
/-- the library's texts: length, charAt -/
def mm_sG (en : mm_E) (S : List Value) : Option (List Value) := match en.1 with
  | .invokevirtual _ => if en.2.1 = 3 ∧ en.2.2.1 = 900 then (match S with
      | .ref o :: r => match mm_sx mm_stb o with
        | some t => if (r.map (fun v => v.category)).sum ≤ 8 then some (.int (Int32.ofNat t.length) :: r) else none
        | none => none
      | _ => none)
    else if en.2.1 = 3 ∧ en.2.2.1 = 901 then (match S with
      | .int i :: .ref o :: r => match mm_sx mm_stb o with
        | some t => if (r.map (fun v => v.category)).sum ≤ 8 ∧ ¬ mm_out i t.length then some (.int (Int32.ofNat (t.getD i.toNatClampNeg 0)) :: r) else none
        | none => none
      | _ => none)
    else none
  | _ => none
/-- a step that is neither a call nor an end: the next pc, locals, stack, memory -/
def mm_st (m pc : Nat) (en : mm_E) (L : List (Option Value)) (S : List Value) (μ : mm_M) : Option (Nat × List (Option Value) × List Value × mm_M) :=
  match mm_sS en.1 en.2.1 S with
  | some S' => some (pc + en.2.1, L, S', μ)
  | none => match mm_sL en.1 en.2.1 L with
    | some v => some (pc + en.2.1, L, v :: S, μ)
    | none => match mm_sM en S μ with
      | some (S', μ') => some (pc + en.2.1, L, S', μ')
      | none => match mm_sJ en.1 en.2.1 pc S with
        | some (pc', S') => some (pc', L, S', μ)
        | none => match mm_sT en.1 en.2.1 (mm_ml m) L S with
          | some (L', S') => some (pc + en.2.1, L', S', μ)
          | none => match mm_sN en S μ with
            | some (S', μ') => some (pc + en.2.1, L, S', μ')
            | none => match mm_sG en S with
              | some S' => some (pc + en.2.1, L, S', μ)
              | none => none
/-- the end of a method -/
def mm_rt (m : Nat) (i : Instr) (S : List Value) : Option (Option Value) := match i with
  | .ireturn => match S with
    | [.int x] => if mm_T m = some .int ∨ (mm_T m = some .boolean ∧ (x = 0 ∨ x = 1)) then some (some (.int x)) else none
    | _ => none
  | .lreturn => match S with
    | [.long x] => if mm_T m = some .long then some (some (.long x)) else none
    | _ => none
  | .areturn => match S with
    | [.ref x] => match mm_T m with
      | some (.object _) => some (some (.ref x))
      | _ => none
    | _ => none
  | .return_ => match S with
    | [] => if mm_T m = none then some none else none
    | _ => none
  | _ => none
/-- a call: which method, how many values it takes, whether it has a receiver -/
def mm_cl0 (en : mm_E) : Option (Nat × Nat × Bool) := match en.1 with
  | .invokevirtual _ => if en.2.1 = 3 ∧ en.2.2.1 < 900 then some (en.2.2.1, en.2.2.2.1 + 1, true) else none
  | .invokespecial _ => if en.2.1 = 3 ∧ en.2.2.1 < 900 then some (en.2.2.1, en.2.2.2.1 + 1, true) else none
  | .invokestatic _ => if en.2.1 = 3 ∧ en.2.2.1 < 900 then some (en.2.2.1, en.2.2.2.1, false) else none
  | _ => none
/-- an exception is thrown here: which one -/
def mm_tr (m pc : Nat) (en : mm_E) : Option Nat := match en.1 with
  | .new _ => if 100 ≤ en.2.2.1 then some (en.2.2.1 - 100) else none
  | _ => none
/-- may an exception come back from this call? -/
def mm_mt (m a : Nat) (i : Instr) : Bool := match i with
  | .invokespecial _ => false
  | .invokestatic _ => decide (mm_ow a = mm_ow m)
  | _ => true
def mm_run : Nat → Nat → Nat → List (Option Value) → List Value → mm_M → Option ((Option Value ⊕ Nat) × mm_M)
  | 0, _, _, _, _, _ => none
  | n + 1, m, pc, L, S, μ => match mm_at m pc with
    | none => none
    | some en => match mm_st m pc en L S μ with
      | some (pc', L', S', μ') => mm_run n m pc' L' S' μ'
      | none => match mm_cl0 en with
        | some (a, k, v) => match mm_pop k S with
          | some (As, rest) => if (v = true ∧ mm_rc a μ As = false) ∨ mm_ml a < (mm_sl0 As).length then none else match mm_run n a 0 (mm_L0 (mm_ml a) As) [] μ with
            | some (.inl w, μ') => mm_run n m (pc + 3) L (w.toList ++ rest) μ'
            | some (.inr E, μ') => if mm_mt m a en.1 = true then match mm_ca pc E (mm_hh m) with
              | some h => match mm_hs m h with
                | some (k, pc') => mm_run n m pc' (mm_forget L k) [] μ'
                | none => none
              | none => if mm_hh m = [] then some (.inr E, μ') else none
              else none
            | none => none
          | none => none
        | none => match mm_rt m en.1 S with
          | some w => some (.inl w, μ)
          | none => match mm_tr m pc en with
            | some E => if mm_hh m = [] ∧ S = [] then some (.inr E, mm_th μ) else none
            | none => none
end MM5
