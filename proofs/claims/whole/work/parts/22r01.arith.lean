/-! ARITHMETIC of small numbers, memory, what comes behind a call -/
section MM60
theorem na_mul (a b : Nat) : nI a * nI b = nI (a * b) := (Int32.ofNat_mul a b).symm
theorem na_sub {a b : Nat} (h : b ≤ a) : nI a - nI b = nI (a - b) := by
  have e : nI a = nI (a - b) + nI b := by rw [nI_add]; congr 1; omega
  rw [e, Int32.add_sub_cancel]
theorem na_bm {x : Int} (h1 : -2147483648 ≤ x) (h2 : x < 2147483648) : x.bmod (2 ^ 32) = x := by
  apply Int.bmod_eq_of_le <;> omega
theorem na_div {a b : Nat} (ha : a < 2 ^ 31) (hb : b < 2 ^ 31) : nI a / nI b = nI (a / b) := by
  have h := Nat.div_le_self a b
  apply Int32.toInt_inj.mp
  rw [Int32.toInt_div, nI_toInt ha, nI_toInt hb, nI_toInt (by omega)]
  show ((a / b : Nat) : Int).bmod _ = _
  generalize a / b = c at h ⊢
  exact na_bm (by omega) (by omega)
theorem na_re {a b : Nat} (ha : a < 2 ^ 31) (hb : b < 2 ^ 31) : mm_re (nI a) (nI b) = nI (a % b) := by
  unfold mm_re
  rw [na_div ha hb, na_mul, na_sub (Nat.div_mul_le_self a b)]
  congr 1
  have := Nat.div_add_mod a b
  rw [Nat.mul_comm] at this
  omega
theorem na_out {a len : Nat} (ha : a < 2 ^ 31) : mm_out (nI a) len ↔ len ≤ a := by
  unfold mm_out
  rw [nI_clamp ha]
  exact ⟨fun h => h.resolve_left (nI_pos ha), Or.inr⟩
theorem na_m1 {a : Nat} (ha : a < 2 ^ 31) : ¬ nI a = -1 := by
  intro h
  have := congrArg Int32.toInt h
  rw [nI_toInt ha] at this
  have e : (-1 : Int32).toInt = -1 := by decide
  omega
theorem na_0 : (0 : Int32) = nI 0 := by decide
theorem na_1 : (1 : Int32) = nI 1 := by decide
theorem na_2 : (2 : Int32) = nI 2 := by decide
theorem na_3 : (3 : Int32) = nI 3 := by decide
theorem na_4 : (4 : Int32) = nI 4 := by decide
theorem na_5 : (5 : Int32) = nI 5 := by decide
theorem na_6 : (6 : Int32) = nI 6 := by decide
theorem na_7 : (7 : Int32) = nI 7 := by decide
theorem na_8 : (8 : Int32) = nI 8 := by decide
theorem na_9 : (9 : Int32) = nI 9 := by decide
theorem na_10 : (10 : Int32) = nI 10 := by decide
theorem na_16 : (16 : Int32) = nI 16 := by decide
theorem na_20 : (20 : Int32) = nI 20 := by decide
theorem na_24 : (24 : Int32) = nI 24 := by decide
theorem na_32 : (32 : Int32) = nI 32 := by decide
theorem na_48 : (48 : Int32) = nI 48 := by decide
theorem na_64 : (64 : Int32) = nI 64 := by decide
theorem na_96 : (96 : Int32) = nI 96 := by decide
theorem na_100 : (100 : Int32) = nI 100 := by decide
theorem na_200 : (200 : Int32) = nI 200 := by decide
theorem na_320 : (320 : Int32) = nI 320 := by decide
theorem na_768 : (768 : Int32) = nI 768 := by decide
theorem na_864 : (864 : Int32) = nI 864 := by decide
theorem na_1000 : (1000 : Int32) = nI 1000 := by decide
theorem na_1184 : (1184 : Int32) = nI 1184 := by decide
theorem na_1200 : (1200 : Int32) = nI 1200 := by decide
variable {i : Nat → Nat → Int32} {k j k' j' : Nat} {x : Int32} {f : Nat → Int32}
theorem mw_s : mm_ww i k j x k j = x := by simp [mm_ww, va_up, upd]
theorem mw_j (h : j' ≠ j) : mm_ww i k j x k j' = i k j' := by simp [mm_ww, va_up, upd, h]
theorem mw_k (h : k' ≠ k) : mm_ww i k j x k' = i k' := by simp [mm_ww, va_up, h]
theorem mw_r : mm_ww i k j x k j' = if j' = j then x else i k j' := by simp [mm_ww, va_up, upd]
theorem mu_s : va_up i k f k = f := by simp [va_up]
theorem mu_k (h : k' ≠ k) : va_up i k f k' = i k' := by simp [va_up, h]
variable {b : Bool} {v : Value} {μ : mm_M} {E : Nat} {F : Option Value → mm_M → Option mm_R} {w : Option Value} {S : List Value}
theorem mb_l : mm_bi b (some (.inl w, μ)) F = F w μ := rfl
theorem mb_r : mm_bi true (some (.inr E, μ)) F = some (.inr E, μ) := rfl
theorem mb_v : ((some v).toList ++ S : List Value) = v :: S := rfl
theorem mb_0 : ((none : Option Value).toList ++ S : List Value) = S := rfl
/-- cells of a tree, of a policy: apart from others -/
theorem mt_ne {t : Bool} {a b : Nat} (h : b < 57 ∨ 67 ≤ b) (ha : a ≤ 4) : b ≠ mm_Tr t + a := by
  cases t <;> simp only [mm_Tr, cond_true, cond_false] <;> omega
theorem mt_off {t : Bool} {a b : Nat} (h : a ≠ b) : mm_Tr t + a ≠ mm_Tr t + b := by omega
theorem mt_two {t : Bool} {a b : Nat} (ha : a ≤ 4) (hb : b ≤ 4) : mm_Tr (!t) + a ≠ mm_Tr t + b := by
  cases t <;> simp only [mm_Tr, Bool.not_true, Bool.not_false, cond_true, cond_false] <;> omega
end MM60
