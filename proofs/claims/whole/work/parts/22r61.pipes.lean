/-! PIPES: bytes taken and added, ends -/
section MM120
variable {w : Bool} {l : Nat → Nat → Int64} {e : Bool × Nat × Nat} {π : mP} {m : Nat} {ψ : mS} {b B p n h o k : Nat} {i0 i i' : Nat → Nat → Int32} {s a x y : Int32} {r : Int32 × mS} {η : mH}
/-- a pipe has an end of this mode -/
def hEn (η : mH) (k md : Nat) : Bool := tAny (fun o => decide (hCt η o ≠ 0 ∧ (hO η o).1 = true ∧ (hO η o).2.1 = k ∧ (hO η o).2.2.1 = md)) 16 0
theorem hc_hasEnd (H : HC i η) (hw : HW η) (hk : k < 4) {md : Nat} (hm : md = 1 ∨ md = 2) : mm_V 74 0 [some (.ref 68), some (.int (nI k)), some (.int (nI md)), none] [] (mm_Z m w i l e) = some (.inl (some (.int (bI (hEn η k md)))), mm_Z m w i l e) := by
  have e1 := hc_he3 (m := m) (w := w) (l := l) (e := e) H.2.2.1 hw.b3 hk (x2 := nI md) 16 0 rfl
  have e1 : mm_V 74 2 [some (.ref 68), some (.int (nI k)), some (.int (nI md)), some (.int 0)] [] (mm_Z m w i l e) = _ := e1
  have e2 : tAny (fun o => decide (hCt η o ≠ 0 ∧ (hO η o).1 = true ∧ (hO η o).2.1 = k ∧ nI (hO η o).2.2.1 &&& nI md ≠ 0)) 16 0 = hEn η k md := tAny_cong 16 0 (fun o _ ho => by
    rw [Bool.eq_iff_iff, decide_eq_true_eq, decide_eq_true_eq]
    constructor
    · rintro ⟨z1, z2, z3, z4⟩
      have := ((hw.2.2.1 o (by omega) z1).1 z2).2.2
      refine ⟨z1, z2, z3, ?_⟩
      rcases this with q | q <;> rcases hm with v | v <;> rw [q, v] at z4 <;> rw [q, v]
      · exact absurd (by decide) z4
      · exact absurd (by decide) z4
    · rintro ⟨z1, z2, z3, z4⟩
      refine ⟨z1, z2, z3, ?_⟩
      rcases hm with v | v <;> rw [z4, v] <;> decide)
  rw [mr_74_0, e1, e2]
theorem hr_he_loop (H : HR i η) (hw : HW η) (hk : k < 4) {wr : Bool} : ∀ (D o : Nat) (g : Bool), o + D = 16 → mm_V 313 5 [some (.ref 83), some (.int (nI k)), some (.int (bI wr)), some (.int (bI g)), some (.int (nI o))] [] (mm_Z m w i l e) = some (.inl (some (.int (bI (g || tAny (fun o => decide (hCt η o ≠ 0 ∧ (hO η o).1 = true ∧ (hO η o).2.1 = k ∧ (hO η o).2.2.1 = (if wr = true then 2 else 1))) D o)))), mm_Z m w i l e)
  | 0, o, g, ho => by
    rw [mr_313_5, if_neg (by rw [na_16, nI_ltI (by omega) (by omega)]; omega), if_pos (bI_01 _), tAny, Bool.or_false]
  | D + 1, o, g, ho => by
    rw [mr_313_5, if_pos (by rw [na_16, nI_ltI (by omega) (by omega)]; omega), nI_1]
    cases g with
    | true =>
      rw [if_bt]
      have := hr_he_loop H hw hk (wr := wr) D (o + 1) true (by omega)
      rw [Bool.true_or] at this ⊢
      exact this
    | false =>
      have e1 : i 123 (nI o).toNatClampNeg = (if hCt η o = 0 then -1 else nI (hN (hO η o))) := by rw [nI_clamp (by omega), (H.2.2.1 o (by omega)).1]
      have key : ∀ c : Int32, (c = if wr = true then 300 else 100) → mm_V 313 35 [some (.ref 83), some (.int (nI k)), some (.int (bI wr)), some (.int (bI false)), some (.int (nI o))] [.int c, .int (i 123 (nI o).toNatClampNeg)] (mm_Z m w i l e) = mm_V 313 5 [some (.ref 83), some (.int (nI k)), some (.int (bI wr)), some (.int (bI (decide (hCt η o ≠ 0 ∧ (hO η o).1 = true ∧ (hO η o).2.1 = k ∧ (hO η o).2.2.1 = (if wr = true then 2 else 1))))), some (.int (nI (o + 1)))] [] (mm_Z m w i l e) := fun c hc => by
        have ec : c + nI k = nI ((if wr = true then 300 else 100) + k) := by
          rw [hc]; cases wr
          · show (100 : Int32) + nI k = nI (100 + k); rw [na_100, nI_add]
          · show (300 : Int32) + nI k = nI (300 + k); rw [show (300 : Int32) = nI 300 by decide, nI_add]
        rw [mr_313_35, ec, e1, nI_1]
        by_cases q : hCt η o = 0
        · rw [if_pos q, decide_eq_false (fun z => z.1 q), if_neg (fun z => na_m1 (a := (if wr = true then 300 else 100) + k) (by cases wr <;> simp <;> omega) z.symm)]; rfl
        · have a := hw.2.2.1 o (by omega) q
          have hl := hN_lt (x := hO η o) (fun z => (a.1 z).1) a.2.1
          rw [if_neg q]
          have hiff : (nI (hN (hO η o)) = nI ((if wr = true then 300 else 100) + k)) ↔ (hCt η o ≠ 0 ∧ (hO η o).1 = true ∧ (hO η o).2.1 = k ∧ (hO η o).2.2.1 = (if wr = true then 2 else 1)) := by
            rw [nI_eq (by omega) (by cases wr <;> simp <;> omega)]
            unfold hN
            cases f : (hO η o).1 with
            | false =>
              have := a.2.1 f
              rw [if_neg (by decide)]
              constructor
              · intro z; cases wr <;> simp at z <;> omega
              · rintro ⟨-, z, -, -⟩; exact absurd z (by decide)
            | true =>
              obtain ⟨b1, b2, b3⟩ := a.1 f
              rw [if_pos rfl]
              constructor
              · intro z
                refine ⟨q, rfl, ?_, ?_⟩
                · cases wr <;> simp at z <;> rcases b3 with v | v <;> simp [v] at z <;> omega
                · cases wr <;> simp at z <;> rcases b3 with v | v <;> simp [v] at z ⊢ <;> omega
              · rintro ⟨-, -, z3, z4⟩
                rw [z3, z4]; cases wr <;> simp
          by_cases v : (hCt η o ≠ 0 ∧ (hO η o).1 = true ∧ (hO η o).2.1 = k ∧ (hO η o).2.2.1 = (if wr = true then 2 else 1))
          · rw [if_pos (hiff.mpr v), decide_eq_true v]; rfl
          · rw [if_neg (fun z => v (hiff.mp z)), decide_eq_false v]; rfl
      rw [if_bf, if_neg (no_out (by omega) (by omega))]
      have fin : mm_V 313 5 [some (.ref 83), some (.int (nI k)), some (.int (bI wr)), some (.int (bI (decide (hCt η o ≠ 0 ∧ (hO η o).1 = true ∧ (hO η o).2.1 = k ∧ (hO η o).2.2.1 = (if wr = true then 2 else 1))))), some (.int (nI (o + 1)))] [] (mm_Z m w i l e) = some (.inl (some (.int (bI (false || tAny (fun o => decide (hCt η o ≠ 0 ∧ (hO η o).1 = true ∧ (hO η o).2.1 = k ∧ (hO η o).2.2.1 = (if wr = true then 2 else 1))) (D + 1) o)))), mm_Z m w i l e) := by
        rw [hr_he_loop H hw hk (wr := wr) D (o + 1) _ (by omega), Bool.false_or, tAny]
      cases wr with
      | false => rw [if_bf, key 100 rfl]; exact fin
      | true => rw [if_bt, key 300 rfl]; exact fin
theorem hr_hasEnd (H : HR i η) (hw : HW η) (hk : k < 4) {wr : Bool} : mm_V 313 0 [some (.ref 83), some (.int (nI k)), some (.int (bI wr)), none, none] [] (mm_Z m w i l e) = some (.inl (some (.int (bI (hEn η k (if wr = true then 2 else 1))))), mm_Z m w i l e) := by
  have e1 := hr_he_loop (m := m) (w := w) (l := l) (e := e) H hw hk (wr := wr) 16 0 false rfl
  have e1 : mm_V 313 5 [some (.ref 83), some (.int (nI k)), some (.int (bI wr)), some (.int 0), some (.int 0)] [] (mm_Z m w i l e) = _ := e1
  rw [mr_313_0, e1, Bool.false_or]
  rfl
/-- a pipe's bytes -/
def hBy (η : mH) (k sz : Nat) (f : Nat → Int32) : mH := (hP η, hH η, hO η, hC η, va_up (hS η) k sz, va_up (hB η) k f)
theorem HW_by {sz : Nat} {f : Nat → Int32} (hw : HW η) (hs : sz ≤ 8) : HW (hBy η k sz f) := by
  refine ⟨hw.1, hw.2.1, hw.2.2.1, fun y hy => ⟨(hw.2.2.2 y hy).1, ?_, (hw.2.2.2 y hy).2.2⟩⟩
  show va_up (hS η) k sz y ≤ 8
  by_cases z : y = k
  · rw [z, up_s]; exact hs
  · rw [up_n z]; exact (hw.2.2.2 y hy).2.1
theorem iv_by {sz : Nat} {f : Nat → Int32} (hI : IV π b ψ) (hs : sz ≤ 8) : IV π b (yh ψ (hBy (yH ψ) k sz f)) := iv_hd hI (HW_by hI.hw hs) hI.hv.1 (fun y hy z => ⟨z, rfl, rfl, rfl, rfl⟩) (fun y hy z => z) hI.hv.2.2
theorem HC_by {sz : Nat} {f : Nat → Int32} (H : HC i η) (hk : k < 4) (h1 : i' 78 k = nI sz) (h2 : ∀ j, j < sz → i' 79 (8 * k + j) = f j) (h3 : ∀ y, y < 4 → y ≠ k → i' 78 y = i 78 y ∧ ∀ j, j < 8 → i' 79 (8 * y + j) = i 79 (8 * y + j)) (hw : HW η) (h4 : ∀ q, q ≠ 78 → q ≠ 79 → i' q = i q) : HC i' (hBy η k sz f) := by
  obtain ⟨a1, a2, a3, a4⟩ := H
  refine ⟨fun p hp => by rw [h4 _ (by omega) (by omega)]; exact a1 p hp, fun p hp => by rw [h4 _ (by omega) (by omega)]; exact a2 p hp, fun y hy => ?_, fun y hy => ?_⟩
  · simp only [h4 71 (by omega) (by omega), h4 72 (by omega) (by omega), h4 73 (by omega) (by omega), h4 74 (by omega) (by omega), h4 75 (by omega) (by omega), h4 76 (by omega) (by omega)]
    exact a3 y hy
  · rw [h4 77 (by omega) (by omega)]
    refine ⟨(a4 y hy).1, fun z => ?_⟩
    show i' 78 y = nI (va_up (hS η) k sz y) ∧ ∀ j, j < va_up (hS η) k sz y → i' 79 (8 * y + j) = va_up (hB η) k f y j
    by_cases q : y = k
    · rw [q, up_s, up_s]; exact ⟨h1, h2⟩
    · rw [up_n q, up_n q, (h3 y hy q).1]
      have z : hC η y ≠ 0 := z
      have hs8 := (hw.2.2.2 y hy).2.1
      exact ⟨((a4 y hy).2 z).1, fun j hj => by rw [(h3 y hy q).2 j (by omega)]; exact ((a4 y hy).2 z).2 j hj⟩
theorem HR_by {sz : Nat} {f : Nat → Int32} (H : HR i η) (hk : k < 4) (h1 : i' 128 k = nI sz) (h2 : ∀ j, j < sz → i' 129 (8 * k + j) = f j) (h3 : ∀ y, y < 4 → y ≠ k → i' 128 y = i 128 y ∧ ∀ j, j < 8 → i' 129 (8 * y + j) = i 129 (8 * y + j)) (hw : HW η) (h4 : ∀ q, q ≠ 128 → q ≠ 129 → i' q = i q) : HR i' (hBy η k sz f) := by
  obtain ⟨a1, a2, a3, a4⟩ := H
  refine ⟨fun p hp => by rw [h4 _ (by omega) (by omega)]; exact a1 p hp, fun p hp => by rw [h4 _ (by omega) (by omega)]; exact a2 p hp, fun y hy => ?_, fun y hy => ?_⟩
  · simp only [h4 123 (by omega) (by omega), h4 124 (by omega) (by omega), h4 125 (by omega) (by omega), h4 126 (by omega) (by omega)]
    exact a3 y hy
  · rw [h4 127 (by omega) (by omega)]
    refine ⟨(a4 y hy).1, fun z => ?_⟩
    show i' 128 y = nI (va_up (hS η) k sz y) ∧ ∀ j, j < va_up (hS η) k sz y → i' 129 (8 * y + j) = va_up (hB η) k f y j
    by_cases q : y = k
    · rw [q, up_s, up_s]; exact ⟨h1, h2⟩
    · rw [up_n q, up_n q, (h3 y hy q).1]
      have z : hC η y ≠ 0 := z
      have hs8 := (hw.2.2.2 y hy).2.1
      exact ⟨((a4 y hy).2 z).1, fun j hj => by rw [(h3 y hy q).2 j (by omega)]; exact ((a4 y hy).2 z).2 j hj⟩
theorem tb_loop (hk : k < 4) {sz : Nat} (hs : sz ≤ 8) {v : Int32} : ∀ (D j : Nat) (i : Nat → Nat → Int32), j + D = sz → 1 ≤ j → i 78 k = nI sz → ∃ i', mm_V 78 15 [some (.ref 68), some (.int (nI k)), some (.int (nI (8 * k))), some (.int v), some (.int (nI j))] [] (mm_Z m w i l e) = some (.inl (some (.int v)), mm_Z m w (mm_ww i' 78 k (nI (sz - 1))) l e) ∧ (∀ t, j ≤ t + 1 → t + 1 < sz → i' 79 (8 * k + t) = i 79 (8 * k + t + 1)) ∧ (∀ t, t + 1 < j → i' 79 (8 * k + t) = i 79 (8 * k + t)) ∧ (∀ q, q < 8 * k ∨ 8 * k + 8 ≤ q → i' 79 q = i 79 q) ∧ (∀ q, q ≠ 79 → i' q = i q)
  | 0, j, i, hj, h1, h7 => by
    refine ⟨i, ?_, fun t a1 a2 => by omega, fun _ _ => rfl, fun _ _ => rfl, fun _ _ => rfl⟩
    have e7 : i 78 (nI k).toNatClampNeg = nI sz := by rw [nI_clamp (by omega), h7]
    rw [mr_78_15, if_neg (no_out (by omega) (by omega)), if_neg (by rw [e7, nI_ltI (by omega) (by omega)]; omega), if_neg (no_out (by omega) (by omega)), if_neg (no_out (by omega) (by omega)), e7, na_1, na_sub (by omega), nI_clamp (by omega)]
  | D + 1, j, i, hj, h1, h7 => by
    have e7 : i 78 (nI k).toNatClampNeg = nI sz := by rw [nI_clamp (by omega), h7]
    have e8 : nI (8 * k) + nI j = nI (8 * k + j) := nI_add _ _
    have e9 : nI (8 * k) + nI j - 1 = nI (8 * k + (j - 1)) := by rw [e8, na_1, na_sub (by omega), show 8 * k + j - 1 = 8 * k + (j - 1) by omega]
    rw [mr_78_15, if_neg (no_out (by omega) (by omega)), if_pos (by rw [e7, nI_ltI (by omega) (by omega)]; omega), if_neg (by rw [e8]; exact no_out (by omega) (by omega)), if_neg (by rw [e9]; exact no_out (by omega) (by omega)), e9, e8, nI_clamp (by omega), nI_clamp (by omega), nI_1]
    obtain ⟨i1, f1, f2, f3, f4, f5⟩ := tb_loop hk hs (v := v) D (j + 1) (mm_ww i 79 (8 * k + (j - 1)) (i 79 (8 * k + j))) (by omega) (by omega) (by rw [mw_k (by omega)]; exact h7)
    refine ⟨i1, f1, fun t a1 a2 => ?_, fun t a1 => ?_, fun q a1 => ?_, fun q a1 => by rw [f5 q a1, mw_k a1]⟩
    · by_cases z : t + 1 = j
      · rw [f3 t (by omega), show t = j - 1 by omega, mw_s, show 8 * k + (j - 1) + 1 = 8 * k + j by omega]
      · rw [f2 t (by omega) a2, mw_j (by omega)]
    · rw [f3 t (by omega), mw_j (by omega)]
    · rw [f4 q a1, mw_j (by omega)]
theorem CD.tb (g : CD w π i0 b i ψ x y) (hk : k < 4) (hc : hC (yH ψ) k ≠ 0) (h0 : hS (yH ψ) k ≠ 0) : ∃ i', mm_V 78 0 [some (.ref 68), some (.int (nI k)), none, none, none] [] (mm_Z m w i l e) = some (.inl (some (.int (hB (yH ψ) k 0))), mm_Z m w i' l e) ∧ CD w π i0 b i' (yh ψ (hBy (yH ψ) k (hS (yH ψ) k - 1) (fun j => hB (yH ψ) k (j + 1)))) x y := by
  have H : HC i (yH ψ) := g.1.2.2.2.1
  have hs8 := (g.iv.hw.2.2.2 k hk).2.1
  obtain ⟨b1, b2⟩ := (H.2.2.2 k hk).2 hc
  obtain ⟨i1, f1, f2, f3, f4, f5⟩ := tb_loop (m := m) (w := w) (l := l) (e := e) hk hs8 (v := hB (yH ψ) k 0) (hS (yH ψ) k - 1) 1 i (by omega) (by omega) b1
  have e8 : nI k * 8 = nI (8 * k) := by rw [na_8, na_mul, Nat.mul_comm]
  have f1 : mm_V 78 15 [some (.ref 68), some (.int (nI k)), some (.int (nI (8 * k))), some (.int (hB (yH ψ) k 0)), some (.int 1)] [] (mm_Z m w i l e) = _ := f1
  have e79 : i 79 (8 * k) = hB (yH ψ) k 0 := b2 0 (by omega)
  refine ⟨mm_ww i1 78 k (nI (hS (yH ψ) k - 1)), by rw [mr_78_0, e8, if_neg (no_out (by omega) (by omega)), nI_clamp (by omega), e79, f1], g.hd (HC_by H hk mw_s (fun j hj => ?_) (fun y hy z => ⟨by rw [mw_j z, f5 _ (by omega)], fun j hj => by rw [mw_k (by omega), f4 _ (by omega)]⟩) g.iv.hw (fun q a1 a2 => by rw [mw_k a1, f5 q a2])) (fun k j z => by rw [mw_k (by omega), f5 _ (by omega)]) (iv_by g.iv (by omega))⟩
  rw [mw_k (by omega), f2 j (by omega) (by omega), show 8 * k + j + 1 = 8 * k + (j + 1) by omega]
  exact b2 (j + 1) (by omega)
theorem rb_loop (hk : k < 4) {sz : Nat} (hs : sz ≤ 8) {v x1 x2 : Int32} : ∀ (D j : Nat) (i : Nat → Nat → Int32), j + D = sz - 1 → 1 ≤ sz → i 128 k = nI (sz - 1) → ∃ i', mm_V 314 153 [some (.ref 83), some (.int x1), some (.int x2), some (.int (nI k)), some (.int v), some (.int (nI j))] [] (mm_Z m w i l e) = some (.inl (some (.int v)), mm_Z m w i' l e) ∧ (∀ t, j ≤ t → t + 1 < sz → i' 129 (8 * k + t) = i 129 (8 * k + t + 1)) ∧ (∀ t, t < j → i' 129 (8 * k + t) = i 129 (8 * k + t)) ∧ (∀ q, q < 8 * k ∨ 8 * k + 8 ≤ q → i' 129 q = i 129 q) ∧ (∀ q, q ≠ 129 → i' q = i q)
  | 0, j, i, hj, h1, h7 => by
    refine ⟨i, ?_, fun t a1 a2 => by omega, fun _ _ => rfl, fun _ _ => rfl, fun _ _ => rfl⟩
    have e7 : i 128 (nI k).toNatClampNeg = nI (sz - 1) := by rw [nI_clamp (by omega), h7]
    rw [mr_314_153, if_neg (no_out (by omega) (by omega)), if_neg (by rw [e7, nI_ltI (by omega) (by omega)]; omega)]
  | D + 1, j, i, hj, h1, h7 => by
    have e7 : i 128 (nI k).toNatClampNeg = nI (sz - 1) := by rw [nI_clamp (by omega), h7]
    have e8 : 8 * nI k + nI j = nI (8 * k + j) := by rw [na_8, na_mul, nI_add]
    rw [mr_314_153, if_neg (no_out (by omega) (by omega)), if_pos (by rw [e7, nI_ltI (by omega) (by omega)]; omega), e8, nI_1, if_neg (no_out (by omega) (by omega)), if_neg (no_out (by omega) (by omega)), nI_clamp (by omega), nI_clamp (by omega), nI_1]
    obtain ⟨i1, f1, f2, f3, f4, f5⟩ := rb_loop hk hs (v := v) (x1 := x1) (x2 := x2) D (j + 1) (mm_ww i 129 (8 * k + j) (i 129 (8 * k + j + 1))) (by omega) h1 (by rw [mw_k (by omega)]; exact h7)
    refine ⟨i1, f1, fun t a1 a2 => ?_, fun t a1 => ?_, fun q a1 => ?_, fun q a1 => by rw [f5 q a1, mw_k a1]⟩
    · by_cases z : t = j
      · rw [f3 t (by omega), z, mw_s]
      · rw [f2 t (by omega) a2, mw_j (by omega)]
    · rw [f3 t (by omega), mw_j (by omega)]
    · rw [f4 q a1, mw_j (by omega)]
end MM120
