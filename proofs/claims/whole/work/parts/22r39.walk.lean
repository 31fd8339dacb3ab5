/-! PATHS and walks -/
section MM98
/-- names one behind another -/
def pc : List Nat → Nat
  | [] => 0
  | x :: L => x + 100 * pc L
def pO (L : List Nat) : Prop := L.length ≤ 4 ∧ ∀ x, x ∈ L → 1 ≤ x ∧ x ≤ 99
theorem pc_app (A B : List Nat) (h : A = []) : pc (A ++ B) = pc B := by subst h; rfl
theorem pO_t {x : Nat} {L : List Nat} (h : pO (x :: L)) : 1 ≤ x ∧ x ≤ 99 ∧ pO L := by
  have := h.2 x (by simp)
  have h1 := h.1
  rw [List.length_cons] at h1
  exact ⟨this.1, this.2, by omega, fun y hy => h.2 y (by simp [hy])⟩
theorem pc_lt : ∀ (L : List Nat) (n : Nat), pO L → L.length ≤ n → pc L < 100 ^ n
  | [], n, _, _ => Nat.pow_pos (by omega)
  | x :: L, 0, _, h => by simp at h
  | x :: L, n + 1, h, hn => by
    have ⟨h1, h2, h3⟩ := pO_t h
    have := pc_lt L n h3 (by rw [List.length_cons] at hn; omega)
    rw [pc, Nat.pow_succ]
    omega
theorem pc_8 {L : List Nat} (h : pO L) : pc L < 100000000 := by
  have := pc_lt L 4 h h.1
  omega
theorem pc_pos {L : List Nat} (h : pO L) (hl : L ≠ []) : 1 ≤ pc L := by
  cases L with
  | nil => exact absurd rfl hl
  | cons x L => have := pO_t h; rw [pc]; omega
/-- every path is one of names -/
theorem pc_ex : ∀ (d c : Nat), c < 100 ^ d → (∀ k, k < d → c / 100 ^ k ≠ 0 → c / 100 ^ k % 100 ≠ 0) → ∃ L : List Nat, L.length ≤ d ∧ (∀ x, x ∈ L → 1 ≤ x ∧ x ≤ 99) ∧ c = pc L
  | 0, c, h, _ => ⟨[], by simp, by simp, by simp at h; simp [pc, h]⟩
  | d + 1, c, h, hk => by
    by_cases q : c = 0
    · exact ⟨[], by simp, by simp, by simp [pc, q]⟩
    · have h0 := hk 0 (by omega) (by simpa using q)
      simp only [Nat.pow_zero, Nat.div_one] at h0
      obtain ⟨L, g1, g2, g3⟩ := pc_ex d (c / 100) (by rw [Nat.pow_succ] at h; omega) (fun k hkd z => by
        have e : c / 100 / 100 ^ k = c / 100 ^ (k + 1) := by rw [Nat.div_div_eq_div_mul, Nat.pow_succ, Nat.mul_comm]
        rw [e] at z ⊢
        exact hk (k + 1) (by omega) z)
      refine ⟨c % 100 :: L, by rw [List.length_cons]; omega, ?_, by rw [pc, ← g3]; omega⟩
      intro x hx
      rw [List.mem_cons] at hx
      rcases hx with rfl | hx
      · omega
      · exact g2 x hx
/-- is it a path? -/
def pOk (x : Int32) : Bool := !decide (x < 0) && (decide (x.toNatClampNeg < 100000000) && (decide (x.toNatClampNeg ≠ 0 → x.toNatClampNeg % 100 ≠ 0) && (decide (x.toNatClampNeg / 100 ≠ 0 → x.toNatClampNeg / 100 % 100 ≠ 0) && (decide (x.toNatClampNeg / 10000 ≠ 0 → x.toNatClampNeg / 10000 % 100 ≠ 0) && decide (x.toNatClampNeg / 1000000 ≠ 0 → x.toNatClampNeg / 1000000 % 100 ≠ 0)))))
theorem pOk_L {x : Int32} (h : pOk x = true) : ∃ L, pO L ∧ x = nI (pc L) := by
  unfold pOk at h
  simp only [Bool.and_eq_true, Bool.not_eq_true', decide_eq_true_eq, decide_eq_false_iff_not] at h
  obtain ⟨h1, h2, h3, h4, h5, h6⟩ := h
  obtain ⟨c, hc, rfl⟩ := nI_of h1
  rw [nI_clamp hc] at h2 h3 h4 h5 h6
  obtain ⟨L, g1, g2, g3⟩ := pc_ex 4 c (by omega) (fun k hk z => by
    rcases (show k = 0 ∨ k = 1 ∨ k = 2 ∨ k = 3 by omega) with rfl | rfl | rfl | rfl
    · rw [Nat.pow_zero, Nat.div_one] at z ⊢; exact h3 z
    · exact h4 z
    · exact h5 z
    · exact h6 z)
  exact ⟨L, ⟨g1, g2⟩, by rw [g3]⟩
variable {w : Bool} {l : Nat → Nat → Int64} {e : Bool × Nat × Nat} {π : mP} {m : Nat} {i i' : Nat → Nat → Int32} {ψ : mS} {b p n : Nat}
theorem cp_isPath (x : Int32) : mm_V 87 0 [some (.int x), none, none] [] (mm_Z m w i l e) = some (.inl (some (.int (bI (pOk x)))), mm_Z m w i l e) := by
  rw [mr_87_0]
  unfold pOk
  by_cases q0 : x < 0
  · rw [if_pos q0, decide_eq_true q0]; rfl
  · obtain ⟨c, hc, rfl⟩ := nI_of q0
    rw [if_neg q0, decide_eq_false q0, nI_clamp hc]
    have e9 : (99999999 : Int32) = nI 99999999 := by decide
    have step : ∀ (r k : Nat), r < 2 ^ 31 → k < 4 → mm_V 87 16 [some (.int (nI c)), some (.int (nI r)), some (.int (nI k))] [] (mm_Z m w i l e) = if r = 0 then some (.inl (some (.int 1)), mm_Z m w i l e) else if r % 100 = 0 then some (.inl (some (.int 0)), mm_Z m w i l e) else mm_V 87 16 [some (.int (nI c)), some (.int (nI (r / 100))), some (.int (nI (k + 1)))] [] (mm_Z m w i l e) := by
      intro r k hr hk
      rw [mr_87_16]
      simp only [na_4, na_0, na_100, nI_ltI (show k < 2 ^ 31 by omega) (show 4 < 2 ^ 31 by omega), nI_ltI (show 0 < 2 ^ 31 by omega) hr, na_re hr (show 100 < 2 ^ 31 by omega), nI_eq (show r % 100 < 2 ^ 31 by omega) (show 0 < 2 ^ 31 by omega), na_div hr (show 100 < 2 ^ 31 by omega), nI_1]
      rw [if_pos hk]
      by_cases z : r = 0
      · rw [if_pos z, if_neg (by omega)]
      · rw [if_neg z, if_pos (by omega)]
    have last : ∀ (r : Nat), mm_V 87 16 [some (.int (nI c)), some (.int (nI r)), some (.int (nI 4))] [] (mm_Z m w i l e) = some (.inl (some (.int 1)), mm_Z m w i l e) := by
      intro r
      rw [mr_87_16, if_neg (by decide)]
    simp only [e9, nI_ltI (show 99999999 < 2 ^ 31 by omega) hc]
    by_cases q1 : c < 100000000
    · rw [if_neg (by omega), decide_eq_true q1, na_0, step c 0 hc (by omega)]
      by_cases z0 : c = 0
      · subst z0; rfl
      · rw [if_neg z0]
        by_cases y0 : c % 100 = 0
        · rw [if_pos y0, decide_eq_false (show ¬ (c ≠ 0 → c % 100 ≠ 0) from fun z => by omega)]; rfl
        · rw [if_neg y0, decide_eq_true (show (c ≠ 0 → c % 100 ≠ 0) by omega), step _ 1 (by omega) (by omega)]
          by_cases z1 : c / 100 = 0
          · rw [if_pos z1, decide_eq_true (show (c / 100 ≠ 0 → c / 100 % 100 ≠ 0) by omega), decide_eq_true (show (c / 10000 ≠ 0 → c / 10000 % 100 ≠ 0) by omega), decide_eq_true (show (c / 1000000 ≠ 0 → c / 1000000 % 100 ≠ 0) by omega)]; rfl
          · rw [if_neg z1]
            by_cases y1 : c / 100 % 100 = 0
            · rw [if_pos y1, decide_eq_false (show ¬ (c / 100 ≠ 0 → c / 100 % 100 ≠ 0) from fun z => by omega)]; rfl
            · rw [if_neg y1, decide_eq_true (show (c / 100 ≠ 0 → c / 100 % 100 ≠ 0) by omega), step _ 2 (by omega) (by omega), show c / 100 / 100 = c / 10000 by omega]
              by_cases z2 : c / 10000 = 0
              · rw [if_pos z2, decide_eq_true (show (c / 10000 ≠ 0 → c / 10000 % 100 ≠ 0) by omega), decide_eq_true (show (c / 1000000 ≠ 0 → c / 1000000 % 100 ≠ 0) by omega)]; rfl
              · rw [if_neg z2]
                by_cases y2 : c / 10000 % 100 = 0
                · rw [if_pos y2, decide_eq_false (show ¬ (c / 10000 ≠ 0 → c / 10000 % 100 ≠ 0) from fun z => by omega)]; rfl
                · rw [if_neg y2, decide_eq_true (show (c / 10000 ≠ 0 → c / 10000 % 100 ≠ 0) by omega), step _ 3 (by omega) (by omega), show c / 10000 / 100 = c / 1000000 by omega]
                  by_cases z3 : c / 1000000 = 0
                  · rw [if_pos z3, decide_eq_true (show (c / 1000000 ≠ 0 → c / 1000000 % 100 ≠ 0) by omega)]; rfl
                  · rw [if_neg z3]
                    by_cases y3 : c / 1000000 % 100 = 0
                    · rw [if_pos y3, decide_eq_false (show ¬ (c / 1000000 ≠ 0 → c / 1000000 % 100 ≠ 0) from fun z => by omega)]; rfl
                    · rw [if_neg y3, decide_eq_true (show (c / 1000000 ≠ 0 → c / 1000000 % 100 ≠ 0) by omega), last]; rfl
    · rw [if_pos (by omega), decide_eq_false q1]; rfl
/-- the reference's names -/
theorem nm_at {L : List Nat} (h : pO L) {k : Nat} (hk : k < 4) : mm_V 282 0 [some (.int (nI (pc L))), some (.int (nI k))] [] (mm_Z m w i l e) = some (.inl (some (.int (nI (L.getD k 0)))), mm_Z m w i l e) := by
  have e4 : (10000 : Int32) = nI 10000 := by decide
  have e6 : (1000000 : Int32) = nI 1000000 := by decide
  have h8 := pc_8 h
  rw [mr_282_0]
  simp only [na_0, na_1, na_2, na_100, e4, e6, nI_eq (show k < 2 ^ 31 by omega) (show 0 < 2 ^ 31 by omega), nI_eq (show k < 2 ^ 31 by omega) (show 1 < 2 ^ 31 by omega), nI_eq (show k < 2 ^ 31 by omega) (show 2 < 2 ^ 31 by omega), na_div (show pc L < 2 ^ 31 by omega) (show 100 < 2 ^ 31 by omega), na_div (show pc L < 2 ^ 31 by omega) (show 10000 < 2 ^ 31 by omega), na_div (show pc L < 2 ^ 31 by omega) (show 1000000 < 2 ^ 31 by omega), na_re (show pc L < 2 ^ 31 by omega) (show 100 < 2 ^ 31 by omega), na_re (show pc L / 100 < 2 ^ 31 by omega) (show 100 < 2 ^ 31 by omega), na_re (show pc L / 10000 < 2 ^ 31 by omega) (show 100 < 2 ^ 31 by omega)]
  have key : (if k = 0 then pc L % 100 else if k = 1 then pc L / 100 % 100 else if k = 2 then pc L / 10000 % 100 else pc L / 1000000) = L.getD k 0 := by
    clear h8
    match L, h with
    | [], _ => rcases (show k = 0 ∨ k = 1 ∨ k = 2 ∨ k = 3 by omega) with rfl | rfl | rfl | rfl <;> rfl
    | [a], h =>
      have := h.2 a (by simp)
      rcases (show k = 0 ∨ k = 1 ∨ k = 2 ∨ k = 3 by omega) with rfl | rfl | rfl | rfl <;> simp [pc] <;> omega
    | [a, c], h =>
      have := h.2 a (by simp)
      have := h.2 c (by simp)
      rcases (show k = 0 ∨ k = 1 ∨ k = 2 ∨ k = 3 by omega) with rfl | rfl | rfl | rfl <;> simp [pc] <;> omega
    | [a, c, d], h =>
      have := h.2 a (by simp)
      have := h.2 c (by simp)
      have := h.2 d (by simp)
      rcases (show k = 0 ∨ k = 1 ∨ k = 2 ∨ k = 3 by omega) with rfl | rfl | rfl | rfl <;> simp [pc] <;> omega
    | [a, c, d, f], h =>
      have := h.2 a (by simp)
      have := h.2 c (by simp)
      have := h.2 d (by simp)
      have := h.2 f (by simp)
      rcases (show k = 0 ∨ k = 1 ∨ k = 2 ∨ k = 3 by omega) with rfl | rfl | rfl | rfl <;> simp [pc] <;> omega
    | a :: c :: d :: f :: g :: t, h => exact absurd h.1 (by simp)
  rw [← key]
  by_cases q0 : k = 0
  · simp only [if_pos q0]
  · by_cases q1 : k = 1
    · simp only [if_neg q0, if_pos q1]
    · by_cases q2 : k = 2
      · simp only [if_neg q0, if_neg q1, if_pos q2]
      · simp only [if_neg q0, if_neg q1, if_neg q2]
theorem gd_in {L : List Nat} {k : Nat} (h : k < L.length) : L.getD k 0 ∈ L := by rw [gd_el h]; exact List.getElem_mem h
theorem nm_loop {L : List Nat} (h : pO L) : ∀ (D k : Nat), k + D = L.length → mm_V 283 2 [some (.int (nI (pc L))), some (.int (nI k))] [] (mm_Z m w i l e) = some (.inl (some (.int (nI L.length))), mm_Z m w i l e)
  | 0, k, hk => by
    have h4 := h.1
    rw [mr_283_2]
    simp only [na_4, nI_ltI (show k < 2 ^ 31 by omega) (show 4 < 2 ^ 31 by omega)]
    rw [show k = L.length by omega]
    by_cases q : L.length < 4
    · rw [if_pos q, nm_at h q, mb_l, mb_v, mr_283_12, if_neg]
      rw [show L.getD L.length 0 = 0 by simp]
      decide
    · rw [if_neg q]
  | D + 1, k, hk => by
    have h4 := h.1
    have hx := h.2 _ (gd_in (L := L) (k := k) (by omega))
    rw [mr_283_2]
    simp only [na_4, nI_ltI (show k < 2 ^ 31 by omega) (show 4 < 2 ^ 31 by omega)]
    rw [if_pos (by omega), nm_at h (by omega), mb_l, mb_v, mr_283_12, na_0]
    simp only [nI_ltI (show 0 < 2 ^ 31 by omega) (show L.getD k 0 < 2 ^ 31 by omega)]
    rw [if_pos (by omega), nI_1]
    exact nm_loop h D (k + 1) (by omega)
theorem nm_of {L : List Nat} (h : pO L) : mm_V 283 0 [some (.int (nI (pc L))), none] [] (mm_Z m w i l e) = some (.inl (some (.int (nI L.length))), mm_Z m w i l e) := by
  rw [mr_283_0]
  exact nm_loop h L.length 0 (by omega)
/-- the walk: 0 or a fault, where it is, the guard behind it -/
def wK (π : mP) (τ : mT) (c : Nat) : List Nat → Nat → mK → Int32 × Nat × mK
  | [], a, κ => (0, a, κ)
  | x :: L, a, κ => if tk τ a ≠ 2 then (-4, a, κ) else if (kGr π κ c (cN τ a) 1 2).1 = false then (-2, a, (kGr π κ c (cN τ a) 1 2).2) else if tE τ a x < ts τ a then wK π τ c L (td τ a (tE τ a x)) (kGr π κ c (cN τ a) 1 2).2 else (-3, a, (kGr π κ c (cN τ a) 1 2).2)
theorem wK_1 {π : mP} {τ : mT} {c x a : Nat} {L : List Nat} {κ : mK} (h : ¬ tk τ a = 2) : wK π τ c (x :: L) a κ = (-4, a, κ) := by rw [wK, if_pos h]
theorem wK_2 {π : mP} {τ : mT} {c x a : Nat} {L : List Nat} {κ : mK} (h : tk τ a = 2) (h2 : (kGr π κ c (cN τ a) 1 2).1 = false) : wK π τ c (x :: L) a κ = (-2, a, (kGr π κ c (cN τ a) 1 2).2) := by rw [wK, if_neg (fun z => z h), if_pos h2]
theorem wK_3 {π : mP} {τ : mT} {c x a : Nat} {L : List Nat} {κ : mK} (h : tk τ a = 2) (h2 : (kGr π κ c (cN τ a) 1 2).1 = true) (h3 : ¬ tE τ a x < ts τ a) : wK π τ c (x :: L) a κ = (-3, a, (kGr π κ c (cN τ a) 1 2).2) := by rw [wK, if_neg (fun z => z h), if_neg (by rw [h2]; decide), if_neg h3]
theorem wK_4 {π : mP} {τ : mT} {c x a : Nat} {L : List Nat} {κ : mK} (h : tk τ a = 2) (h2 : (kGr π κ c (cN τ a) 1 2).1 = true) (h3 : tE τ a x < ts τ a) : wK π τ c (x :: L) a κ = wK π τ c L (td τ a (tE τ a x)) (kGr π κ c (cN τ a) 1 2).2 := by rw [wK, if_neg (fun z => z h), if_neg (by rw [h2]; decide), if_pos h3]
theorem if_bf {α : Type} {A B : α} : (if bI false = 0 then A else B) = A := rfl
theorem if_bt {α : Type} {A B : α} : (if bI true = 0 then A else B) = B := rfl
/-- the nodes behind the first that it comes to -/
def wN (τ : mT) : List Nat → Nat → List Nat
  | [], _ => []
  | x :: L, a => td τ a (tE τ a x) :: wN τ L (td τ a (tE τ a x))
def wB (x : Int32) (L : List Nat) : Int32 := L.foldl (fun y n => y ||| (1 <<< (nI n &&& 31))) x
/-- what a walk keeps -/
theorem wK_ok (hI : IV π b ψ) {c : Nat} (hc : xOk c) : ∀ (L : List Nat) (a : Nat) (κ : mK) (d : Nat), a < 32 → tk (yT ψ) a ≠ 0 → KV d κ → d + L.length < 2 ^ 29 → KV (d + L.length) (wK π (yT ψ) c L a κ).2.2 ∧ ((wK π (yT ψ) c L a κ).1 = 0 ∨ (wK π (yT ψ) c L a κ).1 < 0) ∧ (wK π (yT ψ) c L a κ).2.1 < 32 ∧ tk (yT ψ) (wK π (yT ψ) c L a κ).2.1 ≠ 0
  | [], a, κ, d, ha, ht, hk, hd => ⟨hk, Or.inl rfl, ha, ht⟩
  | x :: L, a, κ, d, ha, ht, hk, hd => by
    rw [List.length_cons] at hd ⊢
    rw [wK]
    have hg := hk.gr (π := π) (cl := 1) (pm := 2) (by omega) hc (hI.cn ha ht).1
    by_cases q1 : tk (yT ψ) a ≠ 2
    · rw [if_pos q1]; exact ⟨hk.up (by omega), Or.inr (show (-4 : Int32) < 0 by decide), ha, ht⟩
    · rw [if_neg q1]
      by_cases q2 : (kGr π κ c (cN (yT ψ) a) 1 2).1 = false
      · rw [if_pos q2]; exact ⟨hg.up (by omega), Or.inr (show (-2 : Int32) < 0 by decide), ha, ht⟩
      · rw [if_neg q2]
        by_cases q3 : tE (yT ψ) a x < ts (yT ψ) a
        · rw [if_pos q3]
          have h2 : tk (yT ψ) a = 2 := by omega
          have := wK_ok hI hc L (td (yT ψ) a (tE (yT ψ) a x)) _ (d + 1) (((hI.tw a ha).2.2 h2).2 _ q3).2.2.2 (hI.ti.2.2.2.2.1 a ha h2 _ q3) hg (by omega)
          rw [show d + (L.length + 1) = d + 1 + L.length by omega]
          exact this
        · rw [if_neg q3]; exact ⟨hg.up (by omega), Or.inr (show (-3 : Int32) < 0 by decide), ha, ht⟩
end MM98
