/-! HOLDINGS: one handle after another, or all at once -/
section MM90
variable {η : mH} {τ : mT} {m p h o q : Nat}
/-- nodes without links that aren't held: all gone at once -/
def tGo (held : Nat → Bool) (τ : mT) : mT := (fun n => if 1 ≤ n ∧ n < 32 ∧ tk τ n ≠ 0 ∧ tL τ n = 0 ∧ held n = false then 0 else tk τ n, tc τ, ts τ, tb τ, tm τ, td τ)
/-- directories without links are empty -/
def TE (τ : mT) : Prop := ∀ n, 1 ≤ n → n < 32 → tk τ n = 2 → tL τ n = 0 → ts τ n = 0
theorem TE_dr {n : Nat} (h : TE τ) (hb : tk τ n = 2 → ts τ n = 0) : TE (tDr τ n) := by
  intro j h1 h2 h3 h4
  rw [tL_dr hb] at h4
  by_cases z : j = n
  · subst z; rw [tk_tDr, up_s] at h3; omega
  · rw [tk_tDr, up_n z] at h3
    exact h j h1 h2 h3 h4
theorem swp_go {held : Nat → Bool} : ∀ (D k : Nat) (τ : mT), 1 ≤ k → k + D = 32 → TE τ → tSwp held D k τ = (fun n => if k ≤ n ∧ n < 32 ∧ tk τ n ≠ 0 ∧ tL τ n = 0 ∧ held n = false then 0 else tk τ n, tc τ, ts τ, tb τ, tm τ, td τ)
  | 0, k, τ, h1, h2, hT => by
    rw [tSwp]
    have : (fun n => if k ≤ n ∧ n < 32 ∧ tk τ n ≠ 0 ∧ tL τ n = 0 ∧ held n = false then 0 else tk τ n) = tk τ := by
      funext n
      rw [if_neg (by omega)]
    rw [this]
  | D + 1, k, τ, h1, h2, hT => by
    rw [tSwp]
    by_cases c : tk τ k ≠ 0 ∧ tL τ k = 0 ∧ held k = false
    · have hb : tk τ k = 2 → ts τ k = 0 := fun z => hT k h1 (by omega) z c.2.1
      rw [if_pos c, swp_go D (k + 1) (tDr τ k) (by omega) (by omega) (TE_dr hT hb)]
      have : (fun n => if k + 1 ≤ n ∧ n < 32 ∧ tk (tDr τ k) n ≠ 0 ∧ tL (tDr τ k) n = 0 ∧ held n = false then 0 else tk (tDr τ k) n) = (fun n => if k ≤ n ∧ n < 32 ∧ tk τ n ≠ 0 ∧ tL τ n = 0 ∧ held n = false then 0 else tk τ n) := by
        funext n
        rw [tL_dr hb, tk_tDr]
        by_cases z : n = k
        · subst z
          rw [up_s, if_neg (by omega), if_pos ⟨Nat.le_refl _, by omega, c⟩]
        · rw [up_n z]
          by_cases y : k ≤ n ∧ n < 32 ∧ tk τ n ≠ 0 ∧ tL τ n = 0 ∧ held n = false
          · rw [if_pos y, if_pos ⟨by omega, y.2⟩]
          · rw [if_neg y, if_neg (fun q => y ⟨by omega, q.2⟩)]
      rw [this]
      rfl
    · rw [if_neg c, swp_go D (k + 1) τ (by omega) (by omega) hT]
      have : (fun n => if k + 1 ≤ n ∧ n < 32 ∧ tk τ n ≠ 0 ∧ tL τ n = 0 ∧ held n = false then 0 else tk τ n) = (fun n => if k ≤ n ∧ n < 32 ∧ tk τ n ≠ 0 ∧ tL τ n = 0 ∧ held n = false then 0 else tk τ n) := by
        funext n
        by_cases z : n = k
        · subst z
          rw [if_neg (by omega), if_neg (fun q => c q.2.2)]
        · by_cases y : k ≤ n ∧ n < 32 ∧ tk τ n ≠ 0 ∧ tL τ n = 0 ∧ held n = false
          · rw [if_pos y, if_pos ⟨by omega, y.2⟩]
          · rw [if_neg y, if_neg (fun q => y ⟨by omega, q.2⟩)]
      rw [this]
theorem swp_eq {held : Nat → Bool} (hT : TE τ) : tSwp held 31 1 τ = tGo held τ := swp_go 31 1 τ (Nat.le_refl _) rfl hT
theorem tL_go {held : Nat → Bool} (hT : TE τ) (hw : TW τ) (h0 : tk τ 0 ≤ 2) (x : Nat) : tL (tGo held τ) x = tL τ x := by
  unfold tL
  have : tLd (tGo held τ) x = tLd τ x := by
    funext d
    have e0 : tk (tGo held τ) d = if 1 ≤ d ∧ d < 32 ∧ tk τ d ≠ 0 ∧ tL τ d = 0 ∧ held d = false then 0 else tk τ d := rfl
    unfold tLd
    rw [e0]
    by_cases c : 1 ≤ d ∧ d < 32 ∧ tk τ d ≠ 0 ∧ tL τ d = 0 ∧ held d = false
    · rw [if_pos c, if_neg (by omega)]
      by_cases z : tk τ d = 2
      · rw [if_pos z, hT d c.1 c.2.1 z c.2.2.2.1]; rfl
      · rw [if_neg z]
    · rw [if_neg c]; rfl
  rw [this]
theorem go_go {f g : Nat → Bool} (hT : TE τ) (hw : TW τ) (h0 : tk τ 0 ≤ 2) (hfg : ∀ n, g n = true → f n = true) : tGo g (tGo f τ) = tGo g τ := by
  have e0 : ∀ n, tk (tGo f τ) n = if 1 ≤ n ∧ n < 32 ∧ tk τ n ≠ 0 ∧ tL τ n = 0 ∧ f n = false then 0 else tk τ n := fun _ => rfl
  have : (fun n => if 1 ≤ n ∧ n < 32 ∧ tk (tGo f τ) n ≠ 0 ∧ tL (tGo f τ) n = 0 ∧ g n = false then 0 else tk (tGo f τ) n) = (fun n => if 1 ≤ n ∧ n < 32 ∧ tk τ n ≠ 0 ∧ tL τ n = 0 ∧ g n = false then 0 else tk τ n) := by
    funext n
    rw [tL_go hT hw h0, e0]
    by_cases c : 1 ≤ n ∧ n < 32 ∧ tk τ n ≠ 0 ∧ tL τ n = 0 ∧ f n = false
    · rw [if_pos c, if_neg (fun y => y.2.2.1 rfl)]
      have hg : g n = false := by
        cases hq : g n
        · rfl
        · have := hfg n hq; rw [c.2.2.2.2] at this; cases this
      rw [if_pos ⟨c.1, c.2.1, c.2.2.1, c.2.2.2.1, hg⟩]
    · rw [if_neg c]
  show (_, _, _, _, _, _) = (_, _, _, _, _, _)
  rw [this]
  rfl
theorem go_id {f : Nat → Bool} (h : ∀ n, 1 ≤ n → n < 32 → tk τ n ≠ 0 → tL τ n = 0 → f n = true) : tGo f τ = τ := by
  have : (fun n => if 1 ≤ n ∧ n < 32 ∧ tk τ n ≠ 0 ∧ tL τ n = 0 ∧ f n = false then 0 else tk τ n) = tk τ := by
    funext n
    by_cases c : 1 ≤ n ∧ n < 32 ∧ tk τ n ≠ 0 ∧ tL τ n = 0 ∧ f n = false
    · have := h n c.1 c.2.1 c.2.2.1 c.2.2.2.1
      rw [c.2.2.2.2] at this; cases this
    · rw [if_neg c]
  show (_, _, _, _, _, _) = τ
  rw [this]
theorem TE_go {f : Nat → Bool} (hT : TE τ) (hw : TW τ) (h0 : tk τ 0 ≤ 2) : TE (tGo f τ) := by
  intro n h1 h2 h3 h4
  rw [tL_go hT hw h0] at h4
  have e0 : tk (tGo f τ) n = if 1 ≤ n ∧ n < 32 ∧ tk τ n ≠ 0 ∧ tL τ n = 0 ∧ f n = false then 0 else tk τ n := rfl
  rw [e0] at h3
  by_cases c : 1 ≤ n ∧ n < 32 ∧ tk τ n ≠ 0 ∧ tL τ n = 0 ∧ f n = false
  · rw [if_pos c] at h3; omega
  · rw [if_neg c] at h3
    exact hT n h1 h2 h3 h4
/-- what is held is there, what isn't linked is held -/
def TH (τ : mT) (η : mH) : Prop := (∀ n, 1 ≤ n → n < 32 → tk τ n ≠ 0 → tL τ n = 0 → hHe η n = true) ∧ (∀ o, o < 16 → hCt η o ≠ 0 → (hO η o).1 = false → tk τ (hO η o).2.1 ≠ 0)
theorem he_iff (η : mH) (n : Nat) : hHe η n = true ↔ ∃ o, o < 16 ∧ hCt η o ≠ 0 ∧ (hO η o).1 = false ∧ (hO η o).2.1 = n := by
  unfold hHe
  rw [tAny_iff]
  constructor
  · rintro ⟨j, -, h2, h3⟩; exact ⟨j, by omega, of_decide_eq_true h3⟩
  · rintro ⟨j, h2, h3⟩; exact ⟨j, Nat.zero_le _, by omega, decide_eq_true h3⟩
theorem lv_iff (η : mH) (n : Nat) : hLv η n = true ↔ ∃ o, o < 16 ∧ hCt η o ≠ 0 ∧ (hO η o).1 = true ∧ (hO η o).2.1 = n := by
  unfold hLv
  rw [tAny_iff]
  constructor
  · rintro ⟨j, -, h2, h3⟩; exact ⟨j, by omega, of_decide_eq_true h3⟩
  · rintro ⟨j, h2, h3⟩; exact ⟨j, Nat.zero_le _, by omega, decide_eq_true h3⟩
/-- the class's release is the reference's clean -/
theorem rl_tree {k : Nat} (hw : HW η) (hk : k < 48) (h0 : hH η k ≠ 0) (hT : TE τ) (hH2 : TH τ η) : tRl2 τ η k = tGo (hHe (hUn η k)) τ := by
  obtain ⟨o, ho⟩ : ∃ o, hH η k = o + 1 := ⟨hH η k - 1, by omega⟩
  have hb := hw.2.1 k hk
  have hct : ∀ y, hCt (hUn η k) y + (if y = o then 1 else 0) = hCt η y := fun y => hUn_ct hk ho
  have e1 : hH η k - 1 = o := by omega
  have hto : hCt η o ≠ 0 := by have := hct o; rw [if_pos rfl] at this; omega
  have eO : ∀ y, hO (hUn η k) y = hO η y := fun _ => rfl
  -- what is held still
  have still : ∀ n, hHe η n = true → (hCt (hUn η k) o ≠ 0 ∨ (hO η o).1 = true ∨ (hO η o).2.1 ≠ n) → hHe (hUn η k) n = true := by
    intro n hn hc
    obtain ⟨y, y1, y2, y3, y4⟩ := (he_iff η n).mp hn
    refine (he_iff _ n).mpr ⟨y, y1, ?_, y3, y4⟩
    by_cases z : y = o
    · subst z
      rcases hc with hc | hc | hc
      · exact hc
      · rw [hc] at y3; cases y3
      · exact absurd y4 hc
    · have := hct y
      rw [if_neg z] at this
      omega
  unfold tRl2
  rw [e1]
  by_cases c : hCt (hUn η k) o = 0 ∧ (hO η o).1 = false
  · have h32 := (hw.2.2.1 o (by omega) hto).2.1 c.2
    have hth := hH2.2 o (by omega) hto c.2
    have only : ∀ n, 1 ≤ n → n < 32 → n ≠ (hO η o).2.1 → ¬ (tk τ n ≠ 0 ∧ tL τ n = 0 ∧ hHe (hUn η k) n = false) := by
      intro n n1 n2 n3 y
      have := still n (hH2.1 n n1 n2 y.1 y.2.1) (Or.inr (Or.inr (fun q => n3 q.symm)))
      rw [y.2.2] at this; cases this
    by_cases d : (hO η o).2.1 ≠ 0 ∧ tL τ (hO η o).2.1 = 0 ∧ hHe (hUn η k) (hO η o).2.1 = false
    · rw [if_pos ⟨c.1, c.2, d⟩, ← swp_eq hT]
      have := swp_one (τ := τ) (held := hHe (hUn η k)) (n := (hO η o).2.1) (fun z y => hT _ (by omega) h32 z y) 31 1 (by omega) (by omega) (fun j j1 j2 j3 => only j j1 (by omega) j3)
      rw [this, if_pos ⟨hth, d.2⟩]
    · rw [if_neg (fun y => d y.2.2)]
      refine (go_id (fun n n1 n2 n3 n4 => ?_)).symm
      by_cases z : n = (hO η o).2.1
      · cases hq : hHe (hUn η k) n
        · exact absurd ⟨by omega, by rw [← z]; exact n4, by rw [← z]; exact hq⟩ d
        · rfl
      · exact still n (hH2.1 n n1 n2 n3 n4) (Or.inr (Or.inr (fun q => z q.symm)))
  · rw [if_neg (fun y => c ⟨y.1, y.2.1⟩)]
    refine (go_id (fun n n1 n2 n3 n4 => still n (hH2.1 n n1 n2 n3 n4) ?_)).symm
    by_cases z : hCt (hUn η k) o = 0
    · refine Or.inr (Or.inl ?_)
      cases hq : (hO η o).1
      · exact absurd ⟨z, hq⟩ c
      · rfl
    · exact Or.inl z
theorem rl_hold {k : Nat} (hw : HW η) (hk : k < 48) (h0 : hH η k ≠ 0) : hRl η k = hCl (hUn η k) := by
  obtain ⟨o, ho⟩ : ∃ o, hH η k = o + 1 := ⟨hH η k - 1, by omega⟩
  have hb := hw.2.1 k hk
  have hct : ∀ y, hCt (hUn η k) y + (if y = o then 1 else 0) = hCt η y := fun y => hUn_ct hk ho
  have e1 : hH η k - 1 = o := by omega
  have hto : hCt η o ≠ 0 := by have := hct o; rw [if_pos rfl] at this; omega
  have fin : ∀ f : Nat → Nat, f = (fun j => if j < 4 ∧ hLv (hUn η k) j = false then 0 else hC η j) → (hP η, va_up (hH η) k 0, hO η, f, hS η, hB η) = hCl (hUn η k) := by
    intro f hf; rw [hf]; rfl
  unfold hRl
  rw [e1]
  by_cases c : hCt (hUn η k) o = 0 ∧ (hO η o).1 = true ∧ hLv (hUn η k) (hO η o).2.1 = false
  · rw [if_pos c]
    have h4 := ((hw.2.2.1 o (by omega) hto).1 c.2.1).1
    refine fin (va_up (hC η) (hO η o).2.1 0) ?_
    funext j
    by_cases z : j = (hO η o).2.1
    · rw [z, up_s, if_pos ⟨h4, c.2.2⟩]
    · rw [up_n z]
      by_cases y : j < 4 ∧ hLv (hUn η k) j = false
      · rw [if_pos y]
        cases hq : hC η j with
        | zero => rfl
        | succ n =>
          exfalso
          obtain ⟨o2, p1, p2, p3, p4⟩ := (hw.2.2.2 j y.1).2.2 (by rw [hq]; omega)
          have : hLv (hUn η k) j = true := (lv_iff _ j).mpr ⟨o2, p1, by
            have := hct o2
            rw [if_neg (fun q => z (by rw [← p4, q]))] at this
            omega, p3, p4⟩
          rw [y.2] at this; cases this
      · rw [if_neg y]
  · rw [if_neg c]
    refine fin (hC η) ?_
    funext j
    by_cases y : j < 4 ∧ hLv (hUn η k) j = false
    · rw [if_pos y]
      cases hq : hC η j with
      | zero => rfl
      | succ n =>
        exfalso
        obtain ⟨o2, p1, p2, p3, p4⟩ := (hw.2.2.2 j y.1).2.2 (by rw [hq]; omega)
        by_cases z : o2 = o
        · subst z
          by_cases z2 : hCt (hUn η k) o2 = 0
          · exact c ⟨z2, p3, by rw [p4]; exact y.2⟩
          · have : hLv (hUn η k) j = true := (lv_iff _ j).mpr ⟨o2, p1, z2, p3, p4⟩
            rw [y.2] at this; cases this
        · have : hLv (hUn η k) j = true := (lv_iff _ j).mpr ⟨o2, p1, by
            have := hct o2
            rw [if_neg z] at this
            omega, p3, p4⟩
          rw [y.2] at this; cases this
    · rw [if_neg y]
end MM90
