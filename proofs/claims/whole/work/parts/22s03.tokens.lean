/-! TOKENS of a policy's text: what they are; the reference's words -/
section MM132
/-- the words of policies -/
def tWt : List Nat := (mm_sx mm_stb 1000107).getD []
theorem tWt_s : mm_sx mm_stb 1000107 = some tWt := by decide +kernel
def WW : List (List Nat) := wds tWt []
theorem WW_len : WW.length = 44 := by decide +kernel
theorem tWt_l : tWt.length < 1000 := by decide +kernel
theorem tWt_k : wOk tWt 0 = true := by decide +kernel
theorem WW_g : wGb (wds tWt []) = true := by decide +kernel
/-- the kind of a name -/
def kW (L : List Nat) : Nat := if wI WW L < 44 then 200 + wI WW L else 2
/-- the kind of a sign -/
def kS (c d : Nat) : Nat := if c = 33 then (if d = 61 then 4 else 1) else if c = 61 then (if d = 61 then 3 else 1) else if c = 40 ∨ c = 41 ∨ c = 42 ∨ c = 44 ∨ c = 58 ∨ c = 59 ∨ c = 123 ∨ c = 125 then c else 1
/-- where a name ends -/
def nE (X : mX) (p : Nat) : Nat := tFst (fun q => !isN (xs X q)) (xz X - p) p
def xb (X : mX) (p : Nat) : Nat := if p < xz X then xs X p else 0
/-- a token: where it stands, where it ends, its kind -/
abbrev m3 : Type := Nat × Nat × Nat
def lx (X : mX) (n : Nat) : m3 := if bb X n < xz X then (if isL (xs X (bb X n)) = true then (bb X n, nE X (bb X n), if nE X (bb X n) - bb X n ≤ 9 then kW (sg X (bb X n) (nE X (bb X n) - bb X n)) else 1) else (bb X n, (if kS (xs X (bb X n)) (xb X (bb X n + 1)) = 3 ∨ kS (xs X (bb X n)) (xb X (bb X n + 1)) = 4 then bb X n + 2 else bb X n + 1), kS (xs X (bb X n)) (xb X (bb X n + 1)))) else (bb X n, bb X n, 0)
/-- its letters -/
def tLt (X : mX) (t : m3) : List Nat := if t.2.2 = 2 ∨ 200 ≤ t.2.2 then sg X t.1 (t.2.1 - t.1) else []
theorem kW_ge (L : List Nat) : kW L = 2 ∨ (200 ≤ kW L ∧ kW L < 244) := by
  unfold kW
  split
  · right; omega
  · left; rfl
theorem kS_lt (c d : Nat) : kS c d < 200 ∧ kS c d ≠ 2 ∧ kS c d ≠ 0 := by
  unfold kS
  split
  · split <;> omega
  · split
    · split <;> omega
    · split <;> omega
theorem nE_le (X : mX) {p : Nat} (hp : p ≤ xz X) : p ≤ nE X p ∧ nE X p ≤ xz X := by
  have := tFst_le (fun q => !isN (xs X q)) (xz X - p) p
  unfold nE; omega
theorem nE_in (X : mX) {p k : Nat} (h1 : p ≤ k) (h2 : k < nE X p) : isN (xs X k) = true := by
  have := tFst_no (fun q => !isN (xs X q)) (xz X - p) p k h1 h2
  simpa using this
theorem nE_lt (X : mX) {p : Nat} (hp : p < xz X) (hl : isL (xs X p) = true) : p < nE X p := by
  rcases Nat.lt_or_ge p (nE X p) with z | z
  · exact z
  · have h1 := (nE_le X (p := p) (by omega)).1
    have e : nE X p = p := by omega
    have h2 := tFst_at (fun q => !isN (xs X q)) (xz X - p) p (by unfold nE at e; omega)
    have e2 : tFst (fun q => !isN (xs X q)) (xz X - p) p = p := e
    rw [e2] at h2
    have h3 : 97 ≤ xs X p ∧ xs X p ≤ 122 := of_decide_eq_true hl
    have h4 : isN (xs X p) = true := decide_eq_true (Or.inl h3)
    rw [h4] at h2; cases h2
variable {X : mX} {n : Nat}
theorem lx_at : (lx X n).1 = bb X n := by unfold lx; split <;> (try split) <;> rfl
/-- a token goes forward, within the text -/
theorem lx_ok (hn : n ≤ xz X) : n ≤ (lx X n).1 ∧ (lx X n).1 ≤ (lx X n).2.1 ∧ ((lx X n).2.2 ≠ 1 → (lx X n).2.1 ≤ xz X) ∧ ((lx X n).2.2 ≠ 0 → (lx X n).1 < xz X ∧ (lx X n).1 < (lx X n).2.1) ∧ (lx X n).1 ≤ xz X ∧ ((lx X n).2.2 = 0 ↔ ¬ (lx X n).1 < xz X) := by
  obtain ⟨b1, b2⟩ := bb_le (X := X) hn
  unfold lx
  by_cases q : bb X n < xz X
  · rw [if_pos q]
    by_cases ql : isL (xs X (bb X n)) = true
    · rw [if_pos ql]
      have e1 := nE_le X (p := bb X n) b2
      have e2 := nE_lt X q ql
      have k0 : (if nE X (bb X n) - bb X n ≤ 9 then kW (sg X (bb X n) (nE X (bb X n) - bb X n)) else 1) ≠ 0 := by
        split
        · have := kW_ge (sg X (bb X n) (nE X (bb X n) - bb X n)); omega
        · omega
      exact ⟨b1, by show bb X n ≤ nE X (bb X n); omega, fun _ => e1.2, fun _ => ⟨q, e2⟩, b2, ⟨fun z => absurd z k0, fun z => absurd q z⟩⟩
    · rw [if_neg ql]
      have hk := kS_lt (xs X (bb X n)) (xb X (bb X n + 1))
      refine ⟨b1, ?_, fun z => ?_, fun _ => ⟨q, ?_⟩, b2, ⟨fun z => absurd z hk.2.2, fun z => absurd q z⟩⟩
      · show bb X n ≤ _; dsimp only; split <;> omega
      · dsimp only at z ⊢
        split
        · rename_i h34
          have : xb X (bb X n + 1) = 61 := by
            by_cases y : xb X (bb X n + 1) = 61
            · exact y
            · exfalso
              unfold kS at h34
              rw [if_neg y, if_neg y] at h34
              split at h34
              · omega
              · split at h34
                · omega
                · split at h34 <;> omega
          unfold xb at this
          split at this
          · omega
          · omega
        · omega
      · dsimp only; split <;> omega
  · rw [if_neg q]
    exact ⟨b1, Nat.le_refl _, fun _ => b2, fun z => absurd rfl z, b2, ⟨fun _ => q, fun _ => rfl⟩⟩
/-- letters of a token -/
theorem tLt_lx (hw : XW X) (hn : n ≤ xz X) : wG (tLt X (lx X n)) ∧ (tLt X (lx X n)).length ≤ 9 ∧ (((lx X n).2.2 = 2 ∨ 200 ≤ (lx X n).2.2) → tLt X (lx X n) ≠ [] ∧ kW (tLt X (lx X n)) = (lx X n).2.2 ∧ (tLt X (lx X n)).length = (lx X n).2.1 - (lx X n).1) := by
  obtain ⟨b1, b2⟩ := bb_le (X := X) hn
  have nil : wG ([] : List Nat) := fun c hc => by cases hc
  by_cases q : bb X n < xz X
  · by_cases ql : isL (xs X (bb X n)) = true
    · have e1 := nE_le X (p := bb X n) b2
      have e2 := nE_lt X q ql
      by_cases q9 : nE X (bb X n) - bb X n ≤ 9
      · have el : lx X n = (bb X n, nE X (bb X n), kW (sg X (bb X n) (nE X (bb X n) - bb X n))) := by unfold lx; rw [if_pos q, if_pos ql, if_pos q9]
        have ek := kW_ge (sg X (bb X n) (nE X (bb X n) - bb X n))
        have et : tLt X (lx X n) = sg X (bb X n) (nE X (bb X n) - bb X n) := by rw [el]; unfold tLt; exact if_pos (by dsimp only; omega)
        have hl := sg_len X (nE X (bb X n) - bb X n) (bb X n)
        rw [et, el]
        refine ⟨fun c hc => ?_, by omega, fun _ => ⟨fun z => ?_, rfl, hl⟩⟩
        · exact sg_all (P := fun c => 1 ≤ c ∧ c < 128) _ _ (fun k h1 h2 => by have := hw.2 k (by omega); omega) c hc
        · rw [z] at hl; have : 0 = nE X (bb X n) - bb X n := hl; omega
      · have el : lx X n = (bb X n, nE X (bb X n), 1) := by unfold lx; rw [if_pos q, if_pos ql, if_neg q9]
        rw [el]
        exact ⟨nil, Nat.zero_le _, fun z => by dsimp only at z; omega⟩
    · have hk := kS_lt (xs X (bb X n)) (xb X (bb X n + 1))
      have ek : (lx X n).2.2 = kS (xs X (bb X n)) (xb X (bb X n + 1)) := by unfold lx; rw [if_pos q, if_neg ql]
      have et : tLt X (lx X n) = [] := by unfold tLt; exact if_neg (by rw [ek]; omega)
      rw [et]
      exact ⟨nil, Nat.zero_le _, fun z => by rw [ek] at z; omega⟩
  · have el : lx X n = (bb X n, bb X n, 0) := by unfold lx; rw [if_neg q]
    rw [el]
    exact ⟨nil, Nat.zero_le _, fun z => by dsimp only at z; omega⟩
/-- the reference's words, five bits a letter -/
def rWl : List Nat := [0, 6207378641537, 181044, 176626, 595573, 24621441, 19060910, 21271201, 21145265, 186861, 21280044, 209075, 4545, 591, 20974, 176422, 18724, 21043986000, 180528, 180500520, 0, 0, 0, 0, 0, 0, 0, 0, 0, 0, 0, 0, 0, 0, 0, 0, 0, 0, 0, 0, 132274, 5908055, 149078529, 188782147, 384086485, 375084, 181450930, 13054816434, 376300, 26825157, 272172211, 4225, 191345842, 379366, 181898402, 404167987, 5342804, 272246515, 5749, 0]
def rWd (k : Nat) : Nat := rWl.getD k 0
def mtc : List Nat → Nat → Bool
  | [], c => decide (c = 0)
  | x :: L, c => decide (c ≠ 0 ∧ x = 96 + c % 32) && mtc L (c / 32)
def de5 : Nat → Nat → List Nat
  | 0, _ => []
  | f + 1, c => if c = 0 then [] else (96 + c % 32) :: de5 f (c / 32)
theorem mt_de : ∀ (f c : Nat) (L : List Nat), c < 32 ^ f → mtc L c = true → L = de5 f c
  | 0, c, L, hc, h => by
    have c0 : c = 0 := by rw [Nat.pow_zero] at hc; omega
    subst c0
    cases L with
    | nil => rfl
    | cons x L =>
      unfold mtc at h
      rw [Bool.and_eq_true] at h
      exact absurd rfl (of_decide_eq_true h.1).1
  | f + 1, c, L, hc, h => by
    cases L with
    | nil =>
      have : c = 0 := of_decide_eq_true h
      unfold de5; rw [if_pos this]
    | cons x L =>
      unfold mtc at h
      rw [Bool.and_eq_true] at h
      obtain ⟨h1, h2⟩ := of_decide_eq_true h.1
      unfold de5
      rw [if_neg h1, ← h2, ← mt_de f (c / 32) L (by rw [Nat.pow_succ] at hc; omega) h.2]
/-- the last word that fits -/
def rf (W : Nat → Nat) (L : List Nat) : Nat → Nat → Nat → Nat
  | 0, _, f => f
  | d + 1, k, f => rf W L d (k + 1) (if W k ≠ 0 ∧ mtc L (W k) = true then k else f)
theorem rf_no {W : Nat → Nat} {L : List Nat} {f : Nat} : ∀ (d k : Nat), (∀ j, k ≤ j → j < k + d → W j ≠ 0 → mtc L (W j) = false) → rf W L d k f = f
  | 0, k, h => rfl
  | d + 1, k, h => by
    rw [rf, if_neg (fun z => by have := h k (Nat.le_refl _) (by omega) z.1; rw [this] at z; exact Bool.false_ne_true z.2)]
    exact rf_no d (k + 1) (fun j h1 h2 => h j (by omega) (by omega))
/-- the reference's number of a kind's word -/
def rwd (k : Nat) : Nat := if k < 200 then 0 else if k ≤ 210 then k - 199 else if k = 211 then 13 else if k = 212 then 12 else if k = 213 then 14 else if k ≤ 219 then 0 else if k ≤ 224 then k - 205 else k - 185
/-- the reference's sort of a kind -/
def rk (k : Nat) : Nat := if k = 0 then 0 else if k = 2 ∨ 200 ≤ k then 1 else if k = 123 then 2 else if k = 125 then 3 else if k = 58 then 4 else if k = 59 then 5 else if k = 44 then 6 else if k = 42 then 7 else if k = 3 then 8 else if k = 4 then 9 else if k = 40 then 10 else if k = 41 then 11 else 12
theorem rw_all : ∀ j, j < 44 → rf rWd (WW.getD j []) 59 1 0 = rwd (200 + j) := by decide +kernel
theorem rW_in : ∀ k, k < 60 → rWd k ≠ 0 → rWd k < 32 ^ 12 ∧ wI WW (de5 12 (rWd k)) < 44 := by decide +kernel
theorem wI_at {Ws : List (List Nat)} {L : List Nat} (h : wI Ws L < Ws.length) : Ws.getD (wI Ws L) [] = L := by
  have := tFst_at (fun j => Ws.getD j [] == L) Ws.length 0 (by unfold wI at h; omega)
  unfold wI
  simpa using this
theorem rw_kW (L : List Nat) : rf rWd L 59 1 0 = rwd (kW L) := by
  unfold kW
  by_cases q : wI WW L < 44
  · rw [if_pos q, ← rw_all _ q, wI_at (by rw [WW_len]; exact q)]
  · rw [if_neg q]
    refine rf_no 59 1 (fun j h1 h2 h3 => ?_)
    cases h : mtc L (rWd j) with
    | false => rfl
    | true =>
      obtain ⟨a1, a2⟩ := rW_in j (by omega) h3
      rw [← mt_de 12 _ L a1 h] at a2
      exact absurd a2 q
theorem wds_9 : ∀ j, j < 44 → (WW.getD j []).length ≤ 9 := by decide +kernel
theorem kW_long {L : List Nat} (h : 9 < L.length) : kW L = 2 := by
  unfold kW
  by_cases q : wI WW L < 44
  · have h1 := wI_at (Ws := WW) (L := L) (by rw [WW_len]; exact q)
    have h2 := wds_9 _ q
    rw [h1] at h2
    omega
  · rw [if_neg q]
/-- sides: u1 r1 t1 u2 r2 t2 -/
theorem side_w : ∀ j, j < 6 → WW.getD (14 + j) [] = [(if j % 3 = 0 then 117 else if j % 3 = 1 then 114 else 116), 49 + j / 3] := by decide +kernel
theorem side_k : ∀ a, a < 3 → ∀ d, d < 2 → kW [(if a = 0 then 117 else if a = 1 then 114 else 116), 49 + d] = 214 + (a + 3 * d) := by decide +kernel
end MM132
