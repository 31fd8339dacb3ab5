/-! ACTS: what a run of an act keeps; questions, demands, walks, places -/
section MM101
/-- what an act may write -/
def fC (k j : Nat) : Prop := (k = 30 ∧ j ≠ 1) ∨ (50 ≤ k ∧ k ≤ 80)
def fR (k j : Nat) : Prop := (k = 83 ∧ (j = 57 ∨ j = 79 ∨ (81 ≤ j ∧ j ≤ 86) ∨ j = 91)) ∨ k = 111 ∨ (113 ≤ k ∧ k ≤ 129) ∨ (136 ≤ k ∧ k ≤ 145)
def CD (w : Bool) (π : mP) (i0 : Nat → Nat → Int32) (b : Nat) (i : Nat → Nat → Int32) (ψ : mS) (x y : Int32) : Prop := CS w π i ψ ∧ IV π b ψ ∧ mG fC i0 i ∧ i 80 4 = x ∧ i 80 5 = y
def RD (π : mP) (i0 : Nat → Nat → Int32) (b : Nat) (i : Nat → Nat → Int32) (ψ : mS) (s a x : Int32) : Prop := RS π i ψ ∧ IV π b ψ ∧ mG fR i0 i ∧ i 83 81 = s ∧ i 83 82 = a ∧ i 83 83 = x
/-- a run of an act answers r -/
def CA (m : Nat) (w : Bool) (l : Nat → Nat → Int64) (e : Bool × Nat × Nat) (π : mP) (i0 : Nat → Nat → Int32) (B : Nat) (X : Option mm_R) (r : Int32 × mS) : Prop := ∃ i' x y, X = some (.inl (some (.int r.1)), mm_Z m w i' l e) ∧ CD w π i0 B i' r.2 x y
def RA (m : Nat) (w : Bool) (l : Nat → Nat → Int64) (e : Bool × Nat × Nat) (π : mP) (i0 : Nat → Nat → Int32) (B : Nat) (X : Option mm_R) (r : Int32 × mS) : Prop := ∃ i' s a x, X = some (.inl (some (.int r.1)), mm_Z m w i' l e) ∧ RD π i0 B i' r.2 s a x
def yB (π : mP) (ψ : mS) (u v c : Nat) (x : Int32) : Bool := (kGr π (yK ψ) u v c x).1
def yA (π : mP) (ψ : mS) (u v c : Nat) (x : Int32) : mS := yk ψ (kGr π (yK ψ) u v c x).2
def aCk (π : mP) (u v c : Nat) (x : Int32) (ψ : mS) (K : mS → Int32 × mS) : Int32 × mS := if yB π ψ u v c x = true then K (yA π ψ u v c x) else (-2, yA π ψ u v c x)
def aMu (g : Bool) (x : Int32) (ψ : mS) (K : Int32 × mS) : Int32 × mS := if g = true then K else (x, ψ)
def wW (π : mP) (p : Nat) (L : List Nat) (ψ : mS) : Int32 × Nat × mK := wK π (yT ψ) (cP (yH ψ) p) L 0 (yK ψ)
def aWa (π : mP) (p : Nat) (L : List Nat) (ψ : mS) (K : Nat → mS → Int32 × mS) : Int32 × mS := if (wW π p L ψ).1 = 0 then K (wW π p L ψ).2.1 (yk ψ (wW π p L ψ).2.2) else ((wW π p L ψ).1, yk ψ (wW π p L ψ).2.2)
def aPl (π : mP) (p : Nat) (L : List Nat) (ψ : mS) (K : Nat → mS → Int32 × mS) : Int32 × mS := if L = [] then (-6, ψ) else aWa π p L.dropLast ψ (fun d ψ1 => aMu (decide (tk (yT ψ1) d = 2)) (-4) ψ1 (aCk π (cP (yH ψ1) p) (cN (yT ψ1) d) 1 2 ψ1 (fun ψ2 => K d ψ2)))
def pz (L : List Nat) : Nat := L.getD (L.length - 1) 0
/-- a walk that is there -/
def wV (τ : mT) : List Nat → Nat → Nat → Prop
  | [], a, n => a = n
  | x :: L, a, n => tk τ a = 2 ∧ tE τ a x < ts τ a ∧ wV τ L (td τ a (tE τ a x)) n
theorem wK_v {π : mP} {τ : mT} {c : Nat} : ∀ (L : List Nat) (a : Nat) (κ : mK), (wK π τ c L a κ).1 = 0 → wV τ L a (wK π τ c L a κ).2.1
  | [], a, κ, h => rfl
  | x :: L, a, κ, h => by
    by_cases q1 : tk τ a = 2
    · cases q2 : (kGr π κ c (cN τ a) 1 2).1 with
      | false => rw [wK_2 q1 q2] at h; exact absurd h (show ¬ (-2 : Int32) = 0 by decide)
      | true =>
        by_cases q3 : tE τ a x < ts τ a
        · rw [wK_4 q1 q2 q3] at h ⊢; exact ⟨q1, q3, wK_v L _ _ h⟩
        · rw [wK_3 q1 q2 q3] at h; exact absurd h (show ¬ (-3 : Int32) = 0 by decide)
    · rw [wK_1 q1] at h; exact absurd h (show ¬ (-4 : Int32) = 0 by decide)
theorem sum_ge {f : Nat → Nat} : ∀ (D k j : Nat), k ≤ j → j < k + D → f j ≤ tSum f D k
  | 0, k, j, h1, h2 => by omega
  | D + 1, k, j, h1, h2 => by
    rw [tSum]
    by_cases q : j = k
    · subst q; omega
    · have := sum_ge (f := f) D (k + 1) j (by omega) (by omega); omega
theorem L_en {τ : mT} {d k : Nat} (hd : d < 32) (h2 : tk τ d = 2) (hk : k < ts τ d) : tL τ (td τ d k) ≠ 0 := by
  have h1 := sum_ge (f := tLd τ (td τ d k)) 32 0 d (Nat.zero_le _) (by omega)
  have h3 : tLd τ (td τ d k) d ≠ 0 := by
    unfold tLd
    rw [if_pos h2]
    exact cnt_pos _ 0 k (Nat.zero_le _) (by omega) (by simp)
  have h4 : tL τ (td τ d k) = tSum (tLd τ (td τ d k)) 32 0 := rfl
  omega
theorem wV_ok {τ : mT} (hI : TI τ) : ∀ (L : List Nat) (a n : Nat), a < 32 → tk τ a ≠ 0 → (a = 0 ∨ tL τ a ≠ 0) → wV τ L a n → n < 32 ∧ tk τ n ≠ 0 ∧ (n = 0 ∨ tL τ n ≠ 0)
  | [], a, n, ha, ht, hl, h => by cases h; exact ⟨ha, ht, hl⟩
  | x :: L, a, n, ha, ht, hl, h => wV_ok hI L _ n (((hI.1 a ha).2.2 h.1).2 _ h.2.1).2.2.2 (hI.2.2.2.2.1 a ha h.1 _ h.2.1) (Or.inr (L_en ha h.1 h.2.1)) h.2.2
variable {w : Bool} {l : Nat → Nat → Int64} {e : Bool × Nat × Nat} {π : mP} {m : Nat} {ψ : mS} {b B p n : Nat} {i0 i i' : Nat → Nat → Int32} {s a x y : Int32} {r : Int32 × mS}
theorem CD.cs (h : CD w π i0 b i ψ x y) : CS w π i ψ := h.1
theorem CD.iv (h : CD w π i0 b i ψ x y) : IV π b ψ := h.2.1
theorem CD.up (h : CD w π i0 b i ψ x y) {c : Nat} (hc : b ≤ c) : CD w π i0 c i ψ x y := ⟨h.1, h.2.1.up hc, h.2.2⟩
theorem RD.rs (h : RD π i0 b i ψ s a x) : RS π i ψ := h.1
theorem RD.iv (h : RD π i0 b i ψ s a x) : IV π b ψ := h.2.1
theorem RD.hs (h : RD π i0 b i ψ s a x) : i 83 81 = s := h.2.2.2.1
theorem RD.ha (h : RD π i0 b i ψ s a x) : i 83 82 = a := h.2.2.2.2.1
theorem RD.hx (h : RD π i0 b i ψ s a x) : i 83 83 = x := h.2.2.2.2.2
theorem RD.up (h : RD π i0 b i ψ s a x) {c : Nat} (hc : b ≤ c) : RD π i0 c i ψ s a x := ⟨h.1, h.2.1.up hc, h.2.2⟩
theorem gpC_f {k j : Nat} (h : gpC k j) : fC k j := by unfold gpC at h; unfold fC; omega
theorem rV_f {k j : Nat} (h : rV k j) : fC k j := by rcases h with h | h; exact gpC_f h; unfold fC; omega
theorem gpR_f {k j : Nat} (h : gpR k j) : fR k j := by unfold gpR at h; unfold fR; omega
theorem rW_f {k j : Nat} (h : rW k j) : fR k j := by rcases h with h | h; exact gpR_f h; unfold fR; omega
/-- a run that ends -/
theorem CA.ret (h : CD w π i0 b i r.2 x y) (hB : b ≤ B) : CA m w l e π i0 B (some (.inl (some (.int r.1)), mm_Z m w i l e)) r := ⟨i, x, y, rfl, h.up hB⟩
theorem RA.ret (h : RD π i0 b i r.2 s a x) (hB : b ≤ B) : RA m w l e π i0 B (some (.inl (some (.int r.1)), mm_Z m w i l e)) r := ⟨i, s, a, x, rfl, h.up hB⟩
theorem RA.dead (h : RD π i0 b i ψ s a x) (hB : b ≤ B) {X : Option mm_R} (hX : X = some (.inl (some (.int s)), mm_Z m w i l e)) : RA m w l e π i0 B X (s, ψ) := by rw [hX]; exact RA.ret (r := (s, ψ)) h hB
theorem mb_as {X : Option mm_R} {G F : Option Value → mm_M → Option mm_R} : mm_bi true (mm_bi true X G) F = mm_bi true X (fun v μ => mm_bi true (G v μ) F) := by
  rcases X with _ | ⟨v | E, μ⟩ <;> rfl
/-- a question, in the class -/
theorem CA.gr (h : CD w π i0 b i ψ x y) (hb : b < 2 ^ 29) {u v c : Nat} {pm : Int32} (hu : xOk u) (hv : xOk v) (hc : c < 2 ^ 31) {F : Option Value → mm_M → Option mm_R} {K : mS → Int32 × mS} (hB : b + 1 ≤ B) (h1 : ∀ i1 κ, CD w π i0 (b + 1) i1 (yk ψ κ) x y → CA m w l e π i0 B (mm_bi true (some (.inl (some (.int (bI true))), mm_Z m w i1 l e)) F) (K (yk ψ κ))) (h2 : ∀ i1, mm_bi true (some (.inl (some (.int (bI false))), mm_Z m w i1 l e)) F = some (.inl (some (.int (-2))), mm_Z m w i1 l e)) : CA m w l e π i0 B (mm_bi true (mm_V 35 0 [some (.ref 30), some (.int (nI u)), some (.int (nI v)), some (.int (nI c)), some (.int pm), none, none, none] [] (mm_Z m w i l e)) F) (aCk π u v c pm ψ K) := by
  obtain ⟨i1, e1, e2, e3⟩ := cs_ck (m := m) (l := l) (e := e) (cl := c) (pm := pm) h.1 h.2.1 hu hv hc
  have hI1 : IV π (b + 1) (yA π ψ u v c pm) := iv_ck h.2.1 hb hu hv
  have hC : CD w π i0 (b + 1) i1 (yA π ψ u v c pm) x y := ⟨e2, hI1, h.2.2.1.tr (e3.mo (fun _ _ z => gpC_f z)), by rw [e3 80 4 (by unfold gpC; omega)]; exact h.2.2.2.1, by rw [e3 80 5 (by unfold gpC; omega)]; exact h.2.2.2.2⟩
  rw [e1]
  unfold aCk
  have e4 : (kGr π (yK ψ) u v c pm).1 = yB π ψ u v c pm := rfl
  rw [e4]
  cases q : yB π ψ u v c pm with
  | true => rw [if_pos rfl]; exact h1 i1 _ hC
  | false => rw [if_neg (by decide), h2 i1]; exact CA.ret (r := (-2, yA π ψ u v c pm)) hC hB
theorem CA.may (h : CD w π i0 b i ψ x y) (hb : b < 2 ^ 29) (hp : p < 8) (hP0 : hP (yH ψ) p ≠ 0) (hn : n < 32) (ht : tk (yT ψ) n ≠ 0) {pm : Int32} {c : Nat} (hc : tk (yT ψ) n - 1 = c) {F : Option Value → mm_M → Option mm_R} {K : mS → Int32 × mS} (hB : b + 1 ≤ B) (h1 : ∀ i1 κ, CD w π i0 (b + 1) i1 (yk ψ κ) x y → CA m w l e π i0 B (mm_bi true (some (.inl (some (.int (bI true))), mm_Z m w i1 l e)) F) (K (yk ψ κ))) (h2 : ∀ i1, mm_bi true (some (.inl (some (.int (bI false))), mm_Z m w i1 l e)) F = some (.inl (some (.int (-2))), mm_Z m w i1 l e)) : CA m w l e π i0 B (mm_bi true (mm_V 90 0 [some (.ref 80), some (.int (nI p)), some (.int (nI n)), some (.int pm)] [] (mm_Z m w i l e)) F) (aCk π (cP (yH ψ) p) (cN (yT ψ) n) c pm ψ K) := by
  rw [← hc]
  obtain ⟨i1, e1, e2, e3⟩ := cs_may (m := m) (l := l) (e := e) (pm := pm) h.1 h.2.1 hp hP0 hn ht
  have hI1 : IV π (b + 1) (yA π ψ (cP (yH ψ) p) (cN (yT ψ) n) (tk (yT ψ) n - 1) pm) := iv_ck h.2.1 hb (h.2.1.cp hp hP0) (h.2.1.cn hn ht).1
  have hC : CD w π i0 (b + 1) i1 (yA π ψ (cP (yH ψ) p) (cN (yT ψ) n) (tk (yT ψ) n - 1) pm) x y := ⟨e2, hI1, h.2.2.1.tr (e3.mo (fun _ _ z => gpC_f z)), by rw [e3 80 4 (by unfold gpC; omega)]; exact h.2.2.2.1, by rw [e3 80 5 (by unfold gpC; omega)]; exact h.2.2.2.2⟩
  rw [e1]
  unfold aCk
  have e4 : (kGr π (yK ψ) (cP (yH ψ) p) (cN (yT ψ) n) (tk (yT ψ) n - 1) pm).1 = yB π ψ (cP (yH ψ) p) (cN (yT ψ) n) (tk (yT ψ) n - 1) pm := rfl
  rw [e4]
  cases q : yB π ψ (cP (yH ψ) p) (cN (yT ψ) n) (tk (yT ψ) n - 1) pm with
  | true => rw [if_pos rfl]; exact h1 i1 _ hC
  | false => rw [if_neg (by decide), h2 i1]; exact CA.ret (r := (-2, yA π ψ (cP (yH ψ) p) (cN (yT ψ) n) (tk (yT ψ) n - 1) pm)) hC hB
/-- a question, in the reference -/
theorem RA.ck (h : RD π i0 b i ψ 0 a x) (hb : b < 2 ^ 29) {u v c : Nat} {pm x4 : Int32} (hpm : (1 <<< (x4 &&& 31)) = pm) (hu : xOk u) (hv : xOk v) (hc : c < 2 ^ 31) {F : Option Value → mm_M → Option mm_R} {K : mS → Int32 × mS} (h1 : ∀ i1 κ, RD π i0 (b + 1) i1 (yk ψ κ) 0 a x → RA m w l e π i0 B (mm_bi true (some (.inl none, mm_Z m w i1 l e)) F) (K (yk ψ κ))) (h2 : ∀ i1 κ, RD π i0 (b + 1) i1 (yk ψ κ) (-2) a x → RA m w l e π i0 B (mm_bi true (some (.inl none, mm_Z m w i1 l e)) F) (-2, yk ψ κ)) : RA m w l e π i0 B (mm_bi true (mm_V 265 0 [some (.ref 83), some (.int (nI u)), some (.int (nI v)), some (.int (nI c)), some (.int x4)] [] (mm_Z m w i l e)) F) (aCk π u v c pm ψ K) := by
  obtain ⟨i1, e1, e2, e3, e4, e5, e6⟩ := rs_check (m := m) (w := w) (l := l) (e := e) (cl := c) (x4 := x4) h.1 h.2.1 h.hs hu hv hc
  rw [hpm] at e2 e3
  have hI1 : IV π (b + 1) (yA π ψ u v c pm) := iv_ck h.2.1 hb hu hv
  have hC : ∀ s', i1 83 81 = s' → RD π i0 (b + 1) i1 (yA π ψ u v c pm) s' a x := fun s' hs => ⟨e2, hI1, h.2.2.1.tr (e6.mo (fun _ _ z => rW_f z)), hs, by rw [e4]; exact h.ha, by rw [e5]; exact h.hx⟩
  rw [e1]
  unfold aCk
  have e4 : (kGr π (yK ψ) u v c pm).1 = yB π ψ u v c pm := rfl
  rw [e4] at e3
  cases q : yB π ψ u v c pm with
  | true => rw [q, if_pos rfl] at e3; rw [if_pos rfl]; exact h1 i1 _ (hC _ e3)
  | false => rw [q, if_neg (by decide)] at e3; rw [if_neg (by decide)]; exact h2 i1 _ (hC _ e3)
theorem RD.st (h : RD π i0 b i ψ s a x) {s' : Int32} : RD π i0 b (mm_ww i 83 81 s') ψ s' a x := ⟨h.1.rg (by omega), h.2.1, h.2.2.1.tr (mG.ww (by unfold fR; omega)), mw_s, by rw [mw_j (by omega)]; exact h.ha, by rw [mw_j (by omega)]; exact h.hx⟩
theorem RA.mu (h : RD π i0 b i ψ 0 a x) {g : Bool} {x2 : Int32} {F : Option Value → mm_M → Option mm_R} {K : Int32 × mS} (h1 : ∀ i1, RD π i0 b i1 ψ 0 a x → g = true → RA m w l e π i0 B (mm_bi true (some (.inl none, mm_Z m w i1 l e)) F) K) (h2 : ∀ i1, RD π i0 b i1 ψ x2 a x → g = false → RA m w l e π i0 B (mm_bi true (some (.inl none, mm_Z m w i1 l e)) F) (x2, ψ)) : RA m w l e π i0 B (mm_bi true (mm_V 266 0 [some (.ref 83), some (.int (bI g)), some (.int x2)] [] (mm_Z m w i l e)) F) (aMu g x2 ψ K) := by
  rw [rs_must h.hs]
  unfold aMu
  cases g with
  | true => rw [if_pos rfl, if_pos rfl]; exact h1 _ h.st rfl
  | false => rw [if_neg (by decide), if_neg (by decide)]; exact h2 _ h.st rfl
end MM101
