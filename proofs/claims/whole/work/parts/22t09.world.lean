/-! THE WORLD: text, policy with state, results; how both keep it -/
section MM185
variable {X K : mX} {w : Bool} {i i' : Nat → Nat → Int32} {l l' : Nat → Nat → Int64} {m : Nat} {e : Bool × Nat × Nat} {n k j b : Nat} {x x1 : Int32} {π : mP} {ψ : mS}
def zT : mT := (fun _ => 0, fun _ => 0, fun _ => 0, fun _ _ => 0, fun _ _ => 0, fun _ _ => 0)
def zT1 : mT := (fun n => if n = 0 then 2 else 0, fun _ => 0, fun _ => 0, fun _ _ => 0, fun _ _ => 0, fun _ _ => 0)
def zH : mH := (fun _ => 0, fun _ => 0, fun _ => (false, 0, 0, 0, 0), fun _ => 0, fun _ => 0, fun _ _ => 0)
def zK : mK := ([], [], [], 0, 0, 0)
def zS : mS := (zT1, zT1, [], hNew zH, zK)
def kE (κ : mK) : mK := (kI κ, [], kR κ, kn κ, kq κ, kh κ)
def yL (ψ : mS) : mS := (yT ψ, yT ψ, [], yH ψ, kE (yK ψ))
/-- nothing is loaded yet -/
def NCz (i : Nat → Nat → Int32) : Prop := TC true i zT ∧ JC i [] ∧ HC i zH ∧ GC i zK ∧ i 30 1 = 0
def NR (i : Nat → Nat → Int32) : Prop := TR i zT ∧ JR i [] ∧ GR i zK ∧ i 83 5 = 0
abbrev mOl : Type := Option (mP × mX × mS)
def OC (w : Bool) (i : Nat → Nat → Int32) : mOl → Prop
  | none => NCz i
  | some o => CS w o.1 i o.2.2
def OR (i : Nat → Nat → Int32) : mOl → Prop
  | none => NR i
  | some o => RS o.1 i o.2.2 ∧ XKp o.2.1 i
def OV (b : Nat) : mOl → Prop
  | none => True
  | some o => IV o.1 b o.2.2 ∧ XW o.2.1 ∧ sPol o.2.1 = .inr o.1 ∧ pVal o.1 0 = true
/-- what the class may touch; what the reference may touch -/
def cF (k _j : Nat) : Prop := k < 83
def rF (k _j : Nat) : Prop := 83 ≤ k ∧ k ≤ 145
/-- answers: a number, nothing, or what is thrown -/
abbrev mA : Type := Option Int32 ⊕ Nat
def aAn : mA → Option Value ⊕ Nat
  | .inl (some x) => .inl (some (.int x))
  | .inl none => .inl none
  | .inr c => .inr c
/-- the spec of load -/
def wLd (X : mX) (o : mOl) : mA × mOl := match sPol X with
  | .inl p => (.inl (some (nI p)), o)
  | .inr π => match o with
    | none => if pVal π 0 = true then (.inl (some (-1)), some (π, X, zS)) else (.inr 2, none)
    | some q => if (pVal π 0 && aVd π (yT q.2.2) (yH q.2.2)) = true then (.inl (some (-1)), some (π, X, yL q.2.2)) else (.inr 2, some q)
theorem tCnt_f {p : Nat → Bool} (h : ∀ j, p j = false) : ∀ d k, tCnt p d k = 0
  | 0, _ => rfl
  | d + 1, k => by rw [tCnt, h k, if_neg Bool.false_ne_true, tCnt_f h d (k + 1)]
theorem zH_ct {o : Nat} : hCt zH o = 0 := tCnt_f (fun k => by
  show ((0 : Nat) == o + 1) = false
  simp) 48 0
theorem zTw : TW zT := fun n _ => ⟨Nat.zero_le _, Nat.zero_le _, fun z => absurd (show (0 : Nat) = 2 from z) (by decide)⟩
theorem aVd_z : aVd π zT zH = true := by
  unfold aVd
  rw [Bool.and_eq_true, Bool.and_eq_true, Bool.and_eq_true]
  refine ⟨(tAl_iff _ _ _).mpr (fun j _ _ => ?_), (tAl_iff _ _ _).mpr (fun j _ _ => ?_), (tAl_iff _ _ _).mpr (fun j _ _ => ?_), (tAl_iff _ _ _).mpr (fun j _ _ => ?_)⟩
  · rfl
  · rfl
  · unfold vOp; rw [zH_ct]; rfl
  · rfl
theorem GC.em {κ : mK} (h : GC i κ) : GC (mm_ww (mm_ww i 30 1 1) 30 8 0) (kE κ) := by
  obtain ⟨h1, h2, h3, h4, h5⟩ := h
  have far : ∀ j, j ≠ 1 → j ≠ 8 → mm_ww (mm_ww i 30 1 1) 30 8 0 30 j = i 30 j := fun j a b => by rw [mw_j b, mw_j a]
  have far2 : ∀ k, k ≠ 30 → mm_ww (mm_ww i 30 1 1) 30 8 0 k = i k := fun k a => by rw [mw_k a, mw_k a]
  refine ⟨⟨(far 3 (by decide) (by decide)).trans h1.1, fun k hk => by rw [far2 _ (by decide)]; exact h1.2 k hk⟩, ⟨mw_s, fun k hk => absurd hk (by simp [kE, kC])⟩, ⟨(far 10 (by decide) (by decide)).trans h3.1, fun k hk => by rw [far2 _ (by decide)]; exact h3.2 k hk⟩, (far 11 (by decide) (by decide)).trans h4, (far 12 (by decide) (by decide)).trans h5⟩
theorem GR.em {κ : mK} (h : GR i κ) : GR (mm_ww (mm_ww i 83 5 1) 83 86 0) (kE κ) := by
  obtain ⟨h1, h2, h3, h4, h5⟩ := h
  have far : ∀ j, j ≠ 5 → j ≠ 86 → mm_ww (mm_ww i 83 5 1) 83 86 0 83 j = i 83 j := fun j a b => by rw [mw_j b, mw_j a]
  have far2 : ∀ k, k ≠ 83 → mm_ww (mm_ww i 83 5 1) 83 86 0 k = i k := fun k a => by rw [mw_k a, mw_k a]
  refine ⟨⟨(far 79 (by decide) (by decide)).trans h1.1, fun k hk => by rw [far2 _ (by decide)]; exact h1.2 k hk⟩, ⟨mw_s, fun k hk => absurd hk (by simp [kE, kC])⟩, ⟨(far 91 (by decide) (by decide)).trans h3.1, fun k hk => ?_⟩, (far 84 (by decide) (by decide)).trans h4, (far 85 (by decide) (by decide)).trans h5⟩
  rw [far2 141 (by decide), far2 142 (by decide), far2 143 (by decide), far2 144 (by decide), far2 145 (by decide)]; exact h3.2 k hk
theorem KV.em {κ : mK} (h : KV b κ) : KV b (kE κ) := ⟨⟨h.1.1, Nat.zero_le _, h.1.2.2.1, h.1.2.2.2.1, h.1.2.2.2.2⟩, h.2.1, h.2.2⟩
end MM185
