/-! THE DRAFT of a policy: what a text says up to a token; what each statement does to it -/
section MM135
/-- names: letters, sort (0 type, 1 attribute, 2 role, 3 user), number -/
abbrev mN : Type := List (List Nat × Nat × Nat)
/-- names; the policy, what is named as it is named (a type, 100 and an attribute, 400 all, -1 itself); types of attributes; places of rules, of moves; codes of the class, of the reference -/
abbrev mQ : Type := mN × mP × (Nat → Nat) × (Nat → Nat) × (Nat → Nat) × Nat × Nat
def dN (δ : mQ) : mN := δ.1
def dP (δ : mQ) : mP := δ.2.1
def dA (δ : mQ) : Nat → Nat := δ.2.2.1
def dR (δ : mQ) : Nat → Nat := δ.2.2.2.1
def dM (δ : mQ) : Nat → Nat := δ.2.2.2.2.1
def dC (δ : mQ) : Nat := δ.2.2.2.2.2.1
def dE (δ : mQ) : Nat := δ.2.2.2.2.2.2
abbrev z3 : List Nat × Nat × Nat := ([], 0, 0)
def dG (δ : mQ) (j : Nat) : List Nat × Nat × Nat := (dN δ).getD j z3
def dL (δ : mQ) : Nat := (dN δ).length
/-- which name has these letters -/
def dI (δ : mQ) (L : List Nat) : Nat := tFst (fun j => (dG δ j).1 == L) (dL δ) 0
theorem dI_le (δ : mQ) (L : List Nat) : dI δ L ≤ dL δ := by have := (tFst_le (fun j => (dG δ j).1 == L) (dL δ) 0).2; unfold dI; omega
theorem dI_at {δ : mQ} {L : List Nat} (h : dI δ L < dL δ) : (dG δ (dI δ L)).1 = L := by
  have := tFst_at (fun j => (dG δ j).1 == L) (dL δ) 0 (by unfold dI at h; omega)
  unfold dI
  simpa using this
theorem dI_no {δ : mQ} {L : List Nat} {j : Nat} (h : j < dI δ L) : (dG δ j).1 ≠ L := by
  have := tFst_no (fun j => (dG δ j).1 == L) (dL δ) 0 j (Nat.zero_le _) h
  simpa using this
/-- another number of a sort -/
def pSn (ρ : mP) (s n : Nat) : mP := (va_up (pN ρ) s n, pU ρ, pR ρ, pL ρ, pM ρ, pT ρ)
def pSr (ρ : mP) (k : Nat) (x : Int32) : mP := (pN ρ, pU ρ, va_up (pR ρ) k x, pL ρ, pM ρ, pT ρ)
def pSu (ρ : mP) (k : Nat) (x : Int32) : mP := (pN ρ, va_up (pU ρ) k x, pR ρ, pL ρ, pM ρ, pT ρ)
def pSl (ρ : mP) (k : Nat) (x : Nat × Int32 × Int32 × Nat × Int32) : mP := (pN ρ, pU ρ, pR ρ, va_up (pL ρ) k x, pM ρ, pT ρ)
def pSm (ρ : mP) (k : Nat) (x : Nat × Nat × Nat × Nat) : mP := (pN ρ, pU ρ, pR ρ, pL ρ, va_up (pM ρ) k x, pT ρ)
def pSt (ρ : mP) (k : Nat) (x : Nat × Int32 × List mO) : mP := (pN ρ, pU ρ, pR ρ, pL ρ, pM ρ, va_up (pT ρ) k x)
def dSn (δ : mQ) (ν : mN) : mQ := (ν, dP δ, dA δ, dR δ, dM δ, dC δ, dE δ)
def dSp (δ : mQ) (ρ : mP) : mQ := (dN δ, ρ, dA δ, dR δ, dM δ, dC δ, dE δ)
def dSa (δ : mQ) (a b : Nat) : mQ := (dN δ, dP δ, va_up (dA δ) a b, dR δ, dM δ, dC δ, dE δ)
/-- a name more -/
def dNm (δ : mQ) (L : List Nat) (s : Nat) : mQ := dSn δ (dN δ ++ [(L, s, pN (dP δ) s)])
/-- a name more, and one more of its sort -/
def dAd (δ : mQ) (L : List Nat) (s : Nat) : mQ := dSp (dNm δ L s) (pSn (dP δ) s (pN (dP δ) s + 1))
def nx (X : mX) (t : m3) : m3 := lx X t.2.1
abbrev mE (α : Type) : Type := Nat ⊕ α
def eB {α β : Type} (x : mE α) (f : α → mE β) : mE β := match x with
  | .inl p => .inl p
  | .inr a => f a
/-- a name of sort s is declared -/
def sDec (X : mX) (s : Nat) (t : m3) (δ : mQ) : mE (m3 × mQ) := if t.2.2 = 2 ∧ dI δ (tLt X t) = dL δ then .inr (nx X t, dAd δ (tLt X t) s) else .inl t.1
/-- a name of sort s: its number -/
def sNum (X : mX) (s : Nat) (t : m3) (δ : mQ) : mE (m3 × Nat) := if dI δ (tLt X t) < dL δ ∧ (dG δ (dI δ (tLt X t))).2.1 = s then .inr (nx X t, (dG δ (dI δ (tLt X t))).2.2) else .inl t.1
/-- attributes of type y -/
def sAts (X : mX) (y : Nat) : Nat → m3 → mQ → mE (m3 × mQ)
  | 0, t, δ => .inr (t, δ)
  | d + 1, t, δ => if t.2.2 = 44 then eB (sNum X 1 (nx X t) δ) (fun r => sAts X y d r.1 (dSa δ r.2 (dA δ r.2 ||| 2 ^ y))) else .inr (t, δ)
/-- names of sort s up to } -/
def sLst (X : mX) (s : Nat) (δ : mQ) : Nat → m3 → Nat → mE (m3 × Nat)
  | 0, t, _ => .inl t.1
  | d + 1, t, b => if b ≠ 0 ∧ t.2.2 = 125 then .inr (nx X t, b) else eB (sNum X s t δ) (fun r => sLst X s δ d r.1 (b ||| 2 ^ r.2))
def sBrc (X : mX) (s : Nat) (t : m3) (δ : mQ) : mE (m3 × Nat) := if t.2.2 = 123 then sLst X s δ 1200 (nx X t) 0 else .inl t.1
/-- a type or an attribute, as it is named -/
def dV (δ : mQ) (j : Nat) : Nat := 100 * (dG δ j).2.1 + (dG δ j).2.2
def sSid (X : mX) (self : Bool) (t : m3) (δ : mQ) : mE (m3 × Int32) := if t.2.2 = 42 then .inr (nx X t, 400) else if self = true ∧ t.2.2 = 210 then .inr (nx X t, -1) else if dI δ (tLt X t) < dL δ ∧ (dG δ (dI δ (tLt X t))).2.1 < 2 then .inr (nx X t, nI (dV δ (dI δ (tLt X t)))) else .inl t.1
def sCol (X : mX) (t : m3) : mE m3 := if t.2.2 = 58 then .inr (nx X t) else .inl t.1
def sCls (X : mX) (t : m3) : mE (m3 × Nat) := if 220 ≤ t.2.2 ∧ t.2.2 ≤ 224 then .inr (nx X t, t.2.2 - 220) else .inl t.1
/-- permissions of a class: their words -/
def pWt (c : Nat) : List Nat := if c = 0 then (mm_sx mm_stb 1000100).getD [] else if c = 1 then (mm_sx mm_stb 1000101).getD [] else if c = 2 then (mm_sx mm_stb 1000102).getD [] else if c = 3 then (mm_sx mm_stb 1000103).getD [] else (mm_sx mm_stb 1000104).getD []
def pWs (c : Nat) : List (List Nat) := wds (pWt c) []
def sPer (X : mX) (c : Nat) (t : m3) : mE (m3 × Nat) := if wI (pWs c) (tLt X t) < (pWs c).length then .inr (nx X t, wI (pWs c) (tLt X t)) else .inl t.1
def sPes (X : mX) (c : Nat) : Nat → m3 → Nat → mE (m3 × Nat)
  | 0, t, _ => .inl t.1
  | d + 1, t, b => if b ≠ 0 ∧ t.2.2 = 125 then .inr (nx X t, b) else eB (sPer X c t) (fun r => sPes X c d r.1 (b ||| 2 ^ r.2))
def sPrm (X : mX) (c : Nat) (t : m3) : mE (m3 × Nat) := if t.2.2 = 42 then .inr (nx X t, 2 ^ (pWs c).length - 1) else if t.2.2 = 123 then sPes X c 1200 (nx X t) 0 else eB (sPer X c t) (fun r => .inr (r.1, 2 ^ r.2))
def sEnd (X : mX) (t : m3) : mE m3 := if t.2.2 = 59 then .inr (nx X t) else .inl t.1
/-- statements, behind their first word t -/
def sAtt (X : mX) (t : m3) (δ : mQ) : mE (m3 × mQ) := if pN (dP δ) 1 = 8 then .inl t.1 else sDec X 1 (nx X t) δ
def sTyp (X : mX) (t : m3) (δ : mQ) : mE (m3 × mQ) := if pN (dP δ) 0 = 24 then .inl t.1 else eB (sDec X 0 (nx X t) δ) (fun r => sAts X (pN (dP δ) 0) 1200 r.1 r.2)
def sRol (X : mX) (t : m3) (δ : mQ) : mE (m3 × mQ) := if pN (dP δ) 2 = 6 then .inl t.1 else eB (sDec X 2 (nx X t) δ) (fun r => eB (sBrc X 0 r.1 r.2) (fun q => .inr (q.1, dSp r.2 (pSr (dP r.2) (pN (dP δ) 2) (nI q.2)))))
def sUse (X : mX) (t : m3) (δ : mQ) : mE (m3 × mQ) := if pN (dP δ) 3 = 4 then .inl t.1 else eB (sDec X 3 (nx X t) δ) (fun r => eB (sBrc X 2 r.1 r.2) (fun q => .inr (q.1, dSp r.2 (pSu (dP r.2) (pN (dP δ) 3) (nI q.2)))))
def dRu (δ : mQ) (a : Nat) (x : Nat × Int32 × Int32 × Nat × Int32) : mQ := (dN δ, pSn (pSl (dP δ) (pN (dP δ) 4) x) 4 (pN (dP δ) 4 + 1), dA δ, va_up (dR δ) (pN (dP δ) 4) a, dM δ, dC δ, dE δ)
def sRul (X : mX) (t : m3) (δ : mQ) : mE (m3 × mQ) := if pN (dP δ) 4 = 60 then .inl t.1 else eB (sSid X false (nx X t) δ) (fun r1 => eB (sSid X true r1.1 δ) (fun r2 => eB (sCol X r2.1) (fun r3 => eB (sCls X r3) (fun r4 => eB (sPrm X r4.2 r4.1) (fun r5 => .inr (r5.1, dRu δ t.1 (t.2.2 - 204, r1.2, r2.2, r4.2, nI r5.2)))))))
def dMo (δ : mQ) (a : Nat) (x : Nat × Nat × Nat × Nat) : mQ := (dN δ, pSn (pSm (dP δ) (pN (dP δ) 5) x) 5 (pN (dP δ) 5 + 1), dA δ, dR δ, va_up (dM δ) (pN (dP δ) 5) a, dC δ, dE δ)
def sMov (X : mX) (t : m3) (δ : mQ) : mE (m3 × mQ) := if pN (dP δ) 5 = 12 then .inl t.1 else eB (sNum X 0 (nx X t) δ) (fun r1 => eB (sNum X 0 r1.1 δ) (fun r2 => eB (sCol X r2.1) (fun r3 => eB (sCls X r3) (fun r4 => eB (sNum X 0 r4.1 δ) (fun r5 => .inr (r5.1, dMo δ t.1 (r1.2, r2.2, r4.2, r5.2)))))))
/-- conditions: what waits (213 not, 212 and, 211 or, 40 a bracket), operations, how deep -/
abbrev mW : Type := List Nat × List mO × Nat
def rls (b : Nat) : List Nat → List mO → Nat → mW
  | [], O, d => ([], O, d)
  | x :: S, O, d => if b ≤ x then rls b S (O ++ [(213 - x, false, 0)]) (if x = 213 then d - 1 else d) else (x :: S, O, d)
def sOpn (X : mX) : Nat → m3 → List Nat → Nat → mE (m3 × List Nat × Nat)
  | 0, t, _, _ => .inl t.1
  | f + 1, t, S, d => if t.2.2 = 40 ∨ t.2.2 = 213 then (if d < 10 then sOpn X f (nx X t) (t.2.2 :: S) (d + 1) else .inl t.1) else .inr (t, S, d)
/-- a comparison: its operation -/
def sCmp (X : mX) (t : m3) (δ : mQ) : mE (m3 × mO) := if 214 ≤ t.2.2 ∧ t.2.2 ≤ 219 then (if (nx X t).2.2 = 3 ∨ (nx X t).2.2 = 4 then (if (nx X (nx X t)).2.2 = (if t.2.2 < 217 then t.2.2 + 3 else t.2.2 - 3) then .inr (nx X (nx X (nx X t)), (3 + (t.2.2 - 214) % 3, decide ((nx X t).2.2 = 4), 0)) else if (t.2.2 - 214) % 3 = 2 ∧ dI δ (tLt X (nx X (nx X t))) < dL δ ∧ (dG δ (dI δ (tLt X (nx X (nx X t))))).2.1 < 2 then .inr (nx X (nx X (nx X t)), (if t.2.2 = 216 then 6 else 7, decide ((nx X t).2.2 = 4), nI (dV δ (dI δ (tLt X (nx X (nx X t))))))) else .inl (nx X (nx X t)).1) else .inl (nx X t).1) else .inl t.1
def sClo (X : mX) : Nat → m3 → mW → m3 × mW
  | 0, t, W => (t, W)
  | f + 1, t, W => if t.2.2 = 41 then (match rls 211 W.1 W.2.1 W.2.2 with
      | ([], O, d) => (t, [], O, d)
      | (_ :: S, O, d) => sClo X f (nx X t) (rls 213 S O (d - 1))) else (t, W)
def sCon (X : mX) (δ : mQ) : Nat → m3 → mW → mE (m3 × List mO)
  | 0, t, _ => .inl t.1
  | f + 1, t, W => eB (sOpn X 11 t W.1 W.2.2) (fun r1 => eB (sCmp X r1.1 δ) (fun r2 => match sClo X 10 r2.1 (rls 213 r1.2.1 (W.2.1 ++ [r2.2]) r1.2.2) with
      | (t3, W3) => if t3.2.2 = 211 ∨ t3.2.2 = 212 then (match rls t3.2.2 W3.1 W3.2.1 W3.2.2 with
          | (S, O, d) => sCon X δ f (nx X t3) (t3.2.2 :: S, O, d)) else (match rls 211 W3.1 W3.2.1 W3.2.2 with
          | ([], O, _) => .inr (t3, O)
          | (_ :: _, _, _) => .inl t3.1)))
def dLi (δ : mQ) (x : Nat × Int32 × List mO) : mQ := (dN δ, pSn (pSt (dP δ) (pN (dP δ) 6) x) 6 (pN (dP δ) 6 + 1), dA δ, dR δ, dM δ, dC δ + (oCs x.2.2).length, dE δ + x.2.2.length)
def sLim (X : mX) (t : m3) (δ : mQ) : mE (m3 × mQ) := if pN (dP δ) 6 = 8 then .inl t.1 else eB (sCls X (nx X t)) (fun r1 => eB (sPrm X r1.2 r1.1) (fun r2 => eB (sCon X δ 1200 r2.1 ([], [], 0)) (fun r3 => .inr (r3.1, dLi δ (r1.2, nI r2.2, r3.2)))))
def sSta (X : mX) (t : m3) (δ : mQ) : mE (m3 × mQ) := if t.2.2 = 200 then sAtt X t δ else if t.2.2 = 201 then sTyp X t δ else if t.2.2 = 202 then sRol X t δ else if t.2.2 = 203 then sUse X t δ else if 204 ≤ t.2.2 ∧ t.2.2 ≤ 207 then sRul X t δ else if t.2.2 = 208 then sMov X t δ else if t.2.2 = 209 then sLim X t δ else .inl t.1
/-- all statements -/
def sAll (X : mX) : Nat → m3 → mQ → mE mQ
  | 0, _, δ => .inr δ
  | f + 1, t, δ => if t.2.2 = 0 then .inr δ else eB (sSta X t δ) (fun r => eB (sEnd X r.1) (fun t' => sAll X f t' r.2))
def d0 : mQ := ([], (fun _ => 0, fun _ => 0, fun _ => 0, fun _ => (0, 0, 0, 0, 0), fun _ => (0, 0, 0, 0), fun _ => (0, 0, [])), fun _ => 0, fun _ => 0, fun _ => 0, 0, 0)
end MM135
