/-! CONDITIONS: operations have what they need; limits in the class -/
section MM146
variable {X : mX} {t : m3} {w p : Bool} {i i' i0 : Nat → Nat → Int32} {l l' l0 : Nat → Nat → Int64} {δ δ' : mQ} {ρ : mP} {m : Nat} {e : Bool × Nat × Nat} {n k s a b c r d h h1 h2 : Nat} {S : List Nat} {O : List mO} {x y v : Int32} {cs : List (Nat × Int32)} {op : mO}
def oPre : Nat → List mO → Nat → Prop
  | h, [], h' => h = h'
  | h, c :: r, h' => c.1 ≤ 7 ∧ (if c.1 = 0 then 1 ≤ h ∧ oPre h r h' else if c.1 = 1 ∨ c.1 = 2 then 2 ≤ h ∧ oPre (h - 1) r h' else h < 60 ∧ oPre (h + 1) r h')
theorem oPre_ok : ∀ (O : List mO) (h : Nat), oPre h O 1 → oOk h O
  | [], h, q => q
  | c :: r, h, q => by
    unfold oPre at q
    unfold oOk
    refine ⟨q.1, ?_⟩
    have q2 := q.2
    split
    · rename_i z; rw [if_pos z] at q2; exact ⟨q2.1, oPre_ok r _ q2.2⟩
    · rename_i z
      rw [if_neg z] at q2
      split
      · rename_i y; rw [if_pos y] at q2; exact ⟨q2.1, oPre_ok r _ q2.2⟩
      · rename_i y; rw [if_neg y] at q2; exact ⟨q2.1, oPre_ok r _ q2.2⟩
/-- one operation -/
def oSt (h : Nat) (op : mO) (h' : Nat) : Prop := (op.1 = 0 ∧ 1 ≤ h ∧ h' = h) ∨ ((op.1 = 1 ∨ op.1 = 2) ∧ 2 ≤ h ∧ h' = h - 1) ∨ (3 ≤ op.1 ∧ op.1 ≤ 7 ∧ h < 60 ∧ h' = h + 1)
theorem oPre_sn : ∀ (O : List mO) (h : Nat), oPre h O h1 → oSt h1 op h2 → oPre h (O ++ [op]) h2
  | [], h, q, st => by
    have q : h = h1 := q
    subst q
    show oPre h [op] h2
    unfold oPre
    rcases st with ⟨a, b, c⟩ | ⟨a, b, c⟩ | ⟨a, a', b, c⟩
    · exact ⟨by omega, by rw [if_pos a]; exact ⟨b, c.symm⟩⟩
    · exact ⟨by omega, by rw [if_neg (by omega), if_pos a]; exact ⟨b, c.symm⟩⟩
    · exact ⟨a', by rw [if_neg (by omega), if_neg (by omega)]; exact ⟨b, c.symm⟩⟩
  | c :: r, h, q, st => by
    rw [List.cons_append]
    unfold oPre at q ⊢
    refine ⟨q.1, ?_⟩
    have q2 := q.2
    split
    · rename_i z; rw [if_pos z] at q2; exact ⟨q2.1, oPre_sn r _ q2.2 st⟩
    · rename_i z
      rw [if_neg z] at q2
      split
      · rename_i y; rw [if_pos y] at q2; exact ⟨q2.1, oPre_sn r _ q2.2 st⟩
      · rename_i y; rw [if_neg y] at q2; exact ⟨q2.1, oPre_sn r _ q2.2 st⟩
/-- how many and, or wait -/
def sB : List Nat → Nat
  | [] => 0
  | x :: S => (if x = 211 ∨ x = 212 then 1 else 0) + sB S
theorem sB_le : ∀ (S : List Nat), sB S ≤ S.length
  | [] => Nat.le_refl _
  | x :: S => by have := sB_le S; rw [sB, List.length_cons]; split <;> omega
def vO (ρ : mP) (O : List mO) : Prop := ∀ op, op ∈ O → 6 ≤ op.1 → vW ρ op.2.2
theorem vO.sn (q : vO ρ O) (ho : 6 ≤ op.1 → vW ρ op.2.2) : vO ρ (O ++ [op]) := by
  intro o h6
  rcases List.mem_append.mp h6 with z | z
  · exact q o z
  · rw [List.mem_singleton.mp z]; exact ho
theorem rls_h (hb : 210 < b) : ∀ (S : List Nat) (O : List mO) (d : Nat), sW S → oPre 0 O (sB S + 1) → vO ρ O → oPre 0 (rls b S O d).2.1 (sB (rls b S O d).1 + 1) ∧ vO ρ (rls b S O d).2.1
  | [], O, d, hs, q, hv => ⟨q, hv⟩
  | z :: S, O, d, hs, q, hv => by
    have hz := sW_el _ hs z (List.mem_cons_self ..)
    by_cases y : b ≤ z
    · rw [rls_yes y]
      refine rls_h hb S _ _ hs.2 (oPre_sn O 0 q ?_) (hv.sn (fun u => by dsimp only at u; omega))
      rcases (show z = 213 ∨ z = 212 ∨ z = 211 by omega) with u | u | u <;> subst u
      · left
        exact ⟨rfl, by omega, by rw [sB, if_neg (by omega)]; omega⟩
      · right; left
        exact ⟨Or.inl rfl, by rw [sB, if_pos (by omega)]; omega, by rw [sB, if_pos (by omega)]; omega⟩
      · right; left
        exact ⟨Or.inr rfl, by rw [sB, if_pos (by omega)]; omega, by rw [sB, if_pos (by omega)]; omega⟩
    · rw [rls_not y]; exact ⟨q, hv⟩
/-- within a condition -/
def IC (ρ : mP) (S : List Nat) (O : List mO) (d g : Nat) : Prop := sW S ∧ d = sD S ∧ sD S ≤ 10 ∧ oPre 0 O (sB S + g) ∧ vO ρ O
theorem IC.rl (q : IC ρ S O d 1) (hb : 210 < b) : IC ρ (rls b S O d).1 (rls b S O d).2.1 (rls b S O d).2.2 1 := by
  obtain ⟨q1, q2, q3, q4, q5⟩ := q
  have a1 := rls_1 (b := b) (by omega) S O q1
  have a2 := rls_h hb S O d q1 q4 q5
  subst q2
  exact ⟨a1.1, a1.2.1, by omega, a2.1, a2.2⟩
theorem IC.opn : ∀ (f : Nat) (t : m3) (S : List Nat) (d : Nat), IC ρ S O d 0 → ∀ r, sOpn X f t S d = .inr r → IC ρ r.2.1 O r.2.2 0
  | 0, t, S, d, q, r, hr => by cases hr
  | f + 1, t, S, d, q, r, hr => by
    rw [sOpn] at hr
    by_cases y : t.2.2 = 40 ∨ t.2.2 = 213
    · rw [if_pos y] at hr
      by_cases z : d < 10
      · rw [if_pos z] at hr
        obtain ⟨q1, q2, q3, q4, q5⟩ := q
        have hs1 : sD (t.2.2 :: S) = sD S + 1 := by rw [sD, if_pos y]; omega
        have hb1 : sB (t.2.2 :: S) = sB S := by rw [sB, if_neg (by omega)]; omega
        have hsw : sW (t.2.2 :: S) := by
          refine ⟨?_, q1⟩
          rcases y with y | y
          · exact Or.inl y
          · exact Or.inr (Or.inl y)
        exact IC.opn f (nx X t) (t.2.2 :: S) (d + 1) ⟨hsw, by omega, by omega, by rw [hb1]; exact q4, q5⟩ r hr
      · rw [if_neg z] at hr; cases hr
    · rw [if_neg y] at hr
      injection hr with hr
      subst hr
      exact q
theorem IC.cm (q : IC (dP δ) S O d 0) (hd : DW δ) {r : m3 × mO} (hr : sCmp X t δ = .inr r) : IC (dP δ) S (O ++ [r.2]) d 1 := by
  obtain ⟨q1, q2, q3, q4, q5⟩ := q
  have hl := sW_32 q1 q3
  have hb := sB_le S
  have main : 3 ≤ r.2.1 ∧ r.2.1 ≤ 7 ∧ (6 ≤ r.2.1 → vW (dP δ) r.2.2.2) := by
    unfold sCmp at hr
    by_cases z1 : 214 ≤ t.2.2 ∧ t.2.2 ≤ 219
    · rw [if_pos z1] at hr
      by_cases z2 : (nx X t).2.2 = 3 ∨ (nx X t).2.2 = 4
      · rw [if_pos z2] at hr
        by_cases z3 : (nx X (nx X t)).2.2 = (if t.2.2 < 217 then t.2.2 + 3 else t.2.2 - 3)
        · rw [if_pos z3] at hr
          injection hr with hr
          subst hr
          exact ⟨by dsimp only; omega, by dsimp only; omega, fun u => by dsimp only at u; omega⟩
        · rw [if_neg z3] at hr
          by_cases z4 : (t.2.2 - 214) % 3 = 2 ∧ dI δ (tLt X (nx X (nx X t))) < dL δ ∧ (dG δ (dI δ (tLt X (nx X (nx X t))))).2.1 < 2
          · rw [if_pos z4] at hr
            injection hr with hr
            subst hr
            exact ⟨by dsimp only; split <;> omega, by dsimp only; split <;> omega, fun _ => nm_v hd z4.2.1 z4.2.2⟩
          · rw [if_neg z4] at hr; cases hr
      · rw [if_neg z2] at hr; cases hr
    · rw [if_neg z1] at hr; cases hr
  exact ⟨q1, q2, q3, oPre_sn O 0 q4 (Or.inr (Or.inr ⟨main.1, main.2.1, by omega, rfl⟩)), q5.sn main.2.2⟩
theorem IC.cl : ∀ (f : Nat) (t : m3) (W : mW), IC ρ W.1 W.2.1 W.2.2 1 → IC ρ (sClo X f t W).2.1 (sClo X f t W).2.2.1 (sClo X f t W).2.2.2 1
  | 0, t, W, q => q
  | f + 1, t, W, q => by
    rw [sClo_eq]
    by_cases y : t.2.2 = 41
    · rw [if_pos y]
      have q2 := q.rl (b := 211) (by omega)
      have h40 := fun z R he => rls_40 (O := W.2.1) (d := W.2.2) q.1 (z := z) (R := R) he q.2.1
      generalize rls 211 W.1 W.2.1 W.2.2 = Q at q2 h40
      obtain ⟨S1, O1, d1⟩ := Q
      dsimp only at q2 h40 ⊢
      cases S1 with
      | nil => rw [if_pos rfl]; exact q2
      | cons z R =>
        have hz := h40 z R rfl
        rw [if_neg (by intro u; cases u)]
        obtain ⟨p1, p2, p3, p4, p5⟩ := q2
        have hs1 : sD (z :: R) = sD R + 1 := by rw [sD, if_pos (Or.inl hz)]; omega
        have hb1 : sB (z :: R) = sB R := by rw [sB, if_neg (by omega)]; omega
        have q3 : IC ρ R O1 (d1 - 1) 1 := ⟨p1.2, by omega, by omega, by rw [hb1] at p4; exact p4, p5⟩
        exact IC.cl f (nx X t) _ (q3.rl (by omega))
    · rw [if_neg y]; exact q
theorem IC.co (hd : DW δ) : ∀ (f : Nat) (t : m3) (W : mW), IC (dP δ) W.1 W.2.1 W.2.2 0 → ∀ r, sCon X δ f t W = .inr r → oOk 0 r.2 ∧ vO (dP δ) r.2
  | 0, t, W, q, r, hr => by cases hr
  | f + 1, t, W, q, r, hr => by
    rw [sCon_eq] at hr
    cases ho : sOpn X 11 t W.1 W.2.2 with
    | inl z => rw [ho] at hr; cases hr
    | inr r1 =>
      have q1 := IC.opn (X := X) 11 t W.1 W.2.2 q r1 ho
      rw [ho, eB_r] at hr
      cases hc : sCmp X r1.1 δ with
      | inl z => rw [hc] at hr; cases hr
      | inr r2 =>
        have q2 := q1.cm hd hc
        rw [hc, eB_r] at hr
        have q3 := IC.cl (X := X) 10 r2.1 _ (q2.rl (b := 213) (by omega))
        generalize sClo X 10 r2.1 (rls 213 r1.2.1 (W.2.1 ++ [r2.2]) r1.2.2) = Q at q3 hr
        obtain ⟨t3, S3, O3, d3⟩ := Q
        dsimp only at q3 hr
        by_cases z : t3.2.2 = 211 ∨ t3.2.2 = 212
        · rw [if_pos z] at hr
          have q4 := q3.rl (b := t3.2.2) (by omega)
          have ht := rls_top t3.2.2 S3 O3 d3
          generalize rls t3.2.2 S3 O3 d3 = Q at q4 hr ht
          obtain ⟨S4, O4, d4⟩ := Q
          dsimp only at q4 hr ht
          obtain ⟨p1, p2, p3, p4, p5⟩ := q4
          have hs1 : sD (t3.2.2 :: S4) = sD S4 := by rw [sD, if_neg (by omega)]; omega
          have hb1 : sB (t3.2.2 :: S4) = sB S4 + 1 := by rw [sB, if_pos z]; omega
          have hh : S4.headD 0 = 0 ∨ S4.headD 0 < t3.2.2 := by
            rcases ht with y | y
            · left; rw [y]; rfl
            · right; exact y
          have hsw : sW (t3.2.2 :: S4) := by
            refine ⟨?_, p1⟩
            rcases z with y | y
            · exact Or.inr (Or.inr (Or.inr ⟨y, by omega, by omega, by omega⟩))
            · exact Or.inr (Or.inr (Or.inl ⟨y, by omega, by omega⟩))
          have hic : IC (dP δ) (t3.2.2 :: S4) O4 d4 0 := ⟨hsw, by omega, by omega, by rw [hb1]; exact p4, p5⟩
          exact IC.co hd f (nx X t3) (t3.2.2 :: S4, O4, d4) hic r hr
        · rw [if_neg z] at hr
          have q4 := q3.rl (b := 211) (by omega)
          generalize rls 211 S3 O3 d3 = Q at q4 hr
          obtain ⟨S4, O4, d4⟩ := Q
          dsimp only at q4 hr
          cases S4 with
          | nil =>
            rw [if_pos rfl] at hr
            injection hr with hr
            subst hr
            exact ⟨oPre_ok _ _ q4.2.2.2.1, q4.2.2.2.2⟩
          | cons y R => rw [if_neg (by intro u; cases u)] at hr; cases hr
end MM146
