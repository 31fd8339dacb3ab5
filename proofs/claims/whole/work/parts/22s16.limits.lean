/-! CONDITIONS AND LIMITS in the class -/
section MM145
variable {X : mX} {t : m3} {w p : Bool} {i i' i0 : Nat → Nat → Int32} {l l' l0 : Nat → Nat → Int64} {δ δ' : mQ} {ρ : mP} {m : Nat} {e : Bool × Nat × Nat} {n k s a b c r d : Nat} {S : List Nat} {O : List mO} {x y v : Int32} {cs : List (Nat × Int32)}
theorem eB_r {α β : Type} {a : α} {f : α → mE β} : eB (.inr a) f = f a := rfl
theorem eB_l {α β : Type} {n : Nat} {f : α → mE β} : eB (.inl n) f = .inl n := rfl
/-- one that waits less -/
theorem CN.pop {z : Nat} (h : CN X w i0 l0 i l t δ (z :: S) cs) (hz : z = 40) : CN X w i0 l0 (mm_ww (mm_ww i 3 8 (nI (z :: S).length - 1)) 3 9 (nI (sD (z :: S)) - 1)) l t δ S cs := by
  have hp := mP_c (!w)
  obtain ⟨q1, ⟨q2, q3, q4⟩, ⟨q5, q6⟩, q7, q8, q9, q10⟩ := h
  have hs : sD (z :: S) = sD S + 1 := by rw [sD, if_pos (Or.inl hz)]; omega
  refine ⟨(q1.own (by omega)).own (by omega), ⟨by rw [mw_j (by omega), mw_s, List.length_cons, nI_pred], fun k hk => ?_, by rw [mw_s, hs, nI_pred]⟩, ⟨by rw [mw_k (by omega), mw_k (by omega)]; exact q5, q6.ku (fun k j a b _ => by rw [mw_k (by omega), mw_k (by omega)])⟩, q7.2, by omega, by rw [List.length_cons] at q9; omega, fun k j a b => by rw [mw_k (by omega), mw_k (by omega)]; exact q10 k j a b⟩
  rw [mw_k (by omega), mw_k (by omega), q3 k (by rw [List.length_cons]; omega), List.length_cons, show S.length + 1 - 1 - k = (S.length - 1 - k) + 1 by omega, List.getD_cons_succ]
/-- what a release down to brackets leaves on top -/
theorem rls_40 (h : sW S) {z : Nat} {R : List Nat} (he : (rls 211 S O d).1 = z :: R) (hd : d = sD S) : z = 40 := by
  subst hd
  have h1 := rls_1 (b := 211) (by omega) S O h
  have h2 := rls_top 211 S O (sD S)
  rw [he] at h1 h2
  have h3 := sW_el _ h1.1 z (List.mem_cons_self ..)
  rcases h2 with q | q
  · cases q
  · have : z < 211 := q
    omega
theorem sClo_eq (f : Nat) (t : m3) (W : mW) : sClo X (f + 1) t W = if t.2.2 = 41 then (if (rls 211 W.1 W.2.1 W.2.2).1 = [] then (t, [], (rls 211 W.1 W.2.1 W.2.2).2.1, (rls 211 W.1 W.2.1 W.2.2).2.2) else sClo X f (nx X t) (rls 213 (rls 211 W.1 W.2.1 W.2.2).1.tail (rls 211 W.1 W.2.1 W.2.2).2.1 ((rls 211 W.1 W.2.1 W.2.2).2.2 - 1))) else (t, W) := by
  rw [sClo]
  by_cases q : t.2.2 = 41
  · rw [if_pos q, if_pos q]
    rcases rls 211 W.1 W.2.1 W.2.2 with ⟨_ | ⟨z, R⟩, O, d⟩
    · rw [if_pos rfl]
    · rw [if_neg (by intro h; cases h)]; rfl
  · rw [if_neg q, if_neg q]
/-- closing brackets -/
theorem c_clo : ∀ (f k : Nat) (t : m3) (S : List Nat) (O : List mO) (i : Nat → Nat → Int32) (l : Nat → Nat → Int64), CN X w i0 l0 i l t δ S (oCs O) → k + f = 10 → ∃ i' l' S' O', mm_V 21 2 [some (.ref 3), some (.int (nI k))] [] (mm_Z m w i l e) = some (.inl none, mm_Z m w i' l' e) ∧ CN X w i0 l0 i' l' (sClo X f t (rls 213 S O (sD S))).1 δ S' (oCs O') ∧ (sClo X f t (rls 213 S O (sD S))).2 = rls 213 S' O' (sD S')
  | 0, k, t, S, O, i, l, h, hk => by
    refine ⟨i, l, S, O, ?_, h, rfl⟩
    rw [mr_21_2, na_10, if_neg (fun z => by have := (nI_ltI (by omega) (by omega)).mp z; omega)]
  | f + 1, k, t, S, O, i, l, h, hk => by
    have hd := h.1.tk.kd h.1.xw
    have e41 : (nI t.2.2 = 41) ↔ t.2.2 = 41 := nI_eq (by omega) (by decide : 41 < 2 ^ 31)
    rw [mr_21_2, na_10, if_pos ((nI_ltI (by omega) (by omega)).mpr (by omega)), h.1.k3, sClo_eq, rls_rls (by omega)]
    by_cases q : t.2.2 = 41
    · obtain ⟨i1, f1, f2⟩ := c_rls (m := m) (e := e) (b := 211) (by omega) S O i none h
      have f1 : mm_V 23 0 [some (.ref 3), some (.int 211), none] [] (mm_Z m w i l e) = some (.inl none, mm_Z m w i1 l e) := f1
      have h1 := rls_1 (b := 211) (by omega) S O h.2.2.2.1
      have h40 := fun z R he => rls_40 (O := O) (d := sD S) h.2.2.2.1 (z := z) (R := R) he rfl
      rw [if_pos (e41.mpr q), if_pos q, f1, mb_l, mb_0, mr_21_27, f2.2.1.1]
      generalize rls 211 S O (sD S) = Q at f2 h1 h40
      obtain ⟨S1, O1, d1⟩ := Q
      dsimp only at f2 h1 h40 ⊢
      cases S1 with
      | nil =>
        rw [if_pos (by rfl), if_pos rfl]
        refine ⟨i1, l, [], O1, rfl, f2, ?_⟩
        rw [h1.2.1]
        rfl
      | cons z R =>
        have hz := h40 z R rfl
        have hl := sW_32 f2.2.2.2.1 f2.2.2.2.2.1
        rw [if_neg (show ¬ nI (z :: R).length = 0 from fun y => by have := (nz_eq (by omega)).mp y; rw [List.length_cons] at this; omega), if_neg (show ¬ (z :: R) = [] by intro y; cases y), f2.2.1.2.2]
        have hN := f2.pop hz
        obtain ⟨i2, l2, g1, g2⟩ := hN.adv (m := m) (e := e) (by omega)
        obtain ⟨i3, l3, S3, O3, r1, r2, r3⟩ := c_clo f (k + 1) (nx X t) R O1 i2 l2 g2 (by omega)
        have ed : d1 - 1 = sD R := by
          have : sD (z :: R) = sD R + 1 := by rw [sD, if_pos (Or.inl hz)]; omega
          have h2 : d1 = sD (z :: R) := h1.2.1
          omega
        rw [g1, mb_l, mb_0, mr_21_62, nI_1, r1, ed]
        exact ⟨i3, l3, S3, O3, rfl, r2, r3⟩
    · rw [if_neg (fun z => q (e41.mp z)), if_neg q]
      exact ⟨i, l, S, O, rfl, h, rfl⟩
theorem sCon_eq (f : Nat) (t : m3) (W : mW) : sCon X δ (f + 1) t W = eB (sOpn X 11 t W.1 W.2.2) (fun r1 => eB (sCmp X r1.1 δ) (fun r2 => if (sClo X 10 r2.1 (rls 213 r1.2.1 (W.2.1 ++ [r2.2]) r1.2.2)).1.2.2 = 211 ∨ (sClo X 10 r2.1 (rls 213 r1.2.1 (W.2.1 ++ [r2.2]) r1.2.2)).1.2.2 = 212 then sCon X δ f (nx X (sClo X 10 r2.1 (rls 213 r1.2.1 (W.2.1 ++ [r2.2]) r1.2.2)).1) ((sClo X 10 r2.1 (rls 213 r1.2.1 (W.2.1 ++ [r2.2]) r1.2.2)).1.2.2 :: (rls (sClo X 10 r2.1 (rls 213 r1.2.1 (W.2.1 ++ [r2.2]) r1.2.2)).1.2.2 (sClo X 10 r2.1 (rls 213 r1.2.1 (W.2.1 ++ [r2.2]) r1.2.2)).2.1 (sClo X 10 r2.1 (rls 213 r1.2.1 (W.2.1 ++ [r2.2]) r1.2.2)).2.2.1 (sClo X 10 r2.1 (rls 213 r1.2.1 (W.2.1 ++ [r2.2]) r1.2.2)).2.2.2).1, (rls (sClo X 10 r2.1 (rls 213 r1.2.1 (W.2.1 ++ [r2.2]) r1.2.2)).1.2.2 (sClo X 10 r2.1 (rls 213 r1.2.1 (W.2.1 ++ [r2.2]) r1.2.2)).2.1 (sClo X 10 r2.1 (rls 213 r1.2.1 (W.2.1 ++ [r2.2]) r1.2.2)).2.2.1 (sClo X 10 r2.1 (rls 213 r1.2.1 (W.2.1 ++ [r2.2]) r1.2.2)).2.2.2).2.1, (rls (sClo X 10 r2.1 (rls 213 r1.2.1 (W.2.1 ++ [r2.2]) r1.2.2)).1.2.2 (sClo X 10 r2.1 (rls 213 r1.2.1 (W.2.1 ++ [r2.2]) r1.2.2)).2.1 (sClo X 10 r2.1 (rls 213 r1.2.1 (W.2.1 ++ [r2.2]) r1.2.2)).2.2.1 (sClo X 10 r2.1 (rls 213 r1.2.1 (W.2.1 ++ [r2.2]) r1.2.2)).2.2.2).2.2) else if (rls 211 (sClo X 10 r2.1 (rls 213 r1.2.1 (W.2.1 ++ [r2.2]) r1.2.2)).2.1 (sClo X 10 r2.1 (rls 213 r1.2.1 (W.2.1 ++ [r2.2]) r1.2.2)).2.2.1 (sClo X 10 r2.1 (rls 213 r1.2.1 (W.2.1 ++ [r2.2]) r1.2.2)).2.2.2).1 = [] then .inr ((sClo X 10 r2.1 (rls 213 r1.2.1 (W.2.1 ++ [r2.2]) r1.2.2)).1, (rls 211 (sClo X 10 r2.1 (rls 213 r1.2.1 (W.2.1 ++ [r2.2]) r1.2.2)).2.1 (sClo X 10 r2.1 (rls 213 r1.2.1 (W.2.1 ++ [r2.2]) r1.2.2)).2.2.1 (sClo X 10 r2.1 (rls 213 r1.2.1 (W.2.1 ++ [r2.2]) r1.2.2)).2.2.2).2.1) else .inl (sClo X 10 r2.1 (rls 213 r1.2.1 (W.2.1 ++ [r2.2]) r1.2.2)).1.1)) := by
  rw [sCon]
  congr 1
  funext r1
  congr 1
  funext r2
  generalize sClo X 10 r2.1 (rls 213 r1.2.1 (W.2.1 ++ [r2.2]) r1.2.2) = Q
  obtain ⟨t3, W3⟩ := Q
  dsimp only
  split
  · rfl
  · generalize rls 211 W3.1 W3.2.1 W3.2.2 = Q2
    obtain ⟨_ | ⟨z, R⟩, O2, d2⟩ := Q2
    · rw [if_pos rfl]
    · rw [if_neg (by intro h; cases h)]
theorem c_con : ∀ (f k : Nat) (t : m3) (S : List Nat) (O : List mO) (i : Nat → Nat → Int32) (l : Nat → Nat → Int64) (u2 : Option Value), CN X w i0 l0 i l t δ S (oCs O) → k + f = 1200 → ∃ x i' l', mm_V 19 12 [some (.ref 3), some (.int (nI k)), u2] [] (mm_Z m w i l e) = some (.inl (some (.int x)), mm_Z m w i' l' e) ∧ (match sCon X δ f t (S, O, sD S) with
    | .inl p => x = 0 ∧ CF w i0 l0 i' l' p
    | .inr q => x = 1 ∧ CN X w i0 l0 i' l' q.1 δ [] (oCs q.2))
  | 0, k, t, S, O, i, l, u2, h, hk => by
    refine ⟨0, i, l, ?_, rfl, h.1.cf⟩
    rw [mr_19_12, na_1200, if_neg (fun z => by have := (nI_ltI (by omega) (by omega)).mp z; omega)]
  | f + 1, k, t, S, O, i, l, u2, h, hk => by
    have hp := mP_c (!w)
    obtain ⟨x1, i1, l1, a1, a2⟩ := c_opn (m := m) (e := e) 11 0 t S i l h rfl
    have a1 : mm_V 20 2 [some (.ref 3), some (.int 0)] [] (mm_Z m w i l e) = some (.inl (some (.int x1)), mm_Z m w i1 l1 e) := a1
    rw [mr_19_12, na_1200, if_pos ((nI_ltI (by omega) (by omega)).mpr (by omega)), mr_20_0, a1, mb_l, mb_v, mr_19_23, sCon_eq]
    dsimp only
    cases ho : sOpn X 11 t S (sD S) with
    | inl z =>
      rw [ho] at a2
      rw [a2.1, if_pos rfl]
      exact ⟨0, i1, l1, rfl, rfl, a2.2⟩
    | inr z =>
      obtain ⟨t1, S1, d1⟩ := z
      rw [ho] at a2
      obtain ⟨a3, a4, a5⟩ := a2
      have a4 : CN X w i0 l0 i1 l1 t1 δ S1 (oCs O) := a4
      have a5 : d1 = sD S1 := a5
      rw [a3, if_neg (by decide), a5]
      obtain ⟨x2, i2, l2, b1, b2⟩ := c_cmp (m := m) (e := e) a4
      rw [b1, mb_l, mb_v, mr_19_30]
      rw [eB_r]
      dsimp only
      cases hcm : sCmp X t1 δ with
      | inl z =>
        rw [hcm] at b2
        rw [b2.1, if_pos rfl]
        exact ⟨0, i2, l2, rfl, rfl, b2.2⟩
      | inr z =>
        obtain ⟨t2, op⟩ := z
        rw [hcm] at b2
        obtain ⟨b3, b4⟩ := b2
        have b4 : CN X w i0 l0 i2 l2 t2 δ S1 (oCs (O ++ [op])) := b4
        rw [b3, if_neg (by decide)]
        obtain ⟨i3, l3, S3, O3, c1, c2, c3⟩ := c_clo (m := m) (e := e) 10 0 t2 S1 (O ++ [op]) i2 l2 b4 rfl
        have c1 : mm_V 21 2 [some (.ref 3), some (.int 0)] [] (mm_Z m w i2 l2 e) = some (.inl none, mm_Z m w i3 l3 e) := c1
        rw [mr_21_0, c1, mb_l, mb_0, mr_19_39]
        rw [eB_r]
        dsimp only
        generalize sClo X 10 t2 (rls 213 S1 (O ++ [op]) (sD S1)) = Q at c2 c3
        obtain ⟨t3, W3⟩ := Q
        dsimp only at c2 c3 ⊢
        subst c3
        rw [rls_rls (b := 211) (by omega), c2.1.k3]
        have hd3 := c2.1.tk.kd c2.1.xw
        have e211 : (nI t3.2.2 = 211) ↔ t3.2.2 = 211 := nI_eq (by omega) (by decide : 211 < 2 ^ 31)
        have e212 : (nI t3.2.2 = 212) ↔ t3.2.2 = 212 := nI_eq (by omega) (by decide : 212 < 2 ^ 31)
        have t81 : (t3.2.2 = 211 ∨ t3.2.2 = 212) → ∃ x i' l', mm_V 19 81 [some (.ref 3), some (.int (nI k)), some (.int (nI t3.2.2))] [] (mm_Z m w i3 l3 e) = some (.inl (some (.int x)), mm_Z m w i' l' e) ∧ (match sCon X δ f (nx X t3) (t3.2.2 :: (rls t3.2.2 (rls 213 S3 O3 (sD S3)).1 (rls 213 S3 O3 (sD S3)).2.1 (rls 213 S3 O3 (sD S3)).2.2).1, (rls t3.2.2 (rls 213 S3 O3 (sD S3)).1 (rls 213 S3 O3 (sD S3)).2.1 (rls 213 S3 O3 (sD S3)).2.2).2.1, (rls t3.2.2 (rls 213 S3 O3 (sD S3)).1 (rls 213 S3 O3 (sD S3)).2.1 (rls 213 S3 O3 (sD S3)).2.2).2.2) with
            | .inl p => x = 0 ∧ CF w i0 l0 i' l' p
            | .inr q => x = 1 ∧ CN X w i0 l0 i' l' q.1 δ [] (oCs q.2)) := by
          intro q
          rw [rls_rls (by omega)]
          obtain ⟨i4, d1, d2⟩ := c_rls (m := m) (e := e) (b := t3.2.2) (by omega) S3 O3 i3 none c2
          have hr := rls_1 (b := t3.2.2) (by omega) S3 O3 c2.2.2.2.1
          have ht := rls_top t3.2.2 S3 O3 (sD S3)
          rw [mr_19_81, d1, mb_l, mb_0, mr_19_86]
          generalize rls t3.2.2 S3 O3 (sD S3) = Q at d2 hr ht
          obtain ⟨S4, O4, d4⟩ := Q
          dsimp only at d2 hr ht ⊢
          have hl4 := sW_32 d2.2.2.2.1 d2.2.2.2.2.1
          obtain ⟨p1, p2⟩ := d2.push (m := m) (e := e) (z := t3.2.2) (x := nI t3.2.2) rfl (by omega)
          have hs1 : sD (t3.2.2 :: S4) = sD S4 := by rw [sD, if_neg (by omega)]; omega
          have hh : S4.headD 0 = 0 ∨ S4.headD 0 < t3.2.2 := by
            rcases ht with y | y
            · left; rw [y]; rfl
            · right; exact y
          have hw4 : sW (t3.2.2 :: S4) := by
            refine ⟨?_, d2.2.2.2.1⟩
            rcases q with y | y
            · exact Or.inr (Or.inr (Or.inr ⟨y, by omega, by omega, by omega⟩))
            · exact Or.inr (Or.inr (Or.inl ⟨y, by omega, by omega⟩))
          have g1 : CQ X w i0 l0 (mm_ww (mm_ww i4 27 S4.length (nI t3.2.2)) 3 8 (nI (S4.length + 1))) l3 t3 δ := (d2.1.own (by omega)).own (by omega)
          have r8 : mm_ww (mm_ww i4 27 S4.length (nI t3.2.2)) 3 8 (nI (S4.length + 1)) 3 8 = nI (t3.2.2 :: S4).length := by rw [mw_s, List.length_cons]
          have r9 : mm_ww (mm_ww i4 27 S4.length (nI t3.2.2)) 3 8 (nI (S4.length + 1)) 3 9 = nI (sD (t3.2.2 :: S4)) := by rw [mw_j (by omega), mw_k (by omega), hs1]; exact d2.2.1.2.2
          have rP : mm_ww (mm_ww i4 27 S4.length (nI t3.2.2)) 3 8 (nI (S4.length + 1)) (mm_P (!w)) 18 = nI (dC δ + (oCs O4).length) := by rw [mw_k (by omega), mw_k (by omega)]; exact d2.2.2.1.1
          have rS : cSeg (!w) (mm_ww (mm_ww i4 27 S4.length (nI t3.2.2)) 3 8 (nI (S4.length + 1))) (dC δ) (oCs O4) := d2.2.2.1.2.ku (fun k j a b _ => by rw [mw_k (by omega), mw_k (by omega)])
          have rF : FR3 w i0 (mm_ww (mm_ww i4 27 S4.length (nI t3.2.2)) 3 8 (nI (S4.length + 1))) := fun k j a b => by rw [mw_k (by omega), mw_k (by omega)]; exact d2.2.2.2.2.2.2 k j a b
          rw [p1, mb_l, mb_0, mr_19_91]
          generalize mm_ww (mm_ww i4 27 S4.length (nI t3.2.2)) 3 8 (nI (S4.length + 1)) = j1 at g1 r8 r9 rP rS rF p2
          obtain ⟨i5, l5, f1, f2, f3, f4⟩ := g1.adv (m := m) (e := e) (by omega)
          have gt := g1.tk.gt (by omega) (by omega)
          have hpos := d2.2.2.2.2.2.1
          have hN : CN X w i0 l0 i5 l5 (nx X t3) δ (t3.2.2 :: S4) (oCs O4) := ⟨f2, ⟨by rw [f3 _ _ (by omega)]; exact r8, fun k hk => by rw [f3 _ _ (by omega)]; exact p2 k hk, by rw [f3 _ _ (by omega)]; exact r9⟩, ⟨by rw [f3 _ _ (by omega)]; exact rP, rS.ku (fun k j a b _ => f3 _ _ (by omega))⟩, hw4, by rw [hs1]; exact d2.2.2.2.2.1, by rw [List.length_cons]; omega, fun k j a b => by rw [f3 _ _ (by omega)]; exact rF k j a b⟩
          obtain ⟨x, i6, l6, r1, r2⟩ := c_con f (k + 1) (nx X t3) (t3.2.2 :: S4) O4 i5 l5 (some (.int (nI t3.2.2))) hN (by omega)
          rw [f1, mb_l, mb_0, mr_19_98, nI_1, r1]
          have ed : d4 = sD (t3.2.2 :: S4) := by rw [hs1]; exact hr.2.1
          rw [ed]
          exact ⟨x, i6, l6, rfl, r2⟩
        by_cases q1 : t3.2.2 = 211
        · rw [if_pos (e211.mpr q1), if_pos (Or.inl q1)]
          exact t81 (Or.inl q1)
        · rw [if_neg (fun z => q1 (e211.mp z))]
          by_cases q2 : t3.2.2 = 212
          · rw [if_pos (e212.mpr q2), if_pos (Or.inr q2)]
            exact t81 (Or.inr q2)
          · obtain ⟨i4, d1, d2⟩ := c_rls (m := m) (e := e) (b := 211) (by omega) S3 O3 i3 none c2
            have d1 : mm_V 23 0 [some (.ref 3), some (.int 211), none] [] (mm_Z m w i3 l3 e) = some (.inl none, mm_Z m w i4 l3 e) := d1
            rw [if_neg (fun z => q2 (e212.mp z)), if_neg (fun z => z.elim q1 q2), d1, mb_l, mb_0, mr_19_68, d2.2.1.1]
            generalize rls 211 S3 O3 (sD S3) = Q at d2
            obtain ⟨S4, O4, d4⟩ := Q
            dsimp only at d2 ⊢
            have hl4 := sW_32 d2.2.2.2.1 d2.2.2.2.2.1
            cases S4 with
            | nil =>
              rw [if_pos (by rfl), if_pos rfl]
              exact ⟨1, i4, l3, rfl, rfl, d2⟩
            | cons z R =>
              rw [if_neg (show ¬ nI (z :: R).length = 0 from fun y => by have := (nz_eq (by omega)).mp y; rw [List.length_cons] at this; omega), if_neg (show ¬ (z :: R) = [] by intro y; cases y)]
              exact ⟨0, i4, l3, rfl, rfl, d2.1.cf⟩
end MM145
