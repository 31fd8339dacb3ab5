/-! CONDITIONS in the class: brackets, comparisons -/
section MM144
variable {X : mX} {t : m3} {w p : Bool} {i i' i0 : Nat → Nat → Int32} {l l' l0 : Nat → Nat → Int64} {δ δ' : mQ} {ρ : mP} {m : Nat} {e : Bool × Nat × Nat} {n k s a b c r d : Nat} {S : List Nat} {O : List mO} {x y v : Int32} {cs : List (Nat × Int32)}
/-- something more waits -/
theorem CN.push (h : CN X w i0 l0 i l t δ S cs) {z : Nat} {x : Int32} (hx : x = nI z) (hs : S.length < 64) : mm_V 22 0 [some (.ref 3), some (.int x)] [] (mm_Z m w i l e) = some (.inl none, mm_Z m w (mm_ww (mm_ww i 27 S.length x) 3 8 (nI (S.length + 1))) l e) ∧ (∀ k, k < (z :: S).length → mm_ww (mm_ww i 27 S.length x) 3 8 (nI (S.length + 1)) 27 k = nI ((z :: S).getD ((z :: S).length - 1 - k) 0)) := by
  obtain ⟨q1, ⟨q2, q3, q4⟩, ⟨q5, q6⟩, q7, q8, q9, q10⟩ := h
  constructor
  · rw [mr_22_0, q2, show Int32.ofNat 64 = nI 64 from rfl, if_pos ((nI_ltI (by omega) (by omega)).mpr hs), if_neg (no_out hs (by omega)), nI_clamp (by omega), nI_1]
  · intro k hk
    rw [List.length_cons] at hk
    rw [mw_k (by omega), List.length_cons]
    by_cases y : k = S.length
    · subst y
      rw [mw_s, hx, show S.length + 1 - 1 - S.length = 0 by omega]
      rfl
    · rw [mw_j y, q3 k (by omega), show S.length + 1 - 1 - k = (S.length - 1 - k) + 1 by omega, List.getD_cons_succ]
/-- opening brackets, nots -/
theorem c_opn : ∀ (f k : Nat) (t : m3) (S : List Nat) (i : Nat → Nat → Int32) (l : Nat → Nat → Int64), CN X w i0 l0 i l t δ S cs → k + f = 11 → ∃ x i' l', mm_V 20 2 [some (.ref 3), some (.int (nI k))] [] (mm_Z m w i l e) = some (.inl (some (.int x)), mm_Z m w i' l' e) ∧ (match sOpn X f t S (sD S) with
    | .inl p => x = 0 ∧ CF w i0 l0 i' l' p
    | .inr q => x = 1 ∧ CN X w i0 l0 i' l' q.1 δ q.2.1 cs ∧ q.2.2 = sD q.2.1)
  | 0, k, t, S, i, l, h, hk => by
    refine ⟨0, i, l, ?_, rfl, h.1.cf⟩
    rw [mr_20_2, na_10, if_pos ((nI_ltI (by omega) (by omega)).mpr (by omega))]
  | f + 1, k, t, S, i, l, h, hk => by
    have hd := h.1.tk.kd h.1.xw
    have hl := sW_32 h.2.2.2.1 h.2.2.2.2.1
    have e40 : (nI t.2.2 = 40) ↔ t.2.2 = 40 := nI_eq (by omega) (by decide : 40 < 2 ^ 31)
    have e213 : (nI t.2.2 = 213) ↔ t.2.2 = 213 := nI_eq (by omega) (by decide : 213 < 2 ^ 31)
    have t35 : (t.2.2 = 40 ∨ t.2.2 = 213) → ∃ x i' l', mm_V 20 35 [some (.ref 3), some (.int (nI k))] [] (mm_Z m w i l e) = some (.inl (some (.int x)), mm_Z m w i' l' e) ∧ (match (if sD S < 10 then sOpn X f (nx X t) (t.2.2 :: S) (sD S + 1) else .inl t.1) with
      | .inl p => x = 0 ∧ CF w i0 l0 i' l' p
      | .inr q => x = 1 ∧ CN X w i0 l0 i' l' q.1 δ q.2.1 cs ∧ q.2.2 = sD q.2.1) := by
      intro q
      rw [mr_20_35, h.2.1.2.2]
      by_cases q10 : sD S < 10
      · have hs1 : sD (t.2.2 :: S) = sD S + 1 := by rw [sD, if_pos q]; omega
        have hN : CN X w i0 l0 (mm_ww i 3 9 (nI (sD S + 1))) l t δ S cs ∨ True := Or.inr trivial
        obtain ⟨q1, ⟨q2, q3, q4⟩, ⟨q5, q6⟩, q7, q8, q9, qF⟩ := h
        have hp := mP_c (!w)
        have g0 : CQ X w i0 l0 (mm_ww i 3 9 (nI (sD S + 1))) l t δ := q1.own (by omega)
        rw [if_pos (by rw [na_10]; exact (nI_ltI (by omega) (by omega)).mpr q10), if_pos q10, nI_1, q1.k3]
        have p1 : mm_V 22 0 [some (.ref 3), some (.int (nI t.2.2))] [] (mm_Z m w (mm_ww i 3 9 (nI (sD S + 1))) l e) = some (.inl none, mm_Z m w (mm_ww (mm_ww (mm_ww i 3 9 (nI (sD S + 1))) 27 S.length (nI t.2.2)) 3 8 (nI (S.length + 1))) l e) := by
          rw [mr_22_0, mw_j (by omega), q2, show Int32.ofNat 64 = nI 64 from rfl, if_pos ((nI_ltI (by omega) (by omega)).mpr (by omega)), if_neg (no_out (by omega) (by omega)), nI_clamp (by omega), nI_1]
        have g1 : CQ X w i0 l0 (mm_ww (mm_ww (mm_ww i 3 9 (nI (sD S + 1))) 27 S.length (nI t.2.2)) 3 8 (nI (S.length + 1))) l t δ := (g0.own (by omega)).own (by omega)
        have r8 : mm_ww (mm_ww (mm_ww i 3 9 (nI (sD S + 1))) 27 S.length (nI t.2.2)) 3 8 (nI (S.length + 1)) 3 8 = nI (t.2.2 :: S).length := by rw [mw_s, List.length_cons]
        have r9 : mm_ww (mm_ww (mm_ww i 3 9 (nI (sD S + 1))) 27 S.length (nI t.2.2)) 3 8 (nI (S.length + 1)) 3 9 = nI (sD (t.2.2 :: S)) := by rw [mw_j (by omega), mw_k (by omega), mw_s, hs1]
        have r27 : ∀ k, k < (t.2.2 :: S).length → mm_ww (mm_ww (mm_ww i 3 9 (nI (sD S + 1))) 27 S.length (nI t.2.2)) 3 8 (nI (S.length + 1)) 27 k = nI ((t.2.2 :: S).getD ((t.2.2 :: S).length - 1 - k) 0) := by
          intro k hk
          rw [List.length_cons] at hk
          rw [mw_k (by omega), List.length_cons]
          by_cases y : k = S.length
          · subst y
            rw [mw_s, show S.length + 1 - 1 - S.length = 0 by omega]
            rfl
          · rw [mw_j y, mw_k (by omega), q3 k (by omega), show S.length + 1 - 1 - k = (S.length - 1 - k) + 1 by omega, List.getD_cons_succ]
        have rP : mm_ww (mm_ww (mm_ww i 3 9 (nI (sD S + 1))) 27 S.length (nI t.2.2)) 3 8 (nI (S.length + 1)) (mm_P (!w)) 18 = nI (dC δ + cs.length) := by rw [mw_k (by omega), mw_k (by omega), mw_k (by omega)]; exact q5
        have rS : cSeg (!w) (mm_ww (mm_ww (mm_ww i 3 9 (nI (sD S + 1))) 27 S.length (nI t.2.2)) 3 8 (nI (S.length + 1))) (dC δ) cs := q6.ku (fun k j a b _ => by rw [mw_k (by omega), mw_k (by omega), mw_k (by omega)])
        have rF : FR3 w i0 (mm_ww (mm_ww (mm_ww i 3 9 (nI (sD S + 1))) 27 S.length (nI t.2.2)) 3 8 (nI (S.length + 1))) := fun k j a b => by rw [mw_k (by omega), mw_k (by omega), mw_k (by omega)]; exact qF k j a b
        rw [p1, mb_l, mb_0, mr_20_67]
        generalize mm_ww (mm_ww (mm_ww i 3 9 (nI (sD S + 1))) 27 S.length (nI t.2.2)) 3 8 (nI (S.length + 1)) = j1 at g1 r8 r9 r27 rP rS rF
        obtain ⟨i2, l2, f1, f2, f3, f4⟩ := g1.adv (m := m) (e := e) (by omega)
        have gt := q1.tk.gt (by omega) (by omega)
        have hN2 : CN X w i0 l0 i2 l2 (nx X t) δ (t.2.2 :: S) cs := by
          refine ⟨f2, ⟨by rw [f3 _ _ (by omega)]; exact r8, fun k hk => by rw [f3 _ _ (by omega)]; exact r27 k hk, by rw [f3 _ _ (by omega)]; exact r9⟩, ⟨by rw [f3 _ _ (by omega)]; exact rP, rS.ku (fun k j a b _ => f3 _ _ (by omega))⟩, ⟨?_, q7⟩, by rw [hs1]; omega, by rw [List.length_cons]; omega, fun k j a b => by rw [f3 _ _ (by omega)]; exact rF k j a b⟩
          rcases q with z | z
          · exact Or.inl z
          · exact Or.inr (Or.inl z)
        obtain ⟨x, i3, l3, r1, r2⟩ := c_opn f (k + 1) (nx X t) (t.2.2 :: S) i2 l2 hN2 (by omega)
        rw [hs1] at r2
        refine ⟨x, i3, l3, ?_, r2⟩
        rw [f1, mb_l, mb_0, mr_20_74, nI_1, r1]
      · rw [if_neg (by rw [na_10]; exact fun z => q10 ((nI_ltI (by have := h.2.2.2.2.1; omega) (by omega)).mp z)), if_neg q10]
        exact ⟨0, i, l, rfl, rfl, h.1.cf⟩
    rw [mr_20_2, na_10, if_neg (fun z => by have := (nI_ltI (by omega) (by omega)).mp z; omega), h.1.k3, sOpn]
    by_cases q40 : t.2.2 = 40
    · rw [if_pos (e40.mpr q40), if_pos (Or.inl q40)]
      exact t35 (Or.inl q40)
    · rw [if_neg (fun z => q40 (e40.mp z))]
      by_cases q213 : t.2.2 = 213
      · rw [if_pos (e213.mpr q213), if_pos (Or.inr q213)]
        exact t35 (Or.inr q213)
      · rw [if_neg (fun z => q213 (e213.mp z)), if_neg (fun z => z.elim q40 q213)]
        exact ⟨1, i, l, rfl, rfl, h, rfl⟩
/-- a comparison -/
theorem c_cmp (h : CN X w i0 l0 i l t δ S (oCs O)) : ∃ x i' l', mm_V 24 0 [some (.ref 3), none, none, none] [] (mm_Z m w i l e) = some (.inl (some (.int x)), mm_Z m w i' l' e) ∧ (match sCmp X t δ with
    | .inl p => x = 0 ∧ CF w i0 l0 i' l' p
    | .inr q => x = 1 ∧ CN X w i0 l0 i' l' q.1 δ S (oCs (O ++ [q.2]))) := by
  have hd := h.1.tk.kd h.1.xw
  have hp := mP_c (!w)
  have e214 : (nI t.2.2 < 214) ↔ t.2.2 < 214 := nI_ltI (by omega) (by decide : 214 < 2 ^ 31)
  have e219 : ((219 : Int32) < nI t.2.2) ↔ 219 < t.2.2 := nI_ltI (by decide : 219 < 2 ^ 31) (by omega)
  rw [mr_24_0, h.1.k3]
  unfold sCmp
  by_cases qa : 214 ≤ t.2.2 ∧ t.2.2 ≤ 219
  · obtain ⟨i1, l1, f1, f2⟩ := h.adv (m := m) (e := e) (by omega)
    have hd1 := f2.1.tk.kd f2.1.xw
    have e4 : (nI (nx X t).2.2 = 4) ↔ (nx X t).2.2 = 4 := nI_eq (by omega) (by decide : 4 < 2 ^ 31)
    have e3 : (nI (nx X t).2.2 = 3) ↔ (nx X t).2.2 = 3 := nI_eq (by omega) (by decide : 3 < 2 ^ 31)
    rw [if_neg (fun z => by have := e214.mp z; omega), if_neg (fun z => by have := e219.mp z; omega), f1, mb_l, mb_0, mr_24_31, f2.1.k3, if_pos qa]
    -- behind == or !=
    have t65 : ∀ (g : Bool), ((nx X t).2.2 = 3 ∨ (nx X t).2.2 = 4) → g = decide ((nx X t).2.2 = 4) → ∃ x i' l', mm_V 24 65 [some (.ref 3), some (.int (nI t.2.2)), some (.int (bI g)), none] [] (mm_Z m w i1 l1 e) = some (.inl (some (.int x)), mm_Z m w i' l' e) ∧ (match (if (nx X (nx X t)).2.2 = (if t.2.2 < 217 then t.2.2 + 3 else t.2.2 - 3) then (.inr (nx X (nx X (nx X t)), (3 + (t.2.2 - 214) % 3, decide ((nx X t).2.2 = 4), 0)) : mE (m3 × mO)) else if (t.2.2 - 214) % 3 = 2 ∧ dI δ (tLt X (nx X (nx X t))) < dL δ ∧ (dG δ (dI δ (tLt X (nx X (nx X t))))).2.1 < 2 then .inr (nx X (nx X (nx X t)), (if t.2.2 = 216 then 6 else 7, decide ((nx X t).2.2 = 4), nI (dV δ (dI δ (tLt X (nx X (nx X t))))))) else .inl (nx X (nx X t)).1) with
        | .inl p => x = 0 ∧ CF w i0 l0 i' l' p
        | .inr q => x = 1 ∧ CN X w i0 l0 i' l' q.1 δ S (oCs (O ++ [q.2]))) := by
      intro g q34 hg
      obtain ⟨i2, l2, g1, g2⟩ := f2.adv (m := m) (e := e) (by omega)
      have hd2 := g2.1.tk.kd g2.1.xw
      have gt1 := h.1.tk.gt (by omega) (by omega)
      have gt2 := f2.1.tk.gt (by omega) (by omega)
      have hle := g2.le
      have hpos := h.2.2.2.2.2.1
      -- behind the first code
      have t189 : ∀ (i3 : Nat → Nat → Int32) (x3 : Int32) (cc : Nat × Int32) (op : mO), (CQ X w i0 l0 i3 l2 (nx X (nx X t)) δ ∧ (i3 3 8 = nI S.length ∧ (∀ k, k < S.length → i3 27 k = nI (S.getD (S.length - 1 - k) 0)) ∧ i3 3 9 = nI (sD S)) ∧ (i3 (mm_P (!w)) 18 = nI (dC δ + (oCs O ++ [cc]).length) ∧ cSeg (!w) i3 (dC δ) (oCs O ++ [cc])) ∧ FR3 w i0 i3) → (nx X (nx X t)).2.2 ≠ 1 → (nx X (nx X t)).2.2 ≠ 0 → oC op = cc :: (if g = true then [(7, 0)] else []) → ∃ i' l', mm_V 24 189 [some (.ref 3), some (.int (nI t.2.2)), some (.int (bI g)), some (.int x3)] [] (mm_Z m w i3 l2 e) = some (.inl (some (.int 1)), mm_Z m w i' l' e) ∧ CN X w i0 l0 i' l' (nx X (nx X (nx X t))) δ S (oCs (O ++ [op])) := by
        intro i3 x3 cc op h3 k1 k0 ho
        have gt3 := g2.1.tk.gt k1 k0
        have hl1 : (oCs O ++ [cc]).length = (oCs O).length + 1 := by rw [List.length_append]; rfl
        have hN3 : CN X w i0 l0 i3 l2 (nx X (nx X t)) δ S (oCs O ++ [cc]) := ⟨h3.1, h3.2.1, h3.2.2.1, h.2.2.2.1, h.2.2.2.2.1, by rw [hl1]; omega, h3.2.2.2⟩
        obtain ⟨i4, l4, p1, p2⟩ := hN3.adv (m := m) (e := e) k1
        rw [mr_24_189, p1, mb_l, mb_0, mr_24_196]
        cases g with
        | false =>
          rw [if_bf, mr_24_210]
          refine ⟨i4, l4, rfl, ?_⟩
          rw [oCs_app, oCs_1, ho]
          exact p2
        | true =>
          have ple := p2.le
          have hz := p2.1.tk.ok.2.2.2.1
          have hz2 := p2.1.xw.le
          rw [hl1] at ple
          obtain ⟨i5, q1, q2, q3, q4, q5⟩ := p2.cd (m := m) (e := e) (cc := (7, 0)) (x1 := 7) (x2 := 0) rfl (fun _ => rfl) (by rw [hl1]; omega)
          rw [if_bt, q1, mb_l, mb_0, mr_24_210]
          refine ⟨i5, l4, rfl, ?_⟩
          rw [oCs_app, oCs_1, ho, if_pos rfl]
          have ea : oCs O ++ cc :: [((7 : Nat), (0 : Int32))] = oCs O ++ [cc] ++ [(7, 0)] := by rw [List.append_assoc]; rfl
          rw [ea]
          refine ⟨q2, q3, q4, h.2.2.2.1, h.2.2.2.2.1, ?_, q5⟩
          rw [List.length_append, hl1]
          show dC δ + ((oCs O).length + 1 + 1) + S.length ≤ _
          omega
      rw [mr_24_65, g1, mb_l, mb_0, mr_24_72]
      have e216 : (nI t.2.2 = 216) ↔ t.2.2 = 216 := nI_eq (by omega) (by decide : 216 < 2 ^ 31)
      have e219' : (nI t.2.2 = 219) ↔ t.2.2 = 219 := nI_eq (by omega) (by decide : 219 < 2 ^ 31)
      have e217 : (nI t.2.2 < 217) ↔ t.2.2 < 217 := nI_ltI (by omega) (by decide : 217 < 2 ^ 31)
      have a91 : ∀ x3 : Int32, mm_V 24 91 [some (.ref 3), some (.int (nI t.2.2)), some (.int (bI g)), none] [.int x3] (mm_Z m w i2 l2 e) = mm_V 24 115 [some (.ref 3), some (.int (nI t.2.2)), some (.int (bI g)), some (.int x3)] [.int (nI (if t.2.2 < 217 then t.2.2 + 3 else t.2.2 - 3)), .int (nI (nx X (nx X t)).2.2)] (mm_Z m w i2 l2 e) := by
        intro x3
        rw [mr_24_91, g2.1.k3]
        by_cases z : t.2.2 < 217
        · rw [if_pos (e217.mpr z), if_pos z, na_3, nI_add]
        · rw [if_neg (fun y => z (e217.mp y)), if_neg z, na_3, na_sub (by omega)]
      have hty : (if nI t.2.2 = 216 then mm_V 24 91 [some (.ref 3), some (.int (nI t.2.2)), some (.int (bI g)), none] [.int 1] (mm_Z m w i2 l2 e) else if nI t.2.2 = 219 then mm_V 24 91 [some (.ref 3), some (.int (nI t.2.2)), some (.int (bI g)), none] [.int 1] (mm_Z m w i2 l2 e) else mm_V 24 91 [some (.ref 3), some (.int (nI t.2.2)), some (.int (bI g)), none] [.int 0] (mm_Z m w i2 l2 e)) = mm_V 24 115 [some (.ref 3), some (.int (nI t.2.2)), some (.int (bI g)), some (.int (bI (decide ((t.2.2 - 214) % 3 = 2))))] [.int (nI (if t.2.2 < 217 then t.2.2 + 3 else t.2.2 - 3)), .int (nI (nx X (nx X t)).2.2)] (mm_Z m w i2 l2 e) := by
        rw [a91, a91]
        by_cases z1 : t.2.2 = 216
        · rw [if_pos (e216.mpr z1), decide_eq_true (by omega)]; rfl
        · rw [if_neg (fun y => z1 (e216.mp y))]
          by_cases z2 : t.2.2 = 219
          · rw [if_pos (e219'.mpr z2), decide_eq_true (by omega)]; rfl
          · rw [if_neg (fun y => z2 (e219'.mp y)), decide_eq_false (by omega)]; rfl
      rw [hty, mr_24_115]
      have eq3 : (nI (nx X (nx X t)).2.2 = nI (if t.2.2 < 217 then t.2.2 + 3 else t.2.2 - 3)) ↔ (nx X (nx X t)).2.2 = (if t.2.2 < 217 then t.2.2 + 3 else t.2.2 - 3) := nI_eq (by omega) (by split <;> omega)
      have hz := g2.1.tk.ok.2.2.2.1
      have hz2 := g2.1.xw.le
      by_cases z1 : (nx X (nx X t)).2.2 = (if t.2.2 < 217 then t.2.2 + 3 else t.2.2 - 3)
      · have er : (0 : Int32) + mm_re (nI t.2.2 - 214) 3 = nI ((t.2.2 - 214) % 3) := by
          rw [show (214 : Int32) = nI 214 by decide, na_sub (by omega), na_3, na_re (by omega) (by omega), Int32.zero_add]
        obtain ⟨i3, c1, c2⟩ := g2.cd (m := m) (e := e) (cc := ((t.2.2 - 214) % 3, 0)) (x1 := nI ((t.2.2 - 214) % 3)) (x2 := 0) rfl (fun _ => rfl) (by omega)
        have kk : 214 ≤ (nx X (nx X t)).2.2 := by rw [z1]; split <;> omega
        obtain ⟨i4, l4, r1, r2⟩ := t189 i3 (bI (decide ((t.2.2 - 214) % 3 = 2))) ((t.2.2 - 214) % 3, 0) (3 + (t.2.2 - 214) % 3, g, 0) c2 (by omega) (by omega) (by rw [Nat.add_comm]; rfl)
        rw [if_pos (eq3.mpr z1), er, c1, mb_l, mb_0, mr_24_135, if_pos z1, ← hg]
        exact ⟨1, i4, l4, r1, rfl, r2⟩
      · rw [if_neg (fun y => z1 (eq3.mp y)), if_neg z1]
        by_cases z2 : (t.2.2 - 214) % 3 = 2
        · rw [decide_eq_true z2, if_bt, g2.1.k3]
          have e2 : (nI (nx X (nx X t)).2.2 = 2) ↔ (nx X (nx X t)).2.2 = 2 := nI_eq (by omega) (by decide : 2 < 2 ^ 31)
          by_cases z3 : dI δ (tLt X (nx X (nx X t))) < dL δ ∧ (dG δ (dI δ (tLt X (nx X (nx X t))))).2.1 < 2
          · have k2 : (nx X (nx X t)).2.2 = 2 := by
              have a1 := (h.1.dw.1.1 _ z3.1)
              have a2 := dI_at z3.1
              rw [a2] at a1
              by_cases y : (nx X (nx X t)).2.2 = 2 ∨ 200 ≤ (nx X (nx X t)).2.2
              · have := ((g2.1.tk.lt g2.1.xw).2.2 y).2.1
                rw [a1.2.2.2.1] at this
                exact this.symm
              · rw [tLt_no y] at a1
                exact absurd rfl a1.2.1
            have vv := (h.1.dw.v z3.1).2.2
            have ety : (if (nx X (nx X t)).2.2 = 42 then (400 : Int32) else if dI δ (tLt X (nx X (nx X t))) < dL δ ∧ (dG δ (dI δ (tLt X (nx X (nx X t))))).2.1 < 2 then nI (dV δ (dI δ (tLt X (nx X (nx X t))))) else -1) = nI (dV δ (dI δ (tLt X (nx X (nx X t))))) := by rw [if_neg (by omega), if_pos z3]
            rw [if_pos (e2.mpr k2), g2.1.types, ety, mb_l, mb_v, mr_24_157, if_neg (na_m1 (by omega)), if_pos (show (t.2.2 - 214) % 3 = 2 ∧ dI δ (tLt X (nx X (nx X t))) < dL δ ∧ (dG δ (dI δ (tLt X (nx X (nx X t))))).2.1 < 2 from ⟨z2, z3⟩)]
            have fin : ∀ (cv : Nat), (cv = 3 ∨ cv = 4) → ∀ op : mO, op = (cv + 3, decide ((nx X t).2.2 = 4), nI (dV δ (dI δ (tLt X (nx X (nx X t)))))) → ∃ x i' l', mm_V 24 177 [some (.ref 3), some (.int (nI t.2.2)), some (.int (bI g)), some (.int (bI true))] [.int (nI cv), .ref (mm_P (!w))] (mm_Z m w i2 l2 e) = some (.inl (some (.int x)), mm_Z m w i' l' e) ∧ (x = 1 ∧ CN X w i0 l0 i' l' (nx X (nx X (nx X t))) δ S (oCs (O ++ [op]))) := by
              intro cv hcv op hop
              obtain ⟨i3, c1, c2⟩ := g2.cd (m := m) (e := e) (cc := (cv, nI (dV δ (dI δ (tLt X (nx X (nx X t))))))) (x1 := nI cv) (x2 := nI (dV δ (dI δ (tLt X (nx X (nx X t)))))) rfl (fun _ => rfl) (by omega)
              obtain ⟨i4, l4, r1, r2⟩ := t189 i3 (bI true) (cv, nI (dV δ (dI δ (tLt X (nx X (nx X t)))))) op c2 (by omega) (by omega) (by rw [hop, ← hg]; rfl)
              rw [mr_24_177, g2.1.types, ety, mb_l, mb_v, mr_24_181, c1, mb_l, mb_0, mr_24_184]
              exact ⟨1, i4, l4, r1, rfl, r2⟩
            by_cases z4 : t.2.2 = 216
            · rw [if_pos (e216.mpr z4), if_pos z4]
              exact fin 3 (Or.inl rfl) _ rfl
            · rw [if_neg (fun y => z4 (e216.mp y)), if_neg z4]
              exact fin 4 (Or.inr rfl) _ rfl
          · rw [if_neg (show ¬ ((t.2.2 - 214) % 3 = 2 ∧ dI δ (tLt X (nx X (nx X t))) < dL δ ∧ (dG δ (dI δ (tLt X (nx X (nx X t))))).2.1 < 2) from fun y => z3 y.2)]
            by_cases k2 : (nx X (nx X t)).2.2 = 2
            · rw [if_pos (e2.mpr k2), g2.1.types, if_neg (show ¬ (nx X (nx X t)).2.2 = 42 by omega), if_neg z3, mb_l, mb_v, mr_24_157, if_pos rfl]
              exact ⟨0, i2, l2, rfl, rfl, g2.1.cf⟩
            · rw [if_neg (fun y => k2 (e2.mp y))]
              exact ⟨0, i2, l2, rfl, rfl, g2.1.cf⟩
        · rw [decide_eq_false z2, if_bf, if_neg (show ¬ ((t.2.2 - 214) % 3 = 2 ∧ dI δ (tLt X (nx X (nx X t))) < dL δ ∧ (dG δ (dI δ (tLt X (nx X (nx X t))))).2.1 < 2) from fun y => z2 y.1)]
          exact ⟨0, i2, l2, rfl, rfl, g2.1.cf⟩
    by_cases q4 : (nx X t).2.2 = 4
    · rw [if_pos (e4.mpr q4), mr_24_47, if_neg (by decide), if_pos (Or.inr q4)]
      exact t65 true (Or.inr q4) (by rw [decide_eq_true q4])
    · rw [if_neg (fun z => q4 (e4.mp z)), mr_24_47, if_pos rfl, f2.1.k3]
      by_cases q3 : (nx X t).2.2 = 3
      · rw [if_pos (e3.mpr q3), if_pos (Or.inl q3)]
        exact t65 false (Or.inl q3) (by rw [decide_eq_false q4])
      · rw [if_neg (fun z => q3 (e3.mp z)), if_neg (fun z => z.elim q3 q4)]
        exact ⟨0, i1, l1, rfl, rfl, f2.1.cf⟩
  · rw [if_neg qa]
    by_cases q1 : t.2.2 < 214
    · rw [if_pos (e214.mpr q1)]
      exact ⟨0, i, l, rfl, rfl, h.1.cf⟩
    · rw [if_neg (fun z => q1 (e214.mp z)), if_pos (e219.mpr (by omega))]
      exact ⟨0, i, l, rfl, rfl, h.1.cf⟩
end MM144
