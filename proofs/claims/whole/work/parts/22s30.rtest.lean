/-! COMPARISONS, in the reference -/
section MM166
variable {X : mX} {t : m3} {w : Bool} {i i' i0 : Nat → Nat → Int32} {l : Nat → Nat → Int64} {δ : mQ} {m : Nat} {e : Bool × Nat × Nat} {n k s a b c p g y : Nat} {S : List Nat} {O : List mO} {x x1 x2 : Int32}
theorem rkk_8 : (rk k = 8) ↔ k = 3 := by
  unfold rk
  repeat' split
  all_goals omega
theorem rkk_9 : (rk k = 9) ↔ k = 4 := by
  unfold rk
  repeat' split
  all_goals omega
theorem rkk_10 : (rk k = 10) ↔ k = 40 := by
  unfold rk
  repeat' split
  all_goals omega
theorem rkk_11 : (rk k = 11) ↔ k = 41 := by
  unfold rk
  repeat' split
  all_goals omega
/-- cells of a draft and of a condition -/
theorem RN.cd (h : RN i δ) {E : Nat} (hf : mG (fCd E) i i') : RN i' δ := h.ku (hf _ _ (by unfold fCd fTk; omega)) (fun j _ => hf _ _ (by unfold fCd fTk; omega)) (fun k j _ _ _ => hf _ _ (by unfold fCd fTk; omega))
/-- a condition at a token -/
def RCn (X : mX) (i0 i : Nat → Nat → Int32) (t : m3) (δ : mQ) (S : List Nat) (O : List mO) : Prop := TZ X i t ∧ RN i δ ∧ RBs i0 i δ S O ∧ dE δ + O.length + S.length ≤ t.1
theorem RCn.tk (h : RCn X i0 i t δ S O) {t' : m3} (ht : TZ X i' t') (hf : mG fTk i i') (hl : t.1 ≤ t'.1) : RCn X i0 i' t' δ S O := ⟨ht, h.2.1.ku (hf _ _ (by unfold fTk; omega)) (fun j _ => hf _ _ (by unfold fTk; omega)) (fun k j _ _ _ => hf _ _ (by unfold fTk; omega)), h.2.2.1.tk hf, Nat.le_trans h.2.2.2 hl⟩
/-- what a piece of a condition leaves at a fault -/
def RDd (i0 i : Nat → Nat → Int32) (δ : mQ) (p : Nat) : Prop := i 83 46 = nI p ∧ p ≤ 1200 ∧ ∃ S O, RBs i0 i δ S O
set_option maxRecDepth 20000
/-- a comparison -/
theorem r_cmp (h : RCn X i0 i t δ S O) (hW : WDS l) (hd : DW δ) : ∃ i', mm_V 229 0 [some (.ref 83), none, none, none, none] [] (mm_Z m w i l e) = some (.inl none, mm_Z m w i' l e) ∧ (match sCmp X t δ with
  | .inl p => RDd i0 i' δ p
  | .inr r => RCn X i0 i' r.1 δ S (O ++ [r.2])) := by
  have h42 := hd.l42
  obtain ⟨ht, hn, hB, hl⟩ := h
  have hkd := ht.tk.kd ht.xw
  rw [mr_229_0, ht.sid, mb_l, mb_v, mr_229_4]
  unfold sCmp
  by_cases q1 : ¬ (214 ≤ t.2.2 ∧ t.2.2 ≤ 219)
  · obtain ⟨e1, e2, e3, e4⟩ := ht.fl (m := m) (w := w) (l := l) (e := e)
    rw [if_neg q1, if_pos (by decide), e1, mb_l, mb_0, mr_229_17, if_neg q1]
    exact ⟨_, rfl, e3, e4, S, O, hB.tk e2⟩
  replace q1 := Decidable.not_not.mp q1
  obtain ⟨i1, k1, k2, k3⟩ := ht.adv (m := m) (w := w) (e := e) hW (by omega)
  have g1 := ht.tk.gt (by omega) (by omega)
  rw [if_pos q1, if_neg (nI_nn (by omega)), k1, mb_l, mb_0, mr_229_22, if_pos q1]
  have hB1 := hB.tk k3
  by_cases q2 : ¬ ((nx X t).2.2 = 3 ∨ (nx X t).2.2 = 4)
  · obtain ⟨e1, e2, e3, e4⟩ := k2.fl (m := m) (w := w) (l := l) (e := e)
    have z8 : ¬ i1 83 42 = 8 := fun z => q2 (Or.inl (rkk_8.mp ((k2.isK (x := 8) (k := 8) rfl (by omega)).mp z)))
    have z9 : ¬ i1 83 42 = 9 := fun z => q2 (Or.inr (rkk_9.mp ((k2.isK (x := 9) (k := 9) rfl (by omega)).mp z)))
    rw [if_neg z9, mr_229_38, if_neg z8, if_neg z9, e1, mb_l, mb_0, mr_229_65, if_neg q2]
    exact ⟨_, rfl, e3, e4, S, O, hB1.tk e2⟩
  replace q2 := Decidable.not_not.mp q2
  have e38 : ∃ N : Nat, N = (if decide ((nx X t).2.2 = 4) = true then 1000 else 0) ∧ (if i1 83 42 = 9 then mm_V 229 38 [some (.ref 83), some (.int (nI (t.2.2 - 214))), none, none, none] [.int 1000] (mm_Z m w i1 l e) else mm_V 229 38 [some (.ref 83), some (.int (nI (t.2.2 - 214))), none, none, none] [.int 0] (mm_Z m w i1 l e)) = mm_V 229 66 [some (.ref 83), some (.int (nI (t.2.2 - 214))), some (.int (nI N)), none, none] [] (mm_Z m w i1 l e) := by
    rcases q2 with q | q
    · have z8 : i1 83 42 = 8 := (k2.isK (x := 8) (k := 8) rfl (by omega)).mpr (rkk_8.mpr q)
      have z9 : ¬ i1 83 42 = 9 := by rw [z8]; decide
      refine ⟨0, by rw [decide_eq_false (by omega)]; rfl, ?_⟩
      rw [if_neg z9, mr_229_38, if_pos z8]; rfl
    · have z9 : i1 83 42 = 9 := (k2.isK (x := 9) (k := 9) rfl (by omega)).mpr (rkk_9.mpr q)
      have z8 : ¬ i1 83 42 = 8 := by rw [z9]; decide
      refine ⟨1000, by rw [decide_eq_true q]; rfl, ?_⟩
      rw [if_pos z9, mr_229_38, if_neg z8, if_pos z9]; rfl
  obtain ⟨N, hN, e38⟩ := e38
  have hN2 : N ≤ 1000 := by rw [hN]; split <;> omega
  obtain ⟨i2, f1, f2, f3⟩ := k2.adv (m := m) (w := w) (e := e) hW (by omega)
  have g2 := k2.tk.gt (by omega) (by omega)
  have hB2 := hB1.tk f3
  have hn1 : RN i1 δ := hn.ku (k3 _ _ (by unfold fTk; omega)) (fun j _ => k3 _ _ (by unfold fTk; omega)) (fun k j _ _ _ => k3 _ _ (by unfold fTk; omega))
  have hn2 : RN i2 δ := hn1.ku (f3 _ _ (by unfold fTk; omega)) (fun j _ => f3 _ _ (by unfold fTk; omega)) (fun k j _ _ _ => f3 _ _ (by unfold fTk; omega))
  rw [e38, mr_229_66, f1, mb_l, mb_0, mr_229_70, f2.sid, mb_l, mb_v, mr_229_74, f2.name hn2 hd, mb_l, mb_v, mr_229_79, if_pos q2]
  have hk2 := f2.tk.kd f2.xw
  have ok2 := f2.ok
  generalize hT : nx X (nx X t) = T at f2 g2 hk2 ok2
  obtain ⟨e1, e2, e3, e4⟩ := f2.fl (m := m) (w := w) (l := l) (e := e)
  have fail : ∀ a b c, ∃ i', mm_V 229 182 [some (.ref 83), some (.int (nI (t.2.2 - 214))), some (.int a), some (.int b), some (.int c)] [] (mm_Z m w i2 l e) = some (.inl none, mm_Z m w i' l e) ∧ RDd i0 i' δ T.1 := fun a b c => by
    rw [mr_229_182, e1, mb_l, mb_0, mr_229_190]
    exact ⟨_, rfl, e3, e4, S, O, hB2.tk e2⟩
  have kn0 : ∀ {i3 : Nat → Nat → Int32} {o : mO}, TZ X i3 T → RN i3 δ → RBs i0 i3 δ S (O ++ [o]) → T.2.2 ≠ 1 → T.2.2 ≠ 0 → ∃ i', mm_V 204 0 [some (.ref 83), none, none] [] (mm_Z m w i3 l e) = some (.inl none, mm_Z m w i' l e) ∧ RCn X i0 i' (nx X T) δ S (O ++ [o]) := fun {i3 o} z1 z2 z3 z4 z5 => by
    obtain ⟨i4, y1, y2, y3⟩ := z1.adv (m := m) (w := w) (e := e) hW z4
    have g3 := z1.tk.gt z4 z5
    refine ⟨i4, y1, y2, z2.ku (y3 _ _ (by unfold fTk; omega)) (fun j _ => y3 _ _ (by unfold fTk; omega)) (fun k j _ _ _ => y3 _ _ (by unfold fTk; omega)), z3.tk y3, ?_⟩
    have : (O ++ [o]).length = O.length + 1 := by simp
    rw [this]; omega
  have h38 : i2 83 38 = nI (dE δ + O.length) := hB2.2.2.1.1
  have push : ∀ (v1 v2 : Int32) (o : mO), (mm_ww (mm_ww (mm_ww i2 109 (dE δ + O.length) v1) 110 (dE δ + O.length) v2) 83 38 (nI (dE δ + O.length + 1)) 109 (dE δ + O.length) = v1 → mm_ww (mm_ww (mm_ww i2 109 (dE δ + O.length) v1) 110 (dE δ + O.length) v2) 83 38 (nI (dE δ + O.length + 1)) 110 (dE δ + O.length) = v2 → qT (mm_ww (mm_ww (mm_ww i2 109 (dE δ + O.length) v1) 110 (dE δ + O.length) v2) 83 38 (nI (dE δ + O.length + 1))) (dE δ + O.length) o) → T.2.2 ≠ 1 → T.2.2 ≠ 0 → ∃ i', mm_V 204 0 [some (.ref 83), none, none] [] (mm_Z m w (mm_ww (mm_ww (mm_ww i2 109 (dE δ + O.length) v1) 110 (dE δ + O.length) v2) 83 38 (nI (dE δ + O.length + 1))) l e) = some (.inl none, mm_Z m w i' l e) ∧ RCn X i0 i' (nx X T) δ S (O ++ [o]) := fun v1 v2 o ho z4 z5 => by
    have fr : mG (fCd (dE δ)) i2 (mm_ww (mm_ww (mm_ww i2 109 (dE δ + O.length) v1) 110 (dE δ + O.length) v2) 83 38 (nI (dE δ + O.length + 1))) := ((mG.ww (P := fCd (dE δ)) (by unfold fCd; omega)).tr (mG.ww (P := fCd (dE δ)) (by unfold fCd; omega))).tr (mG.ww (P := fCd (dE δ)) (by unfold fCd; omega))
    exact kn0 (((f2.ww (by unfold fTk; omega)).ww (by unfold fTk; omega)).ww (by unfold fTk; omega)) (hn2.cd fr) (hB2.co (by omega) (ho (by rw [mw_k (by omega), mw_k (by omega), mw_s]) (by rw [mw_k (by omega), mw_s]))) z4 z5
  have mr3 : ∀ a, a < 6 → mm_re (nI a) 3 = nI (a % 3) := fun a ha => by rw [na_3]; exact na_re (by omega) (by omega)
  have t114 : ∀ v : Int32, ∃ i', mm_V 229 114 [some (.ref 83), some (.int (nI (t.2.2 - 214))), some (.int (nI N)), some (.int v), some (.int (if dI δ (tLt X T) < dL δ then nI (dI δ (tLt X T)) else -1))] [] (mm_Z m w i2 l e) = some (.inl none, mm_Z m w i' l e) ∧ (match (if (t.2.2 - 214) % 3 = 2 ∧ dI δ (tLt X T) < dL δ ∧ (dG δ (dI δ (tLt X T))).2.1 < 2 then (.inr (nx X T, (if t.2.2 = 216 then 6 else 7, decide ((nx X t).2.2 = 4), nI (dV δ (dI δ (tLt X T))))) : mE (m3 × mO)) else .inl T.1) with
    | .inl p => RDd i0 i' δ p
    | .inr r => RCn X i0 i' r.1 δ S (O ++ [r.2])) := fun v => by
    rw [mr_229_114, mr3 _ (by omega)]
    by_cases c1 : (t.2.2 - 214) % 3 = 2
    · rw [if_pos (by rw [c1]; rfl)]
      by_cases c2 : dI δ (tLt X T) < dL δ
      · obtain ⟨a1, a2, a3⟩ := hn2.2 _ c2
        obtain ⟨v1, v2, v3⟩ := hd.v c2
        have z90 : i2 90 (nI (dI δ (tLt X T))).toNatClampNeg = nI ((dG δ (dI δ (tLt X T))).2.1 + 1) := by rw [nI_clamp (by omega), a2]
        have z91 : i2 91 (nI (dI δ (tLt X T))).toNatClampNeg = nI (dG δ (dI δ (tLt X T))).2.2 := by rw [nI_clamp (by omega), a3]
        have kT : T.2.2 = 2 := dI_k hd f2.xw f2.tk c2
        have hO : ¬ mm_out (nI (dI δ (tLt X T))) 50 := no_out (by omega) (by omega)
        have no : ¬ nI (dI δ (tLt X T)) < 0 := nI_nn (by omega)
        simp only [if_pos c2, if_neg no, if_neg hO, z90, z91]
        by_cases c3 : (dG δ (dI δ (tLt X T))).2.1 < 2
        · have fin : ∀ u : Int32, u = nI (dV δ (dI δ (tLt X T))) → ∃ i', mm_V 229 172 [some (.ref 83), some (.int (nI (t.2.2 - 214))), some (.int (nI N)), some (.int v), some (.int (nI (dI δ (tLt X T))))] [.int u, .int (nI (t.2.2 - 214) + nI N), .ref 83] (mm_Z m w i2 l e) = some (.inl none, mm_Z m w i' l e) ∧ RCn X i0 i' (nx X T) δ S (O ++ [(if t.2.2 = 216 then 6 else 7, decide ((nx X t).2.2 = 4), nI (dV δ (dI δ (tLt X T))))]) := fun u hu => by
            rw [mr_229_172, r_code h38 (by omega), mb_l, mb_0, mr_229_175]
            obtain ⟨i5, p1, p2⟩ := push (nI (t.2.2 - 214) + nI N) u (if t.2.2 = 216 then 6 else 7, decide ((nx X t).2.2 = 4), nI (dV δ (dI δ (tLt X T)))) (fun z1 z2 => by
              refine Or.inr (Or.inr (Or.inr (Or.inr ⟨?_, ?_, ?_, ?_⟩)))
              · show 6 ≤ (if t.2.2 = 216 then 6 else 7); split <;> omega
              · show (if t.2.2 = 216 then 6 else 7) ≤ 7; split <;> omega
              · rw [z1, nI_add, ← hN]
                show nI (t.2.2 - 214 + N) = nI ((if (if t.2.2 = 216 then 6 else 7) = 6 then 2 else 5) + N)
                by_cases y : t.2.2 = 216
                · rw [if_pos y, if_pos rfl, show t.2.2 - 214 = 2 by omega]
                · rw [if_neg y, if_neg (by decide), show t.2.2 - 214 = 5 by omega]
              · rw [z2]; exact hu) (by omega) (by omega)
            rw [p1, mb_l, mb_0, mr_229_179, mr_229_190]
            exact ⟨i5, rfl, p2⟩
          rw [if_pos (show nI ((dG δ (dI δ (tLt X T))).2.1 + 1) < 3 from (nI_ltI (b := 3) (by omega) (by omega)).mpr (by omega)), if_pos (show (t.2.2 - 214) % 3 = 2 ∧ dI δ (tLt X T) < dL δ ∧ (dG δ (dI δ (tLt X T))).2.1 < 2 from ⟨c1, c2, c3⟩)]
          by_cases c4 : (dG δ (dI δ (tLt X T))).2.1 = 0
          · rw [if_pos (by rw [c4]; rfl)]
            exact fin _ (by unfold dV; rw [c4]; simp)
          · rw [if_neg (show ¬ nI ((dG δ (dI δ (tLt X T))).2.1 + 1) = 1 from fun z => c4 (by have := (nI_eq (b := 1) (by omega) (by omega)).mp z; omega))]
            exact fin _ (by rw [na_100, nI_add]; unfold dV; rw [show (dG δ (dI δ (tLt X T))).2.1 = 1 by omega])
        · rw [if_neg (show ¬ nI ((dG δ (dI δ (tLt X T))).2.1 + 1) < 3 from fun z => c3 (by have := (nI_ltI (b := 3) (by omega) (by omega)).mp z; omega)), if_neg (show ¬ ((t.2.2 - 214) % 3 = 2 ∧ dI δ (tLt X T) < dL δ ∧ (dG δ (dI δ (tLt X T))).2.1 < 2) from fun z => c3 z.2.2)]
          exact fail _ _ _
      · simp only [if_neg c2]
        rw [if_pos (by decide), if_neg (show ¬ ((t.2.2 - 214) % 3 = 2 ∧ dI δ (tLt X T) < dL δ ∧ (dG δ (dI δ (tLt X T))).2.1 < 2) from fun z => c2 z.2.1)]
        exact fail _ _ _
    · rw [if_neg (show ¬ nI ((t.2.2 - 214) % 3) = 2 from fun z => c1 ((nI_eq (b := 2) (by omega) (by omega)).mp z)), if_neg (show ¬ ((t.2.2 - 214) % 3 = 2 ∧ dI δ (tLt X T) < dL δ ∧ (dG δ (dI δ (tLt X T))).2.1 < 2) from fun z => c1 z.1)]
      exact fail _ _ _
  have u114 : ∀ v : Int32, ∃ i', mm_V 229 114 [some (.ref 83), some (.int (nI (t.2.2 - 214))), some (.int (nI N)), some (.int v), some (.int (if dI δ (tLt X T) < dL δ then nI (dI δ (tLt X T)) else -1))] [] (mm_Z m w i2 l e) = some (.inl none, mm_Z m w i' l e) ∧ ((((t.2.2 - 214) % 3 = 2 ∧ dI δ (tLt X T) < dL δ ∧ (dG δ (dI δ (tLt X T))).2.1 < 2) ∧ RCn X i0 i' (nx X T) δ S (O ++ [(if t.2.2 = 216 then 6 else 7, decide ((nx X t).2.2 = 4), nI (dV δ (dI δ (tLt X T))))])) ∨ (¬ ((t.2.2 - 214) % 3 = 2 ∧ dI δ (tLt X T) < dL δ ∧ (dG δ (dI δ (tLt X T))).2.1 < 2) ∧ RDd i0 i' δ T.1)) := fun v => by
    obtain ⟨i', a1, a2⟩ := t114 v
    refine ⟨i', a1, ?_⟩
    by_cases cc : ((t.2.2 - 214) % 3 = 2 ∧ dI δ (tLt X T) < dL δ ∧ (dG δ (dI δ (tLt X T))).2.1 < 2)
    · rw [if_pos cc] at a2; exact Or.inl ⟨cc, a2⟩
    · rw [if_neg cc] at a2; exact Or.inr ⟨cc, a2⟩
  clear t114
  by_cases c0 : 214 ≤ T.2.2 ∧ T.2.2 ≤ 219
  · rw [if_pos c0, if_neg (nI_nn (by omega)), mr3 _ (by omega), mr3 _ (by omega)]
    by_cases c5 : T.2.2 = (if t.2.2 < 217 then t.2.2 + 3 else t.2.2 - 3)
    · have c6 : (T.2.2 - 214) % 3 = (t.2.2 - 214) % 3 ∧ T.2.2 - 214 ≠ t.2.2 - 214 := by
        split at c5 <;> omega
      rw [if_pos (by rw [c6.1]), if_neg (fun z => c6.2 ((nI_eq (by omega) (by omega)).mp z)), nI_add, r_code h38 (by omega), mb_l, mb_0, mr_229_107, if_pos c5]
      obtain ⟨i5, p1, p2⟩ := push (nI (t.2.2 - 214 + N)) (-1) (3 + (t.2.2 - 214) % 3, decide ((nx X t).2.2 = 4), 0) (fun z1 z2 => by
        refine Or.inr (Or.inr (Or.inr (Or.inl ⟨?_, ?_, ⟨t.2.2 - 214, ?_, ?_⟩, z2⟩)))
        · show 3 ≤ 3 + (t.2.2 - 214) % 3; omega
        · show 3 + (t.2.2 - 214) % 3 ≤ 5; omega
        · show t.2.2 - 214 = 3 + (t.2.2 - 214) % 3 - 3 ∨ t.2.2 - 214 = 3 + (t.2.2 - 214) % 3; omega
        · rw [z1, ← hN]) (by omega) (by omega)
      rw [p1, mb_l, mb_0, mr_229_111, mr_229_190]
      exact ⟨i5, rfl, p2⟩
    · rw [if_neg c5]
      by_cases c6 : (T.2.2 - 214) % 3 = (t.2.2 - 214) % 3
      · have c7 : T.2.2 - 214 = t.2.2 - 214 := by
          split at c5 <;> omega
        rw [if_pos (by rw [c6]), if_pos (by rw [c7])]
        obtain ⟨i', a1, a2⟩ := u114 (nI (T.2.2 - 214))
        rcases a2 with ⟨cc, a2⟩ | ⟨cc, a2⟩
        · rw [if_pos cc]; exact ⟨i', a1, a2⟩
        · rw [if_neg cc]; exact ⟨i', a1, a2⟩
      · rw [if_neg (fun z => c6 ((nI_eq (by omega) (by omega)).mp z))]
        obtain ⟨i', a1, a2⟩ := u114 (nI (T.2.2 - 214))
        rcases a2 with ⟨cc, a2⟩ | ⟨cc, a2⟩
        · rw [if_pos cc]; exact ⟨i', a1, a2⟩
        · rw [if_neg cc]; exact ⟨i', a1, a2⟩
  · rw [if_neg c0, if_pos (by decide), if_neg (show ¬ T.2.2 = (if t.2.2 < 217 then t.2.2 + 3 else t.2.2 - 3) from fun z => c0 (by split at z <;> omega))]
    obtain ⟨i', a1, a2⟩ := u114 (-1)
    rcases a2 with ⟨cc, a2⟩ | ⟨cc, a2⟩
    · rw [if_pos cc]; exact ⟨i', a1, a2⟩
    · rw [if_neg cc]; exact ⟨i', a1, a2⟩
end MM166
