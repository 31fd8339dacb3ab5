/-! CONDITIONS in the class: what waits, codes -/
section MM143
variable {X : mX} {t : m3} {w p : Bool} {i i' i0 : Nat → Nat → Int32} {l l' l0 : Nat → Nat → Int64} {δ δ' : mQ} {ρ : mP} {m : Nat} {e : Bool × Nat × Nat} {n k s a b c r d : Nat} {S : List Nat} {O : List mO} {x y v : Int32}
/-- what waits, well-formed; how many brackets and nots -/
def sW : List Nat → Prop
  | [] => True
  | x :: S => (x = 40 ∨ x = 213 ∨ (x = 212 ∧ S.headD 0 ≠ 212 ∧ S.headD 0 ≠ 213) ∨ (x = 211 ∧ S.headD 0 ≠ 211 ∧ S.headD 0 ≠ 212 ∧ S.headD 0 ≠ 213)) ∧ sW S
def sD : List Nat → Nat
  | [] => 0
  | x :: S => (if x = 40 ∨ x = 213 then 1 else 0) + sD S
theorem sW_len : ∀ (S : List Nat), sW S → S.length ≤ 3 * sD S + (if S.headD 0 = 212 then 2 else if S.headD 0 = 211 then 1 else 0)
  | [], _ => Nat.zero_le _
  | x :: S, h => by
    have ih := sW_len S h.2
    have e0 : (x :: S).headD 0 = x := rfl
    rw [List.length_cons, sD, e0]
    rcases h.1 with z | z | z | z
    · subst z
      have : (if S.headD 0 = 212 then 2 else if S.headD 0 = 211 then 1 else 0) ≤ 2 := by split <;> (try split) <;> omega
      rw [if_pos (Or.inl rfl), if_neg (by omega), if_neg (by omega)]
      omega
    · subst z
      have : (if S.headD 0 = 212 then 2 else if S.headD 0 = 211 then 1 else 0) ≤ 2 := by split <;> (try split) <;> omega
      rw [if_pos (Or.inr rfl), if_neg (by omega), if_neg (by omega)]
      omega
    · obtain ⟨z1, z2, z3⟩ := z
      subst z1
      rw [if_neg z2] at ih
      have : (if S.headD 0 = 211 then 1 else 0) ≤ 1 := by split <;> omega
      rw [if_neg (by omega), if_pos rfl]
      omega
    · obtain ⟨z1, z2, z3, z4⟩ := z
      subst z1
      rw [if_neg z3, if_neg z2] at ih
      rw [if_neg (by omega), if_neg (by omega), if_pos rfl]
      omega
theorem sW_32 (h : sW S) (hd : sD S ≤ 10) : S.length ≤ 32 := by
  have := sW_len S h
  have h2 : (if S.headD 0 = 212 then 2 else if S.headD 0 = 211 then 1 else 0) ≤ 2 := by split <;> (try split) <;> omega
  omega
theorem sW_el : ∀ (S : List Nat), sW S → ∀ x, x ∈ S → x = 40 ∨ x = 213 ∨ x = 212 ∨ x = 211
  | [], _, x, hx => by cases hx
  | y :: S, h, x, hx => by
    rcases List.mem_cons.mp hx with z | z
    · subst z
      rcases h.1 with q | q | q | q
      · exact Or.inl q
      · exact Or.inr (Or.inl q)
      · exact Or.inr (Or.inr (Or.inl q.1))
      · exact Or.inr (Or.inr (Or.inr q.1))
    · exact sW_el S h.2 x z
/-- what a release leaves -/
theorem rls_1 (hb : 40 < b) : ∀ (S : List Nat) (O : List mO), sW S → sW (rls b S O (sD S)).1 ∧ (rls b S O (sD S)).2.2 = sD (rls b S O (sD S)).1 ∧ sD (rls b S O (sD S)).1 ≤ sD S ∧ (rls b S O (sD S)).1.length ≤ S.length
  | [], O, h => ⟨trivial, rfl, Nat.le_refl _, Nat.le_refl _⟩
  | x :: S, O, h => by
    rw [rls]
    by_cases q : b ≤ x
    · rw [if_pos q]
      have ih := rls_1 hb S (O ++ [(213 - x, false, 0)]) h.2
      have e1 : (if x = 213 then sD (x :: S) - 1 else sD (x :: S)) = sD S := by
        rw [sD]
        by_cases z : x = 213
        · rw [if_pos z, if_pos (Or.inr z)]; omega
        · rw [if_neg z, if_neg (by omega)]; omega
      rw [e1]
      exact ⟨ih.1, ih.2.1, Nat.le_trans ih.2.2.1 (by rw [sD]; omega), Nat.le_trans ih.2.2.2 (by rw [List.length_cons]; omega)⟩
    · rw [if_neg q]
      exact ⟨h, rfl, Nat.le_refl _, Nat.le_refl _⟩
theorem rls_top (b : Nat) : ∀ (S : List Nat) (O : List mO) (d : Nat), (rls b S O d).1 = [] ∨ (rls b S O d).1.headD 0 < b
  | [], O, d => Or.inl rfl
  | x :: S, O, d => by
    rw [rls]
    by_cases q : b ≤ x
    · rw [if_pos q]; exact rls_top b S _ _
    · rw [if_neg q]; right; show x < b; omega
theorem rls_nil {O : List mO} : rls b [] O d = ([], O, d) := rfl
theorem rls_yes {z : Nat} (q : b ≤ z) : rls b (z :: S) O d = rls b S (O ++ [(213 - z, false, 0)]) (if z = 213 then d - 1 else d) := by rw [rls, if_pos q]
theorem rls_not {z : Nat} (q : ¬ b ≤ z) : rls b (z :: S) O d = (z :: S, O, d) := by rw [rls, if_neg q]
theorem rls_rls (hb : b ≤ 213) : ∀ (S : List Nat) (O : List mO) (d : Nat), rls b (rls 213 S O d).1 (rls 213 S O d).2.1 (rls 213 S O d).2.2 = rls b S O d
  | [], O, d => rfl
  | x :: S, O, d => by
    by_cases q : 213 ≤ x
    · rw [rls_yes q, rls_yes (show b ≤ x by omega)]; exact rls_rls hb S _ _
    · rw [rls_not q]
theorem oCs_app (O P : List mO) : oCs (O ++ P) = oCs O ++ oCs P := by
  unfold oCs; rw [List.flatMap_append]
theorem oCs_1 (op : mO) : oCs [op] = oC op := by
  unfold oCs; rw [List.flatMap_cons, List.flatMap_nil, List.append_nil]
/-- the limit's own cells stay -/
def FR3 (w : Bool) (i0 i : Nat → Nat → Int32) : Prop := ∀ k j, mm_P (!w) + 14 ≤ k → k ≤ mm_P (!w) + 16 → i k j = i0 k j
/-- the class within a condition -/
def CN (X : mX) (w : Bool) (i0 : Nat → Nat → Int32) (l0 : Nat → Nat → Int64) (i : Nat → Nat → Int32) (l : Nat → Nat → Int64) (t : m3) (δ : mQ) (S : List Nat) (cs : List (Nat × Int32)) : Prop := CQ X w i0 l0 i l t δ ∧ (i 3 8 = nI S.length ∧ (∀ k, k < S.length → i 27 k = nI (S.getD (S.length - 1 - k) 0)) ∧ i 3 9 = nI (sD S)) ∧ (i (mm_P (!w)) 18 = nI (dC δ + cs.length) ∧ cSeg (!w) i (dC δ) cs) ∧ sW S ∧ sD S ≤ 10 ∧ dC δ + cs.length + S.length ≤ t.1 ∧ FR3 w i0 i
variable {cs : List (Nat × Int32)}
theorem CN.q (h : CN X w i0 l0 i l t δ S cs) : CQ X w i0 l0 i l t δ := h.1
theorem CN.le (h : CN X w i0 l0 i l t δ S cs) : dC δ + cs.length + S.length ≤ 1200 := by
  have := h.2.2.2.2.2.1
  have := h.1.tk.ok.2.2.2.1
  have := h.1.xw.le
  omega
theorem CN.fr (h : CN X w i0 l0 i l t δ S cs) {t' : m3} (hq : CQ X w i0 l0 i' l' t' δ) (f : mG f28 i i') (ht : t.1 ≤ t'.1) : CN X w i0 l0 i' l' t' δ S cs := by
  have hp := mP_c (!w)
  obtain ⟨h1, ⟨h2, h3, h4⟩, ⟨h5, h6⟩, h7, h8, h9, h10⟩ := h
  exact ⟨hq, ⟨by rw [f _ _ (by unfold f28; omega)]; exact h2, fun k hk => by rw [f _ _ (by unfold f28; omega)]; exact h3 k hk, by rw [f _ _ (by unfold f28; omega)]; exact h4⟩, ⟨by rw [f _ _ (by unfold f28; omega)]; exact h5, h6.ku (fun k j a b _ => f _ _ (by unfold f28; omega))⟩, h7, h8, by omega, fun k j a b => by rw [f _ _ (by unfold f28; omega)]; exact h10 k j a b⟩
theorem CN.adv (h : CN X w i0 l0 i l t δ S cs) (hk : t.2.2 ≠ 1) : ∃ i' l', mm_V 132 0 [some (.ref 28), none] [] (mm_Z m w i l e) = some (.inl none, mm_Z m w i' l' e) ∧ CN X w i0 l0 i' l' (nx X t) δ S cs := by
  obtain ⟨i1, l1, f1, f2, f3, f4⟩ := h.1.adv (m := m) (e := e) hk
  exact ⟨i1, l1, f1, h.fr f2 f3 (h.1.tk.ge hk)⟩
/-- writes of the compiler's own cells -/
theorem CQ.own (h : CQ X w i0 l0 i l t δ) {kk j : Nat} {v : Int32} (hk : (kk = 3 ∧ j ≠ 4) ∨ kk = 27 ∨ (kk = mm_P (!w) ∧ j = 18)) : CQ X w i0 l0 (mm_ww i kk j v) l t δ := by
  have hp := mP_c (!w)
  have f1 : mG (fP w) i (mm_ww i kk j v) := mG.ww (by unfold fP; omega)
  obtain ⟨k1, k2, k3, k4⟩ := h.kc
  refine ⟨⟨h.1.1.fr f1, h.xw, h.tk, by rw [mw_k (by omega)]; exact k1, fun z => by rw [mw_k (by omega)]; exact k2 z, by rw [mw_k (by omega)]; exact k3, k4⟩, h.dc.ku (fun k' j' z => mw_ne (fun y => ?_)) (fun _ _ => rfl), h.dw, h.2.2.2.1.fr f1, h.2.2.2.2.1.tr f1, h.2.2.2.2.2⟩
  have := uC_in z
  omega
theorem uC_co {kk : Nat} (hk : kk = mm_P (!w) + 17 ∨ kk = mm_P (!w) + 18) {j : Nat} (hj : dC δ ≤ j) : ¬ uC w δ kk j := by
  have hp := mP_c (!w)
  intro z
  rcases z with z | z | z | z | z | z | z | z | z | z | z | z | z <;> omega
/-- a code more; what waits may be one less -/
theorem CN.cd (h : CN X w i0 l0 i l t δ S cs) {x1 x2 : Int32} {cc : Nat × Int32} (h1 : x1 = nI cc.1) (h2 : (cc.1 = 3 ∨ cc.1 = 4) → x2 = cc.2) (hl : dC δ + cs.length < 1200) : ∃ i', mm_V 109 0 [some (.ref (mm_P (!w))), some (.int x1), some (.int x2)] [] (mm_Z m w i l e) = some (.inl none, mm_Z m w i' l e) ∧ (CQ X w i0 l0 i' l t δ ∧ (i' 3 8 = nI S.length ∧ (∀ k, k < S.length → i' 27 k = nI (S.getD (S.length - 1 - k) 0)) ∧ i' 3 9 = nI (sD S)) ∧ (i' (mm_P (!w)) 18 = nI (dC δ + (cs ++ [cc]).length) ∧ cSeg (!w) i' (dC δ) (cs ++ [cc])) ∧ FR3 w i0 i') := by
  have hp := mP_c (!w)
  obtain ⟨q1, ⟨q2, q3, q4⟩, ⟨q5, q6⟩, q7, q8, q9, q10⟩ := h
  rw [mr_109_0, q5, show Int32.ofNat 1200 = nI 1200 from rfl, if_pos ((nI_ltI (by omega) (by omega)).mpr hl), if_neg (no_out hl (by omega)), if_neg (no_out hl (by omega)), nI_clamp (by omega), nI_1]
  have g : CQ X w i0 l0 (mm_ww (mm_ww (mm_ww i (mm_P (!w) + 17) (dC δ + cs.length) x1) (mm_P (!w) + 18) (dC δ + cs.length) x2) (mm_P (!w)) 18 (nI (dC δ + cs.length + 1))) l t δ := ((q1.jk (by omega) (uC_co (by omega) (by omega))).jk (by omega) (uC_co (by omega) (by omega))).own (by omega)
  refine ⟨_, rfl, g, ⟨?_, fun k hk => ?_, ?_⟩, ⟨?_, fun j c hj => ?_⟩, fun k j a b => by rw [mw_k (by omega), mw_k (by omega), mw_k (by omega)]; exact q10 k j a b⟩
  · rw [mw_k (by omega), mw_k (by omega), mw_k (by omega)]; exact q2
  · rw [mw_k (by omega), mw_k (by omega), mw_k (by omega)]; exact q3 k hk
  · rw [mw_k (by omega), mw_k (by omega), mw_k (by omega)]; exact q4
  · rw [mw_s, List.length_append]; rfl
  · rw [mw_k (by omega), mw_k (show mm_P (!w) + 17 ≠ mm_P (!w) + 18 by omega), mw_k (show mm_P (!w) + 18 ≠ mm_P (!w) by omega)]
    by_cases z : j < cs.length
    · rw [List.getElem?_append_left z] at hj
      rw [mw_j (by omega), mw_j (by omega), mw_k (by omega)]
      exact q6 j c hj
    · rw [List.getElem?_append_right (by omega)] at hj
      have ej : j = cs.length := by
        rcases Nat.lt_or_ge (j - cs.length) 1 with y | y
        · omega
        · rw [List.getElem?_eq_none (by exact y)] at hj; cases hj
      subst ej
      rw [Nat.sub_self] at hj
      have ec : cc = c := by injection hj
      subst ec
      rw [mw_s, mw_s]
      exact ⟨h1, h2⟩
theorem c_rls (hb : 210 < b ∧ b < 214) : ∀ (S : List Nat) (O : List mO) (i : Nat → Nat → Int32) (u2 : Option Value), CN X w i0 l0 i l t δ S (oCs O) → ∃ i', mm_V 23 0 [some (.ref 3), some (.int (nI b)), u2] [] (mm_Z m w i l e) = some (.inl none, mm_Z m w i' l e) ∧ CN X w i0 l0 i' l t δ (rls b S O (sD S)).1 (oCs (rls b S O (sD S)).2.1)
  | [], O, i, u2, h => by
    refine ⟨i, ?_, h⟩
    rw [mr_23_0, h.2.1.1, if_neg (by decide)]
  | z :: S, O, i, u2, h => by
    have hp := mP_c (!w)
    obtain ⟨q1, ⟨q2, q3, q4⟩, ⟨q5, q6⟩, q7, q8, q9, q10⟩ := h
    have hl := sW_32 q7 q8
    rw [List.length_cons] at hl
    have hz : z = 40 ∨ z = 213 ∨ z = 212 ∨ z = 211 := sW_el _ q7 z (List.mem_cons_self ..)
    have e1 : nI (z :: S).length - 1 = nI S.length := by rw [List.length_cons, nI_pred]
    have e27 : i 27 S.length = nI z := by
      have := q3 S.length (by rw [List.length_cons]; omega)
      rw [List.length_cons, show S.length + 1 - 1 - S.length = 0 by omega] at this
      exact this
    have hpos : (0 : Int32) < nI (z :: S).length := (nz_gt (by rw [List.length_cons]; omega)).mpr (by rw [List.length_cons]; omega)
    have e27' : i 27 (nI S.length).toNatClampNeg = nI z := by rw [nI_clamp (by omega), e27]
    rw [mr_23_0, q2, if_pos hpos, e1, if_neg (no_out (by omega) (by omega)), if_neg (no_out (by omega) (by omega))]
    simp only [e27']
    by_cases qb : b ≤ z
    · have e213 : (nI z = 213) ↔ z = 213 := nI_eq (by omega) (by decide : 213 < 2 ^ 31)
      have hs : sD (z :: S) = (if z = 213 then 1 else 0) + sD S := by
        rw [sD]
        congr 1
        by_cases y : z = 213
        · rw [if_pos y, if_pos (Or.inr y)]
        · rw [if_neg y, if_neg (by omega)]
      have e9 : nI (sD (z :: S)) - (if z = 213 then 1 else 0) = nI (sD S) := by
        rw [hs]
        by_cases y : z = 213
        · rw [if_pos y, if_pos y, Nat.add_comm, nI_pred]
        · rw [if_neg y, if_neg y, Nat.zero_add, Int32.sub_zero]
      have t59 : mm_V 23 59 [some (.ref 3), some (.int (nI b)), some (.int (nI z))] [.int (if z = 213 then 1 else 0), .int (i 3 9), .ref 3] (mm_Z m w (mm_ww i 3 8 (nI S.length)) l e) = mm_bi true (mm_V 109 0 [some (.ref (mm_P (!w))), some (.int (nI (z - 206))), some (.int 0)] [] (mm_Z m w (mm_ww (mm_ww i 3 8 (nI S.length)) 3 9 (nI (sD S))) l e)) (fun v μ => mm_V 23 78 [some (.ref 3), some (.int (nI b)), some (.int (nI z))] (v.toList ++ []) μ) := by
        rw [mr_23_59, q4, e9, show (5 : Int32) + nI z - 211 = nI (z - 206) by
          rw [na_5, nI_add, show (211 : Int32) = nI 211 by decide, na_sub (by omega), show 5 + z - 211 = z - 206 by omega]]
      have hN : CN X w i0 l0 (mm_ww (mm_ww i 3 8 (nI S.length)) 3 9 (nI (sD S))) l t δ S (oCs O) := by
        refine ⟨(q1.own (by omega)).own (by omega), ⟨by rw [mw_j (by omega), mw_s], fun k hk => ?_, mw_s⟩, ⟨by rw [mw_k (by omega), mw_k (by omega)]; exact q5, q6.ku (fun k j a b _ => by rw [mw_k (by omega), mw_k (by omega)])⟩, q7.2, by rw [hs] at q8; omega, by rw [List.length_cons] at q9; omega, fun k j a b => by rw [mw_k (by omega), mw_k (by omega)]; exact q10 k j a b⟩
        rw [mw_k (by omega), mw_k (by omega), q3 k (by rw [List.length_cons]; omega), List.length_cons, show S.length + 1 - 1 - k = (S.length - 1 - k) + 1 by omega, List.getD_cons_succ]
      have h12 := h_le q9 q1
      obtain ⟨i1, g1, g2, g3, g4, g5⟩ := hN.cd (m := m) (e := e) (cc := (z - 206, 0)) (x1 := nI (z - 206)) (x2 := 0) rfl (fun _ => rfl) (by rw [List.length_cons] at h12; omega)
      have eo : oCs O ++ [(z - 206, (0 : Int32))] = oCs (O ++ [(213 - z, false, 0)]) := by
        rw [oCs_app, oCs_1]
        congr 1
        rcases (show z = 213 ∨ z = 212 ∨ z = 211 by omega) with y | y | y <;> subst y <;> rfl
      rw [eo] at g4
      have hN2 : CN X w i0 l0 i1 l t δ S (oCs (O ++ [(213 - z, false, 0)])) := by
        refine ⟨g2, g3, g4, hN.2.2.2.1, hN.2.2.2.2.1, ?_, g5⟩
        rw [← eo, List.length_append]
        rw [List.length_cons] at q9
        show dC δ + ((oCs O).length + 1) + S.length ≤ t.1
        omega
      obtain ⟨i2, r1, r2⟩ := c_rls hb S (O ++ [(213 - z, false, 0)]) i1 (some (.int (nI z))) hN2
      rw [rls_yes qb, show (if z = 213 then sD (z :: S) - 1 else sD (z :: S)) = sD S by
        rw [hs]
        by_cases y : z = 213
        · rw [if_pos y, if_pos y]; omega
        · rw [if_neg y, if_neg y]; omega]
      refine ⟨i2, ?_, r2⟩
      rw [if_neg (fun y => by have := (nI_ltI (by omega) (by omega)).mp y; omega)]
      by_cases y : z = 213
      · rw [if_pos y] at t59
        rw [if_pos (e213.mpr y), t59, g1, mb_l, mb_0, mr_23_78, r1]
      · rw [if_neg y] at t59
        rw [if_neg (fun u => y (e213.mp u)), t59, g1, mb_l, mb_0, mr_23_78, r1]
    · rw [if_pos ((nI_ltI (by omega) (by omega)).mpr (by omega)), rls_not qb]
      exact ⟨i, rfl, q1, ⟨q2, q3, q4⟩, ⟨q5, q6⟩, q7, q8, q9, q10⟩
where
  h_le {S : List Nat} {O : List mO} {i : Nat → Nat → Int32} (h : dC δ + (oCs O).length + S.length ≤ t.1) (hq : CQ X w i0 l0 i l t δ) : dC δ + (oCs O).length + S.length ≤ 1200 := by
    have := hq.tk.ok.2.2.2.1
    have := hq.xw.le
    omega
end MM143
