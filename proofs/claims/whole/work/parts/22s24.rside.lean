/-! TOKENS of the reference: reading on, failing, sides, names -/
section MM160
variable {X : mX} {t : m3} {w : Bool} {i i' : Nat → Nat → Int32} {l : Nat → Nat → Int64} {δ : mQ} {m : Nat} {e : Bool × Nat × Nat} {n k s a b c p : Nat} {L : List Nat} {x y : Int32}
/-- the cells of a token -/
def fTk (k j : Nat) : Prop := k = 83 ∧ 42 ≤ j ∧ j ≤ 46
/-- the reference, at a token -/
def TZ (X : mX) (i : Nat → Nat → Int32) (t : m3) : Prop := XR X i ∧ XW X ∧ TK X t ∧ KR i t ∧ i 83 46 = -1
theorem TZ.fr (h : TZ X i t) (hf : mG (fun k j => ¬ (fTk k j ∨ (k = 83 ∧ j = 9) ∨ k = 88)) i i') : TZ X i' t := by
  obtain ⟨h1, h2, h3, ⟨k1, k2, k3, k4⟩, h5⟩ := h
  have q : ∀ j, 42 ≤ j → j ≤ 46 → i' 83 j = i 83 j := fun j a b => hf _ _ (fun z => z (Or.inl ⟨rfl, a, b⟩))
  exact ⟨h1.kp (hf _ _ (fun z => z (Or.inr (Or.inl ⟨rfl, rfl⟩)))) (fun j => hf _ _ (fun z => z (Or.inr (Or.inr rfl)))), h2, h3, ⟨by rw [q _ (by omega) (by omega)]; exact k1, fun z => by rw [q _ (by omega) (by omega)]; exact k2 z, by rw [q _ (by omega) (by omega)]; exact k3, by rw [q _ (by omega) (by omega)]; exact k4⟩, by rw [q _ (by omega) (by omega)]; exact h5⟩
theorem TZ.ww (h : TZ X i t) (hk : ¬ (fTk k a ∨ (k = 83 ∧ a = 9) ∨ k = 88)) : TZ X (mm_ww i k a x) t := h.fr (mG.ww hk)
theorem TZ.xw (h : TZ X i t) : XW X := h.2.1
theorem TZ.tk (h : TZ X i t) : TK X t := h.2.2.1
theorem TZ.ok (h : TZ X i t) : t.1 ≤ 1200 := Nat.le_trans h.tk.ok.2.2.2.1 h.xw.1
theorem TZ.k3 (h : TZ X i t) : i 83 43 = nI t.1 := h.2.2.2.1.1
theorem TZ.k4 (h : TZ X i t) (hk : t.2.2 ≠ 1) : i 83 44 = nI t.2.1 := h.2.2.2.1.2.1 hk
theorem TZ.k2 (h : TZ X i t) : i 83 42 = nI (rk t.2.2) := h.2.2.2.1.2.2.1
theorem TZ.k5 (h : TZ X i t) : i 83 45 = nI (rwd t.2.2) := h.2.2.2.1.2.2.2
theorem TZ.k6 (h : TZ X i t) : i 83 46 = -1 := h.2.2.2.2
theorem rk_lt (k : Nat) : rk k ≤ 12 := by
  unfold rk
  repeat' split
  all_goals omega
theorem rwd_lt {k : Nat} (h : k < 244) : rwd k < 60 := by
  unfold rwd
  repeat' split
  all_goals omega
theorem TZ.isK (h : TZ X i t) {x : Int32} (hx : x = nI k) (hk : k < 100) : (i 83 42 = x) ↔ rk t.2.2 = k := by
  have := rk_lt t.2.2
  rw [h.k2, hx]; exact nI_eq (by omega) (by omega)
theorem TZ.isW (h : TZ X i t) {x : Int32} (hx : x = nI k) (hk : k < 100) : (i 83 45 = x) ↔ rwd t.2.2 = k := by
  have := rwd_lt (h.tk.kd h.xw)
  rw [h.k5, hx]; exact nI_eq (by omega) (by omega)
theorem TZ.adv (h : TZ X i t) (hW : WDS l) (hk : t.2.2 ≠ 1) : ∃ i', mm_V 204 0 [some (.ref 83), none, none] [] (mm_Z m w i l e) = some (.inl none, mm_Z m w i' l e) ∧ TZ X i' (nx X t) ∧ mG fTk i i' := by
  obtain ⟨i1, e1, e2, e3⟩ := xr_adv (m := m) (w := w) (e := e) h.1 h.xw hW (h.k4 hk) (h.tk.ok.2.1 hk)
  exact ⟨i1, e1, ⟨h.1.kp (e3 _ _ (by omega)) (fun j => e3 _ _ (by omega)), h.xw, h.tk.nxt hk, e2, by rw [e3 _ _ (by omega)]; exact h.k6⟩, e3.mo (fun a b z => ⟨z.1, z.2.1, by omega⟩)⟩
theorem r_live (h : i 83 46 = -1) : mm_V 205 0 [some (.ref 83)] [] (mm_Z m w i l e) = some (.inl (some (.int 1)), mm_Z m w i l e) := by
  rw [mr_205_0, h, if_pos (by decide)]
theorem r_dead (h : i 83 46 = nI p) (hp : p ≤ 1200) : mm_V 205 0 [some (.ref 83)] [] (mm_Z m w i l e) = some (.inl (some (.int 0)), mm_Z m w i l e) := by
  rw [mr_205_0, h, if_neg (nI_nn (by omega))]
theorem r_fail (h : i 83 46 = -1) : mm_V 206 0 [some (.ref 83), some (.int x)] [] (mm_Z m w i l e) = some (.inl none, mm_Z m w (mm_ww i 83 46 x) l e) := by
  rw [mr_206_0, h, if_pos (by decide)]
theorem r_fails (h : i 83 46 = nI p) (hp : p ≤ 1200) : mm_V 206 0 [some (.ref 83), some (.int x)] [] (mm_Z m w i l e) = some (.inl none, mm_Z m w i l e) := by
  rw [mr_206_0, if_neg (by rw [h]; exact nI_nn (by omega)), ww_id]
/-- what a piece that takes tokens gives back: a number -/
def RI (X : mX) (m : Nat) (w : Bool) (l : Nat → Nat → Int64) (e : Bool × Nat × Nat) (i : Nat → Nat → Int32) (V : Option mm_R) (r : mE (m3 × Int32)) : Prop := ∃ x i', V = some (.inl (some (.int x)), mm_Z m w i' l e) ∧ mG fTk i i' ∧ (match r with
  | .inl p => i' 83 46 = nI p ∧ p ≤ 1200
  | .inr q => x = q.2 ∧ TZ X i' q.1)
/-- nothing -/
def RV (X : mX) (m : Nat) (w : Bool) (l : Nat → Nat → Int64) (e : Bool × Nat × Nat) (i : Nat → Nat → Int32) (V : Option mm_R) (r : mE m3) : Prop := ∃ i', V = some (.inl none, mm_Z m w i' l e) ∧ mG fTk i i' ∧ (match r with
  | .inl p => i' 83 46 = nI p ∧ p ≤ 1200
  | .inr q => TZ X i' q)
theorem TZ.fl (h : TZ X i t) : mm_V 206 0 [some (.ref 83), some (.int (i 83 43))] [] (mm_Z m w i l e) = some (.inl none, mm_Z m w (mm_ww i 83 46 (nI t.1)) l e) ∧ mG fTk i (mm_ww i 83 46 (nI t.1)) ∧ mm_ww i 83 46 (nI t.1) 83 46 = nI t.1 ∧ t.1 ≤ 1200 := by
  refine ⟨by rw [r_fail h.k6, h.k3], mG.ww ⟨rfl, by omega, by omega⟩, mw_s, h.ok⟩
/-- a sign that must stand here -/
theorem TZ.need (h : TZ X i t) (hW : WDS l) {x : Int32} (hx : x = nI k) (hk : k < 12) {c : Nat} (hc : (rk t.2.2 = k) ↔ t.2.2 = c) (h1 : c ≠ 1) : RV X m w l e i (mm_V 207 0 [some (.ref 83), some (.int x)] [] (mm_Z m w i l e)) (if t.2.2 = c then .inr (nx X t) else .inl t.1) := by
  rw [mr_207_0]
  by_cases q : t.2.2 = c
  · obtain ⟨i1, e1, e2, e3⟩ := h.adv (m := m) (w := w) (e := e) hW (by omega)
    rw [if_pos ((h.isK hx (by omega)).mpr (hc.mpr q)), if_pos q, mr_207_16, r_live h.k6, mb_l, mb_v, mr_207_20, if_neg (by decide), e1, mb_l, mb_0, mr_207_27]
    exact ⟨i1, rfl, e3, e2⟩
  · obtain ⟨e1, e2, e3, e4⟩ := h.fl (m := m) (w := w) (l := l) (e := e)
    rw [if_neg (fun z => q (hc.mp ((h.isK hx (by omega)).mp z))), if_neg q, e1, mb_l, mb_0, mr_207_16, r_dead e3 e4, mb_l, mb_v, mr_207_20, if_pos rfl, mr_207_27]
    exact ⟨_, rfl, e2, e3, e4⟩
theorem r_needs (h : i 83 46 = nI p) (hp : p ≤ 1200) : mm_V 207 0 [some (.ref 83), some (.int x)] [] (mm_Z m w i l e) = some (.inl none, mm_Z m w i l e) := by
  rw [mr_207_0]
  split
  · rw [mr_207_16, r_dead h hp, mb_l, mb_v, mr_207_20, if_pos rfl, mr_207_27]
  · rw [r_fails h hp, mb_l, mb_0, mr_207_16, r_dead h hp, mb_l, mb_v, mr_207_20, if_pos rfl, mr_207_27]
theorem rk_1 : (rk k = 1) ↔ (k = 2 ∨ 200 ≤ k) := by
  unfold rk
  constructor
  · intro h
    repeat' split at h
    all_goals omega
  · intro h
    rw [if_neg (by omega), if_pos h]
theorem kW_at {k : Nat} (h : kW L = k) (hk : 200 ≤ k) : WW.getD (k - 200) [] = L := by
  unfold kW at h
  split at h
  · rename_i q
    rw [← h, show 200 + wI WW L - 200 = wI WW L by omega]
    exact wI_at (by rw [WW_len]; exact q)
  · omega
/-- a side of a comparison -/
theorem TZ.sid (h : TZ X i t) : mm_V 208 0 [some (.ref 83), none, none] [] (mm_Z m w i l e) = some (.inl (some (.int (if 214 ≤ t.2.2 ∧ t.2.2 ≤ 219 then nI (t.2.2 - 214) else -1))), mm_Z m w i l e) := by
  rw [mr_208_0]
  by_cases q : t.2.2 = 2 ∨ 200 ≤ t.2.2
  · obtain ⟨-, -, hl⟩ := h.tk.lt h.xw
    obtain ⟨l1, l2, l3⟩ := hl q
    have o1 := h.tk.ok
    have o2 := o1.2.1 (by omega)
    have o3 := o1.2.2.1 (by omega)
    have hz := h.xw.1
    have eL : tLt X t = sg X t.1 (t.2.1 - t.1) := if_pos q
    rw [if_pos ((h.isK (x := 1) (k := 1) rfl (by omega)).mpr (rk_1.mpr q)), h.k4 (by omega), h.k3, na_2, nI_add]
    have bad : ¬ (214 ≤ t.2.2 ∧ t.2.2 ≤ 219) → (some (.inl (some (.int (-1))), mm_Z m w i l e) : Option mm_R) = some (.inl (some (.int (if 214 ≤ t.2.2 ∧ t.2.2 ≤ 219 then nI (t.2.2 - 214) else -1))), mm_Z m w i l e) := fun z => by rw [if_neg z]
    have side : 214 ≤ t.2.2 ∧ t.2.2 ≤ 219 → tLt X t = [(if (t.2.2 - 214) % 3 = 0 then 117 else if (t.2.2 - 214) % 3 = 1 then 114 else 116), 49 + (t.2.2 - 214) / 3] := fun z => by
      rw [← kW_at l2 (by omega), show t.2.2 - 200 = 14 + (t.2.2 - 214) by omega]
      exact side_w _ (by omega)
    by_cases q2 : t.2.1 = t.1 + 2
    · have e2 : tLt X t = [xs X t.1, xs X (t.1 + 1)] := by rw [eL, show t.2.1 - t.1 = 2 by omega]; rfl
      have b1 := h.xw.2 t.1 (by omega)
      have b2 := h.xw.2 (t.1 + 1) (by omega)
      rw [if_pos (by rw [q2]), nI_1, if_neg (no_out (by omega) (by omega)), nI_clamp (by omega), h.1.2 _ (by omega), in_n (a := 49) (b := 50) (c := xs X (t.1 + 1)) (xa := 49) (xb := 50) (by omega) (by omega) (by omega) rfl rfl, mb_l, mb_v, mr_208_39]
      by_cases q3 : 49 ≤ xs X (t.1 + 1) ∧ xs X (t.1 + 1) ≤ 50
      · rw [decide_eq_true q3, if_bt, h.k3, if_neg (no_out (by omega) (by omega)), nI_clamp (by omega), h.1.2 _ (by omega)]
        have fin : ∀ a, a < 3 → xs X t.1 = (if a = 0 then 117 else if a = 1 then 114 else 116) → mm_V 208 85 [some (.ref 83), some (.int (nI (xs X t.1))), none] [.int (nI a)] (mm_Z m w i l e) = some (.inl (some (.int (if 214 ≤ t.2.2 ∧ t.2.2 ≤ 219 then nI (t.2.2 - 214) else -1))), mm_Z m w i l e) := fun a ha hx => by
          have hk := side_k a ha (xs X (t.1 + 1) - 49) (by omega)
          rw [← hx, show 49 + (xs X (t.1 + 1) - 49) = xs X (t.1 + 1) by omega, ← e2, l2] at hk
          rw [mr_208_85, if_neg (nI_nn (by omega)), h.k3, nI_1, if_neg (no_out (by omega) (by omega)), nI_clamp (by omega), h.1.2 _ (by omega), show (49 : Int32) = nI 49 by decide, na_sub (by omega), na_3, na_mul, nI_add, if_pos (by omega), show t.2.2 - 214 = a + 3 * (xs X (t.1 + 1) - 49) by omega]
        by_cases c1 : xs X t.1 = 117
        · rw [if_pos (by rw [c1]; rfl)]; exact fin 0 (by omega) c1
        · rw [if_neg (show ¬ nI (xs X t.1) = 117 from fun z => c1 ((nI_eq (b := 117) (by omega) (by omega)).mp z))]
          by_cases c2 : xs X t.1 = 114
          · rw [if_pos (by rw [c2]; rfl)]; exact fin 1 (by omega) c2
          · rw [if_neg (show ¬ nI (xs X t.1) = 114 from fun z => c2 ((nI_eq (b := 114) (by omega) (by omega)).mp z))]
            by_cases c3 : xs X t.1 = 116
            · rw [if_pos (by rw [c3]; rfl)]; exact fin 2 (by omega) c3
            · rw [if_neg (show ¬ nI (xs X t.1) = 116 from fun z => c3 ((nI_eq (b := 116) (by omega) (by omega)).mp z)), mr_208_85, if_pos (by decide)]
              refine bad (fun z => ?_)
              have := side z
              rw [e2] at this
              have z1 := (List.cons.inj this).1
              split at z1
              · omega
              · split at z1 <;> omega
      · rw [decide_eq_false q3, if_bf]
        refine bad (fun z => q3 ?_)
        have := side z
        rw [e2] at this
        have z1 := (List.cons.inj (List.cons.inj this).2).1
        omega
    · rw [if_neg (fun z => q2 ((nI_eq (by omega) (by omega)).mp z))]
      refine bad (fun z => ?_)
      have := congrArg List.length (side z)
      rw [l3] at this
      have z2 : t.2.1 - t.1 = 2 := this
      omega
  · rw [if_neg (fun z => q (rk_1.mp ((h.isK (x := 1) (k := 1) rfl (by omega)).mp z))), if_neg (by omega)]
theorem rwd_0 (hk : k < 244) (h2 : 200 ≤ k) : (rwd k = 0) ↔ (214 ≤ k ∧ k ≤ 219) := by
  unfold rwd
  constructor
  · intro h
    repeat' split at h
    all_goals omega
  · intro h
    rw [if_neg (by omega), if_neg (by omega), if_neg (by omega), if_neg (by omega), if_neg (by omega), if_pos (by omega)]
theorem TZ.free (h : TZ X i t) : mm_V 209 0 [some (.ref 83)] [] (mm_Z m w i l e) = some (.inl (some (.int (bI (decide (t.2.2 = 2))))), mm_Z m w i l e) := by
  have hd := h.tk.kd h.xw
  rw [mr_209_0]
  by_cases q : t.2.2 = 2 ∨ 200 ≤ t.2.2
  · rw [if_pos ((h.isK (x := 1) (k := 1) rfl (by omega)).mpr (rk_1.mpr q))]
    rcases q with q | q
    · rw [if_pos ((h.isW (x := 0) (k := 0) rfl (by omega)).mpr (by rw [q]; rfl)), h.sid, mb_l, mb_v, mr_209_19, if_neg (show ¬ (214 ≤ t.2.2 ∧ t.2.2 ≤ 219) by omega), if_pos (by decide), decide_eq_true q]
      rfl
    · rw [decide_eq_false (show ¬ t.2.2 = 2 by omega)]
      by_cases q2 : 214 ≤ t.2.2 ∧ t.2.2 ≤ 219
      · rw [if_pos ((h.isW (x := 0) (k := 0) rfl (by omega)).mpr ((rwd_0 hd q).mpr q2)), h.sid, mb_l, mb_v, mr_209_19, if_pos q2, if_neg (nI_nn (by omega))]
        rfl
      · rw [if_neg (fun z => q2 ((rwd_0 hd q).mp ((h.isW (x := 0) (k := 0) rfl (by omega)).mp z)))]
        rfl
  · rw [if_neg (fun z => q (rk_1.mp ((h.isK (x := 1) (k := 1) rfl (by omega)).mp z))), decide_eq_false (show ¬ t.2.2 = 2 by omega)]
    rfl
/-- names of a draft, in the reference -/
def RN (i : Nat → Nat → Int32) (δ : mQ) : Prop := i 83 10 = nI (dL δ) ∧ ∀ j, j < dL δ → (∀ k, k < 9 → i 89 (9 * j + k) = nI ((dG δ j).1.getD k 0)) ∧ i 90 j = nI ((dG δ j).2.1 + 1) ∧ i 91 j = nI (dG δ j).2.2
theorem pad_eq : ∀ (A B : List Nat) (n : Nat), wG A → wG B → A.length ≤ n → B.length ≤ n → (∀ k, k < n → A.getD k 0 = B.getD k 0) → A = B
  | [], [], _, _, _, _, _, _ => rfl
  | [], b :: B, n, _, h2, _, h4, h => by
    have := h 0 (by simp at h4; omega)
    have := (h2 b (List.mem_cons_self ..)).1
    simp at *
    omega
  | a :: A, [], n, h1, _, h3, _, h => by
    have := h 0 (by simp at h3; omega)
    have := (h1 a (List.mem_cons_self ..)).1
    simp at *
    omega
  | a :: A, b :: B, n, h1, h2, h3, h4, h => by
    have e0 := h 0 (by simp at h3; omega)
    have e1 := pad_eq A B (n - 1) (fun c hc => h1 c (List.mem_cons_of_mem _ hc)) (fun c hc => h2 c (List.mem_cons_of_mem _ hc)) (by simp at h3; omega) (by simp at h4; omega) (fun k hk => by have := h (k + 1) (by omega); simpa using this)
    simp at e0
    rw [e0, e1]
theorem wG_get (h : wG L) (k : Nat) : L.getD k 0 < 128 := by
  by_cases q : k < L.length
  · rw [List.getD_eq_getElem?_getD, List.getElem?_eq_getElem q]
    exact (h _ (List.getElem_mem q)).2
  · rw [List.getD_eq_getElem?_getD, List.getElem?_eq_none (by omega)]; decide
theorem nf_2 (hd : DW δ) (hw : XW X) (ht : TK X t) (h : t.2.2 ≠ 2) : dI δ (tLt X t) = dL δ := by
  have h1 := dI_le δ (tLt X t)
  rcases Nat.lt_or_ge (dI δ (tLt X t)) (dL δ) with z | z
  · exfalso
    have h2 := dI_at z
    obtain ⟨-, a2, -, a4, -⟩ := hd.1.1 _ z
    rw [h2] at a2 a4
    by_cases q : t.2.2 = 2 ∨ 200 ≤ t.2.2
    · have := ((ht.lt hw).2.2 q).2.1
      omega
    · exact a2 (tLt_no q)
  · omega
/-- letters of a name, one after the other -/
theorem r_nm_loop (h : TZ X i t) (hn : RN i δ) (hd : DW δ) (h2 : t.2.2 = 2) (hj : n < dL δ) : ∀ (d k : Nat) (b : Bool), k + d = 9 → ∃ (u v : Option Value) (z : Bool), (z = true ↔ (b = true ∧ ∀ c, k ≤ c → c < 9 → (dG δ n).1.getD c 0 = (tLt X t).getD c 0)) ∧ mm_V 210 24 [some (.ref 83), some (.int x), some (.int (nI n)), some (.int (bI b)), some (.int (nI k))] [] (mm_Z m w i l e) = mm_V 210 4 [some (.ref 83), some (.int (if z = true then nI n else x)), some (.int (nI (n + 1))), u, v] [] (mm_Z m w i l e) := by
  have h42 := hd.l42
  obtain ⟨a1, -⟩ := hd.1.1 n hj
  obtain ⟨hl1, hl2, hl⟩ := h.tk.lt h.xw
  obtain ⟨-, -, l3⟩ := hl (Or.inl h2)
  have o1 := h.tk.ok
  have o2 := o1.2.1 (by omega)
  have hz := h.xw.1
  have eL : tLt X t = sg X t.1 (t.2.1 - t.1) := if_pos (Or.inl h2)
  intro d
  induction d with
  | zero =>
    intro k b hk
    refine ⟨some (.int (bI b)), some (.int (nI k)), b, ⟨fun z => ⟨z, fun c z1 z2 => by omega⟩, fun z => z.1⟩, ?_⟩
    rw [mr_210_24, if_neg (by rw [na_9]; exact fun z => by have := (nI_ltI (by omega) (by omega)).mp z; omega)]
    cases b
    · rw [if_bf, if_neg Bool.false_ne_true, nI_1]
    · rw [if_bt, if_pos rfl, nI_1]
  | succ d ih =>
    intro k b hk
    rw [mr_210_24, if_pos (by rw [na_9]; exact (nI_ltI (by omega) (by omega)).mpr (by omega)), nI_1]
    cases b
    · obtain ⟨u, v, z, e0, e1⟩ := ih (k + 1) false (by omega)
      rw [if_bf]
      exact ⟨u, v, z, ⟨fun y => absurd (e0.mp y).1 Bool.false_ne_true, fun y => absurd y.1 Bool.false_ne_true⟩, e1⟩
    · have step : ∀ c : Bool, (c = true ↔ (dG δ n).1.getD k 0 = (tLt X t).getD k 0) → ∃ (u v : Option Value) (z : Bool), (z = true ↔ (true = true ∧ ∀ c, k ≤ c → c < 9 → (dG δ n).1.getD c 0 = (tLt X t).getD c 0)) ∧ mm_V 210 24 [some (.ref 83), some (.int x), some (.int (nI n)), some (.int (bI c)), some (.int (nI (k + 1)))] [] (mm_Z m w i l e) = mm_V 210 4 [some (.ref 83), some (.int (if z = true then nI n else x)), some (.int (nI (n + 1))), u, v] [] (mm_Z m w i l e) := fun c hc => by
        obtain ⟨u, v, z, e0, e1⟩ := ih (k + 1) c (by omega)
        refine ⟨u, v, z, ⟨fun y => ?_, fun y => ?_⟩, e1⟩
        · obtain ⟨z1, z2⟩ := e0.mp y
          refine ⟨rfl, fun c y1 y2 => ?_⟩
          by_cases z3 : c = k
          · rw [z3]; exact hc.mp z1
          · exact z2 c (by omega) y2
        · exact e0.mpr ⟨hc.mpr (y.2 k (by omega) (by omega)), fun c y1 y2 => y.2 c (by omega) y2⟩
      have g1 := wG_get a1 k
      have g2 := wG_get hl1 k
      rw [if_bt, na_9, na_mul, nI_add, if_neg (no_out (by omega) (by omega)), nI_clamp (by omega), (hn.2 n hj).1 k (by omega), h.k3, nI_add, h.k4 (by omega)]
      by_cases q : t.1 + k < t.2.1
      · have ek : (tLt X t).getD k 0 = xs X (t.1 + k) := by rw [eL]; exact sg_get X _ _ _ (by omega)
        rw [if_pos ((nI_ltI (by omega) (by omega)).mpr q), if_neg (no_out (by omega) (by omega)), nI_clamp (by omega), h.1.2 _ (by omega), ← ek]
        by_cases q2 : (dG δ n).1.getD k 0 = (tLt X t).getD k 0
        · rw [if_pos (by rw [q2])]; exact step true ⟨fun _ => q2, fun _ => rfl⟩
        · rw [if_neg (fun z => q2 ((nI_eq (by omega) (by omega)).mp z))]; exact step false ⟨fun z => absurd z Bool.false_ne_true, fun z => absurd z q2⟩
      · have ek : (tLt X t).getD k 0 = 0 := by rw [List.getD_eq_getElem?_getD, List.getElem?_eq_none (by omega)]; rfl
        rw [if_neg (fun z => q ((nI_ltI (by omega) (by omega)).mp z))]
        by_cases q2 : (dG δ n).1.getD k 0 = (tLt X t).getD k 0
        · rw [if_pos (by rw [q2, ek]; rfl)]; exact step true ⟨fun _ => q2, fun _ => rfl⟩
        · rw [if_neg (fun z => q2 (by rw [ek]; exact (nI_eq (b := 0) (by omega) (by omega)).mp z))]; exact step false ⟨fun z => absurd z Bool.false_ne_true, fun z => absurd z q2⟩
theorem r_nms_loop (h : TZ X i t) (hn : RN i δ) (hd : DW δ) (h2 : t.2.2 = 2) : ∀ (d n : Nat) (x : Int32) (u v : Option Value), n + d = dL δ → mm_V 210 4 [some (.ref 83), some (.int x), some (.int (nI n)), u, v] [] (mm_Z m w i l e) = some (.inl (some (.int (if n ≤ dI δ (tLt X t) ∧ dI δ (tLt X t) < dL δ then nI (dI δ (tLt X t)) else x))), mm_Z m w i l e) := by
  have h42 := hd.l42
  intro d
  induction d with
  | zero =>
    intro n x u v hk
    rw [mr_210_4, hn.1, if_neg (fun z => by have := (nI_ltI (by omega) (by omega)).mp z; omega), if_neg (by omega)]
  | succ d ih =>
    intro n x u v hk
    obtain ⟨a1, -, a3, -⟩ := hd.1.1 n (by omega)
    obtain ⟨hl1, hl2, -⟩ := h.tk.lt h.xw
    rw [mr_210_4, hn.1, if_pos ((nI_ltI (by omega) (by omega)).mpr (by omega)), h.free, mb_l, mb_v, mr_210_16, decide_eq_true h2, if_bt]
    obtain ⟨u', v', z, e0, e1⟩ := r_nm_loop (m := m) (w := w) (l := l) (e := e) (x := x) h hn hd h2 (show n < dL δ by omega) 9 0 true (by omega)
    rw [show (1 : Int32) = bI true from rfl, show (0 : Int32) = nI 0 from rfl, e1, ih (n + 1) _ _ _ (by omega)]
    have em : (z = true) ↔ (dG δ n).1 = tLt X t := e0.trans ⟨fun z => pad_eq _ _ 9 a1 hl1 a3 hl2 (fun k hk => z.2 k (by omega) hk), fun z => ⟨rfl, fun c _ _ => by rw [z]⟩⟩
    simp only [em]
    have hle := dI_le δ (tLt X t)
    by_cases q : (dG δ n).1 = tLt X t
    · have e2 : dI δ (tLt X t) = n := by
        have z1 : ¬ n < dI δ (tLt X t) := fun z => dI_no z q
        have z2 := dI_at (show dI δ (tLt X t) < dL δ by omega)
        exact hd.1.2.1 _ _ (by omega) (by omega) (z2.trans q.symm)
      rw [e2, if_neg (by omega), if_pos q, if_pos (by omega)]
    · rw [if_neg q]
      by_cases q2 : n + 1 ≤ dI δ (tLt X t) ∧ dI δ (tLt X t) < dL δ
      · rw [if_pos q2, if_pos (by omega)]
      · rw [if_neg q2]
        by_cases q3 : n ≤ dI δ (tLt X t) ∧ dI δ (tLt X t) < dL δ
        · exact absurd (dI_at q3.2) (by rw [show dI δ (tLt X t) = n by omega]; exact q)
        · rw [if_neg q3]
/-- which name is here -/
theorem TZ.name (h : TZ X i t) (hn : RN i δ) (hd : DW δ) : mm_V 210 0 [some (.ref 83), none, none, none, none] [] (mm_Z m w i l e) = some (.inl (some (.int (if dI δ (tLt X t) < dL δ then nI (dI δ (tLt X t)) else -1))), mm_Z m w i l e) := by
  have h42 := hd.l42
  rw [mr_210_0]
  by_cases q : t.2.2 = 2
  · have e1 := r_nms_loop (m := m) (w := w) (l := l) (e := e) h hn hd q (dL δ) 0 (-1) none none (by omega)
    have em : (0 ≤ dI δ (tLt X t) ∧ dI δ (tLt X t) < dL δ) ↔ dI δ (tLt X t) < dL δ := ⟨fun z => z.2, fun z => ⟨Nat.zero_le _, z⟩⟩
    rw [show (0 : Int32) = nI 0 from rfl, e1]
    simp only [em]
  · rw [if_neg (by rw [nf_2 hd h.xw h.tk q]; omega), mr_210_4, hn.1]
    by_cases q2 : dL δ = 0
    · rw [if_neg (by rw [q2]; decide)]
    · rw [if_pos (show (0 : Int32) < nI (dL δ) from (nI_ltI (a := 0) (b := dL δ) (by omega) (by omega)).mpr (by omega)), h.free, mb_l, mb_v, mr_210_16, decide_eq_false q, if_bf]
end MM160
