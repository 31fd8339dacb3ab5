/-! FACES: context, node, record, about, result -/
section MM211
variable {X : mX} {w : Bool} {i i' : Nat → Nat → Int32} {l l' : Nat → Nat → Int64} {m : Nat} {e : Bool × Nat × Nat} {n k j p q c d b : Nat} {x x1 x2 x3 y v : Int32} {V : Option mm_R} {o : mOl} {R : List Int32} {π : mP} {ψ : mS} {f : Nat → Nat} {A : mA}
def wCx (x1 x2 : Int32) (o : mOl) : mA := if x2 = 0 then (if inR x1 7 = true then .inl (some (nI (hP (oH o) x1.toNatClampNeg) - 1)) else .inr 0) else if x2 = 1 then (if inR x1 31 = true then .inl (some (if tk (oT o) x1.toNatClampNeg = 0 then -1 else tc (oT o) x1.toNatClampNeg)) else .inr 0) else if x2 = 2 then (if inR x1 3 = true then .inl (some (nI (hC (oH o) x1.toNatClampNeg) - 1)) else .inr 0) else .inr 0
theorem wCx_0 : wCx x1 0 o = if inR x1 7 = true then .inl (some (nI (hP (oH o) x1.toNatClampNeg) - 1)) else .inr 0 := by unfold wCx; rw [if_pos rfl]
theorem wCx_1 : wCx x1 1 o = if inR x1 31 = true then .inl (some (if tk (oT o) x1.toNatClampNeg = 0 then -1 else tc (oT o) x1.toNatClampNeg)) else .inr 0 := by unfold wCx; rw [if_neg (by decide), if_pos rfl]
theorem wCx_2 : wCx x1 2 o = if inR x1 3 = true then .inl (some (nI (hC (oH o) x1.toNatClampNeg) - 1)) else .inr 0 := by unfold wCx; rw [if_neg (by decide), if_neg (by decide), if_pos rfl]
theorem wCx_n (h0 : x2 ≠ 0) (h1 : x2 ≠ 1) (h2 : x2 ≠ 2) : wCx x1 x2 o = .inr 0 := by unfold wCx; rw [if_neg h0, if_neg h1, if_neg h2]
theorem lt_4 : x < 4 ↔ ¬ 3 < x := by
  rw [Int32.lt_iff_toInt_lt, Int32.lt_iff_toInt_lt]
  show x.toInt < 4 ↔ ¬ 3 < x.toInt
  omega
theorem in_2 (h0 : x ≠ 0) (h1 : x ≠ 1) (h2 : x ≠ 2) : x < 0 ∨ (¬ x < 0 ∧ 2 < x) := by
  by_cases z : x < 0
  · exact Or.inl z
  · refine Or.inr ⟨z, ?_⟩
    by_cases z2 : 2 < x
    · exact z2
    · exfalso
      obtain ⟨a, a1, a2⟩ := i_nat (n := 2) z z2 (by omega)
      have a3 : a = 0 ∨ a = 1 ∨ a = 2 := by omega
      rcases a3 with a3 | a3 | a3
      · exact h0 (by rw [a2, a3]; rfl)
      · exact h1 (by rw [a2, a3]; rfl)
      · exact h2 (by rw [a2, a3]; rfl)
theorem c_context (ho : OC w i o) (hv : OV b o) : CSee m w l e i (mm_V 175 0 [some (.ref 0), some (.int x1), some (.int x2)] [] (mm_Z m w i l e)) (wCx x1 x2 o) := by
  have hT := ho.ct
  have hH := ho.ch
  have hW := hv.wt
  by_cases z0 : x2 = 0
  · subst z0
    rw [wCx_0, mr_175_0, if_neg (show ¬ (0 : Int32) < 0 by decide), if_neg (show ¬ (2 : Int32) < 0 by decide), if_pos rfl, mr_175_34, if_pos rfl, if_inL (d := 7) lt_8]
    by_cases hr : inR x1 7 = true
    · obtain ⟨k, k1, k2⟩ := inR_n (n := 7) hr (by omega)
      rw [if_pos hr, if_pos hr, k2, if_neg (no_out (by omega) (by omega)), nI_clamp (by omega), hH.1 k (by omega)]
      exact CSee.ok rfl
    · rw [if_neg hr, if_neg hr]; exact CSee.no rfl
  by_cases z1 : x2 = 1
  · subst z1
    rw [wCx_1, mr_175_0, if_neg (show ¬ (1 : Int32) < 0 by decide), if_neg (show ¬ (2 : Int32) < 1 by decide), if_neg (show ¬ (1 : Int32) = 0 by decide), if_pos rfl, mr_175_34, if_neg (show ¬ (1 : Int32) = 0 by decide), if_pos rfl, if_inL (d := 31) lt_32]
    by_cases hr : inR x1 31 = true
    · obtain ⟨k, k1, k2⟩ := inR_n (n := 31) hr (by omega)
      rw [if_pos hr, if_pos hr, k2, tc_isThere hT hW (by omega), mb_l, mb_v, mr_175_77, if_neg (no_out (a := k) (len := 32) (by omega) (by omega)), nI_clamp (by omega), (hT k (by omega)).2.1]
      by_cases q : tk (oT o) k = 0
      · rw [if_pos q, if_pos q, if_pos rfl]; exact CSee.ok rfl
      · rw [if_neg q, if_neg q, if_neg (show ¬ (1 : Int32) = 0 by decide)]; exact CSee.ok rfl
    · rw [if_neg hr, if_neg hr]; exact CSee.no rfl
  by_cases z2 : x2 = 2
  · subst z2
    rw [wCx_2, mr_175_0, if_neg (show ¬ (2 : Int32) < 0 by decide), if_neg (show ¬ (2 : Int32) < 2 by decide), if_neg (show ¬ (2 : Int32) = 0 by decide), if_neg (show ¬ (2 : Int32) = 1 by decide), mr_175_34, if_neg (show ¬ (2 : Int32) = 0 by decide), if_neg (show ¬ (2 : Int32) = 1 by decide), if_inL (d := 3) lt_4]
    by_cases hr : inR x1 3 = true
    · obtain ⟨k, k1, k2⟩ := inR_n (n := 3) hr (by omega)
      rw [if_pos hr, if_pos hr, k2, if_neg (no_out (by omega) (by omega)), nI_clamp (by omega), (hH.2.2.2 k (by omega)).1]
      exact CSee.ok rfl
    · rw [if_neg hr, if_neg hr]; exact CSee.no rfl
  rw [wCx_n z0 z1 z2, mr_175_0]
  rcases in_2 z0 z1 z2 with h | ⟨h, h'⟩
  · rw [if_pos h]; exact CSee.no rfl
  · rw [if_neg h, if_pos h']; exact CSee.no rfl
theorem r_context (ho : OR i o) (hv : OV b o) : RSee (fun _ => 1) m w l e i (mm_V 334 0 [some (.ref 83), some (.int x1), some (.int x2), none] [] (mm_Z m w i l e)) (wCx x1 x2 o) := by
  have hT := ho.ct
  have no : ∀ (x3 : Int32), RSee (fun _ => 1) m w l e i (mm_V 334 39 [some (.ref 83), some (.int x1), some (.int x2), some (.int x3)] [.int 0, .ref 83] (mm_Z m w i l e)) (.inr 0) := fun x3 => by
    rw [mr_334_39, if_pos rfl, mr_334_47, rr_10, mb_l, mb_v, mr_334_52, if_neg (by decide)]
    exact RSee.no (c := 0) rfl
  have ok : ∀ (x3 : Int32), mm_V 334 39 [some (.ref 83), some (.int x1), some (.int x2), some (.int x3)] [.int 1, .ref 83] (mm_Z m w i l e) = mm_V 334 52 [some (.ref 83), some (.int x1), some (.int x2), some (.int x3)] [.int 0] (mm_Z m w (mm_ww i 83 0 (nI 0)) l e) := fun x3 => by
    rw [mr_334_39, if_neg (by decide), mr_334_47, rr_00, mb_l, mb_v]
  have f5 : mm_ww i 83 0 (nI 0) 83 5 = i 83 5 := mw_j (by decide)
  have ff : ∀ k, 84 ≤ k → mm_ww i 83 0 (nI 0) k = i k := fun k hk => mw_k (by omega)
  by_cases z0 : x2 = 0
  · subst z0
    rw [wCx_0, mr_334_0, if_pos rfl, mr_334_29, rf_in, mb_l, mb_v]
    show RSee (fun _ => 1) m w l e i (mm_V 334 39 [some (.ref 83), some (.int x1), some (.int 0), some (.int 8)] [.int (bI (inR x1 7)), .ref 83] (mm_Z m w i l e)) _
    cases hr : inR x1 7 with
    | false => rw [if_neg Bool.false_ne_true]; exact no 8
    | true =>
      obtain ⟨k, k1, k2⟩ := inR_n (n := 7) hr (by omega)
      have t := ok 8
      have t : mm_V 334 39 [some (.ref 83), some (.int x1), some (.int 0), some (.int 8)] [.int (bI true), .ref 83] (mm_Z m w i l e) = _ := t
      rw [if_pos rfl, t, mr_334_52, if_pos rfl, f5, if_pos rfl, k2, if_neg (no_out (by omega) (by omega)), nI_clamp (by omega), ff 121 (by omega)]
      cases o with
      | none =>
        have h : NR i := ho
        rw [if_pos h.2.2.2]
        exact RSee.ok rfl
      | some q =>
        have h : RS q.1 i q.2.2 := ho.1
        rw [h.2.2.2.2.2.2, if_neg (by decide), h.2.2.2.1.1 k (by omega)]
        exact RSee.ok rfl
  by_cases z1 : x2 = 1
  · subst z1
    rw [wCx_1, mr_334_0, if_neg (show ¬ (1 : Int32) = 0 by decide), if_pos rfl, mr_334_29, rf_in, mb_l, mb_v]
    show RSee (fun _ => 1) m w l e i (mm_V 334 39 [some (.ref 83), some (.int x1), some (.int 1), some (.int 32)] [.int (bI (inR x1 31)), .ref 83] (mm_Z m w i l e)) _
    cases hr : inR x1 31 with
    | false => rw [if_neg Bool.false_ne_true]; exact no 32
    | true =>
      obtain ⟨k, k1, k2⟩ := inR_n (n := 31) hr (by omega)
      have t := ok 32
      have t : mm_V 334 39 [some (.ref 83), some (.int x1), some (.int 1), some (.int 32)] [.int (bI true), .ref 83] (mm_Z m w i l e) = _ := t
      have hk := hT k (by omega)
      rw [if_pos rfl, t, mr_334_52, if_pos rfl, f5, if_neg (show ¬ (1 : Int32) = 0 by decide), if_neg (show ¬ (1 : Int32) = 2 by decide), k2, if_neg (no_out (by omega) (by omega)), if_neg (no_out (by omega) (by omega)), nI_clamp (by omega), ff 113 (by omega), ff 114 (by omega), hk.1, hk.2.1]
      cases o with
      | none =>
        have h : NR i := ho
        rw [if_pos h.2.2.2]
        exact RSee.ok rfl
      | some q =>
        have h : RS q.1 i q.2.2 := ho.1
        rw [h.2.2.2.2.2.2, if_neg (show ¬ (1 : Int32) = 0 by decide)]
        by_cases z : tk (oT (some q)) k = 0
        · rw [if_pos z, if_pos (show nI (tk (oT (some q)) k) = 0 by rw [z]; rfl)]; exact RSee.ok rfl
        · have hw := (hv.wt k (by omega)).1
          rw [if_neg z, if_neg (show ¬ nI (tk (oT (some q)) k) = 0 from fun y => z ((nI_eq (b := 0) (by omega) (by omega)).mp y))]; exact RSee.ok rfl
  by_cases z2 : x2 = 2
  · subst z2
    rw [wCx_2, mr_334_0, if_neg (show ¬ (2 : Int32) = 0 by decide), if_neg (show ¬ (2 : Int32) = 1 by decide), if_pos rfl, mr_334_29, rf_in, mb_l, mb_v]
    show RSee (fun _ => 1) m w l e i (mm_V 334 39 [some (.ref 83), some (.int x1), some (.int 2), some (.int 4)] [.int (bI (inR x1 3)), .ref 83] (mm_Z m w i l e)) _
    cases hr : inR x1 3 with
    | false => rw [if_neg Bool.false_ne_true]; exact no 4
    | true =>
      obtain ⟨k, k1, k2⟩ := inR_n (n := 3) hr (by omega)
      have t := ok 4
      have t : mm_V 334 39 [some (.ref 83), some (.int x1), some (.int 2), some (.int 4)] [.int (bI true), .ref 83] (mm_Z m w i l e) = _ := t
      rw [if_pos rfl, t, mr_334_52, if_pos rfl, f5, if_neg (show ¬ (2 : Int32) = 0 by decide), if_pos rfl, k2, if_neg (no_out (by omega) (by omega)), nI_clamp (by omega), ff 127 (by omega)]
      cases o with
      | none =>
        have h : NR i := ho
        rw [if_pos h.2.2.2]
        exact RSee.ok rfl
      | some q =>
        have h : RS q.1 i q.2.2 := ho.1
        rw [h.2.2.2.2.2.2, if_neg (by decide), (h.2.2.2.1.2.2.2 k (by omega)).1]
        exact RSee.ok rfl
  rw [wCx_n z0 z1 z2, mr_334_0, if_neg z0, if_neg z1, if_neg z2, mr_334_29, rf_in, mb_l, mb_v]
  have e0 : decide (¬ x1 < 0 ∧ ¬ (0 - 1 : Int32) < x1) = false := by
    refine decide_eq_false (fun z => ?_)
    have h1 := z.1
    have h2 := z.2
    rw [show (0 - 1 : Int32) = -1 by decide] at h2
    rw [Int32.lt_iff_toInt_lt] at h1 h2
    have h1 : ¬ x1.toInt < 0 := h1
    have h2 : ¬ (-1 : Int) < x1.toInt := h2
    omega
  rw [e0]
  exact no 0
end MM211
section MM212
variable {X : mX} {w : Bool} {i i' : Nat → Nat → Int32} {l l' : Nat → Nat → Int64} {m : Nat} {e : Bool × Nat × Nat} {n k j p q c d b : Nat} {x x1 x2 x3 y v : Int32} {V : Option mm_R} {o : mOl} {R : List Int32} {π : mP} {ψ : mS} {f : Nat → Nat} {A : mA}
/-- what a node tells: x2 = 0 its class, 1 its size, 2 its links, from 3 on its content -/
def nTl (τ : mT) (n : Nat) (x2 : Int32) : Int32 := if x2 = 0 then nI (tk τ n - 1) else if x2 = 1 then nI (ts τ n) else if x2 = 2 then nI (tL τ n) else if tk τ n = 2 then nI (tm τ n (x2.toNatClampNeg - 3) + 100 * td τ n (x2.toNatClampNeg - 3)) else tb τ n (x2.toNatClampNeg - 3)
def wNo (x1 x2 : Int32) (o : mOl) : mA := if (inR x1 31 && decide (¬ x2 < 0)) = true then (if tk (oT o) x1.toNatClampNeg ≠ 0 ∧ x2 - 3 < nI (ts (oT o) x1.toNatClampNeg) then .inl (some (nTl (oT o) x1.toNatClampNeg x2)) else .inr 3) else .inr 0
theorem x_ge (h0 : ¬ x < 0) : ∃ k, k < 2 ^ 31 ∧ x = nI k := by
  obtain ⟨a, a1, a2⟩ := i_nat (n := 2 ^ 31 - 1) h0 (fun z => by
    rw [Int32.lt_iff_toInt_lt, nI_toInt (by omega)] at z
    have := x.toInt_lt
    omega) (by omega)
  exact ⟨a, by omega, a2⟩
/-- a small number behind 3 -/
theorem x_3 (h0 : ¬ x < 0) (hn : n ≤ 24) : (∃ k, k < 3 ∧ x = nI k ∧ x - 3 < nI n) ∨ (∃ k, x = nI (k + 3) ∧ x - 3 = nI k ∧ k + 3 < 2 ^ 31 ∧ (x - 3 < nI n ↔ k < n)) := by
  obtain ⟨k, k1, k2⟩ := x_ge h0
  by_cases z : k < 3
  · refine Or.inl ⟨k, z, k2, ?_⟩
    have : nI k - 3 < 0 := by
      have a3 : k = 0 ∨ k = 1 ∨ k = 2 := by omega
      rcases a3 with a3 | a3 | a3 <;> rw [a3] <;> decide
    rw [k2, Int32.lt_iff_toInt_lt, nI_toInt (by omega)]
    rw [Int32.lt_iff_toInt_lt] at this
    have : (nI k - 3).toInt < 0 := this
    omega
  · have e1 : x - 3 = nI (k - 3) := by rw [k2, show (3 : Int32) = nI 3 from rfl, na_sub (by omega)]
    refine Or.inr ⟨k - 3, by rw [k2]; congr 1; omega, e1, by omega, ?_⟩
    rw [e1]
    exact nI_ltI (by omega) (by omega)
theorem nTl_0 {τ : mT} : nTl τ n 0 = nI (tk τ n - 1) := by unfold nTl; rw [if_pos rfl]
theorem nTl_1 {τ : mT} : nTl τ n 1 = nI (ts τ n) := by unfold nTl; rw [if_neg (by decide), if_pos rfl]
theorem nTl_2 {τ : mT} : nTl τ n 2 = nI (tL τ n) := by unfold nTl; rw [if_neg (by decide), if_neg (by decide), if_pos rfl]
theorem nTl_k {τ : mT} (hk : k < 100) : nTl τ n (nI (k + 3)) = if tk τ n = 2 then nI (tm τ n k + 100 * td τ n k) else tb τ n k := by
  have a : ∀ c, c < 3 → ¬ nI (k + 3) = nI c := fun c hc z => by have := (nI_eq (by omega) (by omega)).mp z; omega
  unfold nTl
  rw [if_neg (show ¬ nI (k + 3) = 0 from a 0 (by omega)), if_neg (show ¬ nI (k + 3) = 1 from a 1 (by omega)), if_neg (show ¬ nI (k + 3) = 2 from a 2 (by omega)), nI_clamp (by omega), Nat.add_sub_cancel]
theorem c_node (ho : OC w i o) (hv : OV b o) : CSee m w l e i (mm_V 176 0 [some (.ref 0), some (.int x1), some (.int x2), none] [] (mm_Z m w i l e)) (wNo x1 x2 o) := by
  have hT := ho.ct
  have hW := hv.wt
  rw [mr_176_0, if_inL (d := 31) lt_32, wNo]
  cases hr : inR x1 31 with
  | false => rw [if_neg Bool.false_ne_true, if_neg (by simp)]; exact CSee.no rfl
  | true =>
    obtain ⟨n, n1, n2⟩ := inR_n (n := 31) hr (by omega)
    rw [if_pos rfl, n2, nI_clamp (by omega)]
    by_cases z2 : x2 < 0
    · rw [if_pos z2, if_neg (by simp [z2])]; exact CSee.no rfl
    · obtain ⟨w1, w2, w3⟩ := hW n (by omega)
      obtain ⟨t1, t2, t3, t4, t5⟩ := hT n (by omega)
      rw [if_neg z2, if_pos (by simp [z2]), tc_isThere hT hW (by omega), mb_l, mb_v, mr_176_37]
      by_cases zk : tk (oT o) n = 0
      · rw [if_pos zk, if_pos rfl, if_neg (fun y => y.1 zk)]; exact CSee.no rfl
      · rw [if_neg zk, if_neg (show ¬ (1 : Int32) = 0 by decide), if_neg (no_out (by omega) (by omega)), if_neg (no_out (by omega) (by omega)), nI_clamp (by omega), t3]
        rcases x_3 z2 w2 with ⟨k, k1, k2, k3⟩ | ⟨k, k1, k2, k3, k4⟩
        · rw [if_pos k3, if_pos (show tk (oT o) n ≠ 0 ∧ x2 - 3 < nI (ts (oT o) n) from ⟨zk, k3⟩)]
          have a3 : k = 0 ∨ k = 1 ∨ k = 2 := by omega
          rcases a3 with a3 | a3 | a3
          · subst a3
            have k2 : x2 = 0 := k2
            subst k2
            rw [nTl_0, if_pos rfl, tc_isDirectory hT hW (by omega), mb_l, mb_v, mr_176_71]
            by_cases zd : tk (oT o) n = 2
            · rw [if_pos zd, if_neg (show ¬ (1 : Int32) = 0 by decide), zd]; exact CSee.ok rfl
            · rw [if_neg zd, if_pos rfl, show tk (oT o) n - 1 = 0 by omega]; exact CSee.ok rfl
          · subst a3
            have k2 : x2 = 1 := k2
            subst k2
            rw [nTl_1, if_neg (show ¬ (1 : Int32) = 0 by decide), if_pos rfl]; exact CSee.ok rfl
          · subst a3
            have k2 : x2 = 2 := k2
            subst k2
            rw [nTl_2, if_neg (show ¬ (2 : Int32) = 0 by decide), if_neg (show ¬ (2 : Int32) = 1 by decide), if_pos rfl, tc_linksOf hT hW (by omega), mb_l, mb_v, mr_176_102, mr_176_113]; exact CSee.ok rfl
        · by_cases kn : k < ts (oT o) n
          · have a : ∀ c, c < 3 → ¬ x2 = nI c := fun c hc z => by rw [k1] at z; have := (nI_eq (by omega) (by omega)).mp z; omega
            rw [if_pos (k4.mpr kn), if_pos (show tk (oT o) n ≠ 0 ∧ x2 - 3 < nI (ts (oT o) n) from ⟨zk, k4.mpr kn⟩), if_neg (show ¬ x2 = 0 from a 0 (by omega)), if_neg (show ¬ x2 = 1 from a 1 (by omega)), if_neg (show ¬ x2 = 2 from a 2 (by omega)), k2, tc_contentAt hT hW (by omega) (by omega), mb_l, mb_v, mr_176_113, if_pos kn, k1, nTl_k (by omega)]
            by_cases zd : tk (oT o) n = 2
            · rw [if_pos zd, t5 zd k kn]; exact CSee.ok rfl
            · rw [if_neg zd, t4 (by omega) k kn]; exact CSee.ok rfl
          · rw [if_neg (fun y => kn (k4.mp y)), if_neg (fun y => kn (k4.mp y.2))]; exact CSee.no rfl
def fNo (c : Nat) : Nat := if c = 0 then 1 else 2
theorem r_node (ho : OR i o) (hv : OV b o) : RSee fNo m w l e i (mm_V 335 0 [some (.ref 83), some (.int x1), some (.int x2), none, none] [] (mm_Z m w i l e)) (wNo x1 x2 o) := by
  have hT := ho.ct
  have hW := hv.wt
  have bad : RSee fNo m w l e i (mm_V 335 19 [some (.ref 83), some (.int x1), some (.int x2), none, none] [.int 0] (mm_Z m w i l e)) (.inr 0) := by
    rw [mr_335_19, if_pos rfl, mr_335_78, if_pos rfl, if_pos rfl, mr_335_104, rr_10, mb_l, mb_v, mr_335_108, if_neg (by decide)]
    exact RSee.no (c := 0) rfl
  have none' : RSee fNo m w l e i (mm_V 335 78 [some (.ref 83), some (.int x1), some (.int x2), some (.int 1), none] [.int 0] (mm_Z m w i l e)) (.inr 3) := by
    rw [mr_335_78, if_neg (by decide), if_neg (by decide), if_pos rfl, mr_335_104, rr_01, mb_l, mb_v, mr_335_108, if_neg (by decide)]
    exact RSee.no (c := 3) rfl
  have good : mm_V 335 78 [some (.ref 83), some (.int x1), some (.int x2), some (.int 1), none] [.int 1] (mm_Z m w i l e) = mm_V 335 108 [some (.ref 83), some (.int x1), some (.int x2), some (.int 1), some (.int 1)] [.int 0] (mm_Z m w (mm_ww i 83 0 (nI 0)) l e) := by
    rw [mr_335_78, if_neg (by decide), if_neg (by decide), if_neg (by decide), mr_335_104, rr_00, mb_l, mb_v]
  rw [mr_335_0, rf_in, mb_l, mb_v, mr_335_7, wNo]
  show RSee fNo m w l e i (if bI (inR x1 31) = 0 then _ else _) _
  cases hr : inR x1 31 with
  | false => rw [if_bf, if_neg (by simp)]; exact bad
  | true =>
    obtain ⟨n, n1, n2⟩ := inR_n (n := 31) hr (by omega)
    rw [if_bt]
    by_cases z2 : x2 < 0
    · rw [if_pos z2, if_neg (by simp [z2])]; exact bad
    · obtain ⟨w1, w2, w3⟩ := hW n (by omega)
      obtain ⟨t1, t2, t3, t4, t5⟩ := hT n (by omega)
      have hT0 : TR (mm_ww i 83 0 (nI 0)) (oT o) := hT.kp (fun k j _ _ => by rw [mw_k (by omega)])
      subst n2
      rw [if_neg z2, if_pos (by simp [z2]), mr_335_19, if_neg (show ¬ (1 : Int32) = 0 by decide), nI_clamp (by omega)]
      by_cases z5 : i 83 5 = 0
      · rw [if_pos z5]
        have zk : tk (oT o) n = 0 := by
          cases o with
          | none => rfl
          | some q =>
            have h : RS q.1 i q.2.2 := ho.1
            rw [h.2.2.2.2.2.2] at z5
            exact absurd z5 (by decide)
        rw [if_neg (fun y => y.1 zk)]
        exact none'
      · rw [if_neg z5, if_neg (show ¬ (1 : Int32) = 0 by decide), mr_335_44, if_neg (no_out (by omega) (by omega)), if_neg (no_out (by omega) (by omega)), nI_clamp (by omega), t1, t3]
        by_cases zk : tk (oT o) n = 0
        · rw [zk, if_neg (show ¬ (0 : Int32) < nI 0 by decide), if_neg (fun y => y.1 rfl)]
          exact none'
        · rw [if_pos (show (0 : Int32) < nI (tk (oT o) n) from (nI_ltI (a := 0) (by omega) (by omega)).mpr (by omega)), if_neg (show ¬ (1 : Int32) = 0 by decide)]
          rcases x_3 z2 w2 with ⟨k, k1, k2, k3⟩ | ⟨k, k1, k2, k3, k4⟩
          · have l3 : x2 < 3 := by rw [k2]; exact (nI_ltI (b := 3) (by omega) (by omega)).mpr k1
            rw [if_pos l3, if_pos (show tk (oT o) n ≠ 0 ∧ x2 - 3 < nI (ts (oT o) n) from ⟨zk, k3⟩), good, mr_335_108, if_pos rfl, if_pos l3]
            have a3 : k = 0 ∨ k = 1 ∨ k = 2 := by omega
            rcases a3 with a3 | a3 | a3
            · subst a3
              have k2 : x2 = 0 := k2
              subst k2
              rw [nTl_0, if_pos rfl, tr_classOf hT0 hW (by omega) zk, mb_l, mb_v, mr_335_127, mr_335_149]; exact RSee.ok rfl
            · subst a3
              have k2 : x2 = 1 := k2
              subst k2
              rw [nTl_1, if_neg (show ¬ (1 : Int32) = 0 by decide), if_pos rfl, if_neg (no_out (by omega) (by omega)), nI_clamp (by omega), mw_k (by decide), t3, mr_335_149]; exact RSee.ok rfl
            · subst a3
              have k2 : x2 = 2 := k2
              subst k2
              rw [nTl_2, if_neg (show ¬ (2 : Int32) = 0 by decide), if_neg (show ¬ (2 : Int32) = 1 by decide), tr_linksOf hT0 hW (by omega), mb_l, mb_v, mr_335_149]; exact RSee.ok rfl
          · have l3 : ¬ x2 < 3 := fun z => by rw [k1] at z; have := (nI_ltI (b := 3) (by omega) (by omega)).mp z; omega
            rw [if_neg l3]
            by_cases kn : k < ts (oT o) n
            · rw [if_pos (k4.mpr kn), if_pos (show tk (oT o) n ≠ 0 ∧ x2 - 3 < nI (ts (oT o) n) from ⟨zk, k4.mpr kn⟩), good, mr_335_108, if_pos rfl, if_neg l3, tr_isDirectory hT0 hW (by omega), mb_l, mb_v, mr_335_155, k1, nTl_k (by omega)]
              have e1 : (24 * nI n + nI (k + 3)) - 3 = nI (24 * n + k) := by rw [show (24 : Int32) = nI 24 from rfl, show (3 : Int32) = nI 3 from rfl, na_mul, nI_add, na_sub (by omega)]; congr 1
              have e2 : (10 * nI n + nI (k + 3)) - 3 = nI (10 * n + k) := by rw [show (10 : Int32) = nI 10 from rfl, show (3 : Int32) = nI 3 from rfl, na_mul, nI_add, na_sub (by omega)]; congr 1
              by_cases zd : tk (oT o) n = 2
              · have u2 := (w3 zd).1
                rw [if_pos zd, if_pos zd, if_neg (show ¬ (1 : Int32) = 0 by decide), e2, if_neg (no_out (by omega) (by omega)), if_neg (no_out (by omega) (by omega)), nI_clamp (by omega), mw_k (by decide), mw_k (by decide), (t5 zd k kn).1, (t5 zd k kn).2, show (100 : Int32) = nI 100 from rfl, na_mul, nI_add]; exact RSee.ok rfl
              · rw [if_neg zd, if_neg zd, if_pos rfl, e1, if_neg (no_out (by omega) (by omega)), nI_clamp (by omega), mw_k (by decide), t4 (by omega) k kn]; exact RSee.ok rfl
            · rw [if_neg (fun y => kn (k4.mp y)), if_neg (fun y => kn (k4.mp y.2))]; exact none'
end MM212
