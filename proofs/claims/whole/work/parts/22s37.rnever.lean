/-! CONTRADICTIONS, in the reference: never and allow -/
section MM173
variable {w : Bool} {i i' : Nat → Nat → Int32} {l : Nat → Nat → Int64} {δ : mQ} {π : mP} {m : Nat} {e : Bool × Nat × Nat} {n k s a b c p q N : Nat} {x v : Int32}
theorem mB_lt (hq : q < 2 ^ N) (hs : s < 32) (h : mB (nI q) s = true) : s < N := by
  rw [mB_get hs] at h
  rcases Nat.lt_or_ge s N with z | z
  · exact z
  · exfalso
    have h1 : (nI q).toBitVec = BitVec.ofNat 32 q := rfl
    have h2 : q < 2 ^ s := Nat.lt_of_lt_of_le hq (Nat.pow_le_pow_right (by decide) z)
    rw [h1, BitVec.getLsbD_ofNat, Nat.testBit_lt_two_pow h2] at h
    simp at h
theorem dMn_b (hd : DW δ) (hx : x = 400 ∨ vW (dP δ) x) : ∃ q, q < 2 ^ pN (dP δ) 0 ∧ dMn δ x = nI q := by
  have h24 := hd.2.1.1
  have h8 := hd.2.1.2.1
  rcases hx with z | ⟨a, z1, z2⟩ | ⟨a, z1, z2⟩
  · subst z
    exact ⟨2 ^ pN (dP δ) 0 - 1, by have := Nat.two_pow_pos (pN (dP δ) 0); omega, rfl⟩
  · subst z2
    rcases dMn_t (δ := δ) (a := a) (by omega) with y | y
    · exact ⟨2 ^ a, Nat.pow_lt_pow_right (by decide) z1, y⟩
    · omega
  · subst z2
    exact ⟨dA δ a, (hd.2.2.2.1 a).1, dMn_a (by omega)⟩
/-- a mask of a policy: only its types -/
def mkT (N : Nat) (x : Int32) : Prop := ∀ s, s < 32 → mB x s = true → s < N
theorem mkT_se (hd : DW δ) (hx : x = 400 ∨ vW (dP δ) x) : mkT (pN (dP δ) 0) (dMn δ x) := by
  obtain ⟨q, q1, q2⟩ := dMn_b hd hx
  intro s hs h
  rw [q2] at h
  exact mB_lt q1 hs h
theorem mB_nz : (x ≠ 0) ↔ ∃ s, s < 32 ∧ mB x s = true := by
  constructor
  · intro h
    by_cases q : ∃ s, s < 32 ∧ mB x s = true
    · exact q
    · exfalso
      apply h
      apply mB_ext
      intro k hk
      rw [mB_0 hk]
      cases hb : mB x k
      · rfl
      · exact absurd ⟨k, hk, hb⟩ q
  · rintro ⟨s, h1, h2⟩ h3
    rw [h3, mB_0 h1] at h2
    cases h2
theorem mB_m1 {k : Nat} (h : k < 32) : mB (-1) k = true := by
  have : ∀ k, k < 32 → mB (-1) k = true := by decide +kernel
  exact this k h
/-- both rules name a pair of types -/
def bPr (π : mP) (a n : Nat) : Bool := tAny (fun s => tAny (fun t => pFor π n s t && pFor π a s t) (pN π 0) 0) (pN π 0) 0
theorem bPr_eq (hN : pN π 0 ≤ 24) (a1 : mkT (pN π 0) (pL π a).2.1) (n1 : mkT (pN π 0) (pL π n).2.1) (a2 : (pL π a).2.2.1 = -1 ∨ (mkT (pN π 0) (pL π a).2.2.1 ∧ (pL π a).2.2.1 ≠ -1)) (n2 : (pL π n).2.2.1 = -1 ∨ (mkT (pN π 0) (pL π n).2.2.1 ∧ (pL π n).2.2.1 ≠ -1)) : (bPr π a n = true) ↔ (bSr π a n ≠ 0 ∧ bTg π a n ≠ 0) := by
  unfold bPr
  rw [tAny_iff]
  have inner : ∀ s, (tAny (fun t => pFor π n s t && pFor π a s t) (pN π 0) 0 = true) ↔ ∃ t, t < pN π 0 ∧ pFor π n s t = true ∧ pFor π a s t = true := fun s => by
    rw [tAny_iff]
    constructor
    · rintro ⟨t, -, h2, h3⟩
      have := (Bool.and_eq_true _ _).mp h3
      exact ⟨t, by omega, this.1, this.2⟩
    · rintro ⟨t, h1, h2, h3⟩
      exact ⟨t, Nat.zero_le _, by omega, (Bool.and_eq_true _ _).mpr ⟨h2, h3⟩⟩
  have fr : ∀ k s t, pFor π k s t = true ↔ (mB (pL π k).2.1 s = true ∧ (((pL π k).2.2.1 = -1 ∧ s = t) ∨ ((pL π k).2.2.1 ≠ -1 ∧ mB (pL π k).2.2.1 t = true))) := fun k s t => by
    unfold pFor
    rw [Bool.and_eq_true]
    by_cases z : (pL π k).2.2.1 = -1
    · rw [if_pos z]
      constructor
      · rintro ⟨h1, h2⟩; exact ⟨h1, Or.inl ⟨z, of_decide_eq_true h2⟩⟩
      · rintro ⟨h1, h2⟩
        rcases h2 with h2 | h2
        · exact ⟨h1, decide_eq_true h2.2⟩
        · exact absurd z h2.1
    · rw [if_neg z]
      constructor
      · rintro ⟨h1, h2⟩; exact ⟨h1, Or.inr ⟨z, h2⟩⟩
      · rintro ⟨h1, h2⟩
        rcases h2 with h2 | h2
        · exact absurd h2.1 z
        · exact ⟨h1, h2.2⟩
  rw [mB_nz, mB_nz]
  unfold bTg
  constructor
  · rintro ⟨s, -, hs, h⟩
    obtain ⟨t, ht, h1, h2⟩ := (inner s).mp h
    obtain ⟨u1, u2⟩ := (fr n s t).mp h1
    obtain ⟨w1, w2⟩ := (fr a s t).mp h2
    have hS : mB (bSr π a n) s = true := by unfold bSr; rw [mB_and (by omega), u1, w1]; rfl
    refine ⟨⟨s, by omega, hS⟩, ?_⟩
    by_cases z : (pL π a).2.2.1 = -1 ∨ (pL π n).2.2.1 = -1
    · rw [if_pos z]
      refine ⟨s, by omega, ?_⟩
      have e1 : mB (pL π a).2.2.1 s = true := by
        rcases w2 with ⟨y1, -⟩ | ⟨y1, y2⟩
        · rw [y1]; exact mB_m1 (by omega)
        · rcases u2 with ⟨y3, y4⟩ | ⟨y3, -⟩
          · rw [y4]; exact y2
          · rcases z with z | z
            · exact absurd z y1
            · exact absurd z y3
      have e2 : mB (pL π n).2.2.1 s = true := by
        rcases u2 with ⟨y1, -⟩ | ⟨y1, y2⟩
        · rw [y1]; exact mB_m1 (by omega)
        · rcases w2 with ⟨y3, y4⟩ | ⟨y3, -⟩
          · rw [y4]; exact y2
          · rcases z with z | z
            · exact absurd z y3
            · exact absurd z y1
      rw [mB_and (by omega), mB_and (by omega), e1, e2, hS]
      rfl
    · rw [if_neg z]
      refine ⟨t, by omega, ?_⟩
      have e1 : mB (pL π a).2.2.1 t = true := by
        rcases w2 with ⟨y1, -⟩ | ⟨y1, y2⟩
        · exact absurd (Or.inl y1) z
        · exact y2
      have e2 : mB (pL π n).2.2.1 t = true := by
        rcases u2 with ⟨y1, -⟩ | ⟨y1, y2⟩
        · exact absurd (Or.inr y1) z
        · exact y2
      rw [mB_and (by omega), e1, e2]
      rfl
  · rintro ⟨⟨s, hs, h1⟩, t, ht, h2⟩
    by_cases z : (pL π a).2.2.1 = -1 ∨ (pL π n).2.2.1 = -1
    · rw [if_pos z, mB_and ht, mB_and ht] at h2
      obtain ⟨h3, h4⟩ := (Bool.and_eq_true _ _).mp h2
      obtain ⟨h5, h6⟩ := (Bool.and_eq_true _ _).mp h3
      unfold bSr at h4
      rw [mB_and ht] at h4
      obtain ⟨h7, h8⟩ := (Bool.and_eq_true _ _).mp h4
      have tN := a1 t ht h7
      refine ⟨t, Nat.zero_le _, by omega, (inner t).mpr ⟨t, tN, (fr n t t).mpr ⟨h8, ?_⟩, (fr a t t).mpr ⟨h7, ?_⟩⟩⟩
      · by_cases y : (pL π n).2.2.1 = -1
        · exact Or.inl ⟨y, rfl⟩
        · exact Or.inr ⟨y, h6⟩
      · by_cases y : (pL π a).2.2.1 = -1
        · exact Or.inl ⟨y, rfl⟩
        · exact Or.inr ⟨y, h5⟩
    · rw [if_neg z, mB_and ht] at h2
      obtain ⟨h5, h6⟩ := (Bool.and_eq_true _ _).mp h2
      unfold bSr at h1
      rw [mB_and hs] at h1
      obtain ⟨h7, h8⟩ := (Bool.and_eq_true _ _).mp h1
      have sN := a1 s hs h7
      have za : (pL π a).2.2.1 ≠ -1 := fun y => z (Or.inl y)
      have zn : (pL π n).2.2.1 ≠ -1 := fun y => z (Or.inr y)
      have tN : t < pN π 0 := by
        rcases a2 with y | y
        · exact absurd y za
        · exact y.1 t ht h5
      exact ⟨s, Nat.zero_le _, by omega, (inner s).mpr ⟨t, tN, (fr n s t).mpr ⟨h8, Or.inr ⟨zn, h6⟩⟩, (fr a s t).mpr ⟨h7, Or.inr ⟨za, h5⟩⟩⟩⟩
theorem pr_isForQ (h : PR0 i π) (h4 : pN π 4 ≤ 60) {k s t : Nat} (hk : k < pN π 4) (hs : s < 2 ^ 31) (ht : t < 2 ^ 31) : mm_V 237 0 [some (.ref 83), some (.int (nI k)), some (.int (nI s)), some (.int (nI t)), none, none] [] (mm_Z m w i l e) = some (.inl (some (.int (bI (pFor π k s t)))), mm_Z m w i l e) := by
  have ho : ¬ mm_out (nI k) 61 := no_out (by omega) (by omega)
  obtain ⟨r1, r2, r3, r4, r5⟩ := h.2.2.2.1 k hk
  have hT : ∀ (b : Bool), mm_V 237 23 [some (.ref 83), some (.int (nI k)), some (.int (nI s)), some (.int (nI t)), none, none] [.int (bI b)] (mm_Z m w i l e) = some (.inl (some (.int (bI (b && (if (pL π k).2.2.1 = -1 then decide (s = t) else mB (pL π k).2.2.1 t))))), mm_Z m w i l e) := by
    intro b
    rw [mr_237_23, if_neg ho]
    simp only [nI_clamp (show k < 2 ^ 31 by omega), nI_eq hs ht]
    rcases r3 with ⟨z1, z2⟩ | ⟨z1, z2⟩
    · rw [if_pos z1, if_pos z2]
      by_cases q : s = t
      · rw [if_pos q, mr_237_72, decide_eq_true q]
        cases b <;> rfl
      · rw [if_neg q, mr_237_72, decide_eq_false q]
        cases b <;> rfl
    · have z3 : ¬ i 97 k = -2 := by
        rcases z1 with ⟨y, -⟩ | ⟨a, ha, y, -⟩ | ⟨a, ha, y, -⟩
        · rw [y]; decide
        · rw [y]; intro q
          have := congrArg Int32.toInt q
          rw [nI_toInt (by omega)] at this
          have e2 : (-2 : Int32).toInt = -2 := by decide
          omega
        · rw [y]; intro q
          have := congrArg Int32.toInt q
          rw [nI_toInt (by omega)] at this
          have e2 : (-2 : Int32).toInt = -2 := by decide
          omega
      rw [if_neg z3, if_neg ho, pr_meaning z1, mb_l, mb_v, mr_237_59, if_neg z2, mB_if]
      by_cases q : mB (pL π k).2.2.1 t = true
      · rw [if_pos q, mr_237_72, q]
        cases b <;> rfl
      · rw [if_neg q, mr_237_72, Bool.eq_false_iff.mpr q]
        cases b <;> rfl
  rw [mr_237_0, if_neg ho, nI_clamp (by omega), pr_meaning r2, mb_l, mb_v, mr_237_10, mB_if]
  unfold pFor
  by_cases q : mB (pL π k).2.1 s = true
  · rw [if_pos q, q]; exact hT true
  · rw [if_neg q, Bool.eq_false_iff.mpr q]; exact hT false
theorem r_bk_in (h : PR0 i π) (h4 : pN π 4 ≤ 60) (hN : pN π 0 ≤ 24) (ha : a < pN π 4) (hn : n < pN π 4) (hs : s < 100) : ∀ (d t : Nat) (b : Bool), t + d = pN π 0 → ∃ u, mm_V 238 17 [some (.ref 83), some (.int (nI n)), some (.int (nI a)), some (.int (bI b)), some (.int (nI s)), some (.int (nI t))] [] (mm_Z m w i l e) = mm_V 238 5 [some (.ref 83), some (.int (nI n)), some (.int (nI a)), some (.int (bI (b || tAny (fun t => pFor π n s t && pFor π a s t) d t))), some (.int (nI (s + 1))), u] [] (mm_Z m w i l e) := by
  have c0 : i 83 14 = nI (pN π 0) := h.1.1
  intro d
  induction d with
  | zero =>
    intro t b ht
    refine ⟨some (.int (nI t)), ?_⟩
    rw [mr_238_17, c0, if_neg (fun z => by have := (nI_ltI (by omega) (by omega)).mp z; omega), nI_1, show tAny (fun t => pFor π n s t && pFor π a s t) 0 t = false from rfl, Bool.or_false]
  | succ d ih =>
    intro t b ht
    rw [mr_238_17, c0, if_pos ((nI_ltI (by omega) (by omega)).mpr (by omega)), nI_1, tAny_s]
    cases b
    · rw [if_bf, pr_isForQ h h4 hn (by omega) (by omega), mb_l, mb_v, mr_238_39]
      cases hp : pFor π n s t
      · rw [if_bf, nI_1]
        exact ih (t + 1) false (by omega)
      · rw [if_bt, pr_isForQ h h4 ha (by omega) (by omega), mb_l, mb_v, mr_238_51]
        cases hq : pFor π a s t
        · rw [if_bf, nI_1]
          exact ih (t + 1) false (by omega)
        · rw [if_bt, nI_1]
          obtain ⟨u, e1⟩ := ih (t + 1) true (by omega)
          exact ⟨u, e1⟩
    · rw [if_bt]
      obtain ⟨u, e1⟩ := ih (t + 1) true (by omega)
      exact ⟨u, e1⟩
theorem r_bk_out (h : PR0 i π) (h4 : pN π 4 ≤ 60) (hN : pN π 0 ≤ 24) (ha : a < pN π 4) (hn : n < pN π 4) (hc : (pL π a).2.2.2.1 < 100 ∧ (pL π n).2.2.2.1 < 100) : ∀ (d s : Nat) (b : Bool) (u : Option Value), s + d = pN π 0 → mm_V 238 5 [some (.ref 83), some (.int (nI n)), some (.int (nI a)), some (.int (bI b)), some (.int (nI s)), u] [] (mm_Z m w i l e) = some (.inl (some (.int (bI ((b || tAny (fun s => tAny (fun t => pFor π n s t && pFor π a s t) (pN π 0) 0) d s) && decide ((pL π a).2.2.2.1 = (pL π n).2.2.2.1 ∧ (pL π a).2.2.2.2 &&& (pL π n).2.2.2.2 ≠ 0))))), mm_Z m w i l e) := by
  have c0 : i 83 14 = nI (pN π 0) := h.1.1
  obtain ⟨a1, a2, a3, a4, a5⟩ := h.2.2.2.1 a ha
  obtain ⟨n1, n2, n3, n4, n5⟩ := h.2.2.2.1 n hn
  have oa : ¬ mm_out (nI a) 61 := no_out (by omega) (by omega)
  have on : ¬ mm_out (nI n) 61 := no_out (by omega) (by omega)
  intro d
  induction d with
  | zero =>
    intro s b u hs
    rw [mr_238_5, c0, if_neg (fun z => by have := (nI_ltI (by omega) (by omega)).mp z; omega), show tAny (fun s => tAny (fun t => pFor π n s t && pFor π a s t) (pN π 0) 0) 0 s = false from rfl, Bool.or_false]
    cases b
    · rw [if_bf]; rfl
    · rw [if_bt, if_neg on, if_neg oa, if_neg on, if_neg oa]
      simp only [nI_clamp (show a < 2 ^ 31 by omega), nI_clamp (show n < 2 ^ 31 by omega), a4, n4, a5, n5]
      rw [Bool.true_and]
      by_cases z1 : (pL π a).2.2.2.1 = (pL π n).2.2.2.1
      · rw [if_pos (by rw [z1])]
        have ec : (pL π n).2.2.2.2 &&& (pL π a).2.2.2.2 = (pL π a).2.2.2.2 &&& (pL π n).2.2.2.2 := Int32.and_comm _ _
        rw [ec]
        by_cases z2 : (pL π a).2.2.2.2 &&& (pL π n).2.2.2.2 = 0
        · rw [if_pos z2, decide_eq_false (fun y => y.2 z2)]; rfl
        · rw [if_neg z2, decide_eq_true ⟨z1, z2⟩]; rfl
      · rw [if_neg (fun z => z1 ((nI_eq (by omega) (by omega)).mp z).symm), decide_eq_false (fun y => z1 y.1)]; rfl
  | succ d ih =>
    intro s b u hs
    obtain ⟨u', e1⟩ := r_bk_in (m := m) (w := w) (l := l) (e := e) h h4 hN ha hn (show s < 100 by omega) (pN π 0) 0 b (by omega)
    rw [show nI 0 = (0 : Int32) from rfl] at e1
    rw [mr_238_5, c0, if_pos ((nI_ltI (by omega) (by omega)).mpr (by omega)), e1, ih (s + 1) _ u' (by omega), tAny_s, Bool.or_assoc]
/-- a never that an allow breaks -/
theorem r_brk (h : PR0 i π) (h4 : pN π 4 ≤ 60) (hN : pN π 0 ≤ 24) (ha : a < pN π 4) (hn : n < pN π 4) (hc : (pL π a).2.2.2.1 < 100 ∧ (pL π n).2.2.2.1 < 100) : mm_V 238 0 [some (.ref 83), some (.int (nI n)), some (.int (nI a)), none, none, none] [] (mm_Z m w i l e) = some (.inl (some (.int (bI (bPr π a n && decide ((pL π a).2.2.2.1 = (pL π n).2.2.2.1 ∧ (pL π a).2.2.2.2 &&& (pL π n).2.2.2.2 ≠ 0))))), mm_Z m w i l e) := by
  have e1 := r_bk_out (m := m) (w := w) (l := l) (e := e) h h4 hN ha hn hc (pN π 0) 0 false none (by omega)
  rw [Bool.false_or] at e1
  rw [mr_238_0]
  exact e1
end MM173
