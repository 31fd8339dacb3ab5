/-! LIMITS in the class -/
section MM74
variable {p w : Bool} {i : Nat → Nat → Int32} {l : Nat → Nat → Int64} {e : Bool × Nat × Nat} {π : mP} {m : Nat}
theorem if_bI {P : Prop} [Decidable P] {F : Int32 → Option mm_R} : (if P then F 1 else F 0) = F (bI (decide P)) := by
  by_cases h : P
  · rw [if_pos h, decide_eq_true h]; rfl
  · rw [if_neg h, decide_eq_false h]; rfl
theorem if_bN {P : Prop} [Decidable P] {F : Int32 → Option mm_R} : (if P then F 0 else F 1) = F (bI (!decide P)) := by
  by_cases h : P
  · rw [if_pos h, decide_eq_true h]; rfl
  · rw [if_neg h, decide_eq_false h]; rfl
theorem an_1t {x : Bool} {st : List Bool} (h : st.length ≤ 61) : (lg_cmp (lN (bNat (x :: st)) &&& 1) 1 = 0) ↔ x = true := by
  have hb := bNat_62 (st := x :: st) (by simp only [List.length_cons]; omega)
  rw [wb_a1 (by omega), cmp_0, show (1 : Int64) = lN 1 from rfl, lN_eq (by omega) (by omega), bNat]
  cases x <;> simp <;> omega
theorem pc_ho_push {x1 x2 x3 : Int32} {k : Nat} {x : Bool} {st : List Bool} (h : st.length ≤ 62) : mm_V 120 285 [some (.ref (mm_P p)), some (.int x1), some (.int x2), some (.int x3), some (.long (lN (bNat st))), none, some (.int (nI k)), some (.int (bI x))] [] (mm_Z m w i l e) = mm_V 120 11 [some (.ref (mm_P p)), some (.int x1), some (.int x2), some (.int x3), some (.long (lN (bNat (x :: st)))), none, some (.int (nI (k + 1))), some (.int (bI x))] [] (mm_Z m w i l e) := by
  rw [mr_120_285, ← sh_1 h, nI_1]
  cases x
  · rw [bI_f, if_pos rfl]
  · rw [bI_t, if_neg (by decide)]
theorem cOk_len : ∀ (cs : List (Nat × Int32)) (h : Nat), cOk h cs → 1 ≤ h + cs.length
  | [], h, q => by have : h = 1 := q; omega
  | c :: r, h, q => by simp only [List.length_cons]; omega
set_option maxHeartbeats 1000000 in
theorem pc_ho_loop {l0 a b s : Nat} {cs : List (Nat × Int32)} (hl0 : l0 < 8) (ha : a < 2 ^ 31) (hb : b < 2 ^ 31) (hseg : cSeg p i s cs) (hend : i (mm_P p + 16) (l0 + 1) = nI (s + cs.length)) (hs : s + cs.length ≤ 1200) : ∀ (D k : Nat) (st : List Bool) (u : Option Value), k + D = cs.length → cOk st.length (cs.drop k) → st.length ≤ 60 → mm_V 120 11 [some (.ref (mm_P p)), some (.int (nI l0)), some (.int (nI a)), some (.int (nI b)), some (.long (lN (bNat st))), none, some (.int (nI (s + k))), u] [] (mm_Z m w i l e) = some (.inl (some (.int (bI ((cRun a b (cs.drop k) st).headD false)))), mm_Z m w i l e)
  | 0, k, st, u, hk, ho, hl => by
    have hd : cs.drop k = [] := List.drop_eq_nil_iff.mpr (by omega)
    rw [hd] at ho ⊢
    have h1 : st.length = 1 := ho
    rw [mr_120_11, na_1, nI_add, if_neg (no_out (by omega) (by omega))]
    simp only [nI_clamp (show l0 + 1 < 2 ^ 31 by omega), hend, nI_ltI (show s + k < 2 ^ 31 by omega) (show s + cs.length < 2 ^ 31 by omega)]
    rw [if_neg (by omega)]
    cases st with
    | nil => cases h1
    | cons x r =>
      simp only [an_1t (show r.length ≤ 61 by simp only [List.length_cons] at h1; omega)]
      cases x
      · rw [if_neg (by decide)]; rfl
      · rw [if_pos rfl]; rfl
  | D + 1, k, st, u, hk, ho, hl => by
    have hq : cs[k]? = some cs[k] := List.getElem?_eq_getElem (by omega)
    have hd : cs.drop k = cs[k] :: cs.drop (k + 1) := List.drop_eq_getElem_cons (by omega)
    obtain ⟨g1, g2⟩ := hseg k _ hq
    generalize cs[k] = c at hd g1 g2
    obtain ⟨c1, c2⟩ := c
    dsimp only at g1 g2
    rw [hd] at ho ⊢
    obtain ⟨o1, o2⟩ := ho
    dsimp only at o1 o2
    have ho3 : ¬ mm_out (nI (s + k)) 1200 := no_out (by omega) (by omega)
    have ih := fun st u => pc_ho_loop hl0 ha hb hseg hend hs D (k + 1) st u (by omega)
    have hR : ∀ st', cRun a b ((c1, c2) :: cs.drop (k + 1)) st' = cRun a b (cs.drop (k + 1)) (cEv a b (c1, c2) st') := fun _ => rfl
    rw [hR, mr_120_11]
    simp only [nI_1, nI_clamp (show l0 + 1 < 2 ^ 31 by omega), nI_clamp (show s + k < 2 ^ 31 by omega), hend, nI_ltI (show s + k < 2 ^ 31 by omega) (show s + cs.length < 2 ^ 31 by omega), g1, if_neg ho3]
    rw [if_neg (no_out (by omega) (by omega)), if_pos (by omega)]
    have push : ∀ (x : Bool) (st' : List Bool), st'.length ≤ 62 → cOk (x :: st').length (cs.drop (k + 1)) → (x :: st').length ≤ 60 → mm_V 120 285 [some (.ref (mm_P p)), some (.int (nI l0)), some (.int (nI a)), some (.int (nI b)), some (.long (lN (bNat st'))), none, some (.int (nI (s + k))), some (.int (bI x))] [] (mm_Z m w i l e) = some (.inl (some (.int (bI ((cRun a b (cs.drop (k + 1)) (x :: st')).headD false)))), mm_Z m w i l e) := by
      intro x st' q1 q2 q3
      rw [pc_ho_push q1]
      exact ih _ _ q2 q3
    rcases (show c1 = 0 ∨ c1 = 1 ∨ c1 = 2 ∨ c1 = 3 ∨ c1 = 4 ∨ c1 = 5 ∨ c1 = 6 ∨ c1 = 7 by omega) with rfl | rfl | rfl | rfl | rfl | rfl | rfl | rfl
    · have o2 : st.length < 60 ∧ cOk (st.length + 1) (cs.drop (k + 1)) := o2
      rw [← na_0, sw_hit, if_bI (F := fun z => mm_V 120 285 [some (.ref (mm_P p)), some (.int (nI l0)), some (.int (nI a)), some (.int (nI b)), some (.long (lN (bNat st))), none, some (.int (nI (s + k))), some (.int z)] [] (mm_Z m w i l e)), push _ _ (by omega) o2.2 (by simp only [List.length_cons]; omega)]
      simp only [cEv, na_1000, na_div ha (show 1000 < 2 ^ 31 by omega), na_div hb (show 1000 < 2 ^ 31 by omega), nI_eq (show a / 1000 < 2 ^ 31 by omega) (show b / 1000 < 2 ^ 31 by omega)]
    · have o2 : st.length < 60 ∧ cOk (st.length + 1) (cs.drop (k + 1)) := o2
      rw [← na_1, sw_mis (by decide), sw_hit, if_bI (F := fun z => mm_V 120 285 [some (.ref (mm_P p)), some (.int (nI l0)), some (.int (nI a)), some (.int (nI b)), some (.long (lN (bNat st))), none, some (.int (nI (s + k))), some (.int z)] [] (mm_Z m w i l e)), push _ _ (by omega) o2.2 (by simp only [List.length_cons]; omega)]
      simp only [cEv, na_100, na_10, na_div ha (show 100 < 2 ^ 31 by omega), na_div hb (show 100 < 2 ^ 31 by omega), na_re (show a / 100 < 2 ^ 31 by omega) (show 10 < 2 ^ 31 by omega), na_re (show b / 100 < 2 ^ 31 by omega) (show 10 < 2 ^ 31 by omega), nI_eq (show a / 100 % 10 < 2 ^ 31 by omega) (show b / 100 % 10 < 2 ^ 31 by omega)]
    · have o2 : st.length < 60 ∧ cOk (st.length + 1) (cs.drop (k + 1)) := o2
      rw [← na_2, sw_mis (by decide), sw_mis (by decide), sw_hit, if_bI (F := fun z => mm_V 120 285 [some (.ref (mm_P p)), some (.int (nI l0)), some (.int (nI a)), some (.int (nI b)), some (.long (lN (bNat st))), none, some (.int (nI (s + k))), some (.int z)] [] (mm_Z m w i l e)), push _ _ (by omega) o2.2 (by simp only [List.length_cons]; omega)]
      simp only [cEv, na_100, na_re ha (show 100 < 2 ^ 31 by omega), na_re hb (show 100 < 2 ^ 31 by omega), nI_eq (show a % 100 < 2 ^ 31 by omega) (show b % 100 < 2 ^ 31 by omega)]
    · have o2 : st.length < 60 ∧ cOk (st.length + 1) (cs.drop (k + 1)) := o2
      rw [← na_3, sw_mis (by decide), sw_mis (by decide), sw_mis (by decide), sw_hit, if_bI (F := fun z => mm_V 120 285 [some (.ref (mm_P p)), some (.int (nI l0)), some (.int (nI a)), some (.int (nI b)), some (.long (lN (bNat st))), none, some (.int (nI (s + k))), some (.int z)] [] (mm_Z m w i l e)), push _ _ (by omega) o2.2 (by simp only [List.length_cons]; omega)]
      simp only [cEv, na_100, na_re ha (show 100 < 2 ^ 31 by omega), g2 (Or.inl rfl), mB]
    · have o2 : st.length < 60 ∧ cOk (st.length + 1) (cs.drop (k + 1)) := o2
      rw [← na_4, sw_mis (by decide), sw_mis (by decide), sw_mis (by decide), sw_mis (by decide), sw_hit, if_bI (F := fun z => mm_V 120 285 [some (.ref (mm_P p)), some (.int (nI l0)), some (.int (nI a)), some (.int (nI b)), some (.long (lN (bNat st))), none, some (.int (nI (s + k))), some (.int z)] [] (mm_Z m w i l e)), push _ _ (by omega) o2.2 (by simp only [List.length_cons]; omega)]
      simp only [cEv, na_100, na_re hb (show 100 < 2 ^ 31 by omega), g2 (Or.inr rfl), mB]
    · have o2 : 2 ≤ st.length ∧ cOk (st.length - 1) (cs.drop (k + 1)) := o2
      match st, o2, hl with
      | y :: x :: r, o2, hl =>
        simp only [List.length_cons] at o2 hl
        rw [← na_5, sw_mis (by decide), sw_mis (by decide), sw_mis (by decide), sw_mis (by decide), sw_mis (by decide), sw_hit, us_2 (by omega), if_bN (F := fun z => mm_V 120 285 [some (.ref (mm_P p)), some (.int (nI l0)), some (.int (nI a)), some (.int (nI b)), some (.long (lN (bNat r))), none, some (.int (nI (s + k))), some (.int z)] [] (mm_Z m w i l e)), push _ _ (by omega) (by simp only [List.length_cons]; exact o2.2) (by simp only [List.length_cons]; omega), show (0 : Int64) = lN 0 from rfl]
        simp only [cEv, an_3 (show 0 ≤ 3 by omega) (show r.length ≤ 60 by omega)]
        cases x <;> cases y <;> rfl
    · have o2 : 2 ≤ st.length ∧ cOk (st.length - 1) (cs.drop (k + 1)) := o2
      match st, o2, hl with
      | y :: x :: r, o2, hl =>
        simp only [List.length_cons] at o2 hl
        rw [← na_6, sw_mis (by decide), sw_mis (by decide), sw_mis (by decide), sw_mis (by decide), sw_mis (by decide), sw_mis (by decide), sw_hit, us_2 (by omega), if_bI (F := fun z => mm_V 120 285 [some (.ref (mm_P p)), some (.int (nI l0)), some (.int (nI a)), some (.int (nI b)), some (.long (lN (bNat r))), none, some (.int (nI (s + k))), some (.int z)] [] (mm_Z m w i l e)), push _ _ (by omega) (by simp only [List.length_cons]; exact o2.2) (by simp only [List.length_cons]; omega)]
        have e3 := an_3 (x := y) (y := x) (st := r) (show 3 ≤ 3 by omega) (show r.length ≤ 60 by omega)
        rw [show (lN 3 : Int64) = 3 from rfl] at e3
        simp only [cEv, e3]
        cases x <;> cases y <;> rfl
    · have o2 : 1 ≤ st.length ∧ cOk st.length (cs.drop (k + 1)) := o2
      match st, o2, hl with
      | x :: r, o2, hl =>
        simp only [List.length_cons] at o2 hl
        rw [← na_7, sw_mis (by decide), sw_mis (by decide), sw_mis (by decide), sw_mis (by decide), sw_mis (by decide), sw_mis (by decide), sw_mis (by decide), sw_hit, us_1 (by omega), if_bI (F := fun z => mm_V 120 285 [some (.ref (mm_P p)), some (.int (nI l0)), some (.int (nI a)), some (.int (nI b)), some (.long (lN (bNat r))), none, some (.int (nI (s + k))), some (.int z)] [] (mm_Z m w i l e)), push _ _ (by omega) (by simp only [List.length_cons]; exact o2.2) (by simp only [List.length_cons]; omega)]
        simp only [cEv, an_1 (show r.length ≤ 61 by omega)]
        cases x <;> rfl
theorem pc_holds {l0 a b s : Nat} {cs : List (Nat × Int32)} (hl0 : l0 < 8) (ha : a < 2 ^ 31) (hb : b < 2 ^ 31) (hseg : cSeg p i s cs) (hst : i (mm_P p + 16) l0 = nI s) (hend : i (mm_P p + 16) (l0 + 1) = nI (s + cs.length)) (hs : s + cs.length ≤ 1200) (ho : cOk 0 cs) : mm_V 120 0 [some (.ref (mm_P p)), some (.int (nI l0)), some (.int (nI a)), some (.int (nI b)), none, none, none, none] [] (mm_Z m w i l e) = some (.inl (some (.int (bI ((cRun a b cs []).headD false)))), mm_Z m w i l e) := by
  rw [mr_120_0, if_neg (no_out (by omega) (by omega)), nI_clamp (by omega), hst]
  exact pc_ho_loop hl0 ha hb hseg hend hs cs.length 0 [] none (by omega) ho (by decide)
end MM74
