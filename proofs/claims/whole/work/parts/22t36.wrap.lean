/-! THE LAW: its wrappers (by program) -/
section MM216
variable {w w' : Bool} {i i' : Nat → Nat → Int32} {l l' : Nat → Nat → Int64} {m : Nat} {e e' : Bool × Nat × Nat} {x1 x2 x3 x4 : Int32} {A : mA}
theorem n2i : nI 2 = 2 := by decide
theorem n3i : nI 3 = 3 := by decide
theorem n1i : nI 1 = 1 := by decide
theorem mx_338_0 {L : List (Option Value)} {μ : mm_M} {F : Option Value → mm_M → Option mm_R} : mm_bx 338 4 true mm_h338 L (some (.inr 0, μ)) F = some (.inl (some (.int 1)), μ) := by
  have h1 : mm_ca 4 0 mm_h338 = some 12 := by decide
  have h2 : mm_hs 338 12 = some (3, 13) := rfl
  unfold mm_bx
  simp only [h1, h2, if_true]
  exact mv_iconst 1 mj_338 rfl mk_i1 (q := 14) rfl (mv_iret mj_338 rfl)
theorem mx_338_1 {L : List (Option Value)} {μ : mm_M} {F : Option Value → mm_M → Option mm_R} : mm_bx 338 4 true mm_h338 L (some (.inr 1, μ)) F = some (.inl (some (.int 2)), μ) := by
  have h1 : mm_ca 4 1 mm_h338 = some 15 := by decide
  have h2 : mm_hs 338 15 = some (3, 16) := rfl
  unfold mm_bx
  simp only [h1, h2, if_true]
  exact mv_iconst 2 mj_338 rfl mk_i2 (q := 17) rfl (mv_iret mj_338 rfl)
theorem wr_338 (hA : (∃ v, A = .inl (some v)) ∨ ∃ c, A = .inr c ∧ (c = 0 ∨ c = 1)) (hV : mm_V 157 0 [some (.ref 0), some (.int x1), none, none, none] [] (mm_Z m w i l e) = some (aAn A, mm_Z m w' i' l' e')) : mm_V 338 0 [some (.ref 0), some (.int x1), some (.ref 146), none] [] (mm_Z m w i l e) = some (.inl (some (.int (nI (aTh fNo A)))), mm_Z m w' i' (lOut A l') e') := by
  rw [mr_338_0, hV]
  rcases hA with ⟨v, rfl⟩ | ⟨c, rfl, hc⟩
  · exact (mr_338_7 m w' i' l' e' x1 0 v).trans (if_neg (by decide))
  · rcases hc with rfl | rfl
    · exact mx_338_0
    · exact mx_338_1
theorem mx_339_0 {L : List (Option Value)} {μ : mm_M} {F : Option Value → mm_M → Option mm_R} : mm_bx 339 2 true mm_h339 L (some (.inr 0, μ)) F = some (.inl (some (.int 1)), μ) := by
  have h1 : mm_ca 2 0 mm_h339 = some 8 := by decide
  have h2 : mm_hs 339 8 = some (2, 9) := rfl
  unfold mm_bx
  simp only [h1, h2, if_true]
  exact mv_iconst 1 mj_339 rfl mk_i1 (q := 10) rfl (mv_iret mj_339 rfl)
theorem wr_339 (hA : A = .inl none ∨ ∃ c, A = .inr c ∧ (c = 0)) (hV : mm_V 158 0 [some (.ref 0), some (.int x1)] [] (mm_Z m w i l e) = some (aAn A, mm_Z m w' i' l' e')) : mm_V 339 0 [some (.ref 0), some (.int x1), none] [] (mm_Z m w i l e) = some (.inl (some (.int (nI (aTh (fun _ => 1) A)))), mm_Z m w' i' (lOut A l') e') := by
  rw [mr_339_0, hV]
  rcases hA with rfl | ⟨c, rfl, hc⟩
  · exact mr_339_5 m w' i' l' e' x1
  · subst hc
    exact mx_339_0
theorem mx_340_2 {L : List (Option Value)} {μ : mm_M} {F : Option Value → mm_M → Option mm_R} : mm_bx 340 3 true mm_h340 L (some (.inr 2, μ)) F = some (.inl (some (.int 1)), μ) := by
  have h1 : mm_ca 3 2 mm_h340 = some 11 := by decide
  have h2 : mm_hs 340 11 = some (2, 12) := rfl
  unfold mm_bx
  simp only [h1, h2, if_true]
  exact mv_iconst 1 mj_340 rfl mk_i1 (q := 13) rfl (mv_iret mj_340 rfl)
theorem wr_340 (hA : (∃ v, A = .inl (some v)) ∨ ∃ c, A = .inr c ∧ (c = 2)) (hV : mm_V 159 0 [some (.ref 0), none] [] (mm_Z m w i l e) = some (aAn A, mm_Z m w' i' l' e')) : mm_V 340 0 [some (.ref 0), some (.ref 146), none] [] (mm_Z m w i l e) = some (.inl (some (.int (nI (aTh (fun _ => 1) A)))), mm_Z m w' i' (lOut A l') e') := by
  rw [mr_340_0, hV]
  rcases hA with ⟨v, rfl⟩ | ⟨c, rfl, hc⟩
  · exact (mr_340_6 m w' i' l' e'  0 v).trans (if_neg (by decide))
  · subst hc
    exact mx_340_2
theorem mx_341_2 {L : List (Option Value)} {μ : mm_M} {F : Option Value → mm_M → Option mm_R} : mm_bx 341 4 true mm_h341 L (some (.inr 2, μ)) F = some (.inl (some (.int 1)), μ) := by
  have h1 : mm_ca 4 2 mm_h341 = some 12 := by decide
  have h2 : mm_hs 341 12 = some (3, 13) := rfl
  unfold mm_bx
  simp only [h1, h2, if_true]
  exact mv_iconst 1 mj_341 rfl mk_i1 (q := 14) rfl (mv_iret mj_341 rfl)
theorem mx_341_0 {L : List (Option Value)} {μ : mm_M} {F : Option Value → mm_M → Option mm_R} : mm_bx 341 4 true mm_h341 L (some (.inr 0, μ)) F = some (.inl (some (.int 2)), μ) := by
  have h1 : mm_ca 4 0 mm_h341 = some 15 := by decide
  have h2 : mm_hs 341 15 = some (3, 16) := rfl
  unfold mm_bx
  simp only [h1, h2, if_true]
  exact mv_iconst 2 mj_341 rfl mk_i2 (q := 17) rfl (mv_iret mj_341 rfl)
theorem wr_341 (hA : (∃ v, A = .inl (some v)) ∨ ∃ c, A = .inr c ∧ (c = 2 ∨ c = 0)) (hV : mm_V 161 0 [some (.ref 0), some (.int x1)] [] (mm_Z m w i l e) = some (aAn A, mm_Z m w' i' l' e')) : mm_V 341 0 [some (.ref 0), some (.int x1), some (.ref 146), none] [] (mm_Z m w i l e) = some (.inl (some (.int (nI (aTh fAc A)))), mm_Z m w' i' (lOut A l') e') := by
  rw [mr_341_0, hV]
  rcases hA with ⟨v, rfl⟩ | ⟨c, rfl, hc⟩
  · exact (mr_341_7 m w' i' l' e' x1 0 v).trans (if_neg (by decide))
  · rcases hc with rfl | rfl
    · exact mx_341_2
    · exact mx_341_0
theorem mx_342_2 {L : List (Option Value)} {μ : mm_M} {F : Option Value → mm_M → Option mm_R} : mm_bx 342 7 true mm_h342 L (some (.inr 2, μ)) F = some (.inl (some (.int 1)), μ) := by
  have h1 : mm_ca 7 2 mm_h342 = some 15 := by decide
  have h2 : mm_hs 342 15 = some (5, 17) := rfl
  unfold mm_bx
  simp only [h1, h2, if_true]
  exact mv_iconst 1 mj_342 rfl mk_i1 (q := 18) rfl (mv_iret mj_342 rfl)
theorem mx_342_0 {L : List (Option Value)} {μ : mm_M} {F : Option Value → mm_M → Option mm_R} : mm_bx 342 7 true mm_h342 L (some (.inr 0, μ)) F = some (.inl (some (.int 2)), μ) := by
  have h1 : mm_ca 7 0 mm_h342 = some 19 := by decide
  have h2 : mm_hs 342 19 = some (5, 21) := rfl
  unfold mm_bx
  simp only [h1, h2, if_true]
  exact mv_iconst 2 mj_342 rfl mk_i2 (q := 22) rfl (mv_iret mj_342 rfl)
theorem wr_342 (hA : (∃ v, A = .inl (some v)) ∨ ∃ c, A = .inr c ∧ (c = 2 ∨ c = 0)) (hV : mm_V 162 0 [some (.ref 0), some (.int x1), some (.int x2), some (.int x3)] [] (mm_Z m w i l e) = some (aAn A, mm_Z m w' i' l' e')) : mm_V 342 0 [some (.ref 0), some (.int x1), some (.int x2), some (.int x3), some (.ref 146), none] [] (mm_Z m w i l e) = some (.inl (some (.int (nI (aTh fAc A)))), mm_Z m w' i' (lOut A l') e') := by
  rw [mr_342_0, hV]
  rcases hA with ⟨v, rfl⟩ | ⟨c, rfl, hc⟩
  · exact (mr_342_10 m w' i' l' e' x1 x2 x3 0 v).trans (if_neg (by decide))
  · rcases hc with rfl | rfl
    · exact mx_342_2
    · exact mx_342_0
theorem mx_343_2 {L : List (Option Value)} {μ : mm_M} {F : Option Value → mm_M → Option mm_R} : mm_bx 343 7 true mm_h343 L (some (.inr 2, μ)) F = some (.inl (some (.int 1)), μ) := by
  have h1 : mm_ca 7 2 mm_h343 = some 15 := by decide
  have h2 : mm_hs 343 15 = some (5, 17) := rfl
  unfold mm_bx
  simp only [h1, h2, if_true]
  exact mv_iconst 1 mj_343 rfl mk_i1 (q := 18) rfl (mv_iret mj_343 rfl)
theorem mx_343_0 {L : List (Option Value)} {μ : mm_M} {F : Option Value → mm_M → Option mm_R} : mm_bx 343 7 true mm_h343 L (some (.inr 0, μ)) F = some (.inl (some (.int 2)), μ) := by
  have h1 : mm_ca 7 0 mm_h343 = some 19 := by decide
  have h2 : mm_hs 343 19 = some (5, 21) := rfl
  unfold mm_bx
  simp only [h1, h2, if_true]
  exact mv_iconst 2 mj_343 rfl mk_i2 (q := 22) rfl (mv_iret mj_343 rfl)
theorem wr_343 (hA : (∃ v, A = .inl (some v)) ∨ ∃ c, A = .inr c ∧ (c = 2 ∨ c = 0)) (hV : mm_V 163 0 [some (.ref 0), some (.int x1), some (.int x2), some (.int x3)] [] (mm_Z m w i l e) = some (aAn A, mm_Z m w' i' l' e')) : mm_V 343 0 [some (.ref 0), some (.int x1), some (.int x2), some (.int x3), some (.ref 146), none] [] (mm_Z m w i l e) = some (.inl (some (.int (nI (aTh fAc A)))), mm_Z m w' i' (lOut A l') e') := by
  rw [mr_343_0, hV]
  rcases hA with ⟨v, rfl⟩ | ⟨c, rfl, hc⟩
  · exact (mr_343_10 m w' i' l' e' x1 x2 x3 0 v).trans (if_neg (by decide))
  · rcases hc with rfl | rfl
    · exact mx_343_2
    · exact mx_343_0
theorem mx_344_0 {L : List (Option Value)} {μ : mm_M} {F : Option Value → mm_M → Option mm_R} : mm_bx 344 4 true mm_h344 L (some (.inr 0, μ)) F = some (.inl (some (.int 1)), μ) := by
  have h1 : mm_ca 4 0 mm_h344 = some 12 := by decide
  have h2 : mm_hs 344 12 = some (3, 13) := rfl
  unfold mm_bx
  simp only [h1, h2, if_true]
  exact mv_iconst 1 mj_344 rfl mk_i1 (q := 14) rfl (mv_iret mj_344 rfl)
theorem wr_344 (hA : (∃ v, A = .inl (some v)) ∨ ∃ c, A = .inr c ∧ (c = 0)) (hV : mm_V 165 0 [some (.ref 0), some (.int x1)] [] (mm_Z m w i l e) = some (aAn A, mm_Z m w' i' l' e')) : mm_V 344 0 [some (.ref 0), some (.int x1), some (.ref 146), none] [] (mm_Z m w i l e) = some (.inl (some (.int (nI (aTh (fun _ => 1) A)))), mm_Z m w' i' (lOut A l') e') := by
  rw [mr_344_0, hV]
  rcases hA with ⟨v, rfl⟩ | ⟨c, rfl, hc⟩
  · exact (mr_344_7 m w' i' l' e' x1 0 v).trans (if_neg (by decide))
  · subst hc
    exact mx_344_0
theorem mx_345_2 {L : List (Option Value)} {μ : mm_M} {F : Option Value → mm_M → Option mm_R} : mm_bx 345 7 true mm_h345 L (some (.inr 2, μ)) F = some (.inl (some (.int 1)), μ) := by
  have h1 : mm_ca 7 2 mm_h345 = some 15 := by decide
  have h2 : mm_hs 345 15 = some (5, 17) := rfl
  unfold mm_bx
  simp only [h1, h2, if_true]
  exact mv_iconst 1 mj_345 rfl mk_i1 (q := 18) rfl (mv_iret mj_345 rfl)
theorem mx_345_0 {L : List (Option Value)} {μ : mm_M} {F : Option Value → mm_M → Option mm_R} : mm_bx 345 7 true mm_h345 L (some (.inr 0, μ)) F = some (.inl (some (.int 2)), μ) := by
  have h1 : mm_ca 7 0 mm_h345 = some 19 := by decide
  have h2 : mm_hs 345 19 = some (5, 21) := rfl
  unfold mm_bx
  simp only [h1, h2, if_true]
  exact mv_iconst 2 mj_345 rfl mk_i2 (q := 22) rfl (mv_iret mj_345 rfl)
theorem mx_345_3 {L : List (Option Value)} {μ : mm_M} {F : Option Value → mm_M → Option mm_R} : mm_bx 345 7 true mm_h345 L (some (.inr 3, μ)) F = some (.inl (some (.int 3)), μ) := by
  have h1 : mm_ca 7 3 mm_h345 = some 23 := by decide
  have h2 : mm_hs 345 23 = some (5, 25) := rfl
  unfold mm_bx
  simp only [h1, h2, if_true]
  exact mv_iconst 3 mj_345 rfl mk_i3 (q := 26) rfl (mv_iret mj_345 rfl)
theorem wr_345 (hA : (∃ v, A = .inl (some v)) ∨ ∃ c, A = .inr c ∧ (c = 2 ∨ c = 0 ∨ c = 3)) (hV : mm_V 166 0 [some (.ref 0), some (.int x1), some (.int x2), some (.int x3)] [] (mm_Z m w i l e) = some (aAn A, mm_Z m w' i' l' e')) : mm_V 345 0 [some (.ref 0), some (.int x1), some (.int x2), some (.int x3), some (.ref 146), none] [] (mm_Z m w i l e) = some (.inl (some (.int (nI (aTh fAc A)))), mm_Z m w' i' (lOut A l') e') := by
  rw [mr_345_0, hV]
  rcases hA with ⟨v, rfl⟩ | ⟨c, rfl, hc⟩
  · exact (mr_345_10 m w' i' l' e' x1 x2 x3 0 v).trans (if_neg (by decide))
  · rcases hc with rfl | rfl | rfl
    · exact mx_345_2
    · exact mx_345_0
    · exact mx_345_3
theorem mx_346_2 {L : List (Option Value)} {μ : mm_M} {F : Option Value → mm_M → Option mm_R} : mm_bx 346 9 true mm_h346 L (some (.inr 2, μ)) F = some (.inl (some (.int 1)), μ) := by
  have h1 : mm_ca 9 2 mm_h346 = some 17 := by decide
  have h2 : mm_hs 346 17 = some (6, 19) := rfl
  unfold mm_bx
  simp only [h1, h2, if_true]
  exact mv_iconst 1 mj_346 rfl mk_i1 (q := 20) rfl (mv_iret mj_346 rfl)
theorem mx_346_0 {L : List (Option Value)} {μ : mm_M} {F : Option Value → mm_M → Option mm_R} : mm_bx 346 9 true mm_h346 L (some (.inr 0, μ)) F = some (.inl (some (.int 2)), μ) := by
  have h1 : mm_ca 9 0 mm_h346 = some 21 := by decide
  have h2 : mm_hs 346 21 = some (6, 23) := rfl
  unfold mm_bx
  simp only [h1, h2, if_true]
  exact mv_iconst 2 mj_346 rfl mk_i2 (q := 24) rfl (mv_iret mj_346 rfl)
theorem mx_346_3 {L : List (Option Value)} {μ : mm_M} {F : Option Value → mm_M → Option mm_R} : mm_bx 346 9 true mm_h346 L (some (.inr 3, μ)) F = some (.inl (some (.int 3)), μ) := by
  have h1 : mm_ca 9 3 mm_h346 = some 25 := by decide
  have h2 : mm_hs 346 25 = some (6, 27) := rfl
  unfold mm_bx
  simp only [h1, h2, if_true]
  exact mv_iconst 3 mj_346 rfl mk_i3 (q := 28) rfl (mv_iret mj_346 rfl)
theorem wr_346 (hA : (∃ v, A = .inl (some v)) ∨ ∃ c, A = .inr c ∧ (c = 2 ∨ c = 0 ∨ c = 3)) (hV : mm_V 167 0 [some (.ref 0), some (.int x1), some (.int x2), some (.int x3), some (.int x4)] [] (mm_Z m w i l e) = some (aAn A, mm_Z m w' i' l' e')) : mm_V 346 0 [some (.ref 0), some (.int x1), some (.int x2), some (.int x3), some (.int x4), some (.ref 146), none] [] (mm_Z m w i l e) = some (.inl (some (.int (nI (aTh fAc A)))), mm_Z m w' i' (lOut A l') e') := by
  rw [mr_346_0, hV]
  rcases hA with ⟨v, rfl⟩ | ⟨c, rfl, hc⟩
  · exact (mr_346_12 m w' i' l' e' x1 x2 x3 x4 0 v).trans (if_neg (by decide))
  · rcases hc with rfl | rfl | rfl
    · exact mx_346_2
    · exact mx_346_0
    · exact mx_346_3
theorem mx_347_2 {L : List (Option Value)} {μ : mm_M} {F : Option Value → mm_M → Option mm_R} : mm_bx 347 7 true mm_h347 L (some (.inr 2, μ)) F = some (.inl (some (.int 1)), μ) := by
  have h1 : mm_ca 7 2 mm_h347 = some 15 := by decide
  have h2 : mm_hs 347 15 = some (5, 17) := rfl
  unfold mm_bx
  simp only [h1, h2, if_true]
  exact mv_iconst 1 mj_347 rfl mk_i1 (q := 18) rfl (mv_iret mj_347 rfl)
theorem mx_347_0 {L : List (Option Value)} {μ : mm_M} {F : Option Value → mm_M → Option mm_R} : mm_bx 347 7 true mm_h347 L (some (.inr 0, μ)) F = some (.inl (some (.int 2)), μ) := by
  have h1 : mm_ca 7 0 mm_h347 = some 19 := by decide
  have h2 : mm_hs 347 19 = some (5, 21) := rfl
  unfold mm_bx
  simp only [h1, h2, if_true]
  exact mv_iconst 2 mj_347 rfl mk_i2 (q := 22) rfl (mv_iret mj_347 rfl)
theorem mx_347_3 {L : List (Option Value)} {μ : mm_M} {F : Option Value → mm_M → Option mm_R} : mm_bx 347 7 true mm_h347 L (some (.inr 3, μ)) F = some (.inl (some (.int 3)), μ) := by
  have h1 : mm_ca 7 3 mm_h347 = some 23 := by decide
  have h2 : mm_hs 347 23 = some (5, 25) := rfl
  unfold mm_bx
  simp only [h1, h2, if_true]
  exact mv_iconst 3 mj_347 rfl mk_i3 (q := 26) rfl (mv_iret mj_347 rfl)
theorem wr_347 (hA : (∃ v, A = .inl (some v)) ∨ ∃ c, A = .inr c ∧ (c = 2 ∨ c = 0 ∨ c = 3)) (hV : mm_V 168 0 [some (.ref 0), some (.int x1), some (.int x2), some (.int x3)] [] (mm_Z m w i l e) = some (aAn A, mm_Z m w' i' l' e')) : mm_V 347 0 [some (.ref 0), some (.int x1), some (.int x2), some (.int x3), some (.ref 146), none] [] (mm_Z m w i l e) = some (.inl (some (.int (nI (aTh fAc A)))), mm_Z m w' i' (lOut A l') e') := by
  rw [mr_347_0, hV]
  rcases hA with ⟨v, rfl⟩ | ⟨c, rfl, hc⟩
  · exact (mr_347_10 m w' i' l' e' x1 x2 x3 0 v).trans (if_neg (by decide))
  · rcases hc with rfl | rfl | rfl
    · exact mx_347_2
    · exact mx_347_0
    · exact mx_347_3
theorem mx_348_2 {L : List (Option Value)} {μ : mm_M} {F : Option Value → mm_M → Option mm_R} : mm_bx 348 7 true mm_h348 L (some (.inr 2, μ)) F = some (.inl (some (.int 1)), μ) := by
  have h1 : mm_ca 7 2 mm_h348 = some 15 := by decide
  have h2 : mm_hs 348 15 = some (5, 17) := rfl
  unfold mm_bx
  simp only [h1, h2, if_true]
  exact mv_iconst 1 mj_348 rfl mk_i1 (q := 18) rfl (mv_iret mj_348 rfl)
theorem mx_348_0 {L : List (Option Value)} {μ : mm_M} {F : Option Value → mm_M → Option mm_R} : mm_bx 348 7 true mm_h348 L (some (.inr 0, μ)) F = some (.inl (some (.int 2)), μ) := by
  have h1 : mm_ca 7 0 mm_h348 = some 19 := by decide
  have h2 : mm_hs 348 19 = some (5, 21) := rfl
  unfold mm_bx
  simp only [h1, h2, if_true]
  exact mv_iconst 2 mj_348 rfl mk_i2 (q := 22) rfl (mv_iret mj_348 rfl)
theorem mx_348_3 {L : List (Option Value)} {μ : mm_M} {F : Option Value → mm_M → Option mm_R} : mm_bx 348 7 true mm_h348 L (some (.inr 3, μ)) F = some (.inl (some (.int 3)), μ) := by
  have h1 : mm_ca 7 3 mm_h348 = some 23 := by decide
  have h2 : mm_hs 348 23 = some (5, 25) := rfl
  unfold mm_bx
  simp only [h1, h2, if_true]
  exact mv_iconst 3 mj_348 rfl mk_i3 (q := 26) rfl (mv_iret mj_348 rfl)
theorem wr_348 (hA : (∃ v, A = .inl (some v)) ∨ ∃ c, A = .inr c ∧ (c = 2 ∨ c = 0 ∨ c = 3)) (hV : mm_V 169 0 [some (.ref 0), some (.int x1), some (.int x2), some (.int x3)] [] (mm_Z m w i l e) = some (aAn A, mm_Z m w' i' l' e')) : mm_V 348 0 [some (.ref 0), some (.int x1), some (.int x2), some (.int x3), some (.ref 146), none] [] (mm_Z m w i l e) = some (.inl (some (.int (nI (aTh fAc A)))), mm_Z m w' i' (lOut A l') e') := by
  rw [mr_348_0, hV]
  rcases hA with ⟨v, rfl⟩ | ⟨c, rfl, hc⟩
  · exact (mr_348_10 m w' i' l' e' x1 x2 x3 0 v).trans (if_neg (by decide))
  · rcases hc with rfl | rfl | rfl
    · exact mx_348_2
    · exact mx_348_0
    · exact mx_348_3
theorem mx_349_2 {L : List (Option Value)} {μ : mm_M} {F : Option Value → mm_M → Option mm_R} : mm_bx 349 7 true mm_h349 L (some (.inr 2, μ)) F = some (.inl (some (.int 1)), μ) := by
  have h1 : mm_ca 7 2 mm_h349 = some 15 := by decide
  have h2 : mm_hs 349 15 = some (5, 17) := rfl
  unfold mm_bx
  simp only [h1, h2, if_true]
  exact mv_iconst 1 mj_349 rfl mk_i1 (q := 18) rfl (mv_iret mj_349 rfl)
theorem mx_349_0 {L : List (Option Value)} {μ : mm_M} {F : Option Value → mm_M → Option mm_R} : mm_bx 349 7 true mm_h349 L (some (.inr 0, μ)) F = some (.inl (some (.int 2)), μ) := by
  have h1 : mm_ca 7 0 mm_h349 = some 19 := by decide
  have h2 : mm_hs 349 19 = some (5, 21) := rfl
  unfold mm_bx
  simp only [h1, h2, if_true]
  exact mv_iconst 2 mj_349 rfl mk_i2 (q := 22) rfl (mv_iret mj_349 rfl)
theorem mx_349_3 {L : List (Option Value)} {μ : mm_M} {F : Option Value → mm_M → Option mm_R} : mm_bx 349 7 true mm_h349 L (some (.inr 3, μ)) F = some (.inl (some (.int 3)), μ) := by
  have h1 : mm_ca 7 3 mm_h349 = some 23 := by decide
  have h2 : mm_hs 349 23 = some (5, 25) := rfl
  unfold mm_bx
  simp only [h1, h2, if_true]
  exact mv_iconst 3 mj_349 rfl mk_i3 (q := 26) rfl (mv_iret mj_349 rfl)
theorem wr_349 (hA : (∃ v, A = .inl (some v)) ∨ ∃ c, A = .inr c ∧ (c = 2 ∨ c = 0 ∨ c = 3)) (hV : mm_V 170 0 [some (.ref 0), some (.int x1), some (.int x2), some (.int x3)] [] (mm_Z m w i l e) = some (aAn A, mm_Z m w' i' l' e')) : mm_V 349 0 [some (.ref 0), some (.int x1), some (.int x2), some (.int x3), some (.ref 146), none] [] (mm_Z m w i l e) = some (.inl (some (.int (nI (aTh fAc A)))), mm_Z m w' i' (lOut A l') e') := by
  rw [mr_349_0, hV]
  rcases hA with ⟨v, rfl⟩ | ⟨c, rfl, hc⟩
  · exact (mr_349_10 m w' i' l' e' x1 x2 x3 0 v).trans (if_neg (by decide))
  · rcases hc with rfl | rfl | rfl
    · exact mx_349_2
    · exact mx_349_0
    · exact mx_349_3
theorem mx_350_2 {L : List (Option Value)} {μ : mm_M} {F : Option Value → mm_M → Option mm_R} : mm_bx 350 5 true mm_h350 L (some (.inr 2, μ)) F = some (.inl (some (.int 1)), μ) := by
  have h1 : mm_ca 5 2 mm_h350 = some 13 := by decide
  have h2 : mm_hs 350 13 = some (4, 15) := rfl
  unfold mm_bx
  simp only [h1, h2, if_true]
  exact mv_iconst 1 mj_350 rfl mk_i1 (q := 16) rfl (mv_iret mj_350 rfl)
theorem mx_350_0 {L : List (Option Value)} {μ : mm_M} {F : Option Value → mm_M → Option mm_R} : mm_bx 350 5 true mm_h350 L (some (.inr 0, μ)) F = some (.inl (some (.int 2)), μ) := by
  have h1 : mm_ca 5 0 mm_h350 = some 17 := by decide
  have h2 : mm_hs 350 17 = some (4, 19) := rfl
  unfold mm_bx
  simp only [h1, h2, if_true]
  exact mv_iconst 2 mj_350 rfl mk_i2 (q := 20) rfl (mv_iret mj_350 rfl)
theorem mx_350_3 {L : List (Option Value)} {μ : mm_M} {F : Option Value → mm_M → Option mm_R} : mm_bx 350 5 true mm_h350 L (some (.inr 3, μ)) F = some (.inl (some (.int 3)), μ) := by
  have h1 : mm_ca 5 3 mm_h350 = some 21 := by decide
  have h2 : mm_hs 350 21 = some (4, 23) := rfl
  unfold mm_bx
  simp only [h1, h2, if_true]
  exact mv_iconst 3 mj_350 rfl mk_i3 (q := 24) rfl (mv_iret mj_350 rfl)
theorem wr_350 (hA : (∃ v, A = .inl (some v)) ∨ ∃ c, A = .inr c ∧ (c = 2 ∨ c = 0 ∨ c = 3)) (hV : mm_V 171 0 [some (.ref 0), some (.int x1), some (.int x2)] [] (mm_Z m w i l e) = some (aAn A, mm_Z m w' i' l' e')) : mm_V 350 0 [some (.ref 0), some (.int x1), some (.int x2), some (.ref 146), none] [] (mm_Z m w i l e) = some (.inl (some (.int (nI (aTh fAc A)))), mm_Z m w' i' (lOut A l') e') := by
  rw [mr_350_0, hV]
  rcases hA with ⟨v, rfl⟩ | ⟨c, rfl, hc⟩
  · exact (mr_350_8 m w' i' l' e' x1 x2 0 v).trans (if_neg (by decide))
  · rcases hc with rfl | rfl | rfl
    · exact mx_350_2
    · exact mx_350_0
    · exact mx_350_3
theorem mx_351_2 {L : List (Option Value)} {μ : mm_M} {F : Option Value → mm_M → Option mm_R} : mm_bx 351 7 true mm_h351 L (some (.inr 2, μ)) F = some (.inl (some (.int 1)), μ) := by
  have h1 : mm_ca 7 2 mm_h351 = some 15 := by decide
  have h2 : mm_hs 351 15 = some (5, 17) := rfl
  unfold mm_bx
  simp only [h1, h2, if_true]
  exact mv_iconst 1 mj_351 rfl mk_i1 (q := 18) rfl (mv_iret mj_351 rfl)
theorem mx_351_0 {L : List (Option Value)} {μ : mm_M} {F : Option Value → mm_M → Option mm_R} : mm_bx 351 7 true mm_h351 L (some (.inr 0, μ)) F = some (.inl (some (.int 2)), μ) := by
  have h1 : mm_ca 7 0 mm_h351 = some 19 := by decide
  have h2 : mm_hs 351 19 = some (5, 21) := rfl
  unfold mm_bx
  simp only [h1, h2, if_true]
  exact mv_iconst 2 mj_351 rfl mk_i2 (q := 22) rfl (mv_iret mj_351 rfl)
theorem mx_351_3 {L : List (Option Value)} {μ : mm_M} {F : Option Value → mm_M → Option mm_R} : mm_bx 351 7 true mm_h351 L (some (.inr 3, μ)) F = some (.inl (some (.int 3)), μ) := by
  have h1 : mm_ca 7 3 mm_h351 = some 23 := by decide
  have h2 : mm_hs 351 23 = some (5, 25) := rfl
  unfold mm_bx
  simp only [h1, h2, if_true]
  exact mv_iconst 3 mj_351 rfl mk_i3 (q := 26) rfl (mv_iret mj_351 rfl)
theorem wr_351 (hA : (∃ v, A = .inl (some v)) ∨ ∃ c, A = .inr c ∧ (c = 2 ∨ c = 0 ∨ c = 3)) (hV : mm_V 172 0 [some (.ref 0), some (.int x1), some (.int x2), some (.int x3)] [] (mm_Z m w i l e) = some (aAn A, mm_Z m w' i' l' e')) : mm_V 351 0 [some (.ref 0), some (.int x1), some (.int x2), some (.int x3), some (.ref 146), none] [] (mm_Z m w i l e) = some (.inl (some (.int (nI (aTh fAc A)))), mm_Z m w' i' (lOut A l') e') := by
  rw [mr_351_0, hV]
  rcases hA with ⟨v, rfl⟩ | ⟨c, rfl, hc⟩
  · exact (mr_351_10 m w' i' l' e' x1 x2 x3 0 v).trans (if_neg (by decide))
  · rcases hc with rfl | rfl | rfl
    · exact mx_351_2
    · exact mx_351_0
    · exact mx_351_3
theorem mx_352_2 {L : List (Option Value)} {μ : mm_M} {F : Option Value → mm_M → Option mm_R} : mm_bx 352 5 true mm_h352 L (some (.inr 2, μ)) F = some (.inl (some (.int 1)), μ) := by
  have h1 : mm_ca 5 2 mm_h352 = some 13 := by decide
  have h2 : mm_hs 352 13 = some (4, 15) := rfl
  unfold mm_bx
  simp only [h1, h2, if_true]
  exact mv_iconst 1 mj_352 rfl mk_i1 (q := 16) rfl (mv_iret mj_352 rfl)
theorem mx_352_0 {L : List (Option Value)} {μ : mm_M} {F : Option Value → mm_M → Option mm_R} : mm_bx 352 5 true mm_h352 L (some (.inr 0, μ)) F = some (.inl (some (.int 2)), μ) := by
  have h1 : mm_ca 5 0 mm_h352 = some 17 := by decide
  have h2 : mm_hs 352 17 = some (4, 19) := rfl
  unfold mm_bx
  simp only [h1, h2, if_true]
  exact mv_iconst 2 mj_352 rfl mk_i2 (q := 20) rfl (mv_iret mj_352 rfl)
theorem mx_352_3 {L : List (Option Value)} {μ : mm_M} {F : Option Value → mm_M → Option mm_R} : mm_bx 352 5 true mm_h352 L (some (.inr 3, μ)) F = some (.inl (some (.int 3)), μ) := by
  have h1 : mm_ca 5 3 mm_h352 = some 21 := by decide
  have h2 : mm_hs 352 21 = some (4, 23) := rfl
  unfold mm_bx
  simp only [h1, h2, if_true]
  exact mv_iconst 3 mj_352 rfl mk_i3 (q := 24) rfl (mv_iret mj_352 rfl)
theorem wr_352 (hA : (∃ v, A = .inl (some v)) ∨ ∃ c, A = .inr c ∧ (c = 2 ∨ c = 0 ∨ c = 3)) (hV : mm_V 173 0 [some (.ref 0), some (.int x1), some (.int x2)] [] (mm_Z m w i l e) = some (aAn A, mm_Z m w' i' l' e')) : mm_V 352 0 [some (.ref 0), some (.int x1), some (.int x2), some (.ref 146), none] [] (mm_Z m w i l e) = some (.inl (some (.int (nI (aTh fAc A)))), mm_Z m w' i' (lOut A l') e') := by
  rw [mr_352_0, hV]
  rcases hA with ⟨v, rfl⟩ | ⟨c, rfl, hc⟩
  · exact (mr_352_8 m w' i' l' e' x1 x2 0 v).trans (if_neg (by decide))
  · rcases hc with rfl | rfl | rfl
    · exact mx_352_2
    · exact mx_352_0
    · exact mx_352_3
theorem mx_353_2 {L : List (Option Value)} {μ : mm_M} {F : Option Value → mm_M → Option mm_R} : mm_bx 353 3 true mm_h353 L (some (.inr 2, μ)) F = some (.inl (some (.int 1)), μ) := by
  have h1 : mm_ca 3 2 mm_h353 = some 9 := by decide
  have h2 : mm_hs 353 9 = some (3, 10) := rfl
  unfold mm_bx
  simp only [h1, h2, if_true]
  exact mv_iconst 1 mj_353 rfl mk_i1 (q := 11) rfl (mv_iret mj_353 rfl)
theorem mx_353_0 {L : List (Option Value)} {μ : mm_M} {F : Option Value → mm_M → Option mm_R} : mm_bx 353 3 true mm_h353 L (some (.inr 0, μ)) F = some (.inl (some (.int 2)), μ) := by
  have h1 : mm_ca 3 0 mm_h353 = some 12 := by decide
  have h2 : mm_hs 353 12 = some (3, 13) := rfl
  unfold mm_bx
  simp only [h1, h2, if_true]
  exact mv_iconst 2 mj_353 rfl mk_i2 (q := 14) rfl (mv_iret mj_353 rfl)
theorem mx_353_3 {L : List (Option Value)} {μ : mm_M} {F : Option Value → mm_M → Option mm_R} : mm_bx 353 3 true mm_h353 L (some (.inr 3, μ)) F = some (.inl (some (.int 3)), μ) := by
  have h1 : mm_ca 3 3 mm_h353 = some 15 := by decide
  have h2 : mm_hs 353 15 = some (3, 16) := rfl
  unfold mm_bx
  simp only [h1, h2, if_true]
  exact mv_iconst 3 mj_353 rfl mk_i3 (q := 17) rfl (mv_iret mj_353 rfl)
theorem wr_353 (hA : A = .inl none ∨ ∃ c, A = .inr c ∧ (c = 2 ∨ c = 0 ∨ c = 3)) (hV : mm_V 174 0 [some (.ref 0), some (.int x1), some (.int x2)] [] (mm_Z m w i l e) = some (aAn A, mm_Z m w' i' l' e')) : mm_V 353 0 [some (.ref 0), some (.int x1), some (.int x2), none] [] (mm_Z m w i l e) = some (.inl (some (.int (nI (aTh fAc A)))), mm_Z m w' i' (lOut A l') e') := by
  rw [mr_353_0, hV]
  rcases hA with rfl | ⟨c, rfl, hc⟩
  · exact mr_353_6 m w' i' l' e' x1 x2
  · rcases hc with rfl | rfl | rfl
    · exact mx_353_2
    · exact mx_353_0
    · exact mx_353_3
theorem mx_354_0 {L : List (Option Value)} {μ : mm_M} {F : Option Value → mm_M → Option mm_R} : mm_bx 354 5 true mm_h354 L (some (.inr 0, μ)) F = some (.inl (some (.int 1)), μ) := by
  have h1 : mm_ca 5 0 mm_h354 = some 13 := by decide
  have h2 : mm_hs 354 13 = some (4, 15) := rfl
  unfold mm_bx
  simp only [h1, h2, if_true]
  exact mv_iconst 1 mj_354 rfl mk_i1 (q := 16) rfl (mv_iret mj_354 rfl)
theorem wr_354 (hA : (∃ v, A = .inl (some v)) ∨ ∃ c, A = .inr c ∧ (c = 0)) (hV : mm_V 175 0 [some (.ref 0), some (.int x1), some (.int x2)] [] (mm_Z m w i l e) = some (aAn A, mm_Z m w' i' l' e')) : mm_V 354 0 [some (.ref 0), some (.int x1), some (.int x2), some (.ref 146), none] [] (mm_Z m w i l e) = some (.inl (some (.int (nI (aTh (fun _ => 1) A)))), mm_Z m w' i' (lOut A l') e') := by
  rw [mr_354_0, hV]
  rcases hA with ⟨v, rfl⟩ | ⟨c, rfl, hc⟩
  · exact (mr_354_8 m w' i' l' e' x1 x2 0 v).trans (if_neg (by decide))
  · subst hc
    exact mx_354_0
theorem mx_355_0 {L : List (Option Value)} {μ : mm_M} {F : Option Value → mm_M → Option mm_R} : mm_bx 355 5 true mm_h355 L (some (.inr 0, μ)) F = some (.inl (some (.int 1)), μ) := by
  have h1 : mm_ca 5 0 mm_h355 = some 13 := by decide
  have h2 : mm_hs 355 13 = some (4, 15) := rfl
  unfold mm_bx
  simp only [h1, h2, if_true]
  exact mv_iconst 1 mj_355 rfl mk_i1 (q := 16) rfl (mv_iret mj_355 rfl)
theorem mx_355_3 {L : List (Option Value)} {μ : mm_M} {F : Option Value → mm_M → Option mm_R} : mm_bx 355 5 true mm_h355 L (some (.inr 3, μ)) F = some (.inl (some (.int 2)), μ) := by
  have h1 : mm_ca 5 3 mm_h355 = some 17 := by decide
  have h2 : mm_hs 355 17 = some (4, 19) := rfl
  unfold mm_bx
  simp only [h1, h2, if_true]
  exact mv_iconst 2 mj_355 rfl mk_i2 (q := 20) rfl (mv_iret mj_355 rfl)
theorem wr_355 (hA : (∃ v, A = .inl (some v)) ∨ ∃ c, A = .inr c ∧ (c = 0 ∨ c = 3)) (hV : mm_V 176 0 [some (.ref 0), some (.int x1), some (.int x2), none] [] (mm_Z m w i l e) = some (aAn A, mm_Z m w' i' l' e')) : mm_V 355 0 [some (.ref 0), some (.int x1), some (.int x2), some (.ref 146), none] [] (mm_Z m w i l e) = some (.inl (some (.int (nI (aTh fNo A)))), mm_Z m w' i' (lOut A l') e') := by
  rw [mr_355_0, hV]
  rcases hA with ⟨v, rfl⟩ | ⟨c, rfl, hc⟩
  · exact (mr_355_8 m w' i' l' e' x1 x2 0 v).trans (if_neg (by decide))
  · rcases hc with rfl | rfl
    · exact mx_355_0
    · exact mx_355_3
theorem mx_356_4 {L : List (Option Value)} {μ : mm_M} {F : Option Value → mm_M → Option mm_R} : mm_bx 356 5 true mm_h356 L (some (.inr 4, μ)) F = some (.inl (some (.int 1)), μ) := by
  have h1 : mm_ca 5 4 mm_h356 = some 13 := by decide
  have h2 : mm_hs 356 13 = some (4, 15) := rfl
  unfold mm_bx
  simp only [h1, h2, if_true]
  exact mv_iconst 1 mj_356 rfl mk_i1 (q := 16) rfl (mv_iret mj_356 rfl)
theorem mx_356_0 {L : List (Option Value)} {μ : mm_M} {F : Option Value → mm_M → Option mm_R} : mm_bx 356 5 true mm_h356 L (some (.inr 0, μ)) F = some (.inl (some (.int 2)), μ) := by
  have h1 : mm_ca 5 0 mm_h356 = some 17 := by decide
  have h2 : mm_hs 356 17 = some (4, 19) := rfl
  unfold mm_bx
  simp only [h1, h2, if_true]
  exact mv_iconst 2 mj_356 rfl mk_i2 (q := 20) rfl (mv_iret mj_356 rfl)
theorem wr_356 (hA : (∃ v, A = .inl (some v)) ∨ ∃ c, A = .inr c ∧ (c = 4 ∨ c = 0)) (hV : mm_V 177 0 [some (.ref 0), some (.int x1), some (.int x2)] [] (mm_Z m w i l e) = some (aAn A, mm_Z m w' i' l' e')) : mm_V 356 0 [some (.ref 0), some (.int x1), some (.int x2), some (.ref 146), none] [] (mm_Z m w i l e) = some (.inl (some (.int (nI (aTh fRec A)))), mm_Z m w' i' (lOut A l') e') := by
  rw [mr_356_0, hV]
  rcases hA with ⟨v, rfl⟩ | ⟨c, rfl, hc⟩
  · exact (mr_356_8 m w' i' l' e' x1 x2 0 v).trans (if_neg (by decide))
  · rcases hc with rfl | rfl
    · exact mx_356_4
    · exact mx_356_0
theorem mx_357_0 {L : List (Option Value)} {μ : mm_M} {F : Option Value → mm_M → Option mm_R} : mm_bx 357 4 true mm_h357 L (some (.inr 0, μ)) F = some (.inl (some (.int 1)), μ) := by
  have h1 : mm_ca 4 0 mm_h357 = some 12 := by decide
  have h2 : mm_hs 357 12 = some (3, 13) := rfl
  unfold mm_bx
  simp only [h1, h2, if_true]
  exact mv_iconst 1 mj_357 rfl mk_i1 (q := 14) rfl (mv_iret mj_357 rfl)
theorem wr_357 (hA : (∃ v, A = .inl (some v)) ∨ ∃ c, A = .inr c ∧ (c = 0)) (hV : mm_V 178 0 [some (.ref 0), some (.int x1)] [] (mm_Z m w i l e) = some (aAn A, mm_Z m w' i' l' e')) : mm_V 357 0 [some (.ref 0), some (.int x1), some (.ref 146), none] [] (mm_Z m w i l e) = some (.inl (some (.int (nI (aTh (fun _ => 1) A)))), mm_Z m w' i' (lOut A l') e') := by
  rw [mr_357_0, hV]
  rcases hA with ⟨v, rfl⟩ | ⟨c, rfl, hc⟩
  · exact (mr_357_7 m w' i' l' e' x1 0 v).trans (if_neg (by decide))
  · subst hc
    exact mx_357_0
theorem mx_358_4 {L : List (Option Value)} {μ : mm_M} {F : Option Value → mm_M → Option mm_R} : mm_bx 358 4 true mm_h358 L (some (.inr 4, μ)) F = some (.inl (some (.int 1)), μ) := by
  have h1 : mm_ca 4 4 mm_h358 = some 12 := by decide
  have h2 : mm_hs 358 12 = some (3, 13) := rfl
  unfold mm_bx
  simp only [h1, h2, if_true]
  exact mv_iconst 1 mj_358 rfl mk_i1 (q := 14) rfl (mv_iret mj_358 rfl)
theorem wr_358 (hA : (∃ v, A = .inl (some v)) ∨ ∃ c, A = .inr c ∧ (c = 4)) (hV : mm_V 180 0 [some (.ref 0), some (.int x1)] [] (mm_Z m w i l e) = some (aAn A, mm_Z m w' i' l' e')) : mm_V 358 0 [some (.ref 0), some (.int x1), some (.ref 146), none] [] (mm_Z m w i l e) = some (.inl (some (.int (nI (aTh (fun _ => 1) A)))), mm_Z m w' i' (lOut A l') e') := by
  rw [mr_358_0, hV]
  rcases hA with ⟨v, rfl⟩ | ⟨c, rfl, hc⟩
  · exact (mr_358_7 m w' i' l' e' x1 0 v).trans (if_neg (by decide))
  · subst hc
    exact mx_358_4
theorem mx_359_2 {L : List (Option Value)} {μ : mm_M} {F : Option Value → mm_M → Option mm_R} : mm_bx 359 2 true mm_h359 L (some (.inr 2, μ)) F = some (.inl (some (.int 1)), μ) := by
  have h1 : mm_ca 2 2 mm_h359 = some 8 := by decide
  have h2 : mm_hs 359 8 = some (2, 9) := rfl
  unfold mm_bx
  simp only [h1, h2, if_true]
  exact mv_iconst 1 mj_359 rfl mk_i1 (q := 10) rfl (mv_iret mj_359 rfl)
theorem mx_359_0 {L : List (Option Value)} {μ : mm_M} {F : Option Value → mm_M → Option mm_R} : mm_bx 359 2 true mm_h359 L (some (.inr 0, μ)) F = some (.inl (some (.int 2)), μ) := by
  have h1 : mm_ca 2 0 mm_h359 = some 11 := by decide
  have h2 : mm_hs 359 11 = some (2, 12) := rfl
  unfold mm_bx
  simp only [h1, h2, if_true]
  exact mv_iconst 2 mj_359 rfl mk_i2 (q := 13) rfl (mv_iret mj_359 rfl)
theorem wr_359 (hA : A = .inl none ∨ ∃ c, A = .inr c ∧ (c = 2 ∨ c = 0)) (hV : mm_V 182 0 [some (.ref 0), some (.int x1)] [] (mm_Z m w i l e) = some (aAn A, mm_Z m w' i' l' e')) : mm_V 359 0 [some (.ref 0), some (.int x1), none] [] (mm_Z m w i l e) = some (.inl (some (.int (nI (aTh fAc A)))), mm_Z m w' i' (lOut A l') e') := by
  rw [mr_359_0, hV]
  rcases hA with rfl | ⟨c, rfl, hc⟩
  · exact mr_359_5 m w' i' l' e' x1
  · rcases hc with rfl | rfl
    · exact mx_359_2
    · exact mx_359_0
end MM216
