/-! THE GUARD: records; the reference's cache -/
section MM80
variable {p w : Bool} {l : Nat → Nat → Int64} {e : Bool × Nat × Nat} {π : mP} {m : Nat} {κ : mK}
theorem rec_len (hw : GW κ) (r : Int32 × Int32 × Int32 × Int32 × Int32) : ((if (kR κ).length < 20 then kR κ else (kR κ).tail) ++ [r]).length = min (kn κ + 1) 20 := by
  have h3 := hw.2.2.1
  rw [List.length_append, List.length_singleton]
  split
  · omega
  · rw [List.length_tail]; omega
theorem fm_xor (a b : Nat) : nI a ^^^ nI b = nI (a ^^^ b) := by
  apply Int32.toBitVec_inj.mp
  rw [Int32.toBitVec_xor]
  show BitVec.ofNat 32 a ^^^ BitVec.ofNat 32 b = BitVec.ofNat 32 (a ^^^ b)
  apply BitVec.eq_of_toNat_eq
  rw [BitVec.toNat_xor, BitVec.toNat_ofNat, BitVec.toNat_ofNat, BitVec.toNat_ofNat, Nat.xor_mod_two_pow]
/-- Math.floorMod of a count and 20 -/
theorem fm_20 {a : Nat} (h : a < 2 ^ 31) (μ : mm_M) : mm_V 362 0 [some (.int (nI a)), some (.int 20), none] [] μ = some (.inl (some (.int (nI (a % 20)))), μ) := by
  rw [mr_362_0 (nI a) 20 (by decide), na_20, na_re h (by omega), fm_xor, if_neg (nI_pos (Nat.xor_lt_two_pow h (by decide)))]
theorem gc_addRecord {i : Nat → Nat → Int32} (h : GC i κ) (hw : GW κ) (r1 r2 r3 r4 r5 : Int32) : ∃ i', mm_V 40 0 [some (.ref 30), some (.int r1), some (.int r2), some (.int r3), some (.int r4), some (.int r5), none] [] (mm_Z m w i l e) = some (.inl none, mm_Z m w i' l e) ∧ GC i' (kRec κ (r1, r2, r3, r4, r5)) ∧ mG (fun k j => k = 55 ∨ (k = 30 ∧ j = 10)) i i' := by
  obtain ⟨hw1, hw2, h3, h4, hw5⟩ := hw
  have hL := rec_len ⟨hw1, hw2, h3, h4, hw5⟩ (r1, r2, r3, r4, r5)
  have hm : kn κ % 20 < 20 := Nat.mod_lt _ (by omega)
  rw [mr_40_0, h.2.2.1.1, fm_20 (show kn κ < 2 ^ 31 by omega)]
  show ∃ i', mm_V 40 9 _ [.int (nI (kn κ % 20))] (mm_Z m w i l e) = _ ∧ _
  rw [mr_40_9]
  simp only [h.2.2.1.1, na_5, na_mul, na_1, na_2, na_3, na_4, nI_add, Nat.mul_comm (kn κ % 20) 5, nI_clamp (show 5 * (kn κ % 20) < 2 ^ 31 by omega), nI_clamp (show 5 * (kn κ % 20) + 1 < 2 ^ 31 by omega), nI_clamp (show 5 * (kn κ % 20) + 2 < 2 ^ 31 by omega), nI_clamp (show 5 * (kn κ % 20) + 3 < 2 ^ 31 by omega), nI_clamp (show 5 * (kn κ % 20) + 4 < 2 ^ 31 by omega)]
  rw [if_neg (no_out (by omega) (by omega)), if_neg (no_out (by omega) (by omega)), if_neg (no_out (by omega) (by omega)), if_neg (no_out (by omega) (by omega)), if_neg (no_out (by omega) (by omega))]
  refine ⟨_, rfl, ?_, ?_⟩
  · generalize hM : mm_ww (mm_ww (mm_ww (mm_ww (mm_ww (mm_ww i 55 (5 * (kn κ % 20)) r1) 55 (5 * (kn κ % 20) + 1) r2) 55 (5 * (kn κ % 20) + 2) r3) 55 (5 * (kn κ % 20) + 3) r4) 55 (5 * (kn κ % 20) + 4) r5) 30 10 (nI (kn κ + 1)) = i2
    obtain ⟨⟨a1, a2⟩, ⟨a3, a4⟩, ⟨a5, a6⟩, a7, a8⟩ := h
    have f : ∀ k j, ¬ (k = 55 ∨ (k = 30 ∧ j = 10)) → i2 k j = i k j := by
      intro k j hq
      rw [← hM]
      by_cases z : k = 30
      · subst z
        rw [mw_j (by omega), mw_k (by omega), mw_k (by omega), mw_k (by omega), mw_k (by omega), mw_k (by omega)]
      · rw [mw_k z, mw_k (by omega), mw_k (by omega), mw_k (by omega), mw_k (by omega), mw_k (by omega)]
    refine ⟨⟨by rw [f _ _ (by omega)]; exact a1, fun k hk => by rw [f _ _ (by omega)]; exact a2 k hk⟩, ⟨by rw [f _ _ (by omega)]; exact a3, fun k hk => by rw [f _ _ (by omega), f _ _ (by omega), f _ _ (by omega), f _ _ (by omega)]; exact a4 k hk⟩, ⟨by rw [← hM, mw_s]; rfl, fun k hk => ?_⟩, by rw [f _ _ (by omega)]; exact a7, by rw [f _ _ (by omega)]; exact a8⟩
    have hk : k < ((if (kR κ).length < 20 then kR κ else (kR κ).tail) ++ [(r1, r2, r3, r4, r5)]).length := hk
    show i2 55 (5 * ((kn κ + 1 - ((if (kR κ).length < 20 then kR κ else (kR κ).tail) ++ [(r1, r2, r3, r4, r5)]).length + k) % 20)) = (((if (kR κ).length < 20 then kR κ else (kR κ).tail) ++ [(r1, r2, r3, r4, r5)]).getD k kz5).1 ∧ i2 55 (5 * ((kn κ + 1 - ((if (kR κ).length < 20 then kR κ else (kR κ).tail) ++ [(r1, r2, r3, r4, r5)]).length + k) % 20) + 1) = (((if (kR κ).length < 20 then kR κ else (kR κ).tail) ++ [(r1, r2, r3, r4, r5)]).getD k kz5).2.1 ∧ i2 55 (5 * ((kn κ + 1 - ((if (kR κ).length < 20 then kR κ else (kR κ).tail) ++ [(r1, r2, r3, r4, r5)]).length + k) % 20) + 2) = (((if (kR κ).length < 20 then kR κ else (kR κ).tail) ++ [(r1, r2, r3, r4, r5)]).getD k kz5).2.2.1 ∧ i2 55 (5 * ((kn κ + 1 - ((if (kR κ).length < 20 then kR κ else (kR κ).tail) ++ [(r1, r2, r3, r4, r5)]).length + k) % 20) + 3) = (((if (kR κ).length < 20 then kR κ else (kR κ).tail) ++ [(r1, r2, r3, r4, r5)]).getD k kz5).2.2.2.1 ∧ i2 55 (5 * ((kn κ + 1 - ((if (kR κ).length < 20 then kR κ else (kR κ).tail) ++ [(r1, r2, r3, r4, r5)]).length + k) % 20) + 4) = (((if (kR κ).length < 20 then kR κ else (kR κ).tail) ++ [(r1, r2, r3, r4, r5)]).getD k kz5).2.2.2.2
    rw [hL] at hk ⊢
    have eL : (if (kR κ).length < 20 then kR κ else (kR κ).tail).length = min (kn κ + 1) 20 - 1 := by
      rw [List.length_append, List.length_singleton] at hL; omega
    by_cases z : k = min (kn κ + 1) 20 - 1
    · have e1 : (kn κ + 1 - min (kn κ + 1) 20 + k) % 20 = kn κ % 20 := by congr 1; omega
      rw [e1, z, ← eL, gd_end, ← hM, mw_k (by omega)]
      refine ⟨?_, ?_, ?_, ?_, ?_⟩
      · rw [mw_j (by omega), mw_j (by omega), mw_j (by omega), mw_j (by omega), mw_s]
      · rw [mw_j (by omega), mw_j (by omega), mw_j (by omega), mw_s]
      · rw [mw_j (by omega), mw_j (by omega), mw_s]
      · rw [mw_j (by omega), mw_s]
      · rw [mw_s]
    · rw [gd_app (by omega)]
      have e2 : (kn κ + 1 - min (kn κ + 1) 20 + k) % 20 ≠ kn κ % 20 := by omega
      have e3 : (kn κ + 1 - min (kn κ + 1) 20 + k) % 20 < 20 := Nat.mod_lt _ (by omega)
      have u : ∀ j, j < 5 → i2 55 (5 * ((kn κ + 1 - min (kn κ + 1) 20 + k) % 20) + j) = i 55 (5 * ((kn κ + 1 - min (kn κ + 1) 20 + k) % 20) + j) := by
        intro j hj
        rw [← hM, mw_k (by omega), mw_j (by omega), mw_j (by omega), mw_j (by omega), mw_j (by omega), mw_j (by omega)]
      have u0 := u 0 (by omega)
      rw [Nat.add_zero] at u0
      rw [u0, u 1 (by omega), u 2 (by omega), u 3 (by omega), u 4 (by omega)]
      by_cases q : (kR κ).length < 20
      · rw [if_pos q]
        have := a6 k (by omega)
        rw [show kn κ + 1 - min (kn κ + 1) 20 + k = kn κ - (kR κ).length + k by omega]
        exact this
      · rw [if_neg q, gd_tail]
        have := a6 (k + 1) (by omega)
        rw [show kn κ + 1 - min (kn κ + 1) 20 + k = kn κ - (kR κ).length + (k + 1) by omega]
        exact this
  · intro k j hq
    by_cases z : k = 30
    · subst z
      rw [mw_j (by omega), mw_k (by omega), mw_k (by omega), mw_k (by omega), mw_k (by omega), mw_k (by omega)]
    · rw [mw_k z, mw_k (by omega), mw_k (by omega), mw_k (by omega), mw_k (by omega), mw_k (by omega)]
/-- the reference's records move up -/
theorem gr_rec_loop {x1 x2 x3 x4 x5 x6 : Int32} : ∀ (D k : Nat) (i : Nat → Nat → Int32), k + D = 19 → ∃ (i' : Nat → Nat → Int32) (u : Option Value), mm_V 263 18 [some (.ref 83), some (.int x1), some (.int x2), some (.int x3), some (.int x4), some (.int x5), some (.int x6), some (.int (nI k))] [] (mm_Z m w i l e) = mm_V 263 117 [some (.ref 83), some (.int x1), some (.int x2), some (.int x3), some (.int x4), some (.int x5), some (.int (nI 19)), u] [] (mm_Z m w i' l e) ∧ (∀ r j, 141 ≤ r → r ≤ 145 → k ≤ j → j < 19 → i' r j = i r (j + 1)) ∧ (∀ r j, 141 ≤ r → r ≤ 145 → j < k → i' r j = i r j) ∧ (∀ q, q < 141 ∨ 145 < q → i' q = i q)
  | 0, k, i, hk => by
    refine ⟨i, some (.int (nI k)), ?_, fun r j _ _ h1 h2 => by omega, fun _ _ _ _ _ => rfl, fun _ _ => rfl⟩
    rw [mr_263_18, na_1, nI_add, na_20, if_neg (by rw [nI_ltI (by omega) (by omega)]; omega)]
    rfl
  | D + 1, k, i, hk => by
    have ho1 : ¬ mm_out (nI (k + 1)) 20 := no_out (by omega) (by omega)
    have ho0 : ¬ mm_out (nI k) 20 := no_out (by omega) (by omega)
    obtain ⟨i', u, e1, e2, e3, e4⟩ := gr_rec_loop (x1 := x1) (x2 := x2) (x3 := x3) (x4 := x4) (x5 := x5) (x6 := x6) D (k + 1) (mm_ww (mm_ww (mm_ww (mm_ww (mm_ww i 141 k (i 141 (k + 1))) 142 k (i 142 (k + 1))) 143 k (i 143 (k + 1))) 144 k (i 144 (k + 1))) 145 k (i 145 (k + 1))) (by omega)
    have rd : ∀ r j, 141 ≤ r → r ≤ 145 → (mm_ww (mm_ww (mm_ww (mm_ww (mm_ww i 141 k (i 141 (k + 1))) 142 k (i 142 (k + 1))) 143 k (i 143 (k + 1))) 144 k (i 144 (k + 1))) 145 k (i 145 (k + 1))) r j = if j = k then i r (k + 1) else i r j := by
      intro r j h1 h2
      rcases (show r = 141 ∨ r = 142 ∨ r = 143 ∨ r = 144 ∨ r = 145 by omega) with rfl | rfl | rfl | rfl | rfl
      · rw [mw_k (by omega), mw_k (by omega), mw_k (by omega), mw_k (by omega), mw_r]
      · rw [mw_k (by omega), mw_k (by omega), mw_k (by omega), mw_r, mw_k (by omega)]
      · rw [mw_k (by omega), mw_k (by omega), mw_r, mw_k (by omega), mw_k (by omega)]
      · rw [mw_k (by omega), mw_r, mw_k (by omega), mw_k (by omega), mw_k (by omega)]
      · rw [mw_r, mw_k (by omega), mw_k (by omega), mw_k (by omega), mw_k (by omega)]
    refine ⟨i', u, ?_, ?_, ?_, ?_⟩
    · rw [mr_263_18]
      simp only [nI_1, na_20, nI_ltI (show k + 1 < 2 ^ 31 by omega) (show 20 < 2 ^ 31 by omega), nI_clamp (show k < 2 ^ 31 by omega), nI_clamp (show k + 1 < 2 ^ 31 by omega), if_neg ho0, if_neg ho1]
      rw [if_pos (by omega)]
      exact e1
    · intro r j h1 h2 h3 h4
      by_cases z : j = k
      · subst z
        rw [e3 r j h1 h2 (by omega), rd r j h1 h2, if_pos rfl]
      · rw [e2 r j h1 h2 (by omega) h4, rd r (j + 1) h1 h2, if_neg (by omega)]
    · intro r j h1 h2 h3
      rw [e3 r j h1 h2 (by omega), rd r j h1 h2, if_neg (by omega)]
    · intro q hq
      rw [e4 q hq, mw_k (by omega), mw_k (by omega), mw_k (by omega), mw_k (by omega), mw_k (by omega)]
theorem gr_note {i : Nat → Nat → Int32} (h : GR i κ) (hw : GW κ) (g : Bool) (r2 r3 r4 r5 : Int32) : ∃ i', mm_V 263 0 [some (.ref 83), some (.int (bI g)), some (.int r2), some (.int r3), some (.int r4), some (.int r5), none, none] [] (mm_Z m w i l e) = some (.inl none, mm_Z m w i' l e) ∧ GR i' (kRec κ (bI g, r2, r3, r4, r5)) ∧ mG (fun k j => (141 ≤ k ∧ k ≤ 145) ∨ (k = 83 ∧ j = 91)) i i' := by
  obtain ⟨hw1, hw2, h3, h4, hw5⟩ := hw
  have hL := rec_len ⟨hw1, hw2, h3, h4, hw5⟩ (bI g, r2, r3, r4, r5)
  obtain ⟨⟨a1, a2⟩, ⟨a3, a4⟩, ⟨a5, a6⟩, a7, a8⟩ := h
  -- put behind R, which lies in i1
  have put : ∀ (i1 : Nat → Nat → Int32) (R : List (Int32 × Int32 × Int32 × Int32 × Int32)) (x6 : Int32) (u : Option Value), x6 = nI R.length → R.length < 20 → (if (kR κ).length < 20 then kR κ else (kR κ).tail) = R → (∀ k, k < R.length → i1 141 k = (R.getD k kz5).1 ∧ i1 142 k = (R.getD k kz5).2.1 ∧ i1 143 k = (R.getD k kz5).2.2.1 ∧ i1 144 k = (R.getD k kz5).2.2.2.1 ∧ i1 145 k = (R.getD k kz5).2.2.2.2) → (∀ q, q < 141 ∨ 145 < q → i1 q = i q) → ∃ i', mm_V 263 117 [some (.ref 83), some (.int (bI g)), some (.int r2), some (.int r3), some (.int r4), some (.int r5), some (.int x6), u] [] (mm_Z m w i1 l e) = some (.inl none, mm_Z m w i' l e) ∧ GR i' (kRec κ (bI g, r2, r3, r4, r5)) ∧ mG (fun k j => (141 ≤ k ∧ k ≤ 145) ∨ (k = 83 ∧ j = 91)) i i' := by
    intro i1 R x6 u hx hR eR hB hF
    subst hx
    have ho : ¬ mm_out (nI R.length) 20 := no_out hR (by omega)
    have e91 : i1 83 91 = nI (kn κ) := by rw [hF 83 (by omega)]; exact a5
    have st : mm_V 263 117 [some (.ref 83), some (.int (bI g)), some (.int r2), some (.int r3), some (.int r4), some (.int r5), some (.int (nI R.length)), u] [] (mm_Z m w i1 l e) = mm_V 263 132 [some (.ref 83), some (.int (bI g)), some (.int r2), some (.int r3), some (.int r4), some (.int r5), some (.int (nI R.length)), u] [.int (bI g), .int (nI R.length), .ref 141] (mm_Z m w i1 l e) := by
      rw [mr_263_117]
      cases g
      · rw [bI_f, if_pos rfl]
      · rw [bI_t, if_neg (by decide)]
    rw [st, mr_263_132]
    simp only [if_neg ho, nI_clamp (show R.length < 2 ^ 31 by omega), e91, nI_1]
    refine ⟨_, rfl, ?_, ?_⟩
    · have f : ∀ k j, ¬ ((141 ≤ k ∧ k ≤ 145) ∨ (k = 83 ∧ j = 91)) → (mm_ww (mm_ww (mm_ww (mm_ww (mm_ww (mm_ww i1 141 R.length (bI g)) 142 R.length r2) 143 R.length r3) 144 R.length r4) 145 R.length r5) 83 91 (nI (kn κ + 1))) k j = i k j := by
        intro k j hq
        by_cases z : k = 83
        · subst z
          rw [mw_j (by omega), mw_k (by omega), mw_k (by omega), mw_k (by omega), mw_k (by omega), mw_k (by omega), hF _ (by omega)]
        · rw [mw_k z, mw_k (by omega), mw_k (by omega), mw_k (by omega), mw_k (by omega), mw_k (by omega), hF _ (by omega)]
      refine ⟨⟨by rw [f _ _ (by omega)]; exact a1, fun k hk => by rw [f _ _ (by omega)]; exact a2 k hk⟩, ⟨by rw [f _ _ (by omega)]; exact a3, fun k hk => by rw [f _ _ (by omega), f _ _ (by omega), f _ _ (by omega), f _ _ (by omega)]; exact a4 k hk⟩, ⟨by rw [mw_s]; rfl, fun k hk => ?_⟩, by rw [f _ _ (by omega)]; exact a7, by rw [f _ _ (by omega)]; exact a8⟩
      have eK : kR (kRec κ (bI g, r2, r3, r4, r5)) = R ++ [(bI g, r2, r3, r4, r5)] := by
        show (if (kR κ).length < 20 then kR κ else (kR κ).tail) ++ [(bI g, r2, r3, r4, r5)] = _
        rw [eR]
      rw [eK] at hk ⊢
      rw [List.length_append, List.length_singleton] at hk
      rw [mw_k (show 141 ≠ 83 by omega), mw_k (show 142 ≠ 83 by omega), mw_k (show 143 ≠ 83 by omega), mw_k (show 144 ≠ 83 by omega), mw_k (show 145 ≠ 83 by omega), mw_k (show 141 ≠ 145 by omega), mw_k (show 141 ≠ 144 by omega), mw_k (show 141 ≠ 143 by omega), mw_k (show 141 ≠ 142 by omega), mw_k (show 142 ≠ 145 by omega), mw_k (show 142 ≠ 144 by omega), mw_k (show 142 ≠ 143 by omega), mw_k (show 143 ≠ 145 by omega), mw_k (show 143 ≠ 144 by omega), mw_k (show 144 ≠ 145 by omega)]
      by_cases z : k = R.length
      · subst z
        rw [mw_s, mw_s, mw_s, mw_s, mw_s, gd_end]
        exact ⟨rfl, rfl, rfl, rfl, rfl⟩
      · rw [mw_j z, mw_j z, mw_j z, mw_j z, mw_j z, gd_app (by omega), mw_k (show 142 ≠ 141 by omega), mw_k (show 143 ≠ 142 by omega), mw_k (show 143 ≠ 141 by omega), mw_k (show 144 ≠ 143 by omega), mw_k (show 144 ≠ 142 by omega), mw_k (show 144 ≠ 141 by omega), mw_k (show 145 ≠ 144 by omega), mw_k (show 145 ≠ 143 by omega), mw_k (show 145 ≠ 142 by omega), mw_k (show 145 ≠ 141 by omega)]
        exact hB k (by omega)
    · intro k j hq
      by_cases z : k = 83
      · subst z
        rw [mw_j (by omega), mw_k (by omega), mw_k (by omega), mw_k (by omega), mw_k (by omega), mw_k (by omega), hF _ (by omega)]
      · rw [mw_k z, mw_k (by omega), mw_k (by omega), mw_k (by omega), mw_k (by omega), mw_k (by omega), hF _ (by omega)]
  rw [mr_263_0]
  simp only [a5, na_20, nI_ltI (show kn κ < 2 ^ 31 by omega) (show 20 < 2 ^ 31 by omega)]
  by_cases q : kn κ < 20
  · rw [if_pos q]
    exact put i (kR κ) _ none (by congr 1; omega) (by omega) (by rw [if_pos (by omega)]) a6 (fun _ _ => rfl)
  · rw [if_neg q, na_0]
    obtain ⟨i1, u, e1, e2, e3, e4⟩ := gr_rec_loop (m := m) (w := w) (l := l) (e := e) (x1 := bI g) (x2 := r2) (x3 := r3) (x4 := r4) (x5 := r5) (x6 := nI (kn κ)) 19 0 i rfl
    rw [e1]
    have eT : (kR κ).tail.length = 19 := by rw [List.length_tail]; omega
    refine put i1 (kR κ).tail _ u (by rw [eT]) (by omega) (by rw [if_neg (by omega)]) ?_ e4
    intro k hk
    have := a6 (k + 1) (by omega)
    rw [e2 141 k (by omega) (by omega) (by omega) (by omega), e2 142 k (by omega) (by omega) (by omega) (by omega), e2 143 k (by omega) (by omega) (by omega) (by omega), e2 144 k (by omega) (by omega) (by omega) (by omega), e2 145 k (by omega) (by omega) (by omega) (by omega), gd_tail]
    exact this
end MM80
