/-! WALKS and PLACES as steps of acts -/
section MM102
variable {w : Bool} {l : Nat → Nat → Int64} {e : Bool × Nat × Nat} {π : mP} {m : Nat} {ψ : mS} {b B p n : Nat} {i0 i i' : Nat → Nat → Int32} {s a x y : Int32} {r : Int32 × mS}
theorem wW_ok (hI : IV π b ψ) (hp : p < 8) (hP0 : hP (yH ψ) p ≠ 0) {L : List Nat} (hL : L.length ≤ 4) (hb : b + 4 < 2 ^ 29) : IV π (b + 4) (yk ψ (wW π p L ψ).2.2) ∧ ((wW π p L ψ).1 = 0 ∨ (wW π p L ψ).1 < 0) ∧ (wW π p L ψ).2.1 < 32 ∧ tk (yT ψ) (wW π p L ψ).2.1 ≠ 0 := by
  have h0 : tk (yT ψ) 0 ≠ 0 := by rw [hI.ti.2.2.2.2.2]; decide
  obtain ⟨a1, a2, a3, a4⟩ := wK_ok hI (hI.cp hp hP0) L 0 (yK ψ) b (by omega) h0 hI.kv (by omega)
  exact ⟨hI.sk (a1.up (by omega)), a2, a3, a4⟩
theorem CA.wk (h : CD w π i0 b i ψ x y) (hb : b + 4 < 2 ^ 29) (hp : p < 8) (hP0 : hP (yH ψ) p ≠ 0) {A Bs : List Nat} {ls : Nat} (hBs : pc Bs < ls) (hl : ls = 1 ∨ (ls = 100 ∧ Bs ≠ [])) (hO : pO (A ++ Bs)) {F : Option Value → mm_M → Option mm_R} {K : Nat → mS → Int32 × mS} (hB : b + 4 ≤ B) (h1 : ∀ i1 n κ, wV (yT ψ) A 0 n → CD w π i0 (b + 4) i1 (yk ψ κ) (nI (pc Bs)) (wB 1 (wN (yT ψ) A 0)) → CA m w l e π i0 B (mm_bi true (some (.inl (some (.int (nI n))), mm_Z m w i1 l e)) F) (K n (yk ψ κ))) (h2 : ∀ i1 r, r < 0 → mm_bi true (some (.inl (some (.int r)), mm_Z m w i1 l e)) F = some (.inl (some (.int r)), mm_Z m w i1 l e)) : CA m w l e π i0 B (mm_bi true (mm_V 88 0 [some (.ref 80), some (.int (nI p)), some (.int (nI (pc (A ++ Bs)))), some (.int (nI ls)), none, none, none] [] (mm_Z m w i l e)) F) (aWa π p A ψ K) := by
  have h0 : tk (yT ψ) 0 ≠ 0 := by rw [h.2.1.ti.2.2.2.2.2]; decide
  have hlen := hO.1
  have hlA : A.length ≤ 4 := by rw [List.length_append] at hlen; omega
  obtain ⟨k1, k2, k3, k4⟩ := wW_ok h.2.1 hp hP0 hlA hb
  obtain ⟨i1, c1, c2, c3, c4⟩ := cs_walk_loop (m := m) (l := l) (e := e) hp Bs hBs hl (x2 := nI (pc (A ++ Bs))) A 0 0 b ψ (mm_ww i 80 5 1) hO (by omega) (by omega) (by omega) h0 hP0 h.2.1 (by omega) h.1.rg
  have hC : ∀ x' y', i1 80 4 = x' → i1 80 5 = y' → CD w π i0 (b + 4) i1 (yk ψ (wW π p A ψ).2.2) x' y' := fun x' y' g1 g2 => ⟨c2, k1, (h.2.2.1.tr (mG.ww (by unfold fC; omega))).tr (c4.mo (fun _ _ z => rV_f z)), g1, g2⟩
  have c1 : mm_V 88 14 [some (.ref 80), some (.int (nI p)), some (.int (nI (pc (A ++ Bs)))), some (.int (nI ls)), some (.int 0), some (.int (nI (pc (A ++ Bs)))), some (.int 0)] [] (mm_Z m w (mm_ww i 80 5 1) l e) = some (.inl (some (.int (wR (wW π p A ψ)))), mm_Z m w i1 l e) := c1
  have c3 : (wW π p A ψ).1 = 0 → i1 80 4 = nI (pc Bs) ∧ i1 80 5 = wB 1 (wN (yT ψ) A 0) := fun z => by
    have := c3 z
    rw [mw_s] at this
    exact this
  rw [mr_88_0, c1]
  unfold aWa wR
  rcases k2 with k2 | k2
  · rw [if_pos k2, if_pos k2]
    have k5 : wV (yT ψ) A 0 (wW π p A ψ).2.1 := wK_v A 0 (yK ψ) k2
    exact h1 i1 _ _ k5 (hC _ _ (c3 k2).1 (c3 k2).2)
  · have k6 : ¬ (wW π p A ψ).1 = 0 := fun z => by rw [z] at k2; exact absurd k2 (by decide)
    rw [if_neg k6, if_neg k6, h2 _ _ k2]
    exact CA.ret (r := ((wW π p A ψ).1, yk ψ (wW π p A ψ).2.2)) (hC _ _ rfl rfl) hB
theorem CA.wa (h : CD w π i0 b i ψ x y) (hb : b + 4 < 2 ^ 29) (hp : p < 8) (hP0 : hP (yH ψ) p ≠ 0) {A : List Nat} (hO : pO A) {F : Option Value → mm_M → Option mm_R} {K : Nat → mS → Int32 × mS} (hB : b + 4 ≤ B) (h1 : ∀ i1 n κ, wV (yT ψ) A 0 n → CD w π i0 (b + 4) i1 (yk ψ κ) 0 (wB 1 (wN (yT ψ) A 0)) → CA m w l e π i0 B (mm_bi true (some (.inl (some (.int (nI n))), mm_Z m w i1 l e)) F) (K n (yk ψ κ))) (h2 : ∀ i1 r, r < 0 → mm_bi true (some (.inl (some (.int r)), mm_Z m w i1 l e)) F = some (.inl (some (.int r)), mm_Z m w i1 l e)) : CA m w l e π i0 B (mm_bi true (mm_V 88 0 [some (.ref 80), some (.int (nI p)), some (.int (nI (pc A))), some (.int 1), none, none, none] [] (mm_Z m w i l e)) F) (aWa π p A ψ K) := by
  have := CA.wk (m := m) (l := l) (e := e) (Bs := []) (ls := 1) (A := A) h hb hp hP0 (by decide) (Or.inl rfl) (by rw [List.append_nil]; exact hO) hB h1 h2
  rw [List.append_nil] at this
  exact this
theorem pz_eq {L : List Nat} (h : L ≠ []) : L.dropLast ++ [pz L] = L := by
  have h1 : L.length ≠ 0 := fun z => h (List.length_eq_zero_iff.mp z)
  have : pz L = L.getLast h := by
    unfold pz
    rw [gd_el (by omega), List.getLast_eq_getElem]
  rw [this, List.dropLast_concat_getLast]
theorem pO_d {L : List Nat} (h : pO L) (hn : L ≠ []) : pO L.dropLast ∧ 1 ≤ pz L ∧ pz L ≤ 99 ∧ L.dropLast.length + 1 = L.length := by
  have h1 : L.length ≠ 0 := fun z => hn (List.length_eq_zero_iff.mp z)
  have h2 : L.dropLast.length = L.length - 1 := List.length_dropLast
  have h3 := h.2 (pz L) (gd_in (by omega))
  refine ⟨⟨by have := h.1; omega, fun x hx => h.2 x ((List.dropLast_sublist L).subset hx)⟩, h3.1, h3.2, by omega⟩
theorem tk_dec (g : Prop) [Decidable g] : (if g then (1 : Int32) else 0) = bI (decide g) := by unfold bI; simp only [decide_eq_true_eq]
theorem CA.pl (h : CD w π i0 b i ψ x y) (hb : b + 5 < 2 ^ 29) (hp : p < 8) (hP0 : hP (yH ψ) p ≠ 0) {L : List Nat} (hO : pO L) {F : Option Value → mm_M → Option mm_R} {K : Nat → mS → Int32 × mS} (hB : b + 5 ≤ B) (h1 : ∀ i1 n κ, L ≠ [] → wV (yT ψ) L.dropLast 0 n → tk (yT ψ) n = 2 → CD w π i0 (b + 5) i1 (yk ψ κ) (nI (pz L)) (wB 1 (wN (yT ψ) L.dropLast 0)) → CA m w l e π i0 B (mm_bi true (some (.inl (some (.int (nI n))), mm_Z m w i1 l e)) F) (K n (yk ψ κ))) (h2 : ∀ i1 r, r < 0 → mm_bi true (some (.inl (some (.int r)), mm_Z m w i1 l e)) F = some (.inl (some (.int r)), mm_Z m w i1 l e)) : CA m w l e π i0 B (mm_bi true (mm_V 89 0 [some (.ref 80), some (.int (nI p)), some (.int (nI (pc L))), none] [] (mm_Z m w i l e)) F) (aPl π p L ψ K) := by
  have h8 := pc_8 hO
  rw [mr_89_0]
  unfold aPl
  by_cases q : L = []
  · subst q
    rw [if_pos (by decide), if_pos rfl, h2 _ _ (by decide)]
    exact CA.ret (r := (-6, ψ)) h (by omega)
  · obtain ⟨o1, o2, o3, o4⟩ := pO_d hO q
    have hpos := pc_pos hO q
    have hO2 : pO (L.dropLast ++ [pz L]) := by rw [pz_eq q]; exact hO
    have hz : pc [pz L] = pz L := by show pz L + 100 * 0 = pz L; omega
    rw [if_neg (by rw [nz_eq (by omega)]; omega), if_neg q]
    obtain ⟨k1, k2, k3, k4⟩ := wW_ok h.2.1 hp hP0 (L := L.dropLast) o1.1 (by omega)
    -- the walk, then the rest inside of the place
    have key := CA.wk (m := m) (l := l) (e := e) (F := fun v μ => mm_bi true (mm_V 89 15 [some (.ref 80), some (.int (nI p)), some (.int (nI (pc L))), none] (v.toList ++ []) μ) F) (K := fun d ψ1 => aMu (decide (tk (yT ψ1) d = 2)) (-4) ψ1 (aCk π (cP (yH ψ1) p) (cN (yT ψ1) d) 1 2 ψ1 (fun ψ2 => K d ψ2))) (Bs := [pz L]) (ls := 100) (A := L.dropLast) (B := B) h (by omega) hp hP0 (by rw [hz]; omega) (Or.inr ⟨rfl, by simp⟩) hO2 (by omega) (fun i1 n κ g1 g2 => ?_) (fun i1 r hr => ?_)
    · rw [pz_eq q] at key
      rw [mb_as]
      exact key
    · rw [hz] at g2
      have h0 : tk (yT ψ) 0 ≠ 0 := by rw [h.2.1.ti.2.2.2.2.2]; decide
      obtain ⟨n1, n2, n3⟩ := wV_ok h.2.1.ti _ 0 n (by omega) h0 (Or.inl rfl) g1
      have hT := g2.1.1
      rw [mb_l, mb_v, mr_89_15, if_neg (nI_pos (by omega)), tc_isDirectory hT g2.2.1.tw n1, mb_l, mb_v, mr_89_30]
      unfold aMu
      by_cases q1 : tk (yT ψ) n = 2
      · have q1' : decide (tk (yT (yk ψ κ)) n = 2) = true := decide_eq_true q1
        have q2 : (if tk (yT (yk ψ κ)) n = 2 then (1 : Int32) else 0) = 1 := if_pos q1
        rw [q2, if_neg (by decide), if_pos q1']
        rw [mb_as]
        have hk1 : tk (yT (yk ψ κ)) n - 1 = 1 := by show tk (yT ψ) n - 1 = 1; omega
        have key := CA.may (m := m) (l := l) (e := e) (F := fun v μ => mm_bi true (mm_V 89 43 [some (.ref 80), some (.int (nI p)), some (.int (nI (pc L))), some (.int (nI n))] (v.toList ++ []) μ) F) (K := fun ψ2 => K n ψ2) (pm := 2) (B := B) g2 (by omega) hp hP0 n1 n2 hk1 (by omega) (fun i2 κ2 g3 => ?_) (fun i2 => ?_)
        · exact key
        · rw [mb_l, mb_v, mr_89_43, if_bt]
          exact h1 i2 n _ q g1 q1 g3
        · rw [mb_l, mb_v, mr_89_43, if_bf]
          exact h2 _ _ (by decide)
      · have q1' : ¬ decide (tk (yT (yk ψ κ)) n = 2) = true := by rw [decide_eq_true_eq]; exact q1
        have q2 : (if tk (yT (yk ψ κ)) n = 2 then (1 : Int32) else 0) = 0 := if_neg q1
        rw [q2, if_pos rfl, if_neg q1', h2 _ _ (by decide)]
        exact CA.ret (r := (-4, yk ψ κ)) g2 (by omega)
    · rw [mb_l, mb_v, mr_89_15, if_pos hr]
      exact h2 _ _ hr
theorem RD.wk (h : RD π i0 b i ψ s a x) {a' : Int32} : RD π i0 b (mm_ww i 83 82 a') ψ s a' x := ⟨h.1.rg (by omega), h.2.1, h.2.2.1.tr (mG.ww (by unfold fR; omega)), by rw [mw_j (by omega)]; exact h.hs, mw_s, by rw [mw_j (by omega)]; exact h.hx⟩
theorem RD.ln (h : RD π i0 b i ψ s a x) {x' : Int32} : RD π i0 b (mm_ww i 83 83 x') ψ s a x' := ⟨h.1.rg (by omega), h.2.1, h.2.2.1.tr (mG.ww (by unfold fR; omega)), by rw [mw_j (by omega)]; exact h.hs, by rw [mw_j (by omega)]; exact h.ha, mw_s⟩
theorem rW_83 {j : Nat} (h : mG rW i i') (hj : j < 79 ∨ 92 ≤ j) : i' 83 j = i 83 j := h 83 j (by unfold rW gpR; omega)
theorem RA.wk (h : RD π i0 b i ψ 0 a x) (hb : b + 4 < 2 ^ 29) (hp : p < 8) (hP0 : hP (yH ψ) p ≠ 0) {L A : List Nat} (hO : pO L) (hA : A.length ≤ L.length) (hg : ∀ j, j < A.length → L.getD j 0 = A.getD j 0) {F : Option Value → mm_M → Option mm_R} {K : Nat → mS → Int32 × mS} (h1 : ∀ i1 n κ x', wV (yT ψ) A 0 n → RD π i0 (b + 4) i1 (yk ψ κ) 0 (nI n) x' → RA m w l e π i0 B (mm_bi true (some (.inl none, mm_Z m w i1 l e)) F) (K n (yk ψ κ))) (h2 : ∀ i1 n κ s' x', s' < 0 → n < 32 → tk (yT ψ) n ≠ 0 → RD π i0 (b + 4) i1 (yk ψ κ) s' (nI n) x' → RA m w l e π i0 B (mm_bi true (some (.inl none, mm_Z m w i1 l e)) F) (s', yk ψ κ)) : RA m w l e π i0 B (mm_bi true (mm_V 285 0 [some (.ref 83), some (.int (nI p)), some (.int (nI (pc L))), some (.int (nI A.length)), none, none] [] (mm_Z m w i l e)) F) (aWa π p A ψ K) := by
  have h0 : tk (yT ψ) 0 ≠ 0 := by rw [h.2.1.ti.2.2.2.2.2]; decide
  have hlen := hO.1
  obtain ⟨k1, k2, k3, k4⟩ := wW_ok h.2.1 hp hP0 (L := A) (by omega) hb
  obtain ⟨i1, c1, c2, c3, c4, c5⟩ := rw_loop (m := m) (w := w) (l := l) (e := e) hp hO hA A 0 0 b ψ (mm_ww i 83 82 0) none (by omega) (fun j hj => by rw [Nat.zero_add]; exact hg j hj) (by omega) h0 hP0 h.2.1 (by omega) (h.1.rg (by omega)) (by rw [mw_j (by omega)]; exact h.hs) mw_s
  have c1 : mm_V 285 8 [some (.ref 83), some (.int (nI p)), some (.int (nI (pc L))), some (.int (nI A.length)), some (.int 0), none] [] (mm_Z m w (mm_ww i 83 82 0) l e) = some (.inl none, mm_Z m w i1 l e) := c1
  have c3 : i1 83 81 = (wW π p A ψ).1 := c3
  have c4 : i1 83 82 = nI (wW π p A ψ).2.1 := c4
  have hR : RD π i0 (b + 4) i1 (yk ψ (wW π p A ψ).2.2) (wW π p A ψ).1 (nI (wW π p A ψ).2.1) (i1 83 83) := ⟨c2, k1, (h.2.2.1.tr (mG.ww (by unfold fR; omega))).tr (c5.mo (fun _ _ z => rW_f z)), c3, c4, rfl⟩
  rw [mr_285_0, c1]
  unfold aWa
  rcases k2 with k2 | k2
  · rw [if_pos k2]
    rw [k2] at hR
    exact h1 i1 _ _ _ (wK_v A 0 (yK ψ) k2) hR
  · have k6 : ¬ (wW π p A ψ).1 = 0 := fun z => by rw [z] at k2; exact absurd k2 (by decide)
    rw [if_neg k6]
    exact h2 i1 _ _ _ _ k2 k3 k4 hR
theorem RA.wa (h : RD π i0 b i ψ 0 a x) (hb : b + 4 < 2 ^ 29) (hp : p < 8) (hP0 : hP (yH ψ) p ≠ 0) {L : List Nat} (hO : pO L) {F : Option Value → mm_M → Option mm_R} {K : Nat → mS → Int32 × mS} (h1 : ∀ i1 n κ x', wV (yT ψ) L 0 n → RD π i0 (b + 4) i1 (yk ψ κ) 0 (nI n) x' → RA m w l e π i0 B (mm_bi true (some (.inl none, mm_Z m w i1 l e)) F) (K n (yk ψ κ))) (h2 : ∀ i1 n κ s' x', s' < 0 → n < 32 → tk (yT ψ) n ≠ 0 → RD π i0 (b + 4) i1 (yk ψ κ) s' (nI n) x' → RA m w l e π i0 B (mm_bi true (some (.inl none, mm_Z m w i1 l e)) F) (s', yk ψ κ)) : RA m w l e π i0 B (mm_bi true (mm_V 286 0 [some (.ref 83), some (.int (nI p)), some (.int (nI (pc L)))] [] (mm_Z m w i l e)) F) (aWa π p L ψ K) := by
  rw [mr_286_0, nm_of hO, mb_l, mb_v, mr_286_7, mb_as]
  refine RA.wk h hb hp hP0 hO (Nat.le_refl _) (fun j _ => rfl) (fun i1 n κ x' g1 g2 => ?_) (fun i1 n κ s' x' g0 g1 g2 g3 => ?_)
  · rw [mb_l, mb_0, mr_286_10]; exact h1 i1 n κ x' g1 g2
  · rw [mb_l, mb_0, mr_286_10]; exact h2 i1 n κ s' x' g0 g1 g2 g3
theorem RA.pl (h : RD π i0 b i ψ 0 a x) (hb : b + 5 < 2 ^ 29) (hp : p < 8) (hP0 : hP (yH ψ) p ≠ 0) {L : List Nat} (hO : pO L) {F : Option Value → mm_M → Option mm_R} {K : Nat → mS → Int32 × mS} (hB : b + 5 ≤ B) (h1 : ∀ i1 n κ, L ≠ [] → wV (yT ψ) L.dropLast 0 n → tk (yT ψ) n = 2 → RD π i0 (b + 5) i1 (yk ψ κ) 0 (nI n) (nI (pz L)) → RA m w l e π i0 B (mm_bi true (some (.inl none, mm_Z m w i1 l e)) F) (K n (yk ψ κ))) (h2 : ∀ i1 s', s' < 0 → i1 83 81 = s' → mm_bi true (some (.inl none, mm_Z m w i1 l e)) F = some (.inl (some (.int s')), mm_Z m w i1 l e)) : RA m w l e π i0 B (mm_bi true (mm_V 287 0 [some (.ref 83), some (.int (nI p)), some (.int (nI (pc L))), none] [] (mm_Z m w i l e)) F) (aPl π p L ψ K) := by
  have h4 := hO.1
  have hg0 : ∀ N : Nat, N < 2 ^ 31 → (0 < nI N ↔ 0 < N) := fun N hN => by rw [nz_gt hN]; omega
  rw [mr_287_0, nm_of hO, mb_l, mb_v, mr_287_4]
  unfold aPl
  by_cases q : L = []
  · subst q
    rw [if_neg (by rw [hg0 _ (by decide)]; decide), if_pos rfl, mr_287_15, mb_as, show (Value.int 0) = Value.int (bI false) from rfl, rs_must h.hs, if_neg (by decide), mb_l, mb_0, mr_287_20, rs_bd (show mm_ww i 83 81 (-6) 83 81 < 0 by rw [mw_s]; decide), mb_l, mb_v, mr_287_24, if_bf]
    exact RA.dead h.st (by omega) (h2 _ _ (by decide) mw_s)
  · obtain ⟨o1, o2, o3, o4⟩ := pO_d hO q
    have hl0 : 0 < L.length := by omega
    rw [if_pos ((hg0 _ (by omega)).mpr hl0), if_neg q, mr_287_15, mb_as, show (Value.int 1) = Value.int (bI true) from rfl, rs_must h.hs, if_pos rfl, mb_l, mb_0, mr_287_20, rs_gd mw_s, mb_l, mb_v, mr_287_24, if_bt, mb_as]
    rw [na_1, na_sub (by omega), show L.length - 1 = L.dropLast.length by omega]
    have tail : ∀ i1 n κ s' x', s' < 0 → n < 32 → tk (yT ψ) n ≠ 0 → RD π i0 (b + 5) i1 (yk ψ κ) s' (nI n) x' → RA m w l e π i0 B (mm_bi true (mm_V 287 72 [some (.ref 83), some (.int (nI p)), some (.int (nI (pc L))), some (.int (nI L.length))] [] (mm_Z m w i1 l e)) F) (s', yk ψ κ) := fun i1 n κ s' x' g0 g1 g2 g3 => by
      rw [mr_287_72, na_1, na_sub (by omega), nm_at hO (by omega), mb_l, mb_v, mr_287_80]
      exact RA.dead g3.ln (by omega) (h2 _ _ g0 (by rw [mw_j (by omega)]; exact g3.hs))
    refine RA.wk (A := L.dropLast) h.st (by omega) hp hP0 hO (by omega) (fun j hj => ?_) (fun i1 n κ x' g1 g2 => ?_) (fun i1 n κ s' x' g0 g1 g2 g3 => ?_)
    · rw [gd_el (by omega), gd_el hj, List.getElem_dropLast]
    · have h0 : tk (yT ψ) 0 ≠ 0 := by rw [h.2.1.ti.2.2.2.2.2]; decide
      obtain ⟨n1, n2, n3⟩ := wV_ok h.2.1.ti _ 0 n (by omega) h0 (Or.inl rfl) g1
      rw [mb_l, mb_0, mr_287_37, g2.ha, tr_isDirectory g2.1.1 g2.2.1.tw n1, tk_dec, mb_l, mb_v, mr_287_46, mb_as]
      refine RA.mu g2 (fun i2 g3 g4 => ?_) (fun i2 g3 g4 => ?_)
      · rw [mb_l, mb_0, mr_287_51, if_neg (no_out (by omega) (by omega)), g3.ha, if_neg (no_out (by omega) (by omega)), nI_clamp (by omega), nI_clamp (by omega), g3.1.pr hp hP0, g3.1.cn g3.2.1 n1 n2, mb_as, show some (Value.int 1) = some (Value.int (nI 1)) from rfl]
        refine RA.ck g3 (by omega) (by decide) (g3.2.1.cp hp hP0) (g3.2.1.cn n1 n2).1 (by omega) (fun i3 κ3 g5 => ?_) (fun i3 κ3 g5 => ?_)
        · rw [mb_l, mb_0, mr_287_72, na_1, na_sub (by omega), nm_at hO (by omega), mb_l, mb_v, mr_287_80]
          exact h1 _ n _ q g1 (of_decide_eq_true g4) g5.ln
        · rw [mb_l, mb_0]
          exact tail i3 n _ _ _ (by decide) n1 n2 g5
      · rw [mb_l, mb_0, mr_287_51, if_neg (no_out (by omega) (by omega)), g3.ha, if_neg (no_out (by omega) (by omega)), rs_check_no (by rw [g3.hs]; decide), mb_l, mb_0]
        exact tail i2 n _ _ _ (by decide) n1 n2 (g3.up (by omega))
    · rw [mb_l, mb_0, mr_287_37, g3.ha, tr_isDirectory g3.1.1 g3.2.1.tw g1, mb_l, mb_v, mr_287_46, rs_must_no (by rw [g3.hs]; exact g0), ww_id, mb_l, mb_0, mr_287_51, if_neg (no_out (by omega) (by omega)), g3.ha, if_neg (no_out (by omega) (by omega)), rs_check_no (by rw [g3.hs]; exact g0), mb_l, mb_0]
      exact tail i1 n κ _ _ g0 g1 g2 (g3.up (by omega))
end MM102
