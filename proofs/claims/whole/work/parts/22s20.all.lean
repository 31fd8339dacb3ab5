/-! ALL STATEMENTS in the class, and what names mean -/
section MM149
variable {X : mX} {t : m3} {w p : Bool} {i i' i0 i1 : Nat → Nat → Int32} {l l' l0 l1 : Nat → Nat → Int64} {δ δ' : mQ} {ρ : mP} {m : Nat} {e : Bool × Nat × Nat} {n k s a b c r d : Nat} {x y v : Int32}
/-- the class behind the last statement -/
def CX (w : Bool) (i0 : Nat → Nat → Int32) (l0 : Nat → Nat → Int64) (i : Nat → Nat → Int32) (l : Nat → Nat → Int64) (δ : mQ) : Prop := DC w i l δ ∧ DW δ ∧ ST i ∧ i (mm_P (!w)) 18 = nI (dC δ) ∧ dC δ ≤ 1200 ∧ mG (fP w) i0 i ∧ lG fL l0 l
theorem c_sta (h : CQ X w i0 l0 i l t δ) (hc : i (mm_P (!w)) 18 = nI (dC δ)) (hpos : dC δ ≤ t.1) (h0 : t.2.2 ≠ 0) {x1 : Int32} {u2 : Option Value} (hx : x1 < 1200) : ∃ x i' l', mm_V 2 21 [some (.ref 3), some (.int x1), u2] [] (mm_Z m w i l e) = mm_V 2 158 [some (.ref 3), some (.int x1), some (.int x)] [] (mm_Z m w i' l' e) ∧ (match sSta X t δ with
    | .inl p => x = 0 ∧ CF w i0 l0 i' l' p
    | .inr q => x = 1 ∧ CQ X w i0 l0 i' l' q.1 q.2 ∧ i' (mm_P (!w)) 18 = nI (dC q.2) ∧ dC q.2 ≤ q.1.1) := by
  have hd := h.tk.kd h.xw
  have e0 : ¬ nI t.2.2 = 0 := fun z => h0 ((nz_eq (by omega)).mp z)
  have ee : ∀ k : Nat, k < 1000 → ((nI t.2.2 = nI k) ↔ t.2.2 = k) := fun k hk => nI_eq (by omega) (by omega)
  have pos : ∀ {r : mE (m3 × mQ)}, (∀ q, r = .inr q → Ms X t q.1 ∧ dC q.2 = dC δ) → ∀ q, r = .inr q → dC q.2 ≤ q.1.1 := fun hr q hq => by
    obtain ⟨a, b⟩ := hr q hq
    have := a.2
    omega
  rw [mr_2_21, if_pos hx, h.k3, if_neg e0]
  unfold sSta
  by_cases k0 : t.2.2 = 200
  · obtain ⟨x, i', l', r1, r2⟩ := (c_att (m := m) (e := e) h k0 hc).two (pos (fun q hq => mo_att h.tk k0 hq))
    rw [if_pos k0, k0, show mm_sw (nI 200) _ _ = _ from rfl, r1]
    exact ⟨x, i', l', mr_2_104 .., r2⟩
  rw [if_neg k0]
  by_cases k1 : t.2.2 = 201
  · obtain ⟨x, i', l', r1, r2⟩ := (c_typ (m := m) (e := e) h k1 hc).two (pos (fun q hq => mo_typ h.xw h.dw h.tk k1 hq))
    rw [if_pos k1, k1, show mm_sw (nI 201) _ _ = _ from rfl, r1]
    exact ⟨x, i', l', mr_2_112 .., r2⟩
  rw [if_neg k1]
  by_cases k2 : t.2.2 = 202
  · obtain ⟨x, i', l', r1, r2⟩ := (c_rol (m := m) (e := e) h k2 hc).two (pos (fun q hq => mo_rol h.xw h.dw h.tk k2 hq))
    rw [if_pos k2, k2, show mm_sw (nI 202) _ _ = _ from rfl, r1]
    exact ⟨x, i', l', mr_2_120 .., r2⟩
  rw [if_neg k2]
  by_cases k3 : t.2.2 = 203
  · obtain ⟨x, i', l', r1, r2⟩ := (c_use (m := m) (e := e) h k3 hc).two (pos (fun q hq => mo_use h.xw h.dw h.tk k3 hq))
    rw [if_pos k3, k3, show mm_sw (nI 203) _ _ = _ from rfl, r1]
    exact ⟨x, i', l', mr_2_128 .., r2⟩
  rw [if_neg k3]
  by_cases k4 : 204 ≤ t.2.2 ∧ t.2.2 ≤ 207
  · obtain ⟨x, i', l', r1, r2⟩ := (c_rul (m := m) (e := e) h k4 hc).two (pos (fun q hq => mo_rul h.dw h.tk k4 hq))
    rw [if_pos k4]
    refine ⟨x, i', l', ?_, r2⟩
    rcases (show t.2.2 = 204 ∨ t.2.2 = 205 ∨ t.2.2 = 206 ∨ t.2.2 = 207 by omega) with z | z | z | z <;> rw [z]
    · rw [show mm_sw (nI 204) _ _ = _ from rfl, r1]; exact mr_2_136 ..
    · rw [show mm_sw (nI 205) _ _ = _ from rfl, r1]; exact mr_2_136 ..
    · rw [show mm_sw (nI 206) _ _ = _ from rfl, r1]; exact mr_2_136 ..
    · rw [show mm_sw (nI 207) _ _ = _ from rfl, r1]; exact mr_2_136 ..
  rw [if_neg k4]
  by_cases k5 : t.2.2 = 208
  · obtain ⟨x, i', l', r1, r2⟩ := (c_mov (m := m) (e := e) h k5 hc).two (pos (fun q hq => mo_mov h.dw h.tk k5 hq))
    rw [if_pos k5, k5, show mm_sw (nI 208) _ _ = _ from rfl, r1]
    exact ⟨x, i', l', mr_2_144 .., r2⟩
  rw [if_neg k5]
  by_cases k6 : t.2.2 = 209
  · obtain ⟨x, i', l', r1, r2⟩ := c_lim (m := m) (e := e) h k6 hc hpos
    rw [if_pos k6, k6, show mm_sw (nI 209) _ _ = _ from rfl, r1]
    exact ⟨x, i', l', mr_2_152 .., r2⟩
  rw [if_neg k6]
  refine ⟨0, i, l, ?_, rfl, h.cf⟩
  simp only [mm_sw]
  rw [if_neg (show ¬ nI t.2.2 = 200 from fun z => k0 ((ee 200 (by omega)).mp z)), if_neg (show ¬ nI t.2.2 = 201 from fun z => k1 ((ee 201 (by omega)).mp z)), if_neg (show ¬ nI t.2.2 = 202 from fun z => k2 ((ee 202 (by omega)).mp z)), if_neg (show ¬ nI t.2.2 = 203 from fun z => k3 ((ee 203 (by omega)).mp z)), if_neg (show ¬ nI t.2.2 = 204 from fun z => by have := (ee 204 (by omega)).mp z; omega), if_neg (show ¬ nI t.2.2 = 205 from fun z => by have := (ee 205 (by omega)).mp z; omega), if_neg (show ¬ nI t.2.2 = 206 from fun z => by have := (ee 206 (by omega)).mp z; omega), if_neg (show ¬ nI t.2.2 = 207 from fun z => by have := (ee 207 (by omega)).mp z; omega), if_neg (show ¬ nI t.2.2 = 208 from fun z => k5 ((ee 208 (by omega)).mp z)), if_neg (show ¬ nI t.2.2 = 209 from fun z => k6 ((ee 209 (by omega)).mp z))]
theorem c_all : ∀ (f k : Nat) (t : m3) (δ : mQ) (i : Nat → Nat → Int32) (l : Nat → Nat → Int64) (u2 : Option Value), CQ X w i0 l0 i l t δ → i (mm_P (!w)) 18 = nI (dC δ) → dC δ ≤ t.1 → k + f = 1200 → (∃ p i' l', sAll X f t δ = .inl p ∧ mm_V 2 21 [some (.ref 3), some (.int (nI k)), u2] [] (mm_Z m w i l e) = some (.inl (some (.int (nI p))), mm_Z m w i' l' e) ∧ CF w i0 l0 i' l' p) ∨ (∃ δ' x' u' i' l', sAll X f t δ = .inr δ' ∧ mm_V 2 21 [some (.ref 3), some (.int (nI k)), u2] [] (mm_Z m w i l e) = mm_V 2 188 [some (.ref 3), some (.int x'), u'] [] (mm_Z m w i' l' e) ∧ CX w i0 l0 i' l' δ')
  | 0, k, t, δ, i, l, u2, h, hc, hpos, hk => by
    right
    have hz := h.tk.ok.2.2.2.1
    have hz2 := h.xw.le
    refine ⟨δ, nI k, u2, i, l, rfl, ?_, h.dc, h.dw, h.2.2.2.1, hc, by omega, h.2.2.2.2.1, h.2.2.2.2.2⟩
    rw [mr_2_21, na_1200, if_neg (fun z => by have := (nI_ltI (by omega) (by omega)).mp z; omega)]
  | f + 1, k, t, δ, i, l, u2, h, hc, hpos, hk => by
    have hd := h.tk.kd h.xw
    have hx : nI k < 1200 := by rw [na_1200]; exact (nI_ltI (by omega) (by omega)).mpr (by omega)
    rw [sAll]
    by_cases h0 : t.2.2 = 0
    · right
      have hz := h.tk.ok.2.2.2.1
      have hz2 := h.xw.le
      refine ⟨δ, nI k, u2, i, l, by rw [if_pos h0], ?_, h.dc, h.dw, h.2.2.2.1, hc, by omega, h.2.2.2.2.1, h.2.2.2.2.2⟩
      rw [mr_2_21, if_pos hx, h.k3, h0, if_pos (show nI 0 = 0 from rfl)]
    · obtain ⟨x, i1, l1, r1, r2⟩ := c_sta (m := m) (e := e) (x1 := nI k) (u2 := u2) h hc hpos h0 hx
      rw [if_neg h0, r1, mr_2_158]
      cases hs : sSta X t δ with
      | inl p =>
        left
        rw [hs] at r2
        refine ⟨p, i1, l1, rfl, ?_, r2.2⟩
        rw [r2.1, if_pos rfl, r2.2.1]
      | inr q =>
        obtain ⟨t2, δ2⟩ := q
        rw [hs] at r2
        obtain ⟨r3, r4, r5, r6⟩ := r2
        have r4 : CQ X w i0 l0 i1 l1 t2 δ2 := r4
        have r5 : i1 (mm_P (!w)) 18 = nI (dC δ2) := r5
        have r6 : dC δ2 ≤ t2.1 := r6
        rw [r3, if_neg (by decide), eB_r]
        dsimp only
        unfold sEnd
        rcases r4.takes (m := m) (e := e) (k := 59) (x := 59) (by omega) (by omega) rfl with ⟨d1, i2, l2, f1, f2, f3, f4⟩ | ⟨d1, f1⟩
        · have gt := r4.tk.gt (by omega) (by omega)
          rw [f1, mb_l, mb_v, mr_2_171, if_bt, if_pos d1, nI_1, eB_r]
          exact c_all f (k + 1) (nx X t2) δ2 i2 l2 (some (.int 1)) f2 (by rw [fr_P f3]; exact r5) (by omega) (by omega)
        · left
          refine ⟨t2.1, i1, l1, by rw [if_neg d1]; rfl, ?_, r4.cf⟩
          rw [f1, mb_l, mb_v, mr_2_171, if_bf, r4.kc.1]
/-- the beginning -/
theorem DW_0 : DW d0 := by
  refine ⟨⟨fun j hj => absurd hj (Nat.not_lt_zero j), fun a b ha => absurd ha (Nat.not_lt_zero a), rfl⟩, ⟨Nat.zero_le _, Nat.zero_le _, Nat.zero_le _, Nat.zero_le _, Nat.zero_le _, Nat.zero_le _, Nat.zero_le _⟩, ⟨fun k hk => absurd hk (Nat.not_lt_zero k), fun k hk => absurd hk (Nat.not_lt_zero k), fun k hk => absurd hk (Nat.not_lt_zero k)⟩, fun a => ⟨by show (0 : Nat) < 2 ^ 0; decide, fun _ => rfl⟩, Nat.le_refl _, fun k hk => absurd hk (Nat.not_lt_zero k), fun k hk => absurd hk (Nat.not_lt_zero k)⟩
theorem c_clear : ∃ i', mm_V 107 0 [some (.ref (mm_P (!w)))] [] (mm_Z m w i l e) = some (.inl none, mm_Z m w i' l e) ∧ (∀ j, j < 7 → i' (mm_P (!w) + 1) j = 0) ∧ (∀ j, j < 8 → i' (mm_P (!w) + 2) j = 0) ∧ i' (mm_P (!w)) 18 = 0 ∧ (∀ k j, k ≠ mm_P (!w) → k ≠ mm_P (!w) + 1 → k ≠ mm_P (!w) + 2 → i' k j = i k j) := by
  obtain ⟨i1, a1, a2, a3⟩ := fill_all (m := m) (w := w) (l := l) (e := e) (i := i) (a := mm_P (!w) + 1) (ln := 7) (x := 0) (by cases w <;> rfl) (by cases w <;> rfl) (by decide)
  obtain ⟨i2, b1, b2, b3⟩ := fill_all (m := m) (w := w) (l := l) (e := e) (i := i1) (a := mm_P (!w) + 2) (ln := 8) (x := 0) (by cases w <;> rfl) (by cases w <;> rfl) (by decide)
  refine ⟨mm_ww i2 (mm_P (!w)) 18 0, ?_, fun j hj => ?_, fun j hj => ?_, mw_s, fun k j z1 z2 z3 => ?_⟩
  · rw [mr_107_0, a1, mb_l, mb_0, mr_107_8, b1, mb_l, mb_0, mr_107_16]
  · rw [mw_k (by omega), b3 _ (by omega)]; exact a2 j hj
  · rw [mw_k (by omega)]; exact b2 j hj
  · rw [mw_k z1, b3 _ z3, a3 _ z2]
/-- what a name means -/
def dMn (δ : mQ) (x : Int32) : Int32 := if x = 400 then nI (2 ^ pN (dP δ) 0 - 1) else if x < 100 then (1 : Int32) <<< (x &&& 31) else nI (dA δ (x - 100).toNatClampNeg)
theorem sh_m1 : ∀ y, y < 31 → ((1 : Int32) <<< (nI y &&& 31)) - 1 = nI (2 ^ y - 1) := by decide +kernel
theorem dMn_t (ha : a < 100) : dMn δ (nI a) = nI (2 ^ a) ∨ 31 ≤ a := by
  by_cases q : a < 31
  · left
    unfold dMn
    rw [if_neg (fun z => by have := (nI_eq (by omega) (by decide : 400 < 2 ^ 31)).mp z; omega), if_pos (by rw [na_100]; exact (nI_ltI (by omega) (by omega)).mpr ha), sh_1n a q]
  · right; omega
theorem dMn_a (ha : a < 8) : dMn δ (nI (100 + a)) = nI (dA δ a) := by
  unfold dMn
  rw [if_neg (fun z => by have := (nI_eq (by omega) (by decide : 400 < 2 ^ 31)).mp z; omega), if_neg (by rw [na_100]; exact fun z => by have := (nI_ltI (by omega) (by omega)).mp z; omega), na_100, na_sub (by omega), nI_clamp (by omega)]
  congr 2; omega
/-- what the class's meantBy answers -/
theorem c_mnt (h0 : i (mm_P (!w) + 1) 0 = nI (pN (dP δ) 0)) (h1 : i (mm_P (!w) + 1) 1 = nI (pN (dP δ) 1)) (hA : AC (!w) i δ) (hd : DW δ) (hx : x = 400 ∨ vW (dP δ) x) : mm_V 111 0 [some (.ref (mm_P (!w))), some (.int x), none] [] (mm_Z m w i l e) = some (.inl (some (.int (dMn δ x))), mm_Z m w i l e) := by
  have c0 := hd.2.1.1
  have c1 := hd.2.1.2.1
  rw [mr_111_0]
  rcases hx with z | ⟨a, a1, a2⟩ | ⟨a, a1, a2⟩
  · have : dMn δ 400 = nI (2 ^ pN (dP δ) 0 - 1) := if_pos rfl
    rw [z, if_pos rfl, h0, sh_m1 _ (by omega), this]
  · subst a2
    rw [if_neg (show ¬ nI a = 400 from fun z => by have := (nI_eq (by omega) (by decide : 400 < 2 ^ 31)).mp z; omega), if_pos (show nI a < 100 by rw [na_100]; exact (nI_ltI (by omega) (by omega)).mpr (by omega)), (dMn_t (δ := δ) (a := a) (by omega)).resolve_right (by omega), sh_1n a (by omega)]
  · subst a2
    rw [if_neg (show ¬ nI (100 + a) = 400 from fun z => by have := (nI_eq (by omega) (by decide : 400 < 2 ^ 31)).mp z; omega), if_neg (show ¬ nI (100 + a) < 100 by rw [na_100]; exact fun z => by have := (nI_ltI (by omega) (by omega)).mp z; omega), dMn_a (by omega), na_100, na_sub (by omega), show 100 + a - 100 = a by omega, h1, if_pos ((nI_ltI (by omega) (by omega)).mpr a1), if_neg (no_out (by omega) (by omega)), nI_clamp (by omega), hA a (by omega)]
theorem c_mna (h0 : i (mm_P (!w) + 1) 0 = nI (pN (dP δ) 0)) (h1 : i (mm_P (!w) + 1) 1 = nI (pN (dP δ) 1)) (hA : AC (!w) i δ) (hd : DW δ) : ∃ v, mm_V 111 0 [some (.ref (mm_P (!w))), some (.int x), none] [] (mm_Z m w i l e) = some (.inl (some (.int v)), mm_Z m w i l e) ∧ (vW (dP δ) x → v = dMn δ x) := by
  have c1 := hd.2.1.2.1
  by_cases q : vW (dP δ) x
  · exact ⟨_, c_mnt h0 h1 hA hd (Or.inr q), fun _ => rfl⟩
  · rw [mr_111_0]
    by_cases z1 : x = 400
    · rw [if_pos z1]; exact ⟨_, rfl, fun y => absurd y q⟩
    · rw [if_neg z1]
      by_cases z2 : x < 100
      · rw [if_pos z2]; exact ⟨_, rfl, fun y => absurd y q⟩
      · rw [if_neg z2]
        by_cases z3 : x - 100 < i (mm_P (!w) + 1) 1
        · have hx : ¬ x < 0 := fun y => z2 (Int32.lt_trans y (by decide))
          obtain ⟨n, n1, n2⟩ := nI_of hx
          subst n2
          have n3 : 100 ≤ n := by
            rcases Nat.lt_or_ge n 100 with u | u
            · exact absurd (by rw [na_100]; exact (nI_ltI (by omega) (by omega)).mpr u) z2
            · exact u
          rw [na_100, na_sub n3] at z3
          rw [h1] at z3
          have n4 := (nI_ltI (by omega) (by omega)).mp z3
          rw [na_100, na_sub n3, h1, if_pos z3, if_neg (no_out (by omega) (by omega))]
          exact ⟨_, rfl, fun y => absurd y q⟩
        · rw [if_neg z3]; exact ⟨_, rfl, fun y => absurd y q⟩
end MM149
