/-! THE STATE: now, sure, deeds, holdings, guard; how both keep it; what stays true of it -/
section MM97
abbrev mS : Type := mT × mT × List mD × mH × mK
def yT (ψ : mS) : mT := ψ.1
def yS (ψ : mS) : mT := ψ.2.1
def yQ (ψ : mS) : List mD := ψ.2.2.1
def yH (ψ : mS) : mH := ψ.2.2.2.1
def yK (ψ : mS) : mK := ψ.2.2.2.2
/-- with another guard; behind a deed; with other holdings -/
def yk (ψ : mS) (κ : mK) : mS := (yT ψ, yS ψ, yQ ψ, yH ψ, κ)
def yn (ψ : mS) (q : mD) : mS := (tDo (yT ψ) q, qS (yT ψ) (yS ψ) (yQ ψ) q, qQ (yQ ψ) q, yH ψ, yK ψ)
def yh (ψ : mS) (η : mH) : mS := (yT ψ, yS ψ, yQ ψ, η, yK ψ)
def yg (ψ : mS) (τ : mT) (η : mH) : mS := (τ, yS ψ, yQ ψ, η, yK ψ)
def CS (w : Bool) (π : mP) (i : Nat → Nat → Int32) (ψ : mS) : Prop := TC true i (yT ψ) ∧ TC false i (yS ψ) ∧ JC i (yQ ψ) ∧ HC i (yH ψ) ∧ GC i (yK ψ) ∧ PC w i π ∧ i 30 1 = 1
def RS (π : mP) (i : Nat → Nat → Int32) (ψ : mS) : Prop := TR i (yT ψ) ∧ TS i (yS ψ) ∧ JR i (yQ ψ) ∧ HR i (yH ψ) ∧ GR i (yK ψ) ∧ PR i π ∧ i 83 5 = 1
/-- directories are opened for reading alone -/
def HM (τ : mT) (η : mH) : Prop := ∀ o, o < 16 → hCt η o ≠ 0 → (hO η o).1 = false → tk τ (hO η o).2.1 = 2 → (hO η o).2.2.1 = 1
def HV (π : mP) (η : mH) : Prop := (∀ p, p < 8 → hP η p ≠ 0 → pVal π (nI (hP η p - 1)) = true) ∧ (∀ o, o < 16 → hCt η o ≠ 0 → pVal π (nI (hO η o).2.2.2.2) = true) ∧ (∀ k, k < 4 → hC η k ≠ 0 → pVal π (nI (hC η k - 1)) = true)
def IV (π : mP) (b : Nat) (ψ : mS) : Prop := TI (yT ψ) ∧ TV π (yT ψ) ∧ TH (yT ψ) (yH ψ) ∧ HW (yH ψ) ∧ HV π (yH ψ) ∧ JV π (yT ψ) (yS ψ) (yQ ψ) ∧ KV b (yK ψ) ∧ (PW π ∧ PO π) ∧ HM (yT ψ) (yH ψ)
variable {w : Bool} {l : Nat → Nat → Int64} {e : Bool × Nat × Nat} {π : mP} {m : Nat} {i i' : Nat → Nat → Int32} {ψ : mS} {b p n : Nat}
theorem IV.ti (h : IV π b ψ) : TI (yT ψ) := h.1
theorem IV.tw (h : IV π b ψ) : TW (yT ψ) := h.1.1
theorem IV.tn (h : IV π b ψ) : TN (yT ψ) := h.1.2.1
theorem IV.tv (h : IV π b ψ) : TV π (yT ψ) := h.2.1
theorem IV.th (h : IV π b ψ) : TH (yT ψ) (yH ψ) := h.2.2.1
theorem IV.hw (h : IV π b ψ) : HW (yH ψ) := h.2.2.2.1
theorem IV.hv (h : IV π b ψ) : HV π (yH ψ) := h.2.2.2.2.1
theorem IV.jv (h : IV π b ψ) : JV π (yT ψ) (yS ψ) (yQ ψ) := h.2.2.2.2.2.1
theorem IV.kv (h : IV π b ψ) : KV b (yK ψ) := h.2.2.2.2.2.2.1
theorem IV.pw (h : IV π b ψ) : PW π := h.2.2.2.2.2.2.2.1.1
theorem IV.po (h : IV π b ψ) : PO π := h.2.2.2.2.2.2.2.1.2
theorem IV.hm (h : IV π b ψ) : HM (yT ψ) (yH ψ) := h.2.2.2.2.2.2.2.2
theorem IV.sk (h : IV π b ψ) {c : Nat} {κ : mK} (hk : KV c κ) : IV π c (yk ψ κ) := ⟨h.ti, h.tv, h.th, h.hw, h.hv, h.jv, hk, ⟨h.pw, h.po⟩, h.hm⟩
theorem IV.up (h : IV π b ψ) {c : Nat} (hc : b ≤ c) : IV π c ψ := ⟨h.ti, h.tv, h.th, h.hw, h.hv, h.jv, h.kv.up hc, ⟨h.pw, h.po⟩, h.hm⟩
def cN (τ : mT) (n : Nat) : Nat := (tc τ n).toNatClampNeg
def cP (η : mH) (p : Nat) : Nat := hP η p - 1
theorem IV.cn (h : IV π b ψ) (hn : n < 32) (ht : tk (yT ψ) n ≠ 0) : xOk (cN (yT ψ) n) ∧ tc (yT ψ) n = nI (cN (yT ψ) n) := pv_ok h.pw (h.tv.1 n hn ht)
theorem IV.cp (h : IV π b ψ) (hp : p < 8) (ht : hP (yH ψ) p ≠ 0) : xOk (cP (yH ψ) p) := by
  have h1 := pv_ok h.pw (h.hv.1 p hp ht)
  rw [nI_clamp (by have := (h.hw.1 p hp).1; omega)] at h1
  exact h1.1
theorem nz_s {k : Nat} (h : k ≠ 0) : nI k - 1 = nI (k - 1) := by
  rw [na_1, na_sub (by omega)]
theorem CS.pr (h : CS w π i ψ) (hp : p < 8) (ht : hP (yH ψ) p ≠ 0) : i 69 p = nI (cP (yH ψ) p) := by rw [h.2.2.2.1.1 p hp, nz_s ht]; rfl
theorem RS.pr (h : RS π i ψ) (hp : p < 8) (ht : hP (yH ψ) p ≠ 0) : i 121 p = nI (cP (yH ψ) p) := by rw [h.2.2.2.1.1 p hp, nz_s ht]; rfl
theorem CS.cn (h : CS w π i ψ) (hI : IV π b ψ) (hn : n < 32) (ht : tk (yT ψ) n ≠ 0) : i (mm_Tr true + 2) n = nI (cN (yT ψ) n) := by rw [(h.1 n hn).2.1, ← (hI.cn hn ht).2]
theorem RS.cn (h : RS π i ψ) (hI : IV π b ψ) (hn : n < 32) (ht : tk (yT ψ) n ≠ 0) : i 114 n = nI (cN (yT ψ) n) := by rw [(h.1 n hn).2.1, ← (hI.cn hn ht).2]
theorem CS.kd (h : CS w π i ψ) (hn : n < 32) (ht : tk (yT ψ) n ≠ 0) : i (mm_Tr true + 1) n = nI (tk (yT ψ) n - 1) := by rw [(h.1 n hn).1, nz_s ht]
/-- the places of the class's guard do not touch the rest of it -/
theorem CS.gd (h : CS w π i ψ) (hf : mG gpC i i') {κ : mK} (hk : GC i' κ) : CS w π i' (yk ψ κ) := by
  obtain ⟨h1, h2, h3, h4, h5, h6, h7⟩ := h
  have far : ∀ k j, (56 ≤ k ∧ k < 83) → i' k j = i k j := fun k j z => hf k j (by unfold gpC; omega)
  refine ⟨h1.kp (fun k j a1 a2 => far k j (by simp only [mm_Tr, cond_true] at a1 a2; omega)), h2.kp (fun k j a1 a2 => far k j (by simp only [mm_Tr, cond_false] at a1 a2; omega)), h3.kp (far _ _ (by omega)) (fun j => far _ _ (by omega)), ?_, hk, h6.kp (fun k j a1 a2 => hf k j (by have := pc_far w a1 a2; unfold gpC; omega)), ?_⟩
  · obtain ⟨a1, a2, a3, a4⟩ := h4
    refine ⟨fun p hp => by rw [far _ _ (by omega)]; exact a1 p hp, fun p hp => by rw [far _ _ (by omega)]; exact a2 p hp, fun p hp => ?_, fun p hp => ?_⟩
    · simp only [far 71 _ (by omega), far 72 _ (by omega), far 73 _ (by omega), far 74 _ (by omega), far 75 _ (by omega), far 76 _ (by omega)]; exact a3 p hp
    · simp only [far 77 _ (by omega), far 78 _ (by omega), far 79 _ (by omega)]; exact a4 p hp
  · rw [hf 30 1 (by unfold gpC; omega)]; exact h7
/-- what holdings of the class need -/
theorem HC.kp {η : mH} (h : HC i η) (far : ∀ k j, 69 ≤ k → k ≤ 79 → i' k j = i k j) : HC i' η := by
  obtain ⟨a1, a2, a3, a4⟩ := h
  refine ⟨fun p hp => by rw [far _ _ (by omega) (by omega)]; exact a1 p hp, fun p hp => by rw [far _ _ (by omega) (by omega)]; exact a2 p hp, fun p hp => ?_, fun p hp => ?_⟩
  · simp only [far 71 _ (by omega) (by omega), far 72 _ (by omega) (by omega), far 73 _ (by omega) (by omega), far 74 _ (by omega) (by omega), far 75 _ (by omega) (by omega), far 76 _ (by omega) (by omega)]; exact a3 p hp
  · simp only [far 77 _ (by omega) (by omega), far 78 _ (by omega) (by omega), far 79 _ (by omega) (by omega)]; exact a4 p hp
theorem HR.kp {η : mH} (h : HR i η) (far : ∀ k j, 121 ≤ k → k ≤ 129 → i' k j = i k j) : HR i' η := by
  obtain ⟨a1, a2, a3, a4⟩ := h
  refine ⟨fun p hp => by rw [far _ _ (by omega) (by omega)]; exact a1 p hp, fun p hp => by rw [far _ _ (by omega) (by omega)]; exact a2 p hp, fun p hp => ?_, fun p hp => ?_⟩
  · simp only [far 123 _ (by omega) (by omega), far 124 _ (by omega) (by omega), far 125 _ (by omega) (by omega), far 126 _ (by omega) (by omega)]; exact a3 p hp
  · simp only [far 127 _ (by omega) (by omega), far 128 _ (by omega) (by omega), far 129 _ (by omega) (by omega)]; exact a4 p hp
theorem GC.kp {κ : mK} (h : GC i κ) (f1 : ∀ j, j = 3 ∨ j = 8 ∨ j = 10 ∨ j = 11 ∨ j = 12 → i' 30 j = i 30 j) (f2 : ∀ k j, 50 ≤ k → k ≤ 55 → i' k j = i k j) : GC i' κ := by
  obtain ⟨⟨a1, a2⟩, ⟨b1, b2⟩, ⟨c1, c2⟩, d1, d2⟩ := h
  refine ⟨⟨by rw [f1 _ (by omega)]; exact a1, fun k hk => by rw [f2 _ _ (by omega) (by omega)]; exact a2 k hk⟩, ⟨by rw [f1 _ (by omega)]; exact b1, fun k hk => ?_⟩, ⟨by rw [f1 _ (by omega)]; exact c1, fun k hk => ?_⟩, by rw [f1 _ (by omega)]; exact d1, by rw [f1 _ (by omega)]; exact d2⟩
  · simp only [f2 51 _ (by omega) (by omega), f2 52 _ (by omega) (by omega), f2 53 _ (by omega) (by omega), f2 54 _ (by omega) (by omega)]; exact b2 k hk
  · simp only [f2 55 _ (by omega) (by omega)]; exact c2 k hk
theorem GR.kp {κ : mK} (h : GR i κ) (f1 : ∀ j, j = 79 ∨ (84 ≤ j ∧ j ≤ 86) ∨ j = 91 → i' 83 j = i 83 j) (f2 : ∀ k j, 136 ≤ k → k ≤ 145 → i' k j = i k j) : GR i' κ := by
  obtain ⟨⟨a1, a2⟩, ⟨b1, b2⟩, ⟨c1, c2⟩, d1, d2⟩ := h
  refine ⟨⟨by rw [f1 _ (by omega)]; exact a1, fun k hk => by rw [f2 _ _ (by omega) (by omega)]; exact a2 k hk⟩, ⟨by rw [f1 _ (by omega)]; exact b1, fun k hk => ?_⟩, ⟨by rw [f1 _ (by omega)]; exact c1, fun k hk => ?_⟩, by rw [f1 _ (by omega)]; exact d1, by rw [f1 _ (by omega)]; exact d2⟩
  · simp only [f2 137 _ (by omega) (by omega), f2 138 _ (by omega) (by omega), f2 139 _ (by omega) (by omega), f2 140 _ (by omega) (by omega)]; exact b2 k hk
  · simp only [f2 141 _ (by omega) (by omega), f2 142 _ (by omega) (by omega), f2 143 _ (by omega) (by omega), f2 144 _ (by omega) (by omega), f2 145 _ (by omega) (by omega)]; exact c2 k hk
theorem RS.gd (h : RS π i ψ) (hf : mG gpR i i') {κ : mK} (hk : GR i' κ) : RS π i' (yk ψ κ) := by
  obtain ⟨h1, h2, h3, h4, h5, h6, h7⟩ := h
  have far : ∀ k j, (112 ≤ k ∧ k < 136) → i' k j = i k j := fun k j z => hf k j (by unfold gpR; omega)
  exact ⟨h1.kp (fun k j a1 a2 => far k j (by omega)), h2.kp (fun j => far _ _ (by omega)), h3.kp (hf _ _ (by unfold gpR; omega)) (fun j => far _ _ (by omega)), h4.kp (fun k j a1 a2 => far k j (by omega)), hk, h6.fr hf, by rw [hf 83 5 (by unfold gpR; omega)]; exact h7⟩
/-- a question -/
theorem cs_ck (h : CS w π i ψ) (hI : IV π b ψ) {x y cl : Nat} {pm : Int32} (hx : xOk x) (hy : xOk y) (hcl : cl < 2 ^ 31) : ∃ i', mm_V 35 0 [some (.ref 30), some (.int (nI x)), some (.int (nI y)), some (.int (nI cl)), some (.int pm), none, none, none] [] (mm_Z m w i l e) = some (.inl (some (.int (bI (kGr π (yK ψ) x y cl pm).1))), mm_Z m w i' l e) ∧ CS w π i' (yk ψ (kGr π (yK ψ) x y cl pm).2) ∧ mG gpC i i' := by
  obtain ⟨i', e1, e2, e3⟩ := gc_grants (m := m) (w := w) (l := l) (e := e) (pm := pm) h.2.2.2.2.1 hI.kv.1 h.2.2.2.2.2.1 hI.pw hI.po (xOk_31 hx) (xOk_31 hy) hcl (hI.kv.rm hx hy)
  exact ⟨i', e1, h.gd e3 e2, e3⟩
theorem rs_ck (h : RS π i ψ) (hI : IV π b ψ) {x y cl : Nat} {pm : Int32} (hx : xOk x) (hy : xOk y) (hcl : cl < 2 ^ 31) : ∃ i', mm_V 264 0 [some (.ref 83), some (.int (nI x)), some (.int (nI y)), some (.int (nI cl)), some (.int pm), none, none] [] (mm_Z m w i l e) = some (.inl (some (.int (bI (kGr π (yK ψ) x y cl pm).1))), mm_Z m w i' l e) ∧ RS π i' (yk ψ (kGr π (yK ψ) x y cl pm).2) ∧ mG gpR i i' := by
  obtain ⟨i', e1, e2, e3⟩ := gr_checkAll (m := m) (w := w) (l := l) (e := e) (pm := pm) h.2.2.2.2.1 hI.kv.1 h.2.2.2.2.2.1 hI.pw hI.po (xOk_31 hx) (xOk_31 hy) hcl (hI.kv.rm hx hy)
  exact ⟨i', e1, h.gd e3 e2, e3⟩
theorem iv_ck (hI : IV π b ψ) (hb : b < 2 ^ 29) {x y cl : Nat} {pm : Int32} (hx : xOk x) (hy : xOk y) : IV π (b + 1) (yk ψ (kGr π (yK ψ) x y cl pm).2) := hI.sk (hI.kv.gr hb hx hy)
/-- the registers of the reference: result, where the walk is, the last name -/
def rW (k j : Nat) : Prop := gpR k j ∨ (k = 83 ∧ (81 ≤ j ∧ j ≤ 83))
theorem RS.rg (h : RS π i ψ) {j : Nat} {x : Int32} (hj : 81 ≤ j ∧ j ≤ 83) : RS π (mm_ww i 83 j x) ψ := by
  obtain ⟨h1, h2, h3, h4, h5, h6, h7⟩ := h
  exact ⟨h1.kp (fun k z a1 a2 => by rw [mw_k (by omega)]), h2.kp (fun z => by rw [mw_k (by omega)]), h3.kp (by rw [mw_j (by omega)]) (fun z => by rw [mw_k (by omega)]), h4.kp (fun k z a1 a2 => by rw [mw_k (by omega)]), h5.kp (fun z a1 => by rw [mw_j (by omega)]) (fun k z a1 a2 => by rw [mw_k (by omega)]), h6.kp (fun z a1 => by rw [mw_j (by omega)]) (fun k z a1 a2 => by rw [mw_k (by omega)]), by rw [mw_j (by omega)]; exact h7⟩
theorem CS.rg (h : CS w π i ψ) {j : Nat} {x : Int32} : CS w π (mm_ww i 80 j x) ψ := by
  obtain ⟨h1, h2, h3, h4, h5, h6, h7⟩ := h
  exact ⟨h1.kp (fun k z a1 a2 => by rw [mw_k (by simp only [mm_Tr, cond_true] at a1 a2; omega)]), h2.kp (fun k z a1 a2 => by rw [mw_k (by simp only [mm_Tr, cond_false] at a1 a2; omega)]), h3.kp (by rw [mw_k (by omega)]) (fun z => by rw [mw_k (by omega)]), h4.kp (fun k z a1 a2 => by rw [mw_k (by omega)]), h5.kp (fun z a1 => by rw [mw_k (by omega)]) (fun k z a1 a2 => by rw [mw_k (by omega)]), h6.kp (fun k z a1 a2 => by have := pc_far w a1 a2; rw [mw_k (by omega)]), by rw [mw_k (by omega)]; exact h7⟩
theorem rs_check (h : RS π i ψ) (hI : IV π b ψ) (h0 : i 83 81 = 0) {x y cl : Nat} {x4 : Int32} (hx : xOk x) (hy : xOk y) (hcl : cl < 2 ^ 31) : ∃ i', mm_V 265 0 [some (.ref 83), some (.int (nI x)), some (.int (nI y)), some (.int (nI cl)), some (.int x4)] [] (mm_Z m w i l e) = some (.inl none, mm_Z m w i' l e) ∧ RS π i' (yk ψ (kGr π (yK ψ) x y cl (1 <<< (x4 &&& 31))).2) ∧ i' 83 81 = (if (kGr π (yK ψ) x y cl (1 <<< (x4 &&& 31))).1 = true then 0 else -2) ∧ i' 83 82 = i 83 82 ∧ i' 83 83 = i 83 83 ∧ mG rW i i' := by
  obtain ⟨i1, e1, e2, e3⟩ := rs_ck (m := m) (w := w) (l := l) (e := e) (pm := 1 <<< (x4 &&& 31)) h hI hx hy hcl
  have f : ∀ j, 81 ≤ j → j ≤ 83 → i1 83 j = i 83 j := fun j h1 h2 => e3 83 j (by unfold gpR; omega)
  rw [mr_265_0, h0, if_neg (by decide), e1, mb_l, mb_v, mr_265_18]
  cases hg : (kGr π (yK ψ) x y cl (1 <<< (x4 &&& 31))).1 with
  | true => exact ⟨i1, if_neg (by decide), e2, by rw [f _ (by omega) (by omega), h0, if_pos rfl], f _ (by omega) (by omega), f _ (by omega) (by omega), e3.mo (fun a b z => Or.inl z)⟩
  | false => exact ⟨mm_ww i1 83 81 (-2), if_pos rfl, e2.rg (by omega), by rw [mw_s, if_neg (by decide)], by rw [mw_j (by omega), f _ (by omega) (by omega)], by rw [mw_j (by omega), f _ (by omega) (by omega)], (e3.mo (fun a b z => Or.inl z)).tr (mG.ww (Or.inr ⟨rfl, by omega⟩))⟩
theorem rs_check_no (h0 : i 83 81 < 0) {x1 x2 x3 x4 : Int32} : mm_V 265 0 [some (.ref 83), some (.int x1), some (.int x2), some (.int x3), some (.int x4)] [] (mm_Z m w i l e) = some (.inl none, mm_Z m w i l e) := by
  rw [mr_265_0, if_pos h0]
theorem rs_must {g : Bool} {x2 : Int32} (h0 : i 83 81 = 0) : mm_V 266 0 [some (.ref 83), some (.int (bI g)), some (.int x2)] [] (mm_Z m w i l e) = some (.inl none, mm_Z m w (mm_ww i 83 81 (if g = true then 0 else x2)) l e) := by
  rw [mr_266_0, h0, if_neg (by decide)]
  cases g <;> rfl
theorem rs_must_no {x1 x2 : Int32} (h0 : i 83 81 < 0) : mm_V 266 0 [some (.ref 83), some (.int x1), some (.int x2)] [] (mm_Z m w i l e) = some (.inl none, mm_Z m w (mm_ww i 83 81 (i 83 81)) l e) := by
  rw [mr_266_0, if_pos h0]
theorem ww_id {k j : Nat} : mm_ww i k j (i k j) = i := by
  funext a b
  by_cases q : a = k
  · subst q
    by_cases z : b = j
    · subst z; rw [mw_s]
    · rw [mw_j z]
  · rw [mw_k q]
theorem rs_good {r : Int32} (h0 : i 83 81 = r) : mm_V 267 0 [some (.ref 83)] [] (mm_Z m w i l e) = some (.inl (some (.int (bI (decide (¬ r < 0))))), mm_Z m w i l e) := by
  rw [mr_267_0, h0]
  by_cases q : r < 0
  · rw [if_pos q, decide_eq_false (fun z => z q)]; rfl
  · rw [if_neg q, decide_eq_true q]; rfl
/-- the class's 'may' -/
theorem cs_may (h : CS w π i ψ) (hI : IV π b ψ) (hp : p < 8) (hP0 : hP (yH ψ) p ≠ 0) (hn : n < 32) (ht : tk (yT ψ) n ≠ 0) {pm : Int32} : ∃ i', mm_V 90 0 [some (.ref 80), some (.int (nI p)), some (.int (nI n)), some (.int pm)] [] (mm_Z m w i l e) = some (.inl (some (.int (bI (kGr π (yK ψ) (cP (yH ψ) p) (cN (yT ψ) n) (tk (yT ψ) n - 1) pm).1))), mm_Z m w i' l e) ∧ CS w π i' (yk ψ (kGr π (yK ψ) (cP (yH ψ) p) (cN (yT ψ) n) (tk (yT ψ) n - 1) pm).2) ∧ mG gpC i i' := by
  have hk := (hI.tw n hn).1
  obtain ⟨i1, e1, e2, e3⟩ := cs_ck (m := m) (l := l) (e := e) (cl := tk (yT ψ) n - 1) (pm := pm) h hI (hI.cp hp hP0) (hI.cn hn ht).1 (by omega)
  refine ⟨i1, ?_, e2, e3⟩
  rw [mr_90_0, if_neg (no_out (by omega) (by omega)), if_neg (no_out (by omega) (by omega)), if_neg (no_out (by omega) (by omega)), nI_clamp (by omega), nI_clamp (by omega), h.pr hp hP0, h.cn hI hn ht, h.kd hn ht, e1, mb_l, mb_v, mr_90_35, if_pos (bI_01 _)]
end MM97
