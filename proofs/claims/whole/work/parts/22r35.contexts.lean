/-! CONTEXTS; what the guard keeps is bounded -/
section MM94
def xOk (c : Nat) : Prop := c / 1000 < 4 ∧ c / 100 % 10 < 6 ∧ c % 100 < 24
def cNo (c : Nat) : Nat := c / 1000 * 144 + c / 100 % 10 * 24 + c % 100
theorem xOk_lt {c : Nat} (h : xOk c) : c < 4000 := by unfold xOk at h; omega
theorem xOk_31 {c : Nat} (h : xOk c) : c < 2 ^ 31 := by have := xOk_lt h; omega
theorem cNo_lt {c : Nat} (h : xOk c) : cNo c < 576 := by unfold xOk at h; unfold cNo; omega
theorem cNo_inj {c d : Nat} (hc : xOk c) (hd : xOk d) (h : cNo c = cNo d) : c = d := by unfold xOk at hc hd; unfold cNo at h; omega
def kOk (L : List Int32) : Prop := L.Nodup ∧ ∀ x, x ∈ L → ∃ c, xOk c ∧ x = nI c
theorem kOk_len {L : List Int32} (h : kOk L) : L.length ≤ 576 := by
  have h1 : (L.map (fun x => cNo x.toNatClampNeg)).Nodup := by
    unfold List.Nodup
    rw [List.pairwise_map]
    refine List.Pairwise.imp_of_mem ?_ h.1
    intro a b ha hb hne hq
    obtain ⟨c, hc, rfl⟩ := h.2 a ha
    obtain ⟨d, hd, rfl⟩ := h.2 b hb
    rw [nI_clamp (xOk_31 hc), nI_clamp (xOk_31 hd)] at hq
    exact hne (by rw [cNo_inj hc hd hq])
  have h2 : (L.map (fun x => cNo x.toNatClampNeg)) ⊆ List.range 576 := by
    intro y hy
    rw [List.mem_map] at hy
    obtain ⟨x, hx, rfl⟩ := hy
    obtain ⟨c, hc, rfl⟩ := h.2 x hx
    rw [nI_clamp (xOk_31 hc), List.mem_range]
    exact cNo_lt hc
  have := h1.length_le_of_subset h2
  rw [List.length_map, List.length_range] at this
  exact this
theorem kOk_id {L : List Int32} (h : kOk L) {c : Nat} (hc : xOk c) : kOk (kId L (nI c)) := by
  refine ⟨nd_id h.1 _, ?_⟩
  intro x hx
  unfold kId at hx
  split at hx
  · exact h.2 x hx
  · rw [List.mem_append] at hx
    rcases hx with hx | hx
    · exact h.2 x hx
    · rw [List.mem_singleton] at hx; exact ⟨c, hc, hx⟩
def KV (b : Nat) (κ : mK) : Prop := GW κ ∧ kn κ ≤ b ∧ kOk (kI κ)
variable {π : mP} {κ : mK} {b : Nat}
theorem KV.rm (h : KV b κ) {x y : Nat} (hx : xOk x) (hy : xOk y) : kRm (kI κ) (nI x) (nI y) := kOk_len (kOk_id (kOk_id h.2.2 hx) hy)
theorem KV.gr (h : KV b κ) (hb : b < 2 ^ 29) {x y cl : Nat} {pm : Int32} (hx : xOk x) (hy : xOk y) : KV (b + 1) (kGr π κ x y cl pm).2 := by
  have hw0 : GW (kSetQ κ (kq κ + 1)) := h.1
  have hw2 : GW (kId2 κ (nI x) (nI y)) := GWI hw0 (h.rm hx hy) (nd_id (nd_id h.1.2.2.2.2 _) _)
  have hwr : GW (kAsk (kId2 κ (nI x) (nI y)) (nI x) (nI y) (nI cl) (pVec π x y cl)).2 := GW_ask hw2
  have hn : kn (kAsk (kId2 κ (nI x) (nI y)) (nI x) (nI y) (nI cl) (pVec π x y cl)).2 = kn κ := by
    unfold kAsk; split <;> rfl
  have hi : kI (kAsk (kId2 κ (nI x) (nI y)) (nI x) (nI y) (nI cl) (pVec π x y cl)).2 = kId (kId (kI κ) (nI x)) (nI y) := by
    unfold kAsk; split <;> rfl
  have ho := kOk_id (kOk_id h.2.2 hx) hy
  have hb2 := h.2.1
  unfold kGr
  dsimp only
  generalize kAsk (kId2 κ (nI x) (nI y)) (nI x) (nI y) (nI cl) (pVec π x y cl) = r at hwr hn hi
  rw [← hi] at ho
  have g1 : KV (b + 1) r.2 := ⟨hwr, by omega, ho⟩
  have g2 : ∀ y, KV (b + 1) (kRec r.2 y) := fun y => ⟨⟨hwr.1, hwr.2.1, rec_len hwr y, by show kn r.2 + 1 < _; omega, hwr.2.2.2.2⟩, by show kn r.2 + 1 ≤ _; omega, ho⟩
  split <;> split <;> first | exact g1 | exact g2 _
theorem KV.up (h : KV b κ) {c : Nat} (hc : b ≤ c) : KV c κ := ⟨h.1, by have := h.2.1; omega, h.2.2⟩
theorem pv_ok (hP : PW π) {x : Int32} (h : pVal π x = true) : xOk x.toNatClampNeg ∧ x = nI x.toNatClampNeg := by
  by_cases q : x < 0
  · rw [pVal_neg q] at h; exact absurd h (by decide)
  · obtain ⟨c, hc, rfl⟩ := nI_of q
    rw [nI_clamp hc]
    rw [pVal_nI hc] at h
    simp only [Bool.and_eq_true, decide_eq_true_eq] at h
    obtain ⟨h1, h2, h3, -⟩ := h
    obtain ⟨p0, p1, p2, p3, -⟩ := hP
    exact ⟨⟨by omega, by omega, by omega⟩, rfl⟩
end MM94
