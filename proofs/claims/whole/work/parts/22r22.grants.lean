/-! THE GUARD: a question -/
section MM81
variable {p w : Bool} {l : Nat → Nat → Int64} {e : Bool × Nat × Nat} {π : mP} {m : Nat} {κ : mK}
/-- behind the identifiers: the vector, and the cache behind it -/
def kAsk (κ : mK) (a b c v : Int32) : Int32 × mK := if kRow (kC κ) a b c < (kC κ).length then (((kC κ).getD (kRow (kC κ) a b c) kz).2.2.2, kSetH κ (kh κ + 1)) else (v, kSetC κ (kAdd (kC κ) (a, b, c, v)))
def kId2 (κ : mK) (a b : Int32) : mK := kSetI (kSetQ κ (kq κ + 1)) (kId (kId (kI κ) a) b)
/-- is it granted, and the guard behind it -/
def kGr (π : mP) (κ : mK) (a b cl : Nat) (pm : Int32) : Bool × mK :=
  let r := kAsk (kId2 κ (nI a) (nI b)) (nI a) (nI b) (nI cl) (pVec π a b cl)
  let mi := pm &&& (r.1 ^^^ (-1))
  let te := if mi = 0 then pm &&& pRuled π 2 (a % 100) (b % 100) cl else mi &&& (pRuled π 3 (a % 100) (b % 100) cl ^^^ (-1))
  (decide (mi = 0), if te = 0 then r.2 else kRec r.2 (bI (decide (mi = 0)), nI a, nI b, nI cl, pm))
theorem PC.kp {i i' : Nat → Nat → Int32} (h : PC p i π) (h2 : ∀ k j, mm_P p + 1 ≤ k → k ≤ mm_P p + 18 → i' k j = i k j) : PC p i' π := by
  obtain ⟨⟨a, b, c, d, f⟩, g⟩ := h
  refine ⟨⟨fun j hj => by rw [h2 _ j (by omega) (by omega)]; exact a j hj, fun u hu => by rw [h2 _ u (by omega) (by omega)]; exact b u hu, fun r hr => by rw [h2 _ r (by omega) (by omega)]; exact c r hr, fun k hk => ?_, fun k hk => ?_⟩, fun k hk => ?_⟩
  · rw [h2 _ k (by omega) (by omega), h2 _ k (by omega) (by omega), h2 _ k (by omega) (by omega), h2 _ k (by omega) (by omega), h2 _ k (by omega) (by omega)]
    exact d k hk
  · rw [h2 _ k (by omega) (by omega), h2 _ k (by omega) (by omega), h2 _ k (by omega) (by omega), h2 _ k (by omega) (by omega)]
    exact f k hk
  · obtain ⟨g1, g2, s, g3, g4, g5, g6⟩ := g k hk
    refine ⟨by rw [h2 _ k (by omega) (by omega)]; exact g1, by rw [h2 _ k (by omega) (by omega)]; exact g2, s, by rw [h2 _ k (by omega) (by omega)]; exact g3, by rw [h2 _ _ (by omega) (by omega)]; exact g4, g5, ?_⟩
    intro j c hc
    rw [h2 _ _ (by omega) (by omega), h2 _ _ (by omega) (by omega)]
    exact g6 j c hc
theorem pc_far (p : Bool) {k : Nat} (h1 : mm_P p + 1 ≤ k) (h2 : k ≤ mm_P p + 18) : k < 50 ∧ k ≠ 30 := by
  cases p <;> simp only [mm_P, cond_true, cond_false] at h1 h2 <;> omega
theorem kIx_app {L : List Int32} {x y : Int32} (h : kIx (L ++ [y]) x = (L ++ [y]).length) : kIx L x = L.length := by
  rcases Nat.lt_or_ge (kIx L x) L.length with q | q
  · exfalso
    have h1 := kIx_at q
    have h2 := kIx_no h (k := kIx L x) (by rw [List.length_append, List.length_singleton]; omega)
    rw [gd_app q] at h2
    exact h2 h1
  · exact Nat.le_antisymm (kIx_le L x) q
/-- room for two more identifiers -/
def kRm (L : List Int32) (a b : Int32) : Prop := (kId (kId L a) b).length ≤ 576
theorem kId_len (L : List Int32) (x : Int32) : L.length ≤ (kId L x).length ∧ (kIx L x = L.length → (kId L x).length = L.length + 1) := by
  unfold kId
  split
  · exact ⟨Nat.le_refl _, fun h => by omega⟩
  · rw [List.length_append, List.length_singleton]
    exact ⟨by omega, fun _ => rfl⟩
theorem GWI {L : List Int32} (hw : GW κ) (h : L.length ≤ 576) (hn : L.Nodup) : GW (kSetI κ L) := ⟨h, hw.2.1, hw.2.2.1, hw.2.2.2.1, hn⟩
theorem gc_ids {i : Nat → Nat → Int32} (h : GC i κ) (hw : GW κ) (a b : Int32) (hr : kRm (kI κ) a b) : ∃ i' i'', mm_V 38 0 [some (.ref 30), some (.int a)] [] (mm_Z m w i l e) = some (.inl none, mm_Z m w i' l e) ∧ mm_V 38 0 [some (.ref 30), some (.int b)] [] (mm_Z m w i' l e) = some (.inl none, mm_Z m w i'' l e) ∧ GC i'' (kSetI κ (kId (kId (kI κ) a) b)) ∧ mG gpC i i'' := by
  have l1 := kId_len (kI κ) a
  have l2 := kId_len (kId (kI κ) a) b
  unfold kRm at hr
  obtain ⟨i1, e1, e2, e3⟩ := gc_identify (m := m) (w := w) (l := l) (e := e) h hw a (fun q => by have := l1.2 q; omega)
  have hw1 : GW (kSetI κ (kId (kI κ) a)) := GWI hw (by omega) (nd_id hw.2.2.2.2 a)
  obtain ⟨i2, g1, g2, g3⟩ := gc_identify (m := m) (w := w) (l := l) (e := e) e2 hw1 b (fun q => by
    have q : kIx (kId (kI κ) a) b = (kId (kI κ) a).length := q
    show (kId (kI κ) a).length < 576
    have := l2.2 q; omega)
  exact ⟨i1, i2, e1, g1, g2, (e3.tr g3).mo (fun k j z => by unfold gpC; omega)⟩
theorem gr_ids {i : Nat → Nat → Int32} (h : GR i κ) (hw : GW κ) (a b : Int32) (hr : kRm (kI κ) a b) : ∃ i' i'', mm_V 261 0 [some (.ref 83), some (.int a), none, none] [] (mm_Z m w i l e) = some (.inl none, mm_Z m w i' l e) ∧ mm_V 261 0 [some (.ref 83), some (.int b), none, none] [] (mm_Z m w i' l e) = some (.inl none, mm_Z m w i'' l e) ∧ GR i'' (kSetI κ (kId (kId (kI κ) a) b)) ∧ mG gpR i i'' := by
  have l2 := kId_len (kId (kI κ) a) b
  unfold kRm at hr
  obtain ⟨i1, e1, e2, e3⟩ := gr_identify (m := m) (w := w) (l := l) (e := e) h hw a
  have hw1 : GW (kSetI κ (kId (kI κ) a)) := GWI hw (by omega) (nd_id hw.2.2.2.2 a)
  obtain ⟨i2, g1, g2, g3⟩ := gr_identify (m := m) (w := w) (l := l) (e := e) e2 hw1 b
  exact ⟨i1, i2, e1, g1, g2, (e3.tr g3).mo (fun k j z => by unfold gpR; omega)⟩
theorem GC_q {i : Nat → Nat → Int32} (h : GC i κ) (x : Int32) : GC (mm_ww i 30 11 x) (kSetQ κ x) := by
  obtain ⟨⟨a1, a2⟩, ⟨a3, a4⟩, ⟨a5, a6⟩, a7, a8⟩ := h
  refine ⟨⟨by rw [mw_j (by omega)]; exact a1, fun k hk => by rw [mw_k (by omega)]; exact a2 k hk⟩, ⟨by rw [mw_j (by omega)]; exact a3, fun k hk => by rw [mw_k (by omega), mw_k (by omega), mw_k (by omega), mw_k (by omega)]; exact a4 k hk⟩, ⟨by rw [mw_j (by omega)]; exact a5, fun k hk => by rw [mw_k (by omega)]; exact a6 k hk⟩, by rw [mw_s]; rfl, by rw [mw_j (by omega)]; exact a8⟩
theorem GC_h {i : Nat → Nat → Int32} (h : GC i κ) (x : Int32) : GC (mm_ww i 30 12 x) (kSetH κ x) := by
  obtain ⟨⟨a1, a2⟩, ⟨a3, a4⟩, ⟨a5, a6⟩, a7, a8⟩ := h
  refine ⟨⟨by rw [mw_j (by omega)]; exact a1, fun k hk => by rw [mw_k (by omega)]; exact a2 k hk⟩, ⟨by rw [mw_j (by omega)]; exact a3, fun k hk => by rw [mw_k (by omega), mw_k (by omega), mw_k (by omega), mw_k (by omega)]; exact a4 k hk⟩, ⟨by rw [mw_j (by omega)]; exact a5, fun k hk => by rw [mw_k (by omega)]; exact a6 k hk⟩, by rw [mw_j (by omega)]; exact a7, by rw [mw_s]; rfl⟩
theorem kRow_le (C : List (Int32 × Int32 × Int32 × Int32)) (a b c : Int32) : kRow C a b c ≤ C.length := by have := (tFst_le (kHit C a b c) C.length 0).2; unfold kRow; omega
theorem GW_ask (hw : GW κ) {a b c v : Int32} : GW (kAsk κ a b c v).2 := by
  unfold kAsk
  split
  · exact hw
  · exact ⟨hw.1, (len_add _ _ hw.2.1).2, hw.2.2.1, hw.2.2.2.1, hw.2.2.2.2⟩
theorem gc_grants {i : Nat → Nat → Int32} (h : GC i κ) (hw : GW κ) (hP : PC w i π) (hPw : PW π) (hPo : PO π) {a b cl : Nat} {pm : Int32} (ha : a < 2 ^ 31) (hb : b < 2 ^ 31) (hcl : cl < 2 ^ 31) (hr : kRm (kI κ) (nI a) (nI b)) : ∃ i', mm_V 35 0 [some (.ref 30), some (.int (nI a)), some (.int (nI b)), some (.int (nI cl)), some (.int pm), none, none, none] [] (mm_Z m w i l e) = some (.inl (some (.int (bI (kGr π κ a b cl pm).1))), mm_Z m w i' l e) ∧ GC i' (kGr π κ a b cl pm).2 ∧ mG gpC i i' := by
  have hq := GC_q h (kq κ + 1)
  have f0 : mG gpC i (mm_ww i 30 11 (kq κ + 1)) := mG.ww (Or.inr ⟨rfl, by omega⟩)
  have hw0 : GW (kSetQ κ (kq κ + 1)) := hw
  obtain ⟨i1, i2, a1, a2, a3, a4⟩ := gc_ids (m := m) (w := w) (l := l) (e := e) hq hw0 (nI a) (nI b) hr
  have hw2 : GW (kId2 κ (nI a) (nI b)) := GWI hw0 hr (nd_id (nd_id hw.2.2.2.2 _) _)
  have f2 : mG gpC i i2 := f0.tr a4
  have a3 : GC i2 (kId2 κ (nI a) (nI b)) := a3
  have pk : ∀ i', mG gpC i i' → PC w i' π := fun i' hf => hP.kp (fun k j q1 q2 => hf k j (by have := pc_far w q1 q2; unfold gpC; omega))
  have hP2 := pk i2 f2
  -- the row, the vector
  have ask : ∃ i3 row, mm_V 35 20 [some (.ref 30), some (.int (nI a)), some (.int (nI b)), some (.int (nI cl)), some (.int pm), none, none, none] [] (mm_Z m w i2 l e) = mm_V 35 67 [some (.ref 30), some (.int (nI a)), some (.int (nI b)), some (.int (nI cl)), some (.int pm), some (.int (nI row)), none, none] [] (mm_Z m w i3 l e) ∧ row < 6 ∧ i3 54 row = (kAsk (kId2 κ (nI a) (nI b)) (nI a) (nI b) (nI cl) (pVec π a b cl)).1 ∧ GC i3 (kAsk (kId2 κ (nI a) (nI b)) (nI a) (nI b) (nI cl) (pVec π a b cl)).2 ∧ mG gpC i i3 := by
    have hle := kRow_le (kC (kId2 κ (nI a) (nI b))) (nI a) (nI b) (nI cl)
    have h6 := hw2.2.1
    rw [mr_35_20, gc_cacheRow a3 hw2, mb_l, mb_v, mr_35_27]
    unfold kAsk
    by_cases q : kRow (kC (kId2 κ (nI a) (nI b))) (nI a) (nI b) (nI cl) < (kC (kId2 κ (nI a) (nI b))).length
    · rw [if_pos q, if_pos q, if_neg (na_m1 (by omega)), a3.2.2.2.2]
      refine ⟨_, _, rfl, by omega, ?_, GC_h a3 _, f2.tr (mG.ww (Or.inr ⟨rfl, by omega⟩))⟩
      rw [mw_k (by omega)]
      exact (a3.2.1.2 _ q).2.2.2
    · rw [if_neg q, if_neg q, if_pos rfl, pc_vectorOf hP2 hPw hPo ha hb hcl, mb_l, mb_v, mr_35_49]
      obtain ⟨i3, c1, c2, c3, c4⟩ := gc_cache (m := m) (w := w) (l := l) (e := e) a3 hw2 (nI a) (nI b) (nI cl) (pVec π a b cl)
      have hlen := len_add (kC (kId2 κ (nI a) (nI b))) (nI a, nI b, nI cl, pVec π a b cl) h6
      rw [c1, mb_l, mb_v, mr_35_52]
      exact ⟨i3, _, rfl, by omega, c3, c2, f2.tr (c4.mo (fun k j z => by unfold gpC; omega))⟩
  obtain ⟨i3, row, b1, b2, b3, b4, b5⟩ := ask
  have hP3 := pk i3 b5
  rw [mr_35_0, h.2.2.2.1, a1, mb_l, mb_0, mr_35_15, a2, mb_l, mb_0, b1, mr_35_67, if_neg (no_out b2 (by omega))]
  simp only [nI_clamp (show row < 2 ^ 31 by omega), b3]
  unfold kGr
  dsimp only
  have hwr : GW (kAsk (kId2 κ (nI a) (nI b)) (nI a) (nI b) (nI cl) (pVec π a b cl)).2 := GW_ask hw2
  generalize kAsk (kId2 κ (nI a) (nI b)) (nI a) (nI b) (nI cl) (pVec π a b cl) = r at b3 b4 hwr
  have fin : ∀ (x6 : Int32) (te : Int32), ∃ i', mm_V 35 119 [some (.ref 30), some (.int (nI a)), some (.int (nI b)), some (.int (nI cl)), some (.int pm), some (.int (nI row)), some (.int x6), none] [.int te] (mm_Z m w i3 l e) = some (.inl (some (.int (bI (decide (x6 = 0))))), mm_Z m w i' l e) ∧ GC i' (if te = 0 then r.2 else kRec r.2 (bI (decide (x6 = 0)), nI a, nI b, nI cl, pm)) ∧ mG gpC i i' := by
    intro x6 te
    have e145 : ∀ i5 te, mm_V 35 145 [some (.ref 30), some (.int (nI a)), some (.int (nI b)), some (.int (nI cl)), some (.int pm), some (.int (nI row)), some (.int x6), some (.int te)] [] (mm_Z m w i5 l e) = some (.inl (some (.int (bI (decide (x6 = 0))))), mm_Z m w i5 l e) := by
      intro i5 te
      rw [mr_35_145]
      by_cases q2 : x6 = 0
      · rw [if_pos q2, decide_eq_true q2]; rfl
      · rw [if_neg q2, decide_eq_false q2]; rfl
    rw [mr_35_119]
    by_cases q : te = 0
    · rw [if_pos q, if_pos q, e145]
      exact ⟨i3, rfl, b4, b5⟩
    · rw [if_neg q, if_neg q, if_bI (F := fun z => mm_V 35 137 [some (.ref 30), some (.int (nI a)), some (.int (nI b)), some (.int (nI cl)), some (.int pm), some (.int (nI row)), some (.int x6), some (.int te)] [.int z, .ref 30] (mm_Z m w i3 l e)), mr_35_137]
      obtain ⟨i4, d1, d2, d3⟩ := gc_addRecord (m := m) (w := w) (l := l) (e := e) b4 hwr (bI (decide (x6 = 0))) (nI a) (nI b) (nI cl) pm
      rw [d1, mb_l, mb_0, e145]
      exact ⟨i4, rfl, d2, b5.tr (d3.mo (fun k j z => by unfold gpC; omega))⟩
  by_cases q : pm &&& (r.1 ^^^ (-1)) = 0
  · rw [if_pos q, na_2, pc_ruled hP3.1 hPw (by omega) hcl ha hb, mb_l, mb_v, mr_35_99]
    simp only [if_pos q]
    exact fin _ _
  · rw [if_neg q, na_3, pc_ruled hP3.1 hPw (by omega) hcl ha hb, mb_l, mb_v, mr_35_116]
    simp only [if_neg q]
    exact fin _ _
end MM81
