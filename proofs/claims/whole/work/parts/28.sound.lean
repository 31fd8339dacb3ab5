/-! THE SMALL MACHINE IS SOUND -/
section MMb
variable {p : Program} {l : Launch} {e : Env} {R : Room} {s : State} {m : MethodId} {args : Array Value} {below : List Frame} {meth : Method} {c : Code} {H : Heap} {locs : List Loc} {cells slots : Nat} {Q : State → Prop}
variable {pc : Nat} {ls : Array Slot} {r : Nat → Nat} {cA : Nat → ClassId} {D : va_G} {b : Nat} {μ μ' : mm_M} {k : Nat}
/-- what is asked of a throw: new, dup, the text, the constructor, athrow -/
def mm_TR (l : Launch) : Prop := ∀ (p : Program) (e : Env) (R : Room) (s : State) (m : MethodId) (args : Array Value) (below : List Frame) (meth : Method) (c : Code) (H : Heap) (locs : List Loc) (cells slots : Nat) (pc : Nat) (ls : Array Slot) (r : Nat → Nat) (cA : Nat → ClassId) (D : va_G) (b : Nat) (k : Nat) (en : mm_E) (E : Nat) (Qc : Array Value → State → Outcome → State → Prop) (XC : String → State → State → Prop) (mc ms : Nat),
  mm_Cx p l R s m meth c k → mm_Env D cA r (mm_A b) s s.heap → mm_at k pc = some en → mm_tr k pc en = some E → mm_hh k = [] → va_S (mm_A b) s.heap H locs → ls.size = mm_ml k → cells + 1 ≤ mc → slots + 6 ≤ ms → mc ≤ R.cells → ms ≤ R.slots →
  (∀ t : State, s.vm.Alike t.vm → H.size ≤ t.heap.size → (∀ q : Nat, q < H.size → t.heap[q]? = H[q]?) → XC (mm_XN E) s t) →
  W p l e R s m args below meth c H locs cells slots (vx_MQ below Qc XC args s mc ms (mm_A b)) (F0 m pc ls [])
/-- the tables are right -/
def mm_Tab : Prop := ∀ (k pc : Nat) (en : mm_E), mm_at k pc = some en → decode (mm_B k) pc = .ok (en.1, en.2.1) ∧ mm_EOK (mm_ow k) (mm_in k) en ∧ mm_NOK k en ∧ mm_COK k en
def mm_Hnd : Prop := (∀ (k : Nat) (x : Nat × Nat × Nat × Nat), x ∈ mm_hh k → x.2.2.2 ≠ 0 ∧ ∃ E, E < 5 ∧ mm_as mm_xls x.2.2.2 = some E ∧ Cond.classLink (mm_RN (mm_ow k)) x.2.2.2 (mm_XN E) ∈ lw_tbl) ∧ ∀ E, E < 5 → Cond.castable (mm_XN E) (mm_XN E) ∈ lw_tbl
theorem mm_ca_spec {pc E h : Nat} : ∀ {hh : List (Nat × Nat × Nat × Nat)}, mm_ca pc E hh = some h → ∃ (pre : List (Nat × Nat × Nat × Nat)) (a b x : Nat) (suf : List (Nat × Nat × Nat × Nat)), hh = pre ++ (a, b, h, x) :: suf ∧ a ≤ pc ∧ pc < b ∧ mm_as mm_xls x = some E ∧ ∀ z ∈ pre, ¬ (z.1 ≤ pc ∧ pc < z.2.1 ∧ mm_as mm_xls z.2.2.2 = some E)
  | [], hq => by cases hq
  | (a, b, h', x) :: t, hq => by
    unfold mm_ca at hq
    split at hq
    · rename_i hc
      cases hq
      exact ⟨[], a, b, x, t, rfl, hc.1, hc.2.1, hc.2.2, fun z hz => by cases hz⟩
    · rename_i hc
      obtain ⟨pre, a2, b2, x2, suf, e1, e2, e3, e4, e5⟩ := mm_ca_spec hq
      refine ⟨(a, b, h', x) :: pre, a2, b2, x2, suf, by rw [e1]; rfl, e2, e3, e4, fun z hz => ?_⟩
      rcases List.mem_cons.mp hz with rfl | hz
      · exact hc
      · exact e5 z hz
theorem mm_fit0 {nL : Nat} {L : List (Option Value)} {i : Nat} {v : Value} (h : lv_has ls nL ((i, v) :: (mm_lv r 0 L).filter (fun q => !(q.1 == i) && !(q.1 + 1 == i && q.2.category == 2)))) : lv_has ls nL (mm_lv r 0 (mm_forget L i)) := by
  refine ⟨h.1, h.2.1, fun q hq => h.2.2 q ?_⟩
  obtain ⟨j, w, rfl, hj⟩ := mm_lv_of hq
  simp only [Nat.zero_add]
  unfold mm_forget at hj
  have hji : j ≠ i := by
    intro e
    subst e
    rw [List.getElem?_set] at hj
    simp at hj
  rw [List.getElem?_set_ne (fun q => hji q.symm)] at hj
  obtain ⟨h1, h2⟩ := mm_cl_at hj
  refine List.mem_cons_of_mem _ (List.mem_filter.mpr ⟨?_, ?_⟩)
  · have := mm_lv_in (r := r) (i := 0) h1
    simpa using this
  · simp only [mm_cv_cat, Bool.and_eq_true, Bool.not_eq_true', beq_eq_false_iff_ne, ne_eq, Bool.and_eq_false_iff]
    refine ⟨hji, ?_⟩
    by_cases hc : j + 1 = i
    · exact Or.inr (fun q => h2 ⟨hc, by simpa using q⟩)
    · exact Or.inl hc
/-- an exception comes back from a call and is caught here -/
theorem mm_okX (hT : mm_Tab) (hH : mm_Hnd) (C : mm_Cx p l R s m meth c k) (E : mm_Env D cA r (mm_A b) s s.heap) {x h kk pc' : Nat} {L : List (Option Value)} {rest : List Value} {ce : Cell} {q : Addr} (hca : mm_ca pc x (mm_hh k) = some h) (hhs : mm_hs k h = some (kk, pc')) (hl : lv_has ls (mm_ml k) (mm_lv r 0 L))
    (hce : H[q]? = some ce) (hcv : ce.vm = .none) (hcl : s.vm.findClass (mm_XN x) = some ce.cls)
    (kv : ∀ ls' : Array Slot, lv_has ls' (mm_ml k) (mm_lv r 0 (mm_forget L kk)) → W p l e R s m args below meth c H locs cells slots Q (F0 m pc' ls' [])) :
    vx_W p l e R s m args below meth c H locs cells slots Q (F0 m pc ls rest) q := by
  obtain ⟨hx, hb, hml, hown, hret, hlk, hini, htab, hfr, hlo, hst⟩ := C
  have hw := E.1
  have hNc := E.2.2.2.2.2.2.2.1
  obtain ⟨pre, a, bb, y, suf, e1, e2, e3, e4, e5⟩ := mm_ca_spec hca
  obtain ⟨hy0, x2, hx2, hy1, hy2⟩ := hH.1 k (a, bb, h, y) (by rw [e1]; exact List.mem_append_right _ List.mem_cons_self)
  have hxx : x2 = x := Option.some.inj (hy1.symm.trans e4)
  subst hxx
  refine vx_catch (name := mm_XN x2) (E := mm_XN x2) (ce := ce) hown (tableOf pre) ⟨a, bb, h, y⟩ (tableOf suf) (by rw [htab, e1]; simp [tableOf]) (fun z hz => ?_) (by simp [covers]; omega) hy0 (hw _ hy2 rfl args) (hw _ (hH.2 x2 hx2) rfl args) hce hcv hcl ?_
  · obtain ⟨z0, hz0, rfl⟩ := List.mem_map.mp hz
    obtain ⟨g0, x3, g1, g2, g3⟩ := hH.1 k z0 (by rw [e1]; exact List.mem_append_left _ hz0)
    by_cases hcov : z0.1 ≤ pc ∧ pc < z0.2.1
    · have hne : x2 ≠ x3 := fun q => e5 z0 hz0 ⟨hcov.1, hcov.2, by rw [q]; exact g2⟩
      exact Or.inr ⟨g0, mm_XN x3, hw _ g3 rfl args, hNc x2 x3 hx2 g1 hne⟩
    · refine Or.inl ?_
      simp only [covers]
      by_cases h1 : z0.1 ≤ pc
      · have h2 : ¬ pc < z0.2.1 := fun q => hcov ⟨h1, q⟩
        simp [h2]
      · simp [h1]
  · show W p l e R s m args below meth c H locs cells slots Q (F0 m h ls [.ref q])
    unfold mm_hs at hhs
    split at hhs
    · rename_i k1 t hat
      split at hhs
      · rename_i hk1
        cases hhs
        have hd := (hT k h _ hat).1
        exact lv_astore hx hb hd hl hk1 rfl (fun ls' h' => kv ls' (mm_fit0 h'))
      · cases hhs
    · rename_i k1 t hat
      split at hhs
      · rename_i hk1
        cases hhs
        have hd := (hT k h _ hat).1
        exact lv_astore_n hx hb hd rfl hl hk1 rfl (fun ls' h' => kv ls' (mm_fit0 h'))
      · cases hhs
    · cases hhs
/-- the end of a method -/
theorem mm_okR {S : List Value} {w : Option Value} {i : Instr} {mc ms : Nat} {XC : String → State → State → Prop} (C : mm_Cx p l R s m meth c k) (h : mm_rt k i S = some w) (hdg : decode (mm_B k) pc = .ok (i, 1)) (hP : va_P D mm_K (mm_ws r cA μ) H) (hS : va_S (mm_A b) s.heap H locs) (hc : cells ≤ mc) (hs : slots ≤ ms) :
    W p l e R s m args below meth c H locs cells slots (vx_MQ below (mm_Qc D cA r b (.inl w) μ) XC args s mc ms (mm_A b)) (F0 m pc ls (S.map (mm_cv r))) := by
  obtain ⟨hx, hb, hml, hown, hret, hlk, hini, htab, hfr, hlo, hst⟩ := C
  have hq : ∀ v : Option Value, w = v → ∀ t : State, t.heap = H → mm_Qc D cA r b (.inl w) μ args s (.returned (v.map (mm_cv r))) t := fun v hv t ht => ⟨v, by rw [hv], rfl, by rw [ht]; exact hP, hS.F ht⟩
  refine W.widen hc hs ?_
  apply vx_ret
  unfold mm_rt at h
  split at h
  · split at h
    · split at h
      · rename_i x hx1
        cases h
        rcases hx1 with h1 | ⟨h1, h2⟩
        · exact W.iret hx hb (hret.trans h1) (fun t ht _ => hq _ rfl t ht) hS.2.2 hdg hlk
        · exact W.zret hx hb (hret.trans h1) (by rcases h2 with rfl | rfl <;> rfl) (fun t ht _ => hq _ rfl t ht) hS.2.2 hdg hlk
      · cases h
    · cases h
  · split at h
    · split at h
      · rename_i h1
        cases h
        exact W.lret hx hb (hret.trans h1) (fun t ht _ => hq _ rfl t ht) hS.2.2 hdg hlk
      · cases h
    · cases h
  · split at h
    · split at h
      · rename_i h1
        cases h
        exact W.aret hx hb (hret.trans h1) (Or.inl ⟨_, rfl⟩) (Or.inr ⟨_, rfl⟩) (fun t ht _ => hq _ rfl t ht) hS.2.2 hdg hlk
      · cases h
    · cases h
  · split at h
    · split at h
      · rename_i h1
        cases h
        exact W.vret hx hb (hret.trans h1) (fun t ht _ => hq _ rfl t ht) hS.2.2 hdg hlk
      · cases h
    · cases h
  · cases h
end MMb
