/-! CALLS: the contract of a method of the tables, and what a call of it gives -/
section MM9
def mm_Qc (D : va_G) (cA : Nat → ClassId) (r : Nat → Nat) (b : Nat) (out : Option Value ⊕ Nat) (μ' : mm_M) : Array Value → State → Outcome → State → Prop := fun _ st o t => ∃ v, out = .inl v ∧ o = .returned (v.map (mm_cv r)) ∧ va_P D mm_K (mm_ws r cA μ') t.heap ∧ va_F (mm_A b) st t
def mm_XC (D : va_G) (cA : Nat → ClassId) (r : Nat → Nat) (b : Nat) (out : Option Value ⊕ Nat) (μ' : mm_M) : String → State → State → Prop := fun E st t => ∃ x, out = .inr x ∧ E = mm_XN x ∧ va_P D mm_K (mm_ws r cA μ') t.heap ∧ va_F (mm_A b) st t
def mm_Pc (D : va_G) (cA : Nat → ClassId) (r : Nat → Nat) (b : Nat) (μ : mm_M) (As : List Value) : Array Value → State → Prop := fun v U => v = (As.map (mm_cv r)).toArray ∧ mm_Env D cA r (mm_A b) U U.heap ∧ mm_Old r (mm_A b) μ U U.heap ∧ va_P D mm_K (mm_ws r cA μ) U.heap ∧ b ≤ U.heap.size ∧ (mm_ex μ = true → U.heap.size ≤ b + mm_nx μ)
theorem mm_blind {D : va_G} {cA : Nat → ClassId} {r : Nat → Nat} {b : Nat} {μ : mm_M} {As : List Value} : FrameBlind (mm_Pc D cA r b μ As) := by
  intro a U g mk h
  obtain ⟨h1, h2, h3, h4, h5, h6⟩ := h
  have hW : U.WarmedH (U.calling g mk a).vm := State.WarmedH.refl U
  exact ⟨h1, h2.next hW (fun _ _ _ => rfl), h3.next (mm_Inv.rf μ) hW (fun _ _ _ => rfl), h4, h5, h6⟩
theorem mm_met {l : Launch} {y : MethodName} {ws : List Cond} {rm : Room} {Pc : Array Value → State → Prop} {Qc : Array Value → State → Outcome → State → Prop} {XC : String → State → State → Prop} {mc ms : Nat} {free : Addr → Prop} (h : vx_Met l y ws rm Pc Qc XC mc ms free) (hno : ∀ (E : String) (st t : State), ¬ XC E st t) : Met l y ws rm Pc Qc mc ms free := by
  intro p e h1 h2 h3 s m args below h4 h5 h6 h7
  obtain ⟨n, o, q1, q2, q3, q4⟩ := h p e h1 h2 h3 s m args below h4 h5 h6 h7
  refine ⟨n, o, q1, q2, q3, ?_⟩
  rcases q4 with q4 | ⟨q, -, E, ce, L, hX, -⟩
  · exact q4
  · exact absurd hX (hno _ _ _)
/-- the locals at the entry -/
theorem mm_sl_len {r : Nat → Nat} : ∀ As : List Value, (lg_sl (As.map (mm_cv r))).length = (mm_sl0 As).length
  | [] => rfl
  | v :: t => by
    have ih := mm_sl_len (r := r) t
    unfold lg_sl at ih ⊢
    simp only [List.map_cons, List.flatMap_cons, List.length_append, mm_cv_cat, mm_sl0]
    split <;> simp only [List.length_cons, List.length_nil] <;> omega
theorem mm_lv_none {r : Nat → Nat} : ∀ (k i : Nat), mm_lv r i (List.replicate k none) = []
  | 0, _ => rfl
  | k + 1, i => by
    rw [List.replicate_succ]
    exact mm_lv_none k (i + 1)
theorem mm_lv_args {r : Nat → Nat} {k : Nat} : ∀ (As : List Value) (i : Nat), ∀ q ∈ mm_lv r i (mm_sl0 As ++ List.replicate k none), q ∈ lv_args i (As.map (mm_cv r))
  | [], i, q, hq => by
    have hq : q ∈ mm_lv r i (List.replicate k none) := hq
    rw [mm_lv_none] at hq
    cases hq
  | v :: t, i, q, hq => by
    by_cases hc : v.category = 2
    · have e : mm_sl0 (v :: t) ++ List.replicate k none = some v :: none :: (mm_sl0 t ++ List.replicate k none) := by simp [mm_sl0, hc]
      rw [e] at hq
      have e2 : lv_args i ((v :: t).map (mm_cv r)) = (i, mm_cv r v) :: lv_args (i + 2) (t.map (mm_cv r)) := by simp [lv_args, mm_cv_cat, hc]
      rw [e2]
      rcases List.mem_cons.mp hq with h | h
      · rw [h]; exact List.mem_cons_self
      · exact List.mem_cons_of_mem _ (mm_lv_args t (i + 2) q h)
    · have e : mm_sl0 (v :: t) ++ List.replicate k none = some v :: (mm_sl0 t ++ List.replicate k none) := by simp [mm_sl0, hc]
      rw [e] at hq
      have e2 : lv_args i ((v :: t).map (mm_cv r)) = (i, mm_cv r v) :: lv_args (i + 1) (t.map (mm_cv r)) := by simp [lv_args, mm_cv_cat, hc]
      rw [e2]
      rcases List.mem_cons.mp hq with h | h
      · rw [h]; exact List.mem_cons_self
      · exact List.mem_cons_of_mem _ (mm_lv_args t (i + 1) q h)
/-- the body of a method whose class may have methods of the machine's own (Math), if this one is none of them -/
theorem mm_ofWF {l : Launch} {y : MethodName} {ws ws' : List Cond} {rm : Room} {Pc : Array Value → State → Prop} {Qc : Array Value → State → Outcome → State → Prop} {XC : String → State → State → Prop} {mc ms : Nat} {free : Addr → Prop} {cc : ByteArray} {maxL : Nat} {ret : Option FieldType}
    (hy : plainFor y = true) (hw : ws = Cond.code y cc maxL ret :: ws')
    (body : ∀ p e s m args below meth c s₁, BodyLoose p l y (headSpec ws rm) cc maxL ret e s m args below meth c s₁ → c.maxLocals = maxL → (∀ x ∈ c.exceptionTable.toList, False) → Pc args s →
      W p l e (headSpec ws rm).room s m args below meth c s.heap [] 0 0 (vx_MQ below Qc XC args s mc ms free) (entryFrame m args maxL)) : vx_Met l y ws rm Pc Qc XC mc ms free := by
  refine MetFree.of_bodySF (code := cc) (maxLocals := maxL) (ret := ret) hy ?_ ?_
  · intro args s m h hn
    obtain ⟨meth, c, h1, h2, h3, h4, h5, h6, -, -⟩ := Cond.code_spec hn (atoms_spec (ws := ws) h _ (by rw [hw]; exact List.mem_cons_self))
    exact ⟨meth, c, h1, h2, h3, h4, h5, h6⟩
  · intro p e s m args below meth c s₁ B hml hP _
    have hh0 : s₁.heap = s.heap := by rw [B.state]; rfl
    have ht : ∀ x ∈ c.exceptionTable.toList, False := by
      obtain ⟨meth9, c9, h1, h2, -, -, -, -, h7, -⟩ := Cond.code_spec B.named (atoms_spec (ws := ws) B.pre _ (by rw [hw]; exact List.mem_cons_self))
      cases Option.some.inj (h1.symm.trans B.method)
      cases Option.some.inj (h2.symm.trans (Stand.of_body B).code)
      intro x hx
      rw [Array.isEmpty_iff.mp h7] at hx
      cases hx
    obtain ⟨t, a1, o, b1, b2, b3⟩ := body p e s m args below meth c s₁ B hml ht hP s₁ hh0 (Stand.of_body B)
    exact ⟨t, o, a1, b1, b2, b3⟩
theorem mm_ofWHF {l : Launch} {y : MethodName} {ws ws' : List Cond} {rm : Room} {Pc : Array Value → State → Prop} {Qc : Array Value → State → Outcome → State → Prop} {XC : String → State → State → Prop} {mc ms : Nat} {free : Addr → Prop} {cc : ByteArray} {maxL : Nat} {ret : Option FieldType} {hh : List (Nat × Nat × Nat × Nat)}
    (hy : plainFor y = true) (hw : ws = Cond.codeWith y cc maxL ret hh :: ws')
    (body : ∀ p e s m args below meth c s₁, BodyLoose p l y (headSpec ws rm) cc maxL ret e s m args below meth c s₁ → c.maxLocals = maxL → Pc args s →
      W p l e (headSpec ws rm).room s m args below meth c s.heap [] 0 0 (vx_MQ below Qc XC args s mc ms free) (entryFrame m args maxL)) : vx_Met l y ws rm Pc Qc XC mc ms free := by
  refine MetFree.of_bodySF (code := cc) (maxLocals := maxL) (ret := ret) hy ?_ ?_
  · intro args s m h hn
    obtain ⟨m9, meth, c, hn9, h1, h2, h3, h4, -, h5, h6, -⟩ := Cond.codeWith_spec (atoms_spec (ws := ws) h _ (by rw [hw]; exact List.mem_cons_self))
    cases hn.symm.trans hn9
    exact ⟨meth, c, h1, h2, h3, h4, h5, h6⟩
  · intro p e s m args below meth c s₁ B hml hP _
    have hh0 : s₁.heap = s.heap := by rw [B.state]; rfl
    obtain ⟨t, a1, o, b1, b2, b3⟩ := body p e s m args below meth c s₁ B hml hP s₁ hh0 (Stand.of_body B)
    exact ⟨t, o, a1, b1, b2, b3⟩
/-- what the tables say of a method as such -/
def mm_MOK (a : Nat) : Prop := plainFor (mm_Y a) = true ∧ (mm_Y a).cls = mm_RN (mm_ow a) ∧ (mm_in a = true → (mm_Y a).name = "<init>")
/-- THE CLAIM of this machine: what the evaluator says of n steps, the machine does -/
def mm_Snd (l : Launch) (n : Nat) : Prop := ∀ (k pc : Nat) (L : List (Option Value)) (S : List Value) (μ : mm_M) (out : Option Value ⊕ Nat) (μ' : mm_M), mm_run n k pc L S μ = some (out, μ') → mm_nx μ ≤ 1000 →
  ∀ (p : Program) (e : Env) (R : Room) (s : State) (m : MethodId) (args : Array Value) (below : List Frame) (meth : Method) (c : Code) (H : Heap) (locs : List Loc) (cells slots : Nat) (ls : Array Slot) (D : va_G) (cA : Nat → ClassId) (r : Nat → Nat) (b mc ms : Nat),
  mm_Cx p l R s m meth c k → mm_Env D cA r (mm_A b) s s.heap → mm_Old r (mm_A b) μ s s.heap → (∀ k, k < 1000000 → r k = b + k) → b ≤ s.heap.size → va_P D mm_K (mm_ws r cA μ) H → va_S (mm_A b) s.heap H locs → (mm_ex μ = true → s.heap.size + cells ≤ b + mm_nx μ) → lv_has ls (mm_ml k) (mm_lv r 0 L) →
  cells + mm_cn μ' = mc + mm_cn μ → slots + mm_sn μ' = ms + mm_sn μ → mc ≤ R.cells → ms ≤ R.slots →
  W p l e R s m args below meth c H locs cells slots (vx_MQ below (mm_Qc D cA r b out μ') (mm_XC D cA r b out μ') args s mc ms (mm_A b)) (F0 m pc ls (S.map (mm_cv r)))
abbrev mm_rm (a mc ms : Nat) : Room := { frames := mm_fr a, cells := mc, slots := ms, locals := mm_lo a }
set_option maxHeartbeats 1000000 in
theorem mm_entry {l : Launch} {n a : Nat} {As : List Value} {μ μ' : mm_M} {out : Option Value ⊕ Nat} {D : va_G} {cA : Nat → ClassId} {r : Nat → Nat} {b mc ms : Nat} (ih : mm_Snd l n) (hrun : mm_run n a 0 (mm_L0 (mm_ml a) As) [] μ = some (out, μ')) (hnx : mm_nx μ ≤ 1000) (hlen : (mm_sl0 As).length ≤ mm_ml a) (hM : mm_MOK a) (hh : mm_hh a = [])
    (hr : ∀ k, k < 1000000 → r k = b + k) (hmc : mm_cn μ' = mc + mm_cn μ) (hms : mm_sn μ' = ms + mm_sn μ) (hst : l.stackTraces = false) :
    vx_Met l (mm_Y a) [Cond.code (mm_Y a) (mm_B a) (mm_ml a) (mm_T a)] (mm_rm a mc ms) (mm_Pc D cA r b μ As) (mm_Qc D cA r b out μ') (mm_XC D cA r b out μ') mc ms (mm_A b) := by
  refine mm_ofWF (cc := mm_B a) (maxL := mm_ml a) (ret := mm_T a) hM.1 rfl ?_
  intro p e s m args below meth c s₁ B hml hexc hv
  obtain ⟨rfl, hE, hO, hP, hbs, hup⟩ := hv
  have hl := lv_entry (As.map (mm_cv r)) (n := mm_ml a) (by rw [mm_sl_len]; exact hlen)
  rw [lg_entry_eq]
  have hown : s.vm.findClass (mm_RN (mm_ow a)) = some m.cls := by rw [← hM.2.1]; exact findClass_of_methodNamed B.named
  have hin : mm_in a = true → meth.name = "<init>" := fun h => by rw [(name_of_methodNamed B.named B.method).1]; exact hM.2.2 h
  have htab : c.exceptionTable.toList = tableOf (mm_hh a) := by
    rw [hh]
    cases hq : c.exceptionTable.toList with
    | nil => rfl
    | cons x t => exact (hexc x (by rw [hq]; exact List.mem_cons_self)).elim
  refine ih a 0 _ [] μ out μ' hrun hnx p e _ s m _ below meth c s.heap [] 0 0 _ D cA r b mc ms ⟨B.exec, B.bytes, hml, hown, B.returns, B.notSynchronized, hin, htab, Nat.le_refl _, Nat.le_refl _, hst⟩ hE hO hr hbs hP va_S.rf (fun h => by have := hup h; omega) ⟨hl.1, hl.2.1, fun q hq => hl.2.2 q (mm_lv_args As 0 q hq)⟩ (by omega) (by omega) (Nat.le_refl _) (Nat.le_refl _)
set_option maxHeartbeats 1000000 in
/-- the same for a method with an exception table -/
theorem mm_entryH {l : Launch} {n a : Nat} {As : List Value} {μ μ' : mm_M} {out : Option Value ⊕ Nat} {D : va_G} {cA : Nat → ClassId} {r : Nat → Nat} {b mc ms : Nat} (ih : mm_Snd l n) (hrun : mm_run n a 0 (mm_L0 (mm_ml a) As) [] μ = some (out, μ')) (hnx : mm_nx μ ≤ 1000) (hlen : (mm_sl0 As).length ≤ mm_ml a) (hM : mm_MOK a)
    (hr : ∀ k, k < 1000000 → r k = b + k) (hmc : mm_cn μ' = mc + mm_cn μ) (hms : mm_sn μ' = ms + mm_sn μ) (hst : l.stackTraces = false) :
    vx_Met l (mm_Y a) [Cond.codeWith (mm_Y a) (mm_B a) (mm_ml a) (mm_T a) (mm_hh a)] (mm_rm a mc ms) (mm_Pc D cA r b μ As) (mm_Qc D cA r b out μ') (mm_XC D cA r b out μ') mc ms (mm_A b) := by
  refine mm_ofWHF (cc := mm_B a) (maxL := mm_ml a) (ret := mm_T a) (hh := mm_hh a) hM.1 rfl ?_
  intro p e s m args below meth c s₁ B hml hv
  obtain ⟨rfl, hE, hO, hP, hbs, hup⟩ := hv
  have hl := lv_entry (As.map (mm_cv r)) (n := mm_ml a) (by rw [mm_sl_len]; exact hlen)
  rw [lg_entry_eq]
  have hown : s.vm.findClass (mm_RN (mm_ow a)) = some m.cls := by rw [← hM.2.1]; exact findClass_of_methodNamed B.named
  have hin : mm_in a = true → meth.name = "<init>" := fun h => by rw [(name_of_methodNamed B.named B.method).1]; exact hM.2.2 h
  have htab : c.exceptionTable.toList = tableOf (mm_hh a) := vx_table (x := mm_Y a) B (atoms_spec (ws := [Cond.codeWith (mm_Y a) (mm_B a) (mm_ml a) (mm_T a) (mm_hh a)]) B.pre _ List.mem_cons_self)
  refine ih a 0 _ [] μ out μ' hrun hnx p e _ s m _ below meth c s.heap [] 0 0 _ D cA r b mc ms ⟨B.exec, B.bytes, hml, hown, B.returns, B.notSynchronized, hin, htab, Nat.le_refl _, Nat.le_refl _, hst⟩ hE hO hr hbs hP va_S.rf (fun h => by have := hup h; omega) ⟨hl.1, hl.2.1, fun q hq => hl.2.2 q (mm_lv_args As 0 q hq)⟩ (by omega) (by omega) (Nat.le_refl _) (Nat.le_refl _)
variable {p : Program} {l : Launch} {e : Env} {R : Room} {s : State} {m : MethodId} {args : Array Value} {below : List Frame} {meth : Method} {c : Code} {H : Heap} {locs : List Loc} {cells slots : Nat} {Q : State → Prop}
variable {pc : Nat} {ls : Array Slot} {r : Nat → Nat} {cA : Nat → ClassId} {D : va_G} {b : Nat} {μ μ' : mm_M} {k : Nat}
theorem mm_after {out : Option Value ⊕ Nat} {rest st0 : List Value} {a : Array Value} {mc ms : Nat} (hrun : vx_Run p l e R s m args below meth c H locs cells slots mc ms (F0 m pc ls st0) rest (mm_Qc D cA r b out μ' a) (mm_XC D cA r b out μ') (mm_A b)) (hS : va_S (mm_A b) s.heap H locs)
    (kv : ∀ (v : Option Value) (H1 : Heap) (locs1 : List Loc), out = .inl v → va_P D mm_K (mm_ws r cA μ') H1 → va_S (mm_A b) s.heap H1 locs1 → W p l e R s m args below meth c H1 locs1 (cells + mc) (slots + ms) Q (F0 m (pc + 3) ls ((v.map (mm_cv r)).toList ++ rest)))
    (kx : ∀ (x : Nat) (ce : Cell) (q : Addr) (H1 : Heap) (locs1 : List Loc), out = .inr x → va_P D mm_K (mm_ws r cA μ') H1 → va_S (mm_A b) s.heap H1 locs1 → H1[q]? = some ce → ce.vm = .none → s.vm.findClass (mm_XN x) = some ce.cls → vx_W p l e R s m args below meth c H1 locs1 (cells + mc) (slots + ms) Q (F0 m pc ls rest) q) :
    W p l e R s m args below meth c H locs cells slots Q (F0 m pc ls st0) := by
  intro T hT X
  rcases hrun T hT X with ⟨v, st₀, t, T', L, h0, X', hL, e1, e2, ⟨w, hw1, hw2, hP1, hF⟩, st⟩ | ⟨q, st₀, t, T', L, E, ce, h0, X', hL, e1, e2, ⟨x, hx1, hx2, hP1, hF⟩, hce, hcv, hcl, st⟩
  · cases hw2
    obtain ⟨k1, k2, k3⟩ := vx_keep h0 e1 hS (fun q _ h => h) (fun q h => h) hL hF
    obtain ⟨t2, a1, b1⟩ := kv w T'.heap (locs ++ L) hw1 (by rw [e1]; exact hP1) k3 T' rfl X'
    exact ⟨t2, st t2 a1, b1⟩
  · subst hx2
    obtain ⟨k1, k2, k3⟩ := vx_keep h0 e1 hS (fun q _ h => h) (fun q h => h) hL hF
    obtain ⟨t2, a1, b1⟩ := kx x ce q T'.heap (locs ++ L) hx1 (by rw [e1]; exact hP1) k3 (by rw [e1]; exact hce) hcv hcl T' rfl X'
    exact ⟨t2, st.trans a1, b1⟩
theorem mm_vxrun {mc ms : Nat} {g : JFrame} {rest : List Value} {Qa : State → Outcome → State → Prop} {XC : String → State → State → Prop} {free : Addr → Prop} (h : va_Run p l e R s m args below meth c H locs cells slots mc ms g rest Qa free) : vx_Run p l e R s m args below meth c H locs cells slots mc ms g rest Qa XC free := fun T hT X => Or.inl (h T hT X)
/-- the callee's start, at the call -/
theorem mm_start {As : List Value} (E : mm_Env D cA r (mm_A b) s s.heap) (O : mm_Old r (mm_A b) μ s s.heap) (hbs : b ≤ s.heap.size) (hP : va_P D mm_K (mm_ws r cA μ) H) (hS : va_S (mm_A b) s.heap H locs) (hup : mm_ex μ = true → H.size ≤ b + mm_nx μ) : ∀ U : State, U.heap = H → s.WarmedH U.vm → mm_Pc D cA r b μ As (As.map (mm_cv r)).toArray U := by
  intro U hU hW
  subst hU
  exact ⟨rfl, E.next hW hS.2.1, O.next (mm_Inv.rf μ) hW hS.2.1, hP, Nat.le_trans hbs hS.1, hup⟩
end MM9
