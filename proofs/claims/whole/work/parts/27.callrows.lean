section MMa
def mm_CB (k a nb : Nat) : Prop := mm_MOK a ∧ mm_fr a + 1 ≤ mm_fr k ∧ 19 + mm_ml a + mm_lo a ≤ mm_lo k ∧ Cond.initialized (mm_Y a).cls ∈ lw_tbl ∧ ((mm_Y a).cls ≠ "java/lang/invoke/MethodHandle" ∧ (mm_Y a).cls ≠ "java/lang/invoke/VarHandle") ∧ (parseMethodDescriptor (mm_Y a).desc).map (fun d => d.parameters.length) = some nb
def mm_CV (k i a nb : Nat) : Prop := mm_CB k a nb ∧ mm_hh a = [] ∧ Cond.code (mm_Y a) (mm_B a) (mm_ml a) (mm_T a) ∈ lw_tbl ∧ Cond.methodLink (mm_RN (mm_ow k)) i (mm_Y a) ∈ lw_tbl ∧ Cond.instanceMethod (mm_Y a) ∈ lw_tbl ∧ Cond.selects (mm_Y a).cls (mm_Y a) (mm_Y a) ∈ lw_tbl ∧ mm_ow a < 13
def mm_CI (k i a nb : Nat) : Prop := mm_CB k a nb ∧ mm_hh a = [] ∧ Cond.code (mm_Y a) (mm_B a) (mm_ml a) (mm_T a) ∈ lw_tbl ∧ mm_T a = none ∧ (mm_Y a).name = "<init>" ∧ Cond.instanceMethod (mm_Y a) ∈ lw_tbl ∧ (Cond.methodLink (mm_RN (mm_ow k)) i (mm_Y a) ∈ lw_tbl ∨ ∃ host, Cond.methodLinkNest (mm_RN (mm_ow k)) i (mm_Y a) host ∈ lw_tbl)
def mm_CS (k i a nb : Nat) : Prop := mm_CB k a nb ∧ Cond.static (mm_Y a) ∈ lw_tbl ∧ ((mm_hh a = [] ∧ Cond.code (mm_Y a) (mm_B a) (mm_ml a) (mm_T a) ∈ lw_tbl ∧ (Cond.methodLink (mm_RN (mm_ow k)) i (mm_Y a) ∈ lw_tbl ∨ ((∃ host, Cond.methodLinkNest (mm_RN (mm_ow k)) i (mm_Y a) host ∈ lw_tbl) ∧ mm_ow a ≠ mm_ow k))) ∨ (Cond.codeWith (mm_Y a) (mm_B a) (mm_ml a) (mm_T a) (mm_hh a) ∈ lw_tbl ∧ Cond.methodLink (mm_RN (mm_ow k)) i (mm_Y a) ∈ lw_tbl))
/-- what the tables say of an entry that calls -/
def mm_COK (k : Nat) (en : mm_E) : Prop := match en.1 with
  | .invokevirtual i => en.2.2.1 < 900 → mm_CV k i en.2.2.1 en.2.2.2.1
  | .invokespecial i => en.2.2.1 < 900 → mm_CI k i en.2.2.1 en.2.2.2.1
  | .invokestatic i => en.2.2.1 < 900 → mm_CS k i en.2.2.1 en.2.2.2.1
  | _ => True
theorem mm_pop_spec {k : Nat} {S As rest : List Value} (h : mm_pop k S = some (As, rest)) : S = As.reverse ++ rest ∧ As.length = k ∧ (rest.map (fun v => v.category)).sum ≤ 8 := by
  unfold mm_pop at h
  split at h
  · rename_i hc
    cases h
    refine ⟨?_, ?_, hc.2⟩
    · rw [List.reverse_reverse, List.take_append_drop]
    · rw [List.length_reverse, List.length_take]
      omega
  · cases h
theorem mm_noX {D : va_G} {cA : Nat → ClassId} {r : Nat → Nat} {b : Nat} {w : Option Value} {μ' : mm_M} (E : String) (st t : State) : ¬ mm_XC D cA r b (.inl w) μ' E st t := fun h => by
  obtain ⟨x, hx, -⟩ := h
  cases hx
variable {p : Program} {l : Launch} {e : Env} {R : Room} {s : State} {m : MethodId} {args : Array Value} {below : List Frame} {meth : Method} {c : Code} {H : Heap} {locs : List Loc} {cells slots : Nat} {Q : State → Prop}
variable {pc : Nat} {ls : Array Slot} {r : Nat → Nat} {cA : Nat → ClassId} {D : va_G} {b : Nat} {μ μ' : mm_M} {k n a nb i : Nat} {As rest : List Value} {out : Option Value ⊕ Nat} {mc ms : Nat}
theorem mm_lenOf {y : MethodName} {n : Nat} (h : (parseMethodDescriptor y.desc).map (fun d => d.parameters.length) = some n) : ∀ sig, parseMethodDescriptor y.desc = some sig → n = sig.parameters.length := by
  intro sig h2
  rw [h2] at h
  exact (Option.some.inj h).symm
theorem mm_cwB (C : mm_Cx p l R s m meth c k) (hw : mm_Wd s) (hB : mm_CB k a nb) (hcode : Cond.code (mm_Y a) (mm_B a) (mm_ml a) (mm_T a) ∈ lw_tbl) (hl : Cond.methodLink (mm_RN (mm_ow k)) i (mm_Y a) ∈ lw_tbl) :
    CallB R s args (mm_RN (mm_ow k)) i (mm_Y a) (mm_B a) (mm_ml a) (mm_T a) [Cond.code (mm_Y a) (mm_B a) (mm_ml a) (mm_T a)] (mm_rm a mc ms) mc ms nb := by
  obtain ⟨hx, hb, hml, hown, hret, hlk, hini, htab, hfr, hlo, hst⟩ := C
  obtain ⟨hM, h1, h2, h3, h4, h5⟩ := hB
  refine ⟨rfl, rfl, ?_, ?_, fun w hq a' U hW => ?_, List.mem_cons_self, hw _ hcode rfl args, hw _ h3 rfl args, h4, mm_lenOf h5, hw _ hl rfl args⟩
  · show mm_fr a + 1 ≤ R.frames
    omega
  · show 8 + (mm_ml a + 11) + mm_lo a ≤ R.locals
    omega
  · rw [List.mem_singleton.mp hq]
    exact (hw.warm hW) _ hcode rfl a'
theorem mm_cwN (C : mm_Cx p l R s m meth c k) (hw : mm_Wd s) (hB : mm_CB k a nb) (hcode : Cond.code (mm_Y a) (mm_B a) (mm_ml a) (mm_T a) ∈ lw_tbl) {host : String} (hl : Cond.methodLinkNest (mm_RN (mm_ow k)) i (mm_Y a) host ∈ lw_tbl) :
    va_CN R s args (mm_RN (mm_ow k)) i (mm_Y a) host (mm_B a) (mm_ml a) (mm_T a) [Cond.code (mm_Y a) (mm_B a) (mm_ml a) (mm_T a)] (mm_rm a mc ms) mc ms nb := by
  obtain ⟨hx, hb, hml, hown, hret, hlk, hini, htab, hfr, hlo, hst⟩ := C
  obtain ⟨hM, h1, h2, h3, h4, h5⟩ := hB
  refine ⟨⟨rfl, rfl, ?_, ?_, fun w hq a' U hW => ?_, List.mem_cons_self⟩, hw _ hcode rfl args, hw _ h3 rfl args, h4, mm_lenOf h5, hw _ hl rfl args⟩
  · show mm_fr a + 1 ≤ R.frames
    omega
  · show 8 + (mm_ml a + 11) + mm_lo a ≤ R.locals
    omega
  · rw [List.mem_singleton.mp hq]
    exact (hw.warm hW) _ hcode rfl a'
theorem mm_fix (C : mm_Cx p l R s m meth c k) : CallFix p m c (mm_B k) (mm_ml k) s args [] (mm_RN (mm_ow k)) := by
  obtain ⟨hx, hb, hml, hown, hret, hlk, hini, htab, hfr, hlo, hst⟩ := C
  exact ⟨hx, hb, hml, hown, fun w h => by cases h⟩
set_option maxHeartbeats 1000000 in
theorem mm_runV {o : Nat} (ih : mm_Snd l n) (C : mm_Cx p l R s m meth c k) (E : mm_Env D cA r (mm_A b) s s.heap) (O : mm_Old r (mm_A b) μ s s.heap) (hr : ∀ k, k < 1000000 → r k = b + k) (hbs : b ≤ s.heap.size) (hnx : mm_nx μ ≤ 1000) (hP : va_P D mm_K (mm_ws r cA μ) H) (hS : va_S (mm_A b) s.heap H locs) (hup : mm_ex μ = true → H.size ≤ b + mm_nx μ) (hsz : ls.size = mm_ml k)
    (hV : mm_CV k i a nb) (hrun : mm_run n a 0 (mm_L0 (mm_ml a) (.ref o :: As)) [] μ = some (out, μ')) (hlen : (mm_sl0 (.ref o :: As)).length ≤ mm_ml a) (ho : mm_wr μ o (10 + mm_ow a)) (hnb : As.length = nb) (hwt : (rest.map (fun v => v.category)).sum ≤ 8)
    (hdg : decode (mm_B k) pc = .ok (.invokevirtual i, 3)) (hmc : mm_cn μ' = mc + mm_cn μ) (hms : mm_sn μ' = ms + mm_sn μ) (hf : cells + mc ≤ R.cells ∧ slots + ms ≤ R.slots) :
    vx_Run p l e R s m args below meth c H locs cells slots mc ms (F0 m pc ls ((As.map (mm_cv r)).reverse ++ .ref (r o) :: rest.map (mm_cv r))) (rest.map (mm_cv r)) (mm_Qc D cA r b out μ' ((Value.ref o :: As).map (mm_cv r)).toArray) (mm_XC D cA r b out μ') (mm_A b) := by
  obtain ⟨hB, hh, hcode, hlk, hin, hsel, ha⟩ := hV
  have hM := mm_entry (D := D) (cA := cA) ih hrun hnx hlen hB.1 hh hr hmc hms C.2.2.2.2.2.2.2.2.2.2
  have hw := E.1
  have hrecv := va_recv E.2.1 hP (mm_K_at ha) (mm_wato ho.1 ho.2)
  refine vx_runV (b := r o) (C := (mm_Y a).cls) (As := As.map (mm_cv r)) (mm_fix C) hM ⟨mm_cwB C hw hB hcode hlk, hw _ hin rfl args, hw _ hsel rfl args⟩ ⟨mm_blind, ?_, mm_start (As := .ref o :: As) E O hbs hP hS hup⟩ rfl (by rw [List.length_map]; exact hnb) hsz rfl (lv_room (by rw [mm_wt]; exact hwt)) hdg hf
  rw [hB.1.2.1]
  exact hrecv
set_option maxHeartbeats 1000000 in
theorem mm_runI {o : Nat} {w : Option Value} (ih : mm_Snd l n) (C : mm_Cx p l R s m meth c k) (E : mm_Env D cA r (mm_A b) s s.heap) (O : mm_Old r (mm_A b) μ s s.heap) (hr : ∀ k, k < 1000000 → r k = b + k) (hbs : b ≤ s.heap.size) (hnx : mm_nx μ ≤ 1000) (hP : va_P D mm_K (mm_ws r cA μ) H) (hS : va_S (mm_A b) s.heap H locs) (hup : mm_ex μ = true → H.size ≤ b + mm_nx μ) (hsz : ls.size = mm_ml k)
    (hV : mm_CI k i a nb) (hrun : mm_run n a 0 (mm_L0 (mm_ml a) (.ref o :: As)) [] μ = some (.inl w, μ')) (hlen : (mm_sl0 (.ref o :: As)).length ≤ mm_ml a) (hnb : As.length = nb) (hwt : (rest.map (fun v => v.category)).sum ≤ 8)
    (hdg : decode (mm_B k) pc = .ok (.invokespecial i, 3)) (hmc : mm_cn μ' = mc + mm_cn μ) (hms : mm_sn μ' = ms + mm_sn μ) (hf : cells + mc ≤ R.cells ∧ slots + ms ≤ R.slots) :
    vx_Run p l e R s m args below meth c H locs cells slots mc ms (F0 m pc ls ((As.map (mm_cv r)).reverse ++ .ref (r o) :: rest.map (mm_cv r))) (rest.map (mm_cv r)) (mm_Qc D cA r b (.inl w) μ' ((Value.ref o :: As).map (mm_cv r)).toArray) (mm_XC D cA r b (.inl w) μ') (mm_A b) := by
  obtain ⟨hB, hh, hcode, hT, hnm, hin, hlk⟩ := hV
  have hM := mm_met (mm_entry (D := D) (cA := cA) ih hrun hnx hlen hB.1 hh hr hmc hms C.2.2.2.2.2.2.2.2.2.2) mm_noX
  rw [hT] at hM hcode
  have hw := E.1
  apply mm_vxrun
  rcases hlk with hlk | ⟨host, hlk⟩
  · have cw := mm_cwB (args := args) (mc := mc) (ms := ms) C hw hB (by rw [hT]; exact hcode) hlk
    rw [hT] at cw
    exact va_runI (b := r o) (As := As.map (mm_cv r)) (mm_fix C) hM ⟨cw, hnm, hw _ hin rfl args⟩ ⟨mm_blind, mm_start (As := .ref o :: As) E O hbs hP hS hup⟩ rfl (by rw [List.length_map]; exact hnb) hsz rfl (lv_room (by rw [mm_wt]; exact hwt)) hdg hf
  · have cw := mm_cwN (args := args) (mc := mc) (ms := ms) C hw hB (by rw [hT]; exact hcode) hlk
    rw [hT] at cw
    exact va_runIN (b := r o) (As := As.map (mm_cv r)) (mm_fix C) hM ⟨cw, hnm, hw _ hin rfl args⟩ ⟨mm_blind, mm_start (As := .ref o :: As) E O hbs hP hS hup⟩ rfl (by rw [List.length_map]; exact hnb) hsz rfl (lv_room (by rw [mm_wt]; exact hwt)) hdg hf
set_option maxHeartbeats 1000000 in
theorem mm_runS (ih : mm_Snd l n) (C : mm_Cx p l R s m meth c k) (E : mm_Env D cA r (mm_A b) s s.heap) (O : mm_Old r (mm_A b) μ s s.heap) (hr : ∀ k, k < 1000000 → r k = b + k) (hbs : b ≤ s.heap.size) (hnx : mm_nx μ ≤ 1000) (hP : va_P D mm_K (mm_ws r cA μ) H) (hS : va_S (mm_A b) s.heap H locs) (hup : mm_ex μ = true → H.size ≤ b + mm_nx μ) (hsz : ls.size = mm_ml k)
    (hV : mm_CS k i a nb) (hrun : mm_run n a 0 (mm_L0 (mm_ml a) As) [] μ = some (out, μ')) (hno : mm_ow a ≠ mm_ow k → ∃ w, out = .inl w) (hlen : (mm_sl0 As).length ≤ mm_ml a) (hnb : As.length = nb) (hwt : (rest.map (fun v => v.category)).sum ≤ 8)
    (hdg : decode (mm_B k) pc = .ok (.invokestatic i, 3)) (hmc : mm_cn μ' = mc + mm_cn μ) (hms : mm_sn μ' = ms + mm_sn μ) (hf : cells + mc ≤ R.cells ∧ slots + ms ≤ R.slots) :
    vx_Run p l e R s m args below meth c H locs cells slots mc ms (F0 m pc ls ((As.map (mm_cv r)).reverse ++ rest.map (mm_cv r))) (rest.map (mm_cv r)) (mm_Qc D cA r b out μ' (As.map (mm_cv r)).toArray) (mm_XC D cA r b out μ') (mm_A b) := by
  obtain ⟨hB, hst, hk2⟩ := hV
  have hw := E.1
  rcases hk2 with ⟨hh, hcode, hlk⟩ | ⟨hcode, hlk⟩
  · have hM := mm_entry (D := D) (cA := cA) ih hrun hnx hlen hB.1 hh hr hmc hms C.2.2.2.2.2.2.2.2.2.2
    rcases hlk with hlk | ⟨⟨host, hlk⟩, hne⟩
    · exact vx_runS (As := As.map (mm_cv r)) (mm_fix C) hM ⟨mm_cwB C hw hB hcode hlk, hw _ hst rfl args⟩ ⟨mm_blind, mm_start (As := As) E O hbs hP hS hup⟩ rfl (by rw [List.length_map]; exact hnb) hsz rfl (lv_room (by rw [mm_wt]; exact hwt)) hdg hf
    · obtain ⟨w, rfl⟩ := hno hne
      apply mm_vxrun
      exact va_runSN (As := As.map (mm_cv r)) (mm_fix C) (mm_met hM mm_noX) ⟨mm_cwN C hw hB hcode hlk, hw _ hst rfl args, trivial⟩ ⟨mm_blind, mm_start (As := As) E O hbs hP hS hup⟩ rfl (by rw [List.length_map]; exact hnb) hsz rfl (lv_room (by rw [mm_wt]; exact hwt)) hdg hf
  · have hM := mm_entryH (D := D) (cA := cA) ih hrun hnx hlen hB.1 hr hmc hms C.2.2.2.2.2.2.2.2.2.2
    obtain ⟨hx, hb, hml, hown, hret, hlk2, hini, htab, hfr, hlo, hst2⟩ := id C
    obtain ⟨hMO, h1, h2, h3, h4, h5⟩ := hB
    have cw : vx_CSW R s args (mm_RN (mm_ow k)) i (mm_Y a) (mm_B a) (mm_ml a) (mm_T a) (mm_hh a) [Cond.codeWith (mm_Y a) (mm_B a) (mm_ml a) (mm_T a) (mm_hh a)] (mm_rm a mc ms) mc ms nb := by
      refine ⟨⟨rfl, rfl, ?_, ?_, fun w hq a' U hW => ?_, List.mem_cons_self⟩, hw _ hcode rfl args, hw _ h3 rfl args, h4, mm_lenOf h5, hw _ hlk rfl args, hw _ hst rfl args⟩
      · show mm_fr a + 1 ≤ R.frames
        omega
      · show 8 + (mm_ml a + 11) + mm_lo a ≤ R.locals
        omega
      · rw [List.mem_singleton.mp hq]
        exact (hw.warm hW) _ hcode rfl a'
    exact vx_runSX (As := As.map (mm_cv r)) (mm_fix C) hM cw ⟨mm_blind, mm_start (As := As) E O hbs hP hS hup⟩ rfl (by rw [List.length_map]; exact hnb) hsz rfl (lv_room (by rw [mm_wt]; exact hwt)) hdg hf
end MMa
