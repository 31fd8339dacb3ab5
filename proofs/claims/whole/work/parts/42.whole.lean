/-! THE LAW, FROM ITS ENTRY -/
def R_law : String := "GuardHouseLaw"
def lw_P (b : Addr) (xs : List Int32) (args : Array Value) (s : State) : Prop := args = #[.ref b] ∧ s.IntsAt b xs ∧ xs.length ≤ 2560 ∧ (Jvm.Cond.and given_1 narrow_1).before args s = true
def lw_Q (_ : Array Value) (s : State) (o : Outcome) (t : State) : Prop := o = .returned (some (.int 1)) ∧ Framed s o t [] 601024 7293033
def lw_Z (below : List Frame) (a : Array Value) (s : State) : State → Prop := fun t => ∃ o, t.status = .running ∧ Ended t below o ∧ lw_Q a s o t
/-- the law's own end, with 1 on the stack, nothing written that was there before, its room as the claim has it -/
theorem lw_ret {p : Program} {l : Launch} {e : Env} {s : State} {m : MethodId} {below : List Frame} {meth : Method} {c : Code} {b : Nat} (hx : p.tables.exec = Jvm.exec) (hb : c.code = code) (hr : meth.sig.returnType = ret) (hlocks : meth.locks = false) {pc : Nat} {H : Heap} {ls : Array Slot} (hdg : decode code pc = .ok (.ireturn, 1)) : W p l e room_1 s m #[Value.ref b] below meth c H [] 601024 7293033 (lw_Z below #[Value.ref b] s) (F0 m pc ls [.int 1]) := by
  intro T hT X
  obtain ⟨fs, hret, hrun, hended, hW, hframe⟩ := X.leave (v := some (.int 1)) (hlocks := hlocks) (fun h => by rw [hr] at h; cases h)
  have hmeth' : T.vm.method? m = some meth := X.method'
  refine ⟨T.setFrames fs, ?_, .returned (some (.int 1)), hrun, hended, rfl, ⟨_, rfl⟩, hW, hframe⟩
  jvm_step X.here [X.here.top, hx, hb, hdg, hmeth', hr, ret, narrow_b1]
  (try refine ⟨rfl, ?_⟩); (try refine ⟨rfl, ?_⟩)
  first | (intro acts; rw [hret _ acts rfl rfl rfl]) | rw [hret _ _ rfl rfl rfl]
  exact Steps.refl _
/-- what holds at the law's entry: the machine, the code, the tables' words (any of lw_tbl by 'hts w (by decide +kernel)'), the script of L ints xs at the cell b, what the Statement gives of the start (any of its parts by flat_of_before) -/
def lw_At (p : Program) (s : State) (m : MethodId) (meth : Method) (c : Code) (b L : Nat) (xs : Nat → Int32) : Prop :=
  p.tables.exec = Jvm.exec ∧ c.code = code ∧ meth.sig.returnType = ret ∧ c.maxLocals = 7 ∧ s.vm.findClass R_law = some m.cls ∧ (∀ w ∈ lw_tbl, w.before #[Value.ref b] s = true) ∧ va_X b L xs s s.heap ∧ b < s.heap.size ∧ meth.locks = false ∧ (Jvm.Cond.and given_1 narrow_1).before #[Value.ref b] s = true
/-- what was written lies in what is new -/
theorem en_drop {s t : State} {L : List Loc} {c n : Nat} (h : s.sameButNew t L c n) (hL : ∀ q ∈ L, s.heap.size ≤ q.base) : s.sameButNew t [] c n := by
  obtain ⟨h1, h2, h3, h4, h5, h6⟩ := h
  refine ⟨h1, h2, h3, h4, h5, fun a x hx => ?_⟩
  obtain ⟨x', g1, g2, g3, g4⟩ := h6 a x hx
  have ha : a < s.heap.size := (Array.getElem?_eq_some_iff.mp hx).1
  exact ⟨x', g1, g2, g3, fun i _ => g4 i (fun hm => Nat.not_le.mpr ha (hL _ hm))⟩
theorem en_B : mm_B 360 = code := rfl
theorem en_T : mm_T 360 = ret := by decide +kernel
theorem en_ml7 : mm_ml 360 = 7 := by decide +kernel
theorem en_ow : mm_RN (mm_ow 360) = R_law := by decide +kernel
theorem en_in : mm_in 360 = false := by decide +kernel
theorem en_hh : mm_hh 360 = [] := by decide +kernel
theorem en_fr : mm_fr 360 ≤ room_1.frames := by decide +kernel
theorem en_lo : mm_lo 360 ≤ room_1.locals := by decide +kernel
set_option maxHeartbeats 1000000 in
theorem whole_start {p : Program} {e : Env} {s : State} {m : MethodId} {below : List Frame} {meth : Method} {c : Code} (l : Launch) (hst : l.stackTraces = false) {b L : Nat} {xs : Nat → Int32} (hL : L ≤ 2560) (hext : c.exceptionTable.isEmpty = true) (C0 : lw_At p s m meth c b L xs) : W p l e room_1 s m #[Value.ref b] below meth c s.heap [] 0 0 (lw_Z below #[Value.ref b] s) (entryFrame m ([Value.ref b] : List Value).toArray 7) := by
  obtain ⟨hx, hb, hr, hml, hown, hts, hX, hbl, hlocks, hgv⟩ := C0
  obtain ⟨D, cA, r, hr1, hr2, hE, hO⟩ := en_env hL hts (flat_of_before _ hgv) hX hbl
  obtain ⟨w', i', l', e', hV, hc1, hc2⟩ := law_run (i := en_i xs) hL en_ST en_ES
  obtain ⟨n, hrun⟩ := mm_V_ex hV
  have hl := lv_entry ([.ref b]) (n := 7) (Nat.le_of_ble_eq_true rfl)
  rw [lg_entry_eq]
  generalize (lg_sl ([.ref b]) ++ List.replicate (7 - (lg_sl ([.ref b])).length) Slot.unset).toArray = ls at hl ⊢
  have hl : lv_has ls (mm_ml 360) (mm_lv r 0 [some (.ref 1000000), none, none, none, none, none, none]) := by
    rw [en_ml7]
    have e9 : mm_lv r 0 [some (.ref 1000000), none, none, none, none, none, none] = [(0, .ref b)] := by
      show [(0, Value.ref (r 1000000))] = _
      rw [hr2]
    rw [e9]
    exact hl
  have hCx : mm_Cx p l room_1 s m meth c 360 := ⟨hx, hb.trans en_B.symm, hml.trans en_ml7.symm, by rw [en_ow]; exact hown, hr.trans en_T.symm, hlocks, (fun h => by rw [en_in] at h; cases h), (by
    rw [en_hh]
    have h9 : c.exceptionTable = #[] := Array.isEmpty_iff.mp hext
    rw [h9]
    rfl), en_fr, en_lo, hst⟩
  have K := mm_sound l mm_tab mm_one mm_hnd (mm_sr_ok l) (mm_tr_ok l) n 360 0 _ _ _ _ _ hrun (by show 0 ≤ 1000; omega) p e room_1 s m #[Value.ref b] below meth c s.heap [] 0 0 ls D cA r s.heap.size (mm_cn (mm_Z L w' i' l' e')) (mm_sn (mm_Z L w' i' l' e')) hCx hE hO hr1 (Nat.le_refl _) (fun k q h => by cases h) va_S.rf (fun _ => Nat.le_refl _) hl (Nat.add_comm _ _) (Nat.add_comm _ _) (by
      have h1 : mm_cn (mm_Z L w' i' l' e') = e'.2.1 := rfl
      rw [h1]
      show e'.2.1 ≤ 601024
      omega) (by
      have h1 : mm_sn (mm_Z L w' i' l' e') = e'.2.2 := rfl
      rw [h1]
      show e'.2.2 ≤ 7293033
      omega)
  intro T hT X
  obtain ⟨t, a1, o, b1, b2, b3⟩ := K T hT X
  refine ⟨t, a1, o, b1, b2, ?_⟩
  have h1 : mm_cn (mm_Z L w' i' l' e') = e'.2.1 := rfl
  have h2 : mm_sn (mm_Z L w' i' l' e') = e'.2.2 := rfl
  rcases b3 with ⟨⟨v, g1, g2, -, -⟩, LL, ⟨-, f2, f3⟩, f4⟩ | ⟨q, -, E, ce, LL, ⟨y, g1, -⟩, -⟩
  · cases g1
    have g3 : o = .returned (some (.int 1)) := g2
    refine ⟨g3, ⟨_, g3⟩, f2, ?_⟩
    exact (en_drop f3 f4).mono (by rw [h1]; omega) (by rw [h2]; omega)
  · cases g1
