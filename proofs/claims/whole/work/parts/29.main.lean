section MMc
theorem mm_up_of {p : Program} {l : Launch} {e : Env} {R : Room} {s : State} {m : MethodId} {args : Array Value} {below : List Frame} {meth : Method} {c : Code} {H : Heap} {locs : List Loc} {cells slots b : Nat} {μ : mm_M} {T : State} (hT : T.heap = H) (X : Stand p l e R s m args below meth c T locs cells slots) (hUp : mm_ex μ = true → s.heap.size + cells ≤ b + mm_nx μ) : mm_ex μ = true → H.size ≤ b + mm_nx μ := by
  intro h
  have h1 := X.heapSize
  have h2 := hUp h
  rw [hT] at h1
  omega
theorem mm_rc_of {a : Nat} {μ : mm_M} {As : List Value} (h : ¬ (mm_rc a μ As = false)) : ∃ o t, As = .ref o :: t ∧ mm_wr μ o (10 + mm_ow a) := by
  unfold mm_rc at h
  split at h
  · rename_i o t
    simp only [decide_eq_false_iff_not, Decidable.not_not] at h
    exact ⟨o, t, rfl, h⟩
  · exact absurd rfl h
theorem mm_Qeq {p : Program} {l : Launch} {e : Env} {R : Room} {s : State} {m : MethodId} {args : Array Value} {below : List Frame} {meth : Method} {c : Code} {H : Heap} {locs : List Loc} {cells slots : Nat} {Q : State → Prop} {g g2 : JFrame} (h : g = g2) (k : W p l e R s m args below meth c H locs cells slots Q g) : W p l e R s m args below meth c H locs cells slots Q g2 := h ▸ k
set_option maxHeartbeats 1000000 in
theorem mm_callAll {p : Program} {l : Launch} {e : Env} {R : Room} {s : State} {m : MethodId} {args : Array Value} {below : List Frame} {meth : Method} {c : Code} {H : Heap} {locs : List Loc} {cells slots : Nat} {pc : Nat} {ls : Array Slot} {r : Nat → Nat} {cA : Nat → ClassId} {D : va_G} {b : Nat} {μ μ1 : mm_M} {k n a kk mc ms : Nat} {S As rest : List Value} {o1 : Option Value ⊕ Nat} {en : mm_E} {v : Bool}
    (ih : mm_Snd l n) (C : mm_Cx p l R s m meth c k) (E : mm_Env D cA r (mm_A b) s s.heap) (O : mm_Old r (mm_A b) μ s s.heap) (hr : ∀ k, k < 1000000 → r k = b + k) (hbs : b ≤ s.heap.size) (hnx : mm_nx μ ≤ 1000) (hP : va_P D mm_K (mm_ws r cA μ) H) (hS : va_S (mm_A b) s.heap H locs) (hup : mm_ex μ = true → H.size ≤ b + mm_nx μ) (hsz : ls.size = mm_ml k)
    (hcl : mm_cl0 en = some (a, kk, v)) (hC1 : mm_COK k en) (hdg : decode (mm_B k) pc = .ok (en.1, en.2.1)) (p1 : S = As.reverse ++ rest) (p2 : As.length = kk) (p3 : (rest.map (fun v => v.category)).sum ≤ 8) (hcond : ¬ (v = true ∧ mm_rc a μ As = false)) (hlen : (mm_sl0 As).length ≤ mm_ml a)
    (hrun : mm_run n a 0 (mm_L0 (mm_ml a) As) [] μ = some (o1, μ1)) (hmt : (∃ w, o1 = .inl w) ∨ mm_mt k a en.1 = true) (hmc : mm_cn μ1 = mc + mm_cn μ) (hms : mm_sn μ1 = ms + mm_sn μ) (hf : cells + mc ≤ R.cells ∧ slots + ms ≤ R.slots) :
    vx_Run p l e R s m args below meth c H locs cells slots mc ms (F0 m pc ls (S.map (mm_cv r))) (rest.map (mm_cv r)) (mm_Qc D cA r b o1 μ1 (As.map (mm_cv r)).toArray) (mm_XC D cA r b o1 μ1) (mm_A b) := by
  obtain ⟨ins, len, ea, eb, v0⟩ := en
  unfold mm_cl0 at hcl
  unfold mm_COK at hC1
  dsimp only at hcl hC1 hdg hmt
  split at hcl
  · split at hcl
    · rename_i h9
      obtain ⟨rfl, h900⟩ := h9
      cases hcl
      obtain ⟨o, t, rfl, ho⟩ := mm_rc_of (fun q => hcond ⟨rfl, q⟩)
      have e1 : S.map (mm_cv r) = (t.map (mm_cv r)).reverse ++ .ref (r o) :: rest.map (mm_cv r) := by
        rw [p1]
        simp [mm_cv]
      rw [e1]
      exact mm_runV ih C E O hr hbs hnx hP hS hup hsz (hC1 h900) hrun hlen ho (by simpa using p2) p3 hdg hmc hms hf
    · cases hcl
  · split at hcl
    · rename_i h9
      obtain ⟨rfl, h900⟩ := h9
      cases hcl
      obtain ⟨o, t, rfl, ho⟩ := mm_rc_of (fun q => hcond ⟨rfl, q⟩)
      have e1 : S.map (mm_cv r) = (t.map (mm_cv r)).reverse ++ .ref (r o) :: rest.map (mm_cv r) := by
        rw [p1]
        simp [mm_cv]
      rw [e1]
      rcases hmt with ⟨w, rfl⟩ | hmt
      · exact mm_runI ih C E O hr hbs hnx hP hS hup hsz (hC1 h900) hrun hlen (by simpa using p2) p3 hdg hmc hms hf
      · cases hmt
    · cases hcl
  · split at hcl
    · rename_i h9
      obtain ⟨rfl, h900⟩ := h9
      cases hcl
      have e1 : S.map (mm_cv r) = (As.map (mm_cv r)).reverse ++ rest.map (mm_cv r) := by
        rw [p1]
        simp
      rw [e1]
      refine mm_runS ih C E O hr hbs hnx hP hS hup hsz (hC1 h900) hrun (fun hne => ?_) hlen p2 p3 hdg hmc hms hf
      rcases hmt with hmt | hmt
      · exact hmt
      · simp only [mm_mt, decide_eq_true_eq] at hmt
        exact absurd hmt hne
    · cases hcl
  · cases hcl
set_option maxHeartbeats 4000000 in
theorem mm_sound (l : Launch) (hT : mm_Tab) (hOne : mm_One) (hH : mm_Hnd) (hSR : mm_SR l) (hTR : mm_TR l) : ∀ n, mm_Snd l n := by
  intro n
  induction n with
  | zero =>
    intro k pc L S μ out μ' h
    cases h
  | succ n ih =>
    intro k pc L S μ out μ' h hnx p e R s m args below meth c H locs cells slots ls D cA r b mc ms C E O hr hbs hP hS hUp hl hmc hms hR1 hR2
    have hIall := mm_run_inv (n + 1) k pc L S μ out μ' h hnx
    simp only [mm_run] at h
    split at h
    · cases h
    · rename_i en hen
      obtain ⟨hdg, hE1, hN1, hC1⟩ := hT k pc en hen
      have hx := C.1
      have hb := C.2.1
      split at h
      · -- a step
        rename_i pc1 L1 S1 μ1 hst
        have hi := mm_st_inv hst hnx
        have hnx1 := hi.2.2.2.2.2 hnx
        have hi2 := mm_run_inv n k pc1 L1 S1 μ1 out μ' h hnx1
        have K : ∀ (H' : Heap) (locs' : List Loc) (cells' slots' : Nat) (ls' : Array Slot), va_P D mm_K (mm_ws r cA μ1) H' → va_S (mm_A b) s.heap H' locs' → cells' + mm_cn μ = cells + mm_cn μ1 → slots' + mm_sn μ = slots + mm_sn μ1 → lv_has ls' (mm_ml k) (mm_lv r 0 L1) →
            W p l e R s m args below meth c H' locs' cells' slots' (vx_MQ below (mm_Qc D cA r b out μ') (mm_XC D cA r b out μ') args s mc ms (mm_A b)) (F0 m pc1 ls' (S1.map (mm_cv r))) := by
          intro H' locs' cells' slots' ls' g1 g2 g3 g4 g5
          exact ih k pc1 L1 S1 μ1 out μ' h hnx1 p e R s m args below meth c H' locs' cells' slots' ls' D cA r b mc ms C E (O.step hi) hr hbs g1 g2 (fun hex => by
            obtain ⟨q1, q2⟩ := hi.2.2.2.2.1 hex
            have q3 := hUp q1
            omega) g5 (by omega) (by omega) hR1 hR2
        have hcn := hi2.2.2.1
        have hsn := hi2.2.2.2.1
        unfold mm_st at hst
        split at hst
        · rename_i S' hq
          cases hst
          exact mm_okS hx hb hdg hq (K H locs cells slots ls hP hS rfl rfl hl)
        · split at hst
          · rename_i v hq
            cases hst
            exact mm_okL hx hb hdg hq hl (K H locs cells slots ls hP hS rfl rfl hl)
          · split at hst
            · rename_i S' μ2 hq
              cases hst
              have hD := mm_D (b := b) (cA := cA) hr hnx
              have c1 := (mm_sM_inv hq hnx)
              refine mm_okM hx hb hdg hE1 C.2.2.2.2.2.2.1 hq E.1 C.2.2.2.1 E.2.1 hP hD hS O (fun H' locs' g1 g2 g3 => ?_)
              exact K H' locs' cells slots ls g1 g3 (by rw [mm_sM_cn hq]) (by rw [mm_sM_sn hq]) hl
            · split at hst
              · rename_i pc' S' hq
                cases hst
                exact mm_okJ hx hb hdg hq (K H locs cells slots ls hP hS rfl rfl hl)
              · split at hst
                · rename_i L' S' hq
                  cases hst
                  exact mm_okT hx hb hdg hq hl (fun ls' g => K H locs cells slots ls' hP hS rfl rfl g)
                · split at hst
                  · rename_i S' μ2 hq
                    cases hst
                    exact mm_okN hOne C E hdg hN1 hq hr hbs hnx hl.1 hP hS hUp (by omega) (by omega) (fun H' locs' cells' slots' g1 g2 g3 g4 => K H' locs' cells' slots' ls g1 g2 g3 g4 hl)
                  · split at hst
                    · rename_i S' hq
                      cases hst
                      obtain ⟨i, hi9⟩ := mm_sG_inv hq
                      exact hSR p e R s m args below meth c H locs cells slots _ pc ls r cA D b μ k en S _ i C E hen hi9 hq hdg hS hbs hl.1 (by omega) (by omega) (K H locs cells slots ls hP hS rfl rfl hl)
                    · cases hst
      · split at h
        · -- a call
          rename_i a kk v hcl
          split at h
          · rename_i As rest hpop
            obtain ⟨p1, p2, p3⟩ := mm_pop_spec hpop
            split at h
            · cases h
            · rename_i hcond
              have hlen : (mm_sl0 As).length ≤ mm_ml a := by
                rcases Nat.lt_or_ge (mm_ml a) (mm_sl0 As).length with q | q
                · exact absurd (Or.inr q) hcond
                · exact q
              have hcond2 : ¬ (v = true ∧ mm_rc a μ As = false) := fun q => hcond (Or.inl q)
              have hlen3 : en.2.1 = 3 := mm_cl0_len hcl
              split at h
              · -- it returned
                rename_i w μ1 hrun
                have hi1 := mm_run_inv n a 0 _ _ μ _ μ1 hrun hnx
                have hnx1 := hi1.2.2.2.2.2 hnx
                have hi2 := mm_run_inv n k (pc + 3) L (w.toList ++ rest) μ1 out μ' h hnx1
                have c1 := hi1.2.2.1
                have c2 := hi1.2.2.2.1
                have c3 := hi2.2.2.1
                have c4 := hi2.2.2.2.1
                intro T hT2 X
                have hup := mm_up_of hT2 X hUp
                refine (mm_after (mm_callAll (mc := mm_cn μ1 - mm_cn μ) (ms := mm_sn μ1 - mm_sn μ) ih C E O hr hbs hnx hP hS hup hl.1 hcl hC1 hdg p1 p2 p3 hcond2 hlen hrun (Or.inl ⟨_, rfl⟩) (by omega) (by omega) ⟨by omega, by omega⟩) hS (fun w2 H1 locs1 hw1 g1 g2 => ?_) (fun x ce q H1 locs1 hw1 _ _ _ _ _ => by cases hw1)) T hT2 X
                cases hw1
                have e9 : (w.map (mm_cv r)).toList ++ rest.map (mm_cv r) = (w.toList ++ rest).map (mm_cv r) := by cases w <;> simp
                rw [e9]
                exact ih k (pc + 3) L (w.toList ++ rest) μ1 out μ' h hnx1 p e R s m args below meth c H1 locs1 _ _ ls D cA r b mc ms C E (O.step hi1) hr hbs g1 g2 (fun hex => by
                  obtain ⟨q1, q2⟩ := hi1.2.2.2.2.1 hex
                  have q3 := hUp q1
                  omega) hl (by omega) (by omega) hR1 hR2
              · -- it threw
                rename_i x μ1 hrun
                have hi1 := mm_run_inv n a 0 _ _ μ _ μ1 hrun hnx
                have hnx1 := hi1.2.2.2.2.2 hnx
                have c1 := hi1.2.2.1
                have c2 := hi1.2.2.2.1
                split at h
                · rename_i hmt
                  split at h
                  · rename_i hd hca
                    split at h
                    · rename_i k9 pc9 hhs
                      have hi2 := mm_run_inv n k pc9 (mm_forget L k9) [] μ1 out μ' h hnx1
                      have c3 := hi2.2.2.1
                      have c4 := hi2.2.2.2.1
                      intro T hT2 X
                      have hup := mm_up_of hT2 X hUp
                      refine (mm_after (mm_callAll (mc := mm_cn μ1 - mm_cn μ) (ms := mm_sn μ1 - mm_sn μ) ih C E O hr hbs hnx hP hS hup hl.1 hcl hC1 hdg p1 p2 p3 hcond2 hlen hrun (Or.inr hmt) (by omega) (by omega) ⟨by omega, by omega⟩) hS (fun w2 H1 locs1 hw1 _ _ => by cases hw1) (fun x2 ce q H1 locs1 hw1 g1 g2 g3 g4 g5 => ?_)) T hT2 X
                      cases hw1
                      exact mm_okX hT hH C E hca hhs hl g3 g4 g5 (fun ls' g6 => ih k pc9 (mm_forget L k9) [] μ1 out μ' h hnx1 p e R s m args below meth c H1 locs1 _ _ ls' D cA r b mc ms C E (O.step hi1) hr hbs g1 g2 (fun hex => by
                        obtain ⟨q1, q2⟩ := hi1.2.2.2.2.1 hex
                        have q3 := hUp q1
                        omega) g6 (by omega) (by omega) hR1 hR2)
                    · cases h
                  · split at h
                    · rename_i hh0
                      cases h
                      intro T hT2 X
                      have hup := mm_up_of hT2 X hUp
                      refine (mm_after (mm_callAll (mc := mm_cn μ' - mm_cn μ) (ms := mm_sn μ' - mm_sn μ) ih C E O hr hbs hnx hP hS hup hl.1 hcl hC1 hdg p1 p2 p3 hcond2 hlen hrun (Or.inr hmt) (by omega) (by omega) ⟨by omega, by omega⟩) hS (fun w2 H1 locs1 hw1 _ _ => by cases hw1) (fun x2 ce q H1 locs1 hw1 g1 g2 g3 g4 g5 => ?_)) T hT2 X
                      cases hw1
                      have htab := C.2.2.2.2.2.2.2.1
                      rw [hh0] at htab
                      exact vx_out (by rw [htab]; intro y hy; cases hy) C.2.2.2.2.2.1 g3 g4 g5 (fun t ht _ => ⟨_, rfl, rfl, by rw [ht]; exact g1, g2.F ht⟩) g2.2.2 (by omega) (by omega)
                    · cases h
                · cases h
              · cases h
          · cases h
        · split at h
          · -- a return
            rename_i w hrt
            cases h
            have hlen1 : en.2.1 = 1 := mm_rt_len hrt hN1
            rw [hlen1] at hdg
            exact mm_okR C hrt hdg hP hS (by omega) (by omega)
          · split at h
            · rename_i E9 htr
              split at h
              · rename_i hc9
                cases h
                obtain ⟨hh0, rfl⟩ := hc9
                have z1 : mm_cn (mm_th μ) = mm_cn μ + 1 := rfl
                have z2 : mm_sn (mm_th μ) = mm_sn μ + 6 := rfl
                refine hTR p e R s m args below meth c H locs cells slots pc ls r cA D b k en E9 _ _ mc ms C E hen htr hh0 hS hl.1 (by omega) (by omega) hR1 hR2 (fun t ht h1 h2 => ?_)
                refine ⟨E9, rfl, rfl, hP.kept (fun j q hj => h2 q.1 ((hP j q hj).lt)), ⟨Nat.le_trans hS.1 h1, fun q q1 q2 => ?_⟩⟩
                rw [h2 q (Nat.lt_of_lt_of_le q1 hS.1)]
                exact hS.2.1 q q1 q2
              · cases h
            · cases h
end MMc
