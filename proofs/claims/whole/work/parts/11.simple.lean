section MM2
theorem mm_i1_inv {f : Int32 → Value} {S S' : List Value} (h : mm_i1 f S = some S') : ∃ (x : Int32) (t : List Value), S = .int x :: t ∧ S' = f x :: t := by
  unfold mm_i1 at h
  split at h
  · cases h; exact ⟨_, _, rfl, rfl⟩
  · cases h
theorem mm_i2_inv {f : Int32 → Int32 → Int32} {S S' : List Value} (h : mm_i2 f S = some S') : ∃ (x y : Int32) (t : List Value), S = .int y :: .int x :: t ∧ S' = .int (f x y) :: t := by
  unfold mm_i2 at h
  split at h
  · cases h; exact ⟨_, _, _, rfl, rfl⟩
  · cases h
theorem mm_d2_inv {f : Int32 → Int32 → Int32} {S S' : List Value} (h : mm_d2 f S = some S') : ∃ (x y : Int32) (t : List Value), S = .int y :: .int x :: t ∧ S' = .int (f x y) :: t ∧ ¬ y = 0 := by
  unfold mm_d2 at h
  split at h
  · split at h
    · cases h
    · rename_i hy
      cases h; exact ⟨_, _, _, rfl, rfl, hy⟩
  · cases h
theorem mm_l1_inv {f : Int64 → Value} {S S' : List Value} (h : mm_l1 f S = some S') : ∃ (x : Int64) (t : List Value), S = .long x :: t ∧ S' = f x :: t := by
  unfold mm_l1 at h
  split at h
  · cases h; exact ⟨_, _, rfl, rfl⟩
  · cases h
theorem mm_l2_inv {f : Int64 → Int64 → Value} {S S' : List Value} (h : mm_l2 f S = some S') : ∃ (x y : Int64) (t : List Value), S = .long y :: .long x :: t ∧ S' = f x y :: t := by
  unfold mm_l2 at h
  split at h
  · cases h; exact ⟨_, _, _, rfl, rfl⟩
  · cases h
theorem mm_ls_inv {f : Int64 → Int32 → Int64} {S S' : List Value} (h : mm_ls f S = some S') : ∃ (x : Int64) (y : Int32) (t : List Value), S = .int y :: .long x :: t ∧ S' = .long (f x y) :: t := by
  unfold mm_ls at h
  split at h
  · cases h; exact ⟨_, _, _, rfl, rfl⟩
  · cases h
variable {p : Program} {l : Launch} {e : Env} {R : Room} {s : State} {m : MethodId} {args : Array Value} {below : List Frame} {meth : Method} {c : Code} {H : Heap} {locs : List Loc} {cells slots : Nat} {Q : State → Prop}
variable {cc : ByteArray} {pc : Nat} {ls : Array Slot} {r : Nat → Nat}
set_option maxHeartbeats 4000000 in
theorem mm_okS (hx : p.tables.exec = Jvm.exec) (hb : c.code = cc) {i : Instr} {len : Nat} {S S' : List Value} (hdg : decode cc pc = .ok (i, len)) (h : mm_sS i len S = some S')
    (k : W p l e R s m args below meth c H locs cells slots Q (F0 m (pc + len) ls (S'.map (mm_cv r)))) : W p l e R s m args below meth c H locs cells slots Q (F0 m pc ls (S.map (mm_cv r))) := by
  unfold mm_sS at h
  split at h
  · cases h; exact lv_iconst hx hb hdg rfl k
  · cases h; exact lv_bipush hx hb hdg rfl k
  · cases h; exact lv_sipush hx hb hdg rfl k
  · cases h; exact lv_lconst hx hb hdg rfl k
  · obtain ⟨x, y, t, rfl, rfl⟩ := mm_i2_inv h; exact lv_iadd hx hb hdg k
  · obtain ⟨x, y, t, rfl, rfl⟩ := mm_i2_inv h; exact lv_isub hx hb hdg k
  · obtain ⟨x, y, t, rfl, rfl⟩ := mm_i2_inv h; exact lv_imul hx hb hdg k
  · obtain ⟨x, y, t, rfl, rfl⟩ := mm_i2_inv h; exact lv_iand hx hb hdg k
  · obtain ⟨x, y, t, rfl, rfl⟩ := mm_i2_inv h; exact lv_ior hx hb hdg k
  · obtain ⟨x, y, t, rfl, rfl⟩ := mm_i2_inv h; exact lv_ixor hx hb hdg k
  · obtain ⟨x, y, t, rfl, rfl⟩ := mm_i2_inv h; exact lv_ishl hx hb hdg k
  · obtain ⟨x, y, t, rfl, rfl⟩ := mm_i2_inv h; exact lv_ishr hx hb hdg k
  · obtain ⟨x, y, t, rfl, rfl⟩ := mm_i2_inv h; exact lv_iushr hx hb hdg rfl k
  · obtain ⟨x, y, t, rfl, rfl, hy⟩ := mm_d2_inv h; exact lv_idiv hx hb hdg hy k
  · obtain ⟨x, y, t, rfl, rfl, hy⟩ := mm_d2_inv h; exact lv_irem hx hb hdg hy k
  · obtain ⟨x, y, t, rfl, rfl⟩ := mm_l2_inv h; exact lv_land hx hb hdg k
  · obtain ⟨x, y, t, rfl, rfl⟩ := mm_l2_inv h; exact lv_lor hx hb hdg k
  · obtain ⟨x, y, t, rfl, rfl⟩ := mm_l2_inv h; exact W.lcmp hx hb hdg k
  · obtain ⟨x, y, t, rfl, rfl⟩ := mm_ls_inv h; exact lv_lshl hx hb hdg rfl k
  · obtain ⟨x, y, t, rfl, rfl⟩ := mm_ls_inv h; exact lv_lshr hx hb hdg rfl k
  · obtain ⟨x, y, t, rfl, rfl⟩ := mm_ls_inv h; exact lv_lushr hx hb hdg rfl k
  · obtain ⟨x, t, rfl, rfl⟩ := mm_i1_inv h; exact lv_i2l hx hb hdg rfl k
  · obtain ⟨x, t, rfl, rfl⟩ := mm_i1_inv h; exact lv_i2b hx hb hdg rfl k
  · obtain ⟨x, t, rfl, rfl⟩ := mm_l1_inv h; exact lv_l2i hx hb hdg rfl k
  · split at h
    · split at h
      · rename_i hc
        cases h; exact lv_dup hx hb hdg (by rw [mm_cv_cat]; exact hc) k
      · cases h
    · cases h
  · split at h
    · split at h
      · rename_i hc
        cases h; exact lv_pop hx hb hdg (by rw [mm_cv_cat]; exact hc) k
      · cases h
    · cases h
  · split at h
    · split at h
      · rename_i hc
        cases h; exact lv_dup2_11 hx hb hdg (by rw [mm_cv_cat]; exact hc.1) (by rw [mm_cv_cat]; exact hc.2) k
      · cases h
    · cases h
  · cases h
set_option maxHeartbeats 4000000 in
theorem mm_okL (hx : p.tables.exec = Jvm.exec) (hb : c.code = cc) {i : Instr} {len nL : Nat} {L : List (Option Value)} {S : List Value} {v : Value} (hdg : decode cc pc = .ok (i, len)) (h : mm_sL i len L = some v) (hl : lv_has ls nL (mm_lv r 0 L))
    (k : W p l e R s m args below meth c H locs cells slots Q (F0 m (pc + len) ls ((v :: S).map (mm_cv r)))) : W p l e R s m args below meth c H locs cells slots Q (F0 m pc ls (S.map (mm_cv r))) := by
  unfold mm_sL at h
  split at h
  · split at h
    · rename_i hL
      cases h; exact lv_iload hx hb hdg (mm_get hl hL) k
    · cases h
  · split at h
    · rename_i hL
      cases h; exact lv_iload_n hx hb hdg rfl (mm_get hl hL) k
    · cases h
  · split at h
    · rename_i hL
      cases h; exact lv_lload hx hb hdg (mm_get hl hL) k
    · cases h
  · split at h
    · rename_i hL
      cases h; exact lv_lload_n hx hb hdg rfl (mm_get hl hL) k
    · cases h
  · split at h
    · rename_i hL
      cases h; exact lv_aload hx hb hdg (mm_get hl hL) k
    · cases h
  · split at h
    · rename_i hL
      cases h; exact lv_aload_n hx hb hdg rfl (mm_get hl hL) k
    · cases h
  · cases h
set_option maxHeartbeats 4000000 in
theorem mm_okT (hx : p.tables.exec = Jvm.exec) (hb : c.code = cc) {i : Instr} {len nL : Nat} {L L' : List (Option Value)} {S S' : List Value} (hdg : decode cc pc = .ok (i, len)) (h : mm_sT i len nL L S = some (L', S')) (hl : lv_has ls nL (mm_lv r 0 L))
    (k : ∀ ls' : Array Slot, lv_has ls' nL (mm_lv r 0 L') → W p l e R s m args below meth c H locs cells slots Q (F0 m (pc + len) ls' (S'.map (mm_cv r)))) : W p l e R s m args below meth c H locs cells slots Q (F0 m pc ls (S.map (mm_cv r))) := by
  unfold mm_sT at h
  split at h
  · split at h
    · split at h
      · rename_i hk
        cases h; exact lv_istore hx hb hdg hl hk rfl (fun ls' h' => k ls' (mm_fit1 (v := .int _) h'))
      · cases h
    · cases h
  · split at h
    · split at h
      · rename_i hk
        cases h; exact lv_istore_n hx hb hdg rfl hl hk rfl (fun ls' h' => k ls' (mm_fit1 (v := .int _) h'))
      · cases h
    · cases h
  · split at h
    · split at h
      · rename_i hk
        cases h; exact lv_astore hx hb hdg hl hk rfl (fun ls' h' => k ls' (mm_fit1 (v := .ref _) h'))
      · cases h
    · cases h
  · split at h
    · split at h
      · rename_i hk
        cases h; exact lv_astore_n hx hb hdg rfl hl hk rfl (fun ls' h' => k ls' (mm_fit1 (v := .ref _) h'))
      · cases h
    · cases h
  · split at h
    · split at h
      · rename_i hk
        cases h; exact lv_lstore hx hb hdg hl hk rfl (fun ls' h' => k ls' (mm_fit2 (v := .long _) h'))
      · cases h
    · cases h
  · split at h
    · split at h
      · rename_i hk
        cases h; exact lv_lstore_n hx hb hdg rfl hl hk rfl (fun ls' h' => k ls' (mm_fit2 (v := .long _) h'))
      · cases h
    · cases h
  · split at h
    · rename_i hL
      split at h
      · rename_i hk
        cases h
        have hm := mm_lv_in (r := r) (i := 0) hL
        rw [Nat.zero_add] at hm
        obtain ⟨q, hq⟩ := List.getElem?_of_mem hm
        exact lv_iinc hx hb hdg hl hq rfl hk rfl (fun ls' h' => k ls' (mm_fit1 (v := .int _) h'))
      · cases h
    · cases h
  · cases h
theorem mm_map_inv {a : Option Nat} {S S' : List Value} {n : Nat} (h : a.map (fun t => (t, S)) = some (n, S')) : a = some n ∧ S = S' := by
  cases a with
  | none => cases h
  | some t => cases h; exact ⟨rfl, rfl⟩
set_option maxHeartbeats 4000000 in
theorem mm_okC (hx : p.tables.exec = Jvm.exec) (hb : c.code = cc) {cd : Jvm.ClassFile.Cond} {off : Int} {g : Nat} {x : Int32} {rest : List Value} (hdg : decode cc pc = .ok (.ifCond cd off, 3)) (ht : (pc : Int) + off = (g : Int))
    (k : W p l e R s m args below meth c H locs cells slots Q (F0 m (bif mm_cc cd x 0 then g else pc + 3) ls rest)) : W p l e R s m args below meth c H locs cells slots Q (F0 m pc ls (.int x :: rest)) := by
  cases cd
  · refine lv_if_eq hx hb hdg ht (fun q => ?_) (fun q => ?_) <;> simpa [mm_cc, q] using k
  · refine lv_if_ne hx hb hdg ht (fun q => ?_) (fun q => ?_) <;> simpa [mm_cc, q] using k
  · refine lv_if_lt hx hb hdg ht (fun q => ?_) (fun q => ?_) <;> simpa [mm_cc, q] using k
  · refine lv_if_ge hx hb hdg ht (fun q => ?_) (fun q => ?_) <;> simpa only [mm_cc, q, decide_true, decide_false, cond_true, cond_false] using k
  · refine lv_if_gt hx hb hdg ht (fun q => ?_) (fun q => ?_) <;> simpa only [mm_cc, q, decide_true, decide_false, cond_true, cond_false] using k
  · refine lv_if_le hx hb hdg ht (fun q => ?_) (fun q => ?_) <;> simpa only [mm_cc, q, decide_true, decide_false, cond_true, cond_false] using k
set_option maxHeartbeats 4000000 in
theorem mm_okI (hx : p.tables.exec = Jvm.exec) (hb : c.code = cc) {cd : Jvm.ClassFile.Cond} {off : Int} {g : Nat} {x y : Int32} {rest : List Value} (hdg : decode cc pc = .ok (.if_icmp cd off, 3)) (ht : (pc : Int) + off = (g : Int))
    (k : W p l e R s m args below meth c H locs cells slots Q (F0 m (bif mm_cc cd x y then g else pc + 3) ls rest)) : W p l e R s m args below meth c H locs cells slots Q (F0 m pc ls (.int y :: .int x :: rest)) := by
  cases cd
  · refine lv_icmp_eq hx hb hdg ht (fun q => ?_) (fun q => ?_) <;> simpa [mm_cc, q] using k
  · refine lv_icmp_ne hx hb hdg ht (fun q => ?_) (fun q => ?_) <;> simpa [mm_cc, q] using k
  · refine lv_icmp_lt hx hb hdg ht (fun q => ?_) (fun q => ?_) <;> simpa only [mm_cc, q, decide_true, decide_false, cond_true, cond_false] using k
  · refine lv_icmp_ge hx hb hdg ht (fun q => ?_) (fun q => ?_) <;> simpa only [mm_cc, q, decide_true, decide_false, cond_true, cond_false] using k
  · refine lv_icmp_gt hx hb hdg ht (fun q => ?_) (fun q => ?_) <;> simpa only [mm_cc, q, decide_true, decide_false, cond_true, cond_false] using k
  · refine lv_icmp_le hx hb hdg ht (fun q => ?_) (fun q => ?_) <;> simpa only [mm_cc, q, decide_true, decide_false, cond_true, cond_false] using k
set_option maxHeartbeats 4000000 in
theorem mm_okJ (hx : p.tables.exec = Jvm.exec) (hb : c.code = cc) {i : Instr} {len pc' : Nat} {S S' : List Value} (hdg : decode cc pc = .ok (i, len)) (h : mm_sJ i len pc S = some (pc', S'))
    (k : W p l e R s m args below meth c H locs cells slots Q (F0 m pc' ls (S'.map (mm_cv r)))) : W p l e R s m args below meth c H locs cells slots Q (F0 m pc ls (S.map (mm_cv r))) := by
  unfold mm_sJ at h
  split at h
  · split at h
    · rename_i hl
      subst hl
      obtain ⟨h1, rfl⟩ := mm_map_inv h
      exact lv_goto hx hb hdg (mm_tg_eq h1) k
    · cases h
  · split at h
    · split at h
      · rename_i hl
        subst hl
        cases hg : mm_tg pc _ with
        | none => rw [hg] at h; cases h
        | some g =>
          rw [hg] at h
          cases h
          exact mm_okC hx hb hdg (mm_tg_eq hg) k
      · cases h
    · cases h
  · split at h
    · split at h
      · rename_i hl
        subst hl
        cases hg : mm_tg pc _ with
        | none => rw [hg] at h; cases h
        | some g =>
          rw [hg] at h
          cases h
          exact mm_okI hx hb hdg (mm_tg_eq hg) k
      · cases h
    · cases h
  · split at h
    · split at h
      · rename_i hr
        obtain ⟨h1, rfl⟩ := mm_map_inv h
        exact lv_tableOut hx hb hdg hr (mm_tg_eq h1) k
      · rename_i hr
        split at h
        · rename_i off hoff
          obtain ⟨h1, rfl⟩ := mm_map_inv h
          exact lv_tableIn hx hb hdg (fun q => hr (Or.inl q)) (fun q => hr (Or.inr q)) hoff (mm_tg_eq h1) k
        · cases h
    · cases h
  · split at h
    · split at h
      · rename_i hp
        obtain ⟨h1, rfl⟩ := mm_map_inv h
        exact lv_lookup hx hb hdg hp rfl (mm_tg_eq h1) k
      · cases h
    · cases h
  · cases h
end MM2
