section MM4
/-- an index outside -/
abbrev mm_out (i : Int32) (n : Nat) : Prop := i < 0 ∨ n ≤ i.toNatClampNeg
/-- a cell that may be read: a known one, or one of those that were there before (from 1000000 on) -/
abbrev mm_rd (μ : mm_M) (o t : Nat) : Prop := (o < mm_nx μ ∨ 1000000 ≤ o) ∧ (mm_gt μ o).1 = t
abbrev mm_wr (μ : mm_M) (o t : Nat) : Prop := o < mm_nx μ ∧ (mm_gt μ o).1 = t
/-- fields and arrays -/
def mm_sM (e : mm_E) (S : List Value) (μ : mm_M) : Option (List Value × mm_M) := match e.1 with
  | .getfield _ => match S with
    | .ref o :: t => if mm_wr μ o (10 + e.2.2.1) then some (mm_fvOf e.2.2.1 e.2.2.2.1 (μ.2.1 o) (μ.2.2.1 o) (μ.2.2.2.1 o) :: t, μ) else none
    | _ => none
  | .putfield _ => match S with
    | v :: .ref o :: t => if mm_wr μ o (10 + e.2.2.1) then (match mm_pf μ o e.2.2.1 e.2.2.2.1 v with
      | some μ' => some (t, μ')
      | none => none) else none
    | _ => none
  | .iaload => match S with
    | .int i :: .ref o :: t => if mm_rd μ o 1 then (if mm_out i (mm_gt μ o).2 then none else some (.int (mm_gi μ o i.toNatClampNeg) :: t, μ)) else none
    | _ => none
  | .iastore => match S with
    | .int x :: .int i :: .ref o :: t => if mm_wr μ o 1 then (if mm_out i (mm_gt μ o).2 then none else some (t, mm_si μ o i.toNatClampNeg x)) else none
    | _ => none
  | .baload => match S with
    | .int i :: .ref o :: t => if mm_wr μ o 2 then (if mm_out i (mm_gt μ o).2 then none else some (.int (mm_gi μ o i.toNatClampNeg) :: t, μ)) else
      if mm_wr μ o 3 then (if mm_out i (mm_gt μ o).2 then none else some (.int (mm_gi μ o i.toNatClampNeg) :: t, μ)) else none
    | _ => none
  | .bastore => match S with
    | .int x :: .int i :: .ref o :: t => if mm_wr μ o 2 then (if mm_out i (mm_gt μ o).2 then none else some (t, mm_si μ o i.toNatClampNeg (vp_nar .byte x))) else
      if mm_wr μ o 3 then (if mm_out i (mm_gt μ o).2 then none else some (t, mm_si μ o i.toNatClampNeg (vp_nar .boolean x))) else none
    | _ => none
  | .laload => match S with
    | .int i :: .ref o :: t => if mm_wr μ o 4 then (if mm_out i (mm_gt μ o).2 then none else some (.long (mm_gl μ o i.toNatClampNeg) :: t, μ)) else none
    | _ => none
  | .lastore => match S with
    | .long x :: .int i :: .ref o :: t => if mm_wr μ o 4 then (if mm_out i (mm_gt μ o).2 then none else some (t, mm_sl μ o i.toNatClampNeg x)) else none
    | _ => none
  | .arraylength => match S with
    | .ref o :: t => if mm_rd μ o 1 then some (.int (Int32.ofNat (mm_gt μ o).2) :: t, μ) else
      if mm_wr μ o 4 then some (.int (Int32.ofNat (mm_gt μ o).2) :: t, μ) else none
    | _ => none
  | _ => none
/-- the array classes that the worlds name -/
abbrev mm_tyl (cA : Nat → ClassId) : List (ClassId × FieldType) := [(cA 1, .int), (cA 2, .byte), (cA 3, .boolean), (cA 4, .long)]
/-- words that hold in every later state of the tables -/
def mm_tw : Cond → Bool
  | .arrayClass _ => true
  | .fieldLinkNest .. => true
  | .methodLinkNest .. => true
  | .castable .. => true
  | .declares _ => true
  | w => w.onTables && w.keeps
def mm_Wd (U : State) : Prop := ∀ w ∈ lw_tbl, mm_tw w = true → ∀ A : Array Value, w.before A U = true
theorem mm_Wd.warm {s U : State} (hW : s.WarmedH U.vm) (h : mm_Wd s) : mm_Wd U := by
  intro w hw ht A
  have h1 := h w hw ht
  cases w <;> first
    | exact word_at hW (Or.inr ⟨_, rfl⟩) (h1 #[])
    | exact va_Nw.use rfl (va_Nw.warmF hW (h1 #[]))
    | exact va_Nw.use rfl (va_Nw.warmM hW (h1 #[]))
    | exact va_Nw.use rfl (va_Nw.warmC hW (h1 #[]))
    | exact va_Nw.use rfl (va_Nw.warmD hW (h1 #[]))
    | exact word_at hW (Or.inl ht) (h1 #[])
/-- what a field's link is worth -/
def mm_FOK (own i a b : Nat) : Prop := a < 13 ∧ b < mm_nf a ∧ (Cond.fieldLink (mm_RN own) i (mm_TF a b).1 (mm_TF a b).2.1 (mm_TF a b).2.2.1 ∈ lw_tbl ∨ ∃ host, Cond.fieldLinkNest (mm_RN own) i (mm_TF a b).1 (mm_TF a b).2.1 (mm_TF a b).2.2.1 host ∈ lw_tbl)
def mm_FOKP (own i a b : Nat) (ini : Bool) : Prop := mm_FOK own i a b ∧ (mm_fin a b = true → ini = true ∧ a = own ∧ Cond.fieldLink (mm_RN own) i (mm_TF a b).1 (mm_TF a b).2.1 (mm_TF a b).2.2.1 ∈ lw_tbl)
/-- what was there before: each of its int arrays as the memory has it -/
def mm_Old (r : Nat → Nat) (A : Nat → Prop) (μ : mm_M) (U : State) (H : Heap) : Prop := ∀ o : Nat, 1000000 ≤ o → (mm_gt μ o).1 = 1 → va_T .int (r o) (mm_gt μ o).2 (fun j => .int (mm_gi μ o j)) A U H
/-- what the tables say of an entry of a method's code: its links -/
def mm_EOK (own : Nat) (ini : Bool) (en : mm_E) : Prop := match en.1 with
  | .getfield i => en.2.1 = 3 ∧ mm_FOK own i en.2.2.1 en.2.2.2.1
  | .putfield i => en.2.1 = 3 ∧ mm_FOKP own i en.2.2.1 en.2.2.2.1 ini
  | .iaload => en.2.1 = 1
  | .iastore => en.2.1 = 1
  | .baload => en.2.1 = 1
  | .bastore => en.2.1 = 1
  | .laload => en.2.1 = 1
  | .lastore => en.2.1 = 1
  | .arraylength => en.2.1 = 1
  | _ => True
variable {p : Program} {l : Launch} {e : Env} {R : Room} {s : State} {m : MethodId} {args : Array Value} {below : List Frame} {meth : Method} {c : Code} {H : Heap} {locs : List Loc} {cells slots : Nat} {Q : State → Prop}
variable {cc : ByteArray} {pc : Nat} {ls : Array Slot} {r : Nat → Nat} {cA : Nat → ClassId} {D : va_G} {A : Nat → Prop} {μ μ' : mm_M}
theorem mm_lay_tw {C : String} {T : u_T} {N : Nat} : ∀ w ∈ u_ws C T N, mm_tw w = true := by
  intro w hw
  obtain ⟨k, -, rfl⟩ := List.mem_map.mp hw
  unfold u_lay
  split <;> rfl
theorem mm_lays (hw : mm_Wd s) {o : Nat} (h : o < 13) : ∀ w ∈ u_ws (mm_RN o) (mm_TF o) (mm_nf o), w.before args s = true := fun w q => hw w (mm_uw h w q) (mm_lay_tw w q) args
theorem mm_wat1 {o : Nat} (h1 : o < mm_nx μ) (h2 : (mm_gt μ o).1 = 1) : (mm_ws r cA μ)[o]? = some (r o, .inl (cA 1, (mm_gt μ o).2, .inl (μ.2.1 o))) := by
  rw [mm_ws_at h1, mm_cell, mm_cellOf_1 (t := μ.1 o) h2]
  rfl
theorem mm_wst1 {o i : Nat} {x : Int32} (h1 : o < mm_nx μ) (h2 : (mm_gt μ o).1 = 1) : (mm_ws r cA μ).set o (r o, .inl (cA 1, (mm_gt μ o).2, .inl (upd (μ.2.1 o) i x))) = mm_ws r cA (mm_si μ o i x) := by
  refine mm_ws_set rfl h1 ?_ (fun j hj => mm_cell_si j hj)
  unfold mm_cell mm_si
  dsimp only
  rw [mm_cellOf_1 (t := μ.1 o) h2, mm_up_s]
  rfl
theorem mm_wat2 {o : Nat} (h1 : o < mm_nx μ) (h2 : (mm_gt μ o).1 = 2) : (mm_ws r cA μ)[o]? = some (r o, .inl (cA 2, (mm_gt μ o).2, .inl (μ.2.1 o))) := by
  rw [mm_ws_at h1, mm_cell, mm_cellOf_2 (t := μ.1 o) h2]
  rfl
theorem mm_wst2 {o i : Nat} {x : Int32} (h1 : o < mm_nx μ) (h2 : (mm_gt μ o).1 = 2) : (mm_ws r cA μ).set o (r o, .inl (cA 2, (mm_gt μ o).2, .inl (upd (μ.2.1 o) i x))) = mm_ws r cA (mm_si μ o i x) := by
  refine mm_ws_set rfl h1 ?_ (fun j hj => mm_cell_si j hj)
  unfold mm_cell mm_si
  dsimp only
  rw [mm_cellOf_2 (t := μ.1 o) h2, mm_up_s]
  rfl
theorem mm_wat3 {o : Nat} (h1 : o < mm_nx μ) (h2 : (mm_gt μ o).1 = 3) : (mm_ws r cA μ)[o]? = some (r o, .inl (cA 3, (mm_gt μ o).2, .inl (μ.2.1 o))) := by
  rw [mm_ws_at h1, mm_cell, mm_cellOf_3 (t := μ.1 o) h2]
  rfl
theorem mm_wst3 {o i : Nat} {x : Int32} (h1 : o < mm_nx μ) (h2 : (mm_gt μ o).1 = 3) : (mm_ws r cA μ).set o (r o, .inl (cA 3, (mm_gt μ o).2, .inl (upd (μ.2.1 o) i x))) = mm_ws r cA (mm_si μ o i x) := by
  refine mm_ws_set rfl h1 ?_ (fun j hj => mm_cell_si j hj)
  unfold mm_cell mm_si
  dsimp only
  rw [mm_cellOf_3 (t := μ.1 o) h2, mm_up_s]
  rfl
theorem mm_wat4 {o : Nat} (h1 : o < mm_nx μ) (h2 : (mm_gt μ o).1 = 4) : (mm_ws r cA μ)[o]? = some (r o, .inl (cA 4, (mm_gt μ o).2, .inr (.inl (μ.2.2.1 o)))) := by
  rw [mm_ws_at h1, mm_cell, mm_cellOf_4 (t := μ.1 o) h2]
  rfl
theorem mm_wst4 {o i : Nat} {x : Int64} (h1 : o < mm_nx μ) (h2 : (mm_gt μ o).1 = 4) : (mm_ws r cA μ).set o (r o, .inl (cA 4, (mm_gt μ o).2, .inr (.inl (vp_updL (μ.2.2.1 o) i x)))) = mm_ws r cA (mm_sl μ o i x) := by
  refine mm_ws_set rfl h1 ?_ (fun j hj => mm_cell_sl j hj)
  unfold mm_cell mm_sl
  dsimp only
  rw [mm_cellOf_4 (t := μ.1 o) h2, mm_up_s]
  rfl
theorem mm_wato {o ci : Nat} (h1 : o < mm_nx μ) (h2 : (mm_gt μ o).1 = 10 + ci) : (mm_ws r cA μ)[o]? = some (r o, .inr (ci, mm_fsOf r ci (μ.2.1 o) (μ.2.2.1 o) (μ.2.2.2.1 o))) := by
  rw [mm_ws_at h1, mm_cell, mm_cellOf_o (t := μ.1 o) h2]
set_option maxHeartbeats 4000000 in
theorem mm_okM (hx : p.tables.exec = Jvm.exec) (hb : c.code = cc) {en : mm_E} {own : Nat} {ini : Bool} {S S' : List Value} (hdg : decode cc pc = .ok (en.1, en.2.1)) (hE : mm_EOK own ini en) (hini : ini = true → meth.name = "<init>")
    (h : mm_sM en S μ = some (S', μ')) (hw : mm_Wd s)
    (hown : s.vm.findClass (mm_RN own) = some m.cls) (hK : va_K D mm_K (mm_tyl cA) s) (hP : va_P D mm_K (mm_ws r cA μ) H) (hD : va_D A (mm_ws r cA μ)) (hS : va_S A s.heap H locs) (hO : mm_Old r A μ s s.heap)
    (k : ∀ (H' : Heap) (locs' : List Loc), va_P D mm_K (mm_ws r cA μ') H' → va_D A (mm_ws r cA μ') → va_S A s.heap H' locs' → W p l e R s m args below meth c H' locs' cells slots Q (F0 m (pc + en.2.1) ls (S'.map (mm_cv r)))) :
    W p l e R s m args below meth c H locs cells slots Q (F0 m pc ls (S.map (mm_cv r))) := by
  obtain ⟨ins, len, a, b, v0⟩ := en
  unfold mm_sM at h
  unfold mm_EOK at hE
  dsimp only at h hE hdg k
  split at h
  · -- getfield
    obtain ⟨rfl, ha, hbk, hlink⟩ := hE
    split at h
    · rename_i o t
      split at h
      · rename_i hr
        cases h
        have hat := mm_wato (r := r) (cA := cA) hr.1 hr.2
        have hfs := mm_fsOf_at (r := r) (fi := μ.2.1 o) (fj := μ.2.2.1 o) (fr := μ.2.2.2.1 o) hbk
        rcases hlink with hl | ⟨host, hl⟩
        · exact va_get hx hb (mm_lays hw ha) (fun _ q => q) hown hK hP o hat (mm_K_at ha) b hbk (hw _ hl rfl args) (fun _ q => q) hfs hdg (k H locs hP hD hS)
        · exact va_getN hx hb (mm_lays hw ha) (fun _ q => q) hown hK hP o hat (mm_K_at ha) b hbk (hw _ hl rfl args) (fun _ q => q) hfs hdg (k H locs hP hD hS)
      · cases h
    · cases h
  · -- putfield
    obtain ⟨rfl, ⟨ha, hbk, hlink⟩, hfin⟩ := hE
    split at h
    · rename_i v o t
      split at h
      · rename_i hr
        split at h
        · rename_i μ2 hpf
          cases h
          have hat := mm_wato (r := r) (cA := cA) hr.1 hr.2
          obtain ⟨f1, f2, f3⟩ := mm_fd ha b hbk
          obtain ⟨q1, q2, q3, q4, q5⟩ := mm_pf_ok (r := r) (cA := cA) hpf hbk hr.2 f1
          have hset := mm_ws_set (r := r) (cA := cA) q3 hr.1 q4 q5
          have hl9 : b < (mm_fsOf r a (μ.2.1 o) (μ.2.2.1 o) (μ.2.2.2.1 o)).length := by simp [mm_fsOf, hbk]
          have kk : ∀ (H1 : Heap) (locs1 : List Loc), va_P D mm_K ((mm_ws r cA μ).set o (r o, .inr (a, (mm_fsOf r a (μ.2.1 o) (μ.2.2.1 o) (μ.2.2.2.1 o)).set b (mm_cv r v)))) H1 → va_D A ((mm_ws r cA μ).set o (r o, .inr (a, (mm_fsOf r a (μ.2.1 o) (μ.2.2.1 o) (μ.2.2.2.1 o)).set b (mm_cv r v)))) → va_S A s.heap H1 locs1 → W p l e R s m args below meth c H1 locs1 cells slots Q (F0 m (pc + 3) ls (S'.map (mm_cv r))) := by
            intro H1 locs1 g1 g2 g3
            rw [hset] at g1 g2
            exact k H1 locs1 g1 g2 g3
          by_cases hf : mm_fin a b = true
          · obtain ⟨e1, e2, e3⟩ := hfin hf
            exact va_putF hx hb (mm_lays hw ha) (fun _ q => q) (mm_yF a) (mm_tyok ha) (mm_nmok ha) hown hK hP hD hS o hat (mm_K_at ha) b hbk (hw _ e3 rfl args) (fun _ q => q) (f2.trans hf) (hini e1) (by rw [f3, e2]) (mm_tyok ha b hbk) q1 q2 hl9 hdg kk
          · have hf2 : (mm_TF a b).2.2.2 = false := by rw [f2]; cases hq : mm_fin a b with
              | true => exact absurd hq hf
              | false => rfl
            rcases hlink with hl | ⟨host, hl⟩
            · exact va_put hx hb (mm_lays hw ha) (fun _ q => q) (mm_yF a) (mm_tyok ha) (mm_nmok ha) hown hK hP hD hS o hat (mm_K_at ha) b hbk (hw _ hl rfl args) (fun _ q => q) hf2 (mm_tyok ha b hbk) q1 q2 hl9 hdg kk
            · exact va_putN hx hb (mm_lays hw ha) (fun _ q => q) (mm_yF a) (mm_tyok ha) (mm_nmok ha) hown hK hP hD hS o hat (mm_K_at ha) b hbk (hw _ hl rfl args) (fun _ q => q) hf2 (mm_tyok ha b hbk) q1 q2 hl9 hdg kk
        · cases h
      · cases h
    · cases h
  · -- iaload
    subst hE
    split at h
    · rename_i i o t
      split at h
      · rename_i hr
        split at h
        · cases h
        · rename_i hin
          cases h
          rcases hr with ⟨hr1 | hr1, hr2⟩
          · have hat := mm_wat1 (r := r) (cA := cA) hr1 hr2
            exact va_iald hx hb hK hP o 0 hat rfl hin hdg (k H locs hP hD hS)
          · exact va_ti hx hb (hO o hr1 hr2) hS hin rfl hdg (k H locs hP hD hS)
      · cases h
    · cases h
  · -- iastore
    subst hE
    split at h
    · rename_i x i o t
      split at h
      · rename_i hr
        split at h
        · cases h
        · rename_i hin
          cases h
          have hat := mm_wat1 (r := r) (cA := cA) hr.1 hr.2
          refine va_iast hx hb hK hP hD hS o 0 hat rfl hin hdg (fun H1 locs1 g1 g2 g3 => ?_)
          rw [mm_wst1 hr.1 hr.2] at g1 g2
          exact k H1 locs1 g1 g2 g3
      · cases h
    · cases h
  · -- baload
    subst hE
    split at h
    · rename_i i o t
      split at h
      · rename_i hr
        split at h
        · cases h
        · rename_i hin
          cases h
          have hat := mm_wat2 (r := r) (cA := cA) hr.1 hr.2
          exact va_bald hx hb hK hP o 1 hat rfl hin hdg (k H locs hP hD hS)
      · split at h
        · rename_i hr
          split at h
          · cases h
          · rename_i hin
            cases h
            have hat := mm_wat3 (r := r) (cA := cA) hr.1 hr.2
            exact va_zald hx hb hK hP o 2 hat rfl hin hdg (k H locs hP hD hS)
        · cases h
    · cases h
  · -- bastore
    subst hE
    split at h
    · rename_i x i o t
      split at h
      · rename_i hr
        split at h
        · cases h
        · rename_i hin
          cases h
          have hat := mm_wat2 (r := r) (cA := cA) hr.1 hr.2
          refine va_bast hx hb hK hP hD hS o 1 hat rfl hin hdg (fun H1 locs1 g1 g2 g3 => ?_)
          rw [mm_wst2 hr.1 hr.2] at g1 g2
          exact k H1 locs1 g1 g2 g3
      · split at h
        · rename_i hr
          split at h
          · cases h
          · rename_i hin
            cases h
            have hat := mm_wat3 (r := r) (cA := cA) hr.1 hr.2
            refine va_zast hx hb hK hP hD hS o 2 hat rfl hin hdg (fun H1 locs1 g1 g2 g3 => ?_)
            rw [mm_wst3 hr.1 hr.2] at g1 g2
            exact k H1 locs1 g1 g2 g3
        · cases h
    · cases h
  · -- laload
    subst hE
    split at h
    · rename_i i o t
      split at h
      · rename_i hr
        split at h
        · cases h
        · rename_i hin
          cases h
          have hat := mm_wat4 (r := r) (cA := cA) hr.1 hr.2
          exact va_lald hx hb hK hP o 3 hat rfl hin hdg (k H locs hP hD hS)
      · cases h
    · cases h
  · -- lastore
    subst hE
    split at h
    · rename_i x i o t
      split at h
      · rename_i hr
        split at h
        · cases h
        · rename_i hin
          cases h
          have hat := mm_wat4 (r := r) (cA := cA) hr.1 hr.2
          refine va_last hx hb hK hP hD hS o 3 hat rfl hin hdg (fun H1 locs1 g1 g2 g3 => ?_)
          rw [mm_wst4 hr.1 hr.2] at g1 g2
          exact k H1 locs1 g1 g2 g3
      · cases h
    · cases h
  · -- arraylength
    subst hE
    split at h
    · rename_i o t
      split at h
      · rename_i hr
        cases h
        rcases hr with ⟨hr1 | hr1, hr2⟩
        · have hat := mm_wat1 (r := r) (cA := cA) hr1 hr2
          exact va_alen hx hb hK hP o 0 hat rfl rfl hdg (k H locs hP hD hS)
        · exact va_tlen hx hb (hO o hr1 hr2) hS rfl hdg (k H locs hP hD hS)
      · split at h
        · rename_i hr
          cases h
          have hat := mm_wat4 (r := r) (cA := cA) hr.1 hr.2
          exact va_alen hx hb hK hP o 3 hat rfl rfl hdg (k H locs hP hD hS)
        · cases h
    · cases h
  · cases h
end MM4
