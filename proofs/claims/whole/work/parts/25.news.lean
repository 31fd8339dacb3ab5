section MM8
theorem mm_tyle : ∀ o, o < 13 → ∀ k, k < mm_nf o → mm_ty o k ≤ 3 := by decide +kernel
variable {p : Program} {l : Launch} {e : Env} {R : Room} {s : State} {m : MethodId} {args : Array Value} {below : List Frame} {meth : Method} {c : Code} {H : Heap} {locs : List Loc} {cells slots : Nat} {Q : State → Prop}
variable {pc : Nat} {ls : Array Slot} {r : Nat → Nat} {cA : Nat → ClassId} {D : va_G} {b : Nat} {μ μ' : mm_M} {k : Nat}
theorem mm_cAeq {ty : FieldType} {i : Nat} {x : ClassId} (hK : va_K D mm_K (mm_tyl cA) s) (hK2 : va_K D mm_K (mm_tyl cA ++ [(x, ty)]) s) (hi : (mm_tyl cA)[i]? = some (cA (i + 1), ty)) (hp : ty = .int ∨ ty = .byte ∨ ty = .boolean ∨ ty = .long) : x = cA (i + 1) := by
  have h1 := (hK.2 i _ hi).2
  have h2 := (hK2.2 4 _ (rfl : (mm_tyl cA ++ [(x, ty)])[4]? = some (x, ty))).2
  rcases hp with rfl | rfl | rfl | rfl <;> exact Option.some.inj (h2.symm.trans h1)
theorem mm_okNA {atype : ArrayType} {ty : FieldType} {tg i : Nat} {f0 : vp_A} {n : Int32} {rs : List Value} (hx : p.tables.exec = Jvm.exec) (hb : c.code = mm_B k) (harr : (Cond.arrayClass (newarray.typeOf atype)).before args s = true) (hty : newarray.typeOf atype = ty) (hK : va_K D mm_K (mm_tyl cA) s)
    (hr : ∀ k, k < 1000000 → r k = b + k) (hbs : b ≤ s.heap.size) (hn9 : mm_nx μ < 1000) (hP : va_P D mm_K (mm_ws r cA μ) H) (hS : va_S (mm_A b) s.heap H locs) (hUp : s.heap.size + cells ≤ b + mm_nx μ)
    (e3 : (mm_tyl cA)[i]? = some (cA (i + 1), ty)) (e4 : ty = .int ∨ ty = .byte ∨ ty = .boolean ∨ ty = .long) (e5 : mm_cellOf r cA (tg, n.toNatClampNeg) (fun _ => 0) (fun _ => 0) (fun _ => .null) = .inl (cA (i + 1), f0)) (e6 : ∀ x : ClassId, vp_cell x f0 = arrV x n.toNatClampNeg (fun _ => defaultValue ty))
    (hn0 : ¬ n < 0) (hby : n.toNatClampNeg * componentBytes ty ≤ 536870912) (hdg : decode (mm_B k) pc = .ok (.newarray atype, 2)) (hc : cells + 1 ≤ R.cells) (hs : slots + n.toNatClampNeg ≤ R.slots)
    (kk : ∀ (H' : Heap), va_P D mm_K (mm_ws r cA (mm_al μ (tg, n.toNatClampNeg) n.toNatClampNeg)) H' → va_S (mm_A b) s.heap H' locs → W p l e R s m args below meth c H' locs (cells + 1) (slots + n.toNatClampNeg) Q (F0 m (pc + 2) ls ((Value.ref (mm_nx μ) :: rs).map (mm_cv r)))) :
    W p l e R s m args below meth c H locs cells slots Q (F0 m pc ls ((Value.int n :: rs).map (mm_cv r))) := by
  have hD := mm_D (b := b) (cA := cA) hr (Nat.le_of_lt hn9)
  have hA : ∀ q, s.heap.size ≤ q → mm_A b q := fun q hq => Nat.le_trans hbs hq
  refine va_newa hx hb harr hty hK hP hD hS hA (a0 := f0) e6 hn0 rfl hby hc hs hdg (fun q x H1 gK g1 g2 g3 => ?_)
  intro T hT X
  have hq := mm_newq hr hn9 g1 g2 hT X (by omega)
  have hq2 : r (mm_nx μ) = q := by rw [hr _ (by omega), hq]
  have hxc := mm_cAeq hK gK e3 e4
  subst hxc
  have hpu := mm_ws_push (r := r) (cA := cA) (μ := μ) (μ' := mm_al μ (tg, n.toNatClampNeg) n.toNatClampNeg) (e := .inl (cA (i + 1), f0)) rfl hq2 (by rw [mm_cell_new]; exact e5) (fun j hj => mm_cell_al j hj)
  rw [hpu] at g1
  have k2 := kk H1 g1 g3
  have e9 : (Value.ref (mm_nx μ) :: rs).map (mm_cv r) = Value.ref q :: rs.map (mm_cv r) := by
    show Value.ref (r (mm_nx μ)) :: _ = _
    rw [hq2]
  rw [e9] at k2
  exact k2 T hT X
theorem mm_okNO {i a : Nat} {S : List Value} (hx : p.tables.exec = Jvm.exec) (hb : c.code = mm_B k) (hw : mm_Wd s) (hown : s.vm.findClass (mm_RN (mm_ow k)) = some m.cls) (hK : va_K D mm_K (mm_tyl cA) s) (ha : a < 13) (w1 : Cond.classLink (mm_RN (mm_ow k)) i (mm_RN a) ∈ lw_tbl) (w2 : Cond.instantiable (mm_RN a) (mm_nf a) ∈ lw_tbl) (w3 : Cond.initialized (mm_RN a) ∈ lw_tbl)
    (hr : ∀ k, k < 1000000 → r k = b + k) (hbs : b ≤ s.heap.size) (hn9 : mm_nx μ < 1000) (hP : va_P D mm_K (mm_ws r cA μ) H) (hS : va_S (mm_A b) s.heap H locs) (hUp : s.heap.size + cells ≤ b + mm_nx μ) (hdg : decode (mm_B k) pc = .ok (.new i, 3)) (hc : cells + 1 ≤ R.cells) (hs : slots + mm_nf a ≤ R.slots)
    (kk : ∀ (H' : Heap), va_P D mm_K (mm_ws r cA (mm_al μ (10 + a, 0) (mm_nf a))) H' → va_S (mm_A b) s.heap H' locs → W p l e R s m args below meth c H' locs (cells + 1) (slots + mm_nf a) Q (F0 m (pc + 3) ls ((Value.ref (mm_nx μ) :: S).map (mm_cv r)))) :
    W p l e R s m args below meth c H locs cells slots Q (F0 m pc ls (S.map (mm_cv r))) := by
  have hD := mm_D (b := b) (cA := cA) hr (Nat.le_of_lt hn9)
  have hA : ∀ q, s.heap.size ≤ q → mm_A b q := fun q hq => Nat.le_trans hbs hq
  refine va_new (fs := mm_fsOf r a (fun _ => 0) (fun _ => 0) (fun _ => .null)) hx hb (mm_lays hw ha) (fun _ q => q) (mm_yF a) (mm_tyok ha) hown (hw _ w1 rfl args) (hw _ w2 rfl args) (hw _ w3 rfl args) hK hP hD hS hA (mm_K_at ha) (fun j hj => mm_def ha hj (mm_tyle a ha j hj)) hc hs hdg (fun q H1 g1 g2 g3 => ?_)
  intro T hT X
  have hq := mm_newq hr hn9 g1 g2 hT X (by omega)
  have hq2 : r (mm_nx μ) = q := by rw [hr _ (by omega), hq]
  have hpu := mm_ws_push (r := r) (cA := cA) (μ := μ) (μ' := mm_al μ (10 + a, 0) (mm_nf a)) (e := .inr (a, mm_fsOf r a (fun _ => 0) (fun _ => 0) (fun _ => .null))) rfl hq2 (by rw [mm_cell_new]; exact mm_cellOf_o rfl) (fun j hj => mm_cell_al j hj)
  rw [hpu] at g1
  have k2 := kk H1 g1 g3
  have e9 : (Value.ref (mm_nx μ) :: S).map (mm_cv r) = Value.ref q :: S.map (mm_cv r) := by
    show Value.ref (r (mm_nx μ)) :: _ = _
    rw [hq2]
  rw [e9] at k2
  exact k2 T hT X
theorem mm_wsa1 {o : Nat} {f : Nat → Int32} (h1 : o < mm_nx μ) (h2 : (mm_gt μ o).1 = 1) : (mm_ws r cA μ).set o (r o, .inl (cA 1, (mm_gt μ o).2, .inl f)) = mm_ws r cA (mm_sa μ o f) := by
  refine mm_ws_set rfl h1 ?_ (fun j hj => mm_cell_sa j hj)
  unfold mm_cell mm_sa
  dsimp only
  rw [mm_cellOf_1 (t := μ.1 o) h2, mm_up_s]
  rfl
/-- what is asked of the library's texts: length() and charAt() -/
def mm_SR (l : Launch) : Prop := ∀ (p : Program) (e : Env) (R : Room) (s : State) (m : MethodId) (args : Array Value) (below : List Frame) (meth : Method) (c : Code) (H : Heap) (locs : List Loc) (cells slots : Nat) (Q : State → Prop) (pc : Nat) (ls : Array Slot) (r : Nat → Nat) (cA : Nat → ClassId) (D : va_G) (b : Nat) (μ : mm_M) (k : Nat) (en : mm_E) (S S' : List Value) (i : Nat),
  mm_Cx p l R s m meth c k → mm_Env D cA r (mm_A b) s s.heap → mm_at k pc = some en → en.1 = .invokevirtual i → mm_sG en S = some S' → decode (mm_B k) pc = .ok (en.1, en.2.1) → va_S (mm_A b) s.heap H locs → b ≤ s.heap.size → ls.size = mm_ml k → cells ≤ R.cells → slots ≤ R.slots →
  W p l e R s m args below meth c H locs cells slots Q (F0 m (pc + en.2.1) ls (S'.map (mm_cv r))) → W p l e R s m args below meth c H locs cells slots Q (F0 m pc ls (S.map (mm_cv r)))
theorem mm_wt {S : List Value} : ((S.map (mm_cv r)).map (fun v => v.category)).sum = (S.map (fun v => v.category)).sum := by
  rw [List.map_map]
  congr 1
  apply List.map_congr_left
  intro v _
  exact mm_cv_cat r v
theorem mm_okNL {z i : Nat} {tx : String} {S : List Value} (hx : p.tables.exec = Jvm.exec) (hb : c.code = mm_B k) (hown : s.vm.findClass (mm_RN (mm_ow k)) = some m.cls) (hz : vk_R (mm_RN (mm_ow k)) i tx (r z) s) (hdg : decode (mm_B k) pc = .ok (.ldc i, 2))
    (kk : W p l e R s m args below meth c H locs cells slots Q (F0 m (pc + 2) ls ((Value.ref z :: S).map (mm_cv r)))) : W p l e R s m args below meth c H locs cells slots Q (F0 m pc ls (S.map (mm_cv r))) := va_ldcS hx hb hown hz hdg kk
theorem mm_okNLd {i : Nat} {v0 : Value} {S : List Value} (hx : p.tables.exec = Jvm.exec) (hb : c.code = mm_B k) (hown : s.vm.findClass (mm_RN (mm_ow k)) = some m.cls) (hLd : mm_Lds r s) (h : ∃ (j z : Nat) (tx : String), v0 = .ref z ∧ z = 1000100 + j ∧ mm_lds[j]? = some (mm_ow k, i, tx)) (hdg : decode (mm_B k) pc = .ok (.ldc i, 2))
    (kk : W p l e R s m args below meth c H locs cells slots Q (F0 m (pc + 2) ls ((v0 :: S).map (mm_cv r)))) : W p l e R s m args below meth c H locs cells slots Q (F0 m pc ls (S.map (mm_cv r))) := by
  obtain ⟨j, z, tx, rfl, hz, hj⟩ := h
  have h2 := hLd j (mm_ow k, i, tx) hj
  rw [← hz] at h2
  exact mm_okNL hx hb hown h2 hdg kk
theorem mm_okNI {i : Nat} {o : Nat} {rs : List Value} (hx : p.tables.exec = Jvm.exec) (hb : c.code = mm_B k) (hml : c.maxLocals = mm_ml k) (hown : s.vm.findClass (mm_RN (mm_ow k)) = some m.cls) (w1 : (Cond.methodLink (mm_RN (mm_ow k)) i objectInit).before args s = true) (w2 : (Cond.instanceMethod objectInit).before args s = true) (w3 : (Cond.code objectInit ⟨#[0xb1]⟩ 1 none).before args s = true)
    (hsz : ls.size = mm_ml k) (hdg : decode (mm_B k) pc = .ok (.invokespecial i, 3)) (hf : 1 ≤ R.frames) (hlo : 20 ≤ R.locals) (hwt : (rs.map (fun v => v.category)).sum ≤ 8)
    (kk : W p l e R s m args below meth c H locs cells slots Q (F0 m (pc + 3) ls (rs.map (mm_cv r)))) : W p l e R s m args below meth c H locs cells slots Q (F0 m pc ls ((Value.ref o :: rs).map (mm_cv r))) := by
  refine W.objInit (g := F0 m pc ls ((Value.ref o :: rs).map (mm_cv r))) (a := r o) (rest := rs.map (mm_cv r)) hx hb hown w1 w2 w3 rfl (hsz.trans hml.symm) rfl hdg hf ?_ kk
  have h9 : 2 * (F0 m pc ls ((Value.ref o :: rs).map (mm_cv r))).monitorRoom + ((rs.map (mm_cv r)).map fun v => v.category).sum ≤ 8 := lv_room (by rw [mm_wt]; exact hwt)
  omega
theorem mm_okNC {i : Nat} {n dp sp : Int32} {o d : Nat} {rs : List Value} (hx : p.tables.exec = Jvm.exec) (hb : c.code = mm_B k) (hml : c.maxLocals = mm_ml k) (hown : s.vm.findClass (mm_RN (mm_ow k)) = some m.cls) (w1 : (Cond.methodLink (mm_RN (mm_ow k)) i arraycopyName).before args s = true) (wC1 : (Cond.native arraycopyName).before args s = true) (wC2 : (Cond.static arraycopyName).before args s = true) (wC3 : (Cond.initialized "java/lang/System").before args s = true)
    (hK : va_K D mm_K (mm_tyl cA) s) (hr : ∀ k, k < 1000000 → r k = b + k) (hnx : mm_nx μ ≤ 1000) (hP : va_P D mm_K (mm_ws r cA μ) H) (hS : va_S (mm_A b) s.heap H locs)
    (hsz : ls.size = mm_ml k) (hdg : decode (mm_B k) pc = .ok (.invokestatic i, 3)) (hf : 1 ≤ R.frames) (hlo : 26 ≤ R.locals)
    (q1 : mm_wr μ o 1) (q2 : mm_wr μ d 1) (q3 : ¬ sp < 0) (q4 : ¬ dp < 0) (q5 : ¬ n < 0) (q6 : sp.toNatClampNeg + n.toNatClampNeg ≤ (mm_gt μ o).2) (q7 : dp.toNatClampNeg + n.toNatClampNeg ≤ (mm_gt μ d).2) (q8 : (rs.map (fun v => v.category)).sum ≤ 8)
    (kk : ∀ (H' : Heap) (locs' : List Loc), va_P D mm_K (mm_ws r cA (mm_sa μ d (va_cpy (μ.2.1 o) (μ.2.1 d) sp.toNatClampNeg dp.toNatClampNeg n.toNatClampNeg))) H' → va_S (mm_A b) s.heap H' locs' → W p l e R s m args below meth c H' locs' cells slots Q (F0 m (pc + 3) ls (rs.map (mm_cv r)))) :
    W p l e R s m args below meth c H locs cells slots Q (F0 m pc ls ((Value.int n :: Value.int dp :: Value.ref d :: Value.int sp :: Value.ref o :: rs).map (mm_cv r))) := by
  have hD := mm_D (b := b) (cA := cA) hr hnx
  have hfit : ∀ j, j < n.toNatClampNeg → fits .int (.int ((μ.2.1 o) (sp.toNatClampNeg + j))) = true := fun _ _ => rfl
  refine va_copyi (rest := rs.map (mm_cv r)) (ty := .int) (q0 := o) (q1 := d) (t0 := 0) (t1 := 0) (a0 := r o) (c0 := cA 1) (c1 := cA 1) (f := μ.2.1 o) (g := μ.2.1 d) hx hb (hml.trans hsz.symm) hown w1 wC1 wC2 wC3 hK hP hD hS (mm_wat1 q1.1 q1.2) (mm_wat1 q2.1 q2.2) rfl rfl rfl q3 q4 q5 q6 q7 hfit hf ?_ hdg (fun H1 locs1 g1 g2 g3 => ?_)
  · rw [mm_wt]
    have h9 : nativeFrameWords "java/lang/System" "arraycopy" 5 = 7 := by decide
    omega
  · rw [mm_wsa1 q2.1 q2.2] at g1
    exact kk H1 locs1 g1 g3
end MM8
