/-! WHAT HOLDS AROUND A METHOD'S BODY, and the steps that need it -/
section MM7
abbrev mm_A (b : Nat) : Nat → Prop := fun q => b ≤ q
def mm_Sts (r : Nat → Nat) (A : Nat → Prop) (U : State) (H : Heap) : Prop := ∀ (j : Nat) (q : String × String × String), mm_sts[j]? = some q → va_Z q.1 q.2.1 q.2.2 (.ref (r (1000001 + j))) A U H
def mm_Lds (r : Nat → Nat) (U : State) : Prop := ∀ (j : Nat) (q : Nat × Nat × String), mm_lds[j]? = some q → vk_R (mm_RN q.1) q.2.1 q.2.2 (r (1000100 + j)) U
def mm_Mgs (U : State) : Prop := ∀ q ∈ mm_mgs, ∃ sa : Nat, vk_R (mm_RN 11) q.1 q.2 sa U
/-- two of the exceptions aren't one another's kind -/
def mm_Ncs (U : State) : Prop := ∀ x y : Nat, x < 5 → y < 5 → x ≠ y → va_Nc (mm_XN x) (mm_XN y) U
/-- a text of one byte a sign, and its signs -/
def mm_tS (a : Nat) (tx : List Nat) (A : Nat → Prop) (U : State) (H : Heap) : Prop := ∃ (C : Cell) (fV fC : Field) (d : Nat) (SA : Cell), H[a]? = some C ∧ C.vm ≠ .unknown ∧ C.vm.isStatics = false ∧ U.vm.findClass "java/lang/String" = some C.cls ∧
  (∃ c k i, U.fieldFound? "java/lang/String" "value" "[B" = some (c, k, i, fV) ∧ U.vm.assignable C.cls c = true) ∧ (∃ c k i, U.fieldFound? "java/lang/String" "coder" "B" = some (c, k, i, fC) ∧ U.vm.assignable C.cls c = true) ∧ fV.isStatic = false ∧ fC.isStatic = false ∧ C.slots[fV.slot]? = some (.ref d) ∧ C.slots[fC.slot]? = some (.int 0) ∧
  H[d]? = some SA ∧ U.isArrayOf SA .byte ∧ SA.vm ≠ .unknown ∧ SA.slots.size = tx.length ∧ (∀ j : Nat, j < tx.length → SA.slots[j]? = some (.int (Int32.ofNat (tx.getD j 0)))) ∧ ¬ A a ∧ ¬ A d
theorem mm_tS.moved {a : Nat} {tx : List Nat} {A : Nat → Prop} {u U : State} {H : Heap} (hal : u.vm.Alike U.vm) (h : mm_tS a tx A u H) : mm_tS a tx A U H := by
  obtain ⟨C, fV, fC, d, SA, h1, h2, h3, h4, h5, h6, h7, h8, h9, h10, h11, ⟨hst, kA, hkA, comp, hkind⟩, h13, h14, h15, h16, h17⟩ := h
  obtain ⟨kA', hkA', ek⟩ := hal.2.2 _ _ hkA
  exact ⟨C, fV, fC, d, SA, h1, h2, h3, by rw [hal.findClass]; exact h4, Jvm.Free.SBG.found_asg hal h5, Jvm.Free.SBG.found_asg hal h6, h7, h8, h9, h10, h11, ⟨hst, kA', hkA', comp, by rw [ek]; exact hkind⟩, h13, h14, h15, h16, h17⟩
theorem mm_tS.kept {a : Nat} {tx : List Nat} {A : Nat → Prop} {U : State} {H H1 : Heap} (h : mm_tS a tx A U H) (hq : ∀ a : Nat, a < H.size → ¬ A a → H1[a]? = H[a]?) : mm_tS a tx A U H1 := by
  obtain ⟨C, fV, fC, d, SA, h1, h2, h3, h4, h5, h6, h7, h8, h9, h10, h11, h12, h13, h14, h15, h16, h17⟩ := h
  exact ⟨C, fV, fC, d, SA, (hq a (Array.getElem?_eq_some_iff.mp h1).1 h16).trans h1, h2, h3, h4, h5, h6, h7, h8, h9, h10, (hq d (Array.getElem?_eq_some_iff.mp h11).1 h17).trans h11, h12, h13, h14, h15, h16, h17⟩
/-- the texts that are read sign by sign, and what the library reads beside them -/
def mm_Txt (r : Nat → Nat) (A : Nat → Prop) (U : State) (H : Heap) : Prop := (∀ (z : Nat) (tx : List Nat), mm_sx mm_stb z = some tx → mm_tS (r z) tx A U H) ∧ va_Z "java/lang/String" "COMPACT_STRINGS" "Z" (.int 1) A U H ∧ va_Zq "jdk/internal/util/Preconditions" "SIOOBE_FORMATTER" "Ljava/util/function/BiFunction;" A U H
/-- the world's fixed part at a state: the tables' words, the classes, statics, texts -/
def mm_Env (D : va_G) (cA : Nat → ClassId) (r : Nat → Nat) (A : Nat → Prop) (U : State) (H : Heap) : Prop :=
  mm_Wd U ∧ va_K D mm_K (mm_tyl cA) U ∧ mm_Sts r A U H ∧ mm_Lds r U ∧ mm_Mgs U ∧ vx_Zq Bundle.tN "UNASSIGNED_STACK" Bundle.steD A U H ∧ vx_Zq Bundle.tN "SUPPRESSED_SENTINEL" Bundle.listD A U H ∧ mm_Ncs U ∧ mm_Txt r A U H
theorem mm_Env.next {D : va_G} {cA : Nat → ClassId} {r : Nat → Nat} {A : Nat → Prop} {s U : State} {H : Heap} (h : mm_Env D cA r A s s.heap) (hW : s.WarmedH U.vm) (hq : ∀ a : Nat, a < s.heap.size → ¬ A a → H[a]? = s.heap[a]?) : mm_Env D cA r A U H := by
  obtain ⟨h1, h2, h3, h4, h5, h6, h7, h8, h9⟩ := h
  exact ⟨h1.warm hW, va_K.moved hW.alike h2, fun j q hj => va_Z.moved hW.alike (va_Z.kept (h3 j q hj) hq), fun j q hj => vk_R.warm hW (h4 j q hj), fun q hj => by
    obtain ⟨sa, g⟩ := h5 q hj
    exact ⟨sa, vk_R.warm hW g⟩, vx_Zq.moved hW.alike (vx_Zq.kept h6 hq), vx_Zq.moved hW.alike (vx_Zq.kept h7 hq), fun x y q1 q2 q3 => va_Nc.moved hW.alike (h8 x y q1 q2 q3), fun z tx hz => mm_tS.moved hW.alike (mm_tS.kept (h9.1 z tx hz) hq), va_Z.moved hW.alike (va_Z.kept h9.2.1 hq), va_Zq.moved hW.alike (va_Zq.kept h9.2.2 hq)⟩
theorem mm_Old.next {r : Nat → Nat} {A : Nat → Prop} {μ μ' : mm_M} {s U : State} {H : Heap} (h : mm_Old r A μ s s.heap) (hi : mm_Inv μ μ') (hW : s.WarmedH U.vm) (hq : ∀ a : Nat, a < s.heap.size → ¬ A a → H[a]? = s.heap[a]?) : mm_Old r A μ' U H := by
  intro o ho ht
  obtain ⟨e1, e2⟩ := hi.1 o ho
  have e3 : mm_gt μ' o = mm_gt μ o := e1
  have e4 : (fun j => Value.int (mm_gi μ' o j)) = fun j => Value.int (mm_gi μ o j) := by
    funext j
    show Value.int (μ'.2.1 o j) = Value.int (μ.2.1 o j)
    rw [e2]
  rw [e3, e4]
  rw [e3] at ht
  exact va_T.moved hW.alike (va_T.kept (h o ho ht) hq)
theorem mm_Old.step {r : Nat → Nat} {A : Nat → Prop} {μ μ' : mm_M} {s : State} (h : mm_Old r A μ s s.heap) (hi : mm_Inv μ μ') : mm_Old r A μ' s s.heap := h.next hi (State.WarmedH.refl s) (fun _ _ _ => rfl)
/-- the known cells are apart, and behind b -/
theorem mm_D {b : Nat} {r : Nat → Nat} {cA : Nat → ClassId} {μ : mm_M} (hr : ∀ k, k < 1000000 → r k = b + k) (hn : mm_nx μ ≤ 1000) : va_D (mm_A b) (mm_ws r cA μ) := by
  have key : ∀ (k : Nat) (q : Nat × va_E), (mm_ws r cA μ)[k]? = some q → k < mm_nx μ ∧ q.1 = b + k := by
    intro k q hk
    unfold mm_ws at hk
    rw [List.getElem?_map] at hk
    by_cases hl : k < mm_nx μ
    · rw [List.getElem?_range hl] at hk
      cases hk
      exact ⟨hl, hr k (by omega)⟩
    · rw [List.getElem?_eq_none (by simp; omega)] at hk
      cases hk
  refine ⟨fun i j x y hi hj hxy => ?_, fun k q hk => ?_⟩
  · have h1 := key i x hi
    have h2 := key j y hj
    omega
  · have h1 := key k q hk
    show b ≤ q.1
    omega
/-- the method k of the tables is what runs here -/
def mm_Cx (p : Program) (l : Launch) (R : Room) (s : State) (m : MethodId) (meth : Method) (c : Code) (k : Nat) : Prop :=
  p.tables.exec = Jvm.exec ∧ c.code = mm_B k ∧ c.maxLocals = mm_ml k ∧ s.vm.findClass (mm_RN (mm_ow k)) = some m.cls ∧ meth.sig.returnType = mm_T k ∧ meth.locks = false ∧ (mm_in k = true → meth.name = "<init>") ∧ c.exceptionTable.toList = tableOf (mm_hh k) ∧ mm_fr k ≤ R.frames ∧ mm_lo k ≤ R.locals ∧ l.stackTraces = false
/-- what the tables say of an entry: constants, statics, new cells, the library's own -/
def mm_NOK (k : Nat) (en : mm_E) : Prop := match en.1 with
  | .ldc i => (∃ x, en.2.2.2.2 = .int x ∧ Cond.constant (mm_RN (mm_ow k)) i x ∈ lw_tbl) ∨ ∃ (j z : Nat) (tx : String), en.2.2.2.2 = .ref z ∧ z = 1000100 + j ∧ mm_lds[j]? = some (mm_ow k, i, tx)
  | .ldc_w i => ∃ x, en.2.2.2.2 = .int x ∧ Cond.constant (mm_RN (mm_ow k)) i x ∈ lw_tbl
  | .ldc2_w i => ∃ x, en.2.2.2.2 = .long x ∧ Cond.constantLong (mm_RN (mm_ow k)) i x ∈ lw_tbl
  | .getstatic i => ∃ j q, mm_sts[j]? = some q ∧ en.2.2.2.2 = .ref (1000001 + j) ∧ Cond.fieldLink (mm_RN (mm_ow k)) i q.1 q.2.1 q.2.2 ∈ lw_tbl
  | .new i => en.2.2.1 < 13 → Cond.classLink (mm_RN (mm_ow k)) i (mm_RN en.2.2.1) ∈ lw_tbl ∧ Cond.instantiable (mm_RN en.2.2.1) (mm_nf en.2.2.1) ∈ lw_tbl ∧ Cond.initialized (mm_RN en.2.2.1) ∈ lw_tbl
  | .invokespecial i => en.2.2.1 = 903 → Cond.methodLink (mm_RN (mm_ow k)) i objectInit ∈ lw_tbl ∧ 1 ≤ mm_fr k ∧ 20 ≤ mm_lo k
  | .invokestatic i => (en.2.2.1 = 902 → Cond.methodLink (mm_RN (mm_ow k)) i arraycopyName ∈ lw_tbl ∧ 1 ≤ mm_fr k ∧ 26 ≤ mm_lo k) ∧ (en.2.2.1 = 904 → Cond.methodLink (mm_RN (mm_ow k)) i Lib.Math.max.name ∈ lw_tbl ∧ 1 ≤ mm_fr k ∧ 26 ≤ mm_lo k) ∧ (en.2.2.1 = 905 → Cond.methodLink (mm_RN (mm_ow k)) i Lib.Math.min.name ∈ lw_tbl ∧ 1 ≤ mm_fr k ∧ 26 ≤ mm_lo k)
  | .ireturn => en.2.1 = 1
  | .lreturn => en.2.1 = 1
  | .areturn => en.2.1 = 1
  | .return_ => en.2.1 = 1
  | _ => True
/-- words that are in the tables once -/
def mm_One : Prop := Cond.instanceMethod objectInit ∈ lw_tbl ∧ Cond.code objectInit ⟨#[0xb1]⟩ 1 none ∈ lw_tbl ∧ Cond.native arraycopyName ∈ lw_tbl ∧ Cond.static arraycopyName ∈ lw_tbl ∧ Cond.initialized "java/lang/System" ∈ lw_tbl ∧ Cond.arrayClass .int ∈ lw_tbl ∧ Cond.arrayClass .byte ∈ lw_tbl ∧ Cond.arrayClass .boolean ∈ lw_tbl ∧ Cond.arrayClass .long ∈ lw_tbl ∧ Cond.initialized "java/lang/Math" ∈ lw_tbl ∧ Cond.static Lib.Math.max.name ∈ lw_tbl ∧ Cond.static Lib.Math.min.name ∈ lw_tbl ∧ Cond.code Lib.Math.max.name Lib.Math.max.code 2 (some .int) ∈ lw_tbl ∧ Cond.code Lib.Math.min.name Lib.Math.min.code 2 (some .int) ∈ lw_tbl
variable {p : Program} {l : Launch} {e : Env} {R : Room} {s : State} {m : MethodId} {args : Array Value} {below : List Frame} {meth : Method} {c : Code} {H : Heap} {locs : List Loc} {cells slots : Nat} {Q : State → Prop}
variable {pc : Nat} {ls : Array Slot} {r : Nat → Nat} {cA : Nat → ClassId} {D : va_G} {b : Nat} {μ μ' : mm_M} {k : Nat}
/-- a new cell lies where the memory says -/
theorem mm_newq {q : Nat} {en : va_E} {H1 : Heap} {T : State} (hr : ∀ k, k < 1000000 → r k = b + k) (hn : mm_nx μ < 1000) (hP : va_P D mm_K (mm_ws r cA μ ++ [(q, en)]) H1) (hD : va_D (mm_A b) (mm_ws r cA μ ++ [(q, en)])) (hT : T.heap = H1) (X : Stand p l e R s m args below meth c T locs cells slots) (hUp : s.heap.size + cells ≤ b + mm_nx μ + 1) : q = b + mm_nx μ := by
  have hlen : (mm_ws r cA μ).length = mm_nx μ := by simp [mm_ws]
  have hlast : (mm_ws r cA μ ++ [(q, en)])[mm_nx μ]? = some (q, en) := by
    rw [List.getElem?_append_right (by omega), hlen, Nat.sub_self]
    rfl
  have h1 : q < H1.size := (hP _ _ hlast).lt
  have h2 : b ≤ q := hD.2 _ _ hlast
  have h3 := X.heapSize
  rw [hT] at h3
  by_cases h4 : q < b + mm_nx μ
  · have h5 : (mm_ws r cA μ ++ [(q, en)])[q - b]? = some (r (q - b), mm_cell r cA μ (q - b)) := by
      rw [List.getElem?_append_left (by omega)]
      exact mm_ws_at (by omega)
    have h6 := hD.1 (q - b) (mm_nx μ) _ _ h5 hlast (by show r (q - b) = q; rw [hr _ (by omega)]; omega)
    omega
  · omega
theorem mm_def {ci j : Nat} (ha : ci < 13) (hj : j < mm_nf ci) (hle : mm_ty ci j ≤ 3) : defaultValue (mm_yF ci j) = vp_V (mm_fsOf r ci (fun _ => 0) (fun _ => 0) (fun _ => .null)) j := by
  have h1 := (mm_fd ha j hj).1
  unfold vp_V
  rw [List.getD_eq_getElem?_getD, mm_fsOf_at hj]
  simp only [Option.getD_some]
  unfold mm_fvOf
  rcases (show mm_ty ci j = 0 ∨ mm_ty ci j = 1 ∨ mm_ty ci j = 2 ∨ mm_ty ci j = 3 by omega) with h | h | h | h
  · rw [h] at h1 ⊢; rw [mm_tyF_0 h1]; rfl
  · rw [h] at h1 ⊢; rw [mm_tyF_1 h1]; rfl
  · rw [h] at h1 ⊢; rw [mm_tyF_2 h1]; rfl
  · rw [h] at h1 ⊢
    rcases mm_tyF_3 h1 with ⟨n, e1⟩ | ⟨u, e1⟩ <;> rw [e1] <;> rfl
theorem mm_cell_new {t : Nat × Nat} {n : Nat} : mm_cell r cA (mm_al μ t n) (mm_nx μ) = mm_cellOf r cA t (fun _ => 0) (fun _ => 0) (fun _ => .null) := by
  unfold mm_cell mm_al
  simp only [mm_up_s]
end MM7
