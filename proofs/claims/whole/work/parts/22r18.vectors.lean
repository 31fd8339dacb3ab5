/-! VECTORS: the whole policy -/
section MM77
variable {p w : Bool} {l : Nat → Nat → Int64} {e : Bool × Nat × Nat} {π : mP} {m : Nat}
/-- an operation in the class's codes -/
def oC (op : mO) : List (Nat × Int32) := match op.1 with
  | 0 => [(7, 0)]
  | 1 => [(6, 0)]
  | 2 => [(5, 0)]
  | c + 3 => (c, op.2.2) :: (if op.2.1 = true then [(7, 0)] else [])
def oCs (ops : List mO) : List (Nat × Int32) := ops.flatMap oC
theorem cRun_app (a b : Nat) (x y : List (Nat × Int32)) (st : List Bool) : cRun a b (x ++ y) st = cRun a b y (cRun a b x st) := by
  unfold cRun; rw [List.foldl_append]
theorem oC_run (a b : Nat) (op : mO) (h : op.1 ≤ 7) (st : List Bool) : cRun a b (oC op) st = oEv a b op st := by
  obtain ⟨c, ng, mk⟩ := op
  dsimp only at h
  rcases (show c = 0 ∨ c = 1 ∨ c = 2 ∨ c = 3 ∨ c = 4 ∨ c = 5 ∨ c = 6 ∨ c = 7 by omega) with rfl | rfl | rfl | rfl | rfl | rfl | rfl | rfl
  · rfl
  · rfl
  · rfl
  · cases ng
    · show [decide _] ++ st = _ :: st
      simp [oAt]
    · show [! decide _] ++ st = _ :: st
      simp [oAt]
  · cases ng
    · show [decide _] ++ st = _ :: st
      simp [oAt]
    · show [! decide _] ++ st = _ :: st
      simp [oAt]
  · cases ng
    · show [decide _] ++ st = _ :: st
      simp [oAt]
    · show [! decide _] ++ st = _ :: st
      simp [oAt]
  · cases ng
    · show [mB _ _] ++ st = _ :: st
      simp [oAt]
    · show [! mB _ _] ++ st = _ :: st
      simp [oAt]
  · cases ng
    · show [mB _ _] ++ st = _ :: st
      simp [oAt]
    · show [! mB _ _] ++ st = _ :: st
      simp [oAt]
theorem oCs_run (a b : Nat) : ∀ (ops : List mO) (h : Nat) (st : List Bool), oOk h ops → cRun a b (oCs ops) st = oRun a b ops st
  | [], _, st, _ => rfl
  | op :: r, h, st, ho => by
    have e1 : oCs (op :: r) = oC op ++ oCs r := rfl
    rw [e1, cRun_app, oC_run a b op ho.1]
    have e2 : oRun a b (op :: r) st = oRun a b r (oEv a b op st) := rfl
    rw [e2]
    obtain ⟨h1, h2⟩ := ho
    split at h2
    · exact oCs_run a b r _ _ h2.2
    · split at h2
      · exact oCs_run a b r _ _ h2.2
      · exact oCs_run a b r _ _ h2.2
theorem oCs_ok : ∀ (ops : List mO) (h : Nat), oOk h ops → cOk h (oCs ops)
  | [], h, ho => ho
  | op :: r, h, ho => by
    obtain ⟨c, ng, mk⟩ := op
    obtain ⟨h1, h2⟩ := ho
    dsimp only at h1 h2
    have e1 : oCs ((c, ng, mk) :: r) = oC (c, ng, mk) ++ oCs r := rfl
    rw [e1]
    rcases (show c = 0 ∨ c = 1 ∨ c = 2 ∨ 3 ≤ c by omega) with rfl | rfl | rfl | h3
    · have h2 : 1 ≤ h ∧ oOk h r := h2
      exact ⟨by decide, h2.1, oCs_ok r h h2.2⟩
    · have h2 : 2 ≤ h ∧ oOk (h - 1) r := h2
      exact ⟨by decide, h2.1, oCs_ok r _ h2.2⟩
    · have h2 : 2 ≤ h ∧ oOk (h - 1) r := h2
      exact ⟨by decide, h2.1, oCs_ok r _ h2.2⟩
    · obtain ⟨c8, rfl⟩ : ∃ c8, c = c8 + 3 := ⟨c - 3, by omega⟩
      rw [if_neg (by omega), if_neg (by omega)] at h2
      have ih := oCs_ok r (h + 1) h2.2
      have e2 : oC (c8 + 3, ng, mk) = (c8, mk) :: (if ng = true then [(7, 0)] else []) := rfl
      rw [e2]
      refine ⟨by dsimp only; omega, ?_⟩
      dsimp only
      rw [if_neg (by omega), if_neg (by omega)]
      refine ⟨h2.1, ?_⟩
      cases ng
      · exact ih
      · exact ⟨by decide, by omega, ih⟩
def PC (p : Bool) (i : Nat → Nat → Int32) (π : mP) : Prop := PC0 p i π ∧ ∀ k, k < pN π 6 → i (mm_P p + 14) k = nI (pT π k).1 ∧ i (mm_P p + 15) k = (pT π k).2.1 ∧ ∃ s, i (mm_P p + 16) k = nI s ∧ i (mm_P p + 16) (k + 1) = nI (s + (oCs (pT π k).2.2).length) ∧ s + (oCs (pT π k).2.2).length ≤ 1200 ∧ cSeg p i s (oCs (pT π k).2.2)
def PR (i : Nat → Nat → Int32) (π : mP) : Prop := PR0 i π ∧ ∀ k, k < pN π 6 → i 106 k = nI (pT π k).1 ∧ i 107 k = (pT π k).2.1 ∧ ∃ s, i 108 k = nI s ∧ i 108 (k + 1) = nI (s + (pT π k).2.2.length) ∧ s + (pT π k).2.2.length ≤ 1300 ∧ rSeg i s (pT π k).2.2
def PO (π : mP) : Prop := ∀ k, k < pN π 6 → oOk 0 (pT π k).2.2
/-- does limit k hold? -/
def pHo (π : mP) (k a b : Nat) : Bool := (oRun a b (pT π k).2.2 []).headD false
def pLi (π : mP) (a b cl : Nat) : Nat → Nat → Int32 → Int32
  | 0, _, x => x
  | D + 1, k, x => pLi π a b cl D (k + 1) (if (pT π k).1 = cl ∧ pHo π k a b = false then x &&& ((pT π k).2.1 ^^^ (-1)) else x)
def pVec (π : mP) (a b cl : Nat) : Int32 := pLi π a b cl (pN π 6) 0 (pRuled π 0 (a % 100) (b % 100) cl)
theorem pc_li_loop {i : Nat → Nat → Int32} (h : PC p i π) (hw : PW π) (ho : PO π) {a b cl : Nat} (ha : a < 2 ^ 31) (hb : b < 2 ^ 31) (hcl : cl < 2 ^ 31) : ∀ (D k : Nat) (x : Int32), k + D = pN π 6 → mm_V 119 13 [some (.ref (mm_P p)), some (.int (nI a)), some (.int (nI b)), some (.int (nI cl)), some (.int x), some (.int (nI k))] [] (mm_Z m w i l e) = some (.inl (some (.int (pLi π a b cl D k x))), mm_Z m w i l e)
  | 0, k, x, hk => by
    have h6 : pN π 6 ≤ 8 := hw.2.2.2.2.2.2.1
    rw [mr_119_13]
    simp only [h.1.1 6 (by omega), nI_ltI (show k < 2 ^ 31 by omega) (show pN π 6 < 2 ^ 31 by omega)]
    rw [if_neg (by omega)]
    rfl
  | D + 1, k, x, hk => by
    have h6 : pN π 6 ≤ 8 := hw.2.2.2.2.2.2.1
    have hcl2 := hw.2.2.2.2.2.2.2.2.2.2 k (by omega)
    obtain ⟨r1, r2, s, r3, r4, r5, r6⟩ := h.2 k (by omega)
    have ho8 : ¬ mm_out (nI k) 8 := no_out (by omega) (by omega)
    rw [mr_119_13]
    simp only [h.1.1 6 (by omega), nI_ltI (show k < 2 ^ 31 by omega) (show pN π 6 < 2 ^ 31 by omega), nI_clamp (show k < 2 ^ 31 by omega), r1, nI_eq (show (pT π k).1 < 2 ^ 31 by omega) hcl, if_neg ho8, nI_1]
    rw [if_pos (by omega), pLi]
    have ih := fun x => pc_li_loop h hw ho ha hb hcl D (k + 1) x (by omega)
    by_cases q1 : (pT π k).1 = cl
    · have e1 : (cRun a b (oCs (pT π k).2.2) []).headD false = pHo π k a b := by
        rw [oCs_run a b _ 0 [] (ho k (by omega))]; rfl
      rw [if_pos q1, pc_holds (by omega) ha hb r6 r3 r4 r5 (oCs_ok _ 0 (ho k (by omega))), mb_l, mb_v, mr_119_44, e1]
      simp only [bI_0, if_neg ho8, nI_clamp (show k < 2 ^ 31 by omega), r2, nI_1]
      by_cases q2 : pHo π k a b = false
      · rw [if_pos q2, if_pos ⟨q1, q2⟩]; exact ih _
      · rw [if_neg q2, if_neg (fun z => q2 z.2)]; exact ih _
    · rw [if_neg q1, if_neg (fun z => q1 z.1)]; exact ih _
theorem pc_vectorOf {i : Nat → Nat → Int32} (h : PC p i π) (hw : PW π) (ho : PO π) {a b cl : Nat} (ha : a < 2 ^ 31) (hb : b < 2 ^ 31) (hcl : cl < 2 ^ 31) : mm_V 119 0 [some (.ref (mm_P p)), some (.int (nI a)), some (.int (nI b)), some (.int (nI cl)), none, none] [] (mm_Z m w i l e) = some (.inl (some (.int (pVec π a b cl))), mm_Z m w i l e) := by
  rw [mr_119_0, na_0, pc_ruled h.1 hw (by omega) hcl ha hb, mb_l, mb_v, mr_119_8]
  exact pc_li_loop h hw ho ha hb hcl (pN π 6) 0 _ (by omega)
theorem PR.kp {i i' : Nat → Nat → Int32} (h : PR i π) (h1 : ∀ j, (14 ≤ j ∧ j ≤ 17) ∨ j = 21 ∨ j = 28 ∨ j = 34 → i' 83 j = i 83 j) (h2 : ∀ k j, 92 ≤ k → k ≤ 110 → i' k j = i k j) : PR i' π := by
  obtain ⟨⟨⟨a1, a2, a3, a4, a5, a6, a7⟩, b, c, d, f⟩, g⟩ := h
  have e14 := h1 14 (by omega)
  have e92 : ∀ j, i' 92 j = i 92 j := fun j => h2 92 j (by omega) (by omega)
  refine ⟨⟨⟨by rw [e14]; exact a1, by rw [h1 15 (by omega)]; exact a2, by rw [h1 16 (by omega)]; exact a3, by rw [h1 17 (by omega)]; exact a4, by rw [h1 21 (by omega)]; exact a5, by rw [h1 28 (by omega)]; exact a6, by rw [h1 34 (by omega)]; exact a7⟩, fun u hu => by rw [h2 94 u (by omega) (by omega)]; exact b u hu, fun r hr => by rw [h2 93 r (by omega) (by omega)]; exact c r hr, fun k hk => ?_, fun k hk => ?_⟩, fun k hk => ?_⟩
  · obtain ⟨d1, d2, d3, d4, d5⟩ := d k hk
    rw [h2 95 k (by omega) (by omega), h2 96 k (by omega) (by omega), h2 97 k (by omega) (by omega), h2 98 k (by omega) (by omega), h2 99 k (by omega) (by omega)]
    refine ⟨d1, d2.kp e14 e92, ?_, d4, d5⟩
    rcases d3 with z | z
    · exact Or.inl z
    · exact Or.inr ⟨z.1.kp e14 e92, z.2⟩
  · rw [h2 101 k (by omega) (by omega), h2 102 k (by omega) (by omega), h2 103 k (by omega) (by omega), h2 104 k (by omega) (by omega)]
    exact f k hk
  · obtain ⟨g1, g2, s, g3, g4, g5, g6⟩ := g k hk
    refine ⟨by rw [h2 106 k (by omega) (by omega)]; exact g1, by rw [h2 107 k (by omega) (by omega)]; exact g2, s, by rw [h2 108 k (by omega) (by omega)]; exact g3, by rw [h2 108 _ (by omega) (by omega)]; exact g4, g5, ?_⟩
    exact g6.kp e14 e92 (fun j => h2 109 j (by omega) (by omega)) (fun j => h2 110 j (by omega) (by omega))
theorem pr_li_loop (hw : PW π) (ho : PO π) {a b cl : Nat} (ha : a < 2 ^ 31) (hb : b < 2 ^ 31) (hcl : cl < 2 ^ 31) : ∀ (D k : Nat) (x : Int32) (i : Nat → Nat → Int32), PR i π → k + D = pN π 6 → ∃ i', mm_V 249 13 [some (.ref 83), some (.int (nI a)), some (.int (nI b)), some (.int (nI cl)), some (.int x), some (.int (nI k))] [] (mm_Z m w i l e) = some (.inl (some (.int (pLi π a b cl D k x))), mm_Z m w i' l e) ∧ (∀ q, q ≠ 111 → i' q = i q)
  | 0, k, x, i, h, hk => by
    have h6 : pN π 6 ≤ 8 := hw.2.2.2.2.2.2.1
    refine ⟨i, ?_, fun _ _ => rfl⟩
    rw [mr_249_13]
    simp only [h.1.1.2.2.2.2.2.2, nI_ltI (show k < 2 ^ 31 by omega) (show pN π 6 < 2 ^ 31 by omega)]
    rw [if_neg (by omega)]
    rfl
  | D + 1, k, x, i, h, hk => by
    have h6 : pN π 6 ≤ 8 := hw.2.2.2.2.2.2.1
    have hcl2 := hw.2.2.2.2.2.2.2.2.2.2 k (by omega)
    obtain ⟨r1, r2, s, r3, r4, r5, r6⟩ := h.2 k (by omega)
    have ho8 : ¬ mm_out (nI k) 9 := no_out (by omega) (by omega)
    rw [mr_249_13]
    simp only [h.1.1.2.2.2.2.2.2, nI_ltI (show k < 2 ^ 31 by omega) (show pN π 6 < 2 ^ 31 by omega), nI_clamp (show k < 2 ^ 31 by omega), r1, nI_eq (show (pT π k).1 < 2 ^ 31 by omega) hcl, if_neg ho8, nI_1]
    rw [if_pos (by omega), pLi]
    by_cases q1 : (pT π k).1 = cl
    · obtain ⟨i1, e1, e2⟩ := pr_meets (m := m) (w := w) (l := l) (e := e) (i := i) (l0 := k) (by omega) ha hb r5 r6 r3 r4 (ho k (by omega))
      have hP1 : PR i1 π := h.kp (fun j _ => by rw [e2 83 (by omega)]) (fun q j q1 q2 => by rw [e2 q (by omega)])
      rw [if_pos q1, e1, mb_l, mb_v, mr_249_41]
      have e3 : (oRun a b (pT π k).2.2 []).headD false = pHo π k a b := rfl
      simp only [e3, bI_0, if_neg ho8, nI_clamp (show k < 2 ^ 31 by omega), (hP1.2 k (by omega)).2.1, nI_1]
      by_cases q2 : pHo π k a b = false
      · rw [if_pos q2, if_pos ⟨q1, q2⟩]
        obtain ⟨i', g1, g2⟩ := pr_li_loop hw ho ha hb hcl D (k + 1) (x &&& ((pT π k).2.1 ^^^ (-1))) i1 hP1 (by omega)
        exact ⟨i', g1, fun q hq => by rw [g2 q hq, e2 q hq]⟩
      · rw [if_neg q2, if_neg (fun z => q2 z.2)]
        obtain ⟨i', g1, g2⟩ := pr_li_loop hw ho ha hb hcl D (k + 1) x i1 hP1 (by omega)
        exact ⟨i', g1, fun q hq => by rw [g2 q hq, e2 q hq]⟩
    · rw [if_neg q1, if_neg (fun z => q1 z.1)]
      exact pr_li_loop hw ho ha hb hcl D (k + 1) x i h (by omega)
theorem pr_vectorOf {i : Nat → Nat → Int32} (h : PR i π) (hw : PW π) (ho : PO π) {a b cl : Nat} (ha : a < 2 ^ 31) (hb : b < 2 ^ 31) (hcl : cl < 2 ^ 31) : ∃ i', mm_V 249 0 [some (.ref 83), some (.int (nI a)), some (.int (nI b)), some (.int (nI cl)), none, none] [] (mm_Z m w i l e) = some (.inl (some (.int (pVec π a b cl))), mm_Z m w i' l e) ∧ (∀ q, q ≠ 111 → i' q = i q) := by
  rw [mr_249_0, show (5 : Int32) = nI (0 + 5) from rfl, pr_ruled h.1 hw (by omega) hcl ha hb, mb_l, mb_v, mr_249_8]
  exact pr_li_loop hw ho ha hb hcl (pN π 6) 0 _ i h (by omega)
end MM77
