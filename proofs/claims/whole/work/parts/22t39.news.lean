/-! THE START: new cells, constructors -/
section MM219
variable {m pc q n ow : Nat} {C C' : List (Option mm_E)} {RT RT' : Option FieldType} {hh hh' : List (Nat × Nat × Nat × Nat)} {L L' : List (Option Value)} {S S' As rest : List Value} {μ μ' : mm_M} {X Y : Option mm_R} {a b c na ow' : Nat} {v : Value} {en : mm_E}
variable {T : Nat → Nat × Nat} {i : Nat → Nat → Int32} {l : Nat → Nat → Int64} {R : Nat → Nat → Value} {o len nx cn sn nx' cn' sn' : Nat} {x y : Int32}
theorem mv_N (hm : mm_mi m C n RT hh ow) (h : mm_g C pc = some en) (h1 : mm_sS en.1 en.2.1 S = none) (h2 : mm_sL en.1 en.2.1 L = none) (h3 : mm_sM en S μ = none) (h4 : mm_sJ en.1 en.2.1 pc S = none) (h5 : mm_sT en.1 en.2.1 (mm_ml m) L S = none) (h6 : mm_sN en S μ = some (S', μ')) (hq : pc + en.2.1 = q) (k : mm_V m q L S' μ' = X) : mm_V m pc L S μ = X := by
  subst hq
  refine mv_ hm h ?_ k
  unfold mm_st
  simp only [h1, h2, h3, h4, h5, h6]
theorem mv_new (hm : mm_mi m C n RT hh ow) (h : mm_g C pc = some (.new c, 3, a, b, v)) (ha : Nat.blt a 13 = true) (hx : Nat.blt nx 1000 = true) (hq : pc + 3 = q) (hn : nx + 1 = nx') (hc : cn + 1 = cn') (hs : sn + mm_nf a = sn') (k : mm_V m q L (.ref nx :: S) (va_up T nx (10 + a, 0), va_up i nx (fun _ => 0), va_up l nx (fun _ => 0), va_up R nx (fun _ => .null), nx', true, cn', sn') = X) : mm_V m pc L S (T, i, l, R, nx, true, cn, sn) = X := by
  subst hn hc hs
  have ha := Nat.ble_eq.mp ha
  have hx := Nat.ble_eq.mp hx
  refine mv_N hm h rfl rfl rfl rfl rfl ?_ hq k
  simp only [mm_sN]
  rw [if_pos ⟨trivial, by omega, rfl, hx⟩]
  rfl
theorem mv_newI (hm : mm_mi m C n RT hh ow) (h : mm_g C pc = some (.newarray .int, 2, a, b, v)) (h0 : decide (¬ x < 0 ∧ x.toNatClampNeg ≤ 100000) = true) (hl : x.toNatClampNeg = len) (hx : Nat.blt nx 1000 = true) (hq : pc + 2 = q) (hn : nx + 1 = nx') (hc : cn + 1 = cn') (hs : sn + len = sn') (k : mm_V m q L (.ref nx :: S) (va_up T nx (1, len), va_up i nx (fun _ => 0), va_up l nx (fun _ => 0), va_up R nx (fun _ => .null), nx', true, cn', sn') = X) : mm_V m pc L (.int x :: S) (T, i, l, R, nx, true, cn, sn) = X := by
  subst hn hc hs hl
  have h0 := of_decide_eq_true h0
  have hx := Nat.ble_eq.mp hx
  refine mv_N hm h rfl rfl rfl rfl rfl ?_ hq k
  simp only [mm_sN]
  rw [if_pos ⟨trivial, h0.1, h0.2, rfl, hx⟩]
  rfl
theorem mv_newB (hm : mm_mi m C n RT hh ow) (h : mm_g C pc = some (.newarray .byte, 2, a, b, v)) (h0 : decide (¬ x < 0 ∧ x.toNatClampNeg ≤ 100000) = true) (hl : x.toNatClampNeg = len) (hx : Nat.blt nx 1000 = true) (hq : pc + 2 = q) (hn : nx + 1 = nx') (hc : cn + 1 = cn') (hs : sn + len = sn') (k : mm_V m q L (.ref nx :: S) (va_up T nx (2, len), va_up i nx (fun _ => 0), va_up l nx (fun _ => 0), va_up R nx (fun _ => .null), nx', true, cn', sn') = X) : mm_V m pc L (.int x :: S) (T, i, l, R, nx, true, cn, sn) = X := by
  subst hn hc hs hl
  have h0 := of_decide_eq_true h0
  have hx := Nat.ble_eq.mp hx
  refine mv_N hm h rfl rfl rfl rfl rfl ?_ hq k
  simp only [mm_sN]
  rw [if_pos ⟨trivial, h0.1, h0.2, rfl, hx⟩]
  rfl
theorem mv_newZ (hm : mm_mi m C n RT hh ow) (h : mm_g C pc = some (.newarray .boolean, 2, a, b, v)) (h0 : decide (¬ x < 0 ∧ x.toNatClampNeg ≤ 100000) = true) (hl : x.toNatClampNeg = len) (hx : Nat.blt nx 1000 = true) (hq : pc + 2 = q) (hn : nx + 1 = nx') (hc : cn + 1 = cn') (hs : sn + len = sn') (k : mm_V m q L (.ref nx :: S) (va_up T nx (3, len), va_up i nx (fun _ => 0), va_up l nx (fun _ => 0), va_up R nx (fun _ => .null), nx', true, cn', sn') = X) : mm_V m pc L (.int x :: S) (T, i, l, R, nx, true, cn, sn) = X := by
  subst hn hc hs hl
  have h0 := of_decide_eq_true h0
  have hx := Nat.ble_eq.mp hx
  refine mv_N hm h rfl rfl rfl rfl rfl ?_ hq k
  simp only [mm_sN]
  rw [if_pos ⟨trivial, h0.1, h0.2, rfl, hx⟩]
  rfl
theorem mv_newL (hm : mm_mi m C n RT hh ow) (h : mm_g C pc = some (.newarray .long, 2, a, b, v)) (h0 : decide (¬ x < 0 ∧ x.toNatClampNeg ≤ 100000) = true) (hl : x.toNatClampNeg = len) (hx : Nat.blt nx 1000 = true) (hq : pc + 2 = q) (hn : nx + 1 = nx') (hc : cn + 1 = cn') (hs : sn + len = sn') (k : mm_V m q L (.ref nx :: S) (va_up T nx (4, len), va_up i nx (fun _ => 0), va_up l nx (fun _ => 0), va_up R nx (fun _ => .null), nx', true, cn', sn') = X) : mm_V m pc L (.int x :: S) (T, i, l, R, nx, true, cn, sn) = X := by
  subst hn hc hs hl
  have h0 := of_decide_eq_true h0
  have hx := Nat.ble_eq.mp hx
  refine mv_N hm h rfl rfl rfl rfl rfl ?_ hq k
  simp only [mm_sN]
  rw [if_pos ⟨trivial, h0.1, h0.2, rfl, hx⟩]
  rfl
theorem mv_obj (hm : mm_mi m C n RT hh ow) (h : mm_g C pc = some (.invokespecial c, 3, 903, b, v)) (hc : Nat.ble (S.map (fun v => v.category)).sum 8 = true) (hq : pc + 3 = q) (k : mm_V m q L S μ = X) : mm_V m pc L (.ref o :: S) μ = X := by
  have hc := Nat.ble_eq.mp hc
  refine mv_N hm h rfl rfl rfl rfl rfl ?_ hq k
  simp only [mm_sN]
  rw [if_pos ⟨trivial, trivial⟩, if_pos hc]
/-- a constructor is called -/
theorem mv_callI (hm : mm_mi m C n RT [] ow) (h : mm_g C pc = some (.invokespecial c, 3, a, b, v)) (ha : mm_mi a C' na RT' hh' ow') (hb : Nat.blt a 900 = true) (hp : mm_pop (b + 1) S = some (As, rest)) (hr : mm_rc a μ As = true) (hs : Nat.ble (mm_sl0 As).length na = true) (hL : mm_L0 na As = L') (hq : pc + 3 = q) (hV : mm_V a 0 L' [] μ = some (.inl none, μ')) (k : mm_V m q L rest μ' = X) : mm_V m pc L S μ = X := by
  have hb := Nat.ble_eq.mp hb
  have h9 : mm_sN (.invokespecial c, 3, a, b, v) S μ = none := by
    simp only [mm_sN]
    rw [if_neg (by omega)]
  rw [mv_call0 (w := true) (b := b + 1) hm h ?_ ?_ ha hp (fun _ => hr) hs hL hq, mv_bx0, hV]
  · exact k
  · unfold mm_st
    simp only [mm_sS, mm_sL, mm_sM, mm_sJ, mm_sT, mm_sG, h9]
  · simp only [mm_cl0]
    rw [if_pos ⟨trivial, by omega⟩]
theorem mv_callW (hm : mm_mi m C n RT [] ow) (h : mm_g C pc = some (.invokevirtual c, 3, a, b, v)) (ha : mm_mi a C' na RT' hh' ow') (hb : Nat.blt a 900 = true) (hp : mm_pop (b + 1) S = some (As, rest)) (hr : mm_rc a μ As = true) (hs : Nat.ble (mm_sl0 As).length na = true) (hL : mm_L0 na As = L') (hq : pc + 3 = q) (hV : mm_V a 0 L' [] μ = some (.inl none, μ')) (k : mm_V m q L rest μ' = X) : mm_V m pc L S μ = X := by
  rw [mv_callV hm h ha hb hp hr hs hL hq, hV]
  exact k
theorem mv_callT (w : Bool) (hm : mm_mi m C n RT [] ow) (h : mm_g C pc = some (.invokestatic c, 3, a, b, v)) (ha : mm_mi a C' na RT' hh' ow') (hw : Nat.beq ow' ow = w) (hb : Nat.blt a 900 = true) (hp : mm_pop b S = some (As, rest)) (hs : Nat.ble (mm_sl0 As).length na = true) (hL : mm_L0 na As = L') (hq : pc + 3 = q) (hV : mm_V a 0 L' [] μ = some (.inl none, μ')) (k : mm_V m q L rest μ' = X) : mm_V m pc L S μ = X := by
  rw [mv_callS w hm h ha hw hb hp hs hL hq, hV]
  exact k
end MM219
