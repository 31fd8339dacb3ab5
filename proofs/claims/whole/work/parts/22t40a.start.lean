/-! THE START: the constructors are run (by program, 1) -/
section MM220
variable {n : Nat} {i : Nat → Nat → Int32}
theorem mk_s576 : (Int16.ofInt 576).toInt32 = 576 := by decide
theorem mk_s240 : (Int16.ofInt 240).toInt32 = 240 := by decide
theorem mk_s450 : (Int16.ofInt 450).toInt32 = 450 := by decide
theorem mk_s1300 : (Int16.ofInt 1300).toInt32 = 1300 := by decide
theorem mk_s1504 : (Int16.ofInt 1504).toInt32 = 1504 := by decide
theorem mk_s700 : (Int16.ofInt 700).toInt32 = 700 := by decide
theorem mk_b43 : (Int8.ofInt 43).toInt32 = 43 := by decide
theorem mk_b45 : (Int8.ofInt 45).toInt32 = 45 := by decide
theorem mk_b46 : (Int8.ofInt 46).toInt32 = 46 := by decide
theorem mk_b47 : (Int8.ofInt 47).toInt32 = 47 := by decide
theorem mk_b51 : (Int8.ofInt 51).toInt32 = 51 := by decide
theorem mk_b52 : (Int8.ofInt 52).toInt32 = 52 := by decide
theorem mk_b53 : (Int8.ofInt 53).toInt32 = 53 := by decide
theorem mk_b54 : (Int8.ofInt 54).toInt32 = 54 := by decide
theorem mk_b55 : (Int8.ofInt 55).toInt32 = 55 := by decide
theorem mk_b56 : (Int8.ofInt 56).toInt32 = 56 := by decide
theorem mk_b30 : (Int8.ofInt 30).toInt32 = 30 := by decide
theorem mk_o1_32 : mm_ib 1 32 = true := by decide
theorem mk_o2_32 : mm_ib 2 32 = true := by decide
theorem mk_o3_32 : mm_ib 3 32 = true := by decide
theorem mk_o4_32 : mm_ib 4 32 = true := by decide
theorem mk_o5_32 : mm_ib 5 32 = true := by decide
theorem mk_o6_32 : mm_ib 6 32 = true := by decide
theorem mk_o7_32 : mm_ib 7 32 = true := by decide
theorem mk_o8_32 : mm_ib 8 32 = true := by decide
theorem mk_o9_32 : mm_ib 9 32 = true := by decide
theorem mk_o10_32 : mm_ib 10 32 = true := by decide
theorem mk_o11_32 : mm_ib 11 32 = true := by decide
theorem mk_o12_32 : mm_ib 12 32 = true := by decide
theorem mk_o13_32 : mm_ib 13 32 = true := by decide
theorem mk_o14_32 : mm_ib 14 32 = true := by decide
theorem mk_o15_32 : mm_ib 15 32 = true := by decide
theorem mk_o16_32 : mm_ib 16 32 = true := by decide
theorem mk_o17_32 : mm_ib 17 32 = true := by decide
theorem mk_o18_32 : mm_ib 18 32 = true := by decide
theorem mk_o19_32 : mm_ib 19 32 = true := by decide
theorem mk_o20_32 : mm_ib 20 32 = true := by decide
theorem mk_o21_32 : mm_ib 21 32 = true := by decide
theorem mk_o22_32 : mm_ib 22 32 = true := by decide
theorem mk_o23_32 : mm_ib 23 32 = true := by decide
theorem mk_o24_32 : mm_ib 24 32 = true := by decide
theorem mk_o25_32 : mm_ib 25 32 = true := by decide
theorem mk_o26_32 : mm_ib 26 32 = true := by decide
theorem mk_o27_32 : mm_ib 27 32 = true := by decide
theorem mk_o28_32 : mm_ib 28 32 = true := by decide
theorem mk_o29_32 : mm_ib 29 32 = true := by decide
theorem mk_o30_32 : mm_ib 30 32 = true := by decide
theorem mk_o31_32 : mm_ib 31 32 = true := by decide
theorem mk_o1_8 : mm_ib 1 8 = true := by decide
theorem mk_o2_8 : mm_ib 2 8 = true := by decide
theorem mk_o3_8 : mm_ib 3 8 = true := by decide
theorem mk_o4_8 : mm_ib 4 8 = true := by decide
theorem mk_o5_8 : mm_ib 5 8 = true := by decide
theorem mk_o6_8 : mm_ib 6 8 = true := by decide
theorem mk_o7_8 : mm_ib 7 8 = true := by decide
theorem mk_o0_48 : mm_ib 0 48 = true := by decide
theorem mk_o1_48 : mm_ib 1 48 = true := by decide
theorem mk_o2_48 : mm_ib 2 48 = true := by decide
theorem mk_o3_48 : mm_ib 3 48 = true := by decide
theorem mk_o4_48 : mm_ib 4 48 = true := by decide
theorem mk_o5_48 : mm_ib 5 48 = true := by decide
theorem mk_o6_48 : mm_ib 6 48 = true := by decide
theorem mk_o7_48 : mm_ib 7 48 = true := by decide
theorem mk_o8_48 : mm_ib 8 48 = true := by decide
theorem mk_o9_48 : mm_ib 9 48 = true := by decide
theorem mk_o10_48 : mm_ib 10 48 = true := by decide
theorem mk_o11_48 : mm_ib 11 48 = true := by decide
theorem mk_o12_48 : mm_ib 12 48 = true := by decide
theorem mk_o13_48 : mm_ib 13 48 = true := by decide
theorem mk_o14_48 : mm_ib 14 48 = true := by decide
theorem mk_o15_48 : mm_ib 15 48 = true := by decide
theorem mk_o16_48 : mm_ib 16 48 = true := by decide
theorem mk_o17_48 : mm_ib 17 48 = true := by decide
theorem mk_o18_48 : mm_ib 18 48 = true := by decide
theorem mk_o19_48 : mm_ib 19 48 = true := by decide
theorem mk_o20_48 : mm_ib 20 48 = true := by decide
theorem mk_o21_48 : mm_ib 21 48 = true := by decide
theorem mk_o22_48 : mm_ib 22 48 = true := by decide
theorem mk_o23_48 : mm_ib 23 48 = true := by decide
theorem mk_o24_48 : mm_ib 24 48 = true := by decide
theorem mk_o25_48 : mm_ib 25 48 = true := by decide
theorem mk_o26_48 : mm_ib 26 48 = true := by decide
theorem mk_o27_48 : mm_ib 27 48 = true := by decide
theorem mk_o28_48 : mm_ib 28 48 = true := by decide
theorem mk_o29_48 : mm_ib 29 48 = true := by decide
theorem mk_o30_48 : mm_ib 30 48 = true := by decide
theorem mk_o31_48 : mm_ib 31 48 = true := by decide
theorem mk_o32_48 : mm_ib 32 48 = true := by decide
theorem mk_o33_48 : mm_ib 33 48 = true := by decide
theorem mk_o34_48 : mm_ib 34 48 = true := by decide
theorem mk_o35_48 : mm_ib 35 48 = true := by decide
theorem mk_o36_48 : mm_ib 36 48 = true := by decide
theorem mk_o37_48 : mm_ib 37 48 = true := by decide
theorem mk_o38_48 : mm_ib 38 48 = true := by decide
theorem mk_o39_48 : mm_ib 39 48 = true := by decide
theorem mk_o40_48 : mm_ib 40 48 = true := by decide
theorem mk_o41_48 : mm_ib 41 48 = true := by decide
theorem mk_o42_48 : mm_ib 42 48 = true := by decide
theorem mk_o43_48 : mm_ib 43 48 = true := by decide
theorem mk_o44_48 : mm_ib 44 48 = true := by decide
theorem mk_o45_48 : mm_ib 45 48 = true := by decide
theorem mk_o46_48 : mm_ib 46 48 = true := by decide
theorem mk_o47_48 : mm_ib 47 48 = true := by decide
theorem mk_o1_4 : mm_ib 1 4 = true := by decide
theorem mk_o2_4 : mm_ib 2 4 = true := by decide
theorem mk_o3_4 : mm_ib 3 4 = true := by decide
theorem mk_o1_60 : mm_ib 1 60 = true := by decide
theorem mk_o2_60 : mm_ib 2 60 = true := by decide
theorem mk_o3_60 : mm_ib 3 60 = true := by decide
theorem mk_o4_60 : mm_ib 4 60 = true := by decide
theorem mk_o5_60 : mm_ib 5 60 = true := by decide
theorem mk_o6_60 : mm_ib 6 60 = true := by decide
theorem mk_o7_60 : mm_ib 7 60 = true := by decide
theorem mk_o8_60 : mm_ib 8 60 = true := by decide
theorem mk_o9_60 : mm_ib 9 60 = true := by decide
theorem mk_o10_60 : mm_ib 10 60 = true := by decide
theorem mk_o11_60 : mm_ib 11 60 = true := by decide
theorem mk_o12_60 : mm_ib 12 60 = true := by decide
theorem mk_o13_60 : mm_ib 13 60 = true := by decide
theorem mk_o14_60 : mm_ib 14 60 = true := by decide
theorem mk_o15_60 : mm_ib 15 60 = true := by decide
theorem mk_o16_60 : mm_ib 16 60 = true := by decide
theorem mk_o17_60 : mm_ib 17 60 = true := by decide
theorem mk_o18_60 : mm_ib 18 60 = true := by decide
theorem mk_o19_60 : mm_ib 19 60 = true := by decide
theorem mk_o40_60 : mm_ib 40 60 = true := by decide
theorem mk_o41_60 : mm_ib 41 60 = true := by decide
theorem mk_o42_60 : mm_ib 42 60 = true := by decide
theorem mk_o43_60 : mm_ib 43 60 = true := by decide
theorem mk_o44_60 : mm_ib 44 60 = true := by decide
theorem mk_o45_60 : mm_ib 45 60 = true := by decide
theorem mk_o46_60 : mm_ib 46 60 = true := by decide
theorem mk_o47_60 : mm_ib 47 60 = true := by decide
theorem mk_o48_60 : mm_ib 48 60 = true := by decide
theorem mk_o49_60 : mm_ib 49 60 = true := by decide
theorem mk_o50_60 : mm_ib 50 60 = true := by decide
theorem mk_o51_60 : mm_ib 51 60 = true := by decide
theorem mk_o52_60 : mm_ib 52 60 = true := by decide
theorem mk_o53_60 : mm_ib 53 60 = true := by decide
theorem mk_o54_60 : mm_ib 54 60 = true := by decide
theorem mk_o55_60 : mm_ib 55 60 = true := by decide
theorem mk_o56_60 : mm_ib 56 60 = true := by decide
theorem mk_o57_60 : mm_ib 57 60 = true := by decide
theorem mk_o58_60 : mm_ib 58 60 = true := by decide
theorem mk_o0_50 : mm_ib 0 50 = true := by decide
theorem mk_o1_50 : mm_ib 1 50 = true := by decide
theorem mk_o2_50 : mm_ib 2 50 = true := by decide
theorem mk_o3_50 : mm_ib 3 50 = true := by decide
theorem mk_o4_50 : mm_ib 4 50 = true := by decide
theorem mk_o5_50 : mm_ib 5 50 = true := by decide
theorem mk_o6_50 : mm_ib 6 50 = true := by decide
theorem mk_o7_50 : mm_ib 7 50 = true := by decide
theorem mk_o8_50 : mm_ib 8 50 = true := by decide
theorem mk_o9_50 : mm_ib 9 50 = true := by decide
theorem mk_o10_50 : mm_ib 10 50 = true := by decide
theorem mk_o11_50 : mm_ib 11 50 = true := by decide
theorem mk_o12_50 : mm_ib 12 50 = true := by decide
theorem mk_o13_50 : mm_ib 13 50 = true := by decide
theorem mk_o14_50 : mm_ib 14 50 = true := by decide
theorem mk_o15_50 : mm_ib 15 50 = true := by decide
theorem mk_o16_50 : mm_ib 16 50 = true := by decide
theorem mk_o17_50 : mm_ib 17 50 = true := by decide
theorem mk_o18_50 : mm_ib 18 50 = true := by decide
theorem mk_o20_50 : mm_ib 20 50 = true := by decide
theorem mk_o21_50 : mm_ib 21 50 = true := by decide
theorem mk_o22_50 : mm_ib 22 50 = true := by decide
theorem mk_o23_50 : mm_ib 23 50 = true := by decide
theorem mk_o24_50 : mm_ib 24 50 = true := by decide
theorem mk_o30_50 : mm_ib 30 50 = true := by decide
theorem mk_o31_50 : mm_ib 31 50 = true := by decide
theorem mk_o32_50 : mm_ib 32 50 = true := by decide
theorem mk_o40_50 : mm_ib 40 50 = true := by decide
theorem mk_o0_25 : mm_ib 0 25 = true := by decide
theorem mk_o1_25 : mm_ib 1 25 = true := by decide
theorem mk_o2_25 : mm_ib 2 25 = true := by decide
theorem mk_o3_25 : mm_ib 3 25 = true := by decide
theorem mk_o4_25 : mm_ib 4 25 = true := by decide
theorem mk_o5_25 : mm_ib 5 25 = true := by decide
theorem mk_o6_25 : mm_ib 6 25 = true := by decide
theorem mk_o7_25 : mm_ib 7 25 = true := by decide
theorem mk_o8_25 : mm_ib 8 25 = true := by decide
theorem mk_o9_25 : mm_ib 9 25 = true := by decide
theorem mk_o10_25 : mm_ib 10 25 = true := by decide
theorem mk_o11_25 : mm_ib 11 25 = true := by decide
theorem mk_o12_25 : mm_ib 12 25 = true := by decide
theorem mk_o13_25 : mm_ib 13 25 = true := by decide
theorem mk_o14_25 : mm_ib 14 25 = true := by decide
theorem mk_o15_25 : mm_ib 15 25 = true := by decide
theorem mk_o16_25 : mm_ib 16 25 = true := by decide
theorem mk_o17_25 : mm_ib 17 25 = true := by decide
theorem mk_o18_25 : mm_ib 18 25 = true := by decide
theorem mk_o19_25 : mm_ib 19 25 = true := by decide
theorem mk_o20_25 : mm_ib 20 25 = true := by decide
theorem mk_o21_25 : mm_ib 21 25 = true := by decide
theorem mk_o22_25 : mm_ib 22 25 = true := by decide
theorem mk_o23_25 : mm_ib 23 25 = true := by decide
theorem mk_o24_25 : mm_ib 24 25 = true := by decide
theorem zs_int {m pc : Nat} {L : List (Option Value)} {S : List Value} {μ : mm_M} {X : Option mm_R} {x y : Int32} (h : x = y) (k : mm_V m pc L (.int y :: S) μ = X) : mm_V m pc L (.int x :: S) μ = X := by rw [h]; exact k
theorem zs_ifT {c : Prop} [Decidable c] {V X Y : Option mm_R} (hc : c) (h : V = if c then X else Y) : V = X := by rw [h, if_pos hc]
theorem zs_ifF {c : Prop} [Decidable c] {V X Y : Option mm_R} (hc : ¬ c) (h : V = if c then X else Y) : V = Y := by rw [h, if_neg hc]
def stRp (R : Nat → Nat → Value) (o b d : Nat) : Nat → Nat → Value := va_up R o (va_up (R o) b (.ref d))
def stT0 (n : Nat) : Nat → Nat × Nat := mm_ts n
def stI0 (i : Nat → Nat → Int32) : Nat → Nat → Int32 := i
def stL0 : Nat → Nat → Int64 := fun _ _ => 0
def stR0 : Nat → Nat → Value := fun _ _ => .null
def stT1 (n : Nat) : Nat → Nat × Nat := (va_up (stT0 n) 0 (21, 0))
def stI1 (i : Nat → Nat → Int32) : Nat → Nat → Int32 := (va_up (stI0 i) 0 (fun _ => 0))
def stL1 : Nat → Nat → Int64 := (va_up stL0 0 (fun _ => 0))
def stR1 : Nat → Nat → Value := (va_up stR0 0 (fun _ => .null))
set_option maxRecDepth 20000 in
theorem zs_1 : mm_V 360 0 [some (.ref 1000000), none, none, none, none, none, none] [] (stT0 n, stI0 i, stL0, stR0, 0, true, 0, 0) = mm_V 360 4 [some (.ref 1000000), none, none, none, none, none, none] [.ref 0, .ref 0] (stT1 n, stI1 i, stL1, stR1, 1, true, 1, 10) := (mv_new mj_360 rfl rfl rfl (q := 3) rfl (nx' := 1) rfl (cn' := 1) rfl (sn' := 10) rfl (mv_dupa mj_360 rfl (q := 4) rfl rfl))
def stT2 (n : Nat) : Nat → Nat × Nat := (va_up (stT1 n) 1 (18, 0))
def stI2 (i : Nat → Nat → Int32) : Nat → Nat → Int32 := (va_up (stI1 i) 1 (fun _ => 0))
def stL2 : Nat → Nat → Int64 := (va_up stL1 1 (fun _ => 0))
def stR2 : Nat → Nat → Value := (va_up stR1 1 (fun _ => .null))
set_option maxRecDepth 20000 in
theorem zs_2 : mm_V 156 0 [some (.ref 0)] [] (stT1 n, stI1 i, stL1, stR1, 1, true, 1, 10) = mm_V 156 9 [some (.ref 0)] [.ref 1, .ref 1, .ref 0] (stT2 n, stI2 i, stL2, stR2, 2, true, 2, 12) := (mv_aload_n mj_156 rfl rfl (q := 1) rfl (mv_obj mj_156 rfl rfl (q := 4) rfl (mv_aload_n mj_156 rfl rfl (q := 5) rfl (mv_new mj_156 rfl rfl rfl (q := 8) rfl (nx' := 2) rfl (cn' := 2) rfl (sn' := 12) rfl (mv_dupa mj_156 rfl (q := 9) rfl rfl)))))
def stT3 (n : Nat) : Nat → Nat × Nat := (va_up (stT2 n) 2 (2, 1200))
def stI3 (i : Nat → Nat → Int32) : Nat → Nat → Int32 := (va_up (stI2 i) 2 (fun _ => 0))
def stL3 : Nat → Nat → Int64 := (va_up stL2 2 (fun _ => 0))
def stR3 : Nat → Nat → Value := (stRp (va_up stR2 2 (fun _ => .null)) 1 0 2)
set_option maxRecDepth 20000 in
theorem zs_3 : mm_V 121 0 [some (.ref 1)] [] (stT2 n, stI2 i, stL2, stR2, 2, true, 2, 12) = mm_V 121 13 [some (.ref 1)] [] (stT3 n, stI3 i, stL3, stR3, 3, true, 3, 1212) := (mv_aload_n mj_121 rfl rfl (q := 1) rfl (mv_obj mj_121 rfl rfl (q := 4) rfl (mv_aload_n mj_121 rfl rfl (q := 5) rfl (mv_sipush 1200 mj_121 rfl mk_s1200 (q := 8) rfl (mv_newB mj_121 rfl rfl (len := 1200) rfl rfl (q := 10) rfl (nx' := 3) rfl (cn' := 3) rfl (sn' := 1212) rfl (mv_putR mj_121 rfl rfl rfl (q := 13) rfl rfl))))))
set_option maxRecDepth 20000 in
theorem zs_4 : mm_V 121 0 [some (.ref 1)] [] (stT2 n, stI2 i, stL2, stR2, 2, true, 2, 12) = some (.inl none, (stT3 n, stI3 i, stL3, stR3, 3, true, 3, 1212)) := ((zs_3 (n := n) (i := i)).trans (mv_vret mj_121 rfl))
set_option maxRecDepth 20000 in
theorem zs_5 : mm_V 156 9 [some (.ref 0)] [.ref 1, .ref 1, .ref 0] (stT2 n, stI2 i, stL2, stR2, 2, true, 2, 12) = mm_V 156 12 [some (.ref 0)] [.ref 1, .ref 0] (stT3 n, stI3 i, stL3, stR3, 3, true, 3, 1212) := (mv_callI mj_156 rfl mj_121 rfl rfl rfl rfl rfl (q := 12) rfl (zs_4 (n := n) (i := i)) rfl)
def stT4 (n : Nat) : Nat → Nat × Nat := (va_up (stT3 n) 3 (10, 0))
def stI4 (i : Nat → Nat → Int32) : Nat → Nat → Int32 := (va_up (stI3 i) 3 (fun _ => 0))
def stL4 : Nat → Nat → Int64 := (va_up stL3 3 (fun _ => 0))
def stR4 : Nat → Nat → Value := (va_up (stRp stR3 0 0 1) 3 (fun _ => .null))
set_option maxRecDepth 20000 in
theorem zs_6 : mm_V 156 12 [some (.ref 0)] [.ref 1, .ref 0] (stT3 n, stI3 i, stL3, stR3, 3, true, 3, 1212) = mm_V 156 24 [some (.ref 0)] [.ref 1, .ref 3, .ref 3, .ref 0] (stT4 n, stI4 i, stL4, stR4, 4, true, 4, 1222) := (mv_putR mj_156 rfl rfl rfl (q := 15) rfl (mv_aload_n mj_156 rfl rfl (q := 16) rfl (mv_new mj_156 rfl rfl rfl (q := 19) rfl (nx' := 4) rfl (cn' := 4) rfl (sn' := 1222) rfl (mv_dupa mj_156 rfl (q := 20) rfl (mv_aload_n mj_156 rfl rfl (q := 21) rfl (mv_getR mj_156 rfl rfl rfl rfl (q := 24) rfl rfl))))))
def stT5 (n : Nat) : Nat → Nat × Nat := (va_up (stT4 n) 4 (17, 0))
def stI5 (i : Nat → Nat → Int32) : Nat → Nat → Int32 := (va_up (stI4 i) 4 (fun _ => 0))
def stL5 : Nat → Nat → Int64 := (va_up stL4 4 (fun _ => 0))
def stR5 : Nat → Nat → Value := (va_up stR4 4 (fun _ => .null))
set_option maxRecDepth 20000 in
theorem zs_7 : mm_V 0 0 [some (.ref 3), some (.ref 1)] [] (stT4 n, stI4 i, stL4, stR4, 4, true, 4, 1222) = mm_V 0 9 [some (.ref 3), some (.ref 1)] [.ref 4, .ref 4, .ref 3] (stT5 n, stI5 i, stL5, stR5, 5, true, 5, 1241) := (mv_aload_n mj_0 rfl rfl (q := 1) rfl (mv_obj mj_0 rfl rfl (q := 4) rfl (mv_aload_n mj_0 rfl rfl (q := 5) rfl (mv_new mj_0 rfl rfl rfl (q := 8) rfl (nx' := 5) rfl (cn' := 5) rfl (sn' := 1241) rfl (mv_dupa mj_0 rfl (q := 9) rfl rfl)))))
def stT6 (n : Nat) : Nat → Nat × Nat := (va_up (va_up (va_up (va_up (va_up (stT5 n) 5 (1, 7)) 6 (1, 8)) 7 (1, 6)) 8 (1, 4)) 9 (1, 60))
def stI6 (i : Nat → Nat → Int32) : Nat → Nat → Int32 := (va_up (va_up (va_up (va_up (va_up (stI5 i) 5 (fun _ => 0)) 6 (fun _ => 0)) 7 (fun _ => 0)) 8 (fun _ => 0)) 9 (fun _ => 0))
def stL6 : Nat → Nat → Int64 := (va_up (va_up (va_up (va_up (va_up stL5 5 (fun _ => 0)) 6 (fun _ => 0)) 7 (fun _ => 0)) 8 (fun _ => 0)) 9 (fun _ => 0))
def stR6 : Nat → Nat → Value := (stRp (va_up (stRp (va_up (stRp (va_up (stRp (va_up (stRp (va_up stR5 5 (fun _ => .null)) 4 0 5) 6 (fun _ => .null)) 4 1 6) 7 (fun _ => .null)) 4 2 7) 8 (fun _ => .null)) 4 3 8) 9 (fun _ => .null)) 4 4 9)
set_option maxRecDepth 20000 in
theorem zs_8 : mm_V 106 0 [some (.ref 4)] [] (stT5 n, stI5 i, stL5, stR5, 5, true, 5, 1241) = mm_V 106 46 [some (.ref 4)] [.int 60, .ref 4] (stT6 n, stI6 i, stL6, stR6, 10, true, 10, 1326) := (mv_aload_n mj_106 rfl rfl (q := 1) rfl (mv_obj mj_106 rfl rfl (q := 4) rfl (mv_aload_n mj_106 rfl rfl (q := 5) rfl (mv_bipush 7 mj_106 rfl mk_b7 (q := 7) rfl (mv_newI mj_106 rfl rfl (len := 7) rfl rfl (q := 9) rfl (nx' := 6) rfl (cn' := 6) rfl (sn' := 1248) rfl (mv_putR mj_106 rfl rfl rfl (q := 12) rfl (mv_aload_n mj_106 rfl rfl (q := 13) rfl (mv_bipush 8 mj_106 rfl mk_b8 (q := 15) rfl (mv_newI mj_106 rfl rfl (len := 8) rfl rfl (q := 17) rfl (nx' := 7) rfl (cn' := 7) rfl (sn' := 1256) rfl (mv_putR mj_106 rfl rfl rfl (q := 20) rfl (mv_aload_n mj_106 rfl rfl (q := 21) rfl (mv_bipush 6 mj_106 rfl mk_b6 (q := 23) rfl (mv_newI mj_106 rfl rfl (len := 6) rfl rfl (q := 25) rfl (nx' := 8) rfl (cn' := 8) rfl (sn' := 1262) rfl (mv_putR mj_106 rfl rfl rfl (q := 28) rfl (mv_aload_n mj_106 rfl rfl (q := 29) rfl (mv_iconst 4 mj_106 rfl mk_i4 (q := 30) rfl (mv_newI mj_106 rfl rfl (len := 4) rfl rfl (q := 32) rfl (nx' := 9) rfl (cn' := 9) rfl (sn' := 1266) rfl (mv_putR mj_106 rfl rfl rfl (q := 35) rfl (mv_aload_n mj_106 rfl rfl (q := 36) rfl (mv_bipush 60 mj_106 rfl mk_b60 (q := 38) rfl (mv_newI mj_106 rfl rfl (len := 60) rfl rfl (q := 40) rfl (nx' := 10) rfl (cn' := 10) rfl (sn' := 1326) rfl (mv_putR mj_106 rfl rfl rfl (q := 43) rfl (mv_aload_n mj_106 rfl rfl (q := 44) rfl (mv_bipush 60 mj_106 rfl mk_b60 (q := 46) rfl rfl))))))))))))))))))))))))
def stT7 (n : Nat) : Nat → Nat × Nat := (va_up (va_up (va_up (va_up (va_up (va_up (stT6 n) 10 (1, 60)) 11 (1, 60)) 12 (1, 60)) 13 (1, 60)) 14 (1, 12)) 15 (1, 12))
def stI7 (i : Nat → Nat → Int32) : Nat → Nat → Int32 := (va_up (va_up (va_up (va_up (va_up (va_up (stI6 i) 10 (fun _ => 0)) 11 (fun _ => 0)) 12 (fun _ => 0)) 13 (fun _ => 0)) 14 (fun _ => 0)) 15 (fun _ => 0))
def stL7 : Nat → Nat → Int64 := (va_up (va_up (va_up (va_up (va_up (va_up stL6 10 (fun _ => 0)) 11 (fun _ => 0)) 12 (fun _ => 0)) 13 (fun _ => 0)) 14 (fun _ => 0)) 15 (fun _ => 0))
def stR7 : Nat → Nat → Value := (stRp (va_up (stRp (va_up (stRp (va_up (stRp (va_up (stRp (va_up (stRp (va_up stR6 10 (fun _ => .null)) 4 5 10) 11 (fun _ => .null)) 4 6 11) 12 (fun _ => .null)) 4 7 12) 13 (fun _ => .null)) 4 8 13) 14 (fun _ => .null)) 4 9 14) 15 (fun _ => .null)) 4 10 15)
set_option maxRecDepth 20000 in
theorem zs_9 : mm_V 106 46 [some (.ref 4)] [.int 60, .ref 4] (stT6 n, stI6 i, stL6, stR6, 10, true, 10, 1326) = mm_V 106 94 [some (.ref 4)] [.int 12, .ref 4] (stT7 n, stI7 i, stL7, stR7, 16, true, 16, 1590) := (mv_newI mj_106 rfl rfl (len := 60) rfl rfl (q := 48) rfl (nx' := 11) rfl (cn' := 11) rfl (sn' := 1386) rfl (mv_putR mj_106 rfl rfl rfl (q := 51) rfl (mv_aload_n mj_106 rfl rfl (q := 52) rfl (mv_bipush 60 mj_106 rfl mk_b60 (q := 54) rfl (mv_newI mj_106 rfl rfl (len := 60) rfl rfl (q := 56) rfl (nx' := 12) rfl (cn' := 12) rfl (sn' := 1446) rfl (mv_putR mj_106 rfl rfl rfl (q := 59) rfl (mv_aload_n mj_106 rfl rfl (q := 60) rfl (mv_bipush 60 mj_106 rfl mk_b60 (q := 62) rfl (mv_newI mj_106 rfl rfl (len := 60) rfl rfl (q := 64) rfl (nx' := 13) rfl (cn' := 13) rfl (sn' := 1506) rfl (mv_putR mj_106 rfl rfl rfl (q := 67) rfl (mv_aload_n mj_106 rfl rfl (q := 68) rfl (mv_bipush 60 mj_106 rfl mk_b60 (q := 70) rfl (mv_newI mj_106 rfl rfl (len := 60) rfl rfl (q := 72) rfl (nx' := 14) rfl (cn' := 14) rfl (sn' := 1566) rfl (mv_putR mj_106 rfl rfl rfl (q := 75) rfl (mv_aload_n mj_106 rfl rfl (q := 76) rfl (mv_bipush 12 mj_106 rfl mk_b12 (q := 78) rfl (mv_newI mj_106 rfl rfl (len := 12) rfl rfl (q := 80) rfl (nx' := 15) rfl (cn' := 15) rfl (sn' := 1578) rfl (mv_putR mj_106 rfl rfl rfl (q := 83) rfl (mv_aload_n mj_106 rfl rfl (q := 84) rfl (mv_bipush 12 mj_106 rfl mk_b12 (q := 86) rfl (mv_newI mj_106 rfl rfl (len := 12) rfl rfl (q := 88) rfl (nx' := 16) rfl (cn' := 16) rfl (sn' := 1590) rfl (mv_putR mj_106 rfl rfl rfl (q := 91) rfl (mv_aload_n mj_106 rfl rfl (q := 92) rfl (mv_bipush 12 mj_106 rfl mk_b12 (q := 94) rfl rfl))))))))))))))))))))))))
def stT8 (n : Nat) : Nat → Nat × Nat := (va_up (va_up (va_up (va_up (va_up (va_up (stT7 n) 16 (1, 12)) 17 (1, 12)) 18 (1, 8)) 19 (1, 8)) 20 (1, 9)) 21 (1, 1200))
def stI8 (i : Nat → Nat → Int32) : Nat → Nat → Int32 := (va_up (va_up (va_up (va_up (va_up (va_up (stI7 i) 16 (fun _ => 0)) 17 (fun _ => 0)) 18 (fun _ => 0)) 19 (fun _ => 0)) 20 (fun _ => 0)) 21 (fun _ => 0))
def stL8 : Nat → Nat → Int64 := (va_up (va_up (va_up (va_up (va_up (va_up stL7 16 (fun _ => 0)) 17 (fun _ => 0)) 18 (fun _ => 0)) 19 (fun _ => 0)) 20 (fun _ => 0)) 21 (fun _ => 0))
def stR8 : Nat → Nat → Value := (stRp (va_up (stRp (va_up (stRp (va_up (stRp (va_up (stRp (va_up (stRp (va_up stR7 16 (fun _ => .null)) 4 11 16) 17 (fun _ => .null)) 4 12 17) 18 (fun _ => .null)) 4 13 18) 19 (fun _ => .null)) 4 14 19) 20 (fun _ => .null)) 4 15 20) 21 (fun _ => .null)) 4 16 21)
set_option maxRecDepth 20000 in
theorem zs_10 : mm_V 106 94 [some (.ref 4)] [.int 12, .ref 4] (stT7 n, stI7 i, stL7, stR7, 16, true, 16, 1590) = mm_V 106 144 [some (.ref 4)] [.int 1200, .ref 4] (stT8 n, stI8 i, stL8, stR8, 22, true, 22, 2839) := (mv_newI mj_106 rfl rfl (len := 12) rfl rfl (q := 96) rfl (nx' := 17) rfl (cn' := 17) rfl (sn' := 1602) rfl (mv_putR mj_106 rfl rfl rfl (q := 99) rfl (mv_aload_n mj_106 rfl rfl (q := 100) rfl (mv_bipush 12 mj_106 rfl mk_b12 (q := 102) rfl (mv_newI mj_106 rfl rfl (len := 12) rfl rfl (q := 104) rfl (nx' := 18) rfl (cn' := 18) rfl (sn' := 1614) rfl (mv_putR mj_106 rfl rfl rfl (q := 107) rfl (mv_aload_n mj_106 rfl rfl (q := 108) rfl (mv_bipush 8 mj_106 rfl mk_b8 (q := 110) rfl (mv_newI mj_106 rfl rfl (len := 8) rfl rfl (q := 112) rfl (nx' := 19) rfl (cn' := 19) rfl (sn' := 1622) rfl (mv_putR mj_106 rfl rfl rfl (q := 115) rfl (mv_aload_n mj_106 rfl rfl (q := 116) rfl (mv_bipush 8 mj_106 rfl mk_b8 (q := 118) rfl (mv_newI mj_106 rfl rfl (len := 8) rfl rfl (q := 120) rfl (nx' := 20) rfl (cn' := 20) rfl (sn' := 1630) rfl (mv_putR mj_106 rfl rfl rfl (q := 123) rfl (mv_aload_n mj_106 rfl rfl (q := 124) rfl (mv_bipush 9 mj_106 rfl mk_b9 (q := 126) rfl (mv_newI mj_106 rfl rfl (len := 9) rfl rfl (q := 128) rfl (nx' := 21) rfl (cn' := 21) rfl (sn' := 1639) rfl (mv_putR mj_106 rfl rfl rfl (q := 131) rfl (mv_aload_n mj_106 rfl rfl (q := 132) rfl (mv_sipush 1200 mj_106 rfl mk_s1200 (q := 135) rfl (mv_newI mj_106 rfl rfl (len := 1200) rfl rfl (q := 137) rfl (nx' := 22) rfl (cn' := 22) rfl (sn' := 2839) rfl (mv_putR mj_106 rfl rfl rfl (q := 140) rfl (mv_aload_n mj_106 rfl rfl (q := 141) rfl (mv_sipush 1200 mj_106 rfl mk_s1200 (q := 144) rfl rfl))))))))))))))))))))))))
def stT9 (n : Nat) : Nat → Nat × Nat := (va_up (stT8 n) 22 (1, 1200))
def stI9 (i : Nat → Nat → Int32) : Nat → Nat → Int32 := (va_up (stI8 i) 22 (fun _ => 0))
def stL9 : Nat → Nat → Int64 := (va_up stL8 22 (fun _ => 0))
def stR9 : Nat → Nat → Value := (stRp (va_up stR8 22 (fun _ => .null)) 4 17 22)
set_option maxRecDepth 20000 in
theorem zs_11 : mm_V 106 144 [some (.ref 4)] [.int 1200, .ref 4] (stT8 n, stI8 i, stL8, stR8, 22, true, 22, 2839) = mm_V 106 149 [some (.ref 4)] [] (stT9 n, stI9 i, stL9, stR9, 23, true, 23, 4039) := (mv_newI mj_106 rfl rfl (len := 1200) rfl rfl (q := 146) rfl (nx' := 23) rfl (cn' := 23) rfl (sn' := 4039) rfl (mv_putR mj_106 rfl rfl rfl (q := 149) rfl rfl))
set_option maxRecDepth 20000 in
theorem zs_12 : mm_V 106 0 [some (.ref 4)] [] (stT5 n, stI5 i, stL5, stR5, 5, true, 5, 1241) = some (.inl none, (stT9 n, stI9 i, stL9, stR9, 23, true, 23, 4039)) := ((zs_8 (n := n) (i := i)).trans ((zs_9 (n := n) (i := i)).trans ((zs_10 (n := n) (i := i)).trans ((zs_11 (n := n) (i := i)).trans (mv_vret mj_106 rfl)))))
set_option maxRecDepth 20000 in
theorem zs_13 : mm_V 0 9 [some (.ref 3), some (.ref 1)] [.ref 4, .ref 4, .ref 3] (stT5 n, stI5 i, stL5, stR5, 5, true, 5, 1241) = mm_V 0 12 [some (.ref 3), some (.ref 1)] [.ref 4, .ref 3] (stT9 n, stI9 i, stL9, stR9, 23, true, 23, 4039) := (mv_callI mj_0 rfl mj_106 rfl rfl rfl rfl rfl (q := 12) rfl (zs_12 (n := n) (i := i)) rfl)
def stT10 (n : Nat) : Nat → Nat × Nat := (va_up (va_up (va_up (va_up (va_up (va_up (stT9 n) 23 (4, 42)) 24 (1, 42)) 25 (1, 60)) 26 (1, 12)) 27 (1, 64)) 28 (19, 0))
def stI10 (i : Nat → Nat → Int32) : Nat → Nat → Int32 := (va_up (va_up (va_up (va_up (va_up (va_up (stI9 i) 23 (fun _ => 0)) 24 (fun _ => 0)) 25 (fun _ => 0)) 26 (fun _ => 0)) 27 (fun _ => 0)) 28 (fun _ => 0))
def stL10 : Nat → Nat → Int64 := (va_up (va_up (va_up (va_up (va_up (va_up stL9 23 (fun _ => 0)) 24 (fun _ => 0)) 25 (fun _ => 0)) 26 (fun _ => 0)) 27 (fun _ => 0)) 28 (fun _ => 0))
def stR10 : Nat → Nat → Value := (va_up (stRp (va_up (stRp (va_up (stRp (va_up (stRp (va_up (stRp (va_up (stRp stR9 3 1 4) 23 (fun _ => .null)) 3 2 23) 24 (fun _ => .null)) 3 3 24) 25 (fun _ => .null)) 3 5 25) 26 (fun _ => .null)) 3 6 26) 27 (fun _ => .null)) 3 7 27) 28 (fun _ => .null))
set_option maxRecDepth 20000 in
theorem zs_14 : mm_V 0 12 [some (.ref 3), some (.ref 1)] [.ref 4, .ref 3] (stT9 n, stI9 i, stL9, stR9, 23, true, 23, 4039) = mm_V 0 60 [some (.ref 3), some (.ref 1)] [.ref 28, .ref 28, .ref 3] (stT10 n, stI10 i, stL10, stR10, 29, true, 29, 4264) := (mv_putR mj_0 rfl rfl rfl (q := 15) rfl (mv_aload_n mj_0 rfl rfl (q := 16) rfl (mv_bipush 42 mj_0 rfl mk_b42 (q := 18) rfl (mv_newL mj_0 rfl rfl (len := 42) rfl rfl (q := 20) rfl (nx' := 24) rfl (cn' := 24) rfl (sn' := 4081) rfl (mv_putR mj_0 rfl rfl rfl (q := 23) rfl (mv_aload_n mj_0 rfl rfl (q := 24) rfl (mv_bipush 42 mj_0 rfl mk_b42 (q := 26) rfl (mv_newI mj_0 rfl rfl (len := 42) rfl rfl (q := 28) rfl (nx' := 25) rfl (cn' := 25) rfl (sn' := 4123) rfl (mv_putR mj_0 rfl rfl rfl (q := 31) rfl (mv_aload_n mj_0 rfl rfl (q := 32) rfl (mv_bipush 60 mj_0 rfl mk_b60 (q := 34) rfl (mv_newI mj_0 rfl rfl (len := 60) rfl rfl (q := 36) rfl (nx' := 26) rfl (cn' := 26) rfl (sn' := 4183) rfl (mv_putR mj_0 rfl rfl rfl (q := 39) rfl (mv_aload_n mj_0 rfl rfl (q := 40) rfl (mv_bipush 12 mj_0 rfl mk_b12 (q := 42) rfl (mv_newI mj_0 rfl rfl (len := 12) rfl rfl (q := 44) rfl (nx' := 27) rfl (cn' := 27) rfl (sn' := 4195) rfl (mv_putR mj_0 rfl rfl rfl (q := 47) rfl (mv_aload_n mj_0 rfl rfl (q := 48) rfl (mv_bipush 64 mj_0 rfl mk_b64 (q := 50) rfl (mv_newI mj_0 rfl rfl (len := 64) rfl rfl (q := 52) rfl (nx' := 28) rfl (cn' := 28) rfl (sn' := 4259) rfl (mv_putR mj_0 rfl rfl rfl (q := 55) rfl (mv_aload_n mj_0 rfl rfl (q := 56) rfl (mv_new mj_0 rfl rfl rfl (q := 59) rfl (nx' := 29) rfl (cn' := 29) rfl (sn' := 4264) rfl (mv_dupa mj_0 rfl (q := 60) rfl rfl))))))))))))))))))))))))
set_option maxRecDepth 20000 in
theorem zs_15 : mm_V 0 60 [some (.ref 3), some (.ref 1)] [.ref 28, .ref 28, .ref 3] (stT10 n, stI10 i, stL10, stR10, 29, true, 29, 4264) = mm_V 0 61 [some (.ref 3), some (.ref 1)] [.ref 1, .ref 28, .ref 28, .ref 3] (stT10 n, stI10 i, stL10, stR10, 29, true, 29, 4264) := (mv_aload_n mj_0 rfl rfl (q := 61) rfl rfl)
def stT11 (n : Nat) : Nat → Nat × Nat := (stT10 n)
def stI11 (i : Nat → Nat → Int32) : Nat → Nat → Int32 := (stI10 i)
def stL11 : Nat → Nat → Int64 := stL10
def stR11 : Nat → Nat → Value := (stRp stR10 28 0 1)
set_option maxRecDepth 20000 in
theorem zs_16 : mm_V 130 0 [some (.ref 28), some (.ref 1)] [] (stT10 n, stI10 i, stL10, stR10, 29, true, 29, 4264) = mm_V 130 9 [some (.ref 28), some (.ref 1)] [] (stT11 n, stI11 i, stL11, stR11, 29, true, 29, 4264) := (mv_aload_n mj_130 rfl rfl (q := 1) rfl (mv_obj mj_130 rfl rfl (q := 4) rfl (mv_aload_n mj_130 rfl rfl (q := 5) rfl (mv_aload_n mj_130 rfl rfl (q := 6) rfl (mv_putR mj_130 rfl rfl rfl (q := 9) rfl rfl)))))
set_option maxRecDepth 20000 in
theorem zs_17 : mm_V 130 0 [some (.ref 28), some (.ref 1)] [] (stT10 n, stI10 i, stL10, stR10, 29, true, 29, 4264) = some (.inl none, (stT11 n, stI11 i, stL11, stR11, 29, true, 29, 4264)) := ((zs_16 (n := n) (i := i)).trans (mv_vret mj_130 rfl))
set_option maxRecDepth 20000 in
theorem zs_18 : mm_V 0 61 [some (.ref 3), some (.ref 1)] [.ref 1, .ref 28, .ref 28, .ref 3] (stT10 n, stI10 i, stL10, stR10, 29, true, 29, 4264) = mm_V 0 64 [some (.ref 3), some (.ref 1)] [.ref 28, .ref 3] (stT11 n, stI11 i, stL11, stR11, 29, true, 29, 4264) := (mv_callI mj_0 rfl mj_130 rfl rfl rfl rfl rfl (q := 64) rfl (zs_17 (n := n) (i := i)) rfl)
def stT12 (n : Nat) : Nat → Nat × Nat := (stT11 n)
def stI12 (i : Nat → Nat → Int32) : Nat → Nat → Int32 := (stI11 i)
def stL12 : Nat → Nat → Int64 := stL11
def stR12 : Nat → Nat → Value := (stRp stR11 3 0 28)
set_option maxRecDepth 20000 in
theorem zs_19 : mm_V 0 64 [some (.ref 3), some (.ref 1)] [.ref 28, .ref 3] (stT11 n, stI11 i, stL11, stR11, 29, true, 29, 4264) = mm_V 0 67 [some (.ref 3), some (.ref 1)] [] (stT12 n, stI12 i, stL12, stR12, 29, true, 29, 4264) := (mv_putR mj_0 rfl rfl rfl (q := 67) rfl rfl)
set_option maxRecDepth 20000 in
theorem zs_20 : mm_V 0 0 [some (.ref 3), some (.ref 1)] [] (stT4 n, stI4 i, stL4, stR4, 4, true, 4, 1222) = some (.inl none, (stT12 n, stI12 i, stL12, stR12, 29, true, 29, 4264)) := ((zs_7 (n := n) (i := i)).trans ((zs_13 (n := n) (i := i)).trans ((zs_14 (n := n) (i := i)).trans ((zs_15 (n := n) (i := i)).trans ((zs_18 (n := n) (i := i)).trans ((zs_19 (n := n) (i := i)).trans (mv_vret mj_0 rfl)))))))
set_option maxRecDepth 20000 in
theorem zs_21 : mm_V 156 24 [some (.ref 0)] [.ref 1, .ref 3, .ref 3, .ref 0] (stT4 n, stI4 i, stL4, stR4, 4, true, 4, 1222) = mm_V 156 27 [some (.ref 0)] [.ref 3, .ref 0] (stT12 n, stI12 i, stL12, stR12, 29, true, 29, 4264) := (mv_callI mj_156 rfl mj_0 rfl rfl rfl rfl rfl (q := 27) rfl (zs_20 (n := n) (i := i)) rfl)
def stT13 (n : Nat) : Nat → Nat × Nat := (va_up (stT12 n) 29 (11, 0))
def stI13 (i : Nat → Nat → Int32) : Nat → Nat → Int32 := (va_up (stI12 i) 29 (fun _ => 0))
def stL13 : Nat → Nat → Int64 := (va_up stL12 29 (fun _ => 0))
def stR13 : Nat → Nat → Value := (va_up (stRp stR12 0 1 3) 29 (fun _ => .null))
set_option maxRecDepth 20000 in
theorem zs_22 : mm_V 156 27 [some (.ref 0)] [.ref 3, .ref 0] (stT12 n, stI12 i, stL12, stR12, 29, true, 29, 4264) = mm_V 156 39 [some (.ref 0)] [.ref 1, .ref 29, .ref 29, .ref 0] (stT13 n, stI13 i, stL13, stR13, 30, true, 30, 4274) := (mv_putR mj_156 rfl rfl rfl (q := 30) rfl (mv_aload_n mj_156 rfl rfl (q := 31) rfl (mv_new mj_156 rfl rfl rfl (q := 34) rfl (nx' := 30) rfl (cn' := 30) rfl (sn' := 4274) rfl (mv_dupa mj_156 rfl (q := 35) rfl (mv_aload_n mj_156 rfl rfl (q := 36) rfl (mv_getR mj_156 rfl rfl rfl rfl (q := 39) rfl rfl))))))
def stT14 (n : Nat) : Nat → Nat × Nat := (stT13 n)
def stI14 (i : Nat → Nat → Int32) : Nat → Nat → Int32 := (stI13 i)
def stL14 : Nat → Nat → Int64 := stL13
def stR14 : Nat → Nat → Value := (stRp stR13 29 0 1)
set_option maxRecDepth 20000 in
theorem zs_23 : mm_V 25 0 [some (.ref 29), some (.ref 1)] [] (stT13 n, stI13 i, stL13, stR13, 30, true, 30, 4274) = mm_V 25 9 [some (.ref 29), some (.ref 1)] [] (stT14 n, stI14 i, stL14, stR14, 30, true, 30, 4274) := (mv_aload_n mj_25 rfl rfl (q := 1) rfl (mv_obj mj_25 rfl rfl (q := 4) rfl (mv_aload_n mj_25 rfl rfl (q := 5) rfl (mv_aload_n mj_25 rfl rfl (q := 6) rfl (mv_putR mj_25 rfl rfl rfl (q := 9) rfl rfl)))))
set_option maxRecDepth 20000 in
theorem zs_24 : mm_V 25 0 [some (.ref 29), some (.ref 1)] [] (stT13 n, stI13 i, stL13, stR13, 30, true, 30, 4274) = some (.inl none, (stT14 n, stI14 i, stL14, stR14, 30, true, 30, 4274)) := ((zs_23 (n := n) (i := i)).trans (mv_vret mj_25 rfl))
set_option maxRecDepth 20000 in
theorem zs_25 : mm_V 156 39 [some (.ref 0)] [.ref 1, .ref 29, .ref 29, .ref 0] (stT13 n, stI13 i, stL13, stR13, 30, true, 30, 4274) = mm_V 156 42 [some (.ref 0)] [.ref 29, .ref 0] (stT14 n, stI14 i, stL14, stR14, 30, true, 30, 4274) := (mv_callI mj_156 rfl mj_25 rfl rfl rfl rfl rfl (q := 42) rfl (zs_24 (n := n) (i := i)) rfl)
def stT15 (n : Nat) : Nat → Nat × Nat := (va_up (stT14 n) 30 (12, 0))
def stI15 (i : Nat → Nat → Int32) : Nat → Nat → Int32 := (va_up (stI14 i) 30 (fun _ => 0))
def stL15 : Nat → Nat → Int64 := (va_up stL14 30 (fun _ => 0))
def stR15 : Nat → Nat → Value := (va_up (stRp stR14 0 2 29) 30 (fun _ => .null))
set_option maxRecDepth 20000 in
theorem zs_26 : mm_V 156 42 [some (.ref 0)] [.ref 29, .ref 0] (stT14 n, stI14 i, stL14, stR14, 30, true, 30, 4274) = mm_V 156 50 [some (.ref 0)] [.ref 30, .ref 30, .ref 0] (stT15 n, stI15 i, stL15, stR15, 31, true, 31, 4287) := (mv_putR mj_156 rfl rfl rfl (q := 45) rfl (mv_aload_n mj_156 rfl rfl (q := 46) rfl (mv_new mj_156 rfl rfl rfl (q := 49) rfl (nx' := 31) rfl (cn' := 31) rfl (sn' := 4287) rfl (mv_dupa mj_156 rfl (q := 50) rfl rfl))))
def stT16 (n : Nat) : Nat → Nat × Nat := (va_up (stT15 n) 31 (17, 0))
def stI16 (i : Nat → Nat → Int32) : Nat → Nat → Int32 := (va_up (stI15 i) 31 (fun _ => 0))
def stL16 : Nat → Nat → Int64 := (va_up stL15 31 (fun _ => 0))
def stR16 : Nat → Nat → Value := (va_up stR15 31 (fun _ => .null))
set_option maxRecDepth 20000 in
theorem zs_27 : mm_V 32 0 [some (.ref 30)] [] (stT15 n, stI15 i, stL15, stR15, 31, true, 31, 4287) = mm_V 32 9 [some (.ref 30)] [.ref 31, .ref 31, .ref 30] (stT16 n, stI16 i, stL16, stR16, 32, true, 32, 4306) := (mv_aload_n mj_32 rfl rfl (q := 1) rfl (mv_obj mj_32 rfl rfl (q := 4) rfl (mv_aload_n mj_32 rfl rfl (q := 5) rfl (mv_new mj_32 rfl rfl rfl (q := 8) rfl (nx' := 32) rfl (cn' := 32) rfl (sn' := 4306) rfl (mv_dupa mj_32 rfl (q := 9) rfl rfl)))))
def stT17 (n : Nat) : Nat → Nat × Nat := (va_up (va_up (va_up (va_up (va_up (stT16 n) 32 (1, 7)) 33 (1, 8)) 34 (1, 6)) 35 (1, 4)) 36 (1, 60))
def stI17 (i : Nat → Nat → Int32) : Nat → Nat → Int32 := (va_up (va_up (va_up (va_up (va_up (stI16 i) 32 (fun _ => 0)) 33 (fun _ => 0)) 34 (fun _ => 0)) 35 (fun _ => 0)) 36 (fun _ => 0))
def stL17 : Nat → Nat → Int64 := (va_up (va_up (va_up (va_up (va_up stL16 32 (fun _ => 0)) 33 (fun _ => 0)) 34 (fun _ => 0)) 35 (fun _ => 0)) 36 (fun _ => 0))
def stR17 : Nat → Nat → Value := (stRp (va_up (stRp (va_up (stRp (va_up (stRp (va_up (stRp (va_up stR16 32 (fun _ => .null)) 31 0 32) 33 (fun _ => .null)) 31 1 33) 34 (fun _ => .null)) 31 2 34) 35 (fun _ => .null)) 31 3 35) 36 (fun _ => .null)) 31 4 36)
set_option maxRecDepth 20000 in
theorem zs_28 : mm_V 106 0 [some (.ref 31)] [] (stT16 n, stI16 i, stL16, stR16, 32, true, 32, 4306) = mm_V 106 46 [some (.ref 31)] [.int 60, .ref 31] (stT17 n, stI17 i, stL17, stR17, 37, true, 37, 4391) := (mv_aload_n mj_106 rfl rfl (q := 1) rfl (mv_obj mj_106 rfl rfl (q := 4) rfl (mv_aload_n mj_106 rfl rfl (q := 5) rfl (mv_bipush 7 mj_106 rfl mk_b7 (q := 7) rfl (mv_newI mj_106 rfl rfl (len := 7) rfl rfl (q := 9) rfl (nx' := 33) rfl (cn' := 33) rfl (sn' := 4313) rfl (mv_putR mj_106 rfl rfl rfl (q := 12) rfl (mv_aload_n mj_106 rfl rfl (q := 13) rfl (mv_bipush 8 mj_106 rfl mk_b8 (q := 15) rfl (mv_newI mj_106 rfl rfl (len := 8) rfl rfl (q := 17) rfl (nx' := 34) rfl (cn' := 34) rfl (sn' := 4321) rfl (mv_putR mj_106 rfl rfl rfl (q := 20) rfl (mv_aload_n mj_106 rfl rfl (q := 21) rfl (mv_bipush 6 mj_106 rfl mk_b6 (q := 23) rfl (mv_newI mj_106 rfl rfl (len := 6) rfl rfl (q := 25) rfl (nx' := 35) rfl (cn' := 35) rfl (sn' := 4327) rfl (mv_putR mj_106 rfl rfl rfl (q := 28) rfl (mv_aload_n mj_106 rfl rfl (q := 29) rfl (mv_iconst 4 mj_106 rfl mk_i4 (q := 30) rfl (mv_newI mj_106 rfl rfl (len := 4) rfl rfl (q := 32) rfl (nx' := 36) rfl (cn' := 36) rfl (sn' := 4331) rfl (mv_putR mj_106 rfl rfl rfl (q := 35) rfl (mv_aload_n mj_106 rfl rfl (q := 36) rfl (mv_bipush 60 mj_106 rfl mk_b60 (q := 38) rfl (mv_newI mj_106 rfl rfl (len := 60) rfl rfl (q := 40) rfl (nx' := 37) rfl (cn' := 37) rfl (sn' := 4391) rfl (mv_putR mj_106 rfl rfl rfl (q := 43) rfl (mv_aload_n mj_106 rfl rfl (q := 44) rfl (mv_bipush 60 mj_106 rfl mk_b60 (q := 46) rfl rfl))))))))))))))))))))))))
def stT18 (n : Nat) : Nat → Nat × Nat := (va_up (va_up (va_up (va_up (va_up (va_up (stT17 n) 37 (1, 60)) 38 (1, 60)) 39 (1, 60)) 40 (1, 60)) 41 (1, 12)) 42 (1, 12))
def stI18 (i : Nat → Nat → Int32) : Nat → Nat → Int32 := (va_up (va_up (va_up (va_up (va_up (va_up (stI17 i) 37 (fun _ => 0)) 38 (fun _ => 0)) 39 (fun _ => 0)) 40 (fun _ => 0)) 41 (fun _ => 0)) 42 (fun _ => 0))
def stL18 : Nat → Nat → Int64 := (va_up (va_up (va_up (va_up (va_up (va_up stL17 37 (fun _ => 0)) 38 (fun _ => 0)) 39 (fun _ => 0)) 40 (fun _ => 0)) 41 (fun _ => 0)) 42 (fun _ => 0))
def stR18 : Nat → Nat → Value := (stRp (va_up (stRp (va_up (stRp (va_up (stRp (va_up (stRp (va_up (stRp (va_up stR17 37 (fun _ => .null)) 31 5 37) 38 (fun _ => .null)) 31 6 38) 39 (fun _ => .null)) 31 7 39) 40 (fun _ => .null)) 31 8 40) 41 (fun _ => .null)) 31 9 41) 42 (fun _ => .null)) 31 10 42)
set_option maxRecDepth 20000 in
theorem zs_29 : mm_V 106 46 [some (.ref 31)] [.int 60, .ref 31] (stT17 n, stI17 i, stL17, stR17, 37, true, 37, 4391) = mm_V 106 94 [some (.ref 31)] [.int 12, .ref 31] (stT18 n, stI18 i, stL18, stR18, 43, true, 43, 4655) := (mv_newI mj_106 rfl rfl (len := 60) rfl rfl (q := 48) rfl (nx' := 38) rfl (cn' := 38) rfl (sn' := 4451) rfl (mv_putR mj_106 rfl rfl rfl (q := 51) rfl (mv_aload_n mj_106 rfl rfl (q := 52) rfl (mv_bipush 60 mj_106 rfl mk_b60 (q := 54) rfl (mv_newI mj_106 rfl rfl (len := 60) rfl rfl (q := 56) rfl (nx' := 39) rfl (cn' := 39) rfl (sn' := 4511) rfl (mv_putR mj_106 rfl rfl rfl (q := 59) rfl (mv_aload_n mj_106 rfl rfl (q := 60) rfl (mv_bipush 60 mj_106 rfl mk_b60 (q := 62) rfl (mv_newI mj_106 rfl rfl (len := 60) rfl rfl (q := 64) rfl (nx' := 40) rfl (cn' := 40) rfl (sn' := 4571) rfl (mv_putR mj_106 rfl rfl rfl (q := 67) rfl (mv_aload_n mj_106 rfl rfl (q := 68) rfl (mv_bipush 60 mj_106 rfl mk_b60 (q := 70) rfl (mv_newI mj_106 rfl rfl (len := 60) rfl rfl (q := 72) rfl (nx' := 41) rfl (cn' := 41) rfl (sn' := 4631) rfl (mv_putR mj_106 rfl rfl rfl (q := 75) rfl (mv_aload_n mj_106 rfl rfl (q := 76) rfl (mv_bipush 12 mj_106 rfl mk_b12 (q := 78) rfl (mv_newI mj_106 rfl rfl (len := 12) rfl rfl (q := 80) rfl (nx' := 42) rfl (cn' := 42) rfl (sn' := 4643) rfl (mv_putR mj_106 rfl rfl rfl (q := 83) rfl (mv_aload_n mj_106 rfl rfl (q := 84) rfl (mv_bipush 12 mj_106 rfl mk_b12 (q := 86) rfl (mv_newI mj_106 rfl rfl (len := 12) rfl rfl (q := 88) rfl (nx' := 43) rfl (cn' := 43) rfl (sn' := 4655) rfl (mv_putR mj_106 rfl rfl rfl (q := 91) rfl (mv_aload_n mj_106 rfl rfl (q := 92) rfl (mv_bipush 12 mj_106 rfl mk_b12 (q := 94) rfl rfl))))))))))))))))))))))))
def stT19 (n : Nat) : Nat → Nat × Nat := (va_up (va_up (va_up (va_up (va_up (va_up (stT18 n) 43 (1, 12)) 44 (1, 12)) 45 (1, 8)) 46 (1, 8)) 47 (1, 9)) 48 (1, 1200))
def stI19 (i : Nat → Nat → Int32) : Nat → Nat → Int32 := (va_up (va_up (va_up (va_up (va_up (va_up (stI18 i) 43 (fun _ => 0)) 44 (fun _ => 0)) 45 (fun _ => 0)) 46 (fun _ => 0)) 47 (fun _ => 0)) 48 (fun _ => 0))
def stL19 : Nat → Nat → Int64 := (va_up (va_up (va_up (va_up (va_up (va_up stL18 43 (fun _ => 0)) 44 (fun _ => 0)) 45 (fun _ => 0)) 46 (fun _ => 0)) 47 (fun _ => 0)) 48 (fun _ => 0))
def stR19 : Nat → Nat → Value := (stRp (va_up (stRp (va_up (stRp (va_up (stRp (va_up (stRp (va_up (stRp (va_up stR18 43 (fun _ => .null)) 31 11 43) 44 (fun _ => .null)) 31 12 44) 45 (fun _ => .null)) 31 13 45) 46 (fun _ => .null)) 31 14 46) 47 (fun _ => .null)) 31 15 47) 48 (fun _ => .null)) 31 16 48)
set_option maxRecDepth 20000 in
theorem zs_30 : mm_V 106 94 [some (.ref 31)] [.int 12, .ref 31] (stT18 n, stI18 i, stL18, stR18, 43, true, 43, 4655) = mm_V 106 144 [some (.ref 31)] [.int 1200, .ref 31] (stT19 n, stI19 i, stL19, stR19, 49, true, 49, 5904) := (mv_newI mj_106 rfl rfl (len := 12) rfl rfl (q := 96) rfl (nx' := 44) rfl (cn' := 44) rfl (sn' := 4667) rfl (mv_putR mj_106 rfl rfl rfl (q := 99) rfl (mv_aload_n mj_106 rfl rfl (q := 100) rfl (mv_bipush 12 mj_106 rfl mk_b12 (q := 102) rfl (mv_newI mj_106 rfl rfl (len := 12) rfl rfl (q := 104) rfl (nx' := 45) rfl (cn' := 45) rfl (sn' := 4679) rfl (mv_putR mj_106 rfl rfl rfl (q := 107) rfl (mv_aload_n mj_106 rfl rfl (q := 108) rfl (mv_bipush 8 mj_106 rfl mk_b8 (q := 110) rfl (mv_newI mj_106 rfl rfl (len := 8) rfl rfl (q := 112) rfl (nx' := 46) rfl (cn' := 46) rfl (sn' := 4687) rfl (mv_putR mj_106 rfl rfl rfl (q := 115) rfl (mv_aload_n mj_106 rfl rfl (q := 116) rfl (mv_bipush 8 mj_106 rfl mk_b8 (q := 118) rfl (mv_newI mj_106 rfl rfl (len := 8) rfl rfl (q := 120) rfl (nx' := 47) rfl (cn' := 47) rfl (sn' := 4695) rfl (mv_putR mj_106 rfl rfl rfl (q := 123) rfl (mv_aload_n mj_106 rfl rfl (q := 124) rfl (mv_bipush 9 mj_106 rfl mk_b9 (q := 126) rfl (mv_newI mj_106 rfl rfl (len := 9) rfl rfl (q := 128) rfl (nx' := 48) rfl (cn' := 48) rfl (sn' := 4704) rfl (mv_putR mj_106 rfl rfl rfl (q := 131) rfl (mv_aload_n mj_106 rfl rfl (q := 132) rfl (mv_sipush 1200 mj_106 rfl mk_s1200 (q := 135) rfl (mv_newI mj_106 rfl rfl (len := 1200) rfl rfl (q := 137) rfl (nx' := 49) rfl (cn' := 49) rfl (sn' := 5904) rfl (mv_putR mj_106 rfl rfl rfl (q := 140) rfl (mv_aload_n mj_106 rfl rfl (q := 141) rfl (mv_sipush 1200 mj_106 rfl mk_s1200 (q := 144) rfl rfl))))))))))))))))))))))))
def stT20 (n : Nat) : Nat → Nat × Nat := (va_up (stT19 n) 49 (1, 1200))
def stI20 (i : Nat → Nat → Int32) : Nat → Nat → Int32 := (va_up (stI19 i) 49 (fun _ => 0))
def stL20 : Nat → Nat → Int64 := (va_up stL19 49 (fun _ => 0))
def stR20 : Nat → Nat → Value := (stRp (va_up stR19 49 (fun _ => .null)) 31 17 49)
set_option maxRecDepth 20000 in
theorem zs_31 : mm_V 106 144 [some (.ref 31)] [.int 1200, .ref 31] (stT19 n, stI19 i, stL19, stR19, 49, true, 49, 5904) = mm_V 106 149 [some (.ref 31)] [] (stT20 n, stI20 i, stL20, stR20, 50, true, 50, 7104) := (mv_newI mj_106 rfl rfl (len := 1200) rfl rfl (q := 146) rfl (nx' := 50) rfl (cn' := 50) rfl (sn' := 7104) rfl (mv_putR mj_106 rfl rfl rfl (q := 149) rfl rfl))
set_option maxRecDepth 20000 in
theorem zs_32 : mm_V 106 0 [some (.ref 31)] [] (stT16 n, stI16 i, stL16, stR16, 32, true, 32, 4306) = some (.inl none, (stT20 n, stI20 i, stL20, stR20, 50, true, 50, 7104)) := ((zs_28 (n := n) (i := i)).trans ((zs_29 (n := n) (i := i)).trans ((zs_30 (n := n) (i := i)).trans ((zs_31 (n := n) (i := i)).trans (mv_vret mj_106 rfl)))))
set_option maxRecDepth 20000 in
theorem zs_33 : mm_V 32 9 [some (.ref 30)] [.ref 31, .ref 31, .ref 30] (stT16 n, stI16 i, stL16, stR16, 32, true, 32, 4306) = mm_V 32 12 [some (.ref 30)] [.ref 31, .ref 30] (stT20 n, stI20 i, stL20, stR20, 50, true, 50, 7104) := (mv_callI mj_32 rfl mj_106 rfl rfl rfl rfl rfl (q := 12) rfl (zs_32 (n := n) (i := i)) rfl)
def stT21 (n : Nat) : Nat → Nat × Nat := (va_up (va_up (va_up (va_up (va_up (va_up (stT20 n) 50 (1, 576)) 51 (1, 6)) 52 (1, 6)) 53 (1, 6)) 54 (1, 6)) 55 (1, 100))
def stI21 (i : Nat → Nat → Int32) : Nat → Nat → Int32 := (va_up (va_up (va_up (va_up (va_up (va_up (stI20 i) 50 (fun _ => 0)) 51 (fun _ => 0)) 52 (fun _ => 0)) 53 (fun _ => 0)) 54 (fun _ => 0)) 55 (fun _ => 0))
def stL21 : Nat → Nat → Int64 := (va_up (va_up (va_up (va_up (va_up (va_up stL20 50 (fun _ => 0)) 51 (fun _ => 0)) 52 (fun _ => 0)) 53 (fun _ => 0)) 54 (fun _ => 0)) 55 (fun _ => 0))
def stR21 : Nat → Nat → Value := (va_up (stRp (va_up (stRp (va_up (stRp (va_up (stRp (va_up (stRp (va_up (stRp stR20 30 0 31) 50 (fun _ => .null)) 30 2 50) 51 (fun _ => .null)) 30 4 51) 52 (fun _ => .null)) 30 5 52) 53 (fun _ => .null)) 30 6 53) 54 (fun _ => .null)) 30 7 54) 55 (fun _ => .null))
set_option maxRecDepth 20000 in
theorem zs_34 : mm_V 32 12 [some (.ref 30)] [.ref 31, .ref 30] (stT20 n, stI20 i, stL20, stR20, 50, true, 50, 7104) = mm_V 32 61 [some (.ref 30)] [.ref 55, .ref 30] (stT21 n, stI21 i, stL21, stR21, 56, true, 56, 7804) := (mv_putR mj_32 rfl rfl rfl (q := 15) rfl (mv_aload_n mj_32 rfl rfl (q := 16) rfl (mv_sipush 576 mj_32 rfl mk_s576 (q := 19) rfl (mv_newI mj_32 rfl rfl (len := 576) rfl rfl (q := 21) rfl (nx' := 51) rfl (cn' := 51) rfl (sn' := 7680) rfl (mv_putR mj_32 rfl rfl rfl (q := 24) rfl (mv_aload_n mj_32 rfl rfl (q := 25) rfl (mv_bipush 6 mj_32 rfl mk_b6 (q := 27) rfl (mv_newI mj_32 rfl rfl (len := 6) rfl rfl (q := 29) rfl (nx' := 52) rfl (cn' := 52) rfl (sn' := 7686) rfl (mv_putR mj_32 rfl rfl rfl (q := 32) rfl (mv_aload_n mj_32 rfl rfl (q := 33) rfl (mv_bipush 6 mj_32 rfl mk_b6 (q := 35) rfl (mv_newI mj_32 rfl rfl (len := 6) rfl rfl (q := 37) rfl (nx' := 53) rfl (cn' := 53) rfl (sn' := 7692) rfl (mv_putR mj_32 rfl rfl rfl (q := 40) rfl (mv_aload_n mj_32 rfl rfl (q := 41) rfl (mv_bipush 6 mj_32 rfl mk_b6 (q := 43) rfl (mv_newI mj_32 rfl rfl (len := 6) rfl rfl (q := 45) rfl (nx' := 54) rfl (cn' := 54) rfl (sn' := 7698) rfl (mv_putR mj_32 rfl rfl rfl (q := 48) rfl (mv_aload_n mj_32 rfl rfl (q := 49) rfl (mv_bipush 6 mj_32 rfl mk_b6 (q := 51) rfl (mv_newI mj_32 rfl rfl (len := 6) rfl rfl (q := 53) rfl (nx' := 55) rfl (cn' := 55) rfl (sn' := 7704) rfl (mv_putR mj_32 rfl rfl rfl (q := 56) rfl (mv_aload_n mj_32 rfl rfl (q := 57) rfl (mv_bipush 100 mj_32 rfl mk_b100 (q := 59) rfl (mv_newI mj_32 rfl rfl (len := 100) rfl rfl (q := 61) rfl (nx' := 56) rfl (cn' := 56) rfl (sn' := 7804) rfl rfl))))))))))))))))))))))))
def stT22 (n : Nat) : Nat → Nat × Nat := (stT21 n)
def stI22 (i : Nat → Nat → Int32) : Nat → Nat → Int32 := (stI21 i)
def stL22 : Nat → Nat → Int64 := stL21
def stR22 : Nat → Nat → Value := (stRp stR21 30 9 55)
set_option maxRecDepth 20000 in
theorem zs_35 : mm_V 32 61 [some (.ref 30)] [.ref 55, .ref 30] (stT21 n, stI21 i, stL21, stR21, 56, true, 56, 7804) = mm_V 32 64 [some (.ref 30)] [] (stT22 n, stI22 i, stL22, stR22, 56, true, 56, 7804) := (mv_putR mj_32 rfl rfl rfl (q := 64) rfl rfl)
set_option maxRecDepth 20000 in
theorem zs_36 : mm_V 32 0 [some (.ref 30)] [] (stT15 n, stI15 i, stL15, stR15, 31, true, 31, 4287) = some (.inl none, (stT22 n, stI22 i, stL22, stR22, 56, true, 56, 7804)) := ((zs_27 (n := n) (i := i)).trans ((zs_33 (n := n) (i := i)).trans ((zs_34 (n := n) (i := i)).trans ((zs_35 (n := n) (i := i)).trans (mv_vret mj_32 rfl)))))
set_option maxRecDepth 20000 in
theorem zs_37 : mm_V 156 50 [some (.ref 0)] [.ref 30, .ref 30, .ref 0] (stT15 n, stI15 i, stL15, stR15, 31, true, 31, 4287) = mm_V 156 53 [some (.ref 0)] [.ref 30, .ref 0] (stT22 n, stI22 i, stL22, stR22, 56, true, 56, 7804) := (mv_callI mj_156 rfl mj_32 rfl rfl rfl rfl rfl (q := 53) rfl (zs_36 (n := n) (i := i)) rfl)
def stT23 (n : Nat) : Nat → Nat × Nat := (va_up (stT22 n) 56 (15, 0))
def stI23 (i : Nat → Nat → Int32) : Nat → Nat → Int32 := (va_up (stI22 i) 56 (fun _ => 0))
def stL23 : Nat → Nat → Int64 := (va_up stL22 56 (fun _ => 0))
def stR23 : Nat → Nat → Value := (va_up (stRp stR22 0 3 30) 56 (fun _ => .null))
set_option maxRecDepth 20000 in
theorem zs_38 : mm_V 156 53 [some (.ref 0)] [.ref 30, .ref 0] (stT22 n, stI22 i, stL22, stR22, 56, true, 56, 7804) = mm_V 156 61 [some (.ref 0)] [.ref 56, .ref 56, .ref 0] (stT23 n, stI23 i, stL23, stR23, 57, true, 57, 7808) := (mv_putR mj_156 rfl rfl rfl (q := 56) rfl (mv_aload_n mj_156 rfl rfl (q := 57) rfl (mv_new mj_156 rfl rfl rfl (q := 60) rfl (nx' := 57) rfl (cn' := 57) rfl (sn' := 7808) rfl (mv_dupa mj_156 rfl (q := 61) rfl rfl))))
def stT24 (n : Nat) : Nat → Nat × Nat := (va_up (stT23 n) 57 (20, 0))
def stI24 (i : Nat → Nat → Int32) : Nat → Nat → Int32 := (va_up (stI23 i) 57 (fun _ => 0))
def stL24 : Nat → Nat → Int64 := (va_up stL23 57 (fun _ => 0))
def stR24 : Nat → Nat → Value := (va_up stR23 57 (fun _ => .null))
set_option maxRecDepth 20000 in
theorem zs_39 : mm_V 82 0 [some (.ref 56)] [] (stT23 n, stI23 i, stL23, stR23, 57, true, 57, 7808) = mm_V 82 9 [some (.ref 56)] [.ref 57, .ref 57, .ref 56] (stT24 n, stI24 i, stL24, stR24, 58, true, 58, 7812) := (mv_aload_n mj_82 rfl rfl (q := 1) rfl (mv_obj mj_82 rfl rfl (q := 4) rfl (mv_aload_n mj_82 rfl rfl (q := 5) rfl (mv_new mj_82 rfl rfl rfl (q := 8) rfl (nx' := 58) rfl (cn' := 58) rfl (sn' := 7812) rfl (mv_dupa mj_82 rfl (q := 9) rfl rfl)))))
def stT25 (n : Nat) : Nat → Nat × Nat := (va_up (va_up (va_up (va_up (stT24 n) 58 (1, 32)) 59 (1, 32)) 60 (1, 32)) 61 (1, 768))
def stI25 (i : Nat → Nat → Int32) : Nat → Nat → Int32 := (va_up (va_up (va_up (va_up (stI24 i) 58 (fun _ => 0)) 59 (fun _ => 0)) 60 (fun _ => 0)) 61 (fun _ => 0))
def stL25 : Nat → Nat → Int64 := (va_up (va_up (va_up (va_up stL24 58 (fun _ => 0)) 59 (fun _ => 0)) 60 (fun _ => 0)) 61 (fun _ => 0))
def stR25 : Nat → Nat → Value := (stRp (va_up (stRp (va_up (stRp (va_up (stRp (va_up stR24 58 (fun _ => .null)) 57 0 58) 59 (fun _ => .null)) 57 1 59) 60 (fun _ => .null)) 57 2 60) 61 (fun _ => .null)) 57 3 61)
set_option maxRecDepth 20000 in
theorem zs_40 : mm_V 137 0 [some (.ref 57)] [] (stT24 n, stI24 i, stL24, stR24, 58, true, 58, 7812) = mm_V 137 42 [some (.ref 57)] [.int (-1), .ref 58] (stT25 n, stI25 i, stL25, stR25, 62, true, 62, 8676) := (mv_aload_n mj_137 rfl rfl (q := 1) rfl (mv_obj mj_137 rfl rfl (q := 4) rfl (mv_aload_n mj_137 rfl rfl (q := 5) rfl (mv_bipush 32 mj_137 rfl mk_b32 (q := 7) rfl (mv_newI mj_137 rfl rfl (len := 32) rfl rfl (q := 9) rfl (nx' := 59) rfl (cn' := 59) rfl (sn' := 7844) rfl (mv_putR mj_137 rfl rfl rfl (q := 12) rfl (mv_aload_n mj_137 rfl rfl (q := 13) rfl (mv_bipush 32 mj_137 rfl mk_b32 (q := 15) rfl (mv_newI mj_137 rfl rfl (len := 32) rfl rfl (q := 17) rfl (nx' := 60) rfl (cn' := 60) rfl (sn' := 7876) rfl (mv_putR mj_137 rfl rfl rfl (q := 20) rfl (mv_aload_n mj_137 rfl rfl (q := 21) rfl (mv_bipush 32 mj_137 rfl mk_b32 (q := 23) rfl (mv_newI mj_137 rfl rfl (len := 32) rfl rfl (q := 25) rfl (nx' := 61) rfl (cn' := 61) rfl (sn' := 7908) rfl (mv_putR mj_137 rfl rfl rfl (q := 28) rfl (mv_aload_n mj_137 rfl rfl (q := 29) rfl (mv_sipush 768 mj_137 rfl mk_s768 (q := 32) rfl (mv_newI mj_137 rfl rfl (len := 768) rfl rfl (q := 34) rfl (nx' := 62) rfl (cn' := 62) rfl (sn' := 8676) rfl (mv_putR mj_137 rfl rfl rfl (q := 37) rfl (mv_aload_n mj_137 rfl rfl (q := 38) rfl (mv_getR mj_137 rfl rfl rfl rfl (q := 41) rfl (mv_iconst (-1) mj_137 rfl mk_im1 (q := 42) rfl rfl)))))))))))))))))))))
def stT26 (n : Nat) : Nat → Nat × Nat := (stT25 n)
def stI26 (i : Nat → Nat → Int32) : Nat → Nat → Int32 := (mm_ww (mm_ww (stI25 i) 58 ((0 : Int32).toNatClampNeg) (-1)) 58 ((1 : Int32).toNatClampNeg) (-1))
def stL26 : Nat → Nat → Int64 := stL25
def stR26 : Nat → Nat → Value := stR25
set_option maxRecDepth 20000 in
theorem zs_41 : mm_V 361 0 [some (.ref 58), some (.int (-1)), none, none] [] (stT25 n, stI25 i, stL25, stR25, 62, true, 62, 8676) = mm_V 361 6 [some (.ref 58), some (.int (-1)), some (.int 2), some (.int 32)] [.int 2] (stT26 n, stI26 i, stL26, stR26, 62, true, 62, 8676) := (mv_iconst 0 mj_361 rfl mk_i0 (q := 1) rfl (mv_istore_n [some (.ref 58), some (.int (-1)), some (.int 0), none] mj_361 rfl rfl rfl (q := 2) rfl (mv_aload_n mj_361 rfl rfl (q := 3) rfl (mv_alen mj_361 rfl rfl rfl (q := 4) rfl (zs_int (y := 32) rfl (mv_istore_n [some (.ref 58), some (.int (-1)), some (.int 0), some (.int 32)] mj_361 rfl rfl rfl (q := 5) rfl (mv_iload_n mj_361 rfl rfl (q := 6) rfl (mv_iload_n mj_361 rfl rfl (q := 7) rfl (zs_ifT (by decide) (mv_2ge mj_361 rfl (g := 20) rfl (q := 10) rfl rfl (mv_aload_n mj_361 rfl rfl (q := 11) rfl (mv_iload_n mj_361 rfl rfl (q := 12) rfl (mv_iload_n mj_361 rfl rfl (q := 13) rfl (mv_ifK mk_o0_32 (mv_iast mj_361 rfl rfl rfl (q := 14) rfl (mv_iinc 1 [some (.ref 58), some (.int (-1)), some (.int 1), some (.int 32)] mj_361 rfl rfl rfl mk_i1 rfl (q := 17) rfl (mv_goto mj_361 rfl (g := 5) rfl (mv_iload_n mj_361 rfl rfl (q := 6) rfl (mv_iload_n mj_361 rfl rfl (q := 7) rfl (zs_ifT (by decide) (mv_2ge mj_361 rfl (g := 20) rfl (q := 10) rfl rfl (mv_aload_n mj_361 rfl rfl (q := 11) rfl (mv_iload_n mj_361 rfl rfl (q := 12) rfl (mv_iload_n mj_361 rfl rfl (q := 13) rfl (mv_ifK mk_o1_32 (mv_iast mj_361 rfl rfl rfl (q := 14) rfl (mv_iinc 1 [some (.ref 58), some (.int (-1)), some (.int 2), some (.int 32)] mj_361 rfl rfl rfl mk_i1 rfl (q := 17) rfl (mv_goto mj_361 rfl (g := 5) rfl (mv_iload_n mj_361 rfl rfl (q := 6) rfl rfl)))))))))))))))))))))))))))))
def stT27 (n : Nat) : Nat → Nat × Nat := (stT26 n)
def stI27 (i : Nat → Nat → Int32) : Nat → Nat → Int32 := (mm_ww (mm_ww (mm_ww (stI26 i) 58 ((2 : Int32).toNatClampNeg) (-1)) 58 ((3 : Int32).toNatClampNeg) (-1)) 58 ((4 : Int32).toNatClampNeg) (-1))
def stL27 : Nat → Nat → Int64 := stL26
def stR27 : Nat → Nat → Value := stR26
set_option maxRecDepth 20000 in
theorem zs_42 : mm_V 361 6 [some (.ref 58), some (.int (-1)), some (.int 2), some (.int 32)] [.int 2] (stT26 n, stI26 i, stL26, stR26, 62, true, 62, 8676) = mm_V 361 14 [some (.ref 58), some (.int (-1)), some (.int 4), some (.int 32)] [] (stT27 n, stI27 i, stL27, stR27, 62, true, 62, 8676) := (mv_iload_n mj_361 rfl rfl (q := 7) rfl (zs_ifT (by decide) (mv_2ge mj_361 rfl (g := 20) rfl (q := 10) rfl rfl (mv_aload_n mj_361 rfl rfl (q := 11) rfl (mv_iload_n mj_361 rfl rfl (q := 12) rfl (mv_iload_n mj_361 rfl rfl (q := 13) rfl (mv_ifK mk_o2_32 (mv_iast mj_361 rfl rfl rfl (q := 14) rfl (mv_iinc 1 [some (.ref 58), some (.int (-1)), some (.int 3), some (.int 32)] mj_361 rfl rfl rfl mk_i1 rfl (q := 17) rfl (mv_goto mj_361 rfl (g := 5) rfl (mv_iload_n mj_361 rfl rfl (q := 6) rfl (mv_iload_n mj_361 rfl rfl (q := 7) rfl (zs_ifT (by decide) (mv_2ge mj_361 rfl (g := 20) rfl (q := 10) rfl rfl (mv_aload_n mj_361 rfl rfl (q := 11) rfl (mv_iload_n mj_361 rfl rfl (q := 12) rfl (mv_iload_n mj_361 rfl rfl (q := 13) rfl (mv_ifK mk_o3_32 (mv_iast mj_361 rfl rfl rfl (q := 14) rfl (mv_iinc 1 [some (.ref 58), some (.int (-1)), some (.int 4), some (.int 32)] mj_361 rfl rfl rfl mk_i1 rfl (q := 17) rfl (mv_goto mj_361 rfl (g := 5) rfl (mv_iload_n mj_361 rfl rfl (q := 6) rfl (mv_iload_n mj_361 rfl rfl (q := 7) rfl (zs_ifT (by decide) (mv_2ge mj_361 rfl (g := 20) rfl (q := 10) rfl rfl (mv_aload_n mj_361 rfl rfl (q := 11) rfl (mv_iload_n mj_361 rfl rfl (q := 12) rfl (mv_iload_n mj_361 rfl rfl (q := 13) rfl (mv_ifK mk_o4_32 (mv_iast mj_361 rfl rfl rfl (q := 14) rfl rfl))))))))))))))))))))))))))))))
def stT28 (n : Nat) : Nat → Nat × Nat := (stT27 n)
def stI28 (i : Nat → Nat → Int32) : Nat → Nat → Int32 := (mm_ww (mm_ww (stI27 i) 58 ((5 : Int32).toNatClampNeg) (-1)) 58 ((6 : Int32).toNatClampNeg) (-1))
def stL28 : Nat → Nat → Int64 := stL27
def stR28 : Nat → Nat → Value := stR27
set_option maxRecDepth 20000 in
theorem zs_43 : mm_V 361 14 [some (.ref 58), some (.int (-1)), some (.int 4), some (.int 32)] [] (stT27 n, stI27 i, stL27, stR27, 62, true, 62, 8676) = mm_V 361 11 [some (.ref 58), some (.int (-1)), some (.int 7), some (.int 32)] [.ref 58] (stT28 n, stI28 i, stL28, stR28, 62, true, 62, 8676) := (mv_iinc 1 [some (.ref 58), some (.int (-1)), some (.int 5), some (.int 32)] mj_361 rfl rfl rfl mk_i1 rfl (q := 17) rfl (mv_goto mj_361 rfl (g := 5) rfl (mv_iload_n mj_361 rfl rfl (q := 6) rfl (mv_iload_n mj_361 rfl rfl (q := 7) rfl (zs_ifT (by decide) (mv_2ge mj_361 rfl (g := 20) rfl (q := 10) rfl rfl (mv_aload_n mj_361 rfl rfl (q := 11) rfl (mv_iload_n mj_361 rfl rfl (q := 12) rfl (mv_iload_n mj_361 rfl rfl (q := 13) rfl (mv_ifK mk_o5_32 (mv_iast mj_361 rfl rfl rfl (q := 14) rfl (mv_iinc 1 [some (.ref 58), some (.int (-1)), some (.int 6), some (.int 32)] mj_361 rfl rfl rfl mk_i1 rfl (q := 17) rfl (mv_goto mj_361 rfl (g := 5) rfl (mv_iload_n mj_361 rfl rfl (q := 6) rfl (mv_iload_n mj_361 rfl rfl (q := 7) rfl (zs_ifT (by decide) (mv_2ge mj_361 rfl (g := 20) rfl (q := 10) rfl rfl (mv_aload_n mj_361 rfl rfl (q := 11) rfl (mv_iload_n mj_361 rfl rfl (q := 12) rfl (mv_iload_n mj_361 rfl rfl (q := 13) rfl (mv_ifK mk_o6_32 (mv_iast mj_361 rfl rfl rfl (q := 14) rfl (mv_iinc 1 [some (.ref 58), some (.int (-1)), some (.int 7), some (.int 32)] mj_361 rfl rfl rfl mk_i1 rfl (q := 17) rfl (mv_goto mj_361 rfl (g := 5) rfl (mv_iload_n mj_361 rfl rfl (q := 6) rfl (mv_iload_n mj_361 rfl rfl (q := 7) rfl (zs_ifT (by decide) (mv_2ge mj_361 rfl (g := 20) rfl (q := 10) rfl rfl (mv_aload_n mj_361 rfl rfl (q := 11) rfl rfl)))))))))))))))))))))))))))))
def stT29 (n : Nat) : Nat → Nat × Nat := (stT28 n)
def stI29 (i : Nat → Nat → Int32) : Nat → Nat → Int32 := (mm_ww (mm_ww (mm_ww (stI28 i) 58 ((7 : Int32).toNatClampNeg) (-1)) 58 ((8 : Int32).toNatClampNeg) (-1)) 58 ((9 : Int32).toNatClampNeg) (-1))
def stL29 : Nat → Nat → Int64 := stL28
def stR29 : Nat → Nat → Value := stR28
set_option maxRecDepth 20000 in
theorem zs_44 : mm_V 361 11 [some (.ref 58), some (.int (-1)), some (.int 7), some (.int 32)] [.ref 58] (stT28 n, stI28 i, stL28, stR28, 62, true, 62, 8676) = mm_V 361 6 [some (.ref 58), some (.int (-1)), some (.int 10), some (.int 32)] [.int 10] (stT29 n, stI29 i, stL29, stR29, 62, true, 62, 8676) := (mv_iload_n mj_361 rfl rfl (q := 12) rfl (mv_iload_n mj_361 rfl rfl (q := 13) rfl (mv_ifK mk_o7_32 (mv_iast mj_361 rfl rfl rfl (q := 14) rfl (mv_iinc 1 [some (.ref 58), some (.int (-1)), some (.int 8), some (.int 32)] mj_361 rfl rfl rfl mk_i1 rfl (q := 17) rfl (mv_goto mj_361 rfl (g := 5) rfl (mv_iload_n mj_361 rfl rfl (q := 6) rfl (mv_iload_n mj_361 rfl rfl (q := 7) rfl (zs_ifT (by decide) (mv_2ge mj_361 rfl (g := 20) rfl (q := 10) rfl rfl (mv_aload_n mj_361 rfl rfl (q := 11) rfl (mv_iload_n mj_361 rfl rfl (q := 12) rfl (mv_iload_n mj_361 rfl rfl (q := 13) rfl (mv_ifK mk_o8_32 (mv_iast mj_361 rfl rfl rfl (q := 14) rfl (mv_iinc 1 [some (.ref 58), some (.int (-1)), some (.int 9), some (.int 32)] mj_361 rfl rfl rfl mk_i1 rfl (q := 17) rfl (mv_goto mj_361 rfl (g := 5) rfl (mv_iload_n mj_361 rfl rfl (q := 6) rfl (mv_iload_n mj_361 rfl rfl (q := 7) rfl (zs_ifT (by decide) (mv_2ge mj_361 rfl (g := 20) rfl (q := 10) rfl rfl (mv_aload_n mj_361 rfl rfl (q := 11) rfl (mv_iload_n mj_361 rfl rfl (q := 12) rfl (mv_iload_n mj_361 rfl rfl (q := 13) rfl (mv_ifK mk_o9_32 (mv_iast mj_361 rfl rfl rfl (q := 14) rfl (mv_iinc 1 [some (.ref 58), some (.int (-1)), some (.int 10), some (.int 32)] mj_361 rfl rfl rfl mk_i1 rfl (q := 17) rfl (mv_goto mj_361 rfl (g := 5) rfl (mv_iload_n mj_361 rfl rfl (q := 6) rfl rfl)))))))))))))))))))))))))))))
def stT30 (n : Nat) : Nat → Nat × Nat := (stT29 n)
def stI30 (i : Nat → Nat → Int32) : Nat → Nat → Int32 := (mm_ww (mm_ww (mm_ww (stI29 i) 58 ((10 : Int32).toNatClampNeg) (-1)) 58 ((11 : Int32).toNatClampNeg) (-1)) 58 ((12 : Int32).toNatClampNeg) (-1))
def stL30 : Nat → Nat → Int64 := stL29
def stR30 : Nat → Nat → Value := stR29
set_option maxRecDepth 20000 in
theorem zs_45 : mm_V 361 6 [some (.ref 58), some (.int (-1)), some (.int 10), some (.int 32)] [.int 10] (stT29 n, stI29 i, stL29, stR29, 62, true, 62, 8676) = mm_V 361 14 [some (.ref 58), some (.int (-1)), some (.int 12), some (.int 32)] [] (stT30 n, stI30 i, stL30, stR30, 62, true, 62, 8676) := (mv_iload_n mj_361 rfl rfl (q := 7) rfl (zs_ifT (by decide) (mv_2ge mj_361 rfl (g := 20) rfl (q := 10) rfl rfl (mv_aload_n mj_361 rfl rfl (q := 11) rfl (mv_iload_n mj_361 rfl rfl (q := 12) rfl (mv_iload_n mj_361 rfl rfl (q := 13) rfl (mv_ifK mk_o10_32 (mv_iast mj_361 rfl rfl rfl (q := 14) rfl (mv_iinc 1 [some (.ref 58), some (.int (-1)), some (.int 11), some (.int 32)] mj_361 rfl rfl rfl mk_i1 rfl (q := 17) rfl (mv_goto mj_361 rfl (g := 5) rfl (mv_iload_n mj_361 rfl rfl (q := 6) rfl (mv_iload_n mj_361 rfl rfl (q := 7) rfl (zs_ifT (by decide) (mv_2ge mj_361 rfl (g := 20) rfl (q := 10) rfl rfl (mv_aload_n mj_361 rfl rfl (q := 11) rfl (mv_iload_n mj_361 rfl rfl (q := 12) rfl (mv_iload_n mj_361 rfl rfl (q := 13) rfl (mv_ifK mk_o11_32 (mv_iast mj_361 rfl rfl rfl (q := 14) rfl (mv_iinc 1 [some (.ref 58), some (.int (-1)), some (.int 12), some (.int 32)] mj_361 rfl rfl rfl mk_i1 rfl (q := 17) rfl (mv_goto mj_361 rfl (g := 5) rfl (mv_iload_n mj_361 rfl rfl (q := 6) rfl (mv_iload_n mj_361 rfl rfl (q := 7) rfl (zs_ifT (by decide) (mv_2ge mj_361 rfl (g := 20) rfl (q := 10) rfl rfl (mv_aload_n mj_361 rfl rfl (q := 11) rfl (mv_iload_n mj_361 rfl rfl (q := 12) rfl (mv_iload_n mj_361 rfl rfl (q := 13) rfl (mv_ifK mk_o12_32 (mv_iast mj_361 rfl rfl rfl (q := 14) rfl rfl))))))))))))))))))))))))))))))
def stT31 (n : Nat) : Nat → Nat × Nat := (stT30 n)
def stI31 (i : Nat → Nat → Int32) : Nat → Nat → Int32 := (mm_ww (mm_ww (stI30 i) 58 ((13 : Int32).toNatClampNeg) (-1)) 58 ((14 : Int32).toNatClampNeg) (-1))
def stL31 : Nat → Nat → Int64 := stL30
def stR31 : Nat → Nat → Value := stR30
set_option maxRecDepth 20000 in
theorem zs_46 : mm_V 361 14 [some (.ref 58), some (.int (-1)), some (.int 12), some (.int 32)] [] (stT30 n, stI30 i, stL30, stR30, 62, true, 62, 8676) = mm_V 361 11 [some (.ref 58), some (.int (-1)), some (.int 15), some (.int 32)] [.ref 58] (stT31 n, stI31 i, stL31, stR31, 62, true, 62, 8676) := (mv_iinc 1 [some (.ref 58), some (.int (-1)), some (.int 13), some (.int 32)] mj_361 rfl rfl rfl mk_i1 rfl (q := 17) rfl (mv_goto mj_361 rfl (g := 5) rfl (mv_iload_n mj_361 rfl rfl (q := 6) rfl (mv_iload_n mj_361 rfl rfl (q := 7) rfl (zs_ifT (by decide) (mv_2ge mj_361 rfl (g := 20) rfl (q := 10) rfl rfl (mv_aload_n mj_361 rfl rfl (q := 11) rfl (mv_iload_n mj_361 rfl rfl (q := 12) rfl (mv_iload_n mj_361 rfl rfl (q := 13) rfl (mv_ifK mk_o13_32 (mv_iast mj_361 rfl rfl rfl (q := 14) rfl (mv_iinc 1 [some (.ref 58), some (.int (-1)), some (.int 14), some (.int 32)] mj_361 rfl rfl rfl mk_i1 rfl (q := 17) rfl (mv_goto mj_361 rfl (g := 5) rfl (mv_iload_n mj_361 rfl rfl (q := 6) rfl (mv_iload_n mj_361 rfl rfl (q := 7) rfl (zs_ifT (by decide) (mv_2ge mj_361 rfl (g := 20) rfl (q := 10) rfl rfl (mv_aload_n mj_361 rfl rfl (q := 11) rfl (mv_iload_n mj_361 rfl rfl (q := 12) rfl (mv_iload_n mj_361 rfl rfl (q := 13) rfl (mv_ifK mk_o14_32 (mv_iast mj_361 rfl rfl rfl (q := 14) rfl (mv_iinc 1 [some (.ref 58), some (.int (-1)), some (.int 15), some (.int 32)] mj_361 rfl rfl rfl mk_i1 rfl (q := 17) rfl (mv_goto mj_361 rfl (g := 5) rfl (mv_iload_n mj_361 rfl rfl (q := 6) rfl (mv_iload_n mj_361 rfl rfl (q := 7) rfl (zs_ifT (by decide) (mv_2ge mj_361 rfl (g := 20) rfl (q := 10) rfl rfl (mv_aload_n mj_361 rfl rfl (q := 11) rfl rfl)))))))))))))))))))))))))))))
def stT32 (n : Nat) : Nat → Nat × Nat := (stT31 n)
def stI32 (i : Nat → Nat → Int32) : Nat → Nat → Int32 := (mm_ww (mm_ww (mm_ww (stI31 i) 58 ((15 : Int32).toNatClampNeg) (-1)) 58 ((16 : Int32).toNatClampNeg) (-1)) 58 ((17 : Int32).toNatClampNeg) (-1))
def stL32 : Nat → Nat → Int64 := stL31
def stR32 : Nat → Nat → Value := stR31
set_option maxRecDepth 20000 in
theorem zs_47 : mm_V 361 11 [some (.ref 58), some (.int (-1)), some (.int 15), some (.int 32)] [.ref 58] (stT31 n, stI31 i, stL31, stR31, 62, true, 62, 8676) = mm_V 361 6 [some (.ref 58), some (.int (-1)), some (.int 18), some (.int 32)] [.int 18] (stT32 n, stI32 i, stL32, stR32, 62, true, 62, 8676) := (mv_iload_n mj_361 rfl rfl (q := 12) rfl (mv_iload_n mj_361 rfl rfl (q := 13) rfl (mv_ifK mk_o15_32 (mv_iast mj_361 rfl rfl rfl (q := 14) rfl (mv_iinc 1 [some (.ref 58), some (.int (-1)), some (.int 16), some (.int 32)] mj_361 rfl rfl rfl mk_i1 rfl (q := 17) rfl (mv_goto mj_361 rfl (g := 5) rfl (mv_iload_n mj_361 rfl rfl (q := 6) rfl (mv_iload_n mj_361 rfl rfl (q := 7) rfl (zs_ifT (by decide) (mv_2ge mj_361 rfl (g := 20) rfl (q := 10) rfl rfl (mv_aload_n mj_361 rfl rfl (q := 11) rfl (mv_iload_n mj_361 rfl rfl (q := 12) rfl (mv_iload_n mj_361 rfl rfl (q := 13) rfl (mv_ifK mk_o16_32 (mv_iast mj_361 rfl rfl rfl (q := 14) rfl (mv_iinc 1 [some (.ref 58), some (.int (-1)), some (.int 17), some (.int 32)] mj_361 rfl rfl rfl mk_i1 rfl (q := 17) rfl (mv_goto mj_361 rfl (g := 5) rfl (mv_iload_n mj_361 rfl rfl (q := 6) rfl (mv_iload_n mj_361 rfl rfl (q := 7) rfl (zs_ifT (by decide) (mv_2ge mj_361 rfl (g := 20) rfl (q := 10) rfl rfl (mv_aload_n mj_361 rfl rfl (q := 11) rfl (mv_iload_n mj_361 rfl rfl (q := 12) rfl (mv_iload_n mj_361 rfl rfl (q := 13) rfl (mv_ifK mk_o17_32 (mv_iast mj_361 rfl rfl rfl (q := 14) rfl (mv_iinc 1 [some (.ref 58), some (.int (-1)), some (.int 18), some (.int 32)] mj_361 rfl rfl rfl mk_i1 rfl (q := 17) rfl (mv_goto mj_361 rfl (g := 5) rfl (mv_iload_n mj_361 rfl rfl (q := 6) rfl rfl)))))))))))))))))))))))))))))
def stT33 (n : Nat) : Nat → Nat × Nat := (stT32 n)
def stI33 (i : Nat → Nat → Int32) : Nat → Nat → Int32 := (mm_ww (mm_ww (mm_ww (stI32 i) 58 ((18 : Int32).toNatClampNeg) (-1)) 58 ((19 : Int32).toNatClampNeg) (-1)) 58 ((20 : Int32).toNatClampNeg) (-1))
def stL33 : Nat → Nat → Int64 := stL32
def stR33 : Nat → Nat → Value := stR32
set_option maxRecDepth 20000 in
theorem zs_48 : mm_V 361 6 [some (.ref 58), some (.int (-1)), some (.int 18), some (.int 32)] [.int 18] (stT32 n, stI32 i, stL32, stR32, 62, true, 62, 8676) = mm_V 361 14 [some (.ref 58), some (.int (-1)), some (.int 20), some (.int 32)] [] (stT33 n, stI33 i, stL33, stR33, 62, true, 62, 8676) := (mv_iload_n mj_361 rfl rfl (q := 7) rfl (zs_ifT (by decide) (mv_2ge mj_361 rfl (g := 20) rfl (q := 10) rfl rfl (mv_aload_n mj_361 rfl rfl (q := 11) rfl (mv_iload_n mj_361 rfl rfl (q := 12) rfl (mv_iload_n mj_361 rfl rfl (q := 13) rfl (mv_ifK mk_o18_32 (mv_iast mj_361 rfl rfl rfl (q := 14) rfl (mv_iinc 1 [some (.ref 58), some (.int (-1)), some (.int 19), some (.int 32)] mj_361 rfl rfl rfl mk_i1 rfl (q := 17) rfl (mv_goto mj_361 rfl (g := 5) rfl (mv_iload_n mj_361 rfl rfl (q := 6) rfl (mv_iload_n mj_361 rfl rfl (q := 7) rfl (zs_ifT (by decide) (mv_2ge mj_361 rfl (g := 20) rfl (q := 10) rfl rfl (mv_aload_n mj_361 rfl rfl (q := 11) rfl (mv_iload_n mj_361 rfl rfl (q := 12) rfl (mv_iload_n mj_361 rfl rfl (q := 13) rfl (mv_ifK mk_o19_32 (mv_iast mj_361 rfl rfl rfl (q := 14) rfl (mv_iinc 1 [some (.ref 58), some (.int (-1)), some (.int 20), some (.int 32)] mj_361 rfl rfl rfl mk_i1 rfl (q := 17) rfl (mv_goto mj_361 rfl (g := 5) rfl (mv_iload_n mj_361 rfl rfl (q := 6) rfl (mv_iload_n mj_361 rfl rfl (q := 7) rfl (zs_ifT (by decide) (mv_2ge mj_361 rfl (g := 20) rfl (q := 10) rfl rfl (mv_aload_n mj_361 rfl rfl (q := 11) rfl (mv_iload_n mj_361 rfl rfl (q := 12) rfl (mv_iload_n mj_361 rfl rfl (q := 13) rfl (mv_ifK mk_o20_32 (mv_iast mj_361 rfl rfl rfl (q := 14) rfl rfl))))))))))))))))))))))))))))))
def stT34 (n : Nat) : Nat → Nat × Nat := (stT33 n)
def stI34 (i : Nat → Nat → Int32) : Nat → Nat → Int32 := (mm_ww (mm_ww (stI33 i) 58 ((21 : Int32).toNatClampNeg) (-1)) 58 ((22 : Int32).toNatClampNeg) (-1))
def stL34 : Nat → Nat → Int64 := stL33
def stR34 : Nat → Nat → Value := stR33
set_option maxRecDepth 20000 in
theorem zs_49 : mm_V 361 14 [some (.ref 58), some (.int (-1)), some (.int 20), some (.int 32)] [] (stT33 n, stI33 i, stL33, stR33, 62, true, 62, 8676) = mm_V 361 11 [some (.ref 58), some (.int (-1)), some (.int 23), some (.int 32)] [.ref 58] (stT34 n, stI34 i, stL34, stR34, 62, true, 62, 8676) := (mv_iinc 1 [some (.ref 58), some (.int (-1)), some (.int 21), some (.int 32)] mj_361 rfl rfl rfl mk_i1 rfl (q := 17) rfl (mv_goto mj_361 rfl (g := 5) rfl (mv_iload_n mj_361 rfl rfl (q := 6) rfl (mv_iload_n mj_361 rfl rfl (q := 7) rfl (zs_ifT (by decide) (mv_2ge mj_361 rfl (g := 20) rfl (q := 10) rfl rfl (mv_aload_n mj_361 rfl rfl (q := 11) rfl (mv_iload_n mj_361 rfl rfl (q := 12) rfl (mv_iload_n mj_361 rfl rfl (q := 13) rfl (mv_ifK mk_o21_32 (mv_iast mj_361 rfl rfl rfl (q := 14) rfl (mv_iinc 1 [some (.ref 58), some (.int (-1)), some (.int 22), some (.int 32)] mj_361 rfl rfl rfl mk_i1 rfl (q := 17) rfl (mv_goto mj_361 rfl (g := 5) rfl (mv_iload_n mj_361 rfl rfl (q := 6) rfl (mv_iload_n mj_361 rfl rfl (q := 7) rfl (zs_ifT (by decide) (mv_2ge mj_361 rfl (g := 20) rfl (q := 10) rfl rfl (mv_aload_n mj_361 rfl rfl (q := 11) rfl (mv_iload_n mj_361 rfl rfl (q := 12) rfl (mv_iload_n mj_361 rfl rfl (q := 13) rfl (mv_ifK mk_o22_32 (mv_iast mj_361 rfl rfl rfl (q := 14) rfl (mv_iinc 1 [some (.ref 58), some (.int (-1)), some (.int 23), some (.int 32)] mj_361 rfl rfl rfl mk_i1 rfl (q := 17) rfl (mv_goto mj_361 rfl (g := 5) rfl (mv_iload_n mj_361 rfl rfl (q := 6) rfl (mv_iload_n mj_361 rfl rfl (q := 7) rfl (zs_ifT (by decide) (mv_2ge mj_361 rfl (g := 20) rfl (q := 10) rfl rfl (mv_aload_n mj_361 rfl rfl (q := 11) rfl rfl)))))))))))))))))))))))))))))
def stT35 (n : Nat) : Nat → Nat × Nat := (stT34 n)
def stI35 (i : Nat → Nat → Int32) : Nat → Nat → Int32 := (mm_ww (mm_ww (mm_ww (stI34 i) 58 ((23 : Int32).toNatClampNeg) (-1)) 58 ((24 : Int32).toNatClampNeg) (-1)) 58 ((25 : Int32).toNatClampNeg) (-1))
def stL35 : Nat → Nat → Int64 := stL34
def stR35 : Nat → Nat → Value := stR34
set_option maxRecDepth 20000 in
theorem zs_50 : mm_V 361 11 [some (.ref 58), some (.int (-1)), some (.int 23), some (.int 32)] [.ref 58] (stT34 n, stI34 i, stL34, stR34, 62, true, 62, 8676) = mm_V 361 6 [some (.ref 58), some (.int (-1)), some (.int 26), some (.int 32)] [.int 26] (stT35 n, stI35 i, stL35, stR35, 62, true, 62, 8676) := (mv_iload_n mj_361 rfl rfl (q := 12) rfl (mv_iload_n mj_361 rfl rfl (q := 13) rfl (mv_ifK mk_o23_32 (mv_iast mj_361 rfl rfl rfl (q := 14) rfl (mv_iinc 1 [some (.ref 58), some (.int (-1)), some (.int 24), some (.int 32)] mj_361 rfl rfl rfl mk_i1 rfl (q := 17) rfl (mv_goto mj_361 rfl (g := 5) rfl (mv_iload_n mj_361 rfl rfl (q := 6) rfl (mv_iload_n mj_361 rfl rfl (q := 7) rfl (zs_ifT (by decide) (mv_2ge mj_361 rfl (g := 20) rfl (q := 10) rfl rfl (mv_aload_n mj_361 rfl rfl (q := 11) rfl (mv_iload_n mj_361 rfl rfl (q := 12) rfl (mv_iload_n mj_361 rfl rfl (q := 13) rfl (mv_ifK mk_o24_32 (mv_iast mj_361 rfl rfl rfl (q := 14) rfl (mv_iinc 1 [some (.ref 58), some (.int (-1)), some (.int 25), some (.int 32)] mj_361 rfl rfl rfl mk_i1 rfl (q := 17) rfl (mv_goto mj_361 rfl (g := 5) rfl (mv_iload_n mj_361 rfl rfl (q := 6) rfl (mv_iload_n mj_361 rfl rfl (q := 7) rfl (zs_ifT (by decide) (mv_2ge mj_361 rfl (g := 20) rfl (q := 10) rfl rfl (mv_aload_n mj_361 rfl rfl (q := 11) rfl (mv_iload_n mj_361 rfl rfl (q := 12) rfl (mv_iload_n mj_361 rfl rfl (q := 13) rfl (mv_ifK mk_o25_32 (mv_iast mj_361 rfl rfl rfl (q := 14) rfl (mv_iinc 1 [some (.ref 58), some (.int (-1)), some (.int 26), some (.int 32)] mj_361 rfl rfl rfl mk_i1 rfl (q := 17) rfl (mv_goto mj_361 rfl (g := 5) rfl (mv_iload_n mj_361 rfl rfl (q := 6) rfl rfl)))))))))))))))))))))))))))))
def stT36 (n : Nat) : Nat → Nat × Nat := (stT35 n)
def stI36 (i : Nat → Nat → Int32) : Nat → Nat → Int32 := (mm_ww (mm_ww (mm_ww (stI35 i) 58 ((26 : Int32).toNatClampNeg) (-1)) 58 ((27 : Int32).toNatClampNeg) (-1)) 58 ((28 : Int32).toNatClampNeg) (-1))
def stL36 : Nat → Nat → Int64 := stL35
def stR36 : Nat → Nat → Value := stR35
set_option maxRecDepth 20000 in
theorem zs_51 : mm_V 361 6 [some (.ref 58), some (.int (-1)), some (.int 26), some (.int 32)] [.int 26] (stT35 n, stI35 i, stL35, stR35, 62, true, 62, 8676) = mm_V 361 14 [some (.ref 58), some (.int (-1)), some (.int 28), some (.int 32)] [] (stT36 n, stI36 i, stL36, stR36, 62, true, 62, 8676) := (mv_iload_n mj_361 rfl rfl (q := 7) rfl (zs_ifT (by decide) (mv_2ge mj_361 rfl (g := 20) rfl (q := 10) rfl rfl (mv_aload_n mj_361 rfl rfl (q := 11) rfl (mv_iload_n mj_361 rfl rfl (q := 12) rfl (mv_iload_n mj_361 rfl rfl (q := 13) rfl (mv_ifK mk_o26_32 (mv_iast mj_361 rfl rfl rfl (q := 14) rfl (mv_iinc 1 [some (.ref 58), some (.int (-1)), some (.int 27), some (.int 32)] mj_361 rfl rfl rfl mk_i1 rfl (q := 17) rfl (mv_goto mj_361 rfl (g := 5) rfl (mv_iload_n mj_361 rfl rfl (q := 6) rfl (mv_iload_n mj_361 rfl rfl (q := 7) rfl (zs_ifT (by decide) (mv_2ge mj_361 rfl (g := 20) rfl (q := 10) rfl rfl (mv_aload_n mj_361 rfl rfl (q := 11) rfl (mv_iload_n mj_361 rfl rfl (q := 12) rfl (mv_iload_n mj_361 rfl rfl (q := 13) rfl (mv_ifK mk_o27_32 (mv_iast mj_361 rfl rfl rfl (q := 14) rfl (mv_iinc 1 [some (.ref 58), some (.int (-1)), some (.int 28), some (.int 32)] mj_361 rfl rfl rfl mk_i1 rfl (q := 17) rfl (mv_goto mj_361 rfl (g := 5) rfl (mv_iload_n mj_361 rfl rfl (q := 6) rfl (mv_iload_n mj_361 rfl rfl (q := 7) rfl (zs_ifT (by decide) (mv_2ge mj_361 rfl (g := 20) rfl (q := 10) rfl rfl (mv_aload_n mj_361 rfl rfl (q := 11) rfl (mv_iload_n mj_361 rfl rfl (q := 12) rfl (mv_iload_n mj_361 rfl rfl (q := 13) rfl (mv_ifK mk_o28_32 (mv_iast mj_361 rfl rfl rfl (q := 14) rfl rfl))))))))))))))))))))))))))))))
end MM220
