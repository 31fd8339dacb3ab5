/-! OPEN of what isn't there, in the reference -/
section MM115
variable {w : Bool} {l : Nat → Nat → Int64} {e : Bool × Nat × Nat} {π : mP} {m : Nat} {ψ : mS} {b B p n M : Nat} {i0 i i' : Nat → Nat → Int32} {s a x y : Int32} {r : Int32 × mS} {L : List Nat}
theorem on_t211 (g : RD π i0 b i ψ s a x) (hs : s < 0) (hp : p < 8) {x2 x3 x4 x5 x6 x7 : Int32} : mm_V 303 211 [some (.ref 83), some (.int (nI p)), some (.int x2), some (.int x3), some (.int x4), some (.int x5), some (.int x6), some (.int x7)] [] (mm_Z m w i l e) = some (.inl (some (.int s)), mm_Z m w i l e) := by
  rw [mr_303_211, cm_no g hs, mb_l, mb_0, mr_303_219, op_t282 g hs hp]
theorem on_t179 (g : RD π i0 b i ψ s a x) (hs : s < 0) (hp : p < 8) {d : Nat} (hd : d < 32) {x2 x3 x4 x6 x7 : Int32} : mm_V 303 179 [some (.ref 83), some (.int (nI p)), some (.int x2), some (.int x3), some (.int x4), some (.int (nI d)), some (.int x6), some (.int x7)] [] (mm_Z m w i l e) = some (.inl (some (.int s)), mm_Z m w i l e) := by
  rw [mr_303_179, tr_freeNode g.1.1 g.iv.tw, mb_l, mb_v, mr_303_184, if_neg (no_out (by omega) (by omega))]
  split
  · split
    · rw [mr_303_206, g.mn hs, mb_l, mb_0, on_t211 g hs hp]
    · rw [mr_303_206, g.mn hs, mb_l, mb_0, on_t211 g hs hp]
  · rw [mr_303_206, g.mn hs, mb_l, mb_0, on_t211 g hs hp]
theorem on_c121 (g : RD π i0 b i ψ s a x) (hp : p < 8) (hP0 : hP (yH ψ) p ≠ 0) {d : Nat} (hd : d < 32) (hd0 : tk (yT ψ) d ≠ 0) {x2 x3 x4 x6 x7 : Int32} : mm_V 303 121 [some (.ref 83), some (.int (nI p)), some (.int x2), some (.int x3), some (.int x4), some (.int (nI d)), some (.int x6), some (.int x7)] [] (mm_Z m w i l e) = mm_V 303 160 [some (.ref 83), some (.int (nI p)), some (.int x2), some (.int x3), some (.int x4), some (.int (nI d)), some (.int (if pVal π (nI (nw π p d 0 ψ)) = true then nI (nw π p d 0 ψ) else -1)), some (.int x7)] [.int (bI (pVal π (nI (nw π p d 0 ψ)))), .ref 83] (mm_Z m w i l e) := by
  have hv := xOk_lt (g.iv.cn hd hd0).1
  have hn := nw_lt g.iv hp hP0 (d := d) (k := 0)
  have e2 : pNn π (cP (yH ψ) p) (cN (yT ψ) d % 100) 0 (cN (yT ψ) d % 100) = nw π p d 0 ψ := rfl
  rw [mr_303_121, if_neg (no_out (by omega) (by omega)), nI_clamp (by omega), g.1.cn g.iv hd hd0, mr_243_0, mb_l, mb_v, na_100, na_re (by omega) (by omega), mr_303_133, if_neg (no_out (by omega) (by omega)), nI_clamp (by omega), g.1.cn g.iv hd hd0, mr_243_0, mb_l, mb_v, na_100, na_re (by omega) (by omega), mr_303_144, show some (Value.int 0) = some (Value.int (nI 0)) from rfl, rs_newContext g.1 g.iv hp hP0 (by omega) (by omega) (by omega), e2, mb_l, mb_v, mr_303_147]
  cases q : pVal π (nI (nw π p d 0 ψ)) with
  | true => simp only [if_true]; rw [if_neg (nI_nn (by omega))]; rfl
  | false => simp only [Bool.false_eq_true, if_false]; rw [if_pos (by decide)]; rfl
theorem on_t121 (g : RD π i0 b i ψ s a x) (hs : s < 0) (hp : p < 8) (hP0 : hP (yH ψ) p ≠ 0) {d : Nat} (hd : d < 32) (hd0 : tk (yT ψ) d ≠ 0) {x2 x3 x4 x6 x7 : Int32} : mm_V 303 121 [some (.ref 83), some (.int (nI p)), some (.int x2), some (.int x3), some (.int x4), some (.int (nI d)), some (.int x6), some (.int x7)] [] (mm_Z m w i l e) = some (.inl (some (.int s)), mm_Z m w i l e) := by
  rw [on_c121 g hp hP0 hd hd0, mr_303_160, g.mn hs, mb_l, mb_0, mr_303_165, if_neg (no_out (by omega) (by omega)), g.cn hs, mb_l, mb_0, on_t179 g hs hp hd]
theorem ra_new (h : RD π i0 b i ψ 0 a (nI (pz L))) (hb : b + 3 < 2 ^ 29) (hB : b + 3 ≤ B) (hp : p < 8) (hP0 : hP (yH ψ) p ≠ 0) (hM : M < 32) {d : Nat} (hO : pO L) (h0 : L ≠ []) (hwv : wV (yT ψ) L.dropLast 0 d) (h2 : tk (yT ψ) d = 2) (hE : ¬ tE (yT ψ) d (pz L) < ts (yT ψ) d) {x2 x6 : Int32} {u7 : Option Value} : RA m w l e π i0 B (mm_V 303 73 [some (.ref 83), some (.int (nI p)), some (.int x2), some (.int (nI M)), some (.int (-1)), some (.int (nI d)), some (.int x6), u7] [] (mm_Z m w i l e)) (aNew π p d (pz L) M ψ) := by
  have hw := h.iv.tw
  obtain ⟨d1, d2, d3⟩ := h.iv.wv hwv
  have hn := nw_lt h.iv hp hP0 (d := d) (k := 0)
  unfold aNew
  rw [mr_303_73, if_pos (by decide), h.hx]
  by_cases q : nI M &&& 8 = 0
  · rw [if_pos q, mr_303_97]
    exact RA.mf h (decide_eq_false (fun z => z q)) (fun i1 g1 => RA.dead g1 (by omega) (by rw [mb_l, mb_0, mr_303_102, if_neg (no_out (by omega) (by omega)), if_neg (no_out (by omega) (by omega)), g1.cn (by decide), mb_l, mb_0, on_t121 g1 (by decide) hp hP0 d1 d2]))
  · rw [if_neg q, mr_303_97]
    refine RA.mt h (decide_eq_true q) (fun i1 g1 => ?_)
    unfold aNc
    rw [mb_l, mb_0, mr_303_102, if_neg (no_out (by omega) (by omega)), if_neg (no_out (by omega) (by omega)), nI_clamp (by omega), nI_clamp (by omega), g1.1.pr hp hP0, g1.1.cn g1.iv d1 d2, show some (Value.int 1) = some (Value.int (nI 1)) from rfl]
    refine RA.ck g1 (by omega) (by decide) (g1.iv.cp hp hP0) (g1.iv.cn d1 d2).1 (by omega) (fun i2 κ2 g2 => ?_) (fun i2 κ2 g2 => RA.dead g2 (by omega) (by rw [mb_l, mb_0, on_t121 g2 (by decide) hp hP0 d1 d2]))
    rw [mb_l, mb_0, on_c121 g2 hp hP0 d1 d2, mr_303_160]
    refine RA.mu g2 (fun i3 g3 z => ?_) (fun i3 g3 z => RA.dead g3 (by omega) (by rw [mb_l, mb_0, mr_303_165, if_neg (no_out (by omega) (by omega)), g3.cn (by decide), mb_l, mb_0, on_t179 g3 (by decide) hp d1]))
    have z : pVal π (nI (nw π p d 0 ψ)) = true := z
    have hx := pv_nI h.iv.pw (by omega) z
    have e4 : (if pVal π (nI (nw π p d 0 (yk ψ κ2))) = true then nI (nw π p d 0 (yk ψ κ2)) else -1) = nI (nw π p d 0 ψ) := if_pos z
    rw [mb_l, mb_0, mr_303_165, if_neg (no_out (by omega) (by omega)), nI_clamp (by omega), g3.1.pr hp hP0, e4, show some (Value.int 0) = some (Value.int (nI 0)) from rfl]
    refine RA.ck g3 (by omega) (by decide) (g3.iv.cp hp hP0) hx (by omega) (fun i4 κ4 g4 => ?_) (fun i4 κ4 g4 => RA.dead g4 (by omega) (by rw [mb_l, mb_0, on_t179 g4 (by decide) hp d1]))
    have t6 : TR i4 (yT ψ) := g4.1.1
    have hfr : tFree (yT ψ) ≤ 32 := by have := (tFst_le (fun k => tk (yT ψ) k == 0) 32 0).2; unfold tFree; omega
    have hs10 := ((hw d d1).2.2 h2).1
    rw [mb_l, mb_0, mr_303_179, tr_freeNode t6 hw, mb_l, mb_v, mr_303_184, if_neg (no_out (by omega) (by omega)), nI_clamp (by omega), (t6 d d1).2.2.1]
    have e5 : ∀ (G : Int32 → Option mm_R), (if nI (tFree (yT ψ)) < 32 then (if nI (ts (yT ψ) d) < 10 then G 1 else G 0) else G 0) = G (bI (decide (tFree (yT ψ) < 32 ∧ ts (yT ψ) d < 10))) := fun G => by
      simp only [na_32, na_10, nI_ltI (show tFree (yT ψ) < 2 ^ 31 by omega) (show 32 < 2 ^ 31 by omega), nI_ltI (show ts (yT ψ) d < 2 ^ 31 by omega) (show 10 < 2 ^ 31 by omega)]
      by_cases q1 : tFree (yT ψ) < 32
      · by_cases q2 : ts (yT ψ) d < 10
        · rw [if_pos q1, if_pos q2, decide_eq_true ⟨q1, q2⟩]; rfl
        · rw [if_pos q1, if_neg q2, decide_eq_false (fun z => q2 z.2)]; rfl
      · rw [if_neg q1, decide_eq_false (fun z => q1 z.1)]; rfl
    rw [e5 (fun z => mm_V 303 206 [some (.ref 83), some (.int (nI p)), some (.int x2), some (.int (nI M)), some (.int (-1)), some (.int (nI d)), some (.int (nI (nw π p d 0 ψ))), some (.int (nI (pz L)))] [.int z, .ref 83] (mm_Z m w i4 l e)), mr_303_206]
    refine RA.mu g4 (fun i5 g5 z2 => ?_) (fun i5 g5 z2 => RA.dead g5 (by omega) (by rw [mb_l, mb_0, on_t211 g5 (by decide) hp]))
    have z2 : tFree (yT ψ) < 32 ∧ ts (yT ψ) d < 10 := of_decide_eq_true z2
    obtain ⟨⟨k1, k2⟩, -, k3⟩ := mk_ok h.iv hO h0 hwv h2 hE z2.1 z2.2 z
    rw [mb_l, mb_0, mr_303_211]
    refine RA.cm g5 (by omega) hp hP0 hM hx (fun i6 κ6 g6 => ?_) (fun i6 κ6 g6 => RA.dead g6 (by omega) (by rw [mb_l, mb_0, mr_303_219, op_t282 g6 (by decide) hp]))
    rw [mb_l, mb_0, mr_303_219, op_c282 g6 hp, mr_303_307]
    refine RA.mu g6 (fun i7 g7 q => ?_) (fun i7 g7 q => RA.dead g7 (by omega) (by rw [mb_l, mb_0, mr_303_312, g7.bd (by decide), mb_l, mb_v, mr_303_316, if_bf, g7.hs]))
    have q : hFh (yH ψ) p < 6 ∧ hFo (yH ψ) < 16 := of_decide_eq_true q
    obtain ⟨q1, q2⟩ := q
    have t7 : TR i7 (yT ψ) := g7.1.1
    obtain ⟨i8, f1, f2⟩ := RD.nt (m := m) (w := w) (l := l) (e := e) (q := (0, tFree (yT ψ), nI (nw π p d 0 ψ), d, pz L, 0)) g7 k1 k2 (fun _ => k3) (show 0 ≠ 6 by decide)
    have f1 : mm_V 277 0 [some (.ref 83), some (.int 0), some (.int (nI (tFree (yT ψ)))), some (.int (nI (nw π p d 0 ψ))), some (.int (nI d)), some (.int (nI (pz L)))] [] (mm_Z m w i7 l e) = some (.inl none, mm_Z m w i8 l e) := f1
    have kn : tk (yT (yn (yk (yk (yk ψ κ2) κ4) κ6) (0, tFree (yT ψ), nI (nw π p d 0 ψ), d, pz L, 0))) (tFree (yT ψ)) = 1 := by
      show tk (tDo (yT ψ) (0, tFree (yT ψ), nI (nw π p d 0 ψ), d, pz L, 0)) (tFree (yT ψ)) = 1
      rw [tk_do, if_pos ⟨Nat.zero_le 1, rfl⟩]
    obtain ⟨i9, e1, e2⟩ := RD.op (m := m) (w := w) (l := l) (e := e) (md := M % 8) f2 hp hP0 q1 q2 z2.1 (by rw [kn]; decide) (by omega) (fun y => by rw [kn] at y; exact absurd y (by decide))
    have e1 : mm_V 301 0 [some (.ref 83), some (.int (nI p)), some (.int (nI (tFree (yT ψ)))), some (.int (nI (M % 8))), none, none] [] (mm_Z m w i8 l e) = some (.inl (some (.int (nI (hFh (yH ψ) p)))), mm_Z m w i9 l e) := e1
    rw [mb_l, mb_0, mr_303_312, g7.gd, mb_l, mb_v, mr_303_316, if_bt, if_pos (by decide), tr_freeNode t7 hw, mb_l, mb_v, mr_303_333, f1, mb_l, mb_0, mr_303_348, mr_303_378, md_7 hM, e1, mb_l, mb_v, mr_303_389]
    exact RA.ret (r := (nI (hFh (yH ψ) p), yo (yn (yk (yk (yk ψ κ2) κ4) κ6) (0, tFree (yT ψ), nI (nw π p d 0 ψ), d, pz L, 0)) p (tFree (yT ψ)) (M % 8))) e2 (by omega)
theorem ra_opn (h : RD π i0 b i ψ 0 a x) (hb : b + 16 < 2 ^ 29) (hp : p < 8) (hP0 : hP (yH ψ) p ≠ 0) (hO : pO L) (hM : M < 32) : RA m w l e π i0 (b + 16) (mm_V 303 0 [some (.ref 83), some (.int (nI p)), some (.int (nI (pc L))), some (.int (nI M)), none, none, none, none] [] (mm_Z m w i l e)) (aOpn π p L M ψ) := by
  have h8 := pc_8 hO
  have hw := h.iv.tw
  unfold aOpn
  rw [mr_303_0]
  by_cases q : L = []
  · subst q
    have h0 : tk (yT ψ) 0 ≠ 0 := by rw [h.2.1.ti.2.2.2.2.2]; decide
    rw [if_neg (by decide), if_pos rfl]
    exact ra_old (n := 0) h (by omega) (by omega) hp hP0 hM (by omega) h0
  · have hpos := pc_pos hO q
    rw [if_pos (by rw [nz_gt (by omega)]; omega), if_neg q]
    refine RA.pl h (by omega) hp hP0 hO (by omega) (fun i1 d κ q0 g1 q1 g2 => ?_) (fun i1 s' hs hi => by rw [mb_l, mb_0, mr_303_19, rs_bd (by rw [hi]; exact hs), mb_l, mb_v, mr_303_23, if_bf, hi])
    obtain ⟨n1, n2, n3⟩ := h.iv.wv g1
    obtain ⟨o1, o2, o3, o4⟩ := pO_d hO q0
    have t2 : TR i1 (yT ψ) := g2.1.1
    have hs10 := ((hw d n1).2.2 q1).1
    rw [mb_l, mb_0, mr_303_19, g2.gd, mb_l, mb_v, mr_303_23, if_bt, g2.ha, g2.hx, tr_entryOf t2 hw h.iv.tn n1 q1 (by omega), mb_l, mb_v, mr_303_47]
    by_cases z : tE (yT ψ) d (pz L) < ts (yT ψ) d
    · have hn := ((hw d n1).2.2 q1).2 _ z
      have hkn : tk (yT ψ) (td (yT ψ) d (tE (yT ψ) d (pz L))) ≠ 0 := h.iv.ti.2.2.2.2.1 d n1 q1 _ z
      have z' : tE (yT (yk ψ κ)) d (pz L) < ts (yT (yk ψ κ)) d := z
      rw [if_pos z, if_neg (nI_nn (by omega)), na_10, na_mul, nI_add, if_neg (no_out (by omega) (by omega)), nI_clamp (by omega), ((t2 d n1).2.2.2.2 q1 _ z).2, if_pos z']
      exact ra_old g2 (by omega) (by omega) hp hP0 hM hn.2.2.2 hkn
    · have z' : ¬ tE (yT (yk ψ κ)) d (pz L) < ts (yT (yk ψ κ)) d := z
      rw [if_neg z, if_pos (by decide), if_neg z']
      exact ra_new g2 (by omega) (by omega) hp hP0 hM hO q0 g1 q1 z
end MM115
