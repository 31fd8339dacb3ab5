/-! NEW CONTEXTS; a directory is made -/
section MM105
def pNn (π : mP) (u t k o : Nat) : Nat := u - u % 100 + (if pMv π (u % 100) t k < pN π 5 then (pM π (pMv π (u % 100) t k)).2.2.2 else o)
theorem pNn_lt {π : mP} (hw : PW π) {u t k o : Nat} (hu : u < 4000) (ho : o < 100) : pNn π u t k o < 5000 := by
  unfold pNn
  split
  · rename_i q
    have := (hw.2.2.2.2.2.2.2.2.1 _ q).2.2.2
    omega
  · omega
theorem pv_nI {π : mP} (hw : PW π) {c : Nat} (hc : c < 2 ^ 31) (h : pVal π (nI c) = true) : xOk c := by
  have := (pv_ok hw h).1
  rw [nI_clamp hc] at this
  exact this
variable {w : Bool} {l : Nat → Nat → Int64} {e : Bool × Nat × Nat} {π : mP} {m : Nat} {ψ : mS} {b B p n : Nat} {i0 i i' : Nat → Nat → Int32} {s a x y : Int32} {r : Int32 × mS} {L : List Nat}
theorem pc_newContext {p : Bool} (h : PC0 p i π) (hw : PW π) {u v k o : Nat} (hu : u < 4000) (hv : v < 4000) (ho : o < 4000) (hk : k < 2 ^ 31) : mm_V 117 0 [some (.ref (mm_P p)), some (.int (nI u)), some (.int (nI v)), some (.int (nI k)), some (.int (nI o)), none, none] [] (mm_Z m w i l e) = some (.inl (some (.int (if pVal π (nI (pNn π u (v % 100) k (o % 100))) = true then nI (pNn π u (v % 100) k (o % 100)) else -11))), mm_Z m w i l e) := by
  rw [mr_117_0, na_100, na_re (by omega) (by omega), na_re (by omega) (by omega), pc_movedType h hw (by omega) (by omega) hk, mb_l, mb_v, mr_117_13, na_100, na_re (by omega) (by omega), na_re (by omega) (by omega), na_sub (by omega)]
  unfold pTo pNn
  by_cases q : pMv π (u % 100) (v % 100) k < pN π 5
  · have := (hw.2.2.2.2.2.2.2.2.1 _ q).2.2.2
    rw [if_pos q, if_neg (na_m1 (by omega)), mr_117_37, nI_add, pc_isValid h hw, mb_l, mb_v, mr_117_46, if_pos q]
    cases pVal π (nI (u - u % 100 + (pM π (pMv π (u % 100) (v % 100) k)).2.2.2)) <;> rfl
  · rw [if_neg q, if_pos rfl, mr_117_37, nI_add, pc_isValid h hw, mb_l, mb_v, mr_117_46, if_neg q]
    cases pVal π (nI (u - u % 100 + o % 100)) <;> rfl
theorem rs_newContext (h : RS π i ψ) (hI : IV π b ψ) (hp : p < 8) (hP0 : hP (yH ψ) p ≠ 0) {t k o : Nat} (ht : t < 100) (ho : o < 100) (hk : k < 2 ^ 31) : mm_V 288 0 [some (.ref 83), some (.int (nI p)), some (.int (nI t)), some (.int (nI k)), some (.int (nI o)), none, none] [] (mm_Z m w i l e) = some (.inl (some (.int (if pVal π (nI (pNn π (cP (yH ψ) p) t k o)) = true then nI (pNn π (cP (yH ψ) p) t k o) else -1))), mm_Z m w i l e) := by
  have hu := xOk_lt (hI.cp hp hP0)
  have hw := hI.pw
  have h0 : PR0 i π := h.2.2.2.2.2.1.1
  rw [mr_288_0, if_neg (no_out (by omega) (by omega)), nI_clamp (by omega), h.pr hp hP0, mr_243_0, mb_l, mb_v, na_100, na_re (by omega) (by omega), mr_288_10, pr_moveOf h0 hw (by omega) (by omega) hk, mb_l, mb_v, mr_288_15, if_neg (no_out (by omega) (by omega)), if_neg (no_out (by omega) (by omega)), nI_clamp (by omega), h.pr hp hP0, mr_243_0, mb_l, mb_v, na_100, na_re (by omega) (by omega), mr_288_32, na_sub (by omega)]
  unfold pTo pNn
  by_cases q : pMv π (cP (yH ψ) p % 100) t k < pN π 5
  · have := (hw.2.2.2.2.2.2.2.2.1 _ q).2.2.2
    rw [if_pos q, if_neg (nI_pos (by omega)), mr_288_45, nI_add, pr_isValid h0 hw, mb_l, mb_v, mr_288_54, if_pos q]
    cases pVal π (nI (cP (yH ψ) p - cP (yH ψ) p % 100 + (pM π (pMv π (cP (yH ψ) p % 100) t k)).2.2.2)) <;> rfl
  · rw [if_neg q, if_pos (by decide), mr_288_45, nI_add, pr_isValid h0 hw, mb_l, mb_v, mr_288_54, if_neg q]
    cases pVal π (nI (cP (yH ψ) p - cP (yH ψ) p % 100 + o)) <;> rfl
/-- the context of what is made in a directory -/
def nw (π : mP) (p d k : Nat) (ψ : mS) : Nat := pNn π (cP (yH ψ) p) (cN (yT ψ) d % 100) k (cN (yT ψ) d % 100)
def aNc (π : mP) (p d k : Nat) (cr : Int32) (ψ : mS) (K : mS → Int32 × mS) : Int32 × mS := aCk π (cP (yH ψ) p) (cN (yT ψ) d) 1 4 ψ (fun ψ1 => aMu (pVal π (nI (nw π p d k ψ))) (-11) ψ1 (aCk π (cP (yH ψ) p) (nw π p d k ψ) k cr ψ1 (fun ψ2 => aMu (decide (tFree (yT ψ) < 32 ∧ ts (yT ψ) d < 10)) (-7) ψ2 (K ψ2))))
theorem nw_lt (hI : IV π b ψ) (hp : p < 8) (hP0 : hP (yH ψ) p ≠ 0) {d k : Nat} : nw π p d k ψ < 5000 := pNn_lt hI.pw (xOk_lt (hI.cp hp hP0)) (by omega)
theorem CA.mu {g : Bool} {x2 : Int32} {K : Int32 × mS} {X : Option mm_R} (h1 : g = true → CA m w l e π i0 B X K) (h2 : g = false → CA m w l e π i0 B X (x2, ψ)) : CA m w l e π i0 B X (aMu g x2 ψ K) := by
  unfold aMu
  cases g with
  | true => rw [if_pos rfl]; exact h1 rfl
  | false => rw [if_neg (by decide)]; exact h2 rfl
theorem CA.nc (h : CD w π i0 b i ψ x y) (hb : b + 2 < 2 ^ 29) (hp : p < 8) (hP0 : hP (yH ψ) p ≠ 0) {d k : Nat} (hd : d < 32) (hdt : tk (yT ψ) d = 2) (hk : k < 2 ^ 31) {cr : Int32} {F : Option Value → mm_M → Option mm_R} {K : mS → Int32 × mS} (hB : b + 2 ≤ B) (h1 : ∀ i1 κ, xOk (nw π p d k ψ) → pVal π (nI (nw π p d k ψ)) = true → tFree (yT ψ) < 32 → ts (yT ψ) d < 10 → CD w π i0 (b + 2) i1 (yk ψ κ) x y → CA m w l e π i0 B (mm_bi true (some (.inl (some (.int (nI (nw π p d k ψ)))), mm_Z m w i1 l e)) F) (K (yk ψ κ))) (h2 : ∀ i1 r, r < 0 → mm_bi true (some (.inl (some (.int r)), mm_Z m w i1 l e)) F = some (.inl (some (.int r)), mm_Z m w i1 l e)) : CA m w l e π i0 B (mm_bi true (mm_V 96 0 [some (.ref 80), some (.int (nI p)), some (.int (nI d)), some (.int (nI k)), some (.int cr), none, none] [] (mm_Z m w i l e)) F) (aNc π p d k cr ψ K) := by
  have hd0 : tk (yT ψ) d ≠ 0 := by omega
  have hu := h.iv.cp hp hP0
  have hv := (h.iv.cn hd hd0).1
  have hw := h.iv.pw
  have hn := nw_lt h.iv hp hP0 (d := d) (k := k)
  unfold aNc
  rw [mr_96_0, if_neg (no_out (by omega) (by omega)), if_neg (no_out (by omega) (by omega)), nI_clamp (by omega), nI_clamp (by omega), h.1.pr hp hP0, h.1.cn h.iv hd hd0, mb_as, na_1]
  refine CA.gr h (by omega) hu hv (by omega) (by omega) (fun i1 κ g1 => ?_) (fun i1 => by rw [mb_l, mb_v, mr_96_31, if_bf]; exact h2 _ _ (by decide))
  have c1 : CS w π i1 (yk ψ κ) := g1.1
  have hdt1 : tk (yT (yk ψ κ)) d ≠ 0 := hd0
  have p1 : PC0 w i1 π := c1.2.2.2.2.2.1.1
  rw [mb_l, mb_v, mr_96_31, if_bt, if_neg (no_out (by omega) (by omega)), if_neg (no_out (by omega) (by omega)), nI_clamp (by omega), c1.cn g1.iv hd hdt1]
  have e1 : cN (yT (yk ψ κ)) d = cN (yT ψ) d := rfl
  rw [e1, pc_newContext p1 hw (xOk_lt hu) (xOk_lt hv) (xOk_lt hv) hk, mb_l, mb_v, mr_96_68]
  have e2 : pNn π (cP (yH ψ) p) (cN (yT ψ) d % 100) k (cN (yT ψ) d % 100) = nw π p d k ψ := rfl
  rw [e2]
  refine CA.mu (fun q => ?_) (fun q => ?_)
  · have hx := pv_nI hw (by omega) q
    rw [if_pos q, if_neg (nI_nn (by omega)), mb_as]
    refine CA.gr g1 (by omega) hu hx hk (by omega) (fun i2 κ2 g2 => ?_) (fun i2 => by rw [mb_l, mb_v, mr_96_92, if_bf]; exact h2 _ _ (by decide))
    have t2 : TC true i2 (yT ψ) := g2.1.1
    have hTw : TW (yT ψ) := h.iv.tw
    rw [mb_l, mb_v, mr_96_92, if_bt, tc_freeNode t2 hTw, mb_l, mb_v, mr_96_105]
    refine CA.mu (fun z => ?_) (fun z => ?_)
    · obtain ⟨z1, z2⟩ := of_decide_eq_true z
      rw [if_pos z1, if_neg (na_m1 (by omega)), tc_isFull t2 hTw hd, if_pos z2, mb_l, mb_v, mr_96_117, if_pos rfl]
      exact h1 i2 _ hx q z1 z2 g2
    · have z := of_decide_eq_false z
      by_cases z1 : tFree (yT ψ) < 32
      · have z2 : ¬ ts (yT ψ) d < 10 := fun y => z ⟨z1, y⟩
        rw [if_pos z1, if_neg (na_m1 (by omega)), tc_isFull t2 hTw hd, if_neg z2, mb_l, mb_v, mr_96_117, if_neg (by decide)]
        exact CA.dead g2 (by omega) (h2 _ _ (by decide))
      · rw [if_neg z1, if_pos rfl]
        exact CA.dead g2 (by omega) (h2 _ _ (by decide))
  · rw [q]
    simp only [Bool.false_eq_true, if_false]
    rw [if_pos (by decide)]
    exact CA.dead g1 (by omega) (h2 _ _ (by decide))
def aMkd (π : mP) (p : Nat) (L : List Nat) (ψ : mS) : Int32 × mS := aPl π p L ψ (fun d ψ1 => aMu (decide (¬ tE (yT ψ1) d (pz L) < ts (yT ψ1) d)) (-6) ψ1 (aNc π p d 1 16 ψ1 (fun ψ2 => (nI (tFree (yT ψ1)), yn ψ2 (1, tFree (yT ψ1), nI (nw π p d 1 ψ1), d, pz L, 0)))))
theorem L_zero {τ : mT} (hI : TI τ) {a : Nat} (ht : tk τ a = 0) : tL τ a = 0 := by
  have h1 : ∀ d, d < 32 → tLd τ a d = 0 := fun d hd => by
    unfold tLd
    split
    · rename_i q
      refine cnt_no _ 0 (fun k _ hk => ?_)
      have := hI.2.2.2.2.1 d hd q k (by omega)
      simp only [beq_eq_false_iff_ne]
      intro z
      rw [z] at this
      exact this ht
    · rfl
  have h2 : ∀ (D k : Nat), k + D ≤ 32 → tSum (tLd τ a) D k = 0 := by
    intro D
    induction D with
    | zero => intro k _; rfl
    | succ D ih => intro k hk; rw [tSum, h1 k (by omega), ih (k + 1) (by omega)]
  exact h2 32 0 (by omega)
theorem fr_0 {τ : mT} (h : tFree τ < 32) : tk τ (tFree τ) = 0 := by
  have h1 : tFst (fun k => tk τ k == 0) 32 0 < 0 + 32 := by have : tFst (fun k => tk τ k == 0) 32 0 < 32 := h; omega
  have h2 : (tk τ (tFree τ) == 0) = true := tFst_at (fun k => tk τ k == 0) 32 0 h1
  simpa using h2
theorem mk_ok (hI : IV π b ψ) {d : Nat} (hO : pO L) (h0 : L ≠ []) (hw : wV (yT ψ) L.dropLast 0 d) (h2 : tk (yT ψ) d = 2) (hE : ¬ tE (yT ψ) d (pz L) < ts (yT ψ) d) (hf : tFree (yT ψ) < 32) (hs : ts (yT ψ) d < 10) {v : Int32} (hv : pVal π v = true) : (tOk (yT ψ) (0, tFree (yT ψ), v, d, pz L, 0) ∧ dOk π (yT ψ) (0, tFree (yT ψ), v, d, pz L, 0)) ∧ (tOk (yT ψ) (1, tFree (yT ψ), v, d, pz L, 0) ∧ dOk π (yT ψ) (1, tFree (yT ψ), v, d, pz L, 0)) ∧ tk (yT ψ) (tFree (yT ψ)) = 0 := by
  obtain ⟨n1, n2, n3⟩ := hI.wv hw
  obtain ⟨o1, o2, o3, o4⟩ := pO_d hO h0
  have f0 := fr_0 hf
  have a1 : 1 ≤ tFree (yT ψ) := by
    rcases Nat.eq_zero_or_pos (tFree (yT ψ)) with z | z
    · rw [z, hI.ti.2.2.2.2.2] at f0; exact absurd f0 (by decide)
    · exact z
  have a2 : tFree (yT ψ) ≠ d := fun z => by rw [z] at f0; omega
  have a3 : tE (yT ψ) d (pz L) = ts (yT ψ) d := by have := tE_le (yT ψ) d (pz L); omega
  have l0 := L_zero hI.ti f0
  exact ⟨⟨⟨a1, hf, n1, h2, a2, hs, o2, o3, a3⟩, l0, n3, hv⟩, ⟨⟨a1, hf, n1, h2, a2, hs, o2, o3, a3⟩, l0, n3, hv⟩, f0⟩
theorem ca_mkd (h : CD w π i0 b i ψ x y) (hb : b + 16 < 2 ^ 29) (hp : p < 8) (hP0 : hP (yH ψ) p ≠ 0) (hO : pO L) : CA m w l e π i0 (b + 16) (mm_V 97 0 [some (.ref 80), some (.int (nI p)), some (.int (nI (pc L))), none, none, none] [] (mm_Z m w i l e)) (aMkd π p L ψ) := by
  rw [mr_97_0]; unfold aMkd
  refine CA.pl h (by omega) hp hP0 hO (by omega) (fun i1 d κ q0 g1 q1 g2 => ?_) (fun i1 r hr => by rw [mb_l, mb_v, mr_97_6, if_pos hr])
  obtain ⟨n1, n2, n3⟩ := h.iv.wv g1
  obtain ⟨o1, o2, o3, o4⟩ := pO_d hO q0
  have t2 : TC true i1 (yT ψ) := g2.1.1
  have hw := h.iv.tw
  rw [mb_l, mb_v, mr_97_6, if_neg (nI_nn (by omega)), g2.2.2.2.1, tc_nodeNamed t2 hw n1 q1 (by omega), mb_l, mb_v, mr_97_25]
  refine CA.mu (fun q => ?_) (fun q => ?_)
  · have q : ¬ tE (yT ψ) d (pz L) < ts (yT ψ) d := of_decide_eq_true q
    rw [if_neg q, if_pos rfl, show some (Value.int 1) = some (Value.int (nI 1)) from rfl]
    refine CA.nc g2 (by omega) hp hP0 n1 q1 (by omega) (by omega) (fun i2 κ2 y1 y2 y3 y4 g3 => ?_) (fun i2 r hr => by rw [mb_l, mb_v, mr_97_41, if_pos hr])
    have hn := nw_lt g2.iv hp hP0 (d := d) (k := 1)
    have t3 : TC true i2 (yT ψ) := g3.1.1
    have y3 : tFree (yT ψ) < 32 := y3
    obtain ⟨-, ⟨k1, k2⟩, k3⟩ := mk_ok h.iv hO q0 g1 q1 q y3 y4 y2
    rw [mb_l, mb_v, mr_97_41, if_neg (nI_nn (by omega)), tc_freeNode t3 hw, if_pos y3, mb_l, mb_v, mr_97_58, g3.2.2.2.1]
    obtain ⟨i3, c1, c2⟩ := CD.nt (m := m) (l := l) (e := e) (q := (1, tFree (yT ψ), nI (nw π p d 1 (yk ψ κ)), d, pz L, 0)) g3 k1 k2 (fun _ => k3) (show 1 ≠ 6 by decide)
    have c1 : mm_V 83 0 [some (.ref 56), some (.int 1), some (.int (nI (tFree (yT ψ)))), some (.int (nI d)), some (.int (nI (pz L))), some (.int (nI (nw π p d 1 (yk ψ κ)))), none] [] (mm_Z m w i2 l e) = some (.inl none, mm_Z m w i3 l e) := c1
    rw [c1, mb_l, mb_0, mr_97_77]
    exact CA.dead c2 (by omega) rfl
  · have q : ¬ ¬ tE (yT ψ) d (pz L) < ts (yT ψ) d := of_decide_eq_false q
    have q : tE (yT ψ) d (pz L) < ts (yT ψ) d := Classical.not_not.mp q
    have := ((hw d n1).2.2 q1).2 _ q
    rw [if_pos q, if_neg (na_m1 (by omega))]
    exact CA.dead g2 (by omega) rfl
theorem mk_t155 (g : RD π i0 b i ψ s a x) (hs : s < 0) {x1 x2 x3 x4 x5 : Int32} : mm_V 293 155 [some (.ref 83), some (.int x1), some (.int x2), some (.int x3), some (.int x4), some (.int x5)] [] (mm_Z m w i l e) = some (.inl (some (.int s)), mm_Z m w i l e) := by
  rw [mr_293_155, g.bd hs, mb_l, mb_v, mr_293_159, if_bf, g.hs]
theorem mk_t120 (g : RD π i0 b i ψ s a x) (hs : s < 0) {d : Nat} (hd : d < 32) {x1 x2 x4 : Int32} : mm_V 293 120 [some (.ref 83), some (.int x1), some (.int x2), some (.int (nI d)), some (.int x4), none] [] (mm_Z m w i l e) = some (.inl (some (.int s)), mm_Z m w i l e) := by
  rw [mr_293_120, tr_freeNode g.1.1 g.iv.tw, mb_l, mb_v, mr_293_124, if_neg (no_out (by omega) (by omega))]
  split
  · split
    · rw [mr_293_150, g.mn hs, mb_l, mb_0, mk_t155 g hs]
    · rw [mr_293_150, g.mn hs, mb_l, mb_0, mk_t155 g hs]
  · rw [mr_293_150, g.mn hs, mb_l, mb_0, mk_t155 g hs]
theorem mk_c64 (g : RD π i0 b i ψ s a x) (hp : p < 8) (hP0 : hP (yH ψ) p ≠ 0) {d : Nat} (hd : d < 32) (hd0 : tk (yT ψ) d ≠ 0) {x2 : Int32} : mm_V 293 64 [some (.ref 83), some (.int (nI p)), some (.int x2), some (.int (nI d)), none, none] [] (mm_Z m w i l e) = mm_V 293 101 [some (.ref 83), some (.int (nI p)), some (.int x2), some (.int (nI d)), some (.int (if pVal π (nI (nw π p d 1 ψ)) = true then nI (nw π p d 1 ψ) else -1)), none] [.int (bI (pVal π (nI (nw π p d 1 ψ)))), .ref 83] (mm_Z m w i l e) := by
  have hv := xOk_lt (g.iv.cn hd hd0).1
  have hn := nw_lt g.iv hp hP0 (d := d) (k := 1)
  have e2 : pNn π (cP (yH ψ) p) (cN (yT ψ) d % 100) 1 (cN (yT ψ) d % 100) = nw π p d 1 ψ := rfl
  rw [mr_293_64, if_neg (no_out (by omega) (by omega)), nI_clamp (by omega), g.1.cn g.iv hd hd0, mr_243_0, mb_l, mb_v, na_100, na_re (by omega) (by omega), mr_293_75, if_neg (no_out (by omega) (by omega)), nI_clamp (by omega), g.1.cn g.iv hd hd0, mr_243_0, mb_l, mb_v, na_100, na_re (by omega) (by omega), mr_293_85, show some (Value.int 1) = some (Value.int (nI 1)) from rfl, rs_newContext g.1 g.iv hp hP0 (by omega) (by omega) (by omega), e2, mb_l, mb_v, mr_293_88]
  cases q : pVal π (nI (nw π p d 1 ψ)) with
  | true => simp only [if_true]; rw [if_neg (nI_nn (by omega))]; rfl
  | false => simp only [Bool.false_eq_true, if_false]; rw [if_pos (by decide)]; rfl
theorem mk_t64 (g : RD π i0 b i ψ s a x) (hs : s < 0) (hp : p < 8) (hP0 : hP (yH ψ) p ≠ 0) {d : Nat} (hd : d < 32) (hd0 : tk (yT ψ) d ≠ 0) {x2 : Int32} : mm_V 293 64 [some (.ref 83), some (.int (nI p)), some (.int x2), some (.int (nI d)), none, none] [] (mm_Z m w i l e) = some (.inl (some (.int s)), mm_Z m w i l e) := by
  rw [mk_c64 g hp hP0 hd hd0, mr_293_101, g.mn hs, mb_l, mb_0, mr_293_106, if_neg (no_out (by omega) (by omega)), g.cn hs, mb_l, mb_0, mk_t120 g hs hd]
theorem ra_mkd (h : RD π i0 b i ψ 0 a x) (hb : b + 16 < 2 ^ 29) (hp : p < 8) (hP0 : hP (yH ψ) p ≠ 0) (hO : pO L) : RA m w l e π i0 (b + 16) (mm_V 293 0 [some (.ref 83), some (.int (nI p)), some (.int (nI (pc L))), none, none, none] [] (mm_Z m w i l e)) (aMkd π p L ψ) := by
  rw [mr_293_0]; unfold aMkd
  refine RA.pl h (by omega) hp hP0 hO (by omega) (fun i1 d κ q0 g1 q1 g2 => ?_) (fun i1 s' hs hi => by rw [mb_l, mb_0, mr_293_6, rs_bd (by rw [hi]; exact hs), mb_l, mb_v, mr_293_10, if_bf, hi])
  obtain ⟨n1, n2, n3⟩ := h.iv.wv g1
  obtain ⟨o1, o2, o3, o4⟩ := pO_d hO q0
  have t2 : TR i1 (yT ψ) := g2.1.1
  have hw := h.iv.tw
  have hk := (hw d n1).2.2 q1
  have hEl := tE_le (yT ψ) d (pz L)
  rw [mb_l, mb_0, mr_293_6, g2.gd, mb_l, mb_v, mr_293_10, if_bt, g2.ha, g2.hx, tr_entryOf t2 hw h.iv.tn n1 q1 (by omega), mb_l, mb_v, mr_293_33]
  have e0 : ∀ (G : Int32 → Option mm_R), (if (if tE (yT ψ) d (pz L) < ts (yT ψ) d then nI (tE (yT ψ) d (pz L)) else (-1 : Int32)) < 0 then G 1 else G 0) = G (bI (decide (¬ tE (yT (yk ψ κ)) d (pz L) < ts (yT (yk ψ κ)) d))) := fun G => by
    show _ = G (bI (decide (¬ tE (yT ψ) d (pz L) < ts (yT ψ) d)))
    by_cases q : tE (yT ψ) d (pz L) < ts (yT ψ) d
    · rw [if_pos q, if_neg (nI_nn (by omega)), decide_eq_false (fun z => z q)]; rfl
    · rw [if_neg q, if_pos (by decide), decide_eq_true q]; rfl
  rw [e0 (fun z => mm_V 293 41 [some (.ref 83), some (.int (nI p)), some (.int (nI (pc L))), some (.int (nI d)), none, none] [.int z, .ref 83] (mm_Z m w i1 l e)), mr_293_41]
  refine RA.mu g2 (fun i2 g3 q => ?_) (fun i2 g3 q => RA.dead g3 (by omega) (by rw [mb_l, mb_0, mr_293_46, if_neg (no_out (by omega) (by omega)), if_neg (no_out (by omega) (by omega)), g3.cn (by decide), mb_l, mb_0, mk_t64 g3 (by decide) hp hP0 n1 n2]))
  have q : ¬ tE (yT ψ) d (pz L) < ts (yT ψ) d := of_decide_eq_true q
  unfold aNc
  rw [mb_l, mb_0, mr_293_46, if_neg (no_out (by omega) (by omega)), if_neg (no_out (by omega) (by omega)), nI_clamp (by omega), nI_clamp (by omega), g3.1.pr hp hP0, g3.1.cn g3.iv n1 n2, show some (Value.int 1) = some (Value.int (nI 1)) from rfl]
  refine RA.ck g3 (by omega) (by decide) (g3.iv.cp hp hP0) (g3.iv.cn n1 n2).1 (by omega) (fun i3 κ3 g4 => ?_) (fun i3 κ3 g4 => RA.dead g4 (by omega) (by rw [mb_l, mb_0, mk_t64 g4 (by decide) hp hP0 n1 n2]))
  rw [mb_l, mb_0, mk_c64 g4 hp hP0 n1 n2, mr_293_101]
  have hn := nw_lt h.iv hp hP0 (d := d) (k := 1)
  refine RA.mu g4 (fun i4 g5 z => ?_) (fun i4 g5 z => RA.dead g5 (by omega) (by rw [mb_l, mb_0, mr_293_106, if_neg (no_out (by omega) (by omega)), g5.cn (by decide), mb_l, mb_0, mk_t120 g5 (by decide) n1]))
  have z : pVal π (nI (nw π p d 1 ψ)) = true := z
  have e4 : (if pVal π (nI (nw π p d 1 (yk (yk ψ κ) κ3))) = true then nI (nw π p d 1 (yk (yk ψ κ) κ3)) else -1) = nI (nw π p d 1 ψ) := if_pos z
  rw [mb_l, mb_0, mr_293_106, if_neg (no_out (by omega) (by omega)), nI_clamp (by omega), g5.1.pr hp hP0, e4, show some (Value.int 1) = some (Value.int (nI 1)) from rfl]
  refine RA.ck g5 (by omega) (by decide) (g5.iv.cp hp hP0) (pv_nI h.iv.pw (by omega) z) (by omega) (fun i5 κ5 g6 => ?_) (fun i5 κ5 g6 => RA.dead g6 (by omega) (by rw [mb_l, mb_0, mk_t120 g6 (by decide) n1]))
  have t6 : TR i5 (yT ψ) := g6.1.1
  have hfr : tFree (yT ψ) ≤ 32 := by have := (tFst_le (fun k => tk (yT ψ) k == 0) 32 0).2; unfold tFree; omega
  rw [mb_l, mb_0, mr_293_120, tr_freeNode t6 hw, mb_l, mb_v, mr_293_124, if_neg (no_out (by omega) (by omega)), nI_clamp (by omega), (t6 d n1).2.2.1]
  have e5 : ∀ (G : Int32 → Option mm_R), (if nI (tFree (yT ψ)) < 32 then (if nI (ts (yT ψ) d) < 10 then G 1 else G 0) else G 0) = G (bI (decide (tFree (yT (yk ψ κ)) < 32 ∧ ts (yT (yk ψ κ)) d < 10))) := fun G => by
    show _ = G (bI (decide (tFree (yT ψ) < 32 ∧ ts (yT ψ) d < 10)))
    simp only [na_32, na_10, nI_ltI (show tFree (yT ψ) < 2 ^ 31 by omega) (show 32 < 2 ^ 31 by omega), nI_ltI (show ts (yT ψ) d < 2 ^ 31 by omega) (show 10 < 2 ^ 31 by omega)]
    by_cases q1 : tFree (yT ψ) < 32
    · by_cases q2 : ts (yT ψ) d < 10
      · rw [if_pos q1, if_pos q2, decide_eq_true ⟨q1, q2⟩]; rfl
      · rw [if_pos q1, if_neg q2, decide_eq_false (fun z => q2 z.2)]; rfl
    · rw [if_neg q1, decide_eq_false (fun z => q1 z.1)]; rfl
  rw [e5 (fun z => mm_V 293 150 [some (.ref 83), some (.int (nI p)), some (.int (nI (pc L))), some (.int (nI d)), some (.int (nI (nw π p d 1 ψ))), some (.int (nI (tFree (yT ψ))))] [.int z, .ref 83] (mm_Z m w i5 l e)), mr_293_150]
  refine RA.mu g6 (fun i6 g7 z2 => ?_) (fun i6 g7 z2 => RA.dead g7 (by omega) (by rw [mb_l, mb_0, mk_t155 g7 (by decide)]))
  have z2 : tFree (yT ψ) < 32 ∧ ts (yT ψ) d < 10 := of_decide_eq_true z2
  obtain ⟨-, ⟨k1, k2⟩, k3⟩ := mk_ok h.iv hO q0 g1 q1 q z2.1 z2.2 z
  rw [mb_l, mb_0, mr_293_155, g7.gd, mb_l, mb_v, mr_293_159, if_bt, g7.hx]
  obtain ⟨i7, c1, c2⟩ := RD.nt (m := m) (w := w) (l := l) (e := e) (q := (1, tFree (yT ψ), nI (nw π p d 1 ψ), d, pz L, 0)) g7 k1 k2 (fun _ => k3) (show 1 ≠ 6 by decide)
  have c1 : mm_V 277 0 [some (.ref 83), some (.int 1), some (.int (nI (tFree (yT ψ)))), some (.int (nI (nw π p d 1 ψ))), some (.int (nI d)), some (.int (nI (pz L)))] [] (mm_Z m w i6 l e) = some (.inl none, mm_Z m w i7 l e) := c1
  rw [c1, mb_l, mb_0, mr_293_176]
  exact RA.ret (r := (nI (tFree (yT ψ)), yn _ (1, tFree (yT ψ), nI (nw π p d 1 ψ), d, pz L, 0))) c2 (by omega)
end MM105
