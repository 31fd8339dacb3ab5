/-! OPEN -/
section MM114
variable {w : Bool} {l : Nat → Nat → Int64} {e : Bool × Nat × Nat} {π : mP} {m : Nat} {ψ : mS} {b B p n M : Nat} {i0 i i' : Nat → Nat → Int32} {s a x y : Int32} {r : Int32 × mS} {L : List Nat}
def nd (M : Nat) : Int32 := (nI M &&& 7) ||| (if nI M &&& 16 = 0 then 0 else 2)
theorem nd_ref0 : ∀ M : Fin 32, (((nI M.val &&& 1) ||| (if nI M.val &&& 18 = 0 then 0 else 2)) ||| (nI M.val &&& 4)) = nd M.val := by decide
theorem nd_ref (h : M < 32) : (((nI M &&& 1) ||| (if nI M &&& 18 = 0 then 0 else 2)) ||| (nI M &&& 4)) = nd M := nd_ref0 ⟨M, h⟩
theorem md_7f : ∀ M : Fin 32, nI M.val &&& 7 = nI (M.val % 8) := by decide
theorem md_7 (h : M < 32) : nI M &&& 7 = nI (M % 8) := md_7f ⟨M, h⟩
theorem CA.bd {X : Option mm_R} {F : Option Value → mm_M → Option mm_R} (h : CA m w l e π i0 B X r) (hF : ∀ i1 z, mm_bi true (some (.inl (some (.int z)), mm_Z m w i1 l e)) F = some (.inl (some (.int z)), mm_Z m w i1 l e)) : CA m w l e π i0 B (mm_bi true X F) r := by
  obtain ⟨i1, x, y, h1, h2⟩ := h
  exact ⟨i1, x, y, by rw [h1, hF], h2⟩
theorem RA.bd {X : Option mm_R} {F : Option Value → mm_M → Option mm_R} (h : RA m w l e π i0 B X r) (hF : ∀ i1 z, mm_bi true (some (.inl (some (.int z)), mm_Z m w i1 l e)) F = some (.inl (some (.int z)), mm_Z m w i1 l e)) : RA m w l e π i0 B (mm_bi true X F) r := by
  obtain ⟨i1, s, a, x, h1, h2⟩ := h
  exact ⟨i1, s, a, x, by rw [h1, hF], h2⟩
def aNd (π : mP) (u v : Nat) (x : Int32) (ψ : mS) (K : mS → Int32 × mS) : Int32 × mS := if x = 0 then K ψ else aCk π u v 0 x ψ K
def aOo (p n M : Nat) (ψ : mS) : Int32 × mS := aMu (decide (hFh (yH ψ) p < 6 ∧ hFo (yH ψ) < 16)) (-7) ψ (nI (hFh (yH ψ) p), yo (if ¬ nI M &&& 16 = 0 ∧ ts (yT ψ) n ≠ 0 then yn ψ (2, n, 0, 0, 0, 0) else ψ) p n (M % 8))
def aOld (π : mP) (p n M : Nat) (ψ : mS) : Int32 × mS := if tk (yT ψ) n = 2 then aMu (decide (M = 1)) (-5) ψ (aCk π (cP (yH ψ) p) (cN (yT ψ) n) 1 1 ψ (fun ψ1 => aOo p n M ψ1)) else aNd π (cP (yH ψ) p) (cN (yT ψ) n) (nd M) ψ (fun ψ1 => aOo p n M ψ1)
def aNew (π : mP) (p d z M : Nat) (ψ : mS) : Int32 × mS := aMu (decide (¬ nI M &&& 8 = 0)) (-3) ψ (aNc π p d 0 8 ψ (fun ψ1 => aNd π (cP (yH ψ) p) (nw π p d 0 ψ) (nd M) ψ1 (fun ψ2 => aMu (decide (hFh (yH ψ) p < 6 ∧ hFo (yH ψ) < 16)) (-7) ψ2 (nI (hFh (yH ψ) p), yo (yn ψ2 (0, tFree (yT ψ), nI (nw π p d 0 ψ), d, z, 0)) p (tFree (yT ψ)) (M % 8)))))
def aOpn (π : mP) (p : Nat) (L : List Nat) (M : Nat) (ψ : mS) : Int32 × mS := if L = [] then aOld π p 0 M ψ else aPl π p L ψ (fun d ψ1 => if tE (yT ψ1) d (pz L) < ts (yT ψ1) d then aOld π p (eN ψ1 d (pz L)) M ψ1 else aNew π p d (pz L) M ψ1)
/-- the end of an open: room, the file emptied, the opening -/
theorem ca_oo (h : CD w π i0 b i ψ x y) (hB : b ≤ B) (hp : p < 8) (hP0 : hP (yH ψ) p ≠ 0) (hM : M < 32) (hn : n < 32) (hk : tk (yT ψ) n ≠ 0) (hd : tk (yT ψ) n = 2 → M = 1) {x4 x5 : Int32} : CA m w l e π i0 B (mm_V 93 57 [some (.ref 80), some (.int (nI p)), some (.int (nI n)), some (.int (nI M)), some (.int x4), some (.int x5)] [] (mm_Z m w i l e)) (aOo p n M ψ) := by
  have hw := h.iv.tw
  have hk2 := (hw n hn).1
  have hs24 := (hw n hn).2.1
  have c4 : HC i (yH ψ) := h.1.2.2.2.1
  have t4 : TC true i (yT ψ) := h.1.1
  unfold aOo
  rw [mr_93_57, hc_hasRoom c4 h.iv.hw hp, mb_l, mb_v, mr_93_65]
  refine CA.mu (fun q => ?_) (fun q => ?_)
  · obtain ⟨q1, q2⟩ := of_decide_eq_true q
    rw [q, if_bt]
    by_cases z : nI M &&& 16 = 0
    · have zz : ¬ (¬ nI M &&& 16 = 0 ∧ ts (yT ψ) n ≠ 0) := fun y => y.1 z
      rw [if_pos z, if_neg zz]
      obtain ⟨i1, e1, e2⟩ := CD.op (m := m) (l := l) (e := e) h hp hP0 q1 q2 hn hk (md_7 hM) (by omega) (fun y => by rw [hd y])
      rw [mr_93_102, e1, mb_l, mb_v, mr_93_113]
      exact CA.dead e2 hB rfl
    · rw [if_neg z, if_neg (no_out (by omega) (by omega))]
      have a1 : i (mm_Tr true + 3) (nI n).toNatClampNeg = nI (ts (yT ψ) n) := by rw [nI_clamp (by omega), (t4 n hn).2.2.1]
      by_cases v : ts (yT ψ) n = 0
      · have zz : ¬ (¬ nI M &&& 16 = 0 ∧ ts (yT ψ) n ≠ 0) := fun y => y.2 v
        rw [if_neg (by rw [a1, nz_gt (by omega)]; exact fun y => y v), if_neg zz]
        obtain ⟨i1, e1, e2⟩ := CD.op (m := m) (l := l) (e := e) h hp hP0 q1 q2 hn hk (md_7 hM) (by omega) (fun y => by rw [hd y])
        rw [mr_93_102, e1, mb_l, mb_v, mr_93_113]
        exact CA.dead e2 hB rfl
      · have zz : ¬ nI M &&& 16 = 0 ∧ ts (yT ψ) n ≠ 0 := ⟨z, v⟩
        have k1 : tk (yT ψ) n = 1 := by
          by_cases y : tk (yT ψ) n = 2
          · have := hd y; rw [this] at z; exact absurd (by decide) z
          · omega
        rw [if_pos (by rw [a1, nz_gt (by omega)]; exact v), if_pos zz]
        obtain ⟨i2, f1, f2⟩ := CD.nt (m := m) (l := l) (e := e) (q := (2, n, 0, 0, 0, 0)) h ⟨hn, k1⟩ trivial (fun z => absurd (show 2 ≤ 1 from z) (by decide)) (show 2 ≠ 6 by decide)
        have f1 : mm_V 83 0 [some (.ref 56), some (.int 2), some (.int (nI n)), some (.int 0), some (.int 0), some (.int 0), none] [] (mm_Z m w i l e) = some (.inl none, mm_Z m w i2 l e) := f1
        obtain ⟨i1, e1, e2⟩ := CD.op (m := m) (l := l) (e := e) f2 hp hP0 q1 q2 hn (show tk (tEm (yT ψ) n) n ≠ 0 from hk) (md_7 hM) (by omega) (fun y => by rw [hd y])
        have e1 : mm_V 69 0 [some (.ref 68), some (.int (nI p)), some (.int (nI n)), some (.int (-1)), some (.int (nI M)), none] [] (mm_Z m w i2 l e) = some (.inl (some (.int (nI (hFh (yH ψ) p)))), mm_Z m w i1 l e) := e1
        rw [f1, mb_l, mb_0, mr_93_102, e1, mb_l, mb_v, mr_93_113]
        exact CA.dead e2 hB rfl
  · rw [q, if_bf]
    exact CA.dead h hB rfl
theorem ca_old (h : CD w π i0 b i ψ x y) (hb : b < 2 ^ 29) (hB : b + 1 ≤ B) (hp : p < 8) (hP0 : hP (yH ψ) p ≠ 0) (hM : M < 32) (hn : n < 32) (hk : tk (yT ψ) n ≠ 0) : CA m w l e π i0 B (mm_V 93 0 [some (.ref 80), some (.int (nI p)), some (.int (nI n)), some (.int (nI M)), none, none] [] (mm_Z m w i l e)) (aOld π p n M ψ) := by
  have hw := h.iv.tw
  have hk2 := (hw n hn).1
  have t4 : TC true i (yT ψ) := h.1.1
  unfold aOld
  rw [mr_93_0, tc_isDirectory t4 hw hn, mb_l, mb_v, mr_93_8]
  by_cases q : tk (yT ψ) n = 2
  · rw [if_pos q, if_pos q, if_neg (by decide)]
    by_cases z : M = 1
    · refine CA.mt (decide_eq_true z) ?_
      have z1 : tk (yT ψ) n - 1 = 1 := by omega
      rw [if_pos (by rw [z]; rfl), mr_93_23, if_neg (by decide), mr_93_36, if_neg (by decide)]
      refine CA.may h hb hp hP0 hn hk z1 hB (fun i1 κ g1 => ?_) (fun i1 => by rw [mb_l, mb_v, mr_93_51, if_bf])
      rw [mb_l, mb_v, mr_93_51, if_bt]
      exact ca_oo g1 hB hp hP0 hM hn hk (fun _ => z)
    · refine CA.mf (decide_eq_false z) ?_
      rw [if_neg (by rw [na_1, nI_eq (by omega) (by omega)]; exact z)]
      exact CA.dead h (by omega) rfl
  · rw [if_neg q, if_neg q, if_pos rfl, mr_93_23, if_pos rfl]
    have e95 : mm_V 95 0 [some (.int (nI M))] [] (mm_Z m w i l e) = some (.inl (some (.int (nd M))), mm_Z m w i l e) := by
      rw [mr_95_0]; unfold nd
      by_cases z : nI M &&& 16 = 0
      · rw [if_pos z, if_pos z]
      · rw [if_neg z, if_neg z]
    rw [e95, mb_l, mb_v, mr_93_36]
    unfold aNd
    by_cases z : nd M = 0
    · rw [if_pos z, if_pos z]
      exact ca_oo h (by omega) hp hP0 hM hn hk (fun y => absurd y q)
    · have z1 : tk (yT ψ) n - 1 = 0 := by omega
      rw [if_neg z, if_neg z]
      refine CA.may h hb hp hP0 hn hk z1 hB (fun i1 κ g1 => ?_) (fun i1 => by rw [mb_l, mb_v, mr_93_51, if_bf])
      rw [mb_l, mb_v, mr_93_51, if_bt]
      exact ca_oo g1 hB hp hP0 hM hn hk (fun y => absurd y q)
theorem ca_new (h : CD w π i0 b i ψ (nI (pz L)) y) (hb : b + 3 < 2 ^ 29) (hB : b + 3 ≤ B) (hp : p < 8) (hP0 : hP (yH ψ) p ≠ 0) (hM : M < 32) {d : Nat} (hO : pO L) (h0 : L ≠ []) (hwv : wV (yT ψ) L.dropLast 0 d) (h2 : tk (yT ψ) d = 2) (hE : ¬ tE (yT ψ) d (pz L) < ts (yT ψ) d) : CA m w l e π i0 B (mm_V 94 0 [some (.ref 80), some (.int (nI p)), some (.int (nI d)), some (.int (nI M)), none, none, none] [] (mm_Z m w i l e)) (aNew π p d (pz L) M ψ) := by
  have hw := h.iv.tw
  obtain ⟨d1, d2, d3⟩ := h.iv.wv hwv
  have hn := nw_lt h.iv hp hP0 (d := d) (k := 0)
  unfold aNew
  rw [mr_94_0]
  by_cases q : nI M &&& 8 = 0
  · refine CA.mf (decide_eq_false (fun z => z q)) ?_
    rw [if_pos q]
    exact CA.dead h (by omega) rfl
  · refine CA.mt (decide_eq_true q) ?_
    rw [if_neg q, show some (Value.int 0) = some (Value.int (nI 0)) from rfl]
    refine CA.nc h (by omega) hp hP0 d1 h2 (by omega) (by omega) (fun i1 κ y1 y2 y3 y4 g1 => ?_) (fun i1 r hr => by rw [mb_l, mb_v, mr_94_19, if_pos hr])
    have e95 : mm_V 95 0 [some (.int (nI M))] [] (mm_Z m w i1 l e) = some (.inl (some (.int (nd M))), mm_Z m w i1 l e) := by
      rw [mr_95_0]; unfold nd
      by_cases z : nI M &&& 16 = 0
      · rw [if_pos z, if_pos z]
      · rw [if_neg z, if_neg z]
    obtain ⟨⟨k1, k2⟩, -, k3⟩ := mk_ok h.iv hO h0 hwv h2 hE y3 y4 y2
    rw [mb_l, mb_v, mr_94_19, if_neg (nI_nn (by omega)), e95, mb_l, mb_v, mr_94_33]
    have rest : ∀ i2 κ2 (x5 : Int32), CD w π i0 (b + 3) i2 (yk ψ κ2) (nI (pz L)) y → CA m w l e π i0 B (mm_V 94 67 [some (.ref 80), some (.int (nI p)), some (.int (nI d)), some (.int (nI M)), some (.int (nI (nw π p d 0 ψ))), some (.int x5), none] [] (mm_Z m w i2 l e)) (aMu (decide (hFh (yH ψ) p < 6 ∧ hFo (yH ψ) < 16)) (-7) (yk ψ κ2) (nI (hFh (yH ψ) p), yo (yn (yk ψ κ2) (0, tFree (yT ψ), nI (nw π p d 0 ψ), d, pz L, 0)) p (tFree (yT ψ)) (M % 8))) := fun i2 κ2 x5 g2 => by
      have c4 : HC i2 (yH ψ) := g2.1.2.2.2.1
      have t4 : TC true i2 (yT ψ) := g2.1.1
      rw [mr_94_67, hc_hasRoom c4 h.iv.hw hp, mb_l, mb_v, mr_94_75]
      refine CA.mu (fun q => ?_) (fun q => ?_)
      · obtain ⟨q1, q2⟩ := of_decide_eq_true q
        obtain ⟨i3, f1, f2⟩ := CD.nt (m := m) (l := l) (e := e) (q := (0, tFree (yT ψ), nI (nw π p d 0 ψ), d, pz L, 0)) g2 k1 k2 (fun _ => k3) (show 0 ≠ 6 by decide)
        have f1 : mm_V 83 0 [some (.ref 56), some (.int 0), some (.int (nI (tFree (yT ψ)))), some (.int (nI d)), some (.int (nI (pz L))), some (.int (nI (nw π p d 0 ψ))), none] [] (mm_Z m w i2 l e) = some (.inl none, mm_Z m w i3 l e) := f1
        have kn : tk (yT (yn (yk ψ κ2) (0, tFree (yT ψ), nI (nw π p d 0 ψ), d, pz L, 0))) (tFree (yT ψ)) = 1 := by
          show tk (tDo (yT ψ) (0, tFree (yT ψ), nI (nw π p d 0 ψ), d, pz L, 0)) (tFree (yT ψ)) = 1
          rw [tk_do, if_pos ⟨Nat.zero_le 1, rfl⟩]
        obtain ⟨i4, e1, e2⟩ := CD.op (m := m) (l := l) (e := e) f2 hp hP0 q1 q2 y3 (by rw [kn]; decide) (md_7 hM) (by omega) (fun y => by rw [kn] at y; exact absurd y (by decide))
        have e1 : mm_V 69 0 [some (.ref 68), some (.int (nI p)), some (.int (nI (tFree (yT ψ)))), some (.int (-1)), some (.int (nI M)), none] [] (mm_Z m w i3 l e) = some (.inl (some (.int (nI (hFh (yH ψ) p)))), mm_Z m w i4 l e) := e1
        rw [q, if_bt, tc_freeNode t4 hw, if_pos y3, mb_l, mb_v, mr_94_88, g2.2.2.2.1, f1, mb_l, mb_0, mr_94_107, e1, mb_l, mb_v, mr_94_119]
        exact CA.dead e2 hB rfl
      · rw [q, if_bf]
        exact CA.dead g2 hB rfl
    unfold aNd
    by_cases z : nd M = 0
    · rw [if_pos z, if_pos z]
      exact rest i1 κ _ (g1.up (by omega))
    · rw [if_neg z, if_neg z, if_neg (no_out (by omega) (by omega)), nI_clamp (by omega), g1.1.pr hp hP0, show some (Value.int 0) = some (Value.int (nI 0)) from rfl]
      refine CA.gr g1 (by omega) (h.iv.cp hp hP0) y1 (by omega) (by omega) (fun i2 κ2 g2 => ?_) (fun i2 => by rw [mb_l, mb_v, mr_94_61, if_bf])
      rw [mb_l, mb_v, mr_94_61, if_bt]
      exact rest i2 κ2 _ g2
theorem ca_opn (h : CD w π i0 b i ψ x y) (hb : b + 16 < 2 ^ 29) (hp : p < 8) (hP0 : hP (yH ψ) p ≠ 0) (hO : pO L) (hM : M < 32) : CA m w l e π i0 (b + 16) (mm_V 92 0 [some (.ref 80), some (.int (nI p)), some (.int (nI (pc L))), some (.int (nI M)), none, none] [] (mm_Z m w i l e)) (aOpn π p L M ψ) := by
  have h8 := pc_8 hO
  have hw := h.iv.tw
  unfold aOpn
  rw [mr_92_0]
  by_cases q : L = []
  · subst q
    have h0 : tk (yT ψ) 0 ≠ 0 := by rw [h.2.1.ti.2.2.2.2.2]; decide
    rw [if_pos (by decide), if_pos rfl, show some (Value.int 0) = some (Value.int (nI 0)) from rfl]
    exact CA.bd (ca_old h (by omega) (by omega) hp hP0 hM (by omega) h0) (fun i1 z => by rw [mb_l, mb_v, mr_92_11])
  · have hpos := pc_pos hO q
    rw [if_neg (by rw [nz_eq (by omega)]; omega), if_neg q]
    refine CA.pl h (by omega) hp hP0 hO (by omega) (fun i1 d κ q0 g1 q1 g2 => ?_) (fun i1 r hr => by rw [mb_l, mb_v, mr_92_18, if_pos hr])
    obtain ⟨n1, n2, n3⟩ := h.iv.wv g1
    obtain ⟨o1, o2, o3, o4⟩ := pO_d hO q0
    have t2 : TC true i1 (yT ψ) := g2.1.1
    rw [mb_l, mb_v, mr_92_18, if_neg (nI_nn (by omega)), g2.2.2.2.1, tc_nodeNamed t2 hw n1 q1 (by omega), mb_l, mb_v, mr_92_41]
    by_cases z : tE (yT ψ) d (pz L) < ts (yT ψ) d
    · have hn := ((hw d n1).2.2 q1).2 _ z
      have hkn : tk (yT ψ) (td (yT ψ) d (tE (yT ψ) d (pz L))) ≠ 0 := h.iv.ti.2.2.2.2.1 d n1 q1 _ z
      have z' : tE (yT (yk ψ κ)) d (pz L) < ts (yT (yk ψ κ)) d := z
      rw [if_pos z, if_neg (na_m1 (by omega)), if_pos z']
      exact CA.bd (ca_old g2 (by omega) (by omega) hp hP0 hM hn.2.2.2 hkn) (fun i1 z => by rw [mb_l, mb_v, mr_92_68])
    · have z' : ¬ tE (yT (yk ψ κ)) d (pz L) < ts (yT (yk ψ κ)) d := z
      rw [if_neg z, if_pos rfl, if_neg z']
      exact CA.bd (ca_new g2 (by omega) (by omega) hp hP0 hM hO q0 g1 q1 z) (fun i1 z => by rw [mb_l, mb_v, mr_92_57, mr_92_68])
theorem RA.cm (h : RD π i0 b i ψ 0 a x) (hb : b < 2 ^ 29) (hp : p < 8) (hP0 : hP (yH ψ) p ≠ 0) (hM : M < 32) {v : Nat} (hv : xOk v) {F : Option Value → mm_M → Option mm_R} {K : mS → Int32 × mS} (h1 : ∀ i1 κ, RD π i0 (b + 1) i1 (yk ψ κ) 0 a x → RA m w l e π i0 B (mm_bi true (some (.inl none, mm_Z m w i1 l e)) F) (K (yk ψ κ))) (h2 : ∀ i1 κ, RD π i0 (b + 1) i1 (yk ψ κ) (-2) a x → RA m w l e π i0 B (mm_bi true (some (.inl none, mm_Z m w i1 l e)) F) (-2, yk ψ κ)) : RA m w l e π i0 B (mm_bi true (mm_V 302 0 [some (.ref 83), some (.int (nI p)), some (.int (nI v)), some (.int (nI M)), none] [] (mm_Z m w i l e)) F) (aNd π (cP (yH ψ) p) v (nd M) ψ K) := by
  have e0 : mm_V 302 0 [some (.ref 83), some (.int (nI p)), some (.int (nI v)), some (.int (nI M)), none] [] (mm_Z m w i l e) = mm_V 302 26 [some (.ref 83), some (.int (nI p)), some (.int (nI v)), some (.int (nI M)), some (.int (nd M))] [.int (bI true)] (mm_Z m w i l e) := by
    have := nd_ref hM
    rw [mr_302_0]
    by_cases z : nI M &&& 18 = 0
    · rw [if_pos z] at this ⊢; rw [mr_302_15, h.gd, mb_l, mb_v, this]
    · rw [if_neg z] at this ⊢; rw [mr_302_15, h.gd, mb_l, mb_v, this]
  rw [e0, mr_302_26, if_bt]
  unfold aNd
  by_cases z : nd M = 0
  · rw [if_pos z, if_pos z]
    exact h1 i (yK ψ) (h.up (by omega))
  · rw [if_neg z, if_neg z, if_neg (no_out (by omega) (by omega)), nI_clamp (by omega), h.1.pr hp hP0, show some (Value.int 0) = some (Value.int (nI 0)) from rfl]
    obtain ⟨i1, e1, e2, e3⟩ := rs_ck (m := m) (w := w) (l := l) (e := e) (cl := 0) (pm := nd M) h.1 h.2.1 (h.iv.cp hp hP0) hv (by omega)
    have hI1 : IV π (b + 1) (yA π ψ (cP (yH ψ) p) v 0 (nd M)) := iv_ck h.2.1 hb (h.iv.cp hp hP0) hv
    have g : ∀ j, 81 ≤ j → j ≤ 83 → i1 83 j = i 83 j := fun j a1 a2 => e3 83 j (by unfold gpR; omega)
    have hC : RD π i0 (b + 1) i1 (yA π ψ (cP (yH ψ) p) v 0 (nd M)) 0 a x := ⟨e2, hI1, h.2.2.1.tr (e3.mo (fun _ _ z => gpR_f z)), by rw [g _ (by omega) (by omega)]; exact h.hs, by rw [g _ (by omega) (by omega)]; exact h.ha, by rw [g _ (by omega) (by omega)]; exact h.hx⟩
    rw [e1, mb_l, mb_v, mr_302_48]
    unfold aCk
    have e4 : (kGr π (yK ψ) (cP (yH ψ) p) v 0 (nd M)).1 = yB π ψ (cP (yH ψ) p) v 0 (nd M) := rfl
    rw [e4]
    cases q : yB π ψ (cP (yH ψ) p) v 0 (nd M) with
    | true => rw [if_bt, if_pos rfl]; exact h1 i1 _ hC
    | false => rw [if_bf, if_neg (by decide)]; exact h2 _ _ hC.st
theorem cm_no (h : RD π i0 b i ψ s a x) (hs : s < 0) {x1 x2 x3 : Int32} : mm_V 302 0 [some (.ref 83), some (.int x1), some (.int x2), some (.int x3), none] [] (mm_Z m w i l e) = some (.inl none, mm_Z m w i l e) := by
  rw [mr_302_0]
  split <;> rw [mr_302_15, h.bd hs, mb_l, mb_v, mr_302_26, if_bf]
/-- the room, in the reference -/
theorem op_c282 (h : RD π i0 b i ψ s a x) (hp : p < 8) {x2 x3 x4 x5 x6 x7 : Int32} : mm_V 303 282 [some (.ref 83), some (.int (nI p)), some (.int x2), some (.int x3), some (.int x4), some (.int x5), some (.int x6), some (.int x7)] [] (mm_Z m w i l e) = mm_V 303 307 [some (.ref 83), some (.int (nI p)), some (.int x2), some (.int x3), some (.int x4), some (.int x5), some (.int x6), some (.int x7)] [.int (bI (decide (hFh (yH ψ) p < 6 ∧ hFo (yH ψ) < 16))), .ref 83] (mm_Z m w i l e) := by
  have H : HR i (yH ψ) := h.1.2.2.2.1
  have l1 : hFh (yH ψ) p ≤ 6 := by have := (tFst_le (fun z => hH (yH ψ) (6 * p + z) == 0) 6 0).2; unfold hFh; omega
  have l2 : hFo (yH ψ) ≤ 16 := by have := (tFst_le (fun z => hCt (yH ψ) z == 0) 16 0).2; unfold hFo; omega
  rw [mr_303_282, hr_freeHandle H h.iv.hw hp, mb_l, mb_v, mr_303_288]
  generalize hFh (yH ψ) p = u at *
  have k1 : (nI u < 6) ↔ u < 6 := by rw [na_6]; exact nI_ltI (by omega) (by omega)
  by_cases q : u < 6
  · rw [if_pos (k1.mpr q), hr_freeOpening H h.iv.hw, mb_l, mb_v, mr_303_297]
    generalize hFo (yH ψ) = v at *
    have k2 : (nI v < 16) ↔ v < 16 := by rw [na_16]; exact nI_ltI (by omega) (by omega)
    by_cases z : v < 16
    · rw [if_pos (k2.mpr z), decide_eq_true ⟨q, z⟩]; rfl
    · rw [if_neg (fun y => z (k2.mp y)), decide_eq_false (fun y => z y.2)]; rfl
  · rw [if_neg (fun y => q (k1.mp y)), decide_eq_false (fun y => q y.1)]; rfl
theorem op_t282 (h : RD π i0 b i ψ s a x) (hs : s < 0) (hp : p < 8) {x2 x3 x4 x5 x6 x7 : Int32} : mm_V 303 282 [some (.ref 83), some (.int (nI p)), some (.int x2), some (.int x3), some (.int x4), some (.int x5), some (.int x6), some (.int x7)] [] (mm_Z m w i l e) = some (.inl (some (.int s)), mm_Z m w i l e) := by
  rw [op_c282 h hp, mr_303_307, h.mn hs, mb_l, mb_0, mr_303_312, h.bd hs, mb_l, mb_v, mr_303_316, if_bf, h.hs]
theorem ra_oo (h : RD π i0 b i ψ 0 a x) (hB : b ≤ B) (hp : p < 8) (hP0 : hP (yH ψ) p ≠ 0) (hM : M < 32) (hn : n < 32) (hk : tk (yT ψ) n ≠ 0) (hd : tk (yT ψ) n = 2 → M = 1) {x2 x5 x6 x7 : Int32} : RA m w l e π i0 B (mm_V 303 282 [some (.ref 83), some (.int (nI p)), some (.int x2), some (.int (nI M)), some (.int (nI n)), some (.int x5), some (.int x6), some (.int x7)] [] (mm_Z m w i l e)) (aOo p n M ψ) := by
  have hw := h.iv.tw
  have hk2 := (hw n hn).1
  have hs24 := (hw n hn).2.1
  unfold aOo
  rw [op_c282 h hp, mr_303_307]
  refine RA.mu h (fun i1 g1 q => ?_) (fun i1 g1 q => RA.dead g1 hB (by rw [mb_l, mb_0, mr_303_312, g1.bd (by decide), mb_l, mb_v, mr_303_316, if_bf, g1.hs]))
  obtain ⟨q1, q2⟩ := of_decide_eq_true q
  have t4 : TR i1 (yT ψ) := g1.1.1
  rw [mb_l, mb_0, mr_303_312, g1.gd, mb_l, mb_v, mr_303_316, if_bt, if_neg (nI_nn (by omega))]
  by_cases z : nI M &&& 16 = 0
  · have zz : ¬ (¬ nI M &&& 16 = 0 ∧ ts (yT ψ) n ≠ 0) := fun y => y.1 z
    rw [if_pos z, if_neg zz]
    obtain ⟨i2, e1, e2⟩ := RD.op (m := m) (w := w) (l := l) (e := e) (md := M % 8) g1 hp hP0 q1 q2 hn hk (by omega) (fun y => by rw [hd y])
    rw [mr_303_378, md_7 hM, e1, mb_l, mb_v, mr_303_389]
    exact RA.ret (r := (nI (hFh (yH ψ) p), yo ψ p n (M % 8))) e2 hB
  · rw [if_neg z, if_neg (no_out (by omega) (by omega))]
    have a1 : i1 115 (nI n).toNatClampNeg = nI (ts (yT ψ) n) := by rw [nI_clamp (by omega), (t4 n hn).2.2.1]
    by_cases v : ts (yT ψ) n = 0
    · have zz : ¬ (¬ nI M &&& 16 = 0 ∧ ts (yT ψ) n ≠ 0) := fun y => y.2 v
      rw [if_neg (by rw [a1, nz_gt (by omega)]; exact fun y => y v), if_neg zz]
      obtain ⟨i2, e1, e2⟩ := RD.op (m := m) (w := w) (l := l) (e := e) (md := M % 8) g1 hp hP0 q1 q2 hn hk (by omega) (fun y => by rw [hd y])
      rw [mr_303_378, md_7 hM, e1, mb_l, mb_v, mr_303_389]
      exact RA.ret (r := (nI (hFh (yH ψ) p), yo ψ p n (M % 8))) e2 hB
    · have zz : ¬ nI M &&& 16 = 0 ∧ ts (yT ψ) n ≠ 0 := ⟨z, v⟩
      have k1 : tk (yT ψ) n = 1 := by
        by_cases y : tk (yT ψ) n = 2
        · have := hd y; rw [this] at z; exact absurd (by decide) z
        · omega
      rw [if_pos (by rw [a1, nz_gt (by omega)]; exact v), if_pos zz]
      obtain ⟨i2, f1, f2⟩ := RD.nt (m := m) (w := w) (l := l) (e := e) (q := (2, n, 0, 0, 0, 0)) g1 ⟨hn, k1⟩ trivial (fun z => absurd (show 2 ≤ 1 from z) (by decide)) (show 2 ≠ 6 by decide)
      have f1 : mm_V 277 0 [some (.ref 83), some (.int 2), some (.int (nI n)), some (.int 0), some (.int 0), some (.int 0)] [] (mm_Z m w i1 l e) = some (.inl none, mm_Z m w i2 l e) := f1
      obtain ⟨i3, e1, e2⟩ := RD.op (m := m) (w := w) (l := l) (e := e) (md := M % 8) f2 hp hP0 q1 q2 hn (show tk (tEm (yT ψ) n) n ≠ 0 from hk) (by omega) (fun y => by rw [hd y])
      have e1 : mm_V 301 0 [some (.ref 83), some (.int (nI p)), some (.int (nI n)), some (.int (nI (M % 8))), none, none] [] (mm_Z m w i2 l e) = some (.inl (some (.int (nI (hFh (yH ψ) p)))), mm_Z m w i3 l e) := e1
      rw [f1, mb_l, mb_0, mr_303_378, md_7 hM, e1, mb_l, mb_v, mr_303_389]
      exact RA.ret (r := (nI (hFh (yH ψ) p), yo (yn ψ (2, n, 0, 0, 0, 0)) p n (M % 8))) e2 hB
theorem ra_old (h : RD π i0 b i ψ 0 a x) (hb : b < 2 ^ 29) (hB : b + 1 ≤ B) (hp : p < 8) (hP0 : hP (yH ψ) p ≠ 0) (hM : M < 32) (hn : n < 32) (hk : tk (yT ψ) n ≠ 0) {x2 x5 x6 : Int32} {u7 : Option Value} : RA m w l e π i0 B (mm_V 303 73 [some (.ref 83), some (.int (nI p)), some (.int x2), some (.int (nI M)), some (.int (nI n)), some (.int x5), some (.int x6), u7] [] (mm_Z m w i l e)) (aOld π p n M ψ) := by
  have hw := h.iv.tw
  have hk2 := (hw n hn).1
  have t4 : TR i (yT ψ) := h.1.1
  unfold aOld
  rw [mr_303_73, if_neg (nI_nn (by omega)), tr_isDirectory t4 hw hn, mb_l, mb_v, mr_303_228]
  by_cases q : tk (yT ψ) n = 2
  · rw [if_pos q, if_pos q, if_neg (by decide)]
    by_cases z : M = 1
    · rw [if_pos (by rw [z]; rfl), mr_303_242]
      refine RA.mt h (decide_eq_true z) (fun i1 g1 => ?_)
      rw [mb_l, mb_0, mr_303_247, if_neg (no_out (by omega) (by omega)), if_neg (no_out (by omega) (by omega)), nI_clamp (by omega), nI_clamp (by omega), g1.1.pr hp hP0, g1.1.cn g1.iv hn hk, show some (Value.int 1) = some (Value.int (nI 1)) from rfl]
      refine RA.ck g1 hb (by decide) (g1.iv.cp hp hP0) (g1.iv.cn hn hk).1 (by omega) (fun i2 κ g2 => ?_) (fun i2 κ g2 => RA.dead g2 hB (by rw [mb_l, mb_0, mr_303_266, op_t282 g2 (by decide) hp]))
      rw [mb_l, mb_0, mr_303_266]
      exact ra_oo g2 hB hp hP0 hM hn hk (fun _ => z)
    · rw [if_neg (by rw [na_1, nI_eq (by omega) (by omega)]; exact z), mr_303_242]
      exact RA.mf h (decide_eq_false z) (fun i1 g1 => RA.dead g1 (by omega) (by rw [mb_l, mb_0, mr_303_247, if_neg (no_out (by omega) (by omega)), if_neg (no_out (by omega) (by omega)), g1.cn (by decide), mb_l, mb_0, mr_303_266, op_t282 g1 (by decide) hp]))
  · rw [if_neg q, if_neg q, if_pos rfl, if_neg (no_out (by omega) (by omega)), nI_clamp (by omega), h.1.cn h.iv hn hk]
    refine RA.cm h hb hp hP0 hM (h.iv.cn hn hk).1 (fun i1 κ g1 => ?_) (fun i1 κ g1 => RA.dead g1 hB (by rw [mb_l, mb_0, op_t282 g1 (by decide) hp]))
    rw [mb_l, mb_0]
    exact ra_oo g1 hB hp hP0 hM hn hk (fun y => absurd y q)
end MM114
