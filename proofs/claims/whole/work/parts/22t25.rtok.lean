/-! EVENTS: words and tokens, in the reference -/
section MM202
variable {X : mX} {w : Bool} {i i' : Nat → Nat → Int32} {l l' : Nat → Nat → Int64} {m : Nat} {e : Bool × Nat × Nat} {n k j p q c d : Nat} {x x1 x2 x3 y : Int32} {L : List Nat} {t : mTk}
def eWrl : List Nat := [376300, 19173741, 19173810, 384086485, 15026, 464399, 375084, 181450930, 13054816434, 5881219, 17060, 132274, 675116, 26886565, 5908055, 365747, 272246515, 404167987, 5342804, 379366, 180528, 5964972, 113459, 9012803, 12748844]
def eWr (k : Nat) : Nat := eWrl.getD k 0
def EWD (l : Nat → Nat → Int64) : Prop := ∀ k, k < 25 → l 130 k = lN (eWr k)
/-- the reference's number of the class's act -/
def rI (k : Nat) : Nat := if k ≤ 15 then k else if k = 16 then 19 else if k = 17 then 20 else if k = 18 then 21 else if k = 19 then 17 else if k = 20 then 18 else if k = 21 then 16 else k
def rIx (k : Nat) : Nat := if k < 25 then rI k else 25
def fI (f : Nat) : Int32 := if f < 25 then nI f else -2
theorem eWr_lt : ∀ k, k < 25 → eWr k ≠ 0 ∧ eWr k < 32 ^ 12 ∧ (wI WA (de5 12 (eWr k)) < 22 ∨ wI WL (de5 12 (eWr k)) < 3) ∧ (de5 12 (eWr k)).length ≤ 9 := by decide +kernel
theorem ew_A : ∀ j, j < 22 → rf eWr (WA.getD j []) 25 0 25 = rI j := by decide +kernel
theorem ew_L : ∀ j, j < 3 → rf eWr (WL.getD j []) 25 0 25 = 22 + j := by decide +kernel
theorem ew_rf (L : List Nat) : rf eWr L 25 0 25 = rIx (eW L) := by
  by_cases q : wI WA L < 22
  · rw [eW_A q, rIx, if_pos (by omega), ← ew_A _ q, wI_at (by rw [WA_len]; exact q)]
  · by_cases q2 : wI WL L < 3
    · rw [eW_L q2, rIx, if_pos (by omega), show rI (22 + wI WL L) = 22 + wI WL L by unfold rI; repeat (rw [if_neg (by omega)]), ← ew_L _ q2, wI_at (by rw [WL_len]; exact q2)]
    · have e1 : eW L = 25 := by unfold eW; rw [if_neg q, if_neg q2]
      rw [e1]
      refine rf_no 25 0 (fun j h1 h2 h3 => ?_)
      cases h : mtc L (eWr j) with
      | false => rfl
      | true =>
        obtain ⟨_, a1, a2, _⟩ := eWr_lt j (by omega)
        rw [← mt_de 12 _ L a1 h] at a2
        omega
theorem ew_long (h : 9 < L.length) : rf eWr L 25 0 25 = 25 := by
  refine rf_no 25 0 (fun j h1 h2 h3 => ?_)
  cases hm : mtc L (eWr j) with
  | false => rfl
  | true =>
    obtain ⟨_, a1, _, a2⟩ := eWr_lt j (by omega)
    rw [← mt_de 12 _ L a1 hm] at a2
    omega
theorem eW_nil : eW [] = 25 := by decide +kernel
theorem ew_wl : rf eWr (sg X p (lE X p - p)) 25 0 25 = rIx (eW (wl X p)) := by
  unfold wl
  by_cases z : lE X p - p ≤ 9
  · rw [if_pos z]; exact ew_rf _
  · rw [if_neg z, ew_long (by rw [sg_len]; omega), eW_nil]; rfl
theorem er_mt_loop (h : XP X i) (hw : XW X) (hq : q ≤ xz X) {k : Nat} (hk : k < 25) : ∀ (d p c : Nat), p + d = q → c < 2 ^ 63 → ∃ u v, mm_V 328 25 [some (.ref 83), some (.int x1), some (.int (nI q)), some (.int x3), some (.int (nI k)), some (.int (nI p)), some (.long (lN c)), none] [] (mm_Z m w i l e) = mm_V 328 6 [some (.ref 83), some (.int x1), some (.int (nI q)), some (.int (if mtc (sg X p d) c = true then nI k else x3)), some (.int (nI (k + 1))), u, v, none] [] (mm_Z m w i l e) := by
  have hz := hw.le
  have t70 : ∀ (p c : Nat), p ≤ q → c < 2 ^ 63 → mm_V 328 70 [some (.ref 83), some (.int x1), some (.int (nI q)), some (.int x3), some (.int (nI k)), some (.int (nI p)), some (.long (lN c)), none] [] (mm_Z m w i l e) = mm_V 328 6 [some (.ref 83), some (.int x1), some (.int (nI q)), some (.int (if p = q ∧ c = 0 then nI k else x3)), some (.int (nI (k + 1))), some (.int (nI p)), some (.long (lN c)), none] [] (mm_Z m w i l e) := by
    intro p c hp hc
    rw [mr_328_70]
    by_cases q2 : p = q
    · rw [if_pos (by rw [q2])]
      by_cases q3 : c = 0
      · rw [if_pos (cmp_0.mpr (by rw [q3]; rfl)), if_pos ⟨q2, q3⟩, nI_1]
      · rw [if_neg (show ¬ lg_cmp (lN c) 0 = 0 from fun z => q3 ((lN_inj (b := 0) (by omega) (by omega)).mp (cmp_0.mp z))), if_neg (fun z => q3 z.2), nI_1]
    · rw [if_neg (fun z => q2 ((nI_eq (by omega) (by omega)).mp z)), if_neg (fun z => q2 z.1), nI_1]
  intro d
  induction d with
  | zero =>
    intro p c hp hc
    refine ⟨some (.int (nI p)), some (.long (lN c)), ?_⟩
    rw [mr_328_25, if_neg (fun z => by have := (nI_ltI (by omega) (by omega)).mp z; omega), t70 p c (by omega) hc]
    have em : (p = q ∧ c = 0) ↔ (mtc (sg X p 0) c = true) := ⟨fun z => decide_eq_true z.2, fun z => ⟨by omega, of_decide_eq_true z⟩⟩
    simp only [em]
  | succ d ih =>
    intro p c hp hc
    have hb := hw.2 p (by omega)
    rw [mr_328_25, if_pos ((nI_ltI (by omega) (by omega)).mpr (by omega)), lN_31 hc, show (96 : Int32) = nI 96 by decide, nI_add, if_neg (no_out (by omega) (by omega)), nI_clamp (by omega), h.2 p (by omega), nI_1, show (5 : Int32).toInt64 = (nI 5).toInt64 from rfl, wb_sar hc (by decide)]
    have bad : ∀ (hn : mtc (sg X p (d + 1)) c = false), mm_V 328 70 [some (.ref 83), some (.int x1), some (.int (nI q)), some (.int x3), some (.int (nI k)), some (.int (nI p)), some (.long (lN c)), none] [] (mm_Z m w i l e) = mm_V 328 6 [some (.ref 83), some (.int x1), some (.int (nI q)), some (.int (if mtc (sg X p (d + 1)) c = true then nI k else x3)), some (.int (nI (k + 1))), some (.int (nI p)), some (.long (lN c)), none] [] (mm_Z m w i l e) := fun hn => by
      rw [t70 p c (by omega) hc, if_neg (fun z => by omega), hn, if_neg Bool.false_ne_true]
    by_cases q1 : c = 0
    · have hn : mtc (sg X p (d + 1)) c = false := by
        rw [sg, mtc, decide_eq_false (fun z => z.1 q1)]; rfl
      rw [if_neg (fun z => (lN_gt hc).mp z q1)]
      exact ⟨_, _, bad hn⟩
    · rw [if_pos ((lN_gt hc).mpr q1)]
      have h32 : c % 32 < 32 := Nat.mod_lt _ (by decide)
      by_cases q2 : xs X p = 96 + c % 32
      · rw [if_pos (by rw [q2])]
        obtain ⟨u, v, hr⟩ := ih (p + 1) (c / 2 ^ 5) (by omega) (by have := Nat.div_le_self c (2 ^ 5); omega)
        refine ⟨u, v, ?_⟩
        rw [hr]
        have : mtc (sg X p (d + 1)) c = mtc (sg X (p + 1) d) (c / 2 ^ 5) := by
          rw [sg, mtc, decide_eq_true ⟨q1, q2⟩]; rfl
        rw [this]
      · have hn : mtc (sg X p (d + 1)) c = false := by
          rw [sg, mtc, decide_eq_false (fun z => q2 z.2)]; rfl
        rw [if_neg (fun z => q2 ((nI_eq (by omega) (by omega)).mp z))]
        exact ⟨_, _, bad hn⟩
theorem er_wh_loop (h : XP X i) (hw : XW X) (hp : p ≤ q) (hq : q ≤ xz X) (hW : EWD l) : ∀ (d k f : Nat) (u3 u4 u5 : Option Value), k + d = 25 → mm_V 328 6 [some (.ref 83), some (.int (nI p)), some (.int (nI q)), some (.int (fI f)), some (.int (nI k)), u3, u4, u5] [] (mm_Z m w i l e) = some (.inl (some (.int (fI (rf eWr (sg X p (q - p)) d k f)))), mm_Z m w i l e)
  | 0, k, f, u3, u4, u5, hk => by
    rw [mr_328_6, if_neg (show ¬ nI k < 25 from fun z => by have := (nI_ltI (b := 25) (by omega) (by omega)).mp z; omega)]
    rfl
  | d + 1, k, f, u3, u4, u5, hk => by
    obtain ⟨w1, w2, _, _⟩ := eWr_lt k (by omega)
    have e60 : (32 : Nat) ^ 12 = 2 ^ 60 := by decide
    rw [mr_328_6, if_pos (show nI k < 25 from (nI_ltI (b := 25) (by omega) (by omega)).mpr (by omega)), if_neg (no_out (by omega) (by omega)), nI_clamp (by omega), hW k (by omega)]
    obtain ⟨u, v, hr⟩ := er_mt_loop (m := m) (w := w) (l := l) (e := e) (x1 := nI p) (x3 := fI f) h hw hq (k := k) (by omega) (q - p) p (eWr k) (by omega) (by omega)
    have e1 : (if mtc (sg X p (q - p)) (eWr k) = true then nI k else fI f) = fI (if eWr k ≠ 0 ∧ mtc (sg X p (q - p)) (eWr k) = true then k else f) := by
      by_cases z : mtc (sg X p (q - p)) (eWr k) = true
      · rw [if_pos z, if_pos ⟨w1, z⟩, fI, if_pos (by omega)]
      · rw [if_neg z, if_neg (fun y => z y.2)]
    rw [hr, e1, er_wh_loop h hw hp hq hW d (k + 1) _ u v none (by omega)]
    rfl
theorem er_word (h : XP X i) (hw : XW X) (hp : p ≤ xz X) (hW : EWD l) : mm_V 328 0 [some (.ref 83), some (.int (nI p)), some (.int (nI (lE X p))), none, none, none, none, none] [] (mm_Z m w i l e) = some (.inl (some (.int (fI (rIx (eW (wl X p)))))), mm_Z m w i l e) := by
  have e1 : p ≤ lE X p ∧ lE X p ≤ xz X := fs_le hp
  have t := er_wh_loop (m := m) (w := w) (e := e) h hw e1.1 e1.2 hW 25 0 25 none none none rfl
  rw [ew_wl] at t
  rw [mr_328_0]
  exact t
end MM202
section MM203
variable {X : mX} {w : Bool} {i i' : Nat → Nat → Int32} {l l' : Nat → Nat → Int64} {m : Nat} {e : Bool × Nat × Nat} {n k j p q c d : Nat} {x x1 x2 x3 y : Int32} {L : List Nat} {t : mTk}
/-- a note is passed over -/
theorem er_note (hw : XW X) : ∀ (d p : Nat) (i : Nat → Nat → Int32), p + d = xz X → XP X i → i 83 76 = nI p → ∃ i' q d', mm_V 327 67 [some (.ref 83), some (.int x1), some (.int x2), some (.int 1)] [] (mm_Z m w i l e) = mm_V 327 109 [some (.ref 83), some (.int x1), some (.int x2), some (.int 1)] [] (mm_Z m w i' l e) ∧ i' 83 76 = nI q ∧ q + d' = xz X ∧ d' ≤ d ∧ bk X true d p = bk X false d' q ∧ (∀ k j, ¬ (k = 83 ∧ j = 76) → i' k j = i k j) ∧ (0 < d → xs X p ≠ 10 → d' < d)
  | 0, p, i, hp, hX, h2 => by
    have hz := hw.le
    rw [mr_327_67, if_neg (by decide), h2, hX.1, if_neg (fun z => by have := (nI_ltI (by omega) (by omega)).mp z; omega)]
    exact ⟨i, p, 0, rfl, h2, hp, Nat.le_refl _, rfl, fun _ _ _ => rfl, fun z => by omega⟩
  | d + 1, p, i, hp, hX, h2 => by
    have hz := hw.le
    have hb := (hw.2 p (by omega)).2
    have ek : i 84 (i 83 76).toNatClampNeg = nI (xs X p) := by rw [h2, nI_clamp (by omega)]; exact hX.2 p (by omega)
    rw [mr_327_67, if_neg (by decide)]
    simp only [ek]
    rw [h2, hX.1, if_pos ((nI_ltI (by omega) (by omega)).mpr (by omega)), if_neg (no_out (by omega) (by omega))]
    by_cases z : xs X p = 10
    · rw [if_pos (show nI (xs X p) = 10 by rw [z]; rfl)]
      refine ⟨i, p, d + 1, rfl, h2, hp, Nat.le_refl _, ?_, fun _ _ _ => rfl, fun _ y => absurd z y⟩
      rw [bk_s, bk_s, if_neg (show ¬ (xs X p = 35 ∨ (true = true ∧ xs X p ≠ 10)) from by rintro (y | y); omega; exact y.2 z), if_neg (show ¬ (xs X p = 35 ∨ (false = true ∧ xs X p ≠ 10)) from by rintro (y | y); omega; exact Bool.false_ne_true y.1)]
    · rw [if_neg (show ¬ nI (xs X p) = 10 from fun y => z ((nI_eq (b := 10) (by omega) (by omega)).mp y)), nI_1]
      obtain ⟨i1, q, d', f1, f2, f3, f4, f5, f6, _⟩ := er_note hw d (p + 1) (mm_ww i 83 76 (nI (p + 1))) (by omega) ⟨by rw [mw_j (by decide)]; exact hX.1, fun k hk => by rw [mw_k (by decide)]; exact hX.2 k hk⟩ mw_s
      refine ⟨i1, q, d', f1, f2, f3, by omega, ?_, fun k j y => by rw [f6 k j y, mw_ne y], fun _ _ => by omega⟩
      rw [bk_s, if_pos (Or.inr ⟨rfl, z⟩)]
      exact f5
/-- blanks are passed over -/
theorem er_blank (hw : XW X) : ∀ (D d p : Nat) (i : Nat → Nat → Int32) (u2 u3 : Option Value), d ≤ D → p + d = xz X → XP X i → i 83 76 = nI p → ∃ i' u2' u3', mm_V 327 2 [some (.ref 83), some (.int 1), u2, u3] [] (mm_Z m w i l e) = mm_V 327 2 [some (.ref 83), some (.int 0), u2', u3'] [] (mm_Z m w i' l e) ∧ i' 83 76 = nI (bk X false d p) ∧ (∀ k j, ¬ (k = 83 ∧ j = 76) → i' k j = i k j) := by
  have hz := hw.le
  have t30 : ∀ (c : Nat) (i : Nat → Nat → Int32) (u2 u3 : Option Value), c ≤ 126 → mm_V 327 30 [some (.ref 83), some (.int 1), u2, u3] [.int (nI c)] (mm_Z m w i l e) = mm_V 327 67 [some (.ref 83), some (.int (bI (decide (c = 32 ∨ c = 10 ∨ c = 35)))), some (.int (nI c)), some (.int (bI (decide (c = 35))))] [] (mm_Z m w i l e) := fun c i u2 u3 hc => by
    rw [mr_327_30]
    have s32 : (nI c = 32) ↔ c = 32 := nI_eq (b := 32) (by omega) (by omega)
    have s10 : (nI c = 10) ↔ c = 10 := nI_eq (b := 10) (by omega) (by omega)
    have s35 : (nI c = 35) ↔ c = 35 := nI_eq (b := 35) (by omega) (by omega)
    by_cases z1 : c = 32
    · rw [if_pos (s32.mpr z1), mr_327_54, if_neg (fun y => by have := s35.mp y; omega), decide_eq_true (Or.inl z1), decide_eq_false (show ¬ c = 35 by omega)]; rfl
    · rw [if_neg (fun y => z1 (s32.mp y))]
      by_cases z2 : c = 10
      · rw [if_pos (s10.mpr z2), mr_327_54, if_neg (fun y => by have := s35.mp y; omega), decide_eq_true (Or.inr (Or.inl z2)), decide_eq_false (show ¬ c = 35 by omega)]; rfl
      · rw [if_neg (fun y => z2 (s10.mp y))]
        by_cases z3 : c = 35
        · rw [if_pos (s35.mpr z3), mr_327_54, if_pos (s35.mpr z3), decide_eq_true (Or.inr (Or.inr z3)), decide_eq_true z3]; rfl
        · rw [if_neg (fun y => z3 (s35.mp y)), mr_327_54, if_neg (fun y => z3 (s35.mp y)), decide_eq_false (show ¬ (c = 32 ∨ c = 10 ∨ c = 35) by omega), decide_eq_false z3]; rfl
  intro D
  induction D with
  | zero =>
    intro d p i u2 u3 hd hp hX h2
    have hd0 : d = 0 := by omega
    subst hd0
    rw [mr_327_2, if_neg (by decide), h2, hX.1, if_neg (fun z => by have := (nI_ltI (by omega) (by omega)).mp z; omega)]
    have t := t30 0 i u2 u3 (by omega)
    have t : mm_V 327 30 [some (.ref 83), some (.int 1), u2, u3] [.int 0] (mm_Z m w i l e) = mm_V 327 67 [some (.ref 83), some (.int 0), some (.int 0), some (.int 0)] [] (mm_Z m w i l e) := t
    rw [t, mr_327_67, if_pos rfl, mr_327_109, if_pos rfl, mw_self rfl]
    exact ⟨i, _, _, rfl, h2, fun _ _ _ => rfl⟩
  | succ D ih =>
    intro d p i u2 u3 hd hp hX h2
    rcases d with _ | d
    · exact ih 0 p i u2 u3 (by omega) hp hX h2
    have hb := hw.2 p (by omega)
    have ek : i 84 (i 83 76).toNatClampNeg = nI (xs X p) := by rw [h2, nI_clamp (by omega)]; exact hX.2 p (by omega)
    rw [mr_327_2, if_neg (by decide)]
    simp only [ek]
    rw [h2, hX.1, if_pos ((nI_ltI (by omega) (by omega)).mpr (by omega)), if_neg (no_out (by omega) (by omega)), t30 _ _ _ _ (by omega), bk_s]
    by_cases z35 : xs X p = 35
    · rw [decide_eq_true (show xs X p = 32 ∨ xs X p = 10 ∨ xs X p = 35 from Or.inr (Or.inr z35)), decide_eq_true z35, if_pos (Or.inl z35)]
      obtain ⟨i1, q, d', f1, f2, f3, f4, f5, f6, f7⟩ := er_note (m := m) (w := w) (l := l) (e := e) (x1 := 1) (x2 := nI (xs X p)) hw (d + 1) p i hp hX h2
      have f1 : mm_V 327 67 [some (.ref 83), some (.int (bI true)), some (.int (nI (xs X p))), some (.int (bI true))] [] (mm_Z m w i l e) = _ := f1
      have f7 := f7 (by omega) (by omega)
      have f5 : bk X true d (p + 1) = bk X false d' q := by rw [bk_s, if_pos (Or.inl z35)] at f5; exact f5
      rw [f1, mr_327_109, if_neg (by decide), if_neg (by decide), mw_self rfl, f5]
      have hX1 : XP X i1 := ⟨by rw [f6 _ _ (by omega)]; exact hX.1, fun k hk => by rw [f6 _ _ (by omega)]; exact hX.2 k hk⟩
      obtain ⟨i2, v2, v3, g1, g2, g3⟩ := ih d' q i1 (some (.int (nI (xs X p)))) (some (.int 1)) (by omega) f3 hX1 f2
      exact ⟨i2, v2, v3, g1, g2, fun k j y => by rw [g3 k j y, f6 k j y]⟩
    · rw [decide_eq_false z35, if_neg (show ¬ (xs X p = 35 ∨ (false = true ∧ xs X p ≠ 10)) from fun y => y.elim z35 (fun y => Bool.false_ne_true y.1))]
      have t67 : ∀ b : Bool, mm_V 327 67 [some (.ref 83), some (.int (bI b)), some (.int (nI (xs X p))), some (.int (bI false))] [] (mm_Z m w i l e) = mm_V 327 109 [some (.ref 83), some (.int (bI b)), some (.int (nI (xs X p))), some (.int (bI false))] [] (mm_Z m w i l e) := fun b => by rw [mr_327_67, if_bf]
      by_cases z : xs X p = 32 ∨ xs X p = 10
      · rw [decide_eq_true (show xs X p = 32 ∨ xs X p = 10 ∨ xs X p = 35 by omega), if_pos z, t67, mr_327_109, if_bt, if_bf, h2, nI_1]
        obtain ⟨i2, v2, v3, g1, g2, g3⟩ := ih d (p + 1) (mm_ww i 83 76 (nI (p + 1))) (some (.int (nI (xs X p)))) (some (.int (bI false))) (by omega) (by omega) ⟨by rw [mw_j (by decide)]; exact hX.1, fun k hk => by rw [mw_k (by decide)]; exact hX.2 k hk⟩ mw_s
        exact ⟨i2, v2, v3, g1, g2, fun k j y => by rw [g3 k j y, mw_ne y]⟩
      · rw [decide_eq_false (show ¬ (xs X p = 32 ∨ xs X p = 10 ∨ xs X p = 35) by omega), if_neg z, t67, mr_327_109, if_bf, mw_self rfl]
        exact ⟨i, _, _, rfl, h2, fun _ _ _ => rfl⟩
theorem er_wd_loop (hw : XW X) {u3 : Option Value} : ∀ (d p : Nat) (i : Nat → Nat → Int32), XP X i → i 83 76 = nI p → p + d = xz X → ∃ i', mm_V 327 181 [some (.ref 83), some (.int x1), some (.int x2), u3] [] (mm_Z m w i l e) = mm_V 327 224 [some (.ref 83), some (.int x1), some (.int x2), u3] [] (mm_Z m w i' l e) ∧ i' 83 76 = nI (tFst (fun q => !isL (xs X q)) d p) ∧ (∀ k j, ¬ (k = 83 ∧ j = 76) → i' k j = i k j)
  | 0, p, i, h, h2, hp => by
    have hz := hw.le
    refine ⟨i, ?_, h2, fun _ _ _ => rfl⟩
    rw [mr_327_181, h2, h.1, if_neg (fun z => by have := (nI_ltI (by omega) (by omega)).mp z; omega)]
  | d + 1, p, i, h, h2, hp => by
    have hz := hw.le
    have hb := (hw.2 p (by omega)).2
    have ek : i 84 (i 83 76).toNatClampNeg = nI (xs X p) := by rw [h2, nI_clamp (by omega)]; exact h.2 p (by omega)
    rw [mr_327_181]
    simp only [ek]
    rw [h2, h.1, if_pos ((nI_ltI (by omega) (by omega)).mpr (by omega)), if_neg (no_out (by omega) (by omega)), in_n (a := 97) (b := 122) (xa := 97) (xb := 122) (by omega) (by omega) (by omega) rfl rfl, mb_l, mb_v, mr_327_208, tFst]
    show ∃ i', (if bI (isL (xs X p)) = 0 then _ else _) = _ ∧ _
    cases q : isL (xs X p) with
    | false =>
      rw [if_bf, if_pos (show (!false) = true from rfl)]
      exact ⟨i, rfl, h2, fun _ _ _ => rfl⟩
    | true =>
      rw [if_bt, if_neg (show ¬ (!true) = true by decide), h2, nI_1]
      obtain ⟨i1, f1, f2, f3⟩ := er_wd_loop hw d (p + 1) (mm_ww i 83 76 (nI (p + 1))) ⟨by rw [mw_j (by decide)]; exact h.1, fun k hk => by rw [mw_k (by decide)]; exact h.2 k hk⟩ mw_s (by omega)
      exact ⟨i1, f1, f2, fun k j z => by rw [f3 k j z, mw_ne z]⟩
theorem er_nm_loop (hw : XW X) (hp : p ≤ xz X) {u3 : Option Value} : ∀ (d q : Nat) (i : Nat → Nat → Int32), XP X i → i 83 43 = nI p → i 83 76 = nI q → q + d = xz X → p ≤ q → (∀ k, p ≤ k → k < q → isD (xs X k) = true) → (q - p ≤ 8 → i 83 75 = nI (nmV 0 (sg X p (q - p)))) → ∃ i', mm_V 327 259 [some (.ref 83), some (.int x1), some (.int x2), u3] [] (mm_Z m w i l e) = mm_V 327 347 [some (.ref 83), some (.int x1), some (.int x2), u3] [] (mm_Z m w i' l e) ∧ i' 83 76 = nI (tFst (fun q => !isD (xs X q)) d q) ∧ (tFst (fun q => !isD (xs X q)) d q - p ≤ 8 → i' 83 75 = nI (nmV 0 (sg X p (tFst (fun q => !isD (xs X q)) d q - p)))) ∧ (∀ k j, ¬ (k = 83 ∧ (j = 75 ∨ j = 76)) → i' k j = i k j)
  | 0, q, i, h, h1, h2, hq, hpq, hD, h4 => by
    have hz := hw.le
    refine ⟨i, ?_, h2, h4, fun _ _ _ => rfl⟩
    rw [mr_327_259, h2, h.1, if_neg (fun z => by have := (nI_ltI (by omega) (by omega)).mp z; omega)]
  | d + 1, q, i, h, h1, h2, hq, hpq, hD, h4 => by
    have hz := hw.le
    have hb := (hw.2 q (by omega)).2
    have ek : i 84 (i 83 76).toNatClampNeg = nI (xs X q) := by rw [h2, nI_clamp (by omega)]; exact h.2 q (by omega)
    rw [mr_327_259]
    simp only [ek]
    rw [h2, h.1, if_pos ((nI_ltI (by omega) (by omega)).mpr (by omega)), if_neg (no_out (by omega) (by omega)), in_n (a := 48) (b := 57) (xa := 48) (xb := 57) (by omega) (by omega) (by omega) rfl rfl, mb_l, mb_v, mr_327_286, tFst]
    simp only [ek]
    show ∃ i', (if bI (isD (xs X q)) = 0 then _ else _) = _ ∧ _
    cases hd : isD (xs X q) with
    | false =>
      rw [if_bf, if_pos (show (!false) = true from rfl)]
      exact ⟨i, rfl, h2, h4, fun _ _ _ => rfl⟩
    | true =>
      have hd' := of_decide_eq_true hd
      have hD' : ∀ k, p ≤ k → k < q + 1 → isD (xs X k) = true := fun k k1 k2 => by
        by_cases z : k = q
        · rw [z]; exact hd
        · exact hD k k1 (by omega)
      rw [if_bt, if_neg (show ¬ (!true) = true by decide), h2, h1, na_sub hpq]
      have go : ∀ y : Int32, (q + 1 - p ≤ 8 → y = nI (nmV 0 (sg X p (q + 1 - p)))) → ∃ i', mm_V 327 331 [some (.ref 83), some (.int x1), some (.int x2), u3] [.int y, .ref 83] (mm_Z m w i l e) = mm_V 327 347 [some (.ref 83), some (.int x1), some (.int x2), u3] [] (mm_Z m w i' l e) ∧ i' 83 76 = nI (tFst (fun q => !isD (xs X q)) d (q + 1)) ∧ (tFst (fun q => !isD (xs X q)) d (q + 1) - p ≤ 8 → i' 83 75 = nI (nmV 0 (sg X p (tFst (fun q => !isD (xs X q)) d (q + 1) - p)))) ∧ (∀ k j, ¬ (k = 83 ∧ (j = 75 ∨ j = 76)) → i' k j = i k j) := fun y hy => by
        rw [mr_327_331, h2, nI_1]
        obtain ⟨i1, f1, f2, f3, f4⟩ := er_nm_loop hw hp d (q + 1) (mm_ww (mm_ww i 83 75 y) 83 76 (nI (q + 1))) ⟨by rw [mw_j (by decide), mw_j (by decide)]; exact h.1, fun k hk => by rw [mw_k (by decide), mw_k (by decide)]; exact h.2 k hk⟩ (by rw [mw_j (by decide), mw_j (by decide)]; exact h1) mw_s (by omega) (by omega) hD' (fun h8 => by rw [mw_j (by decide), mw_s]; exact hy h8)
        exact ⟨i1, f1, f2, f3, fun k j z => by rw [f4 k j z, mw_ne (by omega), mw_ne (by omega)]⟩
      by_cases q8 : q - p < 8
      · have h4 := h4 (by omega)
        have hl := nmV_8 (X := X) (p := p) (d := q - p) (fun k k1 k2 => hD k k1 (by omega)) (by omega)
        rw [if_pos (show nI (q - p) < 8 from (nI_ltI (b := 8) (by omega) (by omega)).mpr q8), if_neg (no_out (by omega) (by omega)), h4]
        refine go _ (fun _ => ?_)
        rw [show (10 : Int32) = nI 10 from rfl, show (48 : Int32) = nI 48 from rfl, na_mul, nI_add, na_sub (by omega), show q + 1 - p = (q - p) + 1 by omega, sg_app, nmV_app, show p + (q - p) = q by omega]
        congr 1
        omega
      · rw [if_neg (show ¬ nI (q - p) < 8 from fun z => q8 ((nI_ltI (b := 8) (by omega) (by omega)).mp z))]
        exact go _ (fun h8 => by omega)
end MM203
