/-! THE NEXT TOKEN, in the reference -/
section MM134
variable {w : Bool} {l l' : Nat → Nat → Int64} {e : Bool × Nat × Nat} {m : Nat} {X : mX} {i i' : Nat → Nat → Int32} {a b c n p q : Nat} {u3 u4 u5 : Option Value} {x1 x2 : Int32}
theorem wb_sar {n k : Nat} (hn : n < 2 ^ 63) (hk : k < 64) : lN n >>> ((nI k).toInt64 &&& 63) = lN (n / 2 ^ k) := by
  rw [wb_c k hk]
  apply wb_inj
  rw [Int64.toBitVec_shiftRight, wb_tb, wb_tb, wb_tb, wb_sm k hk]
  have hm : (BitVec.ofNat 64 n).msb = false := by
    rw [BitVec.msb_eq_false_iff_two_mul_lt, BitVec.toNat_ofNat, Nat.mod_eq_of_lt (by omega)]; omega
  rw [BitVec.sshiftRight_eq', BitVec.sshiftRight_eq_of_msb_false hm]
  apply BitVec.eq_of_toNat_eq
  rw [BitVec.toNat_ushiftRight, BitVec.toNat_ofNat, BitVec.toNat_ofNat, BitVec.toNat_ofNat, Nat.mod_eq_of_lt (show k < 2 ^ 64 by omega), Nat.mod_eq_of_lt (show n < 2 ^ 64 by omega), Nat.shiftRight_eq_div_pow, Nat.mod_eq_of_lt (Nat.lt_of_le_of_lt (Nat.div_le_self _ _) (by omega))]
theorem lN_gt {c : Nat} (hc : c < 2 ^ 63) : (0 < lg_cmp (lN c) 0) ↔ c ≠ 0 := by
  have h1 : (lN c).toInt = (c : Int) := lg_ofNat_toInt hc
  have : (0 : Int64).toInt = 0 := by decide
  rw [lg_cmp_gt, Int64.lt_iff_toInt_lt, h1, this]; omega
theorem lN_31 {c : Nat} (hc : c < 2 ^ 63) : ((lN c &&& 31 : Int64)).toInt32 = nI (c % 32) := by
  have : lN c &&& (31 : Int64) = lN (c % 2 ^ 5) := wb_mask (k := 5) (by omega) (by decide)
  rw [this, lN_i]
/-- one word of the reference, at the letters from p on -/
theorem xr_mt_loop (h : XR X i) (hw : XW X) (hq : q ≤ xz X) (h4 : i 83 44 = nI q) {k : Nat} (hk : k < 60) {W : Nat → Nat} (hW : ∀ j, j < 60 → l 85 j = lN (W j)) (hW2 : ∀ j, W j < 2 ^ 63) : ∀ (d p c : Nat), p + d = q → c < 2 ^ 63 → ∃ u v, mm_V 202 23 [some (.ref 83), some (.int x1), some (.int (nI k)), some (.int (nI p)), some (.long (lN c)), none] [] (mm_Z m w i l e) = mm_V 202 4 [some (.ref 83), some (.int (if W k ≠ 0 ∧ mtc (sg X p d) c = true then nI k else x1)), some (.int (nI (k + 1))), u, v, none] [] (mm_Z m w i l e) := by
  have hz := hw.le
  have e85 : l 85 (nI k).toNatClampNeg = lN (W k) := by rw [nI_clamp (by omega), hW k hk]
  have t69 : ∀ (p c : Nat), p ≤ q → c < 2 ^ 63 → mm_V 202 69 [some (.ref 83), some (.int x1), some (.int (nI k)), some (.int (nI p)), some (.long (lN c)), none] [] (mm_Z m w i l e) = mm_V 202 4 [some (.ref 83), some (.int (if W k ≠ 0 ∧ (p = q ∧ c = 0) then nI k else x1)), some (.int (nI (k + 1))), some (.int (nI p)), some (.long (lN c)), none] [] (mm_Z m w i l e) := by
    intro p c hp hc
    rw [mr_202_69, if_neg (no_out (by omega) (by omega)), e85, h4]
    by_cases q1 : W k = 0
    · rw [if_neg (fun z => (lN_gt (hW2 k)).mp z q1), if_neg (fun z => z.1 q1), nI_1]
    · rw [if_pos ((lN_gt (hW2 k)).mpr q1)]
      by_cases q2 : p = q
      · rw [if_pos (by rw [q2])]
        by_cases q3 : c = 0
        · rw [if_pos (cmp_0.mpr (by rw [q3]; rfl)), if_pos ⟨q1, q2, q3⟩, nI_1]
        · rw [if_neg (show ¬ lg_cmp (lN c) 0 = 0 from fun z => q3 ((lN_inj (b := 0) (by omega) (by omega)).mp (cmp_0.mp z))), if_neg (fun z => q3 z.2.2), nI_1]
      · rw [if_neg (fun z => q2 ((nI_eq (by omega) (by omega)).mp z)), if_neg (fun z => q2 z.2.1), nI_1]
  intro d
  induction d with
  | zero =>
    intro p c hp hc
    refine ⟨some (.int (nI p)), some (.long (lN c)), ?_⟩
    rw [mr_202_23, h4, if_neg (fun z => by have := (nI_ltI (by omega) (by omega)).mp z; omega), t69 p c (by omega) hc]
    have em : (W k ≠ 0 ∧ (p = q ∧ c = 0)) ↔ (W k ≠ 0 ∧ mtc (sg X p 0) c = true) := ⟨fun z => ⟨z.1, decide_eq_true z.2.2⟩, fun z => ⟨z.1, by omega, of_decide_eq_true z.2⟩⟩
    simp only [em]
  | succ d ih =>
    intro p c hp hc
    have hb := hw.2 p (by omega)
    rw [mr_202_23, h4, if_pos ((nI_ltI (by omega) (by omega)).mpr (by omega)), lN_31 hc, show (96 : Int32) = nI 96 by decide, nI_add, if_neg (no_out (by omega) (by omega)), nI_clamp (by omega), h.2 p (by omega), nI_1, show (5 : Int32).toInt64 = (nI 5).toInt64 from rfl, wb_sar hc (by decide)]
    have bad : ∀ (hn : mtc (sg X p (d + 1)) c = false), mm_V 202 69 [some (.ref 83), some (.int x1), some (.int (nI k)), some (.int (nI p)), some (.long (lN c)), none] [] (mm_Z m w i l e) = mm_V 202 4 [some (.ref 83), some (.int (if W k ≠ 0 ∧ mtc (sg X p (d + 1)) c = true then nI k else x1)), some (.int (nI (k + 1))), some (.int (nI p)), some (.long (lN c)), none] [] (mm_Z m w i l e) := fun hn => by
      rw [t69 p c (by omega) hc, if_neg (fun z => by omega), hn, if_neg (fun z => Bool.false_ne_true z.2)]
    by_cases q1 : c = 0
    · have hn : mtc (sg X p (d + 1)) c = false := by
        rw [sg, mtc, decide_eq_false (fun z => z.1 q1)]; rfl
      rw [if_neg (fun z => (lN_gt hc).mp z q1)]
      exact ⟨_, _, bad hn⟩
    · rw [if_pos ((lN_gt hc).mpr q1)]
      have h32 : c % 32 < 32 := Nat.mod_lt _ (by decide)
      by_cases q2 : xs X p = 96 + c % 32
      · rw [if_pos (by rw [q2])]
        obtain ⟨u, v, hr⟩ := ih (p + 1) (c / 2 ^ 5) (by omega) (by have := Nat.div_le_self c (2 ^ 5); omega)
        refine ⟨u, v, ?_⟩
        rw [hr]
        have : mtc (sg X p (d + 1)) c = mtc (sg X (p + 1) d) (c / 2 ^ 5) := by
          rw [sg, mtc, decide_eq_true ⟨q1, q2⟩]; rfl
        rw [this]
      · have hn : mtc (sg X p (d + 1)) c = false := by
          rw [sg, mtc, decide_eq_false (fun z => q2 z.2)]; rfl
        rw [if_neg (fun z => q2 ((nI_eq (by omega) (by omega)).mp z))]
        exact ⟨_, _, bad hn⟩
theorem xr_wh_loop (h : XR X i) (hw : XW X) (hp : p ≤ q) (hq : q ≤ xz X) (h3 : i 83 43 = nI p) (h4 : i 83 44 = nI q) (hW : WDS l) : ∀ (d k f : Nat) (u3 u4 : Option Value), k + d = 60 → mm_V 202 4 [some (.ref 83), some (.int (nI f)), some (.int (nI k)), u3, u4, none] [] (mm_Z m w i l e) = some (.inl (some (.int (nI (rf rWd (sg X p (q - p)) d k f)))), mm_Z m w i l e)
  | 0, k, f, u3, u4, hk => by
    rw [mr_202_4, show (60 : Int32) = nI 60 by decide, if_neg (fun z => by have := (nI_ltI (by omega) (by omega)).mp z; omega)]
    rfl
  | d + 1, k, f, u3, u4, hk => by
    have hW2 : ∀ j, rWd j < 2 ^ 63 := fun j => by
      by_cases z : j < 60
      · by_cases y : rWd j = 0
        · rw [y]; omega
        · have h1 := (rW_in j z y).1
          have e : (32 : Nat) ^ 12 = 2 ^ 60 := by decide
          omega
      · have : rWd j = 0 := by
          unfold rWd
          have hl60 : rWl.length = 60 := by decide
          rw [List.getD_eq_getElem?_getD, List.getElem?_eq_none (by rw [hl60]; omega)]
          rfl
        rw [this]; omega
    rw [mr_202_4, show (60 : Int32) = nI 60 by decide, if_pos ((nI_ltI (by omega) (by omega)).mpr (by omega)), if_neg (no_out (by omega) (by omega)), nI_clamp (by omega), hW k (by omega), h3]
    obtain ⟨u, v, hr⟩ := xr_mt_loop (m := m) (w := w) (l := l) (e := e) (x1 := nI f) h hw hq h4 (k := k) (by omega) hW hW2 (q - p) p (rWd k) (by omega) (hW2 k)
    have e1 : (if rWd k ≠ 0 ∧ mtc (sg X p (q - p)) (rWd k) = true then nI k else nI f) = nI (if rWd k ≠ 0 ∧ mtc (sg X p (q - p)) (rWd k) = true then k else f) := by split <;> rfl
    rw [hr, e1, xr_wh_loop h hw hp hq h3 h4 hW d (k + 1) _ u v (by omega)]
    rfl
theorem xr_wordHere (h : XR X i) (hw : XW X) (hp : p ≤ q) (hq : q ≤ xz X) (h3 : i 83 43 = nI p) (h4 : i 83 44 = nI q) (hW : WDS l) : mm_V 202 0 [some (.ref 83), none, none, none, none, none] [] (mm_Z m w i l e) = some (.inl (some (.int (nI (rwd (kW (sg X p (q - p))))))), mm_Z m w i l e) := by
  have e0 := xr_wh_loop (m := m) (w := w) (l := l) (e := e) h hw hp hq h3 h4 hW 59 1 0 none none rfl
  rw [rw_kW] at e0
  rw [mr_202_0]
  exact e0
/-- the end of a name -/
theorem xr_name_loop (h : XR X i) (hw : XW X) : ∀ (d p : Nat), p + d = xz X → mm_V 204 53 [some (.ref 83), some (.int (nI p)), some (.int x2)] [] (mm_Z m w i l e) = mm_V 204 61 [some (.ref 83), some (.int (nI (tFst (fun q => !isN (xs X q)) d p))), some (.int x2)] [.int 0] (mm_Z m w i l e)
  | 0, p, hp => by
    have hz := hw.le
    rw [mr_204_53, xr_at h hw (by omega), if_neg (show ¬ p < xz X by omega), mb_l, mb_v, mr_204_58, show (Value.int 0) = Value.int (nI 0) from rfl, xr_isN (by omega), mb_l, mb_v]
    rfl
  | d + 1, p, hp => by
    have hz := hw.le
    have hb := hw.2 p (by omega)
    rw [mr_204_53, xr_at h hw (by omega), if_pos (show p < xz X by omega), mb_l, mb_v, mr_204_58, xr_isN (by omega), mb_l, mb_v, tFst]
    cases q : isN (xs X p) with
    | false => rw [if_pos (show (!false) = true from rfl)]; rfl
    | true => rw [if_neg (show ¬ (!true) = true by decide), mr_204_61, if_bt, nI_1, xr_name_loop h hw d (p + 1) (by omega)]
theorem rk_S {c d : Nat} (hc : c ≤ 126) (hd : d ≤ 126) : mm_V 203 0 [some (.ref 83), some (.int (nI c)), some (.int (nI d))] [] (mm_Z m w i l e) = some (.inl (some (.int (nI (rk (kS c d))))), mm_Z m w i l e) := by
  have ne : ∀ k : Nat, k < 200 → c ≠ k → ¬ nI c = nI k := fun k hk z y => z ((nI_eq (by omega) (by omega)).mp y)
  have e61 : (nI d = 61) ↔ d = 61 := nI_eq (by omega) (by decide : 61 < 2 ^ 31)
  rw [mr_203_0]
  simp only [mm_sw]
  by_cases c33 : c = 33
  · subst c33
    have k1 : kS 33 d = if d = 61 then 4 else 1 := by unfold kS; rw [if_pos rfl]
    rw [if_pos (show nI 33 = 33 by decide), k1]
    by_cases q : d = 61
    · rw [if_pos (e61.mpr q), if_pos q]; rfl
    · rw [if_neg (fun z => q (e61.mp z)), if_neg q]; rfl
  · rw [if_neg (show ¬ nI c = 33 from ne 33 (by omega) c33)]
    by_cases c61 : c = 61
    · subst c61
      have k1 : kS 61 d = if d = 61 then 3 else 1 := by unfold kS; rw [if_neg (by decide), if_pos rfl]
      rw [if_neg (show ¬ nI 61 = 40 by decide), if_neg (show ¬ nI 61 = 41 by decide), if_neg (show ¬ nI 61 = 42 by decide), if_neg (show ¬ nI 61 = 44 by decide), if_neg (show ¬ nI 61 = 58 by decide), if_neg (show ¬ nI 61 = 59 by decide), if_pos (show nI 61 = 61 by decide), k1]
      by_cases q : d = 61
      · rw [if_pos (e61.mpr q), if_pos q]; rfl
      · rw [if_neg (fun z => q (e61.mp z)), if_neg q]; rfl
    · have k0 : kS c d = if c = 40 ∨ c = 41 ∨ c = 42 ∨ c = 44 ∨ c = 58 ∨ c = 59 ∨ c = 123 ∨ c = 125 then c else 1 := by unfold kS; rw [if_neg c33, if_neg c61]
      rw [k0]
      by_cases q : c = 40 ∨ c = 41 ∨ c = 42 ∨ c = 44 ∨ c = 58 ∨ c = 59 ∨ c = 123 ∨ c = 125
      · rw [if_pos q]
        rcases q with q | q | q | q | q | q | q | q <;> subst q <;> rfl
      · rw [if_neg q, if_neg (show ¬ nI c = 40 from ne 40 (by omega) (by omega)), if_neg (show ¬ nI c = 41 from ne 41 (by omega) (by omega)), if_neg (show ¬ nI c = 42 from ne 42 (by omega) (by omega)), if_neg (show ¬ nI c = 44 from ne 44 (by omega) (by omega)), if_neg (show ¬ nI c = 58 from ne 58 (by omega) (by omega)), if_neg (show ¬ nI c = 59 from ne 59 (by omega) (by omega)), if_neg (show ¬ nI c = 61 from ne 61 (by omega) c61), if_neg (show ¬ nI c = 123 from ne 123 (by omega) (by omega)), if_neg (show ¬ nI c = 125 from ne 125 (by omega) (by omega))]
        rfl
theorem kS_rk (c d : Nat) : rwd (kS c d) = 0 ∧ (rk (kS c d) = 8 ↔ kS c d = 3) ∧ (rk (kS c d) = 9 ↔ kS c d = 4) ∧ rk (kS c d) < 13 := by
  have h := kS_lt c d
  refine ⟨by unfold rwd; rw [if_pos h.1], ?_⟩
  unfold kS
  split
  · split <;> decide
  · split
    · split <;> decide
    · split
      · rename_i q
        rcases q with q | q | q | q | q | q | q | q <;> subst q <;> decide
      · decide
/-- the reference's next token -/
theorem xr_adv (h : XR X i) (hw : XW X) (hW : WDS l) (h4 : i 83 44 = nI n) (hn : n ≤ xz X) : ∃ i', mm_V 204 0 [some (.ref 83), none, none] [] (mm_Z m w i l e) = some (.inl none, mm_Z m w i' l e) ∧ KR i' (lx X n) ∧ mG (fun k j => k = 83 ∧ 42 ≤ j ∧ j ≤ 45) i i' := by
  have hz := hw.le
  obtain ⟨b1, b2⟩ := bb_le (X := X) hn
  have hX1 : XR X (mm_ww (mm_ww i 83 43 (nI (bb X n))) 83 45 0) := h.kp (by rw [mw_j (by omega), mw_j (by omega)]) (fun j => by rw [mw_k (by omega), mw_k (by omega)])
  have hG1 : mG (fun k j => k = 83 ∧ 42 ≤ j ∧ j ≤ 45) i (mm_ww (mm_ww i 83 43 (nI (bb X n))) 83 45 0) := (mG.ww ⟨rfl, by omega, by omega⟩).tr (mG.ww ⟨rfl, by omega, by omega⟩)
  have s43 : mm_ww (mm_ww i 83 43 (nI (bb X n))) 83 45 0 83 43 = nI (bb X n) := by rw [mw_j (by omega), mw_s]
  have s45 : mm_ww (mm_ww i 83 43 (nI (bb X n))) 83 45 0 83 45 = 0 := mw_s
  rw [mr_204_0, h4, xr_sk h hw hn, mb_l, mb_v, mr_204_8]
  generalize mm_ww (mm_ww i 83 43 (nI (bb X n))) 83 45 0 = i1 at hX1 hG1 s43 s45
  rw [xr_at hX1 hw (by omega), mb_l, mb_v, mr_204_24, hX1.1]
  by_cases q : bb X n < xz X
  · have hb := hw.2 _ q
    rw [if_pos q, if_pos ((nI_ltI (by omega) (by omega)).mpr q), xr_isL (by omega), mb_l, mb_v, mr_204_50]
    by_cases ql : isL (xs X (bb X n)) = true
    · have e1 := nE_le X (p := bb X n) b2
      have e2 := nE_lt X q ql
      have hX2 : XR X (mm_ww i1 83 44 (nI (nE X (bb X n)))) := hX1.kp (by rw [mw_j (by omega)]) (fun j => by rw [mw_k (by omega)])
      have r43 : mm_ww i1 83 44 (nI (nE X (bb X n))) 83 43 = nI (bb X n) := by rw [mw_j (by omega), s43]
      have e9 : ((9 : Int32) < nI (nE X (bb X n) - bb X n)) ↔ 9 < nE X (bb X n) - bb X n := by rw [na_9]; exact nI_ltI (by omega) (by omega)
      rw [ql, if_bt, xr_name_loop hX1 hw (xz X - bb X n) (bb X n) (by omega), show tFst (fun q => !isN (xs X q)) (xz X - bb X n) (bb X n) = nE X (bb X n) from rfl, mr_204_61, if_pos rfl, xr_wordHere hX2 hw e1.1 e1.2 r43 mw_s hW, mb_l, mb_v, mr_204_80, r43, na_sub e1.1]
      have fr : ∀ a b, mG (fun k j => k = 83 ∧ 42 ≤ j ∧ j ≤ 45) i (mm_ww (mm_ww (mm_ww i1 83 44 (nI (nE X (bb X n)))) 83 45 a) 83 42 b) := fun a b => ((hG1.tr (mG.ww ⟨rfl, by omega, by omega⟩)).tr (mG.ww ⟨rfl, by omega, by omega⟩)).tr (mG.ww ⟨rfl, by omega, by omega⟩)
      by_cases q9 : nE X (bb X n) - bb X n ≤ 9
      · have el : lx X n = (bb X n, nE X (bb X n), kW (sg X (bb X n) (nE X (bb X n) - bb X n))) := by unfold lx; rw [if_pos q, if_pos ql, if_pos q9]
        have ek := kW_ge (sg X (bb X n) (nE X (bb X n) - bb X n))
        have er : rk (kW (sg X (bb X n) (nE X (bb X n) - bb X n))) = 1 := by unfold rk; rw [if_neg (by omega), if_pos (by omega)]
        rw [if_neg (fun z => by have := e9.mp z; omega)]
        refine ⟨_, rfl, ⟨?_, fun _ => ?_, ?_, ?_⟩, fr _ _⟩
        · rw [mw_j (by omega), mw_j (by omega), r43, el]
        · rw [mw_j (by omega), mw_j (by omega), mw_s, el]
        · rw [mw_s, el, er]; rfl
        · rw [mw_j (by omega), mw_s, el]
      · have el : lx X n = (bb X n, nE X (bb X n), 1) := by unfold lx; rw [if_pos q, if_pos ql, if_neg q9]
        have ek : kW (sg X (bb X n) (nE X (bb X n) - bb X n)) = 2 := kW_long (by rw [sg_len]; omega)
        rw [if_pos (e9.mpr (by omega)), ek]
        refine ⟨_, rfl, ⟨?_, fun z => ?_, ?_, ?_⟩, fr _ _⟩
        · rw [mw_j (by omega), mw_j (by omega), r43, el]
        · rw [el] at z; exact absurd rfl z
        · rw [mw_s, el]; rfl
        · rw [mw_j (by omega), mw_s, el]; rfl
    · have ql' : isL (xs X (bb X n)) = false := by cases z : isL (xs X (bb X n)) with
        | true => exact absurd z ql
        | false => rfl
      have exb : (if bb X n + 1 < xz X then nI (xs X (bb X n + 1)) else 0) = nI (xb X (bb X n + 1)) := by unfold xb; split <;> rfl
      have hxb : xb X (bb X n + 1) ≤ 126 := by
        unfold xb; split
        · rename_i z; exact (hw.2 _ z).2
        · omega
      have el : lx X n = (bb X n, (if kS (xs X (bb X n)) (xb X (bb X n + 1)) = 3 ∨ kS (xs X (bb X n)) (xb X (bb X n + 1)) = 4 then bb X n + 2 else bb X n + 1), kS (xs X (bb X n)) (xb X (bb X n + 1))) := by unfold lx; rw [if_pos q, if_neg ql]
      obtain ⟨k1, k2, k3, k4⟩ := kS_rk (xs X (bb X n)) (xb X (bb X n + 1))
      rw [ql', if_bf, nI_1, xr_at hX1 hw (by omega), mb_l, mb_v, mr_204_117, exb, rk_S hb.2 hxb, mb_l, mb_v, mr_204_120]
      rw [el]
      have g8 : (nI (rk (kS (xs X (bb X n)) (xb X (bb X n + 1)))) = 8) ↔ kS (xs X (bb X n)) (xb X (bb X n + 1)) = 3 := by rw [na_8, nI_eq (by omega) (by omega)]; exact k2
      have g9 : (nI (rk (kS (xs X (bb X n)) (xb X (bb X n + 1)))) = 9) ↔ kS (xs X (bb X n)) (xb X (bb X n + 1)) = 4 := by rw [na_9, nI_eq (by omega) (by omega)]; exact k3
      generalize kS (xs X (bb X n)) (xb X (bb X n + 1)) = kk at k1 k2 k3 k4 g8 g9
      have fin : ∀ (E : Nat) (y : Int32), y = nI E → (if kk = 3 ∨ kk = 4 then bb X n + 2 else bb X n + 1) = E → ∃ i', (some (.inl none, mm_Z m w (mm_ww (mm_ww i1 83 42 (nI (rk kk))) 83 44 y) l e) : Option mm_R) = some (.inl none, mm_Z m w i' l e) ∧ KR i' (bb X n, (if kk = 3 ∨ kk = 4 then bb X n + 2 else bb X n + 1), kk) ∧ mG (fun k j => k = 83 ∧ 42 ≤ j ∧ j ≤ 45) i i' := fun E y hy hE => by
        refine ⟨_, rfl, ⟨?_, fun _ => ?_, ?_, ?_⟩, (hG1.tr (mG.ww ⟨rfl, by omega, by omega⟩)).tr (mG.ww ⟨rfl, by omega, by omega⟩)⟩
        · rw [mw_j (by omega), mw_j (by omega), s43]
        · rw [mw_s, hy]; dsimp only; rw [hE]
        · rw [mw_j (by omega), mw_s]
        · rw [mw_j (by omega), mw_j (by omega), s45, k1]; rfl
      by_cases z3 : kk = 3
      · rw [if_pos (g8.mpr z3)]
        exact fin (bb X n + 2) _ (by rw [na_2, nI_add]) (if_pos (Or.inl z3))
      · rw [if_neg (fun z => z3 (g8.mp z))]
        by_cases z4 : kk = 4
        · rw [if_pos (g9.mpr z4)]
          exact fin (bb X n + 2) _ (by rw [na_2, nI_add]) (if_pos (Or.inr z4))
        · rw [if_neg (fun z => z4 (g9.mp z))]
          exact fin (bb X n + 1) _ (nI_1 _) (if_neg (fun z => z.elim z3 z4))
  · have el : lx X n = (bb X n, bb X n, 0) := by unfold lx; rw [if_neg q]
    rw [if_neg q, if_neg (fun z => q ((nI_ltI (by omega) (by omega)).mp z))]
    refine ⟨_, rfl, ⟨?_, fun _ => ?_, ?_, ?_⟩, (hG1.tr (mG.ww ⟨rfl, by omega, by omega⟩)).tr (mG.ww ⟨rfl, by omega, by omega⟩)⟩
    · rw [mw_j (by omega), mw_j (by omega), s43, el]
    · rw [mw_s, el]
    · rw [mw_j (by omega), mw_s, el]; rfl
    · rw [mw_j (by omega), mw_j (by omega), s45, el]; rfl
end MM134
