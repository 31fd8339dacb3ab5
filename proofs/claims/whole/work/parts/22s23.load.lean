/-! COMPILING in the class -/
section MM152
variable {X : mX} {t : m3} {w p : Bool} {i i' i0 i1 : Nat → Nat → Int32} {l l' l0 l1 : Nat → Nat → Int64} {δ δ' : mQ} {π : mP} {m : Nat} {e : Bool × Nat × Nat} {n k s a b c r d : Nat} {x y v : Int32}
/-- what a text says: a fault's place, or a policy -/
def sPol (X : mX) : mE mP := eB (sAll X 1200 (lx X 0) d0) (fun δ => dCt δ (dSe δ))
theorem QW_se (hd : DW δ) : QW (dSe δ) := by
  obtain ⟨hN, hC, ⟨r1, r2, r3⟩, hA, hE⟩ := hd
  have c0 := hC.1
  exact ⟨hC.2.2.2.2.1, hC.2.2.2.2.2.1, fun k hk => ⟨(r1 k hk).1, (r1 k hk).2.1⟩, fun k hk => by have := r2 k hk; exact ⟨by show (pM (dP δ) k).1 < 24; omega, by show (pM (dP δ) k).2.1 < 24; omega, this.2.2.1, by show (pM (dP δ) k).2.2.2 < 24; omega⟩⟩
/-- policies that are taken are well-formed -/
theorem PW_se (hd : DW δ) (hc : dCt δ (dSe δ) = .inr π) : π = dSe δ ∧ PW π ∧ PO π := by
  have hq := QW_se hd
  unfold dCt at hc
  by_cases z1 : pNv (dSe δ) < pN (dSe δ) 4
  · rw [if_pos z1] at hc; cases hc
  · rw [if_neg z1] at hc
    by_cases z2 : pCv (dSe δ) < pN (dSe δ) 5
    · rw [if_pos z2] at hc; cases hc
    · rw [if_neg z2] at hc
      injection hc with hc
      subst hc
      obtain ⟨hN, hC, ⟨r1, r2, r3⟩, hA, hE⟩ := hd
      have no : ∀ b, b < pN (dSe δ) 5 → ∀ a, a < b → pCt (dSe δ) b a = false := by
        intro b hb a ha
        have h1 := tFst_no (fun b => tAny (fun a => pCt (dSe δ) b a) b 0) (pN (dSe δ) 5) 0 b (Nat.zero_le _) (by unfold pCv at z2; omega)
        have h2 : tAny (fun a => pCt (dSe δ) b a) b 0 = false := h1
        rw [cnt_any] at h2
        have h3 : tCnt (fun a => pCt (dSe δ) b a) b 0 = 0 := by
          by_cases y : tCnt (fun a => pCt (dSe δ) b a) b 0 = 0
          · exact y
          · rw [decide_eq_false y] at h2; cases h2
        cases hp : pCt (dSe δ) b a with
        | false => rfl
        | true => exact absurd h3 (cnt_pos b 0 a (Nat.zero_le _) (by omega) hp)
      refine ⟨rfl, ⟨hC.1, hC.2.1, hC.2.2.1, hC.2.2.2.1, hC.2.2.2.2.1, hC.2.2.2.2.2.1, hC.2.2.2.2.2.2, hq.2.2.1, hq.2.2.2, fun a b ha hb e1 e2 e3 => ?_, fun k hk => (r3 k hk).1⟩, fun k hk => oOk_se _ _ (r3 k hk).2.1⟩
      by_cases y : (pM (dSe δ) a).2.2.2 = (pM (dSe δ) b).2.2.2
      · exact y
      · exfalso
        rcases Nat.lt_trichotomy a b with u | u | u
        · have := no b hb a u
          unfold pCt at this
          rw [decide_eq_true ⟨e1.symm, e2.symm, e3.symm, fun q => y q.symm⟩] at this
          cases this
        · subst u; exact y rfl
        · have := no a ha b u
          unfold pCt at this
          rw [decide_eq_true ⟨e1, e2, e3, y⟩] at this
          cases this
/-- compile() -/
theorem c_compile (hX : XC X i) (hw : XW X) (hs : ST i) : ∃ x i' l', mm_V 2 0 [some (.ref 3), none, none] [] (mm_Z m w i l e) = some (.inl (some (.int x)), mm_Z m w i' l' e) ∧ mG (fP w) i i' ∧ lG fL l l' ∧ (match sPol X with
    | .inl p => x = nI p ∧ p ≤ 1200
    | .inr π => x = -1 ∧ PC (!w) i' π ∧ PW π ∧ PO π) := by
  have hp := mP_c (!w)
  obtain ⟨i1, f1, f2, f3, f4, f5⟩ := c_clear (m := m) (w := w) (i := i) (l := l) (e := e)
  have hG1 : mG (fP w) i (mm_ww (mm_ww i1 3 4 0) 28 2 0) := fun k j z => by
    unfold fP at z
    rw [mw_k (by omega), mw_k (by omega), f5 k j (by omega) (by omega) (by omega)]
  have hX1 : XC X (mm_ww (mm_ww i1 3 4 0) 28 2 0) := hX.fr hG1
  have hD1 : DC w (mm_ww (mm_ww i1 3 4 0) 28 2 0) l d0 := by
    refine ⟨⟨fun j hj => ?_, fun u hu => absurd hu (Nat.not_lt_zero u), fun u hu => absurd hu (Nat.not_lt_zero u), fun u hu => absurd hu (Nat.not_lt_zero u), fun u hu => absurd hu (Nat.not_lt_zero u)⟩, ⟨fun u hu => absurd hu (Nat.not_lt_zero u), fun z => absurd rfl z⟩, ⟨by rw [mw_k (by omega), mw_s]; rfl, fun u hu => absurd hu (Nat.not_lt_zero u)⟩, ⟨fun u hu => absurd hu (Nat.not_lt_zero u), fun u hu => absurd hu (Nat.not_lt_zero u)⟩, fun a ha => ?_⟩
    · rw [mw_k (by omega), mw_k (by omega), f2 j hj]; rfl
    · rw [mw_k (by omega), mw_k (by omega), f3 a ha]; rfl
  obtain ⟨i2, l2, g1, g2, g3, g4⟩ := xc_adv (m := m) (w := w) (l := l) (e := e) (n := 0) hX1 hw mw_s (Nat.zero_le _)
  have hG2 : mG (fP w) (mm_ww (mm_ww i1 3 4 0) 28 2 0) i2 := g3.mo (fun a b z => by unfold fP; omega)
  have hQ : CQ X w i l i2 l2 (lx X 0) d0 := ⟨⟨hX1.fr hG2, hw, ⟨0, Nat.zero_le _, rfl⟩, g2⟩, hD1.ku (fun k j z => g3 k j (by have := uC_in z; omega)) (fun j _ => g4 _ _ (by omega)), DW_0, (hs.fr hG1).fr hG2, hG1.tr hG2, g4.mo (fun a b z => Or.inl z)⟩
  have h18 : i2 (mm_P (!w)) 18 = nI (dC d0) := by rw [fr_P g3, mw_k (by omega), mw_k (by omega), f4]; rfl
  rw [mr_2_0, f1, mb_l, mb_0, mr_2_7, mr_131_0, g1, mb_l, mb_0, mr_131_9, mb_l, mb_0, mr_2_19]
  unfold sPol
  rcases c_all (m := m) (e := e) 1200 0 (lx X 0) d0 i2 l2 none hQ h18 (Nat.zero_le _) rfl with ⟨pp, i3, l3, a1, a2, a3⟩ | ⟨δ, x', u', i3, l3, a1, a2, a3⟩
  · have a2 : mm_V 2 21 [some (.ref 3), some (.int 0), none] [] (mm_Z m w i2 l2 e) = some (.inl (some (.int (nI pp))), mm_Z m w i3 l3 e) := a2
    rw [a2, a1]
    exact ⟨_, i3, l3, rfl, a3.2.1, a3.2.2.1, rfl, a3.2.2.2⟩
  · have a2 : mm_V 2 21 [some (.ref 3), some (.int 0), none] [] (mm_Z m w i2 l2 e) = mm_V 2 188 [some (.ref 3), some (.int x'), u'] [] (mm_Z m w i3 l3 e) := a2
    obtain ⟨i4, b1, b2, b3, b4⟩ := c_settle (m := m) (e := e) a3
    rw [a2, mr_2_188, b1, mb_l, mb_0, mr_2_195, c_ctd b2.1 (QW_se a3.2.1) b3 rfl rfl, mb_l, mb_v, mr_2_199, a1, eB_r]
    refine ⟨_, i4, l3, rfl, a3.2.2.2.2.2.1.tr b4, a3.2.2.2.2.2.2, ?_⟩
    cases hc : dCt δ (dSe δ) with
    | inl q =>
      refine ⟨rfl, ?_⟩
      unfold dCt at hc
      by_cases z1 : pNv (dSe δ) < pN (dSe δ) 4
      · rw [if_pos z1] at hc
        injection hc with hc
        rw [← hc]
        exact a3.2.1.2.2.2.2.2.1 _ z1
      · rw [if_neg z1] at hc
        by_cases z2 : pCv (dSe δ) < pN (dSe δ) 5
        · rw [if_pos z2] at hc
          injection hc with hc
          rw [← hc]
          exact a3.2.1.2.2.2.2.2.2 _ z2
        · rw [if_neg z2] at hc; cases hc
    | inr q =>
      obtain ⟨c1, c2, c3⟩ := PW_se a3.2.1 hc
      refine ⟨rfl, ?_, c2, c3⟩
      rw [c1]; exact b2
end MM152
