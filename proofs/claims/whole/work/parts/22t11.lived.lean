/-! LOAD: what stays true -/
section MM187
variable {X K : mX} {w : Bool} {i i' : Nat → Nat → Int32} {l l' : Nat → Nat → Int64} {m : Nat} {e : Bool × Nat × Nat} {n k j b : Nat} {x x1 : Int32} {π π' : mP} {ψ : mS} {τ : mT} {η : mH} {κ : mK} {o : mOl}
theorem zN_ct {o : Nat} : hCt (hNew zH) o = 0 := zH_ct
theorem iv_zS (hp : PW π) (ho : PO π) (hv : pVal π 0 = true) : IV π b zS := by
  have c0 : ∀ o, hCt (hNew zH) o ≠ 0 → False := fun o z => z zN_ct
  have t0 : ∀ n, 1 ≤ n → tk zT1 n = 0 := fun n hn => if_neg (by omega)
  have hT : TI zT1 := ⟨zT1w, fun n _ _ a b ha => absurd ha (Nat.not_lt_zero _), fun n h1 _ h2 => absurd h2 (by rw [t0 n h1]; decide), ⟨fun n h1 _ h2 => absurd h2 (by rw [t0 n h1]; decide), fun d _ _ k hk => absurd hk (Nat.not_lt_zero _), rfl⟩⟩
  have hV : TV π zT1 := ⟨fun n _ _ => hv, fun n k => by show (0 : Int32) ≠ -1; decide⟩
  refine ⟨hT, hV, ⟨fun n h1 _ h2 => absurd (t0 n h1) h2, fun o _ z => (c0 o z).elim⟩, ⟨fun p _ => ⟨?_, fun _ _ _ => rfl⟩, fun k _ => Nat.zero_le _, fun o _ z => (c0 o z).elim, fun k _ => ⟨by show (0 : Nat) < 2 ^ 30; decide, Nat.zero_le _, fun z => absurd rfl z⟩⟩, ⟨fun p _ z => ?_, fun o _ z => (c0 o z).elim, fun k _ z => absurd rfl z⟩, JV.nil hT hV, ⟨⟨by decide, by decide, rfl, by decide, List.nodup_nil⟩, Nat.zero_le _, List.nodup_nil, fun x hx => absurd hx (List.not_mem_nil)⟩, ⟨hp, ho⟩, fun o _ z => (c0 o z).elim⟩
  · show (if p = 0 then 1 else 0) < 2 ^ 30
    split <;> decide
  · have z : (if p = 0 then 1 else 0) ≠ 0 := z
    by_cases q : p = 0
    · subst q; exact hv
    · rw [if_neg q] at z; exact absurd rfl z
theorem iv_yL (hI : IV π b ψ) (hp : PW π') (ho : PO π') (hv : aVd π' (yT ψ) (yH ψ) = true) : IV π' b (yL ψ) := by
  unfold aVd at hv
  rw [Bool.and_eq_true, Bool.and_eq_true, Bool.and_eq_true, tAl_iff, tAl_iff, tAl_iff, tAl_iff] at hv
  obtain ⟨v1, v2, v3, v4⟩ := hv
  have hV : TV π' (yT ψ) := ⟨fun n hn ht => by
    have := v1 n (by omega) (by omega)
    unfold vT at this
    rw [decide_eq_false ht, Bool.false_or] at this
    exact this, hI.tv.2⟩
  refine ⟨hI.ti, hV, hI.th, hI.hw, ⟨fun p hp ht => ?_, fun o ho hc => ?_, fun k hk hc => ?_⟩, JV.nil hI.ti hV, hI.kv.em, ⟨hp, ho⟩, hI.hm⟩
  · have := v2 p (by omega) (by omega)
    unfold vPr at this
    have ht : hP (yH ψ) p ≠ 0 := ht
    rw [decide_eq_false ht, Bool.false_or, nz_s ht] at this
    exact this
  · have := v3 o (by omega) (by omega)
    unfold vOp at this
    have hc : hCt (yH ψ) o ≠ 0 := hc
    rw [decide_eq_false hc, Bool.false_or] at this
    exact this
  · have := v4 k (by omega) (by omega)
    unfold vCn at this
    have hc : hC (yH ψ) k ≠ 0 := hc
    rw [decide_eq_false hc, Bool.false_or, nz_s hc] at this
    exact this
theorem ov_ld (hw : XW X) (hv : OV b o) (hP : ∀ π, sPol X = .inr π → PW π ∧ PO π) : OV b (wLd X o).2 := by
  unfold wLd
  cases hs : sPol X with
  | inl p => exact hv
  | inr π =>
    obtain ⟨p1, p2⟩ := hP π hs
    cases o with
    | none =>
      simp only
      by_cases z : pVal π 0 = true
      · rw [if_pos z]; exact ⟨iv_zS p1 p2 z, hw, hs, z⟩
      · rw [if_neg z]; trivial
    | some q =>
      simp only
      by_cases z : (pVal π 0 && aVd π (yT q.2.2) (yH q.2.2)) = true
      · rw [if_pos z]; exact ⟨iv_yL hv.1 p1 p2 ((Bool.and_eq_true _ _).mp z).2, hw, hs, ((Bool.and_eq_true _ _).mp z).1⟩
      · rw [if_neg z]; exact hv
end MM187
