/-! A PROCESS STOPS, in the class -/
section MM91
variable {w : Bool} {l : Nat → Nat → Int64} {e : Bool × Nat × Nat} {η : mH} {τ : mT} {m p h o q : Nat}
/-- the first n handles of p go -/
def hUm (η : mH) (p n : Nat) : mH := (hP η, fun k => if 6 * p ≤ k ∧ k < 6 * p + n then 0 else hH η k, hO η, hC η, hS η, hB η)
theorem hUm_0 : hUm η p 0 = η := by
  have : (fun k => if 6 * p ≤ k ∧ k < 6 * p + 0 then 0 else hH η k) = hH η := by
    funext k; rw [if_neg (by omega)]
  show (_, _, _, _, _, _) = η
  rw [this]
  rfl
theorem hUm_s (n : Nat) : hUn (hUm η p n) (6 * p + n) = hUm η p (n + 1) := by
  have : va_up (fun k => if 6 * p ≤ k ∧ k < 6 * p + n then 0 else hH η k) (6 * p + n) 0 = (fun k => if 6 * p ≤ k ∧ k < 6 * p + (n + 1) then 0 else hH η k) := by
    funext k
    by_cases z : k = 6 * p + n
    · rw [z, up_s, if_pos (by omega)]
    · rw [up_n z]
      by_cases y : 6 * p ≤ k ∧ k < 6 * p + n
      · rw [if_pos y, if_pos (by omega)]
      · rw [if_neg y, if_neg (by omega)]
  show (_, _, _, _, _, _) = (_, _, _, _, _, _)
  rw [← this]
  rfl
/-- fewer handles, fewer tellers -/
theorem cnt_mono {f g : Nat → Bool} : ∀ (d k : Nat), (∀ j, f j = true → g j = true) → tCnt f d k ≤ tCnt g d k
  | 0, _, _ => Nat.le_refl _
  | d + 1, k, h => by
    have ih := cnt_mono d (k + 1) h
    rw [tCnt, tCnt]
    cases hf : f k
    · simp only [Bool.false_eq_true, if_false]; omega
    · rw [h k hf]; simp only [if_true]; omega
theorem hUn_le (k y : Nat) : hCt (hUn η k) y ≤ hCt η y := cnt_mono 48 0 (fun j hj => by
  have hj : (va_up (hH η) k 0 j == y + 1) = true := hj
  by_cases z : j = k
  · rw [z, up_s] at hj; simp at hj
  · rw [up_n z] at hj; exact hj)
theorem hUm_le (n y : Nat) : hCt (hUm η p n) y ≤ hCt η y := cnt_mono 48 0 (fun j hj => by
  have hj : ((if 6 * p ≤ j ∧ j < 6 * p + n then 0 else hH η j) == y + 1) = true := hj
  by_cases z : 6 * p ≤ j ∧ j < 6 * p + n
  · rw [if_pos z] at hj; simp at hj
  · rw [if_neg z] at hj; exact hj)
theorem he_mono {η η' : mH} (h1 : ∀ y, hCt η' y ≤ hCt η y) (h2 : ∀ y, hO η' y = hO η y) {n : Nat} (h : hHe η' n = true) : hHe η n = true := by
  obtain ⟨o, a, b, c, d⟩ := (he_iff η' n).mp h
  have := h1 o
  exact (he_iff η n).mpr ⟨o, a, by omega, by rw [← h2]; exact c, by rw [← h2]; exact d⟩
theorem lv_mono {η η' : mH} (h1 : ∀ y, hCt η' y ≤ hCt η y) (h2 : ∀ y, hO η' y = hO η y) {n : Nat} (h : hLv η' n = true) : hLv η n = true := by
  obtain ⟨o, a, b, c, d⟩ := (lv_iff η' n).mp h
  have := h1 o
  exact (lv_iff η n).mpr ⟨o, a, by omega, by rw [← h2]; exact c, by rw [← h2]; exact d⟩
theorem cl_un (k : Nat) : hCl (hUn (hCl η) k) = hCl (hUn η k) := by
  have : (fun j => if j < 4 ∧ hLv (hUn (hCl η) k) j = false then 0 else hC (hCl η) j) = (fun j => if j < 4 ∧ hLv (hUn η k) j = false then 0 else hC η j) := by
    funext j
    have e1 : hLv (hUn (hCl η) k) j = hLv (hUn η k) j := rfl
    have e2 : hC (hCl η) j = if j < 4 ∧ hLv η j = false then 0 else hC η j := rfl
    rw [e1, e2]
    by_cases y : j < 4 ∧ hLv (hUn η k) j = false
    · rw [if_pos y, if_pos y]
    · rw [if_neg y, if_neg y, if_neg]
      intro z
      refine y ⟨z.1, ?_⟩
      cases hq : hLv (hUn η k) j
      · rfl
      · have := lv_mono (η := η) (η' := hUn η k) (hUn_le k) (fun _ => rfl) hq
        rw [z.2] at this; cases this
  exact congrArg (fun f => ((hP η, va_up (hH η) k 0, hO η, f, hS η, hB η) : mH)) this
theorem HWw_un {k : Nat} (hw : HWw η) : HWw (hUn η k) := by
  obtain ⟨a, b, c, d⟩ := hw
  refine ⟨fun p hp => ⟨(a p hp).1, fun z h hh => ?_⟩, fun j hj => ?_, fun o ho z => c o ho (by have := hUn_le (η := η) k o; omega), d⟩
  · show va_up (hH η) k 0 (6 * p + h) = 0
    by_cases y : 6 * p + h = k
    · rw [y, up_s]
    · rw [up_n y]; exact (a p hp).2 z h hh
  · show va_up (hH η) k 0 j ≤ 16
    by_cases y : j = k
    · rw [y, up_s]; omega
    · rw [up_n y]; exact b j hj
theorem TH_go (hT : TE τ) (hw : TW τ) (h0 : tk τ 0 ≤ 2) (hW : HWw η) (hr : tk τ 0 ≠ 0) (h2 : ∀ o, o < 16 → hCt η o ≠ 0 → (hO η o).1 = false → tk τ (hO η o).2.1 ≠ 0) : TH (tGo (hHe η) τ) (hCl η) := by
  have e0 : ∀ n, tk (tGo (hHe η) τ) n = if 1 ≤ n ∧ n < 32 ∧ tk τ n ≠ 0 ∧ tL τ n = 0 ∧ hHe η n = false then 0 else tk τ n := fun _ => rfl
  constructor
  · intro n n1 n2 n3 n4
    rw [tL_go hT hw h0] at n4
    rw [e0] at n3
    show hHe η n = true
    cases hq : hHe η n
    · by_cases c : 1 ≤ n ∧ n < 32 ∧ tk τ n ≠ 0 ∧ tL τ n = 0 ∧ hHe η n = false
      · rw [if_pos c] at n3; exact absurd rfl n3
      · rw [if_neg c] at n3; exact absurd ⟨n1, n2, n3, n4, hq⟩ c
    · rfl
  · intro o ho z y
    have z : hCt η o ≠ 0 := z
    have y : (hO η o).1 = false := y
    show tk (tGo (hHe η) τ) (hO η o).2.1 ≠ 0
    have hh : hHe η (hO η o).2.1 = true := (he_iff η _).mpr ⟨o, ho, z, y, rfl⟩
    rw [e0, if_neg (fun q => by rw [hh] at q; cases q.2.2.2.2)]
    exact h2 o ho z y
theorem tw_go {f : Nat → Bool} (hw : TW τ) : TW (tGo f τ) := by
  intro n hn
  obtain ⟨g1, g2, g3⟩ := hw n hn
  have e0 : tk (tGo f τ) n = if 1 ≤ n ∧ n < 32 ∧ tk τ n ≠ 0 ∧ tL τ n = 0 ∧ f n = false then 0 else tk τ n := rfl
  refine ⟨?_, g2, fun z => ?_⟩
  · rw [e0]; split <;> omega
  · rw [e0] at z
    refine g3 ?_
    split at z
    · omega
    · exact z
/-- the handles of p go, one after another -/
theorem hc_stop_loop (hT : TE τ) (hTw : TW τ) (h0 : tk τ 0 = 2) (hW : HWw η) (hp : p < 8) (h2 : ∀ o, o < 16 → hCt η o ≠ 0 → (hO η o).1 = false → tk τ (hO η o).2.1 ≠ 0) : ∀ (D n : Nat) (i : Nat → Nat → Int32), n + D = 6 → HC i (hCl (hUm η p n)) → HWw (hUm η p n) → TC true i (tGo (hHe (hUm η p n)) τ) → ∃ i', mm_V 81 2 [some (.ref 68), some (.int (nI p)), some (.int (nI n))] [] (mm_Z m w i l e) = some (.inl none, mm_Z m w (mm_ww i' 69 p (-1)) l e) ∧ HC i' (hCl (hUm η p 6)) ∧ HWw (hUm η p 6) ∧ TC true i' (tGo (hHe (hUm η p 6)) τ) ∧ (∀ q, q ≠ 58 → q ≠ 70 → q ≠ 71 → q ≠ 77 → i' q = i q)
  | 0, n, i, hn, H, hwn, hC => by
    have hn : n = 6 := by omega
    subst hn
    refine ⟨i, ?_, H, hwn, hC, fun _ _ _ _ _ => rfl⟩
    rw [mr_81_2, na_6, if_neg (by rw [nI_ltI (by omega) (by omega)]; omega), if_neg (no_out hp (by omega)), nI_clamp (by omega)]
  | D + 1, n, i, hn, H, hwn, hC => by
    have hk : 6 * p + n < 48 := by omega
    have le0 : tk τ 0 ≤ 2 := by omega
    have hwC := hwn.cl
    rw [mr_81_2, na_6, if_pos ((nI_ltI (by omega) (by omega)).mpr (by omega))]
    by_cases z : hH (hCl (hUm η p n)) (6 * p + n) = 0
    · -- nothing there
      have eS : hUm η p (n + 1) = hUm η p n := by
        rw [← hUm_s]
        have z : hH (hUm η p n) (6 * p + n) = 0 := z
        have : va_up (hH (hUm η p n)) (6 * p + n) 0 = hH (hUm η p n) := by
          funext k
          by_cases y : k = 6 * p + n
          · rw [y, up_s, z]
          · rw [up_n y]
        show (_, _, _, _, _, _) = hUm η p n
        rw [this]
        rfl
      have e71 : mm_V 71 0 [some (.ref 68), some (.int (nI p)), some (.int (nI n)), none] [] (mm_Z m w i l e) = some (.inl none, mm_Z m w i l e) := by
        rw [mr_71_0, hc_opening H hp (by omega), z, mb_l, mb_v, mr_71_6, if_pos (by decide)]
      rw [e71, mb_l, mb_0, mr_81_14, nI_1]
      exact hc_stop_loop hT hTw h0 hW hp h2 D (n + 1) i (by omega) (by rw [eS]; exact H) (by rw [eS]; exact hwn) (by rw [eS]; exact hC)
    · have hTE := TE_go (f := hHe (hUm η p n)) hT hTw le0
      have hTH : TH (tGo (hHe (hUm η p n)) τ) (hCl (hUm η p n)) := TH_go hT hTw le0 hwn (by omega) (fun o ho y1 y2 => h2 o ho (by have := hUm_le (η := η) (p := p) n o; have y1 : hCt (hUm η p n) o ≠ 0 := y1; omega) y2)
      obtain ⟨i1, a1, a2, a3, a4⟩ := hc_release (m := m) (w := w) (l := l) (e := e) H hwC hC (tw_go hTw) hp (by omega) z
      rw [rl_hold hwC hk z, cl_un, hUm_s] at a2
      rw [rl_tree hwC hk z hTE hTH] at a3
      have eH : hHe (hUn (hCl (hUm η p n)) (6 * p + n)) = hHe (hUm η p (n + 1)) := by
        rw [← hUm_s]; rfl
      rw [eH, go_go hT hTw le0 (fun x hx => by
        rw [← hUm_s] at hx
        exact he_mono (hUn_le _) (fun _ => rfl) hx)] at a3
      have hw1 : HWw (hUm η p (n + 1)) := by rw [← hUm_s]; exact HWw_un hwn
      obtain ⟨i2, b1, b2, b3, b4, b5⟩ := hc_stop_loop hT hTw h0 hW hp h2 D (n + 1) i1 (by omega) a2 hw1 a3
      refine ⟨i2, ?_, b2, b3, b4, fun q q1 q2 q3 q4 => by rw [b5 q q1 q2 q3 q4, a4 q q1 q2 q3 q4]⟩
      rw [a1, mb_l, mb_0, mr_81_14, nI_1]
      exact b1
end MM91
