/-! THE REPLAY agrees with the tree now -/
section MM96
variable {τ σ ρ : mT} {π : mP}
/-- what is there in τ is so in ρ; what isn't there is no directory with entries -/
def RP (τ ρ : mT) : Prop := ∀ n, n < 32 → (tk τ n ≠ 0 → tk ρ n = tk τ n) ∧ (tk τ n = 2 → ts ρ n = ts τ n ∧ ∀ k, k < ts τ n → tm ρ n k = tm τ n k ∧ td ρ n k = td τ n k) ∧ (tk τ n = 0 → tk ρ n = 2 → ts ρ n = 0)
theorem RP.rf : RP τ τ := fun _ _ => ⟨fun _ => rfl, fun _ => ⟨rfl, fun _ _ => ⟨rfl, rfl⟩⟩, fun h1 h2 => by omega⟩
theorem RP.k2 (h : RP τ ρ) {n : Nat} (hn : n < 32) (h2 : tk τ n = 2) : tk ρ n = 2 := by rw [(h n hn).1 (by omega)]; exact h2
theorem rp_L (h : RP τ ρ) (y : Nat) : tL ρ y = tL τ y := L_cg (fun j hj => by
  obtain ⟨h1, h2, h3⟩ := h j hj
  unfold tLd
  by_cases q : tk τ j = 2
  · rw [if_pos q, if_pos (h.k2 hj q), (h2 q).1]
    exact cnt_cong _ _ (fun k _ hk => by rw [((h2 q).2 k (by omega)).2])
  · rw [if_neg q]
    by_cases z : tk τ j = 0
    · by_cases y : tk ρ j = 2
      · rw [if_pos y, h3 z y]; rfl
      · rw [if_neg y]
    · rw [if_neg (by rw [h1 z]; exact q)])
theorem rp_E (h : RP τ ρ) {d name : Nat} (hd : d < 32) (h2 : tk τ d = 2) : tE ρ d name = tE τ d name := (tE_cong ((h d hd).2.1 h2).1.symm (fun k hk => (((h d hd).2.1 h2).2 k hk).1.symm)).symm
theorem rp_ok (h : RP τ ρ) (hT : TI τ) {q : mD} (ho : tOk τ q) (hd : dOk π τ q) : tOk ρ q ∧ dOk π ρ q := by
  obtain ⟨k, a, v, c, d, e⟩ := q
  rcases k with _ | _ | _ | _ | _ | _ | _ | k
  · obtain ⟨p1, p2, p3, p4, p5, p6, p7, p8, p9⟩ := ho
    obtain ⟨d1, d2, d3⟩ := hd
    have hs := ((h c p3).2.1 p4).1
    exact ⟨⟨p1, p2, p3, h.k2 p3 p4, p5, by rw [hs]; exact p6, p7, p8, by rw [rp_E h p3 p4, hs]; exact p9⟩, by rw [rp_L h]; exact d1, by rw [rp_L h]; exact d2, d3⟩
  · obtain ⟨p1, p2, p3, p4, p5, p6, p7, p8, p9⟩ := ho
    obtain ⟨d1, d2, d3⟩ := hd
    have hs := ((h c p3).2.1 p4).1
    exact ⟨⟨p1, p2, p3, h.k2 p3 p4, p5, by rw [hs]; exact p6, p7, p8, by rw [rp_E h p3 p4, hs]; exact p9⟩, by rw [rp_L h]; exact d1, by rw [rp_L h]; exact d2, d3⟩
  · obtain ⟨p1, p2⟩ := ho
    exact ⟨⟨p1, by rw [(h a p1).1 (by omega)]; exact p2⟩, trivial⟩
  · obtain ⟨p1, p2, p3⟩ := ho
    exact ⟨⟨p1, by rw [(h a p1).1 (by omega)]; exact p2, p3⟩, hd⟩
  · exact ⟨ho, hd⟩
  · obtain ⟨p1, p2, p3, p4, p5, p6, p7, p8⟩ := ho
    obtain ⟨d1, d2⟩ := hd
    have hs := ((h a p1).2.1 p2).1
    exact ⟨⟨p1, h.k2 p1 p2, by rw [hs]; exact p3, p4, p5, by rw [rp_E h p1 p2, hs]; exact p6, p7, p8⟩, by rw [(h c p8).1 (by omega)]; exact d1, by rw [rp_L h]; exact d2⟩
  · obtain ⟨p1, p2, p3, p4, p5⟩ := ho
    have hs := ((h a p1).2.1 p2).1
    have he := (((h a p1).2.1 p2).2 _ p5).2
    have hn := hT.2.2.2.2.1 a p1 p2 _ p5
    have hb := (((hT.1 a p1).2.2 p2).2 _ p5).2.2.2
    refine ⟨⟨p1, h.k2 p1 p2, p3, p4, by rw [rp_E h p1 p2, hs]; exact p5⟩, ?_⟩
    show tk ρ (td ρ a (tE ρ a d)) = 2 → ts ρ (td ρ a (tE ρ a d)) = 0
    rw [rp_E h p1 p2, he, (h _ hb).1 hn]
    intro z
    rw [((h _ hb).2.1 z).1]
    exact hd z
  · obtain ⟨p1, p2, p3, p4, p5, p6, p7, p8, p9, p10, p11⟩ := ho
    obtain ⟨d1, d2⟩ := hd
    have hs := ((h a p1).2.1 p2).1
    have hc := ((h c p6).2.1 p7).1
    have he := (((h a p1).2.1 p2).2 _ p5).2
    refine ⟨⟨p1, h.k2 p1 p2, p3, p4, by rw [rp_E h p1 p2, hs]; exact p5, p6, h.k2 p6 p7, by rw [hc]; exact p8, p9, p10, by rw [rp_E h p6 p7, hc]; exact p11⟩, ?_⟩
    show c ≠ td ρ a (tE ρ a d) ∧ (c = 0 ∨ tL ρ c ≠ 0)
    rw [rp_E h p1 p2, he, rp_L h]
    exact ⟨d1, d2⟩
theorem rp_mk {a c : Nat} {v : Int32} (h : RP τ ρ) (hc : c ≠ 0) : RP (tMk τ a c v) (tMk ρ a c v) := by
  intro n hn
  obtain ⟨h1, h2, h3⟩ := h n hn
  by_cases q : n = a
  · subst q
    simp only [tk_tMk, ts_tMk, up_s]
    exact ⟨fun _ => trivial, fun _ => ⟨trivial, fun k hk => by omega⟩, fun z => absurd z hc⟩
  · simp only [tk_tMk, ts_tMk, tm_tMk, td_tMk, up_n q]
    exact ⟨h1, h2, h3⟩
theorem rp_ad {d name x : Nat} (h : RP τ ρ) (hd : d < 32) (h2 : tk τ d = 2) : RP (tAd τ d name x) (tAd ρ d name x) := by
  intro n hn
  obtain ⟨h1, g2, h3⟩ := h n hn
  have hs := ((h d hd).2.1 h2)
  by_cases q : n = d
  · subst q
    simp only [tk_tAd, ts_tAd, tm_tAd, td_tAd, up_s]
    refine ⟨h1, fun _ => ⟨by rw [hs.1], fun k hk => ?_⟩, fun z => by omega⟩
    rw [hs.1]
    by_cases z : k = ts τ n
    · subst z; simp only [up_s]; exact ⟨trivial, trivial⟩
    · simp only [up_n z]; exact hs.2 k (by omega)
  · simp only [tk_tAd, ts_tAd, tm_tAd, td_tAd, up_n q]
    exact ⟨h1, g2, h3⟩
theorem rp_rm {d a : Nat} (h : RP τ ρ) (hd : d < 32) (h2 : tk τ d = 2) : RP (tRm τ d a) (tRm ρ d a) := by
  intro n hn
  obtain ⟨h1, g2, h3⟩ := h n hn
  have hs := ((h d hd).2.1 h2)
  by_cases q : n = d
  · subst q
    simp only [tk_tRm, ts_tRm, tm_tRm, td_tRm, up_s]
    refine ⟨h1, fun _ => ⟨by rw [hs.1], fun k hk => ?_⟩, fun z => by omega⟩
    by_cases z : k < a
    · simp only [if_pos z]; exact hs.2 k (by omega)
    · simp only [if_neg z]; exact hs.2 (k + 1) (by omega)
  · simp only [tk_tRm, ts_tRm, tm_tRm, td_tRm, up_n q]
    exact ⟨h1, g2, h3⟩
theorem rp_do (h : RP τ ρ) {q : mD} (ho : tOk τ q) : RP (tDo τ q) (tDo ρ q) := by
  obtain ⟨k, a, v, c, d, e⟩ := q
  rcases k with _ | _ | _ | _ | _ | _ | _ | k
  · obtain ⟨p1, p2, p3, p4, p5, p6, p7, p8, p9⟩ := ho
    exact rp_ad (rp_mk h (by omega)) p3 (by rw [tk_tMk, up_n (Ne.symm p5)]; exact p4)
  · obtain ⟨p1, p2, p3, p4, p5, p6, p7, p8, p9⟩ := ho
    exact rp_ad (rp_mk h (by omega)) p3 (by rw [tk_tMk, up_n (Ne.symm p5)]; exact p4)
  · obtain ⟨p1, p2⟩ := ho
    show RP (tEm τ a) (tEm ρ a)
    intro n hn
    obtain ⟨h1, g2, h3⟩ := h n hn
    by_cases q : n = a
    · subst q
      simp only [tk_tEm, ts_tEm, up_s]
      exact ⟨h1, fun z => by omega, fun z => by omega⟩
    · simp only [tk_tEm, ts_tEm, tm_tEm, td_tEm, up_n q]
      exact ⟨h1, g2, h3⟩
  · obtain ⟨p1, p2, p3⟩ := ho
    show RP (tWr τ a c v) (tWr ρ a c v)
    intro n hn
    obtain ⟨h1, g2, h3⟩ := h n hn
    by_cases q : n = a
    · subst q
      simp only [tk_tWr, ts_tWr, up_s]
      exact ⟨h1, fun z => by omega, fun z => by omega⟩
    · simp only [tk_tWr, ts_tWr, tm_tWr, td_tWr, up_n q]
      exact ⟨h1, g2, h3⟩
  · exact h
  · obtain ⟨p1, p2, p3, p4, p5, p6, p7, p8⟩ := ho
    exact rp_ad h p1 p2
  · obtain ⟨p1, p2, p3, p4, p5⟩ := ho
    show RP (tRm τ a (tE τ a d)) (tRm ρ a (tE ρ a d))
    rw [rp_E h p1 p2]
    exact rp_rm h p1 p2
  · obtain ⟨p1, p2, p3, p4, p5, p6, p7, p8, p9, p10, p11⟩ := ho
    show RP (tAd (tRm τ a (tE τ a d)) c e (td τ a (tE τ a d))) (tAd (tRm ρ a (tE ρ a d)) c e (td ρ a (tE ρ a d)))
    rw [rp_E h p1 p2, (((h a p1).2.1 p2).2 _ p5).2]
    exact rp_ad (rp_rm h p1 p2) p6 p7
theorem rp_go {f : Nat → Bool} (h : RP τ ρ) (hE : TE τ) : RP (tGo f τ) ρ := by
  intro n hn
  obtain ⟨h1, h2, h3⟩ := h n hn
  show ((if 1 ≤ n ∧ n < 32 ∧ tk τ n ≠ 0 ∧ tL τ n = 0 ∧ f n = false then 0 else tk τ n) ≠ 0 → tk ρ n = (if 1 ≤ n ∧ n < 32 ∧ tk τ n ≠ 0 ∧ tL τ n = 0 ∧ f n = false then 0 else tk τ n)) ∧ ((if 1 ≤ n ∧ n < 32 ∧ tk τ n ≠ 0 ∧ tL τ n = 0 ∧ f n = false then 0 else tk τ n) = 2 → ts ρ n = ts τ n ∧ ∀ k, k < ts τ n → tm ρ n k = tm τ n k ∧ td ρ n k = td τ n k) ∧ ((if 1 ≤ n ∧ n < 32 ∧ tk τ n ≠ 0 ∧ tL τ n = 0 ∧ f n = false then 0 else tk τ n) = 0 → tk ρ n = 2 → ts ρ n = 0)
  split
  · rename_i q
    refine ⟨fun z => absurd rfl z, fun z => by omega, fun _ z => ?_⟩
    rw [h1 q.2.2.1] at z
    rw [(h2 z).1]
    exact hE n q.1 q.2.1 z q.2.2.2.1
  · exact ⟨h1, h2, h3⟩
def dOks (π : mP) : mT → List mD → Prop
  | _, [] => True
  | σ, q :: Q => (tOk σ q ∧ dOk π σ q) ∧ dOks π (tDo σ q) Q
theorem dOks_t : ∀ {σ : mT} {Q : List mD}, dOks π σ Q → tOks σ Q
  | _, [], _ => trivial
  | _, _ :: _, h => ⟨h.1.1, dOks_t h.2⟩
theorem dOks_app : ∀ {σ : mT} {Q : List mD} {q : mD}, dOks π σ Q → tOk (tRun σ Q) q → dOk π (tRun σ Q) q → dOks π σ (Q ++ [q])
  | _, [], _, _, h1, h2 => ⟨⟨h1, h2⟩, trivial⟩
  | _, _ :: _, _, h, h1, h2 => ⟨h.1, dOks_app h.2 h1 h2⟩
theorem dOks_take : ∀ {σ : mT} {Q : List mD} (n : Nat), dOks π σ Q → dOks π σ (Q.take n)
  | _, [], n, _ => by rw [List.take_nil]; trivial
  | _, _ :: _, 0, _ => trivial
  | _, _ :: _, n + 1, h => ⟨h.1, dOks_take n h.2⟩
theorem tv_do (h : TV π τ) {q : mD} (ho : tOk τ q) (hd : dOk π τ q) : TV π (tDo τ q) := by
  obtain ⟨h, hb⟩ := h
  obtain ⟨k, a, v, c, d, e⟩ := q
  have mk : ∀ c, pVal π v = true → TV π (tMk τ a c v) := fun c hv => ⟨fun n hn hk => by
    rw [tc_tMk]
    by_cases q : n = a
    · subst q; rw [up_s]; exact hv
    · rw [up_n q]; rw [tk_tMk, up_n q] at hk; exact h n hn hk, hb⟩
  rcases k with _ | _ | _ | _ | _ | _ | _ | k
  · exact mk 1 hd.2.2
  · exact mk 2 hd.2.2
  · exact ⟨h, hb⟩
  · refine ⟨h, fun n k => ?_⟩
    have hd : v ≠ -1 := hd
    show tb (tWr τ a c v) n k ≠ -1
    rw [tb_tWr]
    by_cases q : n = a
    · subst q
      rw [up_s]
      split
      · exact hd
      · split
        · decide
        · exact hb _ _
    · rw [up_n q]; exact hb _ _
  · refine ⟨fun n hn hk => ?_, hb⟩
    show pVal π (tc (tRl τ a v) n) = true
    rw [tc_tRl]
    by_cases q : n = a
    · subst q; rw [up_s]; exact hd
    · rw [up_n q]; exact h n hn hk
  · exact ⟨h, hb⟩
  · exact ⟨h, hb⟩
  · exact ⟨h, hb⟩
theorem ti_run : ∀ {σ : mT} {Q : List mD}, TI σ → TV π σ → dOks π σ Q → TI (tRun σ Q) ∧ TV π (tRun σ Q)
  | _, [], h, hv, _ => ⟨h, hv⟩
  | s, q :: Q, h, hv, ho => by
    show TI (tRun (tDo s q) Q) ∧ TV π (tRun (tDo s q) Q)
    exact ti_run (ti_do h ho.1.1 ho.1.2) (tv_do hv ho.1.1 ho.1.2) ho.2
theorem ti_go {f : Nat → Bool} (h : TI τ) : TI (tGo f τ) := by
  obtain ⟨hW, hN, hE, hL⟩ := h
  have hl : ∀ y, tL (tGo f τ) y = tL τ y := fun y => tL_go hE hW (by rw [hL.2.2]; omega) y
  have hk : ∀ n, tk (tGo f τ) n = if 1 ≤ n ∧ n < 32 ∧ tk τ n ≠ 0 ∧ tL τ n = 0 ∧ f n = false then 0 else tk τ n := fun _ => rfl
  have hk2 : ∀ n, tk (tGo f τ) n ≠ 0 → tk τ n = tk (tGo f τ) n := fun n z => by
    rw [hk] at z ⊢
    split at z
    · omega
    · rename_i q; rw [if_neg q]
  refine ⟨tw_go hW, ?_, TE_go hE hW (by rw [hL.2.2]; omega), ?_, ?_, ?_⟩
  · intro n hn hz
    exact hN n hn (by rw [hk2 n (by omega)]; exact hz)
  · intro n h1 h2 h3
    rw [hl]
    exact hL.1 n h1 h2 (by rw [hk2 n (by omega)]; exact h3)
  · intro d hd h2 k hkk
    have h2' : tk τ d = 2 := by rw [hk2 d (by omega)]; exact h2
    have hb := (((hW d hd).2.2 h2').2 k hkk)
    have hn := hL.2.1 d hd h2' k hkk
    show tk (tGo f τ) (td τ d k) ≠ 0
    rw [hk, if_neg]
    · exact hn
    · rintro ⟨-, -, -, z, -⟩
      have e1 : tLd τ (td τ d k) d = 0 := by
        have := L_ch (τ := τ) (σ := tMk τ d 1 0) (d := d) (y := td τ d k) hd (fun j q => by unfold tLd; simp only [tk_tMk, ts_tMk, td_tMk, up_n q])
        have e0 : tLd (tMk τ d 1 0) (td τ d k) d = 0 := by unfold tLd; rw [tk_tMk, up_s, if_neg (by decide)]
        omega
      unfold tLd at e1
      rw [if_pos h2'] at e1
      exact cnt_pos (ts τ d) 0 k (Nat.zero_le _) (by have : k < ts τ d := hkk; omega) (by simp) e1
  · rw [hk, if_neg (by omega)]; exact hL.2.2
theorem tv_go {f : Nat → Bool} (h : TV π τ) : TV π (tGo f τ) := by
  refine ⟨fun n hn hz => h.1 n hn ?_, h.2⟩
  intro q
  apply hz
  show (if _ then 0 else tk τ n) = 0
  split
  · rfl
  · exact q
/-- the journal -/
def JV (π : mP) (τ σ : mT) (Q : List mD) : Prop := TI σ ∧ TV π σ ∧ Q.length < 200 ∧ dOks π σ Q ∧ RP τ (tRun σ Q)
theorem JV.nil (h : TI τ) (hv : TV π τ) : JV π τ τ [] := ⟨h, hv, by decide, trivial, RP.rf⟩
def qS (τ σ : mT) (Q : List mD) (q : mD) : mT := if Q.length + 1 < 200 then σ else tDo τ q
def qQ (Q : List mD) (q : mD) : List mD := if Q.length + 1 < 200 then Q ++ [q] else []
theorem JV.note {Q : List mD} {q : mD} (h : JV π τ σ Q) (hT : TI τ) (hV : TV π τ) (ho : tOk τ q) (hd : dOk π τ q) : JV π (tDo τ q) (qS τ σ Q q) (qQ Q q) := by
  unfold qS qQ
  obtain ⟨h1, h2, h3, h4, h5⟩ := h
  split
  · obtain ⟨g1, g2⟩ := rp_ok h5 hT ho hd
    refine ⟨h1, h2, by rw [List.length_append]; simpa using (by assumption), dOks_app h4 g1 g2, ?_⟩
    rw [tRun_app]
    exact rp_do h5 ho
  · exact JV.nil (ti_do hT ho hd) (tv_do hV ho hd)
theorem JV.go {Q : List mD} {f : Nat → Bool} (h : JV π τ σ Q) (hT : TI τ) : JV π (tGo f τ) σ Q := ⟨h.1, h.2.1, h.2.2.1, h.2.2.2.1, rp_go h.2.2.2.2 hT.2.2.1⟩
end MM96
