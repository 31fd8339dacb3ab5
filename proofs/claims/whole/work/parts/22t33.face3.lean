/-! FACES: record, about, result -/
section MM213
variable {X : mX} {w : Bool} {i i' : Nat → Nat → Int32} {l l' : Nat → Nat → Int64} {m : Nat} {e : Bool × Nat × Nat} {n k j p q c d b : Nat} {x x1 x2 x3 y v : Int32} {V : Option mm_R} {o : mOl} {R : List Int32} {π : mP} {ψ : mS} {f : Nat → Nat} {A : mA} {κ : mK} {η : mH}
def rFd (r : Int32 × Int32 × Int32 × Int32 × Int32) (k : Nat) : Int32 := match k with
  | 0 => r.1
  | 1 => r.2.1
  | 2 => r.2.2.1
  | 3 => r.2.2.2.1
  | _ => r.2.2.2.2
def wRc (x1 x2 : Int32) (o : mOl) : mA := if inT (kR (oK o)).length x1 = true then (if inR x2 4 = true then .inl (some (rFd ((kR (oK o)).getD x1.toNatClampNeg kz5) x2.toNatClampNeg)) else .inr 0) else .inr 4
theorem kept_c (hw : GW κ) : (if (20 : Int32) < nI (kn κ) then (20 : Int32) else nI (kn κ)) = nI (kR κ).length := by
  have h1 := hw.2.2.1
  have h2 := hw.2.2.2.1
  by_cases z : 20 < kn κ
  · rw [if_pos (show (20 : Int32) < nI (kn κ) from (nI_ltI (a := 20) (by omega) (by omega)).mpr z), show (kR κ).length = 20 by omega]; rfl
  · rw [if_neg (show ¬ (20 : Int32) < nI (kn κ) from fun y => z ((nI_ltI (a := 20) (by omega) (by omega)).mp y)), show (kR κ).length = kn κ by omega]
theorem c_record (ho : OC w i o) (hv : OV b o) : CSee m w l e i (mm_V 177 0 [some (.ref 0), some (.int x1), some (.int x2)] [] (mm_Z m w i l e)) (wRc x1 x2 o) := by
  have hG := ho.cg
  have hw := hv.gw
  have h1 := hw.2.2.1
  have h2 := hw.2.2.2.1
  have e1 : (if (20 : Int32) < i 30 10 then (20 : Int32) else i 30 10) = nI (kR (oK o)).length := by rw [hG.2.2.1.1]; exact kept_c hw
  rw [mr_177_0, mr_41_0, e1, mb_l, mb_v, mr_177_12, if_inT, if_inL (d := 4) lt_5, wRc]
  by_cases t1 : inT (kR (oK o)).length x1 = true
  · obtain ⟨k, k1, k2⟩ := inT_n t1 (by omega)
    rw [if_pos t1, if_pos t1]
    by_cases t2 : inR x2 4 = true
    · obtain ⟨g, g1, g2⟩ := inR_n (n := 4) t2 (by omega)
      obtain ⟨r0, r1, r2, r3, r4⟩ := hG.2.2.1.2 k k1
      have hm : (kn (oK o) - (kR (oK o)).length + k) % 20 < 20 := Nat.mod_lt _ (by decide)
      rw [if_pos t2, if_pos t2, mr_42_0, mr_41_0, e1, mb_l, mb_v, mr_42_12, hG.2.2.1.1, na_sub (by omega), k2, nI_add, show (20 : Int32) = nI 20 from rfl, na_re (by omega) (by omega), show (5 : Int32) = nI 5 from rfl, na_mul, g2, nI_add, if_neg (no_out (by omega) (by omega)), nI_clamp (by omega), nI_clamp (by omega), nI_clamp (by omega), Nat.mul_comm, mb_l, mb_v, mr_177_53]
      match g, g1 with
      | 0, _ => rw [Nat.add_zero, r0]; exact CSee.ok rfl
      | 1, _ => rw [r1]; exact CSee.ok rfl
      | 2, _ => rw [r2]; exact CSee.ok rfl
      | 3, _ => rw [r3]; exact CSee.ok rfl
      | 4, _ => rw [r4]; exact CSee.ok rfl
      | g + 5, hg => exact absurd hg (by omega)
    · rw [if_neg t2, if_neg t2]; exact CSee.no rfl
  · rw [if_neg t1, if_neg t1]; exact CSee.no rfl
def fRec (c : Nat) : Nat := if c = 4 then 1 else 2
theorem r_record (ho : OR i o) (hv : OV b o) : RSee fRec m w l e i (mm_V 336 0 [some (.ref 83), some (.int x1), some (.int x2), none] [] (mm_Z m w i l e)) (wRc x1 x2 o) := by
  have hG := ho.cg
  have hw := hv.gw
  have h1 := hw.2.2.1
  have h2 := hw.2.2.2.1
  have e0 : mm_V 336 0 [some (.ref 83), some (.int x1), some (.int x2), none] [] (mm_Z m w i l e) = mm_V 336 20 [some (.ref 83), some (.int x1), some (.int x2), none] [.int (nI (kR (oK o)).length), .int 0, .int x1] (mm_Z m w i l e) := by
    rw [mr_336_0, hG.2.2.1.1]
    by_cases z : kn (oK o) < 20
    · rw [if_pos (show nI (kn (oK o)) < 20 from (nI_ltI (b := 20) (by omega) (by omega)).mpr z), show (kR (oK o)).length = kn (oK o) by omega]
    · rw [if_neg (show ¬ nI (kn (oK o)) < 20 from fun y => z ((nI_ltI (b := 20) (by omega) (by omega)).mp y)), show (kR (oK o)).length = 20 by omega]; rfl
  rw [e0, mr_336_20, rf_in, inT_r (by omega), mb_l, mb_v, mr_336_25, wRc]
  cases t1 : inT (kR (oK o)).length x1 with
  | false =>
    rw [if_bf, if_neg Bool.false_ne_true, mr_336_36]
    show RSee fRec m w l e i (if bI false = 0 then _ else _) _
    rw [if_bf, mr_336_54, rr_10, mb_l, mb_v, mr_336_58, if_neg (by decide)]
    exact RSee.no (c := 4) rfl
  | true =>
    obtain ⟨k, k1, k2⟩ := inT_n t1 (by omega)
    rw [if_bt, if_pos rfl, mr_336_36]
    show RSee fRec m w l e i (if bI true = 0 then _ else _) _
    rw [if_bt, rf_in, mb_l, mb_v, mr_336_46]
    show RSee fRec m w l e i (if bI (inR x2 4) = 0 then _ else _) _
    cases t2 : inR x2 4 with
    | false =>
      rw [if_bf, if_neg Bool.false_ne_true, mr_336_54, rr_01, mb_l, mb_v, mr_336_58, if_neg (by decide)]
      exact RSee.no (c := 0) rfl
    | true =>
      obtain ⟨g, g1, g2⟩ := inR_n (n := 4) t2 (by omega)
      obtain ⟨r0, r1, r2, r3, r4⟩ := hG.2.2.1.2 k k1
      rw [if_bt, if_pos rfl, mr_336_54, rr_00, mb_l, mb_v, mr_336_58, if_pos rfl, k2, g2]
      simp only [mm_sw]
      have no := no_out (a := k) (len := 20) (by omega) (by omega)
      match g, g1 with
      | 0, _ => rw [if_pos (show nI 0 = 0 by decide), if_neg no, nI_clamp (by omega), nI_clamp (by omega), mw_k (by decide), r0]; exact RSee.ok rfl
      | 1, _ => rw [if_neg (show ¬ nI 1 = 0 by decide), if_pos (show nI 1 = 1 by decide), if_neg no, nI_clamp (by omega), nI_clamp (by omega), mw_k (by decide), r1]; exact RSee.ok rfl
      | 2, _ => rw [if_neg (show ¬ nI 2 = 0 by decide), if_neg (show ¬ nI 2 = 1 by decide), if_pos (show nI 2 = 2 by decide), if_neg no, nI_clamp (by omega), nI_clamp (by omega), mw_k (by decide), r2]; exact RSee.ok rfl
      | 3, _ => rw [if_neg (show ¬ nI 3 = 0 by decide), if_neg (show ¬ nI 3 = 1 by decide), if_neg (show ¬ nI 3 = 2 by decide), if_pos (show nI 3 = 3 by decide), if_neg no, nI_clamp (by omega), nI_clamp (by omega), mw_k (by decide), r3]; exact RSee.ok rfl
      | 4, _ => rw [if_neg (show ¬ nI 4 = 0 by decide), if_neg (show ¬ nI 4 = 1 by decide), if_neg (show ¬ nI 4 = 2 by decide), if_neg (show ¬ nI 4 = 3 by decide), if_neg no, nI_clamp (by omega), nI_clamp (by omega), mw_k (by decide), r4]; exact RSee.ok rfl
      | g + 5, hg => exact absurd hg (by omega)
theorem OV.hc (h : OV b o) : ∀ k, k < 4 → hC (oH o) k < 2 ^ 30 := by
  cases o with
  | none => exact fun k _ => show (0 : Nat) < 2 ^ 30 by decide
  | some q => exact fun k hk => (h.1.hw.2.2.2 k hk).1
theorem hc_pcnt_loop (H : HC i η) (hw : ∀ k, k < 4 → hC η k < 2 ^ 30) : ∀ (D k c : Nat), k + D = 4 → mm_V 65 4 [some (.ref 68), some (.int (nI c)), some (.int (nI k))] [] (mm_Z m w i l e) = some (.inl (some (.int (nI (c + tCnt (fun o => !(hC η o == 0)) D k)))), mm_Z m w i l e)
  | 0, k, c, hk => by
    rw [mr_65_4, if_neg (show ¬ nI k < 4 from fun z => by have := (nI_ltI (b := 4) (by omega) (by omega)).mp z; omega)]
    rfl
  | D + 1, k, c, hk => by
    have hb := hw k (by omega)
    rw [mr_65_4, if_pos (show nI k < 4 from (nI_ltI (b := 4) (by omega) (by omega)).mpr (by omega)), if_neg (no_out (by omega) (by omega)), nI_clamp (by omega), (H.2.2.2 k (by omega)).1, tCnt]
    by_cases z : hC η k = 0
    · rw [if_pos ((nz_m1 (by omega)).mpr z), show (0 : Int32) = nI 0 from rfl, nI_add, nI_1, hc_pcnt_loop H hw D (k + 1) (c + 0) (by omega), if_neg (by simp [z]), Nat.add_zero, Nat.zero_add]
    · rw [if_neg (fun y => z ((nz_m1 (by omega)).mp y)), nI_1, nI_1, hc_pcnt_loop H hw D (k + 1) (c + 1) (by omega), if_pos (by simp [z]), Nat.add_assoc]
theorem hc_pipeCount (H : HC i η) (hw : ∀ k, k < 4 → hC η k < 2 ^ 30) : mm_V 65 0 [some (.ref 68), none, none] [] (mm_Z m w i l e) = some (.inl (some (.int (nI (tCnt (fun o => !(hC η o == 0)) 4 0)))), mm_Z m w i l e) := by
  have t := hc_pcnt_loop (m := m) (w := w) (l := l) (e := e) H hw 4 0 0 rfl
  have t : mm_V 65 4 [some (.ref 68), some (.int 0), some (.int 0)] [] (mm_Z m w i l e) = _ := t
  rw [mr_65_0, t, Nat.zero_add]
def aTl (k : Nat) (o : mOl) : Int32 := match k with
  | 0 => nI (kn (oK o))
  | 1 => kq (oK o)
  | 2 => kh (oK o)
  | 3 => nI (kC (oK o)).length
  | 4 => nI (oQ o).length
  | 5 => nI (tCnt (fun j => !(hCt (oH o) j == 0)) 16 0)
  | 6 => nI (tCnt (fun j => !(hC (oH o) j == 0)) 4 0)
  | _ => nI (kI (oK o)).length
def wAb (x : Int32) (o : mOl) : mA := if inR x 7 = true then .inl (some (aTl x.toNatClampNeg o)) else .inr 0
theorem c_about (ho : OC w i o) (hv : OV b o) : CSee m w l e i (mm_V 178 0 [some (.ref 0), some (.int x)] [] (mm_Z m w i l e)) (wAb x o) := by
  have hG := ho.cg
  have hH := ho.ch
  rw [mr_178_0, wAb]
  simp only [mm_sw]
  by_cases hr : inR x 7 = true
  · obtain ⟨k, k1, k2⟩ := inR_n (n := 7) hr (by omega)
    rw [if_pos hr, k2, nI_clamp (by omega)]
    match k, k1 with
    | 0, _ => rw [if_pos (show nI 0 = 0 by decide), hG.2.2.1.1]; exact CSee.ok rfl
    | 1, _ => rw [if_neg (show ¬ nI 1 = 0 by decide), if_pos (show nI 1 = 1 by decide), hG.2.2.2.1]; exact CSee.ok rfl
    | 2, _ => rw [if_neg (show ¬ nI 2 = 0 by decide), if_neg (show ¬ nI 2 = 1 by decide), if_pos (show nI 2 = 2 by decide), hG.2.2.2.2]; exact CSee.ok rfl
    | 3, _ => rw [if_neg (show ¬ nI 3 = 0 by decide), if_neg (show ¬ nI 3 = 1 by decide), if_neg (show ¬ nI 3 = 2 by decide), if_pos (show nI 3 = 3 by decide), hG.2.1.1]; exact CSee.ok rfl
    | 4, _ => rw [if_neg (show ¬ nI 4 = 0 by decide), if_neg (show ¬ nI 4 = 1 by decide), if_neg (show ¬ nI 4 = 2 by decide), if_neg (show ¬ nI 4 = 3 by decide), if_pos (show nI 4 = 4 by decide), ho.cj.1]; exact CSee.ok rfl
    | 5, _ => rw [if_neg (show ¬ nI 5 = 0 by decide), if_neg (show ¬ nI 5 = 1 by decide), if_neg (show ¬ nI 5 = 2 by decide), if_neg (show ¬ nI 5 = 3 by decide), if_neg (show ¬ nI 5 = 4 by decide), if_pos (show nI 5 = 5 by decide), hc_openingCount hH, mb_l, mb_v, mr_178_95]; exact CSee.ok rfl
    | 6, _ => rw [if_neg (show ¬ nI 6 = 0 by decide), if_neg (show ¬ nI 6 = 1 by decide), if_neg (show ¬ nI 6 = 2 by decide), if_neg (show ¬ nI 6 = 3 by decide), if_neg (show ¬ nI 6 = 4 by decide), if_neg (show ¬ nI 6 = 5 by decide), if_pos (show nI 6 = 6 by decide), hc_pipeCount hH hv.hc, mb_l, mb_v, mr_178_103]; exact CSee.ok rfl
    | 7, _ => rw [if_neg (show ¬ nI 7 = 0 by decide), if_neg (show ¬ nI 7 = 1 by decide), if_neg (show ¬ nI 7 = 2 by decide), if_neg (show ¬ nI 7 = 3 by decide), if_neg (show ¬ nI 7 = 4 by decide), if_neg (show ¬ nI 7 = 5 by decide), if_neg (show ¬ nI 7 = 6 by decide), if_pos (show nI 7 = 7 by decide), hG.1.1]; exact CSee.ok rfl
    | k + 8, hk => exact absurd hk (by omega)
  · have a : ∀ c, c ≤ 7 → ¬ x = nI c := fun c hc z => hr (by rw [z]; exact inR_t (n := 7) hc (by omega))
    rw [if_neg hr, if_neg (show ¬ x = 0 from a 0 (by omega)), if_neg (show ¬ x = 1 from a 1 (by omega)), if_neg (show ¬ x = 2 from a 2 (by omega)), if_neg (show ¬ x = 3 from a 3 (by omega)), if_neg (show ¬ x = 4 from a 4 (by omega)), if_neg (show ¬ x = 5 from a 5 (by omega)), if_neg (show ¬ x = 6 from a 6 (by omega)), if_neg (show ¬ x = 7 from a 7 (by omega))]
    exact CSee.no rfl
/-- what the reference counts -/
def rCn (η : mH) (a j : Nat) : Bool := if a = 5 then !(hCt η j == 0) else if a = 6 then (decide (j < 4) && !(hC η j == 0)) else false
theorem r_ab_loop {a : Nat} (H : HR i η) (hw : HW η) (h5 : i 83 5 = 1) (ha : a ≤ 7) : ∀ (D k c : Nat), k + D = 16 → mm_V 337 30 [some (.ref 83), some (.int (nI a)), some (.int (nI c)), some (.int (nI k))] [] (mm_Z m w i l e) = mm_V 337 99 [some (.ref 83), some (.int (nI a)), some (.int (nI (c + tCnt (rCn η a) D k))), some (.int (nI 16))] [] (mm_Z m w i l e)
  | 0, k, c, hk => by
    rw [mr_337_30, if_neg (show ¬ nI k < 16 from fun z => by have := (nI_ltI (b := 16) (by omega) (by omega)).mp z; omega), show k = 16 by omega]
    rfl
  | D + 1, k, c, hk => by
    have n5 : ¬ i 83 5 = 0 := by rw [h5]; decide
    have go : ∀ b : Bool, rCn η a k = b → mm_V 337 30 [some (.ref 83), some (.int (nI a)), some (.int (nI (c + (if b = true then 1 else 0)))), some (.int (nI (k + 1)))] [] (mm_Z m w i l e) = mm_V 337 99 [some (.ref 83), some (.int (nI a)), some (.int (nI (c + tCnt (rCn η a) (D + 1) k))), some (.int (nI 16))] [] (mm_Z m w i l e) := fun b hb => by
      rw [r_ab_loop H hw h5 ha D (k + 1) _ (by omega), tCnt, hb, Nat.add_assoc]
    have up : rCn η a k = true → mm_V 337 85 [some (.ref 83), some (.int (nI a)), some (.int (nI c)), some (.int (nI k))] [] (mm_Z m w i l e) = mm_V 337 99 [some (.ref 83), some (.int (nI a)), some (.int (nI (c + tCnt (rCn η a) (D + 1) k))), some (.int (nI 16))] [] (mm_Z m w i l e) := fun hb => by
      rw [mr_337_85, nI_1, nI_1]
      exact go true hb
    have no : rCn η a k = false → mm_V 337 30 [some (.ref 83), some (.int (nI a)), some (.int (nI c)), some (.int (nI k + 1))] [] (mm_Z m w i l e) = mm_V 337 99 [some (.ref 83), some (.int (nI a)), some (.int (nI (c + tCnt (rCn η a) (D + 1) k))), some (.int (nI 16))] [] (mm_Z m w i l e) := fun hb => by
      rw [nI_1]
      exact go false hb
    rw [mr_337_30, if_pos (show nI k < 16 from (nI_ltI (b := 16) (by omega) (by omega)).mpr (by omega)), if_neg n5]
    by_cases a5 : a = 5
    · have r5 : rCn η a k = !(hCt η k == 0) := by unfold rCn; rw [if_pos a5]
      rw [if_pos (show nI a = 5 by rw [a5]; rfl), hr_isOpening H hw (by omega), mb_l, mb_v, mr_337_53]
      by_cases z : hCt η k = 0
      · rw [decide_eq_false (fun y => y z), if_bf, mr_337_56, if_neg (show ¬ nI a = 6 by rw [a5]; decide)]
        exact no (by rw [r5]; simp [z])
      · rw [decide_eq_true z, if_bt]
        exact up (by rw [r5]; simp [z])
    · rw [if_neg (show ¬ nI a = 5 from fun y => a5 ((nI_eq (b := 5) (by omega) (by omega)).mp y)), mr_337_56]
      by_cases a6 : a = 6
      · have r6 : rCn η a k = (decide (k < 4) && !(hC η k == 0)) := by unfold rCn; rw [if_neg a5, if_pos a6]
        rw [if_pos (show nI a = 6 by rw [a6]; rfl)]
        by_cases k4 : k < 4
        · have hb := (hw.2.2.2 k k4).1
          rw [if_pos (show nI k < 4 from (nI_ltI (b := 4) (by omega) (by omega)).mpr k4), if_pos (show nI k < 4 from (nI_ltI (b := 4) (by omega) (by omega)).mpr k4), if_neg (no_out (by omega) (by omega)), nI_clamp (by omega), (H.2.2.2 k k4).1]
          by_cases z : hC η k = 0
          · rw [if_pos ((nz_ng (by omega)).mpr z)]
            exact no (by rw [r6]; simp [z])
          · rw [if_neg (fun y => z ((nz_ng (by omega)).mp y))]
            exact up (by rw [r6]; simp [z, k4])
        · rw [if_neg (show ¬ nI k < 4 from fun z => k4 ((nI_ltI (b := 4) (by omega) (by omega)).mp z))]
          exact no (by rw [r6]; simp [k4])
      · rw [if_neg (show ¬ nI a = 6 from fun y => a6 ((nI_eq (b := 6) (by omega) (by omega)).mp y))]
        exact no (by unfold rCn; rw [if_neg a5, if_neg a6])
theorem tCnt_sp {f : Nat → Bool} : ∀ (a c k : Nat), tCnt f (a + c) k = tCnt f a k + tCnt f c (k + a)
  | 0, c, k => by rw [Nat.zero_add, Nat.add_zero, tCnt, Nat.zero_add]
  | a + 1, c, k => by
    rw [show a + 1 + c = (a + c) + 1 by omega, tCnt, tCnt_sp a c (k + 1), tCnt, show k + 1 + a = k + (a + 1) by omega, Nat.add_assoc]
theorem tCnt_cg {f g : Nat → Bool} : ∀ (d k : Nat), (∀ j, k ≤ j → j < k + d → f j = g j) → tCnt f d k = tCnt g d k
  | 0, k, _ => rfl
  | d + 1, k, h => by
    rw [tCnt, tCnt, h k (Nat.le_refl _) (by omega), tCnt_cg d (k + 1) (fun j h1 h2 => h j (by omega) (by omega))]
theorem rCn_5 : tCnt (rCn η 5) 16 0 = tCnt (fun j => !(hCt η j == 0)) 16 0 := tCnt_cg 16 0 (fun j _ _ => by unfold rCn; rw [if_pos rfl])
theorem rCn_6 : tCnt (rCn η 6) 16 0 = tCnt (fun j => !(hC η j == 0)) 4 0 := by
  rw [show (16 : Nat) = 4 + 12 from rfl, tCnt_sp, tCnt_cg (g := fun j => !(hC η j == 0)) 4 0 (fun j _ h => by unfold rCn; rw [if_neg (by decide), if_pos rfl, decide_eq_true (show j < 4 by omega)]; rfl), tCnt_cg (g := fun _ => false) 12 (0 + 4) (fun j h _ => by unfold rCn; rw [if_neg (by decide), if_pos rfl, decide_eq_false (show ¬ j < 4 by omega)]; rfl), tCnt_f (fun _ => rfl), Nat.add_zero]
theorem r_about (ho : OR i o) (hv : OV b o) : RSee (fun _ => 1) m w l e i (mm_V 337 0 [some (.ref 83), some (.int x), none, none] [] (mm_Z m w i l e)) (wAb x o) := by
  have hG := ho.cg
  have hJ := ho.cj
  rw [mr_337_0, rf_in, mb_l, mb_v, mr_337_8, wAb]
  show RSee (fun _ => 1) m w l e i (if bI (inR x 7) = 0 then _ else _) _
  cases hr : inR x 7 with
  | false =>
    rw [if_bf, mr_337_16, rr_10, mb_l, mb_v, mr_337_21, if_neg (by decide), if_neg Bool.false_ne_true]
    exact RSee.no (c := 0) rfl
  | true =>
    obtain ⟨k, k1, k2⟩ := inR_n (n := 7) hr (by omega)
    rw [if_bt, mr_337_16, rr_00, mb_l, mb_v, mr_337_21, if_pos rfl, if_pos rfl, k2, nI_clamp (by omega)]
    have f5 : mm_ww i 83 0 (nI 0) 83 5 = i 83 5 := mw_j (by decide)
    have end' : ∀ (c : Nat) (x3 : Int32), (k = 5 → c = tCnt (fun j => !(hCt (oH o) j == 0)) 16 0) → (k = 6 → c = tCnt (fun j => !(hC (oH o) j == 0)) 4 0) → mm_V 337 99 [some (.ref 83), some (.int (nI k)), some (.int (nI c)), some (.int x3)] [] (mm_Z m w (mm_ww i 83 0 (nI 0)) l e) = some (.inl (some (.int (aTl k o))), mm_Z m w (mm_ww i 83 0 (nI 0)) l e) := fun c x3 c5 c6 => by
      rw [mr_337_99]
      simp only [mm_sw]
      match k, k1, c5, c6 with
      | 0, _, _, _ => rw [if_pos (show nI 0 = 0 by decide), mw_j (by decide), hG.2.2.1.1]; rfl
      | 1, _, _, _ => rw [if_neg (show ¬ nI 1 = 0 by decide), if_pos (show nI 1 = 1 by decide), mw_j (by decide), hG.2.2.2.1]; rfl
      | 2, _, _, _ => rw [if_neg (show ¬ nI 2 = 0 by decide), if_neg (show ¬ nI 2 = 1 by decide), if_pos (show nI 2 = 2 by decide), mw_j (by decide), hG.2.2.2.2]; rfl
      | 3, _, _, _ => rw [if_neg (show ¬ nI 3 = 0 by decide), if_neg (show ¬ nI 3 = 1 by decide), if_neg (show ¬ nI 3 = 2 by decide), if_pos (show nI 3 = 3 by decide), mw_j (by decide), hG.2.1.1]; rfl
      | 4, _, _, _ => rw [if_neg (show ¬ nI 4 = 0 by decide), if_neg (show ¬ nI 4 = 1 by decide), if_neg (show ¬ nI 4 = 2 by decide), if_neg (show ¬ nI 4 = 3 by decide), if_pos (show nI 4 = 4 by decide), mw_j (by decide), hJ.1]; rfl
      | 5, _, c5, _ => rw [if_neg (show ¬ nI 5 = 0 by decide), if_neg (show ¬ nI 5 = 1 by decide), if_neg (show ¬ nI 5 = 2 by decide), if_neg (show ¬ nI 5 = 3 by decide), if_neg (show ¬ nI 5 = 4 by decide), if_pos (show nI 5 = 5 by decide), c5 rfl]; rfl
      | 6, _, _, c6 => rw [if_neg (show ¬ nI 6 = 0 by decide), if_neg (show ¬ nI 6 = 1 by decide), if_neg (show ¬ nI 6 = 2 by decide), if_neg (show ¬ nI 6 = 3 by decide), if_neg (show ¬ nI 6 = 4 by decide), if_neg (show ¬ nI 6 = 5 by decide), if_pos (show nI 6 = 6 by decide), c6 rfl]; rfl
      | 7, _, _, _ => rw [if_neg (show ¬ nI 7 = 0 by decide), if_neg (show ¬ nI 7 = 1 by decide), if_neg (show ¬ nI 7 = 2 by decide), if_neg (show ¬ nI 7 = 3 by decide), if_neg (show ¬ nI 7 = 4 by decide), if_neg (show ¬ nI 7 = 5 by decide), if_neg (show ¬ nI 7 = 6 by decide), if_pos (show nI 7 = 7 by decide), mw_j (by decide), hG.1.1]; rfl
      | k + 8, hk, _, _ => exact absurd hk (by omega)
    refine RSee.ok ?_
    cases o with
    | none =>
      have h : NR i := ho
      have t := end' 0 0 (fun _ => (tCnt_f (fun j => by show (!(hCt zH j == 0)) = false; rw [zH_ct]; rfl) 16 0).symm) (fun _ => (tCnt_f (fun j => by show (!((0 : Nat) == 0)) = false; rfl) 4 0).symm)
      rw [mr_337_30, if_pos (show (0 : Int32) < 16 by decide), f5, if_pos h.2.2.2]
      exact t
    | some q =>
      have h : RS q.1 i q.2.2 := ho.1
      have h4 : HR (mm_ww i 83 0 (nI 0)) (yH q.2.2) := h.2.2.2.1.kp (fun k j _ _ => by rw [mw_k (by omega)])
      have t := r_ab_loop (m := m) (w := w) (l := l) (e := e) h4 hv.1.hw (f5.trans h.2.2.2.2.2.2) k1 16 0 0 rfl
      have t : mm_V 337 30 [some (.ref 83), some (.int (nI k)), some (.int 0), some (.int 0)] [] (mm_Z m w (mm_ww i 83 0 (nI 0)) l e) = _ := t
      rw [t]
      refine end' _ _ (fun z => ?_) (fun z => ?_)
      · rw [z, Nat.zero_add]; exact rCn_5
      · rw [z, Nat.zero_add]; exact rCn_6
def wRs (x : Int32) (R : List Int32) : mA := if x = -1 then .inl (some (nI R.length)) else if inT R.length x = true then .inl (some (R.getD x.toNatClampNeg 0)) else .inr 4
theorem gD {R : List Int32} (h : k < R.length) : R[k]? = some (R.getD k 0) := by
  rw [List.getD_eq_getElem?_getD, List.getElem?_eq_getElem h]; rfl
theorem c_result (hR : CR i R) (hl : R.length ≤ 240) : CSee m w l e i (mm_V 180 0 [some (.ref 0), some (.int x)] [] (mm_Z m w i l e)) (wRs x R) := by
  rw [mr_180_0, wRs, hR.1]
  by_cases z : x = -1
  · rw [if_pos z, if_pos z]; exact CSee.ok rfl
  · rw [if_neg z, if_neg z, if_inT]
    by_cases t1 : inT R.length x = true
    · obtain ⟨k, k1, k2⟩ := inT_n t1 (by omega)
      rw [if_pos t1, if_pos t1, k2, if_neg (no_out (by omega) (by omega)), nI_clamp (by omega), hR.2 k _ (gD k1)]
      exact CSee.ok rfl
    · rw [if_neg t1, if_neg t1]; exact CSee.no rfl
theorem r_result (hR : RR i R) (hl : R.length ≤ 240) : RSee (fun _ => 1) m w l e i (mm_V 333 0 [some (.ref 83), some (.int x)] [] (mm_Z m w i l e)) (wRs x R) := by
  rw [mr_333_0, wRs]
  by_cases z : x = -1
  · rw [if_pos z, if_pos z, mr_333_25, rr_00, mb_l, mb_v, mr_333_30, if_pos rfl, if_pos z, mw_j (by decide), hR.1]; exact RSee.ok rfl
  · rw [if_neg z, if_neg z, hR.1, rf_in, inT_r (by omega), mb_l, mb_v, mr_333_17]
    cases t1 : inT R.length x with
    | false =>
      rw [if_bf, mr_333_25, rr_10, mb_l, mb_v, mr_333_30, if_neg (show ¬ (1 : Int32) = 0 by decide), if_neg Bool.false_ne_true]
      exact RSee.no (c := 4) rfl
    | true =>
      obtain ⟨k, k1, k2⟩ := inT_n t1 (by omega)
      rw [if_bt, mr_333_25, rr_00, mb_l, mb_v, mr_333_30, if_pos rfl, if_neg z, if_pos rfl, k2, if_neg (no_out (by omega) (by omega)), nI_clamp (by omega), mw_k (by decide), hR.2 k _ (gD k1)]
      exact RSee.ok rfl
end MM213
