/-! WORDS: letters, packed words, the class's tables of words -/
section MM131
def isL (c : Nat) : Bool := decide (97 ≤ c ∧ c ≤ 122)
def isN (c : Nat) : Bool := decide ((97 ≤ c ∧ c ≤ 122) ∨ (48 ≤ c ∧ c ≤ 57) ∨ c = 95)
def isD (c : Nat) : Bool := decide (48 ≤ c ∧ c ≤ 57)
/-- n signs from a on -/
def sg (X : mX) : Nat → Nat → List Nat
  | _, 0 => []
  | a, n + 1 => xs X a :: sg X (a + 1) n
theorem sg_len (X : mX) : ∀ (n a : Nat), (sg X a n).length = n
  | 0, a => rfl
  | n + 1, a => by rw [sg, List.length_cons, sg_len X n (a + 1)]
theorem sg_get (X : mX) : ∀ (n a k : Nat), k < n → (sg X a n).getD k 0 = xs X (a + k)
  | 0, a, k, h => by omega
  | n + 1, a, 0, h => rfl
  | n + 1, a, k + 1, h => by
    rw [sg, List.getD_cons_succ, sg_get X n (a + 1) k (by omega), show a + 1 + k = a + (k + 1) by omega]
theorem sg_all {X : mX} {P : Nat → Prop} : ∀ (n a : Nat), (∀ k, a ≤ k → k < a + n → P (xs X k)) → ∀ c, c ∈ sg X a n → P c
  | 0, a, h, c, hc => by cases hc
  | n + 1, a, h, c, hc => by
    rw [sg] at hc
    rcases List.mem_cons.mp hc with rfl | hc
    · exact h a (Nat.le_refl _) (by omega)
    · exact sg_all n (a + 1) (fun k h1 h2 => h k (by omega) (by omega)) c hc
/-- signs of words -/
def wG (L : List Nat) : Prop := ∀ c, c ∈ L → 1 ≤ c ∧ c < 128
/-- a word as one number -/
def pk : Nat → List Nat → Nat
  | a, [] => a
  | a, c :: L => pk (a * 128 + c) L
/-- the same of a word from behind -/
def pr : List Nat → Nat
  | [] => 0
  | c :: R => pr R * 128 + c
theorem pkk_pr : ∀ (L R : List Nat), pk (pr R) L = pr (L.reverse ++ R)
  | [], R => rfl
  | c :: L, R => by
    have h1 := pkk_pr L (c :: R)
    rw [pk, List.reverse_cons, List.append_assoc]
    exact h1
theorem prr_inj : ∀ (L R : List Nat), wG L → wG R → pr L = pr R → L = R
  | [], [], _, _, _ => rfl
  | [], c :: R, _, h2, h => by
    have := h2 c (List.mem_cons_self ..)
    rw [pr, pr] at h; omega
  | c :: L, [], h1, _, h => by
    have := h1 c (List.mem_cons_self ..)
    rw [pr, pr] at h; omega
  | c :: L, d :: R, h1, h2, h => by
    have a1 := h1 c (List.mem_cons_self ..)
    have a2 := h2 d (List.mem_cons_self ..)
    rw [pr, pr] at h
    have e1 : c = d := by omega
    have e2 : pr L = pr R := by omega
    rw [e1, prr_inj L R (fun x hx => h1 x (List.mem_cons_of_mem _ hx)) (fun x hx => h2 x (List.mem_cons_of_mem _ hx)) e2]
theorem pkk_eq (L : List Nat) : pk 0 L = pr L.reverse := by
  have := pkk_pr L []
  rw [List.append_nil] at this
  exact this
theorem wG_rev {L : List Nat} (h : wG L) : wG L.reverse := fun c hc => h c (List.mem_reverse.mp hc)
theorem pkk_inj {L R : List Nat} (h1 : wG L) (h2 : wG R) (h : pk 0 L = pk 0 R) : L = R := by
  rw [pkk_eq, pkk_eq] at h
  have := prr_inj _ _ (wG_rev h1) (wG_rev h2) h
  exact List.reverse_inj.mp this
theorem prr_lt : ∀ (R : List Nat), wG R → pr R < 128 ^ R.length
  | [], _ => by decide
  | c :: R, h => by
    have a1 := h c (List.mem_cons_self ..)
    have := prr_lt R (fun x hx => h x (List.mem_cons_of_mem _ hx))
    rw [pr, List.length_cons, Nat.pow_succ]
    omega
theorem p128 {n : Nat} (h : n ≤ 9) : 128 ^ n ≤ 2 ^ 63 := by
  have : (128 : Nat) ^ n ≤ 128 ^ 9 := Nat.pow_le_pow_right (by decide) h
  have e : (128 : Nat) ^ 9 = 2 ^ 63 := by decide
  omega
theorem pkk_lt {L : List Nat} (h : wG L) (hl : L.length ≤ 9) : pk 0 L < 2 ^ 63 := by
  rw [pkk_eq]
  have := prr_lt _ (wG_rev h)
  rw [List.length_reverse] at this
  have := p128 hl
  omega
theorem prr_pos {L : List Nat} (h : wG L) (h0 : L ≠ []) : pk 0 L ≠ 0 := by
  intro z
  have := pkk_inj (L := L) (R := []) h (fun c hc => by cases hc) z
  exact h0 this
theorem lN_inj {a b : Nat} (ha : a < 2 ^ 64) (hb : b < 2 ^ 64) : (lN a = lN b) ↔ a = b := by
  constructor
  · intro h
    have h1 := wb_tn ha
    have h2 := wb_tn hb
    rw [h] at h1
    omega
  · intro h; rw [h]
/-- one sign more -/
theorem sh_7 {a c : Nat} (ha : a < 2 ^ 56) (hc : c < 128) {y : Int32} (hy : y = nI c) : (lN a <<< ((7 : Int32).toInt64 &&& 63)) ||| y.toInt64 = lN (a * 128 + c) := by
  have e1 : lN a <<< ((7 : Int32).toInt64 &&& 63) = lN (a * 2 ^ 7) := wb_shl a (k := 7) (by decide)
  rw [e1, hy, nI_l (by omega), wb_or (by omega) (by omega)]
  congr 1
  have e2 := Nat.shiftLeft_add_eq_or_of_lt (i := 7) (b := c) (by omega) a
  rw [Nat.shiftLeft_eq] at e2
  rw [← e2]
variable {w : Bool} {l : Nat → Nat → Int64} {e : Bool × Nat × Nat} {m : Nat} {X : mX} {i i' : Nat → Nat → Int32} {a b c n p q : Nat} {u4 : Option Value} {x1 x2 : Int32}
theorem xc_pk_loop (h : XC X i) (hw : XW X) (hq : q ≤ xz X) : ∀ (d p a : Nat), p + d = q → d ≤ 9 → a < 128 ^ (9 - d) → mm_V 128 27 [some (.ref 1), some (.int x1), some (.int (nI q)), some (.long (lN a)), none, some (.int (nI p))] [] (mm_Z m w i l e) = some (.inl (some (.long (lN (pk a (sg X p d))))), mm_Z m w i l e)
  | 0, p, a, hp, hd, ha => by
    have hz := hw.le
    rw [mr_128_27, if_neg (fun z => by have := (nI_ltI (by omega) (by omega)).mp z; omega)]
    rfl
  | d + 1, p, a, hp, hd, ha => by
    have hz := hw.le
    have hb := (hw.2 p (by omega)).2
    have hp9 := p128 (n := 9 - (d + 1)) (by omega)
    have h8 : a < 2 ^ 56 := by
      have : (128 : Nat) ^ (9 - (d + 1)) ≤ 128 ^ 8 := Nat.pow_le_pow_right (by decide) (by omega)
      have e : (128 : Nat) ^ 8 = 2 ^ 56 := by decide
      omega
    rw [mr_128_27, if_pos ((nI_ltI (by omega) (by omega)).mpr (by omega)), if_neg (no_out (by omega) (by omega)), sh_7 h8 (c := xs X p) (by omega) (by rw [nI_clamp (by omega), h.2 p (by omega)]), nI_1, xc_pk_loop h hw hq d (p + 1) _ (by omega) (by omega) (by
      rw [show 9 - d = (9 - (d + 1)) + 1 by omega, Nat.pow_succ]; omega)]
    rfl
theorem xc_packed (h : XC X i) (hw : XW X) (hp : p ≤ q) (hq : q ≤ xz X) : mm_V 128 0 [some (.ref 1), some (.int (nI p)), some (.int (nI q)), none, none, none] [] (mm_Z m w i l e) = some (.inl (some (.long (lN (if q - p ≤ 9 then pk 0 (sg X p (q - p)) else 0)))), mm_Z m w i l e) := by
  have hz := hw.le
  have e9 : ((9 : Int32) < nI (q - p)) ↔ 9 < q - p := by rw [na_9]; exact nI_ltI (by omega) (by omega)
  rw [mr_128_0, na_sub hp]
  by_cases z : q - p ≤ 9
  · rw [if_neg (fun y => by have := e9.mp y; omega), if_neg (nI_pos (by omega)), h.1, if_neg (fun y => by have := (nI_ltI (by omega) (by omega)).mp y; omega), if_pos z]
    exact xc_pk_loop h hw hq (q - p) p 0 (by omega) z (by
      have : 0 < (128 : Nat) ^ (9 - (q - p)) := Nat.pow_pos (by decide)
      exact this)
  · rw [if_pos (e9.mpr (by omega)), if_neg z]
    rfl
/-- tables of words: a blank behind each -/
def wds : List Nat → List Nat → List (List Nat)
  | [], _ => []
  | c :: r, R => if c = 32 then R.reverse :: wds r [] else wds r (c :: R)
def wOk : List Nat → Nat → Bool
  | [], _ => true
  | c :: r, k => if c = 32 then wOk r 0 else decide (k < 9 ∧ 33 ≤ c ∧ c < 128) && wOk r (k + 1)
def wF (x : Nat) : List (List Nat) → Nat
  | [] => 0
  | W :: r => if pk 0 W = x then 0 else 1 + wF x r
theorem wF_le (x : Nat) : ∀ (Ws : List (List Nat)), wF x Ws ≤ Ws.length
  | [] => Nat.le_refl _
  | W :: r => by
    have := wF_le x r
    unfold wF; rw [List.length_cons]; split <;> omega
theorem xc_wn_loop {s : Nat} {tx : List Nat} (hs : mm_sx mm_stb s = some tx) (hl : tx.length < 1000) {x : Nat} (hx : x < 2 ^ 63) : ∀ (r : List Nat) (j n : Nat) (R : List Nat) (u7 : Option Value), tx.drop j = r → j ≤ tx.length → wG R → wOk r R.length = true → R.length ≤ 9 → n ≤ j → mm_V 129 8 [some (.ref s), some (.long (lN x)), none, some (.int (nI n)), some (.long (lN (pr R))), none, some (.int (nI j)), u7] [] (mm_Z m w i l e) = some (.inl (some (.int (if wF x (wds r R) < (wds r R).length then nI (n + wF x (wds r R)) else -1))), mm_Z m w i l e)
  | [], j, n, R, u7, hd, hj, hR, hk, h9, hn => by
    have hlen : tx.length ≤ j := List.drop_eq_nil_iff.mp hd
    rw [mr_129_8 (hs := hs), show Int32.ofNat tx.length = nI tx.length from rfl, if_neg (fun z => by have := (nI_ltI (by omega) (by omega)).mp z; omega)]
    rfl
  | c :: r, j, n, R, u7, hd, hj, hR, hk, h9, hn => by
    have hlen : j < tx.length := by
      rcases Nat.lt_or_ge j tx.length with z | z
      · exact z
      · rw [List.drop_eq_nil_iff.mpr z] at hd; cases hd
    have hc : tx.getD j 0 = c ∧ tx.drop (j + 1) = r := by
      rw [List.drop_eq_getElem_cons hlen] at hd
      injection hd with d1 d2
      exact ⟨by rw [List.getD_eq_getElem?_getD, List.getElem?_eq_getElem hlen, Option.getD_some, d1], d2⟩
    have hp : pr R < 2 ^ 63 := by
      have := prr_lt R hR
      have := p128 h9
      omega
    rw [mr_129_8 (hs := hs), show Int32.ofNat tx.length = nI tx.length from rfl, if_pos ((nI_ltI (by omega) (by omega)).mpr (by omega)), if_neg (no_out hlen (by omega)), nI_clamp (by omega), hc.1, show Int32.ofNat c = nI c from rfl, nI_1]
    unfold wOk at hk
    by_cases q : c = 32
    · rw [if_pos q] at hk
      rw [if_pos (by rw [q]; rfl)]
      have ew : wds (c :: r) R = R.reverse :: wds r [] := by rw [wds, if_pos q]
      have ep : pk 0 R.reverse = pr R := by rw [pkk_eq, List.reverse_reverse]
      rw [ew, wF, ep, List.length_cons]
      by_cases y : pr R = x
      · rw [if_pos (cmp_0.mpr (by rw [y])), if_pos y, if_pos (Nat.succ_pos _)]; rfl
      · rw [if_neg (fun z => y ((lN_inj (by omega) (by omega)).mp (cmp_0.mp z))), if_neg y, nI_1, show (0 : Int64) = lN (pr []) from rfl, xc_wn_loop hs hl hx r (j + 1) (n + 1) [] _ hc.2 (by omega) (fun c hc => by cases hc) hk (by show 0 ≤ 9; omega) (by omega)]
        by_cases z : wF x (wds r []) < (wds r []).length
        · rw [if_pos z, if_pos (by omega), show n + 1 + wF x (wds r []) = n + (1 + wF x (wds r [])) by omega]
        · rw [if_neg z, if_neg (by omega)]
    · rw [if_neg q, Bool.and_eq_true] at hk
      obtain ⟨k1, k2, k3⟩ := of_decide_eq_true hk.1
      have h8 : pr R < 2 ^ 56 := by
        have h1 := prr_lt R hR
        have h2 : (128 : Nat) ^ R.length ≤ 128 ^ 8 := Nat.pow_le_pow_right (by decide) (by omega)
        have e : (128 : Nat) ^ 8 = 2 ^ 56 := by decide
        omega
      rw [if_neg (show ¬ nI c = 32 from fun z => q ((nI_eq (by omega) (by omega : 32 < 2 ^ 31)).mp z)), nI_1, sh_7 h8 k3 rfl, show pr R * 128 + c = pr (c :: R) from rfl, xc_wn_loop hs hl hx r (j + 1) n (c :: R) _ hc.2 (by omega) (fun d hd' => by
        rcases List.mem_cons.mp hd' with rfl | z
        · omega
        · exact hR d z) hk.2 (by rw [List.length_cons]; omega) (by omega)]
      have ew : wds (c :: r) R = wds r (c :: R) := by rw [wds, if_neg q]
      rw [ew]
/-- which word of a table -/
def wI (Ws : List (List Nat)) (L : List Nat) : Nat := tFst (fun j => Ws.getD j [] == L) Ws.length 0
theorem wF_tFst {L : List Nat} (hL : wG L) : ∀ (r Ws : List (List Nat)) (j : Nat), Ws.drop j = r → j ≤ Ws.length → (∀ W, W ∈ Ws → wG W) → tFst (fun j => Ws.getD j [] == L) r.length j = j + wF (pk 0 L) r
  | [], Ws, j, h1, h2, h3 => rfl
  | W :: r, Ws, j, h1, h2, h3 => by
    have hlen : j < Ws.length := by
      rcases Nat.lt_or_ge j Ws.length with z | z
      · exact z
      · rw [List.drop_eq_nil_iff.mpr z] at h1; cases h1
    have hc : Ws.getD j [] = W ∧ Ws.drop (j + 1) = r := by
      rw [List.drop_eq_getElem_cons hlen] at h1
      injection h1 with d1 d2
      exact ⟨by rw [List.getD_eq_getElem?_getD, List.getElem?_eq_getElem hlen, Option.getD_some, d1], d2⟩
    have hW : wG W := h3 W (by
      have : W ∈ Ws.drop j := by rw [h1]; exact List.mem_cons_self ..
      exact List.mem_of_mem_drop this)
    rw [List.length_cons, tFst, wF]
    by_cases q : W = L
    · rw [if_pos (show (Ws.getD j [] == L) = true by rw [hc.1]; simpa using q), if_pos (by rw [q])]; rfl
    · rw [if_neg (show ¬ (Ws.getD j [] == L) = true by rw [hc.1]; simpa using q), if_neg (fun z => q (pkk_inj hW hL z)), wF_tFst hL r Ws (j + 1) hc.2 (by omega) h3]
      omega
theorem wI_eq {L : List Nat} {Ws : List (List Nat)} (hL : wG L) (h3 : ∀ W, W ∈ Ws → wG W) : wF (pk 0 L) Ws = wI Ws L := by
  have := wF_tFst hL Ws Ws 0 rfl (Nat.zero_le _) h3
  unfold wI
  omega
def wGb (Ws : List (List Nat)) : Bool := Ws.all (fun W => W.all (fun c => decide (1 ≤ c ∧ c < 128)))
theorem wGb_h {Ws : List (List Nat)} (h : wGb Ws = true) : ∀ W, W ∈ Ws → wG W := by
  intro W hW c hc
  have := List.all_eq_true.mp (List.all_eq_true.mp h W hW) c hc
  exact of_decide_eq_true this
theorem xc_word {s : Nat} {tx : List Nat} (hs : mm_sx mm_stb s = some tx) (hl : tx.length < 1000) (hk : wOk tx 0 = true) (hg : wGb (wds tx []) = true) {L : List Nat} (hL : wG L) (h9 : L.length ≤ 9) : mm_V 129 0 [some (.ref s), some (.long (lN (pk 0 L))), none, none, none, none, none, none] [] (mm_Z m w i l e) = some (.inl (some (.int (if wI (wds tx []) L < (wds tx []).length then nI (wI (wds tx []) L) else -1))), mm_Z m w i l e) := by
  have e0 := xc_wn_loop (m := m) (w := w) (i := i) (l := l) (e := e) hs hl (pkk_lt hL h9) tx 0 0 [] none rfl (Nat.zero_le _) (fun c hc => by cases hc) hk (by show 0 ≤ 9; omega) (Nat.le_refl _)
  rw [wI_eq hL (wGb_h hg), Nat.zero_add] at e0
  rw [mr_129_0]
  exact e0
end MM131
