/-! ACTS BY THEIR NUMBERS, in the class -/
section MM190
variable {w : Bool} {i i0 i' : Nat → Nat → Int32} {l : Nat → Nat → Int64} {m : Nat} {e : Bool × Nat × Nat} {n k j b B p q h M v : Nat} {x y x1 x2 x3 x4 : Int32} {π : mP} {ψ : mS} {L N : List Nat} {r : Int32 × mS} {X : Option mm_R} {F : Option Value → mm_M → Option mm_R}
theorem CA.bi (hX : CA m w l e π i0 B X r) (hk : ∀ i', F (some (.int r.1)) (mm_Z m w i' l e) = some (.inl (some (.int r.1)), mm_Z m w i' l e)) : CA m w l e π i0 B (mm_bi true X F) r := by
  obtain ⟨i', x, y, e1, g⟩ := hX
  rw [e1, mb_l, hk]
  exact ⟨i', x, y, rfl, g⟩
theorem CA.up {C : Nat} (hX : CA m w l e π i0 B X r) (hc : B ≤ C) : CA m w l e π i0 C X r := by
  obtain ⟨i', x, y, e1, g1, g2, g3⟩ := hX
  exact ⟨i', x, y, e1, g1, g2.up hc, g3⟩
def aLv (p : Nat) (ψ : mS) : Int32 × mS := (0, yf ψ p)
theorem cg_0 (g : CD w π i0 b i ψ x y) (hb : b + 16 < 2 ^ 29) (hp : p < 8) (hP0 : hP (yH ψ) p ≠ 0) (hO : pO L) : CA m w l e π i0 (b + 16) (mm_V 185 102 [some (.ref 0), some (.int (nI 0)), some (.int (nI p)), some (.int (nI (pc L))), some (.int (x4))] [] (mm_Z m w i l e)) (aLook π p L ψ) := by
  rw [mr_185_102]
  simp only [mm_sw]
  rw [if_pos (by decide)]
  exact CA.bi (ca_look g hb hp hP0 hO) (fun i' => mr_185_161 _ _ _ _ _ _ _ _ _ _)
theorem cg_1 (g : CD w π i0 b i ψ x y) (hb : b + 16 < 2 ^ 29) (hp : p < 8) (hP0 : hP (yH ψ) p ≠ 0) (hO : pO L) : CA m w l e π i0 (b + 16) (mm_V 185 102 [some (.ref 0), some (.int (nI 1)), some (.int (nI p)), some (.int (nI (pc L))), some (.int (x4))] [] (mm_Z m w i l e)) (aMkd π p L ψ) := by
  rw [mr_185_102]
  simp only [mm_sw]
  rw [if_neg (by decide), if_pos (by decide)]
  exact CA.bi (ca_mkd g hb hp hP0 hO) (fun i' => mr_185_171 _ _ _ _ _ _ _ _ _ _)
theorem cg_2 (g : CD w π i0 b i ψ x y) (hb : b + 16 < 2 ^ 29) (hp : p < 8) (hP0 : hP (yH ψ) p ≠ 0) (hO : pO L) : CA m w l e π i0 (b + 16) (mm_V 185 102 [some (.ref 0), some (.int (nI 2)), some (.int (nI p)), some (.int (nI (pc L))), some (.int (x4))] [] (mm_Z m w i l e)) (aRmd π p L ψ) := by
  rw [mr_185_102]
  simp only [mm_sw]
  rw [if_neg (by decide), if_neg (by decide), if_pos (by decide)]
  exact CA.bi (ca_rmd g hb hp hP0 hO) (fun i' => mr_185_181 _ _ _ _ _ _ _ _ _ _)
theorem cg_3 (g : CD w π i0 b i ψ x y) (hb : b + 16 < 2 ^ 29) (hp : p < 8) (hP0 : hP (yH ψ) p ≠ 0) (hO : pO L) : CA m w l e π i0 (b + 16) (mm_V 185 102 [some (.ref 0), some (.int (nI 3)), some (.int (nI p)), some (.int (nI (pc L))), some (.int (x4))] [] (mm_Z m w i l e)) (aUnl π p L ψ) := by
  rw [mr_185_102]
  simp only [mm_sw]
  rw [if_neg (by decide), if_neg (by decide), if_neg (by decide), if_pos (by decide)]
  exact CA.bi (ca_unl g hb hp hP0 hO) (fun i' => mr_185_191 _ _ _ _ _ _ _ _ _ _)
theorem cg_4 (g : CD w π i0 b i ψ x y) (hb : b + 16 < 2 ^ 29) (hp : p < 8) (hP0 : hP (yH ψ) p ≠ 0) (hO : pO L) : CA m w l e π i0 (b + 16) (mm_V 185 102 [some (.ref 0), some (.int (nI 4)), some (.int (nI p)), some (.int (nI (pc L))), some (.int (x4))] [] (mm_Z m w i l e)) (aRun π p L ψ) := by
  rw [mr_185_102]
  simp only [mm_sw]
  rw [if_neg (by decide), if_neg (by decide), if_neg (by decide), if_neg (by decide), if_pos (by decide)]
  exact CA.bi (ca_run g hb hp hP0 hO) (fun i' => mr_185_201 _ _ _ _ _ _ _ _ _ _)
theorem cg_5 (g : CD w π i0 b i ψ x y) (hb : b + 16 < 2 ^ 29) (hp : p < 8) (hP0 : hP (yH ψ) p ≠ 0) (hO : pO L) (hM : M < 32) : CA m w l e π i0 (b + 16) (mm_V 185 102 [some (.ref 0), some (.int (nI 5)), some (.int (nI p)), some (.int (nI (pc L))), some (.int (nI M))] [] (mm_Z m w i l e)) (aOpn π p L M ψ) := by
  rw [mr_185_102]
  simp only [mm_sw]
  rw [if_neg (by decide), if_neg (by decide), if_neg (by decide), if_neg (by decide), if_neg (by decide), if_pos (by decide)]
  exact CA.bi (ca_opn g hb hp hP0 hO hM) (fun i' => mr_185_213 _ _ _ _ _ _ _ _ _ _)
theorem cg_6 (g : CD w π i0 b i ψ x y) (hb : b + 16 < 2 ^ 29) (hp : p < 8) (hP0 : hP (yH ψ) p ≠ 0) (hO : pO L) (hN : pO N) : CA m w l e π i0 (b + 16) (mm_V 185 102 [some (.ref 0), some (.int (nI 6)), some (.int (nI p)), some (.int (nI (pc L))), some (.int (nI (pc N)))] [] (mm_Z m w i l e)) (aLnk π p L N ψ) := by
  rw [mr_185_102]
  simp only [mm_sw]
  rw [if_neg (by decide), if_neg (by decide), if_neg (by decide), if_neg (by decide), if_neg (by decide), if_neg (by decide), if_pos (by decide)]
  exact CA.bi (ca_lnk g hb hp hP0 hO hN) (fun i' => mr_185_225 _ _ _ _ _ _ _ _ _ _)
theorem cg_7 (g : CD w π i0 b i ψ x y) (hb : b + 16 < 2 ^ 29) (hp : p < 8) (hP0 : hP (yH ψ) p ≠ 0) (hO : pO L) (hN : pO N) : CA m w l e π i0 (b + 16) (mm_V 185 102 [some (.ref 0), some (.int (nI 7)), some (.int (nI p)), some (.int (nI (pc L))), some (.int (nI (pc N)))] [] (mm_Z m w i l e)) (aRen π p L N ψ) := by
  rw [mr_185_102]
  simp only [mm_sw]
  rw [if_neg (by decide), if_neg (by decide), if_neg (by decide), if_neg (by decide), if_neg (by decide), if_neg (by decide), if_neg (by decide), if_pos (by decide)]
  exact CA.bi (ca_ren g hb hp hP0 hO hN) (fun i' => mr_185_237 _ _ _ _ _ _ _ _ _ _)
theorem cg_8 (g : CD w π i0 b i ψ x y) (hb : b + 16 < 2 ^ 29) (hp : p < 8) (hP0 : hP (yH ψ) p ≠ 0) (hO : pO L) : CA m w l e π i0 (b + 16) (mm_V 185 102 [some (.ref 0), some (.int (nI 8)), some (.int (nI p)), some (.int (nI (pc L))), some (.int (x4))] [] (mm_Z m w i l e)) (aRel π p L x4 ψ) := by
  rw [mr_185_102]
  simp only [mm_sw]
  rw [if_neg (by decide), if_neg (by decide), if_neg (by decide), if_neg (by decide), if_neg (by decide), if_neg (by decide), if_neg (by decide), if_neg (by decide), if_pos (by decide)]
  exact CA.bi (ca_rel g hb hp hP0 hO) (fun i' => mr_185_249 _ _ _ _ _ _ _ _ _ _)
theorem and_255n (x : Int32) : x &&& 255 ≠ -1 := by
  rw [(and_255 x).1]
  exact ne_m1 (by have := (and_255 x).2; omega)
theorem cg_9 (g : CD w π i0 b i ψ x y) (hb : b + 16 < 2 ^ 29) (hp : p < 8) (hP0 : hP (yH ψ) p ≠ 0) (hh : h < 6) : CA m w l e π i0 (b + 16) (mm_V 185 102 [some (.ref 0), some (.int (nI 9)), some (.int (nI p)), some (.int (nI h)), some (.int (x4))] [] (mm_Z m w i l e)) (aCls p h ψ) := by
  rw [mr_185_102]
  simp only [mm_sw]
  rw [if_neg (by decide), if_neg (by decide), if_neg (by decide), if_neg (by decide), if_neg (by decide), if_neg (by decide), if_neg (by decide), if_neg (by decide), if_neg (by decide)]
  refine CA.bi ?_ (fun i' => mr_185_262 _ _ _ _ _ _ _ _ _ _)
  rw [mr_44_0]
  simp only [mm_sw]
  rw [if_pos (by decide)]
  exact CA.bi (ca_cls g (B := b + 16) (by omega) hp hh) (fun i' => mr_44_70 _ _ _ _ _ _ _ _ _ _)
theorem cg_10 (g : CD w π i0 b i ψ x y) (hb : b + 16 < 2 ^ 29) (hp : p < 8) (hP0 : hP (yH ψ) p ≠ 0) (hh : h < 6) : CA m w l e π i0 (b + 16) (mm_V 185 102 [some (.ref 0), some (.int (nI 10)), some (.int (nI p)), some (.int (nI h)), some (.int (x4))] [] (mm_Z m w i l e)) (aDup π p h ψ) := by
  rw [mr_185_102]
  simp only [mm_sw]
  rw [if_neg (by decide), if_neg (by decide), if_neg (by decide), if_neg (by decide), if_neg (by decide), if_neg (by decide), if_neg (by decide), if_neg (by decide), if_neg (by decide)]
  refine CA.bi ?_ (fun i' => mr_185_262 _ _ _ _ _ _ _ _ _ _)
  rw [mr_44_0]
  simp only [mm_sw]
  rw [if_neg (by decide), if_pos (by decide)]
  exact CA.bi (ca_dup g (B := b + 16) (by omega) (by omega) hp hP0 hh) (fun i' => mr_44_77 _ _ _ _ _ _ _ _ _ _)
theorem cg_11 (g : CD w π i0 b i ψ x y) (hb : b + 16 < 2 ^ 29) (hp : p < 8) (hP0 : hP (yH ψ) p ≠ 0) (hh : h < 6) : CA m w l e π i0 (b + 16) (mm_V 185 102 [some (.ref 0), some (.int (nI 11)), some (.int (nI p)), some (.int (nI h)), some (.int (x4))] [] (mm_Z m w i l e)) (aRd π p h ψ) := by
  rw [mr_185_102]
  simp only [mm_sw]
  rw [if_neg (by decide), if_neg (by decide), if_neg (by decide), if_neg (by decide), if_neg (by decide), if_neg (by decide), if_neg (by decide), if_neg (by decide), if_neg (by decide)]
  refine CA.bi ?_ (fun i' => mr_185_262 _ _ _ _ _ _ _ _ _ _)
  rw [mr_44_0]
  simp only [mm_sw]
  rw [if_neg (by decide), if_neg (by decide), if_pos (by decide)]
  exact CA.bi (ca_rd g (B := b + 16) (by omega) (by omega) hp hP0 hh) (fun i' => mr_44_84 _ _ _ _ _ _ _ _ _ _)
theorem cg_12 (g : CD w π i0 b i ψ x y) (hb : b + 16 < 2 ^ 29) (hp : p < 8) (hP0 : hP (yH ψ) p ≠ 0) (hh : h < 6) : CA m w l e π i0 (b + 16) (mm_V 185 102 [some (.ref 0), some (.int (nI 12)), some (.int (nI p)), some (.int (nI h)), some (.int (x4))] [] (mm_Z m w i l e)) (aLst π p h ψ) := by
  rw [mr_185_102]
  simp only [mm_sw]
  rw [if_neg (by decide), if_neg (by decide), if_neg (by decide), if_neg (by decide), if_neg (by decide), if_neg (by decide), if_neg (by decide), if_neg (by decide), if_neg (by decide)]
  refine CA.bi ?_ (fun i' => mr_185_262 _ _ _ _ _ _ _ _ _ _)
  rw [mr_44_0]
  simp only [mm_sw]
  rw [if_neg (by decide), if_neg (by decide), if_neg (by decide), if_pos (by decide)]
  exact CA.bi (ca_lst g (B := b + 16) (by omega) (by omega) hp hP0 hh) (fun i' => mr_44_91 _ _ _ _ _ _ _ _ _ _)
theorem cg_13 (g : CD w π i0 b i ψ x y) (hb : b + 16 < 2 ^ 29) (hp : p < 8) (hP0 : hP (yH ψ) p ≠ 0) (hh : h < 6) : CA m w l e π i0 (b + 16) (mm_V 185 102 [some (.ref 0), some (.int (nI 13)), some (.int (nI p)), some (.int (nI h)), some (.int (x4))] [] (mm_Z m w i l e)) (aEmp π p h ψ) := by
  rw [mr_185_102]
  simp only [mm_sw]
  rw [if_neg (by decide), if_neg (by decide), if_neg (by decide), if_neg (by decide), if_neg (by decide), if_neg (by decide), if_neg (by decide), if_neg (by decide), if_neg (by decide)]
  refine CA.bi ?_ (fun i' => mr_185_262 _ _ _ _ _ _ _ _ _ _)
  rw [mr_44_0]
  simp only [mm_sw]
  rw [if_neg (by decide), if_neg (by decide), if_neg (by decide), if_neg (by decide), if_pos (by decide)]
  exact CA.bi (ca_emp g (B := b + 16) (by omega) (by omega) hp hP0 hh) (fun i' => mr_44_98 _ _ _ _ _ _ _ _ _ _)
theorem cg_14 (g : CD w π i0 b i ψ x y) (hb : b + 16 < 2 ^ 29) (hp : p < 8) (hP0 : hP (yH ψ) p ≠ 0) (hh : h < 6) : CA m w l e π i0 (b + 16) (mm_V 185 102 [some (.ref 0), some (.int (nI 14)), some (.int (nI p)), some (.int (nI h)), some (.int (x4))] [] (mm_Z m w i l e)) (aWr π p h (x4 &&& 255) ψ) := by
  rw [mr_185_102]
  simp only [mm_sw]
  rw [if_neg (by decide), if_neg (by decide), if_neg (by decide), if_neg (by decide), if_neg (by decide), if_neg (by decide), if_neg (by decide), if_neg (by decide), if_neg (by decide)]
  refine CA.bi ?_ (fun i' => mr_185_262 _ _ _ _ _ _ _ _ _ _)
  rw [mr_44_0]
  simp only [mm_sw]
  rw [if_neg (by decide), if_neg (by decide), if_neg (by decide), if_neg (by decide), if_neg (by decide), if_pos (by decide)]
  exact CA.bi (ca_wr g (B := b + 16) (by omega) (by omega) hp hP0 hh (and_255n x4)) (fun i' => mr_44_111 _ _ _ _ _ _ _ _ _ _)
theorem cg_15 (g : CD w π i0 b i ψ x y) (hb : b + 16 < 2 ^ 29) (hp : p < 8) (hP0 : hP (yH ψ) p ≠ 0) (hh : h < 6) (hv : v ≤ 24) : CA m w l e π i0 (b + 16) (mm_V 185 102 [some (.ref 0), some (.int (nI 15)), some (.int (nI p)), some (.int (nI h)), some (.int (nI v))] [] (mm_Z m w i l e)) (aSek π p h v ψ) := by
  rw [mr_185_102]
  simp only [mm_sw]
  rw [if_neg (by decide), if_neg (by decide), if_neg (by decide), if_neg (by decide), if_neg (by decide), if_neg (by decide), if_neg (by decide), if_neg (by decide), if_neg (by decide)]
  refine CA.bi ?_ (fun i' => mr_185_262 _ _ _ _ _ _ _ _ _ _)
  rw [mr_44_0]
  simp only [mm_sw]
  rw [if_neg (by decide), if_neg (by decide), if_neg (by decide), if_neg (by decide), if_neg (by decide), if_neg (by decide), if_pos (by decide)]
  exact CA.bi (ca_sek g (B := b + 16) (by omega) (by omega) hp hP0 hh hv) (fun i' => mr_44_120 _ _ _ _ _ _ _ _ _ _)
theorem cg_16 (g : CD w π i0 b i ψ x y) (hb : b + 16 < 2 ^ 29) (hp : p < 8) (hP0 : hP (yH ψ) p ≠ 0) : CA m w l e π i0 (b + 16) (mm_V 185 102 [some (.ref 0), some (.int (nI 16)), some (.int (nI p)), some (.int (x3)), some (.int (x4))] [] (mm_Z m w i l e)) (aFrk π p ψ) := by
  rw [mr_185_102]
  simp only [mm_sw]
  rw [if_neg (by decide), if_neg (by decide), if_neg (by decide), if_neg (by decide), if_neg (by decide), if_neg (by decide), if_neg (by decide), if_neg (by decide), if_neg (by decide)]
  refine CA.bi ?_ (fun i' => mr_185_262 _ _ _ _ _ _ _ _ _ _)
  rw [mr_44_0]
  simp only [mm_sw]
  rw [if_neg (by decide), if_neg (by decide), if_neg (by decide), if_neg (by decide), if_neg (by decide), if_neg (by decide), if_neg (by decide), if_pos (by decide)]
  exact CA.bi (ca_frk g (B := b + 16) (by omega) (by omega) hp hP0) (fun i' => mr_44_126 _ _ _ _ _ _ _ _ _ _)
theorem cg_17 (g : CD w π i0 b i ψ x y) (hb : b + 16 < 2 ^ 29) (hp : p < 8) (hP0 : hP (yH ψ) p ≠ 0) : CA m w l e π i0 (b + 16) (mm_V 185 102 [some (.ref 0), some (.int (nI 17)), some (.int (nI p)), some (.int (x3)), some (.int (x4))] [] (mm_Z m w i l e)) (aPip π p ψ) := by
  rw [mr_185_102]
  simp only [mm_sw]
  rw [if_neg (by decide), if_neg (by decide), if_neg (by decide), if_neg (by decide), if_neg (by decide), if_neg (by decide), if_neg (by decide), if_neg (by decide), if_neg (by decide)]
  refine CA.bi ?_ (fun i' => mr_185_262 _ _ _ _ _ _ _ _ _ _)
  rw [mr_44_0]
  simp only [mm_sw]
  rw [if_neg (by decide), if_neg (by decide), if_neg (by decide), if_neg (by decide), if_neg (by decide), if_neg (by decide), if_neg (by decide), if_neg (by decide), if_pos (by decide)]
  exact CA.bi (ca_pip g (B := b + 16) (by omega) (by omega) hp hP0) (fun i' => mr_44_132 _ _ _ _ _ _ _ _ _ _)
theorem cg_18 (g : CD w π i0 b i ψ x y) (hb : b + 16 < 2 ^ 29) (hp : p < 8) (hP0 : hP (yH ψ) p ≠ 0) : CA m w l e π i0 (b + 16) (mm_V 185 102 [some (.ref 0), some (.int (nI 18)), some (.int (nI p)), some (.int (x3)), some (.int (x4))] [] (mm_Z m w i l e)) (aLv p ψ) := by
  rw [mr_185_102]
  simp only [mm_sw]
  rw [if_neg (by decide), if_neg (by decide), if_neg (by decide), if_neg (by decide), if_neg (by decide), if_neg (by decide), if_neg (by decide), if_neg (by decide), if_neg (by decide)]
  refine CA.bi ?_ (fun i' => mr_185_262 _ _ _ _ _ _ _ _ _ _)
  rw [mr_44_0]
  simp only [mm_sw]
  rw [if_neg (by decide), if_neg (by decide), if_neg (by decide), if_neg (by decide), if_neg (by decide), if_neg (by decide), if_neg (by decide), if_neg (by decide), if_neg (by decide), if_pos (by decide)]
  obtain ⟨i1, e1, g1⟩ := CD.fi (m := m) (l := l) (e := e) g hp
  rw [e1, mb_l, mb_0, mr_44_141]
  exact ⟨i1, x, y, rfl, g1.1, g1.2.1.up (by omega), g1.2.2⟩
theorem cg_19 (g : CD w π i0 b i ψ x y) (hb : b + 16 < 2 ^ 29) (hp : p < 8) (hP0 : hP (yH ψ) p ≠ 0) (hq : q < 8) (hQ0 : hP (yH ψ) q ≠ 0) : CA m w l e π i0 (b + 16) (mm_V 185 102 [some (.ref 0), some (.int (nI 19)), some (.int (nI p)), some (.int (nI q)), some (.int (x4))] [] (mm_Z m w i l e)) (aSig π p q ψ) := by
  rw [mr_185_102]
  simp only [mm_sw]
  rw [if_neg (by decide), if_neg (by decide), if_neg (by decide), if_neg (by decide), if_neg (by decide), if_neg (by decide), if_neg (by decide), if_neg (by decide), if_neg (by decide)]
  refine CA.bi ?_ (fun i' => mr_185_262 _ _ _ _ _ _ _ _ _ _)
  rw [mr_44_0]
  simp only [mm_sw]
  rw [if_neg (by decide), if_neg (by decide), if_neg (by decide), if_neg (by decide), if_neg (by decide), if_neg (by decide), if_neg (by decide), if_neg (by decide), if_neg (by decide), if_neg (by decide), if_pos (by decide)]
  exact CA.bi (ca_sig g (B := b + 16) (by omega) (by omega) hp hP0 hq hQ0) (fun i' => mr_44_149 _ _ _ _ _ _ _ _ _ _)
theorem cg_20 (g : CD w π i0 b i ψ x y) (hb : b + 16 < 2 ^ 29) (hp : p < 8) (hP0 : hP (yH ψ) p ≠ 0) (hq : q < 8) (hQ0 : hP (yH ψ) q ≠ 0) : CA m w l e π i0 (b + 16) (mm_V 185 102 [some (.ref 0), some (.int (nI 20)), some (.int (nI p)), some (.int (nI q)), some (.int (x4))] [] (mm_Z m w i l e)) (aTrc π p q ψ) := by
  rw [mr_185_102]
  simp only [mm_sw]
  rw [if_neg (by decide), if_neg (by decide), if_neg (by decide), if_neg (by decide), if_neg (by decide), if_neg (by decide), if_neg (by decide), if_neg (by decide), if_neg (by decide)]
  refine CA.bi ?_ (fun i' => mr_185_262 _ _ _ _ _ _ _ _ _ _)
  rw [mr_44_0]
  simp only [mm_sw]
  rw [if_neg (by decide), if_neg (by decide), if_neg (by decide), if_neg (by decide), if_neg (by decide), if_neg (by decide), if_neg (by decide), if_neg (by decide), if_neg (by decide), if_neg (by decide), if_neg (by decide), if_pos (by decide)]
  rw [if_neg (no_out (by omega) (by omega)), if_neg (no_out (by omega) (by omega))]
  exact ca_trc g (by omega) (by omega) hp hP0 hq hQ0
theorem cg_21 (g : CD w π i0 b i ψ x y) (hb : b + 16 < 2 ^ 29) (hp : p < 8) (hP0 : hP (yH ψ) p ≠ 0) : CA m w l e π i0 (b + 16) (mm_V 185 102 [some (.ref 0), some (.int (nI 21)), some (.int (nI p)), some (.int (x3)), some (.int (x4))] [] (mm_Z m w i l e)) (aSwi π p x3 ψ) := by
  rw [mr_185_102]
  simp only [mm_sw]
  rw [if_neg (by decide), if_neg (by decide), if_neg (by decide), if_neg (by decide), if_neg (by decide), if_neg (by decide), if_neg (by decide), if_neg (by decide), if_neg (by decide)]
  refine CA.bi ?_ (fun i' => mr_185_262 _ _ _ _ _ _ _ _ _ _)
  rw [mr_44_0]
  simp only [mm_sw]
  rw [if_neg (by decide), if_neg (by decide), if_neg (by decide), if_neg (by decide), if_neg (by decide), if_neg (by decide), if_neg (by decide), if_neg (by decide), if_neg (by decide), if_neg (by decide), if_neg (by decide), if_neg (by decide)]
  exact CA.bi (ca_swi g (B := b + 16) (by omega) (by omega) hp hP0) (fun i' => mr_44_194 _ _ _ _ _ _ _ _ _ _)
end MM190
