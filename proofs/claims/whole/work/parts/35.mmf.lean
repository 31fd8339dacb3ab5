section MMf
theorem mm_fl_ok {own : Nat} {q : Nat × Nat × Nat × Nat × Nat} (hq : q ∈ mm_fls.getD own []) : mm_FOK own q.1 q.2.1 q.2.2.1 ∧ (q.2.2.2.1 = 0 → Cond.fieldLink (mm_RN own) q.1 (mm_TF q.2.1 q.2.2.1).1 (mm_TF q.2.1 q.2.2.1).2.1 (mm_TF q.2.1 q.2.2.1).2.2.1 ∈ lw_tbl) := by
  have h14 : own < 14 := by
    rcases Nat.lt_or_ge own 14 with h | h
    · exact h
    · exfalso
      have hl : mm_fls.length = 15 := by decide +kernel
      have e : mm_fls.getD own [] = [] := by
        rcases Nat.eq_or_lt_of_le h with e | e
        · rw [← e]; rfl
        · rw [List.getD_eq_getElem?_getD, List.getElem?_eq_none (by omega)]; rfl
      rw [e] at hq
      cases hq
  have h := List.all_eq_true.mp (mm_fcall h14) q hq
  simp only [mm_fck, Bool.and_eq_true, decide_eq_true_eq] at h
  obtain ⟨⟨h1, h2⟩, h3⟩ := h
  split at h3
  · have w := mm_w_in (of_decide_eq_true h3)
    exact ⟨⟨h1, h2, Or.inl w⟩, fun _ => w⟩
  · rename_i hne
    have w := mm_w_in (of_decide_eq_true h3)
    exact ⟨⟨h1, h2, Or.inr ⟨_, w⟩⟩, fun e => absurd e hne⟩
theorem mm_kl_ok {own : Nat} {q : Nat × Nat × Nat × Nat} (hq : q ∈ mm_mks.getD own []) : (q.2.2.1 = 0 → Cond.methodLink (mm_RN own) q.1 (mm_Y q.2.1) ∈ lw_tbl) ∧ (q.2.2.1 ≠ 0 → ∃ host, Cond.methodLinkNest (mm_RN own) q.1 (mm_Y q.2.1) host ∈ lw_tbl) := by
  have h14 : own < 14 := by
    rcases Nat.lt_or_ge own 14 with h | h
    · exact h
    · exfalso
      have hl : mm_mks.length = 15 := by decide +kernel
      have e : mm_mks.getD own [] = [] := by
        rcases Nat.eq_or_lt_of_le h with e | e
        · rw [← e]; rfl
        · rw [List.getD_eq_getElem?_getD, List.getElem?_eq_none (by omega)]; rfl
      rw [e] at hq
      cases hq
  have h := List.all_eq_true.mp (mm_kcall h14) q hq
  unfold mm_kck at h
  split at h
  · rename_i h0
    have w := mm_w_in (of_decide_eq_true h)
    exact ⟨fun _ => w, fun e => absurd h0 e⟩
  · rename_i hne
    have w := mm_w_in (of_decide_eq_true h)
    exact ⟨fun e => absurd e hne, fun _ => ⟨_, w⟩⟩
/-- what a method's own words say -/
def mm_mfacts (a : Nat) : Prop := mm_MOK a ∧ Cond.initialized (mm_Y a).cls ∈ lw_tbl ∧ ((mm_Y a).cls ≠ "java/lang/invoke/MethodHandle" ∧ (mm_Y a).cls ≠ "java/lang/invoke/VarHandle") ∧ (parseMethodDescriptor (mm_Y a).desc).map (fun d => d.parameters.length) = some (mm_na a) ∧
  (mm_kd a = 0 → mm_hh a = [] ∧ Cond.instanceMethod (mm_Y a) ∈ lw_tbl ∧ Cond.selects (mm_Y a).cls (mm_Y a) (mm_Y a) ∈ lw_tbl ∧ mm_ow a < 13) ∧ (mm_kd a = 1 → Cond.static (mm_Y a) ∈ lw_tbl) ∧ (mm_kd a = 2 → mm_hh a = [] ∧ mm_T a = none ∧ (mm_Y a).name = "<init>" ∧ Cond.instanceMethod (mm_Y a) ∈ lw_tbl)
theorem mm_mck_ok {a : Nat} (h : mm_mck a = true) : mm_mfacts a := by
  unfold mm_mck at h
  generalize mm_mps.getD a (0, 0, 0, 0) = z at h
  obtain ⟨pc, pi, pm, ps⟩ := z
  dsimp only at h
  simp only [Bool.and_eq_true, decide_eq_true_eq] at h
  obtain ⟨⟨⟨⟨⟨⟨⟨g1, g2⟩, g3⟩, g4⟩, g5⟩, g6⟩, g7⟩, g8⟩ := h
  refine ⟨⟨g1, g2, fun hi => ?_⟩, mm_w_in g4, ⟨g5, g6⟩, g7, fun e => ?_, fun e => ?_, fun e => ?_⟩
  · rw [hi] at g3
    simpa using g3
  · rw [e] at g8
    simp only [Bool.and_eq_true, decide_eq_true_eq] at g8
    obtain ⟨⟨⟨q1, q2⟩, q3⟩, q4⟩ := g8
    exact ⟨q1, mm_w_in q2, mm_w_in q3, q4⟩
  · rw [e] at g8
    simp only [Bool.and_eq_true, decide_eq_true_eq] at g8
    exact mm_w_in g8.1
  · rw [e] at g8
    simp only [Bool.and_eq_true, decide_eq_true_eq] at g8
    obtain ⟨⟨⟨q1, q2⟩, q3⟩, q4⟩ := g8
    exact ⟨q1, q2, q3, mm_w_in q4⟩
theorem mm_lb_ok {q : Nat × Nat × Nat × Nat} (hq : q ∈ mm_lbs) : Cond.methodLink (mm_RN q.1) q.2.1 (mm_lbn q.2.2.1) ∈ lw_tbl := mm_w_in (of_decide_eq_true (List.all_eq_true.mp mm_lbs_ok q hq))
theorem mm_ki_ok {q : Nat × Nat × Int32 × Nat} (hq : q ∈ mm_kis) : Cond.constant (mm_RN q.1) q.2.1 q.2.2.1 ∈ lw_tbl := mm_w_in (of_decide_eq_true (List.all_eq_true.mp mm_kis_ok q hq))
theorem mm_kl2_ok {q : Nat × Nat × Int64 × Nat} (hq : q ∈ mm_kls) : Cond.constantLong (mm_RN q.1) q.2.1 q.2.2.1 ∈ lw_tbl := mm_w_in (of_decide_eq_true (List.all_eq_true.mp mm_kls_ok q hq))
theorem mm_nw_ok {q : Nat × Nat × Nat × Nat × Nat × Nat} (hq : q ∈ mm_nws) : Cond.classLink (mm_RN q.1) q.2.1 (mm_RN q.2.2.1) ∈ lw_tbl ∧ Cond.instantiable (mm_RN q.2.2.1) (mm_nf q.2.2.1) ∈ lw_tbl ∧ Cond.initialized (mm_RN q.2.2.1) ∈ lw_tbl := by
  have h := List.all_eq_true.mp mm_nws_ok q hq
  simp only [Bool.and_eq_true, decide_eq_true_eq] at h
  exact ⟨mm_w_in h.1.1, mm_w_in h.1.2, mm_w_in h.2⟩
theorem mm_gs_ok {q : Nat × Nat × Nat × Nat} (hq : q ∈ mm_gss) : ∃ z, mm_sts[q.2.2.1]? = some z ∧ Cond.fieldLink (mm_RN q.1) q.2.1 z.1 z.2.1 z.2.2 ∈ lw_tbl := by
  have h := List.all_eq_true.mp mm_gss_ok q hq
  split at h
  · rename_i z hz
    exact ⟨z, hz, mm_w_in (of_decide_eq_true h)⟩
  · cases h
def mm_crP (a : Nat) : Prop := mm_hh a = [] → Cond.code (mm_Y a) (mm_B a) (mm_ml a) (mm_T a) ∈ lw_tbl
theorem mm_cr0 : mm_crP 0 := fun _ => mm_w_in mm_cw0
theorem mm_cr1 : mm_crP 1 := fun _ => mm_w_in mm_cw1
theorem mm_cr2 : mm_crP 2 := fun _ => mm_w_in mm_cw2
theorem mm_cr3 : mm_crP 3 := fun _ => mm_w_in mm_cw3
theorem mm_cr4 : mm_crP 4 := fun _ => mm_w_in mm_cw4
theorem mm_cr5 : mm_crP 5 := fun _ => mm_w_in mm_cw5
theorem mm_cr6 : mm_crP 6 := fun _ => mm_w_in mm_cw6
theorem mm_cr7 : mm_crP 7 := fun _ => mm_w_in mm_cw7
theorem mm_cr8 : mm_crP 8 := fun _ => mm_w_in mm_cw8
theorem mm_cr9 : mm_crP 9 := fun _ => mm_w_in mm_cw9
theorem mm_cr10 : mm_crP 10 := fun _ => mm_w_in mm_cw10
theorem mm_cr11 : mm_crP 11 := fun _ => mm_w_in mm_cw11
theorem mm_cr12 : mm_crP 12 := fun _ => mm_w_in mm_cw12
theorem mm_cr13 : mm_crP 13 := fun _ => mm_w_in mm_cw13
theorem mm_cr14 : mm_crP 14 := fun _ => mm_w_in mm_cw14
theorem mm_cr15 : mm_crP 15 := fun _ => mm_w_in mm_cw15
theorem mm_cr16 : mm_crP 16 := fun _ => mm_w_in mm_cw16
theorem mm_cr17 : mm_crP 17 := fun _ => mm_w_in mm_cw17
theorem mm_cr18 : mm_crP 18 := fun _ => mm_w_in mm_cw18
theorem mm_cr19 : mm_crP 19 := fun _ => mm_w_in mm_cw19
theorem mm_cr20 : mm_crP 20 := fun _ => mm_w_in mm_cw20
theorem mm_cr21 : mm_crP 21 := fun _ => mm_w_in mm_cw21
theorem mm_cr22 : mm_crP 22 := fun _ => mm_w_in mm_cw22
theorem mm_cr23 : mm_crP 23 := fun _ => mm_w_in mm_cw23
theorem mm_cr24 : mm_crP 24 := fun _ => mm_w_in mm_cw24
theorem mm_cr25 : mm_crP 25 := fun _ => mm_w_in mm_cw25
theorem mm_cr26 : mm_crP 26 := fun _ => mm_w_in mm_cw26
theorem mm_cr27 : mm_crP 27 := fun _ => mm_w_in mm_cw27
theorem mm_cr28 : mm_crP 28 := fun _ => mm_w_in mm_cw28
theorem mm_cr29 : mm_crP 29 := fun _ => mm_w_in mm_cw29
theorem mm_cr30 : mm_crP 30 := fun _ => mm_w_in mm_cw30
theorem mm_cr31 : mm_crP 31 := fun _ => mm_w_in mm_cw31
theorem mm_cr32 : mm_crP 32 := fun _ => mm_w_in mm_cw32
theorem mm_cr33 : mm_crP 33 := fun _ => mm_w_in mm_cw33
theorem mm_cr34 : mm_crP 34 := fun _ => mm_w_in mm_cw34
theorem mm_cr35 : mm_crP 35 := fun _ => mm_w_in mm_cw35
theorem mm_cr36 : mm_crP 36 := fun _ => mm_w_in mm_cw36
theorem mm_cr37 : mm_crP 37 := fun _ => mm_w_in mm_cw37
theorem mm_cr38 : mm_crP 38 := fun _ => mm_w_in mm_cw38
theorem mm_cr39 : mm_crP 39 := fun _ => mm_w_in mm_cw39
theorem mm_cr40 : mm_crP 40 := fun _ => mm_w_in mm_cw40
theorem mm_cr41 : mm_crP 41 := fun _ => mm_w_in mm_cw41
theorem mm_cr42 : mm_crP 42 := fun _ => mm_w_in mm_cw42
theorem mm_cr43 : mm_crP 43 := fun _ => mm_w_in mm_cw43
theorem mm_cr44 : mm_crP 44 := fun _ => mm_w_in mm_cw44
theorem mm_cr45 : mm_crP 45 := fun _ => mm_w_in mm_cw45
theorem mm_cr46 : mm_crP 46 := fun _ => mm_w_in mm_cw46
theorem mm_cr47 : mm_crP 47 := fun _ => mm_w_in mm_cw47
theorem mm_cr48 : mm_crP 48 := fun _ => mm_w_in mm_cw48
theorem mm_cr49 : mm_crP 49 := fun _ => mm_w_in mm_cw49
theorem mm_cr50 : mm_crP 50 := fun _ => mm_w_in mm_cw50
theorem mm_cr51 : mm_crP 51 := fun _ => mm_w_in mm_cw51
theorem mm_cr52 : mm_crP 52 := fun _ => mm_w_in mm_cw52
theorem mm_cr53 : mm_crP 53 := fun _ => mm_w_in mm_cw53
theorem mm_cr54 : mm_crP 54 := fun _ => mm_w_in mm_cw54
theorem mm_cr55 : mm_crP 55 := fun _ => mm_w_in mm_cw55
theorem mm_cr56 : mm_crP 56 := fun _ => mm_w_in mm_cw56
theorem mm_cr57 : mm_crP 57 := fun _ => mm_w_in mm_cw57
theorem mm_cr58 : mm_crP 58 := fun _ => mm_w_in mm_cw58
theorem mm_cr59 : mm_crP 59 := fun _ => mm_w_in mm_cw59
theorem mm_cr60 : mm_crP 60 := fun _ => mm_w_in mm_cw60
theorem mm_cr61 : mm_crP 61 := fun _ => mm_w_in mm_cw61
theorem mm_cr62 : mm_crP 62 := fun _ => mm_w_in mm_cw62
theorem mm_cr63 : mm_crP 63 := fun _ => mm_w_in mm_cw63
theorem mm_cr64 : mm_crP 64 := fun _ => mm_w_in mm_cw64
theorem mm_cr65 : mm_crP 65 := fun _ => mm_w_in mm_cw65
theorem mm_cr66 : mm_crP 66 := fun _ => mm_w_in mm_cw66
theorem mm_cr67 : mm_crP 67 := fun _ => mm_w_in mm_cw67
theorem mm_cr68 : mm_crP 68 := fun _ => mm_w_in mm_cw68
theorem mm_cr69 : mm_crP 69 := fun _ => mm_w_in mm_cw69
theorem mm_cr70 : mm_crP 70 := fun _ => mm_w_in mm_cw70
theorem mm_cr71 : mm_crP 71 := fun _ => mm_w_in mm_cw71
theorem mm_cr72 : mm_crP 72 := fun _ => mm_w_in mm_cw72
theorem mm_cr73 : mm_crP 73 := fun _ => mm_w_in mm_cw73
theorem mm_cr74 : mm_crP 74 := fun _ => mm_w_in mm_cw74
theorem mm_cr75 : mm_crP 75 := fun _ => mm_w_in mm_cw75
theorem mm_cr76 : mm_crP 76 := fun _ => mm_w_in mm_cw76
theorem mm_cr77 : mm_crP 77 := fun _ => mm_w_in mm_cw77
theorem mm_cr78 : mm_crP 78 := fun _ => mm_w_in mm_cw78
theorem mm_cr79 : mm_crP 79 := fun _ => mm_w_in mm_cw79
theorem mm_cr80 : mm_crP 80 := fun _ => mm_w_in mm_cw80
theorem mm_cr81 : mm_crP 81 := fun _ => mm_w_in mm_cw81
theorem mm_cr82 : mm_crP 82 := fun _ => mm_w_in mm_cw82
theorem mm_cr83 : mm_crP 83 := fun _ => mm_w_in mm_cw83
theorem mm_cr84 : mm_crP 84 := fun _ => mm_w_in mm_cw84
theorem mm_cr85 : mm_crP 85 := fun _ => mm_w_in mm_cw85
theorem mm_cr86 : mm_crP 86 := fun _ => mm_w_in mm_cw86
theorem mm_cr87 : mm_crP 87 := fun _ => mm_w_in mm_cw87
theorem mm_cr88 : mm_crP 88 := fun _ => mm_w_in mm_cw88
theorem mm_cr89 : mm_crP 89 := fun _ => mm_w_in mm_cw89
theorem mm_cr90 : mm_crP 90 := fun _ => mm_w_in mm_cw90
theorem mm_cr91 : mm_crP 91 := fun _ => mm_w_in mm_cw91
theorem mm_cr92 : mm_crP 92 := fun _ => mm_w_in mm_cw92
theorem mm_cr93 : mm_crP 93 := fun _ => mm_w_in mm_cw93
theorem mm_cr94 : mm_crP 94 := fun _ => mm_w_in mm_cw94
theorem mm_cr95 : mm_crP 95 := fun _ => mm_w_in mm_cw95
theorem mm_cr96 : mm_crP 96 := fun _ => mm_w_in mm_cw96
theorem mm_cr97 : mm_crP 97 := fun _ => mm_w_in mm_cw97
theorem mm_cr98 : mm_crP 98 := fun _ => mm_w_in mm_cw98
theorem mm_cr99 : mm_crP 99 := fun _ => mm_w_in mm_cw99
theorem mm_cr100 : mm_crP 100 := fun _ => mm_w_in mm_cw100
theorem mm_cr101 : mm_crP 101 := fun _ => mm_w_in mm_cw101
theorem mm_cr102 : mm_crP 102 := fun _ => mm_w_in mm_cw102
theorem mm_cr103 : mm_crP 103 := fun _ => mm_w_in mm_cw103
theorem mm_cr104 : mm_crP 104 := fun _ => mm_w_in mm_cw104
theorem mm_cr105 : mm_crP 105 := fun _ => mm_w_in mm_cw105
theorem mm_cr106 : mm_crP 106 := fun _ => mm_w_in mm_cw106
theorem mm_cr107 : mm_crP 107 := fun _ => mm_w_in mm_cw107
theorem mm_cr108 : mm_crP 108 := fun _ => mm_w_in mm_cw108
theorem mm_cr109 : mm_crP 109 := fun _ => mm_w_in mm_cw109
theorem mm_cr110 : mm_crP 110 := fun _ => mm_w_in mm_cw110
theorem mm_cr111 : mm_crP 111 := fun _ => mm_w_in mm_cw111
theorem mm_cr112 : mm_crP 112 := fun _ => mm_w_in mm_cw112
theorem mm_cr113 : mm_crP 113 := fun _ => mm_w_in mm_cw113
theorem mm_cr114 : mm_crP 114 := fun _ => mm_w_in mm_cw114
theorem mm_cr115 : mm_crP 115 := fun _ => mm_w_in mm_cw115
theorem mm_cr116 : mm_crP 116 := fun _ => mm_w_in mm_cw116
theorem mm_cr117 : mm_crP 117 := fun _ => mm_w_in mm_cw117
theorem mm_cr118 : mm_crP 118 := fun _ => mm_w_in mm_cw118
theorem mm_cr119 : mm_crP 119 := fun _ => mm_w_in mm_cw119
theorem mm_cr120 : mm_crP 120 := fun _ => mm_w_in mm_cw120
theorem mm_cr121 : mm_crP 121 := fun _ => mm_w_in mm_cw121
theorem mm_cr122 : mm_crP 122 := fun _ => mm_w_in mm_cw122
theorem mm_cr123 : mm_crP 123 := fun _ => mm_w_in mm_cw123
theorem mm_cr124 : mm_crP 124 := fun _ => mm_w_in mm_cw124
theorem mm_cr125 : mm_crP 125 := fun _ => mm_w_in mm_cw125
theorem mm_cr126 : mm_crP 126 := fun _ => mm_w_in mm_cw126
theorem mm_cr127 : mm_crP 127 := fun _ => mm_w_in mm_cw127
theorem mm_cr128 : mm_crP 128 := fun _ => mm_w_in mm_cw128
theorem mm_cr129 : mm_crP 129 := fun _ => mm_w_in mm_cw129
theorem mm_cr130 : mm_crP 130 := fun _ => mm_w_in mm_cw130
theorem mm_cr131 : mm_crP 131 := fun _ => mm_w_in mm_cw131
theorem mm_cr132 : mm_crP 132 := fun _ => mm_w_in mm_cw132
theorem mm_cr133 : mm_crP 133 := fun _ => mm_w_in mm_cw133
theorem mm_cr134 : mm_crP 134 := fun _ => mm_w_in mm_cw134
theorem mm_cr135 : mm_crP 135 := fun _ => mm_w_in mm_cw135
theorem mm_cr136 : mm_crP 136 := fun _ => mm_w_in mm_cw136
theorem mm_cr137 : mm_crP 137 := fun _ => mm_w_in mm_cw137
theorem mm_cr138 : mm_crP 138 := fun _ => mm_w_in mm_cw138
theorem mm_cr139 : mm_crP 139 := fun _ => mm_w_in mm_cw139
theorem mm_cr140 : mm_crP 140 := fun _ => mm_w_in mm_cw140
theorem mm_cr141 : mm_crP 141 := fun _ => mm_w_in mm_cw141
theorem mm_cr142 : mm_crP 142 := fun _ => mm_w_in mm_cw142
theorem mm_cr143 : mm_crP 143 := fun _ => mm_w_in mm_cw143
theorem mm_cr144 : mm_crP 144 := fun _ => mm_w_in mm_cw144
theorem mm_cr145 : mm_crP 145 := fun _ => mm_w_in mm_cw145
theorem mm_cr146 : mm_crP 146 := fun _ => mm_w_in mm_cw146
theorem mm_cr147 : mm_crP 147 := fun _ => mm_w_in mm_cw147
theorem mm_cr148 : mm_crP 148 := fun _ => mm_w_in mm_cw148
theorem mm_cr149 : mm_crP 149 := fun _ => mm_w_in mm_cw149
theorem mm_cr150 : mm_crP 150 := fun _ => mm_w_in mm_cw150
theorem mm_cr151 : mm_crP 151 := fun _ => mm_w_in mm_cw151
theorem mm_cr152 : mm_crP 152 := fun _ => mm_w_in mm_cw152
theorem mm_cr153 : mm_crP 153 := fun _ => mm_w_in mm_cw153
theorem mm_cr154 : mm_crP 154 := fun _ => mm_w_in mm_cw154
theorem mm_cr155 : mm_crP 155 := fun _ => mm_w_in mm_cw155
theorem mm_cr156 : mm_crP 156 := fun _ => mm_w_in mm_cw156
theorem mm_cr157 : mm_crP 157 := fun _ => mm_w_in mm_cw157
theorem mm_cr158 : mm_crP 158 := fun _ => mm_w_in mm_cw158
theorem mm_cr159 : mm_crP 159 := fun _ => mm_w_in mm_cw159
theorem mm_cr160 : mm_crP 160 := fun _ => mm_w_in mm_cw160
theorem mm_cr161 : mm_crP 161 := fun _ => mm_w_in mm_cw161
theorem mm_cr162 : mm_crP 162 := fun _ => mm_w_in mm_cw162
theorem mm_cr163 : mm_crP 163 := fun _ => mm_w_in mm_cw163
theorem mm_cr164 : mm_crP 164 := fun _ => mm_w_in mm_cw164
theorem mm_cr165 : mm_crP 165 := fun _ => mm_w_in mm_cw165
theorem mm_cr166 : mm_crP 166 := fun _ => mm_w_in mm_cw166
theorem mm_cr167 : mm_crP 167 := fun _ => mm_w_in mm_cw167
theorem mm_cr168 : mm_crP 168 := fun _ => mm_w_in mm_cw168
theorem mm_cr169 : mm_crP 169 := fun _ => mm_w_in mm_cw169
theorem mm_cr170 : mm_crP 170 := fun _ => mm_w_in mm_cw170
theorem mm_cr171 : mm_crP 171 := fun _ => mm_w_in mm_cw171
theorem mm_cr172 : mm_crP 172 := fun _ => mm_w_in mm_cw172
theorem mm_cr173 : mm_crP 173 := fun _ => mm_w_in mm_cw173
theorem mm_cr174 : mm_crP 174 := fun _ => mm_w_in mm_cw174
theorem mm_cr175 : mm_crP 175 := fun _ => mm_w_in mm_cw175
theorem mm_cr176 : mm_crP 176 := fun _ => mm_w_in mm_cw176
theorem mm_cr177 : mm_crP 177 := fun _ => mm_w_in mm_cw177
theorem mm_cr178 : mm_crP 178 := fun _ => mm_w_in mm_cw178
theorem mm_cr179 : mm_crP 179 := fun _ => mm_w_in mm_cw179
theorem mm_cr180 : mm_crP 180 := fun _ => mm_w_in mm_cw180
theorem mm_cr181 : mm_crP 181 := fun _ => mm_w_in mm_cw181
theorem mm_cr182 : mm_crP 182 := fun _ => mm_w_in mm_cw182
theorem mm_cr183 : mm_crP 183 := fun _ => mm_w_in mm_cw183
theorem mm_cr184 : mm_crP 184 := fun _ => mm_w_in mm_cw184
theorem mm_cr185 : mm_crP 185 := fun _ => mm_w_in mm_cw185
theorem mm_cr186 : mm_crP 186 := fun _ => mm_w_in mm_cw186
theorem mm_cr187 : mm_crP 187 := fun _ => mm_w_in mm_cw187
theorem mm_cr188 : mm_crP 188 := fun _ => mm_w_in mm_cw188
theorem mm_cr189 : mm_crP 189 := fun _ => mm_w_in mm_cw189
theorem mm_cr190 : mm_crP 190 := fun _ => mm_w_in mm_cw190
theorem mm_cr191 : mm_crP 191 := fun _ => mm_w_in mm_cw191
theorem mm_cr192 : mm_crP 192 := fun _ => mm_w_in mm_cw192
theorem mm_cr193 : mm_crP 193 := fun _ => mm_w_in mm_cw193
theorem mm_cr194 : mm_crP 194 := fun _ => mm_w_in mm_cw194
theorem mm_cr195 : mm_crP 195 := fun _ => mm_w_in mm_cw195
theorem mm_cr196 : mm_crP 196 := fun _ => mm_w_in mm_cw196
theorem mm_cr197 : mm_crP 197 := fun _ => mm_w_in mm_cw197
theorem mm_cr198 : mm_crP 198 := fun _ => mm_w_in mm_cw198
theorem mm_cr199 : mm_crP 199 := fun _ => mm_w_in mm_cw199
theorem mm_cr200 : mm_crP 200 := fun _ => mm_w_in mm_cw200
theorem mm_cr201 : mm_crP 201 := fun _ => mm_w_in mm_cw201
theorem mm_cr202 : mm_crP 202 := fun _ => mm_w_in mm_cw202
theorem mm_cr203 : mm_crP 203 := fun _ => mm_w_in mm_cw203
theorem mm_cr204 : mm_crP 204 := fun _ => mm_w_in mm_cw204
theorem mm_cr205 : mm_crP 205 := fun _ => mm_w_in mm_cw205
theorem mm_cr206 : mm_crP 206 := fun _ => mm_w_in mm_cw206
theorem mm_cr207 : mm_crP 207 := fun _ => mm_w_in mm_cw207
theorem mm_cr208 : mm_crP 208 := fun _ => mm_w_in mm_cw208
theorem mm_cr209 : mm_crP 209 := fun _ => mm_w_in mm_cw209
theorem mm_cr210 : mm_crP 210 := fun _ => mm_w_in mm_cw210
theorem mm_cr211 : mm_crP 211 := fun _ => mm_w_in mm_cw211
theorem mm_cr212 : mm_crP 212 := fun _ => mm_w_in mm_cw212
theorem mm_cr213 : mm_crP 213 := fun _ => mm_w_in mm_cw213
theorem mm_cr214 : mm_crP 214 := fun _ => mm_w_in mm_cw214
theorem mm_cr215 : mm_crP 215 := fun _ => mm_w_in mm_cw215
theorem mm_cr216 : mm_crP 216 := fun _ => mm_w_in mm_cw216
theorem mm_cr217 : mm_crP 217 := fun _ => mm_w_in mm_cw217
theorem mm_cr218 : mm_crP 218 := fun _ => mm_w_in mm_cw218
theorem mm_cr219 : mm_crP 219 := fun _ => mm_w_in mm_cw219
theorem mm_cr220 : mm_crP 220 := fun _ => mm_w_in mm_cw220
theorem mm_cr221 : mm_crP 221 := fun _ => mm_w_in mm_cw221
theorem mm_cr222 : mm_crP 222 := fun _ => mm_w_in mm_cw222
theorem mm_cr223 : mm_crP 223 := fun _ => mm_w_in mm_cw223
theorem mm_cr224 : mm_crP 224 := fun _ => mm_w_in mm_cw224
theorem mm_cr225 : mm_crP 225 := fun _ => mm_w_in mm_cw225
theorem mm_cr226 : mm_crP 226 := fun _ => mm_w_in mm_cw226
theorem mm_cr227 : mm_crP 227 := fun _ => mm_w_in mm_cw227
theorem mm_cr228 : mm_crP 228 := fun _ => mm_w_in mm_cw228
theorem mm_cr229 : mm_crP 229 := fun _ => mm_w_in mm_cw229
theorem mm_cr230 : mm_crP 230 := fun _ => mm_w_in mm_cw230
theorem mm_cr231 : mm_crP 231 := fun _ => mm_w_in mm_cw231
theorem mm_cr232 : mm_crP 232 := fun _ => mm_w_in mm_cw232
theorem mm_cr233 : mm_crP 233 := fun _ => mm_w_in mm_cw233
theorem mm_cr234 : mm_crP 234 := fun _ => mm_w_in mm_cw234
theorem mm_cr235 : mm_crP 235 := fun _ => mm_w_in mm_cw235
theorem mm_cr236 : mm_crP 236 := fun _ => mm_w_in mm_cw236
theorem mm_cr237 : mm_crP 237 := fun _ => mm_w_in mm_cw237
theorem mm_cr238 : mm_crP 238 := fun _ => mm_w_in mm_cw238
theorem mm_cr239 : mm_crP 239 := fun _ => mm_w_in mm_cw239
theorem mm_cr240 : mm_crP 240 := fun _ => mm_w_in mm_cw240
theorem mm_cr241 : mm_crP 241 := fun _ => mm_w_in mm_cw241
theorem mm_cr242 : mm_crP 242 := fun _ => mm_w_in mm_cw242
theorem mm_cr243 : mm_crP 243 := fun _ => mm_w_in mm_cw243
theorem mm_cr244 : mm_crP 244 := fun _ => mm_w_in mm_cw244
theorem mm_cr245 : mm_crP 245 := fun _ => mm_w_in mm_cw245
theorem mm_cr246 : mm_crP 246 := fun _ => mm_w_in mm_cw246
theorem mm_cr247 : mm_crP 247 := fun _ => mm_w_in mm_cw247
theorem mm_cr248 : mm_crP 248 := fun _ => mm_w_in mm_cw248
theorem mm_cr249 : mm_crP 249 := fun _ => mm_w_in mm_cw249
theorem mm_cr250 : mm_crP 250 := fun _ => mm_w_in mm_cw250
theorem mm_cr251 : mm_crP 251 := fun _ => mm_w_in mm_cw251
theorem mm_cr252 : mm_crP 252 := fun _ => mm_w_in mm_cw252
theorem mm_cr253 : mm_crP 253 := fun _ => mm_w_in mm_cw253
theorem mm_cr254 : mm_crP 254 := fun _ => mm_w_in mm_cw254
theorem mm_cr255 : mm_crP 255 := fun _ => mm_w_in mm_cw255
theorem mm_cr256 : mm_crP 256 := fun _ => mm_w_in mm_cw256
theorem mm_cr257 : mm_crP 257 := fun _ => mm_w_in mm_cw257
theorem mm_cr258 : mm_crP 258 := fun _ => mm_w_in mm_cw258
theorem mm_cr259 : mm_crP 259 := fun _ => mm_w_in mm_cw259
theorem mm_cr260 : mm_crP 260 := fun _ => mm_w_in mm_cw260
theorem mm_cr261 : mm_crP 261 := fun _ => mm_w_in mm_cw261
theorem mm_cr262 : mm_crP 262 := fun _ => mm_w_in mm_cw262
theorem mm_cr263 : mm_crP 263 := fun _ => mm_w_in mm_cw263
theorem mm_cr264 : mm_crP 264 := fun _ => mm_w_in mm_cw264
theorem mm_cr265 : mm_crP 265 := fun _ => mm_w_in mm_cw265
theorem mm_cr266 : mm_crP 266 := fun _ => mm_w_in mm_cw266
theorem mm_cr267 : mm_crP 267 := fun _ => mm_w_in mm_cw267
theorem mm_cr268 : mm_crP 268 := fun _ => mm_w_in mm_cw268
theorem mm_cr269 : mm_crP 269 := fun _ => mm_w_in mm_cw269
theorem mm_cr270 : mm_crP 270 := fun _ => mm_w_in mm_cw270
theorem mm_cr271 : mm_crP 271 := fun _ => mm_w_in mm_cw271
theorem mm_cr272 : mm_crP 272 := fun _ => mm_w_in mm_cw272
theorem mm_cr273 : mm_crP 273 := fun _ => mm_w_in mm_cw273
theorem mm_cr274 : mm_crP 274 := fun _ => mm_w_in mm_cw274
theorem mm_cr275 : mm_crP 275 := fun _ => mm_w_in mm_cw275
theorem mm_cr276 : mm_crP 276 := fun _ => mm_w_in mm_cw276
theorem mm_cr277 : mm_crP 277 := fun _ => mm_w_in mm_cw277
theorem mm_cr278 : mm_crP 278 := fun _ => mm_w_in mm_cw278
theorem mm_cr279 : mm_crP 279 := fun _ => mm_w_in mm_cw279
theorem mm_cr280 : mm_crP 280 := fun _ => mm_w_in mm_cw280
theorem mm_cr281 : mm_crP 281 := fun _ => mm_w_in mm_cw281
theorem mm_cr282 : mm_crP 282 := fun _ => mm_w_in mm_cw282
theorem mm_cr283 : mm_crP 283 := fun _ => mm_w_in mm_cw283
theorem mm_cr284 : mm_crP 284 := fun _ => mm_w_in mm_cw284
theorem mm_cr285 : mm_crP 285 := fun _ => mm_w_in mm_cw285
theorem mm_cr286 : mm_crP 286 := fun _ => mm_w_in mm_cw286
theorem mm_cr287 : mm_crP 287 := fun _ => mm_w_in mm_cw287
theorem mm_cr288 : mm_crP 288 := fun _ => mm_w_in mm_cw288
theorem mm_cr289 : mm_crP 289 := fun _ => mm_w_in mm_cw289
theorem mm_cr290 : mm_crP 290 := fun _ => mm_w_in mm_cw290
theorem mm_cr291 : mm_crP 291 := fun _ => mm_w_in mm_cw291
theorem mm_cr292 : mm_crP 292 := fun _ => mm_w_in mm_cw292
theorem mm_cr293 : mm_crP 293 := fun _ => mm_w_in mm_cw293
theorem mm_cr294 : mm_crP 294 := fun _ => mm_w_in mm_cw294
theorem mm_cr295 : mm_crP 295 := fun _ => mm_w_in mm_cw295
theorem mm_cr296 : mm_crP 296 := fun _ => mm_w_in mm_cw296
theorem mm_cr297 : mm_crP 297 := fun _ => mm_w_in mm_cw297
theorem mm_cr298 : mm_crP 298 := fun _ => mm_w_in mm_cw298
theorem mm_cr299 : mm_crP 299 := fun _ => mm_w_in mm_cw299
theorem mm_cr300 : mm_crP 300 := fun _ => mm_w_in mm_cw300
theorem mm_cr301 : mm_crP 301 := fun _ => mm_w_in mm_cw301
theorem mm_cr302 : mm_crP 302 := fun _ => mm_w_in mm_cw302
theorem mm_cr303 : mm_crP 303 := fun _ => mm_w_in mm_cw303
theorem mm_cr304 : mm_crP 304 := fun _ => mm_w_in mm_cw304
theorem mm_cr305 : mm_crP 305 := fun _ => mm_w_in mm_cw305
theorem mm_cr306 : mm_crP 306 := fun _ => mm_w_in mm_cw306
theorem mm_cr307 : mm_crP 307 := fun _ => mm_w_in mm_cw307
theorem mm_cr308 : mm_crP 308 := fun _ => mm_w_in mm_cw308
theorem mm_cr309 : mm_crP 309 := fun _ => mm_w_in mm_cw309
theorem mm_cr310 : mm_crP 310 := fun _ => mm_w_in mm_cw310
theorem mm_cr311 : mm_crP 311 := fun _ => mm_w_in mm_cw311
theorem mm_cr312 : mm_crP 312 := fun _ => mm_w_in mm_cw312
theorem mm_cr313 : mm_crP 313 := fun _ => mm_w_in mm_cw313
theorem mm_cr314 : mm_crP 314 := fun _ => mm_w_in mm_cw314
theorem mm_cr315 : mm_crP 315 := fun _ => mm_w_in mm_cw315
theorem mm_cr316 : mm_crP 316 := fun _ => mm_w_in mm_cw316
theorem mm_cr317 : mm_crP 317 := fun _ => mm_w_in mm_cw317
theorem mm_cr318 : mm_crP 318 := fun _ => mm_w_in mm_cw318
theorem mm_cr319 : mm_crP 319 := fun _ => mm_w_in mm_cw319
theorem mm_cr320 : mm_crP 320 := fun _ => mm_w_in mm_cw320
theorem mm_cr321 : mm_crP 321 := fun _ => mm_w_in mm_cw321
theorem mm_cr322 : mm_crP 322 := fun _ => mm_w_in mm_cw322
theorem mm_cr323 : mm_crP 323 := fun _ => mm_w_in mm_cw323
theorem mm_cr324 : mm_crP 324 := fun _ => mm_w_in mm_cw324
theorem mm_cr325 : mm_crP 325 := fun _ => mm_w_in mm_cw325
theorem mm_cr326 : mm_crP 326 := fun _ => mm_w_in mm_cw326
theorem mm_cr327 : mm_crP 327 := fun _ => mm_w_in mm_cw327
theorem mm_cr328 : mm_crP 328 := fun _ => mm_w_in mm_cw328
theorem mm_cr329 : mm_crP 329 := fun _ => mm_w_in mm_cw329
theorem mm_cr330 : mm_crP 330 := fun _ => mm_w_in mm_cw330
theorem mm_cr331 : mm_crP 331 := fun _ => mm_w_in mm_cw331
theorem mm_cr332 : mm_crP 332 := fun _ => mm_w_in mm_cw332
theorem mm_cr333 : mm_crP 333 := fun _ => mm_w_in mm_cw333
theorem mm_cr334 : mm_crP 334 := fun _ => mm_w_in mm_cw334
theorem mm_cr335 : mm_crP 335 := fun _ => mm_w_in mm_cw335
theorem mm_cr336 : mm_crP 336 := fun _ => mm_w_in mm_cw336
theorem mm_cr337 : mm_crP 337 := fun _ => mm_w_in mm_cw337
theorem mm_cr338 : mm_crP 338 := fun h => absurd h (List.cons_ne_nil _ _)
theorem mm_cr339 : mm_crP 339 := fun h => absurd h (List.cons_ne_nil _ _)
theorem mm_cr340 : mm_crP 340 := fun h => absurd h (List.cons_ne_nil _ _)
theorem mm_cr341 : mm_crP 341 := fun h => absurd h (List.cons_ne_nil _ _)
theorem mm_cr342 : mm_crP 342 := fun h => absurd h (List.cons_ne_nil _ _)
theorem mm_cr343 : mm_crP 343 := fun h => absurd h (List.cons_ne_nil _ _)
theorem mm_cr344 : mm_crP 344 := fun h => absurd h (List.cons_ne_nil _ _)
theorem mm_cr345 : mm_crP 345 := fun h => absurd h (List.cons_ne_nil _ _)
theorem mm_cr346 : mm_crP 346 := fun h => absurd h (List.cons_ne_nil _ _)
theorem mm_cr347 : mm_crP 347 := fun h => absurd h (List.cons_ne_nil _ _)
theorem mm_cr348 : mm_crP 348 := fun h => absurd h (List.cons_ne_nil _ _)
theorem mm_cr349 : mm_crP 349 := fun h => absurd h (List.cons_ne_nil _ _)
theorem mm_cr350 : mm_crP 350 := fun h => absurd h (List.cons_ne_nil _ _)
theorem mm_cr351 : mm_crP 351 := fun h => absurd h (List.cons_ne_nil _ _)
theorem mm_cr352 : mm_crP 352 := fun h => absurd h (List.cons_ne_nil _ _)
theorem mm_cr353 : mm_crP 353 := fun h => absurd h (List.cons_ne_nil _ _)
theorem mm_cr354 : mm_crP 354 := fun h => absurd h (List.cons_ne_nil _ _)
theorem mm_cr355 : mm_crP 355 := fun h => absurd h (List.cons_ne_nil _ _)
theorem mm_cr356 : mm_crP 356 := fun h => absurd h (List.cons_ne_nil _ _)
theorem mm_cr357 : mm_crP 357 := fun h => absurd h (List.cons_ne_nil _ _)
theorem mm_cr358 : mm_crP 358 := fun h => absurd h (List.cons_ne_nil _ _)
theorem mm_cr359 : mm_crP 359 := fun h => absurd h (List.cons_ne_nil _ _)
theorem mm_cr361 : mm_crP 361 := fun _ => mm_w_in mm_cw361
theorem mm_cr362 : mm_crP 362 := fun _ => mm_w_in mm_cw362
theorem mm_cs0 : ∀ a ∈ mm_ch0, mm_crP a := List.forall_mem_cons.mpr ⟨mm_cr0, List.forall_mem_cons.mpr ⟨mm_cr1, List.forall_mem_cons.mpr ⟨mm_cr2, List.forall_mem_cons.mpr ⟨mm_cr3, List.forall_mem_cons.mpr ⟨mm_cr4, List.forall_mem_cons.mpr ⟨mm_cr5, List.forall_mem_cons.mpr ⟨mm_cr6, List.forall_mem_cons.mpr ⟨mm_cr7, List.forall_mem_cons.mpr ⟨mm_cr8, List.forall_mem_cons.mpr ⟨mm_cr9, List.forall_mem_cons.mpr ⟨mm_cr10, List.forall_mem_cons.mpr ⟨mm_cr11, List.forall_mem_cons.mpr ⟨mm_cr12, List.forall_mem_cons.mpr ⟨mm_cr13, List.forall_mem_cons.mpr ⟨mm_cr14, List.forall_mem_cons.mpr ⟨mm_cr15, List.forall_mem_cons.mpr ⟨mm_cr16, List.forall_mem_cons.mpr ⟨mm_cr17, List.forall_mem_cons.mpr ⟨mm_cr18, List.forall_mem_cons.mpr ⟨mm_cr19, List.forall_mem_cons.mpr ⟨mm_cr20, List.forall_mem_cons.mpr ⟨mm_cr21, List.forall_mem_cons.mpr ⟨mm_cr22, List.forall_mem_cons.mpr ⟨mm_cr23, List.forall_mem_cons.mpr ⟨mm_cr24, List.forall_mem_cons.mpr ⟨mm_cr25, List.forall_mem_cons.mpr ⟨mm_cr26, List.forall_mem_cons.mpr ⟨mm_cr27, List.forall_mem_cons.mpr ⟨mm_cr28, List.forall_mem_cons.mpr ⟨mm_cr29, List.forall_mem_cons.mpr ⟨mm_cr30, List.forall_mem_cons.mpr ⟨mm_cr31, List.forall_mem_cons.mpr ⟨mm_cr32, List.forall_mem_cons.mpr ⟨mm_cr33, List.forall_mem_cons.mpr ⟨mm_cr34, List.forall_mem_cons.mpr ⟨mm_cr35, List.forall_mem_cons.mpr ⟨mm_cr36, List.forall_mem_cons.mpr ⟨mm_cr37, List.forall_mem_cons.mpr ⟨mm_cr38, List.forall_mem_cons.mpr ⟨mm_cr39, fun _ h => absurd h List.not_mem_nil⟩⟩⟩⟩⟩⟩⟩⟩⟩⟩⟩⟩⟩⟩⟩⟩⟩⟩⟩⟩⟩⟩⟩⟩⟩⟩⟩⟩⟩⟩⟩⟩⟩⟩⟩⟩⟩⟩⟩⟩
theorem mm_cs1 : ∀ a ∈ mm_ch1, mm_crP a := List.forall_mem_cons.mpr ⟨mm_cr40, List.forall_mem_cons.mpr ⟨mm_cr41, List.forall_mem_cons.mpr ⟨mm_cr42, List.forall_mem_cons.mpr ⟨mm_cr43, List.forall_mem_cons.mpr ⟨mm_cr44, List.forall_mem_cons.mpr ⟨mm_cr45, List.forall_mem_cons.mpr ⟨mm_cr46, List.forall_mem_cons.mpr ⟨mm_cr47, List.forall_mem_cons.mpr ⟨mm_cr48, List.forall_mem_cons.mpr ⟨mm_cr49, List.forall_mem_cons.mpr ⟨mm_cr50, List.forall_mem_cons.mpr ⟨mm_cr51, List.forall_mem_cons.mpr ⟨mm_cr52, List.forall_mem_cons.mpr ⟨mm_cr53, List.forall_mem_cons.mpr ⟨mm_cr54, List.forall_mem_cons.mpr ⟨mm_cr55, List.forall_mem_cons.mpr ⟨mm_cr56, List.forall_mem_cons.mpr ⟨mm_cr57, List.forall_mem_cons.mpr ⟨mm_cr58, List.forall_mem_cons.mpr ⟨mm_cr59, List.forall_mem_cons.mpr ⟨mm_cr60, List.forall_mem_cons.mpr ⟨mm_cr61, List.forall_mem_cons.mpr ⟨mm_cr62, List.forall_mem_cons.mpr ⟨mm_cr63, List.forall_mem_cons.mpr ⟨mm_cr64, List.forall_mem_cons.mpr ⟨mm_cr65, List.forall_mem_cons.mpr ⟨mm_cr66, List.forall_mem_cons.mpr ⟨mm_cr67, List.forall_mem_cons.mpr ⟨mm_cr68, List.forall_mem_cons.mpr ⟨mm_cr69, List.forall_mem_cons.mpr ⟨mm_cr70, List.forall_mem_cons.mpr ⟨mm_cr71, List.forall_mem_cons.mpr ⟨mm_cr72, List.forall_mem_cons.mpr ⟨mm_cr73, List.forall_mem_cons.mpr ⟨mm_cr74, List.forall_mem_cons.mpr ⟨mm_cr75, List.forall_mem_cons.mpr ⟨mm_cr76, List.forall_mem_cons.mpr ⟨mm_cr77, List.forall_mem_cons.mpr ⟨mm_cr78, List.forall_mem_cons.mpr ⟨mm_cr79, fun _ h => absurd h List.not_mem_nil⟩⟩⟩⟩⟩⟩⟩⟩⟩⟩⟩⟩⟩⟩⟩⟩⟩⟩⟩⟩⟩⟩⟩⟩⟩⟩⟩⟩⟩⟩⟩⟩⟩⟩⟩⟩⟩⟩⟩⟩
theorem mm_cs2 : ∀ a ∈ mm_ch2, mm_crP a := List.forall_mem_cons.mpr ⟨mm_cr80, List.forall_mem_cons.mpr ⟨mm_cr81, List.forall_mem_cons.mpr ⟨mm_cr82, List.forall_mem_cons.mpr ⟨mm_cr83, List.forall_mem_cons.mpr ⟨mm_cr84, List.forall_mem_cons.mpr ⟨mm_cr85, List.forall_mem_cons.mpr ⟨mm_cr86, List.forall_mem_cons.mpr ⟨mm_cr87, List.forall_mem_cons.mpr ⟨mm_cr88, List.forall_mem_cons.mpr ⟨mm_cr89, List.forall_mem_cons.mpr ⟨mm_cr90, List.forall_mem_cons.mpr ⟨mm_cr91, List.forall_mem_cons.mpr ⟨mm_cr92, List.forall_mem_cons.mpr ⟨mm_cr93, List.forall_mem_cons.mpr ⟨mm_cr94, List.forall_mem_cons.mpr ⟨mm_cr95, List.forall_mem_cons.mpr ⟨mm_cr96, List.forall_mem_cons.mpr ⟨mm_cr97, List.forall_mem_cons.mpr ⟨mm_cr98, List.forall_mem_cons.mpr ⟨mm_cr99, List.forall_mem_cons.mpr ⟨mm_cr100, List.forall_mem_cons.mpr ⟨mm_cr101, List.forall_mem_cons.mpr ⟨mm_cr102, List.forall_mem_cons.mpr ⟨mm_cr103, List.forall_mem_cons.mpr ⟨mm_cr104, List.forall_mem_cons.mpr ⟨mm_cr105, List.forall_mem_cons.mpr ⟨mm_cr106, List.forall_mem_cons.mpr ⟨mm_cr107, List.forall_mem_cons.mpr ⟨mm_cr108, List.forall_mem_cons.mpr ⟨mm_cr109, List.forall_mem_cons.mpr ⟨mm_cr110, List.forall_mem_cons.mpr ⟨mm_cr111, List.forall_mem_cons.mpr ⟨mm_cr112, List.forall_mem_cons.mpr ⟨mm_cr113, List.forall_mem_cons.mpr ⟨mm_cr114, List.forall_mem_cons.mpr ⟨mm_cr115, List.forall_mem_cons.mpr ⟨mm_cr116, List.forall_mem_cons.mpr ⟨mm_cr117, List.forall_mem_cons.mpr ⟨mm_cr118, List.forall_mem_cons.mpr ⟨mm_cr119, fun _ h => absurd h List.not_mem_nil⟩⟩⟩⟩⟩⟩⟩⟩⟩⟩⟩⟩⟩⟩⟩⟩⟩⟩⟩⟩⟩⟩⟩⟩⟩⟩⟩⟩⟩⟩⟩⟩⟩⟩⟩⟩⟩⟩⟩⟩
theorem mm_cs3 : ∀ a ∈ mm_ch3, mm_crP a := List.forall_mem_cons.mpr ⟨mm_cr120, List.forall_mem_cons.mpr ⟨mm_cr121, List.forall_mem_cons.mpr ⟨mm_cr122, List.forall_mem_cons.mpr ⟨mm_cr123, List.forall_mem_cons.mpr ⟨mm_cr124, List.forall_mem_cons.mpr ⟨mm_cr125, List.forall_mem_cons.mpr ⟨mm_cr126, List.forall_mem_cons.mpr ⟨mm_cr127, List.forall_mem_cons.mpr ⟨mm_cr128, List.forall_mem_cons.mpr ⟨mm_cr129, List.forall_mem_cons.mpr ⟨mm_cr130, List.forall_mem_cons.mpr ⟨mm_cr131, List.forall_mem_cons.mpr ⟨mm_cr132, List.forall_mem_cons.mpr ⟨mm_cr133, List.forall_mem_cons.mpr ⟨mm_cr134, List.forall_mem_cons.mpr ⟨mm_cr135, List.forall_mem_cons.mpr ⟨mm_cr136, List.forall_mem_cons.mpr ⟨mm_cr137, List.forall_mem_cons.mpr ⟨mm_cr138, List.forall_mem_cons.mpr ⟨mm_cr139, List.forall_mem_cons.mpr ⟨mm_cr140, List.forall_mem_cons.mpr ⟨mm_cr141, List.forall_mem_cons.mpr ⟨mm_cr142, List.forall_mem_cons.mpr ⟨mm_cr143, List.forall_mem_cons.mpr ⟨mm_cr144, List.forall_mem_cons.mpr ⟨mm_cr145, List.forall_mem_cons.mpr ⟨mm_cr146, List.forall_mem_cons.mpr ⟨mm_cr147, List.forall_mem_cons.mpr ⟨mm_cr148, List.forall_mem_cons.mpr ⟨mm_cr149, List.forall_mem_cons.mpr ⟨mm_cr150, List.forall_mem_cons.mpr ⟨mm_cr151, List.forall_mem_cons.mpr ⟨mm_cr152, List.forall_mem_cons.mpr ⟨mm_cr153, List.forall_mem_cons.mpr ⟨mm_cr154, List.forall_mem_cons.mpr ⟨mm_cr155, List.forall_mem_cons.mpr ⟨mm_cr156, List.forall_mem_cons.mpr ⟨mm_cr157, List.forall_mem_cons.mpr ⟨mm_cr158, List.forall_mem_cons.mpr ⟨mm_cr159, fun _ h => absurd h List.not_mem_nil⟩⟩⟩⟩⟩⟩⟩⟩⟩⟩⟩⟩⟩⟩⟩⟩⟩⟩⟩⟩⟩⟩⟩⟩⟩⟩⟩⟩⟩⟩⟩⟩⟩⟩⟩⟩⟩⟩⟩⟩
theorem mm_cs4 : ∀ a ∈ mm_ch4, mm_crP a := List.forall_mem_cons.mpr ⟨mm_cr160, List.forall_mem_cons.mpr ⟨mm_cr161, List.forall_mem_cons.mpr ⟨mm_cr162, List.forall_mem_cons.mpr ⟨mm_cr163, List.forall_mem_cons.mpr ⟨mm_cr164, List.forall_mem_cons.mpr ⟨mm_cr165, List.forall_mem_cons.mpr ⟨mm_cr166, List.forall_mem_cons.mpr ⟨mm_cr167, List.forall_mem_cons.mpr ⟨mm_cr168, List.forall_mem_cons.mpr ⟨mm_cr169, List.forall_mem_cons.mpr ⟨mm_cr170, List.forall_mem_cons.mpr ⟨mm_cr171, List.forall_mem_cons.mpr ⟨mm_cr172, List.forall_mem_cons.mpr ⟨mm_cr173, List.forall_mem_cons.mpr ⟨mm_cr174, List.forall_mem_cons.mpr ⟨mm_cr175, List.forall_mem_cons.mpr ⟨mm_cr176, List.forall_mem_cons.mpr ⟨mm_cr177, List.forall_mem_cons.mpr ⟨mm_cr178, List.forall_mem_cons.mpr ⟨mm_cr179, List.forall_mem_cons.mpr ⟨mm_cr180, List.forall_mem_cons.mpr ⟨mm_cr181, List.forall_mem_cons.mpr ⟨mm_cr182, List.forall_mem_cons.mpr ⟨mm_cr183, List.forall_mem_cons.mpr ⟨mm_cr184, List.forall_mem_cons.mpr ⟨mm_cr185, List.forall_mem_cons.mpr ⟨mm_cr186, List.forall_mem_cons.mpr ⟨mm_cr187, List.forall_mem_cons.mpr ⟨mm_cr188, List.forall_mem_cons.mpr ⟨mm_cr189, List.forall_mem_cons.mpr ⟨mm_cr190, List.forall_mem_cons.mpr ⟨mm_cr191, List.forall_mem_cons.mpr ⟨mm_cr192, List.forall_mem_cons.mpr ⟨mm_cr193, List.forall_mem_cons.mpr ⟨mm_cr194, List.forall_mem_cons.mpr ⟨mm_cr195, List.forall_mem_cons.mpr ⟨mm_cr196, List.forall_mem_cons.mpr ⟨mm_cr197, List.forall_mem_cons.mpr ⟨mm_cr198, List.forall_mem_cons.mpr ⟨mm_cr199, fun _ h => absurd h List.not_mem_nil⟩⟩⟩⟩⟩⟩⟩⟩⟩⟩⟩⟩⟩⟩⟩⟩⟩⟩⟩⟩⟩⟩⟩⟩⟩⟩⟩⟩⟩⟩⟩⟩⟩⟩⟩⟩⟩⟩⟩⟩
theorem mm_cs5 : ∀ a ∈ mm_ch5, mm_crP a := List.forall_mem_cons.mpr ⟨mm_cr200, List.forall_mem_cons.mpr ⟨mm_cr201, List.forall_mem_cons.mpr ⟨mm_cr202, List.forall_mem_cons.mpr ⟨mm_cr203, List.forall_mem_cons.mpr ⟨mm_cr204, List.forall_mem_cons.mpr ⟨mm_cr205, List.forall_mem_cons.mpr ⟨mm_cr206, List.forall_mem_cons.mpr ⟨mm_cr207, List.forall_mem_cons.mpr ⟨mm_cr208, List.forall_mem_cons.mpr ⟨mm_cr209, List.forall_mem_cons.mpr ⟨mm_cr210, List.forall_mem_cons.mpr ⟨mm_cr211, List.forall_mem_cons.mpr ⟨mm_cr212, List.forall_mem_cons.mpr ⟨mm_cr213, List.forall_mem_cons.mpr ⟨mm_cr214, List.forall_mem_cons.mpr ⟨mm_cr215, List.forall_mem_cons.mpr ⟨mm_cr216, List.forall_mem_cons.mpr ⟨mm_cr217, List.forall_mem_cons.mpr ⟨mm_cr218, List.forall_mem_cons.mpr ⟨mm_cr219, List.forall_mem_cons.mpr ⟨mm_cr220, List.forall_mem_cons.mpr ⟨mm_cr221, List.forall_mem_cons.mpr ⟨mm_cr222, List.forall_mem_cons.mpr ⟨mm_cr223, List.forall_mem_cons.mpr ⟨mm_cr224, List.forall_mem_cons.mpr ⟨mm_cr225, List.forall_mem_cons.mpr ⟨mm_cr226, List.forall_mem_cons.mpr ⟨mm_cr227, List.forall_mem_cons.mpr ⟨mm_cr228, List.forall_mem_cons.mpr ⟨mm_cr229, List.forall_mem_cons.mpr ⟨mm_cr230, List.forall_mem_cons.mpr ⟨mm_cr231, List.forall_mem_cons.mpr ⟨mm_cr232, List.forall_mem_cons.mpr ⟨mm_cr233, List.forall_mem_cons.mpr ⟨mm_cr234, List.forall_mem_cons.mpr ⟨mm_cr235, List.forall_mem_cons.mpr ⟨mm_cr236, List.forall_mem_cons.mpr ⟨mm_cr237, List.forall_mem_cons.mpr ⟨mm_cr238, List.forall_mem_cons.mpr ⟨mm_cr239, fun _ h => absurd h List.not_mem_nil⟩⟩⟩⟩⟩⟩⟩⟩⟩⟩⟩⟩⟩⟩⟩⟩⟩⟩⟩⟩⟩⟩⟩⟩⟩⟩⟩⟩⟩⟩⟩⟩⟩⟩⟩⟩⟩⟩⟩⟩
theorem mm_cs6 : ∀ a ∈ mm_ch6, mm_crP a := List.forall_mem_cons.mpr ⟨mm_cr240, List.forall_mem_cons.mpr ⟨mm_cr241, List.forall_mem_cons.mpr ⟨mm_cr242, List.forall_mem_cons.mpr ⟨mm_cr243, List.forall_mem_cons.mpr ⟨mm_cr244, List.forall_mem_cons.mpr ⟨mm_cr245, List.forall_mem_cons.mpr ⟨mm_cr246, List.forall_mem_cons.mpr ⟨mm_cr247, List.forall_mem_cons.mpr ⟨mm_cr248, List.forall_mem_cons.mpr ⟨mm_cr249, List.forall_mem_cons.mpr ⟨mm_cr250, List.forall_mem_cons.mpr ⟨mm_cr251, List.forall_mem_cons.mpr ⟨mm_cr252, List.forall_mem_cons.mpr ⟨mm_cr253, List.forall_mem_cons.mpr ⟨mm_cr254, List.forall_mem_cons.mpr ⟨mm_cr255, List.forall_mem_cons.mpr ⟨mm_cr256, List.forall_mem_cons.mpr ⟨mm_cr257, List.forall_mem_cons.mpr ⟨mm_cr258, List.forall_mem_cons.mpr ⟨mm_cr259, List.forall_mem_cons.mpr ⟨mm_cr260, List.forall_mem_cons.mpr ⟨mm_cr261, List.forall_mem_cons.mpr ⟨mm_cr262, List.forall_mem_cons.mpr ⟨mm_cr263, List.forall_mem_cons.mpr ⟨mm_cr264, List.forall_mem_cons.mpr ⟨mm_cr265, List.forall_mem_cons.mpr ⟨mm_cr266, List.forall_mem_cons.mpr ⟨mm_cr267, List.forall_mem_cons.mpr ⟨mm_cr268, List.forall_mem_cons.mpr ⟨mm_cr269, List.forall_mem_cons.mpr ⟨mm_cr270, List.forall_mem_cons.mpr ⟨mm_cr271, List.forall_mem_cons.mpr ⟨mm_cr272, List.forall_mem_cons.mpr ⟨mm_cr273, List.forall_mem_cons.mpr ⟨mm_cr274, List.forall_mem_cons.mpr ⟨mm_cr275, List.forall_mem_cons.mpr ⟨mm_cr276, List.forall_mem_cons.mpr ⟨mm_cr277, List.forall_mem_cons.mpr ⟨mm_cr278, List.forall_mem_cons.mpr ⟨mm_cr279, fun _ h => absurd h List.not_mem_nil⟩⟩⟩⟩⟩⟩⟩⟩⟩⟩⟩⟩⟩⟩⟩⟩⟩⟩⟩⟩⟩⟩⟩⟩⟩⟩⟩⟩⟩⟩⟩⟩⟩⟩⟩⟩⟩⟩⟩⟩
theorem mm_cs7 : ∀ a ∈ mm_ch7, mm_crP a := List.forall_mem_cons.mpr ⟨mm_cr280, List.forall_mem_cons.mpr ⟨mm_cr281, List.forall_mem_cons.mpr ⟨mm_cr282, List.forall_mem_cons.mpr ⟨mm_cr283, List.forall_mem_cons.mpr ⟨mm_cr284, List.forall_mem_cons.mpr ⟨mm_cr285, List.forall_mem_cons.mpr ⟨mm_cr286, List.forall_mem_cons.mpr ⟨mm_cr287, List.forall_mem_cons.mpr ⟨mm_cr288, List.forall_mem_cons.mpr ⟨mm_cr289, List.forall_mem_cons.mpr ⟨mm_cr290, List.forall_mem_cons.mpr ⟨mm_cr291, List.forall_mem_cons.mpr ⟨mm_cr292, List.forall_mem_cons.mpr ⟨mm_cr293, List.forall_mem_cons.mpr ⟨mm_cr294, List.forall_mem_cons.mpr ⟨mm_cr295, List.forall_mem_cons.mpr ⟨mm_cr296, List.forall_mem_cons.mpr ⟨mm_cr297, List.forall_mem_cons.mpr ⟨mm_cr298, List.forall_mem_cons.mpr ⟨mm_cr299, List.forall_mem_cons.mpr ⟨mm_cr300, List.forall_mem_cons.mpr ⟨mm_cr301, List.forall_mem_cons.mpr ⟨mm_cr302, List.forall_mem_cons.mpr ⟨mm_cr303, List.forall_mem_cons.mpr ⟨mm_cr304, List.forall_mem_cons.mpr ⟨mm_cr305, List.forall_mem_cons.mpr ⟨mm_cr306, List.forall_mem_cons.mpr ⟨mm_cr307, List.forall_mem_cons.mpr ⟨mm_cr308, List.forall_mem_cons.mpr ⟨mm_cr309, List.forall_mem_cons.mpr ⟨mm_cr310, List.forall_mem_cons.mpr ⟨mm_cr311, List.forall_mem_cons.mpr ⟨mm_cr312, List.forall_mem_cons.mpr ⟨mm_cr313, List.forall_mem_cons.mpr ⟨mm_cr314, List.forall_mem_cons.mpr ⟨mm_cr315, List.forall_mem_cons.mpr ⟨mm_cr316, List.forall_mem_cons.mpr ⟨mm_cr317, List.forall_mem_cons.mpr ⟨mm_cr318, List.forall_mem_cons.mpr ⟨mm_cr319, fun _ h => absurd h List.not_mem_nil⟩⟩⟩⟩⟩⟩⟩⟩⟩⟩⟩⟩⟩⟩⟩⟩⟩⟩⟩⟩⟩⟩⟩⟩⟩⟩⟩⟩⟩⟩⟩⟩⟩⟩⟩⟩⟩⟩⟩⟩
theorem mm_cs8 : ∀ a ∈ mm_ch8, mm_crP a := List.forall_mem_cons.mpr ⟨mm_cr320, List.forall_mem_cons.mpr ⟨mm_cr321, List.forall_mem_cons.mpr ⟨mm_cr322, List.forall_mem_cons.mpr ⟨mm_cr323, List.forall_mem_cons.mpr ⟨mm_cr324, List.forall_mem_cons.mpr ⟨mm_cr325, List.forall_mem_cons.mpr ⟨mm_cr326, List.forall_mem_cons.mpr ⟨mm_cr327, List.forall_mem_cons.mpr ⟨mm_cr328, List.forall_mem_cons.mpr ⟨mm_cr329, List.forall_mem_cons.mpr ⟨mm_cr330, List.forall_mem_cons.mpr ⟨mm_cr331, List.forall_mem_cons.mpr ⟨mm_cr332, List.forall_mem_cons.mpr ⟨mm_cr333, List.forall_mem_cons.mpr ⟨mm_cr334, List.forall_mem_cons.mpr ⟨mm_cr335, List.forall_mem_cons.mpr ⟨mm_cr336, List.forall_mem_cons.mpr ⟨mm_cr337, List.forall_mem_cons.mpr ⟨mm_cr338, List.forall_mem_cons.mpr ⟨mm_cr339, List.forall_mem_cons.mpr ⟨mm_cr340, List.forall_mem_cons.mpr ⟨mm_cr341, List.forall_mem_cons.mpr ⟨mm_cr342, List.forall_mem_cons.mpr ⟨mm_cr343, List.forall_mem_cons.mpr ⟨mm_cr344, List.forall_mem_cons.mpr ⟨mm_cr345, List.forall_mem_cons.mpr ⟨mm_cr346, List.forall_mem_cons.mpr ⟨mm_cr347, List.forall_mem_cons.mpr ⟨mm_cr348, List.forall_mem_cons.mpr ⟨mm_cr349, List.forall_mem_cons.mpr ⟨mm_cr350, List.forall_mem_cons.mpr ⟨mm_cr351, List.forall_mem_cons.mpr ⟨mm_cr352, List.forall_mem_cons.mpr ⟨mm_cr353, List.forall_mem_cons.mpr ⟨mm_cr354, List.forall_mem_cons.mpr ⟨mm_cr355, List.forall_mem_cons.mpr ⟨mm_cr356, List.forall_mem_cons.mpr ⟨mm_cr357, List.forall_mem_cons.mpr ⟨mm_cr358, List.forall_mem_cons.mpr ⟨mm_cr359, fun _ h => absurd h List.not_mem_nil⟩⟩⟩⟩⟩⟩⟩⟩⟩⟩⟩⟩⟩⟩⟩⟩⟩⟩⟩⟩⟩⟩⟩⟩⟩⟩⟩⟩⟩⟩⟩⟩⟩⟩⟩⟩⟩⟩⟩⟩
theorem mm_cs9 : ∀ a ∈ mm_ch9, mm_crP a := List.forall_mem_cons.mpr ⟨mm_cr361, List.forall_mem_cons.mpr ⟨mm_cr362, fun _ h => absurd h List.not_mem_nil⟩⟩
theorem mm_code_all {a : Nat} (h : a < 363) (h9 : a ≠ 360) : mm_hh a = [] → Cond.code (mm_Y a) (mm_B a) (mm_ml a) (mm_T a) ∈ lw_tbl := by
  have h2 := mm_chall a h h9
  simp only [List.mem_append] at h2
  rcases h2 with ((((((((h2 | h2) | h2) | h2) | h2) | h2) | h2) | h2) | h2) | h2
  · exact mm_cs0 a h2
  · exact mm_cs1 a h2
  · exact mm_cs2 a h2
  · exact mm_cs3 a h2
  · exact mm_cs4 a h2
  · exact mm_cs5 a h2
  · exact mm_cs6 a h2
  · exact mm_cs7 a h2
  · exact mm_cs8 a h2
  · exact mm_cs9 a h2
end MMf
