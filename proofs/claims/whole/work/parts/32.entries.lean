/-! THE TABLES ARE RIGHT, entry by entry -/
section MMd
def mm_cwP (a : Nat) : Prop := (Cond.code (mm_Y a) (mm_B a) (mm_ml a) (mm_T a) ∈ lw_tbl ∧ mm_hh a = []) ∨ Cond.codeWith (mm_Y a) (mm_B a) (mm_ml a) (mm_T a) (mm_hh a) ∈ lw_tbl
theorem mm_cp0 : mm_cwP 0 := Or.inl ⟨mm_w_in mm_cw0, rfl⟩
theorem mm_cp1 : mm_cwP 1 := Or.inl ⟨mm_w_in mm_cw1, rfl⟩
theorem mm_cp2 : mm_cwP 2 := Or.inl ⟨mm_w_in mm_cw2, rfl⟩
theorem mm_cp3 : mm_cwP 3 := Or.inl ⟨mm_w_in mm_cw3, rfl⟩
theorem mm_cp4 : mm_cwP 4 := Or.inl ⟨mm_w_in mm_cw4, rfl⟩
theorem mm_cp5 : mm_cwP 5 := Or.inl ⟨mm_w_in mm_cw5, rfl⟩
theorem mm_cp6 : mm_cwP 6 := Or.inl ⟨mm_w_in mm_cw6, rfl⟩
theorem mm_cp7 : mm_cwP 7 := Or.inl ⟨mm_w_in mm_cw7, rfl⟩
theorem mm_cp8 : mm_cwP 8 := Or.inl ⟨mm_w_in mm_cw8, rfl⟩
theorem mm_cp9 : mm_cwP 9 := Or.inl ⟨mm_w_in mm_cw9, rfl⟩
theorem mm_cp10 : mm_cwP 10 := Or.inl ⟨mm_w_in mm_cw10, rfl⟩
theorem mm_cp11 : mm_cwP 11 := Or.inl ⟨mm_w_in mm_cw11, rfl⟩
theorem mm_cp12 : mm_cwP 12 := Or.inl ⟨mm_w_in mm_cw12, rfl⟩
theorem mm_cp13 : mm_cwP 13 := Or.inl ⟨mm_w_in mm_cw13, rfl⟩
theorem mm_cp14 : mm_cwP 14 := Or.inl ⟨mm_w_in mm_cw14, rfl⟩
theorem mm_cp15 : mm_cwP 15 := Or.inl ⟨mm_w_in mm_cw15, rfl⟩
theorem mm_cp16 : mm_cwP 16 := Or.inl ⟨mm_w_in mm_cw16, rfl⟩
theorem mm_cp17 : mm_cwP 17 := Or.inl ⟨mm_w_in mm_cw17, rfl⟩
theorem mm_cp18 : mm_cwP 18 := Or.inl ⟨mm_w_in mm_cw18, rfl⟩
theorem mm_cp19 : mm_cwP 19 := Or.inl ⟨mm_w_in mm_cw19, rfl⟩
theorem mm_cp20 : mm_cwP 20 := Or.inl ⟨mm_w_in mm_cw20, rfl⟩
theorem mm_cp21 : mm_cwP 21 := Or.inl ⟨mm_w_in mm_cw21, rfl⟩
theorem mm_cp22 : mm_cwP 22 := Or.inl ⟨mm_w_in mm_cw22, rfl⟩
theorem mm_cp23 : mm_cwP 23 := Or.inl ⟨mm_w_in mm_cw23, rfl⟩
theorem mm_cp24 : mm_cwP 24 := Or.inl ⟨mm_w_in mm_cw24, rfl⟩
theorem mm_cp25 : mm_cwP 25 := Or.inl ⟨mm_w_in mm_cw25, rfl⟩
theorem mm_cp26 : mm_cwP 26 := Or.inl ⟨mm_w_in mm_cw26, rfl⟩
theorem mm_cp27 : mm_cwP 27 := Or.inl ⟨mm_w_in mm_cw27, rfl⟩
theorem mm_cp28 : mm_cwP 28 := Or.inl ⟨mm_w_in mm_cw28, rfl⟩
theorem mm_cp29 : mm_cwP 29 := Or.inl ⟨mm_w_in mm_cw29, rfl⟩
theorem mm_cp30 : mm_cwP 30 := Or.inl ⟨mm_w_in mm_cw30, rfl⟩
theorem mm_cp31 : mm_cwP 31 := Or.inl ⟨mm_w_in mm_cw31, rfl⟩
theorem mm_cp32 : mm_cwP 32 := Or.inl ⟨mm_w_in mm_cw32, rfl⟩
theorem mm_cp33 : mm_cwP 33 := Or.inl ⟨mm_w_in mm_cw33, rfl⟩
theorem mm_cp34 : mm_cwP 34 := Or.inl ⟨mm_w_in mm_cw34, rfl⟩
theorem mm_cp35 : mm_cwP 35 := Or.inl ⟨mm_w_in mm_cw35, rfl⟩
theorem mm_cp36 : mm_cwP 36 := Or.inl ⟨mm_w_in mm_cw36, rfl⟩
theorem mm_cp37 : mm_cwP 37 := Or.inl ⟨mm_w_in mm_cw37, rfl⟩
theorem mm_cp38 : mm_cwP 38 := Or.inl ⟨mm_w_in mm_cw38, rfl⟩
theorem mm_cp39 : mm_cwP 39 := Or.inl ⟨mm_w_in mm_cw39, rfl⟩
theorem mm_cp40 : mm_cwP 40 := Or.inl ⟨mm_w_in mm_cw40, rfl⟩
theorem mm_cp41 : mm_cwP 41 := Or.inl ⟨mm_w_in mm_cw41, rfl⟩
theorem mm_cp42 : mm_cwP 42 := Or.inl ⟨mm_w_in mm_cw42, rfl⟩
theorem mm_cp43 : mm_cwP 43 := Or.inl ⟨mm_w_in mm_cw43, rfl⟩
theorem mm_cp44 : mm_cwP 44 := Or.inl ⟨mm_w_in mm_cw44, rfl⟩
theorem mm_cp45 : mm_cwP 45 := Or.inl ⟨mm_w_in mm_cw45, rfl⟩
theorem mm_cp46 : mm_cwP 46 := Or.inl ⟨mm_w_in mm_cw46, rfl⟩
theorem mm_cp47 : mm_cwP 47 := Or.inl ⟨mm_w_in mm_cw47, rfl⟩
theorem mm_cp48 : mm_cwP 48 := Or.inl ⟨mm_w_in mm_cw48, rfl⟩
theorem mm_cp49 : mm_cwP 49 := Or.inl ⟨mm_w_in mm_cw49, rfl⟩
theorem mm_cp50 : mm_cwP 50 := Or.inl ⟨mm_w_in mm_cw50, rfl⟩
theorem mm_cp51 : mm_cwP 51 := Or.inl ⟨mm_w_in mm_cw51, rfl⟩
theorem mm_cp52 : mm_cwP 52 := Or.inl ⟨mm_w_in mm_cw52, rfl⟩
theorem mm_cp53 : mm_cwP 53 := Or.inl ⟨mm_w_in mm_cw53, rfl⟩
theorem mm_cp54 : mm_cwP 54 := Or.inl ⟨mm_w_in mm_cw54, rfl⟩
theorem mm_cp55 : mm_cwP 55 := Or.inl ⟨mm_w_in mm_cw55, rfl⟩
theorem mm_cp56 : mm_cwP 56 := Or.inl ⟨mm_w_in mm_cw56, rfl⟩
theorem mm_cp57 : mm_cwP 57 := Or.inl ⟨mm_w_in mm_cw57, rfl⟩
theorem mm_cp58 : mm_cwP 58 := Or.inl ⟨mm_w_in mm_cw58, rfl⟩
theorem mm_cp59 : mm_cwP 59 := Or.inl ⟨mm_w_in mm_cw59, rfl⟩
theorem mm_cp60 : mm_cwP 60 := Or.inl ⟨mm_w_in mm_cw60, rfl⟩
theorem mm_cp61 : mm_cwP 61 := Or.inl ⟨mm_w_in mm_cw61, rfl⟩
theorem mm_cp62 : mm_cwP 62 := Or.inl ⟨mm_w_in mm_cw62, rfl⟩
theorem mm_cp63 : mm_cwP 63 := Or.inl ⟨mm_w_in mm_cw63, rfl⟩
theorem mm_cp64 : mm_cwP 64 := Or.inl ⟨mm_w_in mm_cw64, rfl⟩
theorem mm_cp65 : mm_cwP 65 := Or.inl ⟨mm_w_in mm_cw65, rfl⟩
theorem mm_cp66 : mm_cwP 66 := Or.inl ⟨mm_w_in mm_cw66, rfl⟩
theorem mm_cp67 : mm_cwP 67 := Or.inl ⟨mm_w_in mm_cw67, rfl⟩
theorem mm_cp68 : mm_cwP 68 := Or.inl ⟨mm_w_in mm_cw68, rfl⟩
theorem mm_cp69 : mm_cwP 69 := Or.inl ⟨mm_w_in mm_cw69, rfl⟩
theorem mm_cp70 : mm_cwP 70 := Or.inl ⟨mm_w_in mm_cw70, rfl⟩
theorem mm_cp71 : mm_cwP 71 := Or.inl ⟨mm_w_in mm_cw71, rfl⟩
theorem mm_cp72 : mm_cwP 72 := Or.inl ⟨mm_w_in mm_cw72, rfl⟩
theorem mm_cp73 : mm_cwP 73 := Or.inl ⟨mm_w_in mm_cw73, rfl⟩
theorem mm_cp74 : mm_cwP 74 := Or.inl ⟨mm_w_in mm_cw74, rfl⟩
theorem mm_cp75 : mm_cwP 75 := Or.inl ⟨mm_w_in mm_cw75, rfl⟩
theorem mm_cp76 : mm_cwP 76 := Or.inl ⟨mm_w_in mm_cw76, rfl⟩
theorem mm_cp77 : mm_cwP 77 := Or.inl ⟨mm_w_in mm_cw77, rfl⟩
theorem mm_cp78 : mm_cwP 78 := Or.inl ⟨mm_w_in mm_cw78, rfl⟩
theorem mm_cp79 : mm_cwP 79 := Or.inl ⟨mm_w_in mm_cw79, rfl⟩
theorem mm_cp80 : mm_cwP 80 := Or.inl ⟨mm_w_in mm_cw80, rfl⟩
theorem mm_cp81 : mm_cwP 81 := Or.inl ⟨mm_w_in mm_cw81, rfl⟩
theorem mm_cp82 : mm_cwP 82 := Or.inl ⟨mm_w_in mm_cw82, rfl⟩
theorem mm_cp83 : mm_cwP 83 := Or.inl ⟨mm_w_in mm_cw83, rfl⟩
theorem mm_cp84 : mm_cwP 84 := Or.inl ⟨mm_w_in mm_cw84, rfl⟩
theorem mm_cp85 : mm_cwP 85 := Or.inl ⟨mm_w_in mm_cw85, rfl⟩
theorem mm_cp86 : mm_cwP 86 := Or.inl ⟨mm_w_in mm_cw86, rfl⟩
theorem mm_cp87 : mm_cwP 87 := Or.inl ⟨mm_w_in mm_cw87, rfl⟩
theorem mm_cp88 : mm_cwP 88 := Or.inl ⟨mm_w_in mm_cw88, rfl⟩
theorem mm_cp89 : mm_cwP 89 := Or.inl ⟨mm_w_in mm_cw89, rfl⟩
theorem mm_cp90 : mm_cwP 90 := Or.inl ⟨mm_w_in mm_cw90, rfl⟩
theorem mm_cp91 : mm_cwP 91 := Or.inl ⟨mm_w_in mm_cw91, rfl⟩
theorem mm_cp92 : mm_cwP 92 := Or.inl ⟨mm_w_in mm_cw92, rfl⟩
theorem mm_cp93 : mm_cwP 93 := Or.inl ⟨mm_w_in mm_cw93, rfl⟩
theorem mm_cp94 : mm_cwP 94 := Or.inl ⟨mm_w_in mm_cw94, rfl⟩
theorem mm_cp95 : mm_cwP 95 := Or.inl ⟨mm_w_in mm_cw95, rfl⟩
theorem mm_cp96 : mm_cwP 96 := Or.inl ⟨mm_w_in mm_cw96, rfl⟩
theorem mm_cp97 : mm_cwP 97 := Or.inl ⟨mm_w_in mm_cw97, rfl⟩
theorem mm_cp98 : mm_cwP 98 := Or.inl ⟨mm_w_in mm_cw98, rfl⟩
theorem mm_cp99 : mm_cwP 99 := Or.inl ⟨mm_w_in mm_cw99, rfl⟩
theorem mm_cp100 : mm_cwP 100 := Or.inl ⟨mm_w_in mm_cw100, rfl⟩
theorem mm_cp101 : mm_cwP 101 := Or.inl ⟨mm_w_in mm_cw101, rfl⟩
theorem mm_cp102 : mm_cwP 102 := Or.inl ⟨mm_w_in mm_cw102, rfl⟩
theorem mm_cp103 : mm_cwP 103 := Or.inl ⟨mm_w_in mm_cw103, rfl⟩
theorem mm_cp104 : mm_cwP 104 := Or.inl ⟨mm_w_in mm_cw104, rfl⟩
theorem mm_cp105 : mm_cwP 105 := Or.inl ⟨mm_w_in mm_cw105, rfl⟩
theorem mm_cp106 : mm_cwP 106 := Or.inl ⟨mm_w_in mm_cw106, rfl⟩
theorem mm_cp107 : mm_cwP 107 := Or.inl ⟨mm_w_in mm_cw107, rfl⟩
theorem mm_cp108 : mm_cwP 108 := Or.inl ⟨mm_w_in mm_cw108, rfl⟩
theorem mm_cp109 : mm_cwP 109 := Or.inl ⟨mm_w_in mm_cw109, rfl⟩
theorem mm_cp110 : mm_cwP 110 := Or.inl ⟨mm_w_in mm_cw110, rfl⟩
theorem mm_cp111 : mm_cwP 111 := Or.inl ⟨mm_w_in mm_cw111, rfl⟩
theorem mm_cp112 : mm_cwP 112 := Or.inl ⟨mm_w_in mm_cw112, rfl⟩
theorem mm_cp113 : mm_cwP 113 := Or.inl ⟨mm_w_in mm_cw113, rfl⟩
theorem mm_cp114 : mm_cwP 114 := Or.inl ⟨mm_w_in mm_cw114, rfl⟩
theorem mm_cp115 : mm_cwP 115 := Or.inl ⟨mm_w_in mm_cw115, rfl⟩
theorem mm_cp116 : mm_cwP 116 := Or.inl ⟨mm_w_in mm_cw116, rfl⟩
theorem mm_cp117 : mm_cwP 117 := Or.inl ⟨mm_w_in mm_cw117, rfl⟩
theorem mm_cp118 : mm_cwP 118 := Or.inl ⟨mm_w_in mm_cw118, rfl⟩
theorem mm_cp119 : mm_cwP 119 := Or.inl ⟨mm_w_in mm_cw119, rfl⟩
theorem mm_cp120 : mm_cwP 120 := Or.inl ⟨mm_w_in mm_cw120, rfl⟩
theorem mm_cp121 : mm_cwP 121 := Or.inl ⟨mm_w_in mm_cw121, rfl⟩
theorem mm_cp122 : mm_cwP 122 := Or.inl ⟨mm_w_in mm_cw122, rfl⟩
theorem mm_cp123 : mm_cwP 123 := Or.inl ⟨mm_w_in mm_cw123, rfl⟩
theorem mm_cp124 : mm_cwP 124 := Or.inl ⟨mm_w_in mm_cw124, rfl⟩
theorem mm_cp125 : mm_cwP 125 := Or.inl ⟨mm_w_in mm_cw125, rfl⟩
theorem mm_cp126 : mm_cwP 126 := Or.inl ⟨mm_w_in mm_cw126, rfl⟩
theorem mm_cp127 : mm_cwP 127 := Or.inl ⟨mm_w_in mm_cw127, rfl⟩
theorem mm_cp128 : mm_cwP 128 := Or.inl ⟨mm_w_in mm_cw128, rfl⟩
theorem mm_cp129 : mm_cwP 129 := Or.inl ⟨mm_w_in mm_cw129, rfl⟩
theorem mm_cp130 : mm_cwP 130 := Or.inl ⟨mm_w_in mm_cw130, rfl⟩
theorem mm_cp131 : mm_cwP 131 := Or.inl ⟨mm_w_in mm_cw131, rfl⟩
theorem mm_cp132 : mm_cwP 132 := Or.inl ⟨mm_w_in mm_cw132, rfl⟩
theorem mm_cp133 : mm_cwP 133 := Or.inl ⟨mm_w_in mm_cw133, rfl⟩
theorem mm_cp134 : mm_cwP 134 := Or.inl ⟨mm_w_in mm_cw134, rfl⟩
theorem mm_cp135 : mm_cwP 135 := Or.inl ⟨mm_w_in mm_cw135, rfl⟩
theorem mm_cp136 : mm_cwP 136 := Or.inl ⟨mm_w_in mm_cw136, rfl⟩
theorem mm_cp137 : mm_cwP 137 := Or.inl ⟨mm_w_in mm_cw137, rfl⟩
theorem mm_cp138 : mm_cwP 138 := Or.inl ⟨mm_w_in mm_cw138, rfl⟩
theorem mm_cp139 : mm_cwP 139 := Or.inl ⟨mm_w_in mm_cw139, rfl⟩
theorem mm_cp140 : mm_cwP 140 := Or.inl ⟨mm_w_in mm_cw140, rfl⟩
theorem mm_cp141 : mm_cwP 141 := Or.inl ⟨mm_w_in mm_cw141, rfl⟩
theorem mm_cp142 : mm_cwP 142 := Or.inl ⟨mm_w_in mm_cw142, rfl⟩
theorem mm_cp143 : mm_cwP 143 := Or.inl ⟨mm_w_in mm_cw143, rfl⟩
theorem mm_cp144 : mm_cwP 144 := Or.inl ⟨mm_w_in mm_cw144, rfl⟩
theorem mm_cp145 : mm_cwP 145 := Or.inl ⟨mm_w_in mm_cw145, rfl⟩
theorem mm_cp146 : mm_cwP 146 := Or.inl ⟨mm_w_in mm_cw146, rfl⟩
theorem mm_cp147 : mm_cwP 147 := Or.inl ⟨mm_w_in mm_cw147, rfl⟩
theorem mm_cp148 : mm_cwP 148 := Or.inl ⟨mm_w_in mm_cw148, rfl⟩
theorem mm_cp149 : mm_cwP 149 := Or.inl ⟨mm_w_in mm_cw149, rfl⟩
theorem mm_cp150 : mm_cwP 150 := Or.inl ⟨mm_w_in mm_cw150, rfl⟩
theorem mm_cp151 : mm_cwP 151 := Or.inl ⟨mm_w_in mm_cw151, rfl⟩
theorem mm_cp152 : mm_cwP 152 := Or.inl ⟨mm_w_in mm_cw152, rfl⟩
theorem mm_cp153 : mm_cwP 153 := Or.inl ⟨mm_w_in mm_cw153, rfl⟩
theorem mm_cp154 : mm_cwP 154 := Or.inl ⟨mm_w_in mm_cw154, rfl⟩
theorem mm_cp155 : mm_cwP 155 := Or.inl ⟨mm_w_in mm_cw155, rfl⟩
theorem mm_cp156 : mm_cwP 156 := Or.inl ⟨mm_w_in mm_cw156, rfl⟩
theorem mm_cp157 : mm_cwP 157 := Or.inl ⟨mm_w_in mm_cw157, rfl⟩
theorem mm_cp158 : mm_cwP 158 := Or.inl ⟨mm_w_in mm_cw158, rfl⟩
theorem mm_cp159 : mm_cwP 159 := Or.inl ⟨mm_w_in mm_cw159, rfl⟩
theorem mm_cp160 : mm_cwP 160 := Or.inl ⟨mm_w_in mm_cw160, rfl⟩
theorem mm_cp161 : mm_cwP 161 := Or.inl ⟨mm_w_in mm_cw161, rfl⟩
theorem mm_cp162 : mm_cwP 162 := Or.inl ⟨mm_w_in mm_cw162, rfl⟩
theorem mm_cp163 : mm_cwP 163 := Or.inl ⟨mm_w_in mm_cw163, rfl⟩
theorem mm_cp164 : mm_cwP 164 := Or.inl ⟨mm_w_in mm_cw164, rfl⟩
theorem mm_cp165 : mm_cwP 165 := Or.inl ⟨mm_w_in mm_cw165, rfl⟩
theorem mm_cp166 : mm_cwP 166 := Or.inl ⟨mm_w_in mm_cw166, rfl⟩
theorem mm_cp167 : mm_cwP 167 := Or.inl ⟨mm_w_in mm_cw167, rfl⟩
theorem mm_cp168 : mm_cwP 168 := Or.inl ⟨mm_w_in mm_cw168, rfl⟩
theorem mm_cp169 : mm_cwP 169 := Or.inl ⟨mm_w_in mm_cw169, rfl⟩
theorem mm_cp170 : mm_cwP 170 := Or.inl ⟨mm_w_in mm_cw170, rfl⟩
theorem mm_cp171 : mm_cwP 171 := Or.inl ⟨mm_w_in mm_cw171, rfl⟩
theorem mm_cp172 : mm_cwP 172 := Or.inl ⟨mm_w_in mm_cw172, rfl⟩
theorem mm_cp173 : mm_cwP 173 := Or.inl ⟨mm_w_in mm_cw173, rfl⟩
theorem mm_cp174 : mm_cwP 174 := Or.inl ⟨mm_w_in mm_cw174, rfl⟩
theorem mm_cp175 : mm_cwP 175 := Or.inl ⟨mm_w_in mm_cw175, rfl⟩
theorem mm_cp176 : mm_cwP 176 := Or.inl ⟨mm_w_in mm_cw176, rfl⟩
theorem mm_cp177 : mm_cwP 177 := Or.inl ⟨mm_w_in mm_cw177, rfl⟩
theorem mm_cp178 : mm_cwP 178 := Or.inl ⟨mm_w_in mm_cw178, rfl⟩
theorem mm_cp179 : mm_cwP 179 := Or.inl ⟨mm_w_in mm_cw179, rfl⟩
theorem mm_cp180 : mm_cwP 180 := Or.inl ⟨mm_w_in mm_cw180, rfl⟩
theorem mm_cp181 : mm_cwP 181 := Or.inl ⟨mm_w_in mm_cw181, rfl⟩
theorem mm_cp182 : mm_cwP 182 := Or.inl ⟨mm_w_in mm_cw182, rfl⟩
theorem mm_cp183 : mm_cwP 183 := Or.inl ⟨mm_w_in mm_cw183, rfl⟩
theorem mm_cp184 : mm_cwP 184 := Or.inl ⟨mm_w_in mm_cw184, rfl⟩
theorem mm_cp185 : mm_cwP 185 := Or.inl ⟨mm_w_in mm_cw185, rfl⟩
theorem mm_cp186 : mm_cwP 186 := Or.inl ⟨mm_w_in mm_cw186, rfl⟩
theorem mm_cp187 : mm_cwP 187 := Or.inl ⟨mm_w_in mm_cw187, rfl⟩
theorem mm_cp188 : mm_cwP 188 := Or.inl ⟨mm_w_in mm_cw188, rfl⟩
theorem mm_cp189 : mm_cwP 189 := Or.inl ⟨mm_w_in mm_cw189, rfl⟩
theorem mm_cp190 : mm_cwP 190 := Or.inl ⟨mm_w_in mm_cw190, rfl⟩
theorem mm_cp191 : mm_cwP 191 := Or.inl ⟨mm_w_in mm_cw191, rfl⟩
theorem mm_cp192 : mm_cwP 192 := Or.inl ⟨mm_w_in mm_cw192, rfl⟩
theorem mm_cp193 : mm_cwP 193 := Or.inl ⟨mm_w_in mm_cw193, rfl⟩
theorem mm_cp194 : mm_cwP 194 := Or.inl ⟨mm_w_in mm_cw194, rfl⟩
theorem mm_cp195 : mm_cwP 195 := Or.inl ⟨mm_w_in mm_cw195, rfl⟩
theorem mm_cp196 : mm_cwP 196 := Or.inl ⟨mm_w_in mm_cw196, rfl⟩
theorem mm_cp197 : mm_cwP 197 := Or.inl ⟨mm_w_in mm_cw197, rfl⟩
theorem mm_cp198 : mm_cwP 198 := Or.inl ⟨mm_w_in mm_cw198, rfl⟩
theorem mm_cp199 : mm_cwP 199 := Or.inl ⟨mm_w_in mm_cw199, rfl⟩
theorem mm_cp200 : mm_cwP 200 := Or.inl ⟨mm_w_in mm_cw200, rfl⟩
theorem mm_cp201 : mm_cwP 201 := Or.inl ⟨mm_w_in mm_cw201, rfl⟩
theorem mm_cp202 : mm_cwP 202 := Or.inl ⟨mm_w_in mm_cw202, rfl⟩
theorem mm_cp203 : mm_cwP 203 := Or.inl ⟨mm_w_in mm_cw203, rfl⟩
theorem mm_cp204 : mm_cwP 204 := Or.inl ⟨mm_w_in mm_cw204, rfl⟩
theorem mm_cp205 : mm_cwP 205 := Or.inl ⟨mm_w_in mm_cw205, rfl⟩
theorem mm_cp206 : mm_cwP 206 := Or.inl ⟨mm_w_in mm_cw206, rfl⟩
theorem mm_cp207 : mm_cwP 207 := Or.inl ⟨mm_w_in mm_cw207, rfl⟩
theorem mm_cp208 : mm_cwP 208 := Or.inl ⟨mm_w_in mm_cw208, rfl⟩
theorem mm_cp209 : mm_cwP 209 := Or.inl ⟨mm_w_in mm_cw209, rfl⟩
theorem mm_cp210 : mm_cwP 210 := Or.inl ⟨mm_w_in mm_cw210, rfl⟩
theorem mm_cp211 : mm_cwP 211 := Or.inl ⟨mm_w_in mm_cw211, rfl⟩
theorem mm_cp212 : mm_cwP 212 := Or.inl ⟨mm_w_in mm_cw212, rfl⟩
theorem mm_cp213 : mm_cwP 213 := Or.inl ⟨mm_w_in mm_cw213, rfl⟩
theorem mm_cp214 : mm_cwP 214 := Or.inl ⟨mm_w_in mm_cw214, rfl⟩
theorem mm_cp215 : mm_cwP 215 := Or.inl ⟨mm_w_in mm_cw215, rfl⟩
theorem mm_cp216 : mm_cwP 216 := Or.inl ⟨mm_w_in mm_cw216, rfl⟩
theorem mm_cp217 : mm_cwP 217 := Or.inl ⟨mm_w_in mm_cw217, rfl⟩
theorem mm_cp218 : mm_cwP 218 := Or.inl ⟨mm_w_in mm_cw218, rfl⟩
theorem mm_cp219 : mm_cwP 219 := Or.inl ⟨mm_w_in mm_cw219, rfl⟩
theorem mm_cp220 : mm_cwP 220 := Or.inl ⟨mm_w_in mm_cw220, rfl⟩
theorem mm_cp221 : mm_cwP 221 := Or.inl ⟨mm_w_in mm_cw221, rfl⟩
theorem mm_cp222 : mm_cwP 222 := Or.inl ⟨mm_w_in mm_cw222, rfl⟩
theorem mm_cp223 : mm_cwP 223 := Or.inl ⟨mm_w_in mm_cw223, rfl⟩
theorem mm_cp224 : mm_cwP 224 := Or.inl ⟨mm_w_in mm_cw224, rfl⟩
theorem mm_cp225 : mm_cwP 225 := Or.inl ⟨mm_w_in mm_cw225, rfl⟩
theorem mm_cp226 : mm_cwP 226 := Or.inl ⟨mm_w_in mm_cw226, rfl⟩
theorem mm_cp227 : mm_cwP 227 := Or.inl ⟨mm_w_in mm_cw227, rfl⟩
theorem mm_cp228 : mm_cwP 228 := Or.inl ⟨mm_w_in mm_cw228, rfl⟩
theorem mm_cp229 : mm_cwP 229 := Or.inl ⟨mm_w_in mm_cw229, rfl⟩
theorem mm_cp230 : mm_cwP 230 := Or.inl ⟨mm_w_in mm_cw230, rfl⟩
theorem mm_cp231 : mm_cwP 231 := Or.inl ⟨mm_w_in mm_cw231, rfl⟩
theorem mm_cp232 : mm_cwP 232 := Or.inl ⟨mm_w_in mm_cw232, rfl⟩
theorem mm_cp233 : mm_cwP 233 := Or.inl ⟨mm_w_in mm_cw233, rfl⟩
theorem mm_cp234 : mm_cwP 234 := Or.inl ⟨mm_w_in mm_cw234, rfl⟩
theorem mm_cp235 : mm_cwP 235 := Or.inl ⟨mm_w_in mm_cw235, rfl⟩
theorem mm_cp236 : mm_cwP 236 := Or.inl ⟨mm_w_in mm_cw236, rfl⟩
theorem mm_cp237 : mm_cwP 237 := Or.inl ⟨mm_w_in mm_cw237, rfl⟩
theorem mm_cp238 : mm_cwP 238 := Or.inl ⟨mm_w_in mm_cw238, rfl⟩
theorem mm_cp239 : mm_cwP 239 := Or.inl ⟨mm_w_in mm_cw239, rfl⟩
theorem mm_cp240 : mm_cwP 240 := Or.inl ⟨mm_w_in mm_cw240, rfl⟩
theorem mm_cp241 : mm_cwP 241 := Or.inl ⟨mm_w_in mm_cw241, rfl⟩
theorem mm_cp242 : mm_cwP 242 := Or.inl ⟨mm_w_in mm_cw242, rfl⟩
theorem mm_cp243 : mm_cwP 243 := Or.inl ⟨mm_w_in mm_cw243, rfl⟩
theorem mm_cp244 : mm_cwP 244 := Or.inl ⟨mm_w_in mm_cw244, rfl⟩
theorem mm_cp245 : mm_cwP 245 := Or.inl ⟨mm_w_in mm_cw245, rfl⟩
theorem mm_cp246 : mm_cwP 246 := Or.inl ⟨mm_w_in mm_cw246, rfl⟩
theorem mm_cp247 : mm_cwP 247 := Or.inl ⟨mm_w_in mm_cw247, rfl⟩
theorem mm_cp248 : mm_cwP 248 := Or.inl ⟨mm_w_in mm_cw248, rfl⟩
theorem mm_cp249 : mm_cwP 249 := Or.inl ⟨mm_w_in mm_cw249, rfl⟩
theorem mm_cp250 : mm_cwP 250 := Or.inl ⟨mm_w_in mm_cw250, rfl⟩
theorem mm_cp251 : mm_cwP 251 := Or.inl ⟨mm_w_in mm_cw251, rfl⟩
theorem mm_cp252 : mm_cwP 252 := Or.inl ⟨mm_w_in mm_cw252, rfl⟩
theorem mm_cp253 : mm_cwP 253 := Or.inl ⟨mm_w_in mm_cw253, rfl⟩
theorem mm_cp254 : mm_cwP 254 := Or.inl ⟨mm_w_in mm_cw254, rfl⟩
theorem mm_cp255 : mm_cwP 255 := Or.inl ⟨mm_w_in mm_cw255, rfl⟩
theorem mm_cp256 : mm_cwP 256 := Or.inl ⟨mm_w_in mm_cw256, rfl⟩
theorem mm_cp257 : mm_cwP 257 := Or.inl ⟨mm_w_in mm_cw257, rfl⟩
theorem mm_cp258 : mm_cwP 258 := Or.inl ⟨mm_w_in mm_cw258, rfl⟩
theorem mm_cp259 : mm_cwP 259 := Or.inl ⟨mm_w_in mm_cw259, rfl⟩
theorem mm_cp260 : mm_cwP 260 := Or.inl ⟨mm_w_in mm_cw260, rfl⟩
theorem mm_cp261 : mm_cwP 261 := Or.inl ⟨mm_w_in mm_cw261, rfl⟩
theorem mm_cp262 : mm_cwP 262 := Or.inl ⟨mm_w_in mm_cw262, rfl⟩
theorem mm_cp263 : mm_cwP 263 := Or.inl ⟨mm_w_in mm_cw263, rfl⟩
theorem mm_cp264 : mm_cwP 264 := Or.inl ⟨mm_w_in mm_cw264, rfl⟩
theorem mm_cp265 : mm_cwP 265 := Or.inl ⟨mm_w_in mm_cw265, rfl⟩
theorem mm_cp266 : mm_cwP 266 := Or.inl ⟨mm_w_in mm_cw266, rfl⟩
theorem mm_cp267 : mm_cwP 267 := Or.inl ⟨mm_w_in mm_cw267, rfl⟩
theorem mm_cp268 : mm_cwP 268 := Or.inl ⟨mm_w_in mm_cw268, rfl⟩
theorem mm_cp269 : mm_cwP 269 := Or.inl ⟨mm_w_in mm_cw269, rfl⟩
theorem mm_cp270 : mm_cwP 270 := Or.inl ⟨mm_w_in mm_cw270, rfl⟩
theorem mm_cp271 : mm_cwP 271 := Or.inl ⟨mm_w_in mm_cw271, rfl⟩
theorem mm_cp272 : mm_cwP 272 := Or.inl ⟨mm_w_in mm_cw272, rfl⟩
theorem mm_cp273 : mm_cwP 273 := Or.inl ⟨mm_w_in mm_cw273, rfl⟩
theorem mm_cp274 : mm_cwP 274 := Or.inl ⟨mm_w_in mm_cw274, rfl⟩
theorem mm_cp275 : mm_cwP 275 := Or.inl ⟨mm_w_in mm_cw275, rfl⟩
theorem mm_cp276 : mm_cwP 276 := Or.inl ⟨mm_w_in mm_cw276, rfl⟩
theorem mm_cp277 : mm_cwP 277 := Or.inl ⟨mm_w_in mm_cw277, rfl⟩
theorem mm_cp278 : mm_cwP 278 := Or.inl ⟨mm_w_in mm_cw278, rfl⟩
theorem mm_cp279 : mm_cwP 279 := Or.inl ⟨mm_w_in mm_cw279, rfl⟩
theorem mm_cp280 : mm_cwP 280 := Or.inl ⟨mm_w_in mm_cw280, rfl⟩
theorem mm_cp281 : mm_cwP 281 := Or.inl ⟨mm_w_in mm_cw281, rfl⟩
theorem mm_cp282 : mm_cwP 282 := Or.inl ⟨mm_w_in mm_cw282, rfl⟩
theorem mm_cp283 : mm_cwP 283 := Or.inl ⟨mm_w_in mm_cw283, rfl⟩
theorem mm_cp284 : mm_cwP 284 := Or.inl ⟨mm_w_in mm_cw284, rfl⟩
theorem mm_cp285 : mm_cwP 285 := Or.inl ⟨mm_w_in mm_cw285, rfl⟩
theorem mm_cp286 : mm_cwP 286 := Or.inl ⟨mm_w_in mm_cw286, rfl⟩
theorem mm_cp287 : mm_cwP 287 := Or.inl ⟨mm_w_in mm_cw287, rfl⟩
theorem mm_cp288 : mm_cwP 288 := Or.inl ⟨mm_w_in mm_cw288, rfl⟩
theorem mm_cp289 : mm_cwP 289 := Or.inl ⟨mm_w_in mm_cw289, rfl⟩
theorem mm_cp290 : mm_cwP 290 := Or.inl ⟨mm_w_in mm_cw290, rfl⟩
theorem mm_cp291 : mm_cwP 291 := Or.inl ⟨mm_w_in mm_cw291, rfl⟩
theorem mm_cp292 : mm_cwP 292 := Or.inl ⟨mm_w_in mm_cw292, rfl⟩
theorem mm_cp293 : mm_cwP 293 := Or.inl ⟨mm_w_in mm_cw293, rfl⟩
theorem mm_cp294 : mm_cwP 294 := Or.inl ⟨mm_w_in mm_cw294, rfl⟩
theorem mm_cp295 : mm_cwP 295 := Or.inl ⟨mm_w_in mm_cw295, rfl⟩
theorem mm_cp296 : mm_cwP 296 := Or.inl ⟨mm_w_in mm_cw296, rfl⟩
theorem mm_cp297 : mm_cwP 297 := Or.inl ⟨mm_w_in mm_cw297, rfl⟩
theorem mm_cp298 : mm_cwP 298 := Or.inl ⟨mm_w_in mm_cw298, rfl⟩
theorem mm_cp299 : mm_cwP 299 := Or.inl ⟨mm_w_in mm_cw299, rfl⟩
theorem mm_cp300 : mm_cwP 300 := Or.inl ⟨mm_w_in mm_cw300, rfl⟩
theorem mm_cp301 : mm_cwP 301 := Or.inl ⟨mm_w_in mm_cw301, rfl⟩
theorem mm_cp302 : mm_cwP 302 := Or.inl ⟨mm_w_in mm_cw302, rfl⟩
theorem mm_cp303 : mm_cwP 303 := Or.inl ⟨mm_w_in mm_cw303, rfl⟩
theorem mm_cp304 : mm_cwP 304 := Or.inl ⟨mm_w_in mm_cw304, rfl⟩
theorem mm_cp305 : mm_cwP 305 := Or.inl ⟨mm_w_in mm_cw305, rfl⟩
theorem mm_cp306 : mm_cwP 306 := Or.inl ⟨mm_w_in mm_cw306, rfl⟩
theorem mm_cp307 : mm_cwP 307 := Or.inl ⟨mm_w_in mm_cw307, rfl⟩
theorem mm_cp308 : mm_cwP 308 := Or.inl ⟨mm_w_in mm_cw308, rfl⟩
theorem mm_cp309 : mm_cwP 309 := Or.inl ⟨mm_w_in mm_cw309, rfl⟩
theorem mm_cp310 : mm_cwP 310 := Or.inl ⟨mm_w_in mm_cw310, rfl⟩
theorem mm_cp311 : mm_cwP 311 := Or.inl ⟨mm_w_in mm_cw311, rfl⟩
theorem mm_cp312 : mm_cwP 312 := Or.inl ⟨mm_w_in mm_cw312, rfl⟩
theorem mm_cp313 : mm_cwP 313 := Or.inl ⟨mm_w_in mm_cw313, rfl⟩
theorem mm_cp314 : mm_cwP 314 := Or.inl ⟨mm_w_in mm_cw314, rfl⟩
theorem mm_cp315 : mm_cwP 315 := Or.inl ⟨mm_w_in mm_cw315, rfl⟩
theorem mm_cp316 : mm_cwP 316 := Or.inl ⟨mm_w_in mm_cw316, rfl⟩
theorem mm_cp317 : mm_cwP 317 := Or.inl ⟨mm_w_in mm_cw317, rfl⟩
theorem mm_cp318 : mm_cwP 318 := Or.inl ⟨mm_w_in mm_cw318, rfl⟩
theorem mm_cp319 : mm_cwP 319 := Or.inl ⟨mm_w_in mm_cw319, rfl⟩
theorem mm_cp320 : mm_cwP 320 := Or.inl ⟨mm_w_in mm_cw320, rfl⟩
theorem mm_cp321 : mm_cwP 321 := Or.inl ⟨mm_w_in mm_cw321, rfl⟩
theorem mm_cp322 : mm_cwP 322 := Or.inl ⟨mm_w_in mm_cw322, rfl⟩
theorem mm_cp323 : mm_cwP 323 := Or.inl ⟨mm_w_in mm_cw323, rfl⟩
theorem mm_cp324 : mm_cwP 324 := Or.inl ⟨mm_w_in mm_cw324, rfl⟩
theorem mm_cp325 : mm_cwP 325 := Or.inl ⟨mm_w_in mm_cw325, rfl⟩
theorem mm_cp326 : mm_cwP 326 := Or.inl ⟨mm_w_in mm_cw326, rfl⟩
theorem mm_cp327 : mm_cwP 327 := Or.inl ⟨mm_w_in mm_cw327, rfl⟩
theorem mm_cp328 : mm_cwP 328 := Or.inl ⟨mm_w_in mm_cw328, rfl⟩
theorem mm_cp329 : mm_cwP 329 := Or.inl ⟨mm_w_in mm_cw329, rfl⟩
theorem mm_cp330 : mm_cwP 330 := Or.inl ⟨mm_w_in mm_cw330, rfl⟩
theorem mm_cp331 : mm_cwP 331 := Or.inl ⟨mm_w_in mm_cw331, rfl⟩
theorem mm_cp332 : mm_cwP 332 := Or.inl ⟨mm_w_in mm_cw332, rfl⟩
theorem mm_cp333 : mm_cwP 333 := Or.inl ⟨mm_w_in mm_cw333, rfl⟩
theorem mm_cp334 : mm_cwP 334 := Or.inl ⟨mm_w_in mm_cw334, rfl⟩
theorem mm_cp335 : mm_cwP 335 := Or.inl ⟨mm_w_in mm_cw335, rfl⟩
theorem mm_cp336 : mm_cwP 336 := Or.inl ⟨mm_w_in mm_cw336, rfl⟩
theorem mm_cp337 : mm_cwP 337 := Or.inl ⟨mm_w_in mm_cw337, rfl⟩
theorem mm_cp338 : mm_cwP 338 := Or.inr (mm_w_in mm_cw338)
theorem mm_cp339 : mm_cwP 339 := Or.inr (mm_w_in mm_cw339)
theorem mm_cp340 : mm_cwP 340 := Or.inr (mm_w_in mm_cw340)
theorem mm_cp341 : mm_cwP 341 := Or.inr (mm_w_in mm_cw341)
theorem mm_cp342 : mm_cwP 342 := Or.inr (mm_w_in mm_cw342)
theorem mm_cp343 : mm_cwP 343 := Or.inr (mm_w_in mm_cw343)
theorem mm_cp344 : mm_cwP 344 := Or.inr (mm_w_in mm_cw344)
theorem mm_cp345 : mm_cwP 345 := Or.inr (mm_w_in mm_cw345)
theorem mm_cp346 : mm_cwP 346 := Or.inr (mm_w_in mm_cw346)
theorem mm_cp347 : mm_cwP 347 := Or.inr (mm_w_in mm_cw347)
theorem mm_cp348 : mm_cwP 348 := Or.inr (mm_w_in mm_cw348)
theorem mm_cp349 : mm_cwP 349 := Or.inr (mm_w_in mm_cw349)
theorem mm_cp350 : mm_cwP 350 := Or.inr (mm_w_in mm_cw350)
theorem mm_cp351 : mm_cwP 351 := Or.inr (mm_w_in mm_cw351)
theorem mm_cp352 : mm_cwP 352 := Or.inr (mm_w_in mm_cw352)
theorem mm_cp353 : mm_cwP 353 := Or.inr (mm_w_in mm_cw353)
theorem mm_cp354 : mm_cwP 354 := Or.inr (mm_w_in mm_cw354)
theorem mm_cp355 : mm_cwP 355 := Or.inr (mm_w_in mm_cw355)
theorem mm_cp356 : mm_cwP 356 := Or.inr (mm_w_in mm_cw356)
theorem mm_cp357 : mm_cwP 357 := Or.inr (mm_w_in mm_cw357)
theorem mm_cp358 : mm_cwP 358 := Or.inr (mm_w_in mm_cw358)
theorem mm_cp359 : mm_cwP 359 := Or.inr (mm_w_in mm_cw359)
theorem mm_cp361 : mm_cwP 361 := Or.inl ⟨mm_w_in mm_cw361, rfl⟩
theorem mm_cp362 : mm_cwP 362 := Or.inl ⟨mm_w_in mm_cw362, rfl⟩
def mm_ch0 : List Nat := [0, 1, 2, 3, 4, 5, 6, 7, 8, 9, 10, 11, 12, 13, 14, 15, 16, 17, 18, 19, 20, 21, 22, 23, 24, 25, 26, 27, 28, 29, 30, 31, 32, 33, 34, 35, 36, 37, 38, 39]
theorem mm_cq0 : ∀ a ∈ mm_ch0, mm_cwP a := List.forall_mem_cons.mpr ⟨mm_cp0, List.forall_mem_cons.mpr ⟨mm_cp1, List.forall_mem_cons.mpr ⟨mm_cp2, List.forall_mem_cons.mpr ⟨mm_cp3, List.forall_mem_cons.mpr ⟨mm_cp4, List.forall_mem_cons.mpr ⟨mm_cp5, List.forall_mem_cons.mpr ⟨mm_cp6, List.forall_mem_cons.mpr ⟨mm_cp7, List.forall_mem_cons.mpr ⟨mm_cp8, List.forall_mem_cons.mpr ⟨mm_cp9, List.forall_mem_cons.mpr ⟨mm_cp10, List.forall_mem_cons.mpr ⟨mm_cp11, List.forall_mem_cons.mpr ⟨mm_cp12, List.forall_mem_cons.mpr ⟨mm_cp13, List.forall_mem_cons.mpr ⟨mm_cp14, List.forall_mem_cons.mpr ⟨mm_cp15, List.forall_mem_cons.mpr ⟨mm_cp16, List.forall_mem_cons.mpr ⟨mm_cp17, List.forall_mem_cons.mpr ⟨mm_cp18, List.forall_mem_cons.mpr ⟨mm_cp19, List.forall_mem_cons.mpr ⟨mm_cp20, List.forall_mem_cons.mpr ⟨mm_cp21, List.forall_mem_cons.mpr ⟨mm_cp22, List.forall_mem_cons.mpr ⟨mm_cp23, List.forall_mem_cons.mpr ⟨mm_cp24, List.forall_mem_cons.mpr ⟨mm_cp25, List.forall_mem_cons.mpr ⟨mm_cp26, List.forall_mem_cons.mpr ⟨mm_cp27, List.forall_mem_cons.mpr ⟨mm_cp28, List.forall_mem_cons.mpr ⟨mm_cp29, List.forall_mem_cons.mpr ⟨mm_cp30, List.forall_mem_cons.mpr ⟨mm_cp31, List.forall_mem_cons.mpr ⟨mm_cp32, List.forall_mem_cons.mpr ⟨mm_cp33, List.forall_mem_cons.mpr ⟨mm_cp34, List.forall_mem_cons.mpr ⟨mm_cp35, List.forall_mem_cons.mpr ⟨mm_cp36, List.forall_mem_cons.mpr ⟨mm_cp37, List.forall_mem_cons.mpr ⟨mm_cp38, List.forall_mem_cons.mpr ⟨mm_cp39, fun _ h => absurd h List.not_mem_nil⟩⟩⟩⟩⟩⟩⟩⟩⟩⟩⟩⟩⟩⟩⟩⟩⟩⟩⟩⟩⟩⟩⟩⟩⟩⟩⟩⟩⟩⟩⟩⟩⟩⟩⟩⟩⟩⟩⟩⟩
def mm_ch1 : List Nat := [40, 41, 42, 43, 44, 45, 46, 47, 48, 49, 50, 51, 52, 53, 54, 55, 56, 57, 58, 59, 60, 61, 62, 63, 64, 65, 66, 67, 68, 69, 70, 71, 72, 73, 74, 75, 76, 77, 78, 79]
theorem mm_cq1 : ∀ a ∈ mm_ch1, mm_cwP a := List.forall_mem_cons.mpr ⟨mm_cp40, List.forall_mem_cons.mpr ⟨mm_cp41, List.forall_mem_cons.mpr ⟨mm_cp42, List.forall_mem_cons.mpr ⟨mm_cp43, List.forall_mem_cons.mpr ⟨mm_cp44, List.forall_mem_cons.mpr ⟨mm_cp45, List.forall_mem_cons.mpr ⟨mm_cp46, List.forall_mem_cons.mpr ⟨mm_cp47, List.forall_mem_cons.mpr ⟨mm_cp48, List.forall_mem_cons.mpr ⟨mm_cp49, List.forall_mem_cons.mpr ⟨mm_cp50, List.forall_mem_cons.mpr ⟨mm_cp51, List.forall_mem_cons.mpr ⟨mm_cp52, List.forall_mem_cons.mpr ⟨mm_cp53, List.forall_mem_cons.mpr ⟨mm_cp54, List.forall_mem_cons.mpr ⟨mm_cp55, List.forall_mem_cons.mpr ⟨mm_cp56, List.forall_mem_cons.mpr ⟨mm_cp57, List.forall_mem_cons.mpr ⟨mm_cp58, List.forall_mem_cons.mpr ⟨mm_cp59, List.forall_mem_cons.mpr ⟨mm_cp60, List.forall_mem_cons.mpr ⟨mm_cp61, List.forall_mem_cons.mpr ⟨mm_cp62, List.forall_mem_cons.mpr ⟨mm_cp63, List.forall_mem_cons.mpr ⟨mm_cp64, List.forall_mem_cons.mpr ⟨mm_cp65, List.forall_mem_cons.mpr ⟨mm_cp66, List.forall_mem_cons.mpr ⟨mm_cp67, List.forall_mem_cons.mpr ⟨mm_cp68, List.forall_mem_cons.mpr ⟨mm_cp69, List.forall_mem_cons.mpr ⟨mm_cp70, List.forall_mem_cons.mpr ⟨mm_cp71, List.forall_mem_cons.mpr ⟨mm_cp72, List.forall_mem_cons.mpr ⟨mm_cp73, List.forall_mem_cons.mpr ⟨mm_cp74, List.forall_mem_cons.mpr ⟨mm_cp75, List.forall_mem_cons.mpr ⟨mm_cp76, List.forall_mem_cons.mpr ⟨mm_cp77, List.forall_mem_cons.mpr ⟨mm_cp78, List.forall_mem_cons.mpr ⟨mm_cp79, fun _ h => absurd h List.not_mem_nil⟩⟩⟩⟩⟩⟩⟩⟩⟩⟩⟩⟩⟩⟩⟩⟩⟩⟩⟩⟩⟩⟩⟩⟩⟩⟩⟩⟩⟩⟩⟩⟩⟩⟩⟩⟩⟩⟩⟩⟩
def mm_ch2 : List Nat := [80, 81, 82, 83, 84, 85, 86, 87, 88, 89, 90, 91, 92, 93, 94, 95, 96, 97, 98, 99, 100, 101, 102, 103, 104, 105, 106, 107, 108, 109, 110, 111, 112, 113, 114, 115, 116, 117, 118, 119]
theorem mm_cq2 : ∀ a ∈ mm_ch2, mm_cwP a := List.forall_mem_cons.mpr ⟨mm_cp80, List.forall_mem_cons.mpr ⟨mm_cp81, List.forall_mem_cons.mpr ⟨mm_cp82, List.forall_mem_cons.mpr ⟨mm_cp83, List.forall_mem_cons.mpr ⟨mm_cp84, List.forall_mem_cons.mpr ⟨mm_cp85, List.forall_mem_cons.mpr ⟨mm_cp86, List.forall_mem_cons.mpr ⟨mm_cp87, List.forall_mem_cons.mpr ⟨mm_cp88, List.forall_mem_cons.mpr ⟨mm_cp89, List.forall_mem_cons.mpr ⟨mm_cp90, List.forall_mem_cons.mpr ⟨mm_cp91, List.forall_mem_cons.mpr ⟨mm_cp92, List.forall_mem_cons.mpr ⟨mm_cp93, List.forall_mem_cons.mpr ⟨mm_cp94, List.forall_mem_cons.mpr ⟨mm_cp95, List.forall_mem_cons.mpr ⟨mm_cp96, List.forall_mem_cons.mpr ⟨mm_cp97, List.forall_mem_cons.mpr ⟨mm_cp98, List.forall_mem_cons.mpr ⟨mm_cp99, List.forall_mem_cons.mpr ⟨mm_cp100, List.forall_mem_cons.mpr ⟨mm_cp101, List.forall_mem_cons.mpr ⟨mm_cp102, List.forall_mem_cons.mpr ⟨mm_cp103, List.forall_mem_cons.mpr ⟨mm_cp104, List.forall_mem_cons.mpr ⟨mm_cp105, List.forall_mem_cons.mpr ⟨mm_cp106, List.forall_mem_cons.mpr ⟨mm_cp107, List.forall_mem_cons.mpr ⟨mm_cp108, List.forall_mem_cons.mpr ⟨mm_cp109, List.forall_mem_cons.mpr ⟨mm_cp110, List.forall_mem_cons.mpr ⟨mm_cp111, List.forall_mem_cons.mpr ⟨mm_cp112, List.forall_mem_cons.mpr ⟨mm_cp113, List.forall_mem_cons.mpr ⟨mm_cp114, List.forall_mem_cons.mpr ⟨mm_cp115, List.forall_mem_cons.mpr ⟨mm_cp116, List.forall_mem_cons.mpr ⟨mm_cp117, List.forall_mem_cons.mpr ⟨mm_cp118, List.forall_mem_cons.mpr ⟨mm_cp119, fun _ h => absurd h List.not_mem_nil⟩⟩⟩⟩⟩⟩⟩⟩⟩⟩⟩⟩⟩⟩⟩⟩⟩⟩⟩⟩⟩⟩⟩⟩⟩⟩⟩⟩⟩⟩⟩⟩⟩⟩⟩⟩⟩⟩⟩⟩
def mm_ch3 : List Nat := [120, 121, 122, 123, 124, 125, 126, 127, 128, 129, 130, 131, 132, 133, 134, 135, 136, 137, 138, 139, 140, 141, 142, 143, 144, 145, 146, 147, 148, 149, 150, 151, 152, 153, 154, 155, 156, 157, 158, 159]
theorem mm_cq3 : ∀ a ∈ mm_ch3, mm_cwP a := List.forall_mem_cons.mpr ⟨mm_cp120, List.forall_mem_cons.mpr ⟨mm_cp121, List.forall_mem_cons.mpr ⟨mm_cp122, List.forall_mem_cons.mpr ⟨mm_cp123, List.forall_mem_cons.mpr ⟨mm_cp124, List.forall_mem_cons.mpr ⟨mm_cp125, List.forall_mem_cons.mpr ⟨mm_cp126, List.forall_mem_cons.mpr ⟨mm_cp127, List.forall_mem_cons.mpr ⟨mm_cp128, List.forall_mem_cons.mpr ⟨mm_cp129, List.forall_mem_cons.mpr ⟨mm_cp130, List.forall_mem_cons.mpr ⟨mm_cp131, List.forall_mem_cons.mpr ⟨mm_cp132, List.forall_mem_cons.mpr ⟨mm_cp133, List.forall_mem_cons.mpr ⟨mm_cp134, List.forall_mem_cons.mpr ⟨mm_cp135, List.forall_mem_cons.mpr ⟨mm_cp136, List.forall_mem_cons.mpr ⟨mm_cp137, List.forall_mem_cons.mpr ⟨mm_cp138, List.forall_mem_cons.mpr ⟨mm_cp139, List.forall_mem_cons.mpr ⟨mm_cp140, List.forall_mem_cons.mpr ⟨mm_cp141, List.forall_mem_cons.mpr ⟨mm_cp142, List.forall_mem_cons.mpr ⟨mm_cp143, List.forall_mem_cons.mpr ⟨mm_cp144, List.forall_mem_cons.mpr ⟨mm_cp145, List.forall_mem_cons.mpr ⟨mm_cp146, List.forall_mem_cons.mpr ⟨mm_cp147, List.forall_mem_cons.mpr ⟨mm_cp148, List.forall_mem_cons.mpr ⟨mm_cp149, List.forall_mem_cons.mpr ⟨mm_cp150, List.forall_mem_cons.mpr ⟨mm_cp151, List.forall_mem_cons.mpr ⟨mm_cp152, List.forall_mem_cons.mpr ⟨mm_cp153, List.forall_mem_cons.mpr ⟨mm_cp154, List.forall_mem_cons.mpr ⟨mm_cp155, List.forall_mem_cons.mpr ⟨mm_cp156, List.forall_mem_cons.mpr ⟨mm_cp157, List.forall_mem_cons.mpr ⟨mm_cp158, List.forall_mem_cons.mpr ⟨mm_cp159, fun _ h => absurd h List.not_mem_nil⟩⟩⟩⟩⟩⟩⟩⟩⟩⟩⟩⟩⟩⟩⟩⟩⟩⟩⟩⟩⟩⟩⟩⟩⟩⟩⟩⟩⟩⟩⟩⟩⟩⟩⟩⟩⟩⟩⟩⟩
def mm_ch4 : List Nat := [160, 161, 162, 163, 164, 165, 166, 167, 168, 169, 170, 171, 172, 173, 174, 175, 176, 177, 178, 179, 180, 181, 182, 183, 184, 185, 186, 187, 188, 189, 190, 191, 192, 193, 194, 195, 196, 197, 198, 199]
theorem mm_cq4 : ∀ a ∈ mm_ch4, mm_cwP a := List.forall_mem_cons.mpr ⟨mm_cp160, List.forall_mem_cons.mpr ⟨mm_cp161, List.forall_mem_cons.mpr ⟨mm_cp162, List.forall_mem_cons.mpr ⟨mm_cp163, List.forall_mem_cons.mpr ⟨mm_cp164, List.forall_mem_cons.mpr ⟨mm_cp165, List.forall_mem_cons.mpr ⟨mm_cp166, List.forall_mem_cons.mpr ⟨mm_cp167, List.forall_mem_cons.mpr ⟨mm_cp168, List.forall_mem_cons.mpr ⟨mm_cp169, List.forall_mem_cons.mpr ⟨mm_cp170, List.forall_mem_cons.mpr ⟨mm_cp171, List.forall_mem_cons.mpr ⟨mm_cp172, List.forall_mem_cons.mpr ⟨mm_cp173, List.forall_mem_cons.mpr ⟨mm_cp174, List.forall_mem_cons.mpr ⟨mm_cp175, List.forall_mem_cons.mpr ⟨mm_cp176, List.forall_mem_cons.mpr ⟨mm_cp177, List.forall_mem_cons.mpr ⟨mm_cp178, List.forall_mem_cons.mpr ⟨mm_cp179, List.forall_mem_cons.mpr ⟨mm_cp180, List.forall_mem_cons.mpr ⟨mm_cp181, List.forall_mem_cons.mpr ⟨mm_cp182, List.forall_mem_cons.mpr ⟨mm_cp183, List.forall_mem_cons.mpr ⟨mm_cp184, List.forall_mem_cons.mpr ⟨mm_cp185, List.forall_mem_cons.mpr ⟨mm_cp186, List.forall_mem_cons.mpr ⟨mm_cp187, List.forall_mem_cons.mpr ⟨mm_cp188, List.forall_mem_cons.mpr ⟨mm_cp189, List.forall_mem_cons.mpr ⟨mm_cp190, List.forall_mem_cons.mpr ⟨mm_cp191, List.forall_mem_cons.mpr ⟨mm_cp192, List.forall_mem_cons.mpr ⟨mm_cp193, List.forall_mem_cons.mpr ⟨mm_cp194, List.forall_mem_cons.mpr ⟨mm_cp195, List.forall_mem_cons.mpr ⟨mm_cp196, List.forall_mem_cons.mpr ⟨mm_cp197, List.forall_mem_cons.mpr ⟨mm_cp198, List.forall_mem_cons.mpr ⟨mm_cp199, fun _ h => absurd h List.not_mem_nil⟩⟩⟩⟩⟩⟩⟩⟩⟩⟩⟩⟩⟩⟩⟩⟩⟩⟩⟩⟩⟩⟩⟩⟩⟩⟩⟩⟩⟩⟩⟩⟩⟩⟩⟩⟩⟩⟩⟩⟩
def mm_ch5 : List Nat := [200, 201, 202, 203, 204, 205, 206, 207, 208, 209, 210, 211, 212, 213, 214, 215, 216, 217, 218, 219, 220, 221, 222, 223, 224, 225, 226, 227, 228, 229, 230, 231, 232, 233, 234, 235, 236, 237, 238, 239]
theorem mm_cq5 : ∀ a ∈ mm_ch5, mm_cwP a := List.forall_mem_cons.mpr ⟨mm_cp200, List.forall_mem_cons.mpr ⟨mm_cp201, List.forall_mem_cons.mpr ⟨mm_cp202, List.forall_mem_cons.mpr ⟨mm_cp203, List.forall_mem_cons.mpr ⟨mm_cp204, List.forall_mem_cons.mpr ⟨mm_cp205, List.forall_mem_cons.mpr ⟨mm_cp206, List.forall_mem_cons.mpr ⟨mm_cp207, List.forall_mem_cons.mpr ⟨mm_cp208, List.forall_mem_cons.mpr ⟨mm_cp209, List.forall_mem_cons.mpr ⟨mm_cp210, List.forall_mem_cons.mpr ⟨mm_cp211, List.forall_mem_cons.mpr ⟨mm_cp212, List.forall_mem_cons.mpr ⟨mm_cp213, List.forall_mem_cons.mpr ⟨mm_cp214, List.forall_mem_cons.mpr ⟨mm_cp215, List.forall_mem_cons.mpr ⟨mm_cp216, List.forall_mem_cons.mpr ⟨mm_cp217, List.forall_mem_cons.mpr ⟨mm_cp218, List.forall_mem_cons.mpr ⟨mm_cp219, List.forall_mem_cons.mpr ⟨mm_cp220, List.forall_mem_cons.mpr ⟨mm_cp221, List.forall_mem_cons.mpr ⟨mm_cp222, List.forall_mem_cons.mpr ⟨mm_cp223, List.forall_mem_cons.mpr ⟨mm_cp224, List.forall_mem_cons.mpr ⟨mm_cp225, List.forall_mem_cons.mpr ⟨mm_cp226, List.forall_mem_cons.mpr ⟨mm_cp227, List.forall_mem_cons.mpr ⟨mm_cp228, List.forall_mem_cons.mpr ⟨mm_cp229, List.forall_mem_cons.mpr ⟨mm_cp230, List.forall_mem_cons.mpr ⟨mm_cp231, List.forall_mem_cons.mpr ⟨mm_cp232, List.forall_mem_cons.mpr ⟨mm_cp233, List.forall_mem_cons.mpr ⟨mm_cp234, List.forall_mem_cons.mpr ⟨mm_cp235, List.forall_mem_cons.mpr ⟨mm_cp236, List.forall_mem_cons.mpr ⟨mm_cp237, List.forall_mem_cons.mpr ⟨mm_cp238, List.forall_mem_cons.mpr ⟨mm_cp239, fun _ h => absurd h List.not_mem_nil⟩⟩⟩⟩⟩⟩⟩⟩⟩⟩⟩⟩⟩⟩⟩⟩⟩⟩⟩⟩⟩⟩⟩⟩⟩⟩⟩⟩⟩⟩⟩⟩⟩⟩⟩⟩⟩⟩⟩⟩
def mm_ch6 : List Nat := [240, 241, 242, 243, 244, 245, 246, 247, 248, 249, 250, 251, 252, 253, 254, 255, 256, 257, 258, 259, 260, 261, 262, 263, 264, 265, 266, 267, 268, 269, 270, 271, 272, 273, 274, 275, 276, 277, 278, 279]
theorem mm_cq6 : ∀ a ∈ mm_ch6, mm_cwP a := List.forall_mem_cons.mpr ⟨mm_cp240, List.forall_mem_cons.mpr ⟨mm_cp241, List.forall_mem_cons.mpr ⟨mm_cp242, List.forall_mem_cons.mpr ⟨mm_cp243, List.forall_mem_cons.mpr ⟨mm_cp244, List.forall_mem_cons.mpr ⟨mm_cp245, List.forall_mem_cons.mpr ⟨mm_cp246, List.forall_mem_cons.mpr ⟨mm_cp247, List.forall_mem_cons.mpr ⟨mm_cp248, List.forall_mem_cons.mpr ⟨mm_cp249, List.forall_mem_cons.mpr ⟨mm_cp250, List.forall_mem_cons.mpr ⟨mm_cp251, List.forall_mem_cons.mpr ⟨mm_cp252, List.forall_mem_cons.mpr ⟨mm_cp253, List.forall_mem_cons.mpr ⟨mm_cp254, List.forall_mem_cons.mpr ⟨mm_cp255, List.forall_mem_cons.mpr ⟨mm_cp256, List.forall_mem_cons.mpr ⟨mm_cp257, List.forall_mem_cons.mpr ⟨mm_cp258, List.forall_mem_cons.mpr ⟨mm_cp259, List.forall_mem_cons.mpr ⟨mm_cp260, List.forall_mem_cons.mpr ⟨mm_cp261, List.forall_mem_cons.mpr ⟨mm_cp262, List.forall_mem_cons.mpr ⟨mm_cp263, List.forall_mem_cons.mpr ⟨mm_cp264, List.forall_mem_cons.mpr ⟨mm_cp265, List.forall_mem_cons.mpr ⟨mm_cp266, List.forall_mem_cons.mpr ⟨mm_cp267, List.forall_mem_cons.mpr ⟨mm_cp268, List.forall_mem_cons.mpr ⟨mm_cp269, List.forall_mem_cons.mpr ⟨mm_cp270, List.forall_mem_cons.mpr ⟨mm_cp271, List.forall_mem_cons.mpr ⟨mm_cp272, List.forall_mem_cons.mpr ⟨mm_cp273, List.forall_mem_cons.mpr ⟨mm_cp274, List.forall_mem_cons.mpr ⟨mm_cp275, List.forall_mem_cons.mpr ⟨mm_cp276, List.forall_mem_cons.mpr ⟨mm_cp277, List.forall_mem_cons.mpr ⟨mm_cp278, List.forall_mem_cons.mpr ⟨mm_cp279, fun _ h => absurd h List.not_mem_nil⟩⟩⟩⟩⟩⟩⟩⟩⟩⟩⟩⟩⟩⟩⟩⟩⟩⟩⟩⟩⟩⟩⟩⟩⟩⟩⟩⟩⟩⟩⟩⟩⟩⟩⟩⟩⟩⟩⟩⟩
def mm_ch7 : List Nat := [280, 281, 282, 283, 284, 285, 286, 287, 288, 289, 290, 291, 292, 293, 294, 295, 296, 297, 298, 299, 300, 301, 302, 303, 304, 305, 306, 307, 308, 309, 310, 311, 312, 313, 314, 315, 316, 317, 318, 319]
theorem mm_cq7 : ∀ a ∈ mm_ch7, mm_cwP a := List.forall_mem_cons.mpr ⟨mm_cp280, List.forall_mem_cons.mpr ⟨mm_cp281, List.forall_mem_cons.mpr ⟨mm_cp282, List.forall_mem_cons.mpr ⟨mm_cp283, List.forall_mem_cons.mpr ⟨mm_cp284, List.forall_mem_cons.mpr ⟨mm_cp285, List.forall_mem_cons.mpr ⟨mm_cp286, List.forall_mem_cons.mpr ⟨mm_cp287, List.forall_mem_cons.mpr ⟨mm_cp288, List.forall_mem_cons.mpr ⟨mm_cp289, List.forall_mem_cons.mpr ⟨mm_cp290, List.forall_mem_cons.mpr ⟨mm_cp291, List.forall_mem_cons.mpr ⟨mm_cp292, List.forall_mem_cons.mpr ⟨mm_cp293, List.forall_mem_cons.mpr ⟨mm_cp294, List.forall_mem_cons.mpr ⟨mm_cp295, List.forall_mem_cons.mpr ⟨mm_cp296, List.forall_mem_cons.mpr ⟨mm_cp297, List.forall_mem_cons.mpr ⟨mm_cp298, List.forall_mem_cons.mpr ⟨mm_cp299, List.forall_mem_cons.mpr ⟨mm_cp300, List.forall_mem_cons.mpr ⟨mm_cp301, List.forall_mem_cons.mpr ⟨mm_cp302, List.forall_mem_cons.mpr ⟨mm_cp303, List.forall_mem_cons.mpr ⟨mm_cp304, List.forall_mem_cons.mpr ⟨mm_cp305, List.forall_mem_cons.mpr ⟨mm_cp306, List.forall_mem_cons.mpr ⟨mm_cp307, List.forall_mem_cons.mpr ⟨mm_cp308, List.forall_mem_cons.mpr ⟨mm_cp309, List.forall_mem_cons.mpr ⟨mm_cp310, List.forall_mem_cons.mpr ⟨mm_cp311, List.forall_mem_cons.mpr ⟨mm_cp312, List.forall_mem_cons.mpr ⟨mm_cp313, List.forall_mem_cons.mpr ⟨mm_cp314, List.forall_mem_cons.mpr ⟨mm_cp315, List.forall_mem_cons.mpr ⟨mm_cp316, List.forall_mem_cons.mpr ⟨mm_cp317, List.forall_mem_cons.mpr ⟨mm_cp318, List.forall_mem_cons.mpr ⟨mm_cp319, fun _ h => absurd h List.not_mem_nil⟩⟩⟩⟩⟩⟩⟩⟩⟩⟩⟩⟩⟩⟩⟩⟩⟩⟩⟩⟩⟩⟩⟩⟩⟩⟩⟩⟩⟩⟩⟩⟩⟩⟩⟩⟩⟩⟩⟩⟩
def mm_ch8 : List Nat := [320, 321, 322, 323, 324, 325, 326, 327, 328, 329, 330, 331, 332, 333, 334, 335, 336, 337, 338, 339, 340, 341, 342, 343, 344, 345, 346, 347, 348, 349, 350, 351, 352, 353, 354, 355, 356, 357, 358, 359]
theorem mm_cq8 : ∀ a ∈ mm_ch8, mm_cwP a := List.forall_mem_cons.mpr ⟨mm_cp320, List.forall_mem_cons.mpr ⟨mm_cp321, List.forall_mem_cons.mpr ⟨mm_cp322, List.forall_mem_cons.mpr ⟨mm_cp323, List.forall_mem_cons.mpr ⟨mm_cp324, List.forall_mem_cons.mpr ⟨mm_cp325, List.forall_mem_cons.mpr ⟨mm_cp326, List.forall_mem_cons.mpr ⟨mm_cp327, List.forall_mem_cons.mpr ⟨mm_cp328, List.forall_mem_cons.mpr ⟨mm_cp329, List.forall_mem_cons.mpr ⟨mm_cp330, List.forall_mem_cons.mpr ⟨mm_cp331, List.forall_mem_cons.mpr ⟨mm_cp332, List.forall_mem_cons.mpr ⟨mm_cp333, List.forall_mem_cons.mpr ⟨mm_cp334, List.forall_mem_cons.mpr ⟨mm_cp335, List.forall_mem_cons.mpr ⟨mm_cp336, List.forall_mem_cons.mpr ⟨mm_cp337, List.forall_mem_cons.mpr ⟨mm_cp338, List.forall_mem_cons.mpr ⟨mm_cp339, List.forall_mem_cons.mpr ⟨mm_cp340, List.forall_mem_cons.mpr ⟨mm_cp341, List.forall_mem_cons.mpr ⟨mm_cp342, List.forall_mem_cons.mpr ⟨mm_cp343, List.forall_mem_cons.mpr ⟨mm_cp344, List.forall_mem_cons.mpr ⟨mm_cp345, List.forall_mem_cons.mpr ⟨mm_cp346, List.forall_mem_cons.mpr ⟨mm_cp347, List.forall_mem_cons.mpr ⟨mm_cp348, List.forall_mem_cons.mpr ⟨mm_cp349, List.forall_mem_cons.mpr ⟨mm_cp350, List.forall_mem_cons.mpr ⟨mm_cp351, List.forall_mem_cons.mpr ⟨mm_cp352, List.forall_mem_cons.mpr ⟨mm_cp353, List.forall_mem_cons.mpr ⟨mm_cp354, List.forall_mem_cons.mpr ⟨mm_cp355, List.forall_mem_cons.mpr ⟨mm_cp356, List.forall_mem_cons.mpr ⟨mm_cp357, List.forall_mem_cons.mpr ⟨mm_cp358, List.forall_mem_cons.mpr ⟨mm_cp359, fun _ h => absurd h List.not_mem_nil⟩⟩⟩⟩⟩⟩⟩⟩⟩⟩⟩⟩⟩⟩⟩⟩⟩⟩⟩⟩⟩⟩⟩⟩⟩⟩⟩⟩⟩⟩⟩⟩⟩⟩⟩⟩⟩⟩⟩⟩
def mm_ch9 : List Nat := [361, 362]
theorem mm_cq9 : ∀ a ∈ mm_ch9, mm_cwP a := List.forall_mem_cons.mpr ⟨mm_cp361, List.forall_mem_cons.mpr ⟨mm_cp362, fun _ h => absurd h List.not_mem_nil⟩⟩
theorem mm_chall : ∀ a, a < 363 → a ≠ 360 → a ∈ mm_ch0 ++ mm_ch1 ++ mm_ch2 ++ mm_ch3 ++ mm_ch4 ++ mm_ch5 ++ mm_ch6 ++ mm_ch7 ++ mm_ch8 ++ mm_ch9 := by decide +kernel
theorem mm_cwall {a : Nat} (h : a < 363) (h9 : a ≠ 360) : mm_cwP a := by
  have h2 := mm_chall a h h9
  simp only [List.mem_append] at h2
  rcases h2 with ((((((((h2 | h2) | h2) | h2) | h2) | h2) | h2) | h2) | h2) | h2
  · exact mm_cq0 a h2
  · exact mm_cq1 a h2
  · exact mm_cq2 a h2
  · exact mm_cq3 a h2
  · exact mm_cq4 a h2
  · exact mm_cq5 a h2
  · exact mm_cq6 a h2
  · exact mm_cq7 a h2
  · exact mm_cq8 a h2
  · exact mm_cq9 a h2
theorem mm_mcall {a : Nat} (h : a < 363) (h9 : a ≠ 360) : mm_mck a = true := by
  have h2 := mm_chall a h h9
  simp only [List.mem_append] at h2
  rcases h2 with ((((((((h2 | h2) | h2) | h2) | h2) | h2) | h2) | h2) | h2) | h2
  · exact List.all_eq_true.mp mm_mc0 a h2
  · exact List.all_eq_true.mp mm_mc1 a h2
  · exact List.all_eq_true.mp mm_mc2 a h2
  · exact List.all_eq_true.mp mm_mc3 a h2
  · exact List.all_eq_true.mp mm_mc4 a h2
  · exact List.all_eq_true.mp mm_mc5 a h2
  · exact List.all_eq_true.mp mm_mc6 a h2
  · exact List.all_eq_true.mp mm_mc7 a h2
  · exact List.all_eq_true.mp mm_mc8 a h2
  · exact List.all_eq_true.mp mm_mc9 a h2
theorem mm_fcall {o : Nat} (h : o < 14) : (mm_fls.getD o []).all (mm_fck o) = true := by
  rcases (show o = 0 ∨ o = 1 ∨ o = 2 ∨ o = 3 ∨ o = 4 ∨ o = 5 ∨ o = 6 ∨ o = 7 ∨ o = 8 ∨ o = 9 ∨ o = 10 ∨ o = 11 ∨ o = 12 ∨ o = 13 by omega) with rfl | rfl | rfl | rfl | rfl | rfl | rfl | rfl | rfl | rfl | rfl | rfl | rfl | rfl
  · exact mm_fc0
  · exact mm_fc1
  · exact mm_fc2
  · exact mm_fc3
  · exact mm_fc4
  · exact mm_fc5
  · exact mm_fc6
  · exact mm_fc7
  · exact mm_fc8
  · exact mm_fc9
  · exact mm_fc10
  · exact mm_fc11
  · exact mm_fc12
  · exact mm_fc13
theorem mm_kcall {o : Nat} (h : o < 14) : (mm_mks.getD o []).all (mm_kck o) = true := by
  rcases (show o = 0 ∨ o = 1 ∨ o = 2 ∨ o = 3 ∨ o = 4 ∨ o = 5 ∨ o = 6 ∨ o = 7 ∨ o = 8 ∨ o = 9 ∨ o = 10 ∨ o = 11 ∨ o = 12 ∨ o = 13 by omega) with rfl | rfl | rfl | rfl | rfl | rfl | rfl | rfl | rfl | rfl | rfl | rfl | rfl | rfl
  · exact mm_kc0
  · exact mm_kc1
  · exact mm_kc2
  · exact mm_kc3
  · exact mm_kc4
  · exact mm_kc5
  · exact mm_kc6
  · exact mm_kc7
  · exact mm_kc8
  · exact mm_kc9
  · exact mm_kc10
  · exact mm_kc11
  · exact mm_kc12
  · exact mm_kc13
def mm_kis : List (Nat × Nat × Int32 × Nat) := [(6, 32, 99999999, 3139), (12, 629, 1000000, 10042), (12, 633, 99999999, 10035)]
def mm_kls : List (Nat × Nat × Int64 × Nat) := [(7, 104, 3, 4028), (12, 198, 6207378641537, 7091), (12, 200, 181044, 7092), (12, 202, 176626, 7093), (12, 204, 595573, 7094), (12, 206, 24621441, 7095), (12, 208, 19060910, 7096), (12, 210, 21271201, 7097), (12, 212, 21145265, 7098), (12, 214, 186861, 7099), (12, 216, 21280044, 7100), (12, 218, 209075, 7101), (12, 220, 4545, 7102), (12, 222, 591, 7103), (12, 224, 20974, 7104), (12, 226, 176422, 7105), (12, 228, 18724, 7106), (12, 230, 21043986000, 7107), (12, 232, 180528, 7108), (12, 234, 180500520, 7109), (12, 236, 132274, 7110), (12, 238, 5908055, 7111), (12, 240, 149078529, 7112), (12, 242, 188782147, 7113), (12, 244, 384086485, 7114), (12, 246, 375084, 7115), (12, 248, 181450930, 7116), (12, 250, 13054816434, 7117), (12, 252, 376300, 7118), (12, 254, 26825157, 7119), (12, 256, 272172211, 7120), (12, 258, 4225, 7121), (12, 260, 191345842, 7122), (12, 262, 379366, 7123), (12, 264, 181898402, 7124), (12, 266, 404167987, 7125), (12, 268, 5342804, 7126), (12, 270, 272246515, 7127), (12, 272, 5749, 7128), (12, 277, 19173741, 7133), (12, 279, 19173810, 7134), (12, 281, 15026, 7135), (12, 283, 464399, 7136), (12, 285, 5881219, 7137), (12, 287, 17060, 7138), (12, 289, 675116, 7139), (12, 291, 26886565, 7140), (12, 293, 365747, 7141), (12, 295, 5964972, 7142), (12, 297, 113459, 7143), (12, 299, 9012803, 7144), (12, 301, 12748844, 7145), (12, 335, 31, 9012)]
theorem mm_kis_ok : mm_kis.all (fun q => decide (mm_w q.2.2.2 = some (.constant (mm_RN q.1) q.2.1 q.2.2.1))) = true := by decide +kernel
theorem mm_kls_ok : mm_kls.all (fun q => decide (mm_w q.2.2.2 = some (.constantLong (mm_RN q.1) q.2.1 q.2.2.1))) = true := by decide +kernel
def mm_nws : List (Nat × Nat × Nat × Nat × Nat × Nat) := [(11, 7, 8, 1037, 1038, 1002), (11, 16, 0, 1054, 1055, 1003), (11, 25, 1, 1201, 1202, 1006), (11, 32, 2, 2002, 2003, 1007), (11, 39, 5, 2059, 2060, 1008), (11, 46, 4, 2111, 2112, 1011), (11, 59, 6, 2166, 2167, 1012), (11, 68, 3, 2191, 2192, 1013), (0, 9, 7, 1060, 1061, 1004), (0, 35, 9, 1143, 1144, 1005), (2, 9, 7, 2008, 1061, 1004), (5, 7, 10, 2065, 2066, 1009), (13, 8, 11, 1029, 1030, 1001), (13, 93, 12, 7085, 7086, 1014)]
theorem mm_nws_ok : mm_nws.all (fun q => decide (mm_w q.2.2.2.1 = some (.classLink (mm_RN q.1) q.2.1 (mm_RN q.2.2.1))) && decide (mm_w q.2.2.2.2.1 = some (.instantiable (mm_RN q.2.2.1) (mm_nf q.2.2.1))) && decide (mm_w q.2.2.2.2.2 = some (.initialized (mm_RN q.2.2.1)))) = true := by decide +kernel
def mm_gss : List (Nat × Nat × Nat × Nat) := [(0, 192, 0, 6007), (1, 64, 1, 3101), (7, 78, 2, 5193)]
theorem mm_gss_ok : mm_gss.all (fun q => match mm_sts[q.2.2.1]? with
  | some z => decide (mm_w q.2.2.2 = some (.fieldLink (mm_RN q.1) q.2.1 z.1 z.2.1 z.2.2))
  | none => false) = true := by decide +kernel
def mm_lbs : List (Nat × Nat × Nat × Nat) := [(11, 1, 903, 1034), (0, 3, 903, 1059), (1, 3, 903, 1206), (2, 3, 903, 2007), (2, 76, 902, 4033), (2, 98, 905, 7033), (3, 3, 903, 2196), (4, 3, 903, 2116), (5, 1, 903, 2064), (6, 3, 903, 2171), (7, 3, 903, 1065), (8, 3, 903, 1042), (9, 3, 903, 1148), (10, 3, 903, 2070), (10, 66, 904, 3171), (10, 71, 902, 3121), (12, 1, 903, 7090)]
def mm_lbn (a : Nat) : MethodName := if a = 902 then arraycopyName else if a = 903 then objectInit else if a = 904 then Lib.Math.max.name else Lib.Math.min.name
theorem mm_lbs_ok : mm_lbs.all (fun q => decide (mm_w q.2.2.2 = some (.methodLink (mm_RN q.1) q.2.1 (mm_lbn q.2.2.1)))) = true := by decide +kernel
/-- the whole check of an entry -/
def mm_eck (k pc : Nat) (en : mm_E) : Bool := decide (decode (mm_B k) pc = .ok (en.1, en.2.1)) && (match en.1 with
  | .getfield i => decide (en.2.1 = 3) && (mm_fls.getD (mm_ow k) []).any (fun q => decide (q.1 = i) && decide (q.2.1 = en.2.2.1) && decide (q.2.2.1 = en.2.2.2.1))
  | .putfield i => decide (en.2.1 = 3) && (mm_fls.getD (mm_ow k) []).any (fun q => decide (q.1 = i) && decide (q.2.1 = en.2.2.1) && decide (q.2.2.1 = en.2.2.2.1) && (!mm_fin en.2.2.1 en.2.2.2.1 || (mm_in k && decide (en.2.2.1 = mm_ow k) && decide (q.2.2.2.1 = 0))))
  | .iaload => decide (en.2.1 = 1)
  | .iastore => decide (en.2.1 = 1)
  | .baload => decide (en.2.1 = 1)
  | .bastore => decide (en.2.1 = 1)
  | .laload => decide (en.2.1 = 1)
  | .lastore => decide (en.2.1 = 1)
  | .arraylength => decide (en.2.1 = 1)
  | .ireturn => decide (en.2.1 = 1)
  | .lreturn => decide (en.2.1 = 1)
  | .areturn => decide (en.2.1 = 1)
  | .return_ => decide (en.2.1 = 1)
  | .ldc i => (mm_kis.any (fun q => decide (q.1 = mm_ow k) && decide (q.2.1 = i) && decide (en.2.2.2.2 = .int q.2.2.1))) || ((List.range 8).any (fun j => match mm_lds[j]? with
      | some q => decide (q.1 = mm_ow k) && decide (q.2.1 = i) && decide (en.2.2.2.2 = .ref (1000100 + j))
      | none => false))
  | .ldc_w i => mm_kis.any (fun q => decide (q.1 = mm_ow k) && decide (q.2.1 = i) && decide (en.2.2.2.2 = .int q.2.2.1))
  | .ldc2_w i => mm_kls.any (fun q => decide (q.1 = mm_ow k) && decide (q.2.1 = i) && decide (en.2.2.2.2 = .long q.2.2.1))
  | .getstatic i => mm_gss.any (fun q => decide (q.1 = mm_ow k) && decide (q.2.1 = i) && decide (en.2.2.2.2 = .ref (1000001 + q.2.2.1)))
  | .new i => !decide (en.2.2.1 < 13) || mm_nws.any (fun q => decide (q.1 = mm_ow k) && decide (q.2.1 = i) && decide (q.2.2.1 = en.2.2.1))
  | .invokevirtual i => !decide (en.2.2.1 < 900) || (decide (en.2.2.1 < 363) && decide (en.2.2.1 ≠ 360) && decide (mm_kd en.2.2.1 = 0) && decide (en.2.2.2.1 = mm_na en.2.2.1) && decide (mm_fr en.2.2.1 + 1 ≤ mm_fr k) && decide (19 + mm_ml en.2.2.1 + mm_lo en.2.2.1 ≤ mm_lo k) && (mm_mks.getD (mm_ow k) []).any (fun q => decide (q.1 = i) && decide (q.2.1 = en.2.2.1) && decide (q.2.2.1 = 0)))
  | .invokespecial i => if en.2.2.1 < 900 then (decide (en.2.2.1 < 363) && decide (en.2.2.1 ≠ 360) && decide (mm_kd en.2.2.1 = 2) && decide (en.2.2.2.1 = mm_na en.2.2.1) && decide (mm_fr en.2.2.1 + 1 ≤ mm_fr k) && decide (19 + mm_ml en.2.2.1 + mm_lo en.2.2.1 ≤ mm_lo k) && (mm_mks.getD (mm_ow k) []).any (fun q => decide (q.1 = i) && decide (q.2.1 = en.2.2.1)))
      else (decide (en.2.2.1 = 903) && decide (1 ≤ mm_fr k) && decide (26 ≤ mm_lo k) && mm_lbs.any (fun q => decide (q.1 = mm_ow k) && decide (q.2.1 = i) && decide (q.2.2.1 = en.2.2.1)))
  | .invokestatic i => if en.2.2.1 < 900 then (decide (en.2.2.1 < 363) && decide (en.2.2.1 ≠ 360) && decide (mm_kd en.2.2.1 = 1) && decide (en.2.2.2.1 = mm_na en.2.2.1) && decide (mm_fr en.2.2.1 + 1 ≤ mm_fr k) && decide (19 + mm_ml en.2.2.1 + mm_lo en.2.2.1 ≤ mm_lo k) && (mm_mks.getD (mm_ow k) []).any (fun q => decide (q.1 = i) && decide (q.2.1 = en.2.2.1) && (decide (q.2.2.1 = 0) || (decide (mm_ow en.2.2.1 ≠ mm_ow k) && decide (mm_hh en.2.2.1 = [])))))
      else ((decide (en.2.2.1 = 902) || decide (en.2.2.1 = 904) || decide (en.2.2.1 = 905)) && decide (1 ≤ mm_fr k) && decide (26 ≤ mm_lo k) && mm_lbs.any (fun q => decide (q.1 = mm_ow k) && decide (q.2.1 = i) && decide (q.2.2.1 = en.2.2.1)))
  | _ => true)
def mm_lck (k : Nat) : Nat → List (Option mm_E) → Bool
  | _, [] => true
  | pc, none :: t => mm_lck k (pc + 1) t
  | pc, some en :: t => mm_eck k pc en && mm_lck k (pc + 1) t
end MMd
