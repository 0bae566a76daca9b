theorem cm_133 : cwM 133 = true := by decide +kernel
theorem c0_133 : rpc (tab 133) 0 = 0 := by decide +kernel
theorem ck_133 : ∀ i, chX 133 i = true := chX_of (n := 1) (by decide +kernel) (chQ_of (by decide +kernel))
theorem cm_134 : cwM 134 = true := by decide +kernel
theorem c0_134 : rpc (tab 134) 0 = 0 := by decide +kernel
theorem ck_134 : ∀ i, chX 134 i = true := chX_of (n := 1) (by decide +kernel) (chQ_of (by decide +kernel))
theorem cm_135 : cwM 135 = true := by decide +kernel
theorem c0_135 : rpc (tab 135) 0 = 0 := by decide +kernel
theorem ck_135 : ∀ i, chX 135 i = true := chX_of (n := 1) (by decide +kernel) (chQ_of (by decide +kernel))
theorem cm_136 : cwM 136 = true := by decide +kernel
theorem c0_136 : rpc (tab 136) 0 = 0 := by decide +kernel
theorem ck_136 : ∀ i, chX 136 i = true := chX_of (n := 1) (by decide +kernel) (chQ_of (by decide +kernel))
theorem cm_137 : cwM 137 = true := by decide +kernel
theorem c0_137 : rpc (tab 137) 0 = 0 := by decide +kernel
theorem ck_137 : ∀ i, chX 137 i = true := chX_of (n := 2) (by decide +kernel) (chQ_of (by decide +kernel))
theorem cm_138 : cwM 138 = true := by decide +kernel
theorem c0_138 : rpc (tab 138) 0 = 0 := by decide +kernel
theorem cp_138_0 : chC 138 0 = true := by decide +kernel
theorem cp_138_1 : chC 138 1 = true := by decide +kernel
theorem cp_138_2 : chC 138 2 = true := by decide +kernel
theorem cp_138_3 : chC 138 3 = true := by decide +kernel
theorem cp_138_4 : chC 138 4 = true := by decide +kernel
theorem ck_138 : ∀ i, chX 138 i = true := chX_of (n := 5) (by decide +kernel) (fun q hq => match q, hq with
  | 0, _ => cp_138_0
  | 1, _ => cp_138_1
  | 2, _ => cp_138_2
  | 3, _ => cp_138_3
  | 4, _ => cp_138_4
  | q + 5, hq => absurd hq (by omega))
theorem cm_139 : cwM 139 = true := by decide +kernel
theorem c0_139 : rpc (tab 139) 0 = 0 := by decide +kernel
theorem ck_139 : ∀ i, chX 139 i = true := chX_of (n := 1) (by decide +kernel) (chQ_of (by decide +kernel))
theorem cm_140 : cwM 140 = true := by decide +kernel
theorem c0_140 : rpc (tab 140) 0 = 0 := by decide +kernel
theorem ck_140 : ∀ i, chX 140 i = true := chX_of (n := 1) (by decide +kernel) (chQ_of (by decide +kernel))
theorem cm_141 : cwM 141 = true := by decide +kernel
theorem c0_141 : rpc (tab 141) 0 = 0 := by decide +kernel
theorem ck_141 : ∀ i, chX 141 i = true := chX_of (n := 1) (by decide +kernel) (chQ_of (by decide +kernel))
theorem cm_142 : cwM 142 = true := by decide +kernel
theorem c0_142 : rpc (tab 142) 0 = 0 := by decide +kernel
theorem cp_142_0 : chC 142 0 = true := by decide +kernel
theorem cp_142_1 : chC 142 1 = true := by decide +kernel
theorem cp_142_2 : chC 142 2 = true := by decide +kernel
theorem cp_142_3 : chC 142 3 = true := by decide +kernel
theorem cp_142_4 : chC 142 4 = true := by decide +kernel
theorem cp_142_5 : chC 142 5 = true := by decide +kernel
theorem cp_142_6 : chC 142 6 = true := by decide +kernel
theorem cp_142_7 : chC 142 7 = true := by decide +kernel
theorem cp_142_8 : chC 142 8 = true := by decide +kernel
theorem cp_142_9 : chC 142 9 = true := by decide +kernel
theorem cp_142_10 : chC 142 10 = true := by decide +kernel
theorem ck_142 : ∀ i, chX 142 i = true := chX_of (n := 11) (by decide +kernel) (fun q hq => match q, hq with
  | 0, _ => cp_142_0
  | 1, _ => cp_142_1
  | 2, _ => cp_142_2
  | 3, _ => cp_142_3
  | 4, _ => cp_142_4
  | 5, _ => cp_142_5
  | 6, _ => cp_142_6
  | 7, _ => cp_142_7
  | 8, _ => cp_142_8
  | 9, _ => cp_142_9
  | 10, _ => cp_142_10
  | q + 11, hq => absurd hq (by omega))
theorem cm_143 : cwM 143 = true := by decide +kernel
theorem c0_143 : rpc (tab 143) 0 = 0 := by decide +kernel
theorem ck_143 : ∀ i, chX 143 i = true := chX_of (n := 1) (by decide +kernel) (chQ_of (by decide +kernel))
theorem cm_144 : cwM 144 = true := by decide +kernel
theorem c0_144 : rpc (tab 144) 0 = 0 := by decide +kernel
theorem ck_144 : ∀ i, chX 144 i = true := chX_of (n := 1) (by decide +kernel) (chQ_of (by decide +kernel))
theorem cm_145 : cwM 145 = true := by decide +kernel
theorem c0_145 : rpc (tab 145) 0 = 0 := by decide +kernel
theorem ck_145 : ∀ i, chX 145 i = true := chX_of (n := 1) (by decide +kernel) (chQ_of (by decide +kernel))
theorem cm_146 : cwM 146 = true := by decide +kernel
theorem c0_146 : rpc (tab 146) 0 = 0 := by decide +kernel
theorem ck_146 : ∀ i, chX 146 i = true := chX_of (n := 2) (by decide +kernel) (chQ_of (by decide +kernel))
theorem cm_147 : cwM 147 = true := by decide +kernel
theorem c0_147 : rpc (tab 147) 0 = 0 := by decide +kernel
theorem ck_147 : ∀ i, chX 147 i = true := chX_of (n := 2) (by decide +kernel) (chQ_of (by decide +kernel))
theorem cm_148 : cwM 148 = true := by decide +kernel
theorem c0_148 : rpc (tab 148) 0 = 0 := by decide +kernel
theorem cp_148_0 : chC 148 0 = true := by decide +kernel
theorem cp_148_1 : chC 148 1 = true := by decide +kernel
theorem cp_148_2 : chC 148 2 = true := by decide +kernel
theorem cp_148_3 : chC 148 3 = true := by decide +kernel
theorem cp_148_4 : chC 148 4 = true := by decide +kernel
theorem cp_148_5 : chC 148 5 = true := by decide +kernel
theorem cp_148_6 : chC 148 6 = true := by decide +kernel
theorem cp_148_7 : chC 148 7 = true := by decide +kernel
theorem cp_148_8 : chC 148 8 = true := by decide +kernel
theorem cp_148_9 : chC 148 9 = true := by decide +kernel
theorem cp_148_10 : chC 148 10 = true := by decide +kernel
theorem cp_148_11 : chC 148 11 = true := by decide +kernel
theorem ck_148 : ∀ i, chX 148 i = true := chX_of (n := 12) (by decide +kernel) (fun q hq => match q, hq with
  | 0, _ => cp_148_0
  | 1, _ => cp_148_1
  | 2, _ => cp_148_2
  | 3, _ => cp_148_3
  | 4, _ => cp_148_4
  | 5, _ => cp_148_5
  | 6, _ => cp_148_6
  | 7, _ => cp_148_7
  | 8, _ => cp_148_8
  | 9, _ => cp_148_9
  | 10, _ => cp_148_10
  | 11, _ => cp_148_11
  | q + 12, hq => absurd hq (by omega))
theorem cm_149 : cwM 149 = true := by decide +kernel
theorem c0_149 : rpc (tab 149) 0 = 0 := by decide +kernel
theorem cp_149_0 : chC 149 0 = true := by decide +kernel
theorem cp_149_1 : chC 149 1 = true := by decide +kernel
theorem cp_149_2 : chC 149 2 = true := by decide +kernel
theorem cp_149_3 : chC 149 3 = true := by decide +kernel
theorem cp_149_4 : chC 149 4 = true := by decide +kernel
theorem ck_149 : ∀ i, chX 149 i = true := chX_of (n := 5) (by decide +kernel) (fun q hq => match q, hq with
  | 0, _ => cp_149_0
  | 1, _ => cp_149_1
  | 2, _ => cp_149_2
  | 3, _ => cp_149_3
  | 4, _ => cp_149_4
  | q + 5, hq => absurd hq (by omega))
theorem cm_150 : cwM 150 = true := by decide +kernel
theorem c0_150 : rpc (tab 150) 0 = 0 := by decide +kernel
theorem cp_150_0 : chC 150 0 = true := by decide +kernel
theorem cp_150_1 : chC 150 1 = true := by decide +kernel
theorem cp_150_2 : chC 150 2 = true := by decide +kernel
theorem cp_150_3 : chC 150 3 = true := by decide +kernel
theorem cp_150_4 : chC 150 4 = true := by decide +kernel
theorem cp_150_5 : chC 150 5 = true := by decide +kernel
theorem cp_150_6 : chC 150 6 = true := by decide +kernel
theorem cp_150_7 : chC 150 7 = true := by decide +kernel
theorem ck_150 : ∀ i, chX 150 i = true := chX_of (n := 8) (by decide +kernel) (fun q hq => match q, hq with
  | 0, _ => cp_150_0
  | 1, _ => cp_150_1
  | 2, _ => cp_150_2
  | 3, _ => cp_150_3
  | 4, _ => cp_150_4
  | 5, _ => cp_150_5
  | 6, _ => cp_150_6
  | 7, _ => cp_150_7
  | q + 8, hq => absurd hq (by omega))
theorem cm_151 : cwM 151 = true := by decide +kernel
theorem c0_151 : rpc (tab 151) 0 = 0 := by decide +kernel
theorem ck_151 : ∀ i, chX 151 i = true := chX_of (n := 1) (by decide +kernel) (chQ_of (by decide +kernel))
theorem cm_152 : cwM 152 = true := by decide +kernel
theorem c0_152 : rpc (tab 152) 0 = 0 := by decide +kernel
theorem ck_152 : ∀ i, chX 152 i = true := chX_of (n := 1) (by decide +kernel) (chQ_of (by decide +kernel))
theorem cm_153 : cwM 153 = true := by decide +kernel
theorem c0_153 : rpc (tab 153) 0 = 0 := by decide +kernel
theorem ck_153 : ∀ i, chX 153 i = true := chX_of (n := 2) (by decide +kernel) (chQ_of (by decide +kernel))
theorem cm_154 : cwM 154 = true := by decide +kernel
theorem c0_154 : rpc (tab 154) 0 = 0 := by decide +kernel
theorem cp_154_0 : chC 154 0 = true := by decide +kernel
theorem cp_154_1 : chC 154 1 = true := by decide +kernel
theorem cp_154_2 : chC 154 2 = true := by decide +kernel
theorem cp_154_3 : chC 154 3 = true := by decide +kernel
theorem ck_154 : ∀ i, chX 154 i = true := chX_of (n := 4) (by decide +kernel) (fun q hq => match q, hq with
  | 0, _ => cp_154_0
  | 1, _ => cp_154_1
  | 2, _ => cp_154_2
  | 3, _ => cp_154_3
  | q + 4, hq => absurd hq (by omega))
theorem cm_155 : cwM 155 = true := by decide +kernel
theorem c0_155 : rpc (tab 155) 0 = 0 := by decide +kernel
theorem ck_155 : ∀ i, chX 155 i = true := chX_of (n := 3) (by decide +kernel) (chQ_of (by decide +kernel))
theorem cm_156 : cwM 156 = true := by decide +kernel
theorem c0_156 : rpc (tab 156) 0 = 0 := by decide +kernel
theorem ck_156 : ∀ i, chX 156 i = true := chX_of (n := 1) (by decide +kernel) (chQ_of (by decide +kernel))
theorem cm_157 : cwM 157 = true := by decide +kernel
theorem c0_157 : rpc (tab 157) 0 = 0 := by decide +kernel
theorem ck_157 : ∀ i, chX 157 i = true := chX_of (n := 2) (by decide +kernel) (chQ_of (by decide +kernel))
theorem cm_158 : cwM 158 = true := by decide +kernel
theorem c0_158 : rpc (tab 158) 0 = 0 := by decide +kernel
theorem cp_158_0 : chC 158 0 = true := by decide +kernel
theorem cp_158_1 : chC 158 1 = true := by decide +kernel
theorem cp_158_2 : chC 158 2 = true := by decide +kernel
theorem cp_158_3 : chC 158 3 = true := by decide +kernel
theorem cp_158_4 : chC 158 4 = true := by decide +kernel
theorem cp_158_5 : chC 158 5 = true := by decide +kernel
theorem cp_158_6 : chC 158 6 = true := by decide +kernel
theorem ck_158 : ∀ i, chX 158 i = true := chX_of (n := 7) (by decide +kernel) (fun q hq => match q, hq with
  | 0, _ => cp_158_0
  | 1, _ => cp_158_1
  | 2, _ => cp_158_2
  | 3, _ => cp_158_3
  | 4, _ => cp_158_4
  | 5, _ => cp_158_5
  | 6, _ => cp_158_6
  | q + 7, hq => absurd hq (by omega))
theorem cm_159 : cwM 159 = true := by decide +kernel
theorem c0_159 : rpc (tab 159) 0 = 0 := by decide +kernel
theorem ck_159 : ∀ i, chX 159 i = true := chX_of (n := 1) (by decide +kernel) (chQ_of (by decide +kernel))
theorem cm_160 : cwM 160 = true := by decide +kernel
theorem c0_160 : rpc (tab 160) 0 = 0 := by decide +kernel
theorem ck_160 : ∀ i, chX 160 i = true := chX_of (n := 2) (by decide +kernel) (chQ_of (by decide +kernel))
theorem cm_161 : cwM 161 = true := by decide +kernel
theorem c0_161 : rpc (tab 161) 0 = 0 := by decide +kernel
theorem cp_161_0 : chC 161 0 = true := by decide +kernel
theorem cp_161_1 : chC 161 1 = true := by decide +kernel
theorem cp_161_2 : chC 161 2 = true := by decide +kernel
theorem cp_161_3 : chC 161 3 = true := by decide +kernel
theorem ck_161 : ∀ i, chX 161 i = true := chX_of (n := 4) (by decide +kernel) (fun q hq => match q, hq with
  | 0, _ => cp_161_0
  | 1, _ => cp_161_1
  | 2, _ => cp_161_2
  | 3, _ => cp_161_3
  | q + 4, hq => absurd hq (by omega))
theorem cm_162 : cwM 162 = true := by decide +kernel
theorem c0_162 : rpc (tab 162) 0 = 0 := by decide +kernel
theorem cp_162_0 : chC 162 0 = true := by decide +kernel
theorem cp_162_1 : chC 162 1 = true := by decide +kernel
theorem cp_162_2 : chC 162 2 = true := by decide +kernel
theorem cp_162_3 : chC 162 3 = true := by decide +kernel
theorem ck_162 : ∀ i, chX 162 i = true := chX_of (n := 4) (by decide +kernel) (fun q hq => match q, hq with
  | 0, _ => cp_162_0
  | 1, _ => cp_162_1
  | 2, _ => cp_162_2
  | 3, _ => cp_162_3
  | q + 4, hq => absurd hq (by omega))
theorem cm_163 : cwM 163 = true := by decide +kernel
theorem c0_163 : rpc (tab 163) 0 = 0 := by decide +kernel
theorem cp_163_0 : chC 163 0 = true := by decide +kernel
theorem cp_163_1 : chC 163 1 = true := by decide +kernel
theorem cp_163_2 : chC 163 2 = true := by decide +kernel
theorem cp_163_3 : chC 163 3 = true := by decide +kernel
theorem cp_163_4 : chC 163 4 = true := by decide +kernel
theorem ck_163 : ∀ i, chX 163 i = true := chX_of (n := 5) (by decide +kernel) (fun q hq => match q, hq with
  | 0, _ => cp_163_0
  | 1, _ => cp_163_1
  | 2, _ => cp_163_2
  | 3, _ => cp_163_3
  | 4, _ => cp_163_4
  | q + 5, hq => absurd hq (by omega))
theorem cm_164 : cwM 164 = true := by decide +kernel
theorem c0_164 : rpc (tab 164) 0 = 0 := by decide +kernel
theorem cp_164_0 : chC 164 0 = true := by decide +kernel
theorem cp_164_1 : chC 164 1 = true := by decide +kernel
theorem cp_164_2 : chC 164 2 = true := by decide +kernel
theorem cp_164_3 : chC 164 3 = true := by decide +kernel
theorem cp_164_4 : chC 164 4 = true := by decide +kernel
theorem cp_164_5 : chC 164 5 = true := by decide +kernel
theorem cp_164_6 : chC 164 6 = true := by decide +kernel
theorem cp_164_7 : chC 164 7 = true := by decide +kernel
theorem cp_164_8 : chC 164 8 = true := by decide +kernel
theorem cp_164_9 : chC 164 9 = true := by decide +kernel
theorem cp_164_10 : chC 164 10 = true := by decide +kernel
theorem ck_164 : ∀ i, chX 164 i = true := chX_of (n := 11) (by decide +kernel) (fun q hq => match q, hq with
  | 0, _ => cp_164_0
  | 1, _ => cp_164_1
  | 2, _ => cp_164_2
  | 3, _ => cp_164_3
  | 4, _ => cp_164_4
  | 5, _ => cp_164_5
  | 6, _ => cp_164_6
  | 7, _ => cp_164_7
  | 8, _ => cp_164_8
  | 9, _ => cp_164_9
  | 10, _ => cp_164_10
  | q + 11, hq => absurd hq (by omega))
theorem cm_165 : cwM 165 = true := by decide +kernel
theorem c0_165 : rpc (tab 165) 0 = 0 := by decide +kernel
theorem cp_165_0 : chC 165 0 = true := by decide +kernel
theorem cp_165_1 : chC 165 1 = true := by decide +kernel
theorem cp_165_2 : chC 165 2 = true := by decide +kernel
theorem cp_165_3 : chC 165 3 = true := by decide +kernel
theorem cp_165_4 : chC 165 4 = true := by decide +kernel
theorem cp_165_5 : chC 165 5 = true := by decide +kernel
theorem cp_165_6 : chC 165 6 = true := by decide +kernel
theorem cp_165_7 : chC 165 7 = true := by decide +kernel
theorem cp_165_8 : chC 165 8 = true := by decide +kernel
theorem ck_165 : ∀ i, chX 165 i = true := chX_of (n := 9) (by decide +kernel) (fun q hq => match q, hq with
  | 0, _ => cp_165_0
  | 1, _ => cp_165_1
  | 2, _ => cp_165_2
  | 3, _ => cp_165_3
  | 4, _ => cp_165_4
  | 5, _ => cp_165_5
  | 6, _ => cp_165_6
  | 7, _ => cp_165_7
  | 8, _ => cp_165_8
  | q + 9, hq => absurd hq (by omega))
theorem cm_166 : cwM 166 = true := by decide +kernel
theorem c0_166 : rpc (tab 166) 0 = 0 := by decide +kernel
theorem cp_166_0 : chC 166 0 = true := by decide +kernel
theorem cp_166_1 : chC 166 1 = true := by decide +kernel
theorem cp_166_2 : chC 166 2 = true := by decide +kernel
theorem cp_166_3 : chC 166 3 = true := by decide +kernel
theorem cp_166_4 : chC 166 4 = true := by decide +kernel
theorem cp_166_5 : chC 166 5 = true := by decide +kernel
theorem cp_166_6 : chC 166 6 = true := by decide +kernel
theorem ck_166 : ∀ i, chX 166 i = true := chX_of (n := 7) (by decide +kernel) (fun q hq => match q, hq with
  | 0, _ => cp_166_0
  | 1, _ => cp_166_1
  | 2, _ => cp_166_2
  | 3, _ => cp_166_3
  | 4, _ => cp_166_4
  | 5, _ => cp_166_5
  | 6, _ => cp_166_6
  | q + 7, hq => absurd hq (by omega))
theorem cm_167 : cwM 167 = true := by decide +kernel
theorem c0_167 : rpc (tab 167) 0 = 0 := by decide +kernel
theorem ck_167 : ∀ i, chX 167 i = true := chX_of (n := 3) (by decide +kernel) (chQ_of (by decide +kernel))
theorem cm_168 : cwM 168 = true := by decide +kernel
theorem c0_168 : rpc (tab 168) 0 = 0 := by decide +kernel
theorem ck_168 : ∀ i, chX 168 i = true := chX_of (n := 3) (by decide +kernel) (chQ_of (by decide +kernel))
theorem cm_169 : cwM 169 = true := by decide +kernel
theorem c0_169 : rpc (tab 169) 0 = 0 := by decide +kernel
theorem ck_169 : ∀ i, chX 169 i = true := chX_of (n := 3) (by decide +kernel) (chQ_of (by decide +kernel))
theorem cm_170 : cwM 170 = true := by decide +kernel
theorem c0_170 : rpc (tab 170) 0 = 0 := by decide +kernel
theorem ck_170 : ∀ i, chX 170 i = true := chX_of (n := 1) (by decide +kernel) (chQ_of (by decide +kernel))
theorem cm_171 : cwM 171 = true := by decide +kernel
theorem c0_171 : rpc (tab 171) 0 = 0 := by decide +kernel
theorem ck_171 : ∀ i, chX 171 i = true := chX_of (n := 2) (by decide +kernel) (chQ_of (by decide +kernel))
theorem cm_172 : cwM 172 = true := by decide +kernel
theorem c0_172 : rpc (tab 172) 0 = 0 := by decide +kernel
theorem ck_172 : ∀ i, chX 172 i = true := chX_of (n := 2) (by decide +kernel) (chQ_of (by decide +kernel))
theorem cm_173 : cwM 173 = true := by decide +kernel
theorem c0_173 : rpc (tab 173) 0 = 0 := by decide +kernel
theorem ck_173 : ∀ i, chX 173 i = true := chX_of (n := 2) (by decide +kernel) (chQ_of (by decide +kernel))
theorem cm_174 : cwM 174 = true := by decide +kernel
theorem c0_174 : rpc (tab 174) 0 = 0 := by decide +kernel
theorem ck_174 : ∀ i, chX 174 i = true := chX_of (n := 3) (by decide +kernel) (chQ_of (by decide +kernel))
theorem cm_175 : cwM 175 = true := by decide +kernel
theorem c0_175 : rpc (tab 175) 0 = 0 := by decide +kernel
theorem ck_175 : ∀ i, chX 175 i = true := chX_of (n := 1) (by decide +kernel) (chQ_of (by decide +kernel))
theorem cm_176 : cwM 176 = true := by decide +kernel
theorem c0_176 : rpc (tab 176) 0 = 0 := by decide +kernel
theorem ck_176 : ∀ i, chX 176 i = true := chX_of (n := 2) (by decide +kernel) (chQ_of (by decide +kernel))
theorem cm_177 : cwM 177 = true := by decide +kernel
theorem c0_177 : rpc (tab 177) 0 = 0 := by decide +kernel
theorem ck_177 : ∀ i, chX 177 i = true := chX_of (n := 2) (by decide +kernel) (chQ_of (by decide +kernel))
theorem cm_178 : cwM 178 = true := by decide +kernel
theorem c0_178 : rpc (tab 178) 0 = 0 := by decide +kernel
theorem cp_178_0 : chC 178 0 = true := by decide +kernel
theorem cp_178_1 : chC 178 1 = true := by decide +kernel
theorem cp_178_2 : chC 178 2 = true := by decide +kernel
theorem cp_178_3 : chC 178 3 = true := by decide +kernel
theorem cp_178_4 : chC 178 4 = true := by decide +kernel
theorem cp_178_5 : chC 178 5 = true := by decide +kernel
theorem ck_178 : ∀ i, chX 178 i = true := chX_of (n := 6) (by decide +kernel) (fun q hq => match q, hq with
  | 0, _ => cp_178_0
  | 1, _ => cp_178_1
  | 2, _ => cp_178_2
  | 3, _ => cp_178_3
  | 4, _ => cp_178_4
  | 5, _ => cp_178_5
  | q + 6, hq => absurd hq (by omega))
theorem cm_179 : cwM 179 = true := by decide +kernel
theorem c0_179 : rpc (tab 179) 0 = 0 := by decide +kernel
theorem cp_179_0 : chC 179 0 = true := by decide +kernel
theorem cp_179_1 : chC 179 1 = true := by decide +kernel
theorem cp_179_2 : chC 179 2 = true := by decide +kernel
theorem cp_179_3 : chC 179 3 = true := by decide +kernel
theorem cp_179_4 : chC 179 4 = true := by decide +kernel
theorem ck_179 : ∀ i, chX 179 i = true := chX_of (n := 5) (by decide +kernel) (fun q hq => match q, hq with
  | 0, _ => cp_179_0
  | 1, _ => cp_179_1
  | 2, _ => cp_179_2
  | 3, _ => cp_179_3
  | 4, _ => cp_179_4
  | q + 5, hq => absurd hq (by omega))
theorem cm_180 : cwM 180 = true := by decide +kernel
theorem c0_180 : rpc (tab 180) 0 = 0 := by decide +kernel
theorem ck_180 : ∀ i, chX 180 i = true := chX_of (n := 2) (by decide +kernel) (chQ_of (by decide +kernel))
theorem cm_181 : cwM 181 = true := by decide +kernel
theorem c0_181 : rpc (tab 181) 0 = 0 := by decide +kernel
theorem cp_181_0 : chC 181 0 = true := by decide +kernel
theorem cp_181_1 : chC 181 1 = true := by decide +kernel
theorem cp_181_2 : chC 181 2 = true := by decide +kernel
theorem cp_181_3 : chC 181 3 = true := by decide +kernel
theorem ck_181 : ∀ i, chX 181 i = true := chX_of (n := 4) (by decide +kernel) (fun q hq => match q, hq with
  | 0, _ => cp_181_0
  | 1, _ => cp_181_1
  | 2, _ => cp_181_2
  | 3, _ => cp_181_3
  | q + 4, hq => absurd hq (by omega))
theorem cm_182 : cwM 182 = true := by decide +kernel
theorem c0_182 : rpc (tab 182) 0 = 0 := by decide +kernel
theorem ck_182 : ∀ i, chX 182 i = true := chX_of (n := 3) (by decide +kernel) (chQ_of (by decide +kernel))
theorem cm_183 : cwM 183 = true := by decide +kernel
theorem c0_183 : rpc (tab 183) 0 = 0 := by decide +kernel
theorem ck_183 : ∀ i, chX 183 i = true := chX_of (n := 3) (by decide +kernel) (chQ_of (by decide +kernel))
theorem cm_184 : cwM 184 = true := by decide +kernel
theorem c0_184 : rpc (tab 184) 0 = 0 := by decide +kernel
theorem ck_184 : ∀ i, chX 184 i = true := chX_of (n := 2) (by decide +kernel) (chQ_of (by decide +kernel))
theorem cm_185 : cwM 185 = true := by decide +kernel
theorem c0_185 : rpc (tab 185) 0 = 0 := by decide +kernel
theorem ck_185 : ∀ i, chX 185 i = true := chX_of (n := 3) (by decide +kernel) (chQ_of (by decide +kernel))
theorem cm_186 : cwM 186 = true := by decide +kernel
theorem c0_186 : rpc (tab 186) 0 = 0 := by decide +kernel
theorem cp_186_0 : chC 186 0 = true := by decide +kernel
theorem cp_186_1 : chC 186 1 = true := by decide +kernel
theorem cp_186_2 : chC 186 2 = true := by decide +kernel
theorem cp_186_3 : chC 186 3 = true := by decide +kernel
theorem ck_186 : ∀ i, chX 186 i = true := chX_of (n := 4) (by decide +kernel) (fun q hq => match q, hq with
  | 0, _ => cp_186_0
  | 1, _ => cp_186_1
  | 2, _ => cp_186_2
  | 3, _ => cp_186_3
  | q + 4, hq => absurd hq (by omega))
theorem cm_187 : cwM 187 = true := by decide +kernel
theorem c0_187 : rpc (tab 187) 0 = 0 := by decide +kernel
theorem ck_187 : ∀ i, chX 187 i = true := chX_of (n := 2) (by decide +kernel) (chQ_of (by decide +kernel))
theorem cm_188 : cwM 188 = true := by decide +kernel
theorem c0_188 : rpc (tab 188) 0 = 0 := by decide +kernel
theorem ck_188 : ∀ i, chX 188 i = true := chX_of (n := 1) (by decide +kernel) (chQ_of (by decide +kernel))
theorem cm_189 : cwM 189 = true := by decide +kernel
theorem c0_189 : rpc (tab 189) 0 = 0 := by decide +kernel
theorem ck_189 : ∀ i, chX 189 i = true := chX_of (n := 1) (by decide +kernel) (chQ_of (by decide +kernel))
theorem cm_190 : cwM 190 = true := by decide +kernel
theorem c0_190 : rpc (tab 190) 0 = 0 := by decide +kernel
theorem ck_190 : ∀ i, chX 190 i = true := chX_of (n := 3) (by decide +kernel) (chQ_of (by decide +kernel))
theorem cm_191 : cwM 191 = true := by decide +kernel
theorem c0_191 : rpc (tab 191) 0 = 0 := by decide +kernel
theorem ck_191 : ∀ i, chX 191 i = true := chX_of (n := 2) (by decide +kernel) (chQ_of (by decide +kernel))
theorem cm_192 : cwM 192 = true := by decide +kernel
theorem c0_192 : rpc (tab 192) 0 = 0 := by decide +kernel
theorem cp_192_0 : chC 192 0 = true := by decide +kernel
theorem cp_192_1 : chC 192 1 = true := by decide +kernel
theorem cp_192_2 : chC 192 2 = true := by decide +kernel
theorem cp_192_3 : chC 192 3 = true := by decide +kernel
theorem ck_192 : ∀ i, chX 192 i = true := chX_of (n := 4) (by decide +kernel) (fun q hq => match q, hq with
  | 0, _ => cp_192_0
  | 1, _ => cp_192_1
  | 2, _ => cp_192_2
  | 3, _ => cp_192_3
  | q + 4, hq => absurd hq (by omega))
theorem cm_193 : cwM 193 = true := by decide +kernel
theorem c0_193 : rpc (tab 193) 0 = 0 := by decide +kernel
theorem ck_193 : ∀ i, chX 193 i = true := chX_of (n := 3) (by decide +kernel) (chQ_of (by decide +kernel))
theorem cm_194 : cwM 194 = true := by decide +kernel
theorem c0_194 : rpc (tab 194) 0 = 0 := by decide +kernel
theorem ck_194 : ∀ i, chX 194 i = true := chX_of (n := 3) (by decide +kernel) (chQ_of (by decide +kernel))
theorem cm_195 : cwM 195 = true := by decide +kernel
theorem c0_195 : rpc (tab 195) 0 = 0 := by decide +kernel
theorem ck_195 : ∀ i, chX 195 i = true := chX_of (n := 3) (by decide +kernel) (chQ_of (by decide +kernel))
theorem cm_196 : cwM 196 = true := by decide +kernel
theorem c0_196 : rpc (tab 196) 0 = 0 := by decide +kernel
theorem cp_196_0 : chC 196 0 = true := by decide +kernel
theorem cp_196_1 : chC 196 1 = true := by decide +kernel
theorem cp_196_2 : chC 196 2 = true := by decide +kernel
theorem cp_196_3 : chC 196 3 = true := by decide +kernel
theorem cp_196_4 : chC 196 4 = true := by decide +kernel
theorem ck_196 : ∀ i, chX 196 i = true := chX_of (n := 5) (by decide +kernel) (fun q hq => match q, hq with
  | 0, _ => cp_196_0
  | 1, _ => cp_196_1
  | 2, _ => cp_196_2
  | 3, _ => cp_196_3
  | 4, _ => cp_196_4
  | q + 5, hq => absurd hq (by omega))
theorem cm_197 : cwM 197 = true := by decide +kernel
theorem c0_197 : rpc (tab 197) 0 = 0 := by decide +kernel
theorem ck_197 : ∀ i, chX 197 i = true := chX_of (n := 3) (by decide +kernel) (chQ_of (by decide +kernel))
theorem cm_198 : cwM 198 = true := by decide +kernel
theorem c0_198 : rpc (tab 198) 0 = 0 := by decide +kernel
theorem ck_198 : ∀ i, chX 198 i = true := chX_of (n := 2) (by decide +kernel) (chQ_of (by decide +kernel))
theorem cm_199 : cwM 199 = true := by decide +kernel
theorem c0_199 : rpc (tab 199) 0 = 0 := by decide +kernel
theorem ck_199 : ∀ i, chX 199 i = true := chX_of (n := 3) (by decide +kernel) (chQ_of (by decide +kernel))
theorem cm_200 : cwM 200 = true := by decide +kernel
theorem c0_200 : rpc (tab 200) 0 = 0 := by decide +kernel
theorem cp_200_0 : chC 200 0 = true := by decide +kernel
theorem cp_200_1 : chC 200 1 = true := by decide +kernel
theorem cp_200_2 : chC 200 2 = true := by decide +kernel
theorem cp_200_3 : chC 200 3 = true := by decide +kernel
theorem cp_200_4 : chC 200 4 = true := by decide +kernel
theorem ck_200 : ∀ i, chX 200 i = true := chX_of (n := 5) (by decide +kernel) (fun q hq => match q, hq with
  | 0, _ => cp_200_0
  | 1, _ => cp_200_1
  | 2, _ => cp_200_2
  | 3, _ => cp_200_3
  | 4, _ => cp_200_4
  | q + 5, hq => absurd hq (by omega))
theorem cm_201 : cwM 201 = true := by decide +kernel
theorem c0_201 : rpc (tab 201) 0 = 0 := by decide +kernel
theorem ck_201 : ∀ i, chX 201 i = true := chX_of (n := 2) (by decide +kernel) (chQ_of (by decide +kernel))
theorem cm_202 : cwM 202 = true := by decide +kernel
theorem c0_202 : rpc (tab 202) 0 = 0 := by decide +kernel
theorem cp_202_0 : chC 202 0 = true := by decide +kernel
theorem cp_202_1 : chC 202 1 = true := by decide +kernel
theorem cp_202_2 : chC 202 2 = true := by decide +kernel
theorem cp_202_3 : chC 202 3 = true := by decide +kernel
theorem cp_202_4 : chC 202 4 = true := by decide +kernel
theorem ck_202 : ∀ i, chX 202 i = true := chX_of (n := 5) (by decide +kernel) (fun q hq => match q, hq with
  | 0, _ => cp_202_0
  | 1, _ => cp_202_1
  | 2, _ => cp_202_2
  | 3, _ => cp_202_3
  | 4, _ => cp_202_4
  | q + 5, hq => absurd hq (by omega))
theorem cm_203 : cwM 203 = true := by decide +kernel
theorem c0_203 : rpc (tab 203) 0 = 0 := by decide +kernel
theorem ck_203 : ∀ i, chX 203 i = true := chX_of (n := 3) (by decide +kernel) (chQ_of (by decide +kernel))
theorem cm_204 : cwM 204 = true := by decide +kernel
theorem c0_204 : rpc (tab 204) 0 = 0 := by decide +kernel
theorem cp_204_0 : chC 204 0 = true := by decide +kernel
theorem cp_204_1 : chC 204 1 = true := by decide +kernel
theorem cp_204_2 : chC 204 2 = true := by decide +kernel
theorem cp_204_3 : chC 204 3 = true := by decide +kernel
theorem ck_204 : ∀ i, chX 204 i = true := chX_of (n := 4) (by decide +kernel) (fun q hq => match q, hq with
  | 0, _ => cp_204_0
  | 1, _ => cp_204_1
  | 2, _ => cp_204_2
  | 3, _ => cp_204_3
  | q + 4, hq => absurd hq (by omega))
theorem cm_205 : cwM 205 = true := by decide +kernel
theorem c0_205 : rpc (tab 205) 0 = 0 := by decide +kernel
theorem cp_205_0 : chC 205 0 = true := by decide +kernel
theorem cp_205_1 : chC 205 1 = true := by decide +kernel
theorem cp_205_2 : chC 205 2 = true := by decide +kernel
theorem cp_205_3 : chC 205 3 = true := by decide +kernel
theorem ck_205 : ∀ i, chX 205 i = true := chX_of (n := 4) (by decide +kernel) (fun q hq => match q, hq with
  | 0, _ => cp_205_0
  | 1, _ => cp_205_1
  | 2, _ => cp_205_2
  | 3, _ => cp_205_3
  | q + 4, hq => absurd hq (by omega))
theorem cm_206 : cwM 206 = true := by decide +kernel
theorem c0_206 : rpc (tab 206) 0 = 0 := by decide +kernel
theorem cp_206_0 : chC 206 0 = true := by decide +kernel
theorem cp_206_1 : chC 206 1 = true := by decide +kernel
theorem cp_206_2 : chC 206 2 = true := by decide +kernel
theorem cp_206_3 : chC 206 3 = true := by decide +kernel
theorem cp_206_4 : chC 206 4 = true := by decide +kernel
theorem ck_206 : ∀ i, chX 206 i = true := chX_of (n := 5) (by decide +kernel) (fun q hq => match q, hq with
  | 0, _ => cp_206_0
  | 1, _ => cp_206_1
  | 2, _ => cp_206_2
  | 3, _ => cp_206_3
  | 4, _ => cp_206_4
  | q + 5, hq => absurd hq (by omega))
theorem cm_207 : cwM 207 = true := by decide +kernel
theorem c0_207 : rpc (tab 207) 0 = 0 := by decide +kernel
theorem ck_207 : ∀ i, chX 207 i = true := chX_of (n := 3) (by decide +kernel) (chQ_of (by decide +kernel))
theorem cm_208 : cwM 208 = true := by decide +kernel
theorem c0_208 : rpc (tab 208) 0 = 0 := by decide +kernel
theorem ck_208 : ∀ i, chX 208 i = true := chX_of (n := 2) (by decide +kernel) (chQ_of (by decide +kernel))
theorem cm_209 : cwM 209 = true := by decide +kernel
theorem c0_209 : rpc (tab 209) 0 = 0 := by decide +kernel
theorem ck_209 : ∀ i, chX 209 i = true := chX_of (n := 1) (by decide +kernel) (chQ_of (by decide +kernel))
theorem cm_210 : cwM 210 = true := by decide +kernel
theorem c0_210 : rpc (tab 210) 0 = 0 := by decide +kernel
theorem ck_210 : ∀ i, chX 210 i = true := chX_of (n := 2) (by decide +kernel) (chQ_of (by decide +kernel))
theorem cm_211 : cwM 211 = true := by decide +kernel
theorem c0_211 : rpc (tab 211) 0 = 0 := by decide +kernel
theorem cp_211_0 : chC 211 0 = true := by decide +kernel
theorem cp_211_1 : chC 211 1 = true := by decide +kernel
theorem cp_211_2 : chC 211 2 = true := by decide +kernel
theorem cp_211_3 : chC 211 3 = true := by decide +kernel
theorem cp_211_4 : chC 211 4 = true := by decide +kernel
theorem ck_211 : ∀ i, chX 211 i = true := chX_of (n := 5) (by decide +kernel) (fun q hq => match q, hq with
  | 0, _ => cp_211_0
  | 1, _ => cp_211_1
  | 2, _ => cp_211_2
  | 3, _ => cp_211_3
  | 4, _ => cp_211_4
  | q + 5, hq => absurd hq (by omega))
theorem cm_212 : cwM 212 = true := by decide +kernel
theorem c0_212 : rpc (tab 212) 0 = 0 := by decide +kernel
theorem cp_212_0 : chC 212 0 = true := by decide +kernel
theorem cp_212_1 : chC 212 1 = true := by decide +kernel
theorem cp_212_2 : chC 212 2 = true := by decide +kernel
theorem cp_212_3 : chC 212 3 = true := by decide +kernel
theorem ck_212 : ∀ i, chX 212 i = true := chX_of (n := 4) (by decide +kernel) (fun q hq => match q, hq with
  | 0, _ => cp_212_0
  | 1, _ => cp_212_1
  | 2, _ => cp_212_2
  | 3, _ => cp_212_3
  | q + 4, hq => absurd hq (by omega))
theorem cm_213 : cwM 213 = true := by decide +kernel
theorem c0_213 : rpc (tab 213) 0 = 0 := by decide +kernel
theorem ck_213 : ∀ i, chX 213 i = true := chX_of (n := 2) (by decide +kernel) (chQ_of (by decide +kernel))
theorem cm_214 : cwM 214 = true := by decide +kernel
theorem c0_214 : rpc (tab 214) 0 = 0 := by decide +kernel
theorem cp_214_0 : chC 214 0 = true := by decide +kernel
theorem cp_214_1 : chC 214 1 = true := by decide +kernel
theorem cp_214_2 : chC 214 2 = true := by decide +kernel
theorem cp_214_3 : chC 214 3 = true := by decide +kernel
theorem cp_214_4 : chC 214 4 = true := by decide +kernel
theorem cp_214_5 : chC 214 5 = true := by decide +kernel
theorem ck_214 : ∀ i, chX 214 i = true := chX_of (n := 6) (by decide +kernel) (fun q hq => match q, hq with
  | 0, _ => cp_214_0
  | 1, _ => cp_214_1
  | 2, _ => cp_214_2
  | 3, _ => cp_214_3
  | 4, _ => cp_214_4
  | 5, _ => cp_214_5
  | q + 6, hq => absurd hq (by omega))
theorem cm_215 : cwM 215 = true := by decide +kernel
theorem c0_215 : rpc (tab 215) 0 = 0 := by decide +kernel
theorem ck_215 : ∀ i, chX 215 i = true := chX_of (n := 3) (by decide +kernel) (chQ_of (by decide +kernel))
theorem cm_216 : cwM 216 = true := by decide +kernel
theorem c0_216 : rpc (tab 216) 0 = 0 := by decide +kernel
theorem ck_216 : ∀ i, chX 216 i = true := chX_of (n := 1) (by decide +kernel) (chQ_of (by decide +kernel))
theorem cm_217 : cwM 217 = true := by decide +kernel
theorem c0_217 : rpc (tab 217) 0 = 0 := by decide +kernel
theorem cp_217_0 : chC 217 0 = true := by decide +kernel
theorem cp_217_1 : chC 217 1 = true := by decide +kernel
theorem cp_217_2 : chC 217 2 = true := by decide +kernel
theorem cp_217_3 : chC 217 3 = true := by decide +kernel
theorem cp_217_4 : chC 217 4 = true := by decide +kernel
theorem ck_217 : ∀ i, chX 217 i = true := chX_of (n := 5) (by decide +kernel) (fun q hq => match q, hq with
  | 0, _ => cp_217_0
  | 1, _ => cp_217_1
  | 2, _ => cp_217_2
  | 3, _ => cp_217_3
  | 4, _ => cp_217_4
  | q + 5, hq => absurd hq (by omega))
theorem cm_218 : cwM 218 = true := by decide +kernel
theorem c0_218 : rpc (tab 218) 0 = 0 := by decide +kernel
theorem ck_218 : ∀ i, chX 218 i = true := chX_of (n := 2) (by decide +kernel) (chQ_of (by decide +kernel))
theorem cm_219 : cwM 219 = true := by decide +kernel
theorem c0_219 : rpc (tab 219) 0 = 0 := by decide +kernel
theorem ck_219 : ∀ i, chX 219 i = true := chX_of (n := 1) (by decide +kernel) (chQ_of (by decide +kernel))
theorem cm_220 : cwM 220 = true := by decide +kernel
theorem c0_220 : rpc (tab 220) 0 = 0 := by decide +kernel
theorem ck_220 : ∀ i, chX 220 i = true := chX_of (n := 1) (by decide +kernel) (chQ_of (by decide +kernel))
