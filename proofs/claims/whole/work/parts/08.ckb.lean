theorem cm_133 : cwM 133 = true := by decide +kernel
theorem c0_133 : rpc (tab 133) 0 = 0 := by decide +kernel
theorem ck_133 : ∀ i, chX 133 i = true := chX_of (n := 2) (by decide +kernel) (chQ_of (by decide +kernel))
theorem cm_134 : cwM 134 = true := by decide +kernel
theorem c0_134 : rpc (tab 134) 0 = 0 := by decide +kernel
theorem ck_134 : ∀ i, chX 134 i = true := chX_of (n := 2) (by decide +kernel) (chQ_of (by decide +kernel))
theorem cm_135 : cwM 135 = true := by decide +kernel
theorem c0_135 : rpc (tab 135) 0 = 0 := by decide +kernel
theorem ck_135 : ∀ i, chX 135 i = true := chX_of (n := 2) (by decide +kernel) (chQ_of (by decide +kernel))
theorem cm_136 : cwM 136 = true := by decide +kernel
theorem c0_136 : rpc (tab 136) 0 = 0 := by decide +kernel
theorem ck_136 : ∀ i, chX 136 i = true := chX_of (n := 2) (by decide +kernel) (chQ_of (by decide +kernel))
theorem cm_137 : cwM 137 = true := by decide +kernel
theorem c0_137 : rpc (tab 137) 0 = 0 := by decide +kernel
theorem ck_137 : ∀ i, chX 137 i = true := chX_of (n := 1) (by decide +kernel) (chQ_of (by decide +kernel))
theorem cm_138 : cwM 138 = true := by decide +kernel
theorem c0_138 : rpc (tab 138) 0 = 0 := by decide +kernel
theorem ck_138 : ∀ i, chX 138 i = true := chX_of (n := 1) (by decide +kernel) (chQ_of (by decide +kernel))
theorem cm_139 : cwM 139 = true := by decide +kernel
theorem c0_139 : rpc (tab 139) 0 = 0 := by decide +kernel
theorem ck_139 : ∀ i, chX 139 i = true := chX_of (n := 1) (by decide +kernel) (chQ_of (by decide +kernel))
theorem cm_140 : cwM 140 = true := by decide +kernel
theorem c0_140 : rpc (tab 140) 0 = 0 := by decide +kernel
theorem ck_140 : ∀ i, chX 140 i = true := chX_of (n := 1) (by decide +kernel) (chQ_of (by decide +kernel))
theorem cm_141 : cwM 141 = true := by decide +kernel
theorem c0_141 : rpc (tab 141) 0 = 0 := by decide +kernel
theorem ck_141 : ∀ i, chX 141 i = true := chX_of (n := 1) (by decide +kernel) (chQ_of (by decide +kernel))
theorem cm_142 : cwM 142 = true := by decide +kernel
theorem c0_142 : rpc (tab 142) 0 = 0 := by decide +kernel
theorem ck_142 : ∀ i, chX 142 i = true := chX_of (n := 2) (by decide +kernel) (chQ_of (by decide +kernel))
theorem cm_143 : cwM 143 = true := by decide +kernel
theorem c0_143 : rpc (tab 143) 0 = 0 := by decide +kernel
theorem cp_143_0 : chC 143 0 = true := by decide +kernel
theorem cp_143_1 : chC 143 1 = true := by decide +kernel
theorem cp_143_2 : chC 143 2 = true := by decide +kernel
theorem cp_143_3 : chC 143 3 = true := by decide +kernel
theorem cp_143_4 : chC 143 4 = true := by decide +kernel
theorem ck_143 : ∀ i, chX 143 i = true := chX_of (n := 5) (by decide +kernel) (fun q hq => match q, hq with
  | 0, _ => cp_143_0
  | 1, _ => cp_143_1
  | 2, _ => cp_143_2
  | 3, _ => cp_143_3
  | 4, _ => cp_143_4
  | q + 5, hq => absurd hq (by omega))
theorem cm_144 : cwM 144 = true := by decide +kernel
theorem c0_144 : rpc (tab 144) 0 = 0 := by decide +kernel
theorem ck_144 : ∀ i, chX 144 i = true := chX_of (n := 1) (by decide +kernel) (chQ_of (by decide +kernel))
theorem cm_145 : cwM 145 = true := by decide +kernel
theorem c0_145 : rpc (tab 145) 0 = 0 := by decide +kernel
theorem ck_145 : ∀ i, chX 145 i = true := chX_of (n := 1) (by decide +kernel) (chQ_of (by decide +kernel))
theorem cm_146 : cwM 146 = true := by decide +kernel
theorem c0_146 : rpc (tab 146) 0 = 0 := by decide +kernel
theorem ck_146 : ∀ i, chX 146 i = true := chX_of (n := 1) (by decide +kernel) (chQ_of (by decide +kernel))
theorem cm_147 : cwM 147 = true := by decide +kernel
theorem c0_147 : rpc (tab 147) 0 = 0 := by decide +kernel
theorem cp_147_0 : chC 147 0 = true := by decide +kernel
theorem cp_147_1 : chC 147 1 = true := by decide +kernel
theorem cp_147_2 : chC 147 2 = true := by decide +kernel
theorem cp_147_3 : chC 147 3 = true := by decide +kernel
theorem cp_147_4 : chC 147 4 = true := by decide +kernel
theorem cp_147_5 : chC 147 5 = true := by decide +kernel
theorem cp_147_6 : chC 147 6 = true := by decide +kernel
theorem cp_147_7 : chC 147 7 = true := by decide +kernel
theorem cp_147_8 : chC 147 8 = true := by decide +kernel
theorem cp_147_9 : chC 147 9 = true := by decide +kernel
theorem cp_147_10 : chC 147 10 = true := by decide +kernel
theorem ck_147 : ∀ i, chX 147 i = true := chX_of (n := 11) (by decide +kernel) (fun q hq => match q, hq with
  | 0, _ => cp_147_0
  | 1, _ => cp_147_1
  | 2, _ => cp_147_2
  | 3, _ => cp_147_3
  | 4, _ => cp_147_4
  | 5, _ => cp_147_5
  | 6, _ => cp_147_6
  | 7, _ => cp_147_7
  | 8, _ => cp_147_8
  | 9, _ => cp_147_9
  | 10, _ => cp_147_10
  | q + 11, hq => absurd hq (by omega))
theorem cm_148 : cwM 148 = true := by decide +kernel
theorem c0_148 : rpc (tab 148) 0 = 0 := by decide +kernel
theorem ck_148 : ∀ i, chX 148 i = true := chX_of (n := 1) (by decide +kernel) (chQ_of (by decide +kernel))
theorem cm_149 : cwM 149 = true := by decide +kernel
theorem c0_149 : rpc (tab 149) 0 = 0 := by decide +kernel
theorem ck_149 : ∀ i, chX 149 i = true := chX_of (n := 1) (by decide +kernel) (chQ_of (by decide +kernel))
theorem cm_150 : cwM 150 = true := by decide +kernel
theorem c0_150 : rpc (tab 150) 0 = 0 := by decide +kernel
theorem ck_150 : ∀ i, chX 150 i = true := chX_of (n := 1) (by decide +kernel) (chQ_of (by decide +kernel))
theorem cm_151 : cwM 151 = true := by decide +kernel
theorem c0_151 : rpc (tab 151) 0 = 0 := by decide +kernel
theorem ck_151 : ∀ i, chX 151 i = true := chX_of (n := 2) (by decide +kernel) (chQ_of (by decide +kernel))
theorem cm_152 : cwM 152 = true := by decide +kernel
theorem c0_152 : rpc (tab 152) 0 = 0 := by decide +kernel
theorem ck_152 : ∀ i, chX 152 i = true := chX_of (n := 2) (by decide +kernel) (chQ_of (by decide +kernel))
theorem cm_153 : cwM 153 = true := by decide +kernel
theorem c0_153 : rpc (tab 153) 0 = 0 := by decide +kernel
theorem cp_153_0 : chC 153 0 = true := by decide +kernel
theorem cp_153_1 : chC 153 1 = true := by decide +kernel
theorem cp_153_2 : chC 153 2 = true := by decide +kernel
theorem cp_153_3 : chC 153 3 = true := by decide +kernel
theorem cp_153_4 : chC 153 4 = true := by decide +kernel
theorem cp_153_5 : chC 153 5 = true := by decide +kernel
theorem cp_153_6 : chC 153 6 = true := by decide +kernel
theorem cp_153_7 : chC 153 7 = true := by decide +kernel
theorem cp_153_8 : chC 153 8 = true := by decide +kernel
theorem cp_153_9 : chC 153 9 = true := by decide +kernel
theorem cp_153_10 : chC 153 10 = true := by decide +kernel
theorem cp_153_11 : chC 153 11 = true := by decide +kernel
theorem ck_153 : ∀ i, chX 153 i = true := chX_of (n := 12) (by decide +kernel) (fun q hq => match q, hq with
  | 0, _ => cp_153_0
  | 1, _ => cp_153_1
  | 2, _ => cp_153_2
  | 3, _ => cp_153_3
  | 4, _ => cp_153_4
  | 5, _ => cp_153_5
  | 6, _ => cp_153_6
  | 7, _ => cp_153_7
  | 8, _ => cp_153_8
  | 9, _ => cp_153_9
  | 10, _ => cp_153_10
  | 11, _ => cp_153_11
  | q + 12, hq => absurd hq (by omega))
theorem cm_154 : cwM 154 = true := by decide +kernel
theorem c0_154 : rpc (tab 154) 0 = 0 := by decide +kernel
theorem cp_154_0 : chC 154 0 = true := by decide +kernel
theorem cp_154_1 : chC 154 1 = true := by decide +kernel
theorem cp_154_2 : chC 154 2 = true := by decide +kernel
theorem cp_154_3 : chC 154 3 = true := by decide +kernel
theorem cp_154_4 : chC 154 4 = true := by decide +kernel
theorem ck_154 : ∀ i, chX 154 i = true := chX_of (n := 5) (by decide +kernel) (fun q hq => match q, hq with
  | 0, _ => cp_154_0
  | 1, _ => cp_154_1
  | 2, _ => cp_154_2
  | 3, _ => cp_154_3
  | 4, _ => cp_154_4
  | q + 5, hq => absurd hq (by omega))
theorem cm_155 : cwM 155 = true := by decide +kernel
theorem c0_155 : rpc (tab 155) 0 = 0 := by decide +kernel
theorem cp_155_0 : chC 155 0 = true := by decide +kernel
theorem cp_155_1 : chC 155 1 = true := by decide +kernel
theorem cp_155_2 : chC 155 2 = true := by decide +kernel
theorem cp_155_3 : chC 155 3 = true := by decide +kernel
theorem cp_155_4 : chC 155 4 = true := by decide +kernel
theorem cp_155_5 : chC 155 5 = true := by decide +kernel
theorem cp_155_6 : chC 155 6 = true := by decide +kernel
theorem cp_155_7 : chC 155 7 = true := by decide +kernel
theorem ck_155 : ∀ i, chX 155 i = true := chX_of (n := 8) (by decide +kernel) (fun q hq => match q, hq with
  | 0, _ => cp_155_0
  | 1, _ => cp_155_1
  | 2, _ => cp_155_2
  | 3, _ => cp_155_3
  | 4, _ => cp_155_4
  | 5, _ => cp_155_5
  | 6, _ => cp_155_6
  | 7, _ => cp_155_7
  | q + 8, hq => absurd hq (by omega))
theorem cm_156 : cwM 156 = true := by decide +kernel
theorem c0_156 : rpc (tab 156) 0 = 0 := by decide +kernel
theorem ck_156 : ∀ i, chX 156 i = true := chX_of (n := 1) (by decide +kernel) (chQ_of (by decide +kernel))
theorem cm_157 : cwM 157 = true := by decide +kernel
theorem c0_157 : rpc (tab 157) 0 = 0 := by decide +kernel
theorem ck_157 : ∀ i, chX 157 i = true := chX_of (n := 1) (by decide +kernel) (chQ_of (by decide +kernel))
theorem cm_158 : cwM 158 = true := by decide +kernel
theorem c0_158 : rpc (tab 158) 0 = 0 := by decide +kernel
theorem ck_158 : ∀ i, chX 158 i = true := chX_of (n := 2) (by decide +kernel) (chQ_of (by decide +kernel))
theorem cm_159 : cwM 159 = true := by decide +kernel
theorem c0_159 : rpc (tab 159) 0 = 0 := by decide +kernel
theorem cp_159_0 : chC 159 0 = true := by decide +kernel
theorem cp_159_1 : chC 159 1 = true := by decide +kernel
theorem cp_159_2 : chC 159 2 = true := by decide +kernel
theorem cp_159_3 : chC 159 3 = true := by decide +kernel
theorem ck_159 : ∀ i, chX 159 i = true := chX_of (n := 4) (by decide +kernel) (fun q hq => match q, hq with
  | 0, _ => cp_159_0
  | 1, _ => cp_159_1
  | 2, _ => cp_159_2
  | 3, _ => cp_159_3
  | q + 4, hq => absurd hq (by omega))
theorem cm_160 : cwM 160 = true := by decide +kernel
theorem c0_160 : rpc (tab 160) 0 = 0 := by decide +kernel
theorem ck_160 : ∀ i, chX 160 i = true := chX_of (n := 3) (by decide +kernel) (chQ_of (by decide +kernel))
theorem cm_161 : cwM 161 = true := by decide +kernel
theorem c0_161 : rpc (tab 161) 0 = 0 := by decide +kernel
theorem ck_161 : ∀ i, chX 161 i = true := chX_of (n := 1) (by decide +kernel) (chQ_of (by decide +kernel))
theorem cm_162 : cwM 162 = true := by decide +kernel
theorem c0_162 : rpc (tab 162) 0 = 0 := by decide +kernel
theorem ck_162 : ∀ i, chX 162 i = true := chX_of (n := 2) (by decide +kernel) (chQ_of (by decide +kernel))
theorem cm_163 : cwM 163 = true := by decide +kernel
theorem c0_163 : rpc (tab 163) 0 = 0 := by decide +kernel
theorem cp_163_0 : chC 163 0 = true := by decide +kernel
theorem cp_163_1 : chC 163 1 = true := by decide +kernel
theorem cp_163_2 : chC 163 2 = true := by decide +kernel
theorem cp_163_3 : chC 163 3 = true := by decide +kernel
theorem cp_163_4 : chC 163 4 = true := by decide +kernel
theorem cp_163_5 : chC 163 5 = true := by decide +kernel
theorem cp_163_6 : chC 163 6 = true := by decide +kernel
theorem ck_163 : ∀ i, chX 163 i = true := chX_of (n := 7) (by decide +kernel) (fun q hq => match q, hq with
  | 0, _ => cp_163_0
  | 1, _ => cp_163_1
  | 2, _ => cp_163_2
  | 3, _ => cp_163_3
  | 4, _ => cp_163_4
  | 5, _ => cp_163_5
  | 6, _ => cp_163_6
  | q + 7, hq => absurd hq (by omega))
theorem cm_164 : cwM 164 = true := by decide +kernel
theorem c0_164 : rpc (tab 164) 0 = 0 := by decide +kernel
theorem ck_164 : ∀ i, chX 164 i = true := chX_of (n := 1) (by decide +kernel) (chQ_of (by decide +kernel))
theorem cm_165 : cwM 165 = true := by decide +kernel
theorem c0_165 : rpc (tab 165) 0 = 0 := by decide +kernel
theorem ck_165 : ∀ i, chX 165 i = true := chX_of (n := 2) (by decide +kernel) (chQ_of (by decide +kernel))
theorem cm_166 : cwM 166 = true := by decide +kernel
theorem c0_166 : rpc (tab 166) 0 = 0 := by decide +kernel
theorem cp_166_0 : chC 166 0 = true := by decide +kernel
theorem cp_166_1 : chC 166 1 = true := by decide +kernel
theorem cp_166_2 : chC 166 2 = true := by decide +kernel
theorem cp_166_3 : chC 166 3 = true := by decide +kernel
theorem ck_166 : ∀ i, chX 166 i = true := chX_of (n := 4) (by decide +kernel) (fun q hq => match q, hq with
  | 0, _ => cp_166_0
  | 1, _ => cp_166_1
  | 2, _ => cp_166_2
  | 3, _ => cp_166_3
  | q + 4, hq => absurd hq (by omega))
theorem cm_167 : cwM 167 = true := by decide +kernel
theorem c0_167 : rpc (tab 167) 0 = 0 := by decide +kernel
theorem cp_167_0 : chC 167 0 = true := by decide +kernel
theorem cp_167_1 : chC 167 1 = true := by decide +kernel
theorem cp_167_2 : chC 167 2 = true := by decide +kernel
theorem cp_167_3 : chC 167 3 = true := by decide +kernel
theorem ck_167 : ∀ i, chX 167 i = true := chX_of (n := 4) (by decide +kernel) (fun q hq => match q, hq with
  | 0, _ => cp_167_0
  | 1, _ => cp_167_1
  | 2, _ => cp_167_2
  | 3, _ => cp_167_3
  | q + 4, hq => absurd hq (by omega))
theorem cm_168 : cwM 168 = true := by decide +kernel
theorem c0_168 : rpc (tab 168) 0 = 0 := by decide +kernel
theorem cp_168_0 : chC 168 0 = true := by decide +kernel
theorem cp_168_1 : chC 168 1 = true := by decide +kernel
theorem cp_168_2 : chC 168 2 = true := by decide +kernel
theorem cp_168_3 : chC 168 3 = true := by decide +kernel
theorem cp_168_4 : chC 168 4 = true := by decide +kernel
theorem ck_168 : ∀ i, chX 168 i = true := chX_of (n := 5) (by decide +kernel) (fun q hq => match q, hq with
  | 0, _ => cp_168_0
  | 1, _ => cp_168_1
  | 2, _ => cp_168_2
  | 3, _ => cp_168_3
  | 4, _ => cp_168_4
  | q + 5, hq => absurd hq (by omega))
theorem cm_169 : cwM 169 = true := by decide +kernel
theorem c0_169 : rpc (tab 169) 0 = 0 := by decide +kernel
theorem cp_169_0 : chC 169 0 = true := by decide +kernel
theorem cp_169_1 : chC 169 1 = true := by decide +kernel
theorem cp_169_2 : chC 169 2 = true := by decide +kernel
theorem cp_169_3 : chC 169 3 = true := by decide +kernel
theorem cp_169_4 : chC 169 4 = true := by decide +kernel
theorem cp_169_5 : chC 169 5 = true := by decide +kernel
theorem cp_169_6 : chC 169 6 = true := by decide +kernel
theorem cp_169_7 : chC 169 7 = true := by decide +kernel
theorem cp_169_8 : chC 169 8 = true := by decide +kernel
theorem cp_169_9 : chC 169 9 = true := by decide +kernel
theorem cp_169_10 : chC 169 10 = true := by decide +kernel
theorem ck_169 : ∀ i, chX 169 i = true := chX_of (n := 11) (by decide +kernel) (fun q hq => match q, hq with
  | 0, _ => cp_169_0
  | 1, _ => cp_169_1
  | 2, _ => cp_169_2
  | 3, _ => cp_169_3
  | 4, _ => cp_169_4
  | 5, _ => cp_169_5
  | 6, _ => cp_169_6
  | 7, _ => cp_169_7
  | 8, _ => cp_169_8
  | 9, _ => cp_169_9
  | 10, _ => cp_169_10
  | q + 11, hq => absurd hq (by omega))
theorem cm_170 : cwM 170 = true := by decide +kernel
theorem c0_170 : rpc (tab 170) 0 = 0 := by decide +kernel
theorem cp_170_0 : chC 170 0 = true := by decide +kernel
theorem cp_170_1 : chC 170 1 = true := by decide +kernel
theorem cp_170_2 : chC 170 2 = true := by decide +kernel
theorem cp_170_3 : chC 170 3 = true := by decide +kernel
theorem cp_170_4 : chC 170 4 = true := by decide +kernel
theorem cp_170_5 : chC 170 5 = true := by decide +kernel
theorem cp_170_6 : chC 170 6 = true := by decide +kernel
theorem cp_170_7 : chC 170 7 = true := by decide +kernel
theorem cp_170_8 : chC 170 8 = true := by decide +kernel
theorem ck_170 : ∀ i, chX 170 i = true := chX_of (n := 9) (by decide +kernel) (fun q hq => match q, hq with
  | 0, _ => cp_170_0
  | 1, _ => cp_170_1
  | 2, _ => cp_170_2
  | 3, _ => cp_170_3
  | 4, _ => cp_170_4
  | 5, _ => cp_170_5
  | 6, _ => cp_170_6
  | 7, _ => cp_170_7
  | 8, _ => cp_170_8
  | q + 9, hq => absurd hq (by omega))
theorem cm_171 : cwM 171 = true := by decide +kernel
theorem c0_171 : rpc (tab 171) 0 = 0 := by decide +kernel
theorem cp_171_0 : chC 171 0 = true := by decide +kernel
theorem cp_171_1 : chC 171 1 = true := by decide +kernel
theorem cp_171_2 : chC 171 2 = true := by decide +kernel
theorem cp_171_3 : chC 171 3 = true := by decide +kernel
theorem cp_171_4 : chC 171 4 = true := by decide +kernel
theorem cp_171_5 : chC 171 5 = true := by decide +kernel
theorem cp_171_6 : chC 171 6 = true := by decide +kernel
theorem ck_171 : ∀ i, chX 171 i = true := chX_of (n := 7) (by decide +kernel) (fun q hq => match q, hq with
  | 0, _ => cp_171_0
  | 1, _ => cp_171_1
  | 2, _ => cp_171_2
  | 3, _ => cp_171_3
  | 4, _ => cp_171_4
  | 5, _ => cp_171_5
  | 6, _ => cp_171_6
  | q + 7, hq => absurd hq (by omega))
theorem cm_172 : cwM 172 = true := by decide +kernel
theorem c0_172 : rpc (tab 172) 0 = 0 := by decide +kernel
theorem ck_172 : ∀ i, chX 172 i = true := chX_of (n := 3) (by decide +kernel) (chQ_of (by decide +kernel))
theorem cm_173 : cwM 173 = true := by decide +kernel
theorem c0_173 : rpc (tab 173) 0 = 0 := by decide +kernel
theorem ck_173 : ∀ i, chX 173 i = true := chX_of (n := 3) (by decide +kernel) (chQ_of (by decide +kernel))
theorem cm_174 : cwM 174 = true := by decide +kernel
theorem c0_174 : rpc (tab 174) 0 = 0 := by decide +kernel
theorem ck_174 : ∀ i, chX 174 i = true := chX_of (n := 3) (by decide +kernel) (chQ_of (by decide +kernel))
theorem cm_175 : cwM 175 = true := by decide +kernel
theorem c0_175 : rpc (tab 175) 0 = 0 := by decide +kernel
theorem ck_175 : ∀ i, chX 175 i = true := chX_of (n := 1) (by decide +kernel) (chQ_of (by decide +kernel))
theorem cm_176 : cwM 176 = true := by decide +kernel
theorem c0_176 : rpc (tab 176) 0 = 0 := by decide +kernel
theorem ck_176 : ∀ i, chX 176 i = true := chX_of (n := 2) (by decide +kernel) (chQ_of (by decide +kernel))
theorem cm_177 : cwM 177 = true := by decide +kernel
theorem c0_177 : rpc (tab 177) 0 = 0 := by decide +kernel
theorem ck_177 : ∀ i, chX 177 i = true := chX_of (n := 2) (by decide +kernel) (chQ_of (by decide +kernel))
theorem cm_178 : cwM 178 = true := by decide +kernel
theorem c0_178 : rpc (tab 178) 0 = 0 := by decide +kernel
theorem ck_178 : ∀ i, chX 178 i = true := chX_of (n := 2) (by decide +kernel) (chQ_of (by decide +kernel))
theorem cm_179 : cwM 179 = true := by decide +kernel
theorem c0_179 : rpc (tab 179) 0 = 0 := by decide +kernel
theorem ck_179 : ∀ i, chX 179 i = true := chX_of (n := 3) (by decide +kernel) (chQ_of (by decide +kernel))
theorem cm_180 : cwM 180 = true := by decide +kernel
theorem c0_180 : rpc (tab 180) 0 = 0 := by decide +kernel
theorem ck_180 : ∀ i, chX 180 i = true := chX_of (n := 1) (by decide +kernel) (chQ_of (by decide +kernel))
theorem cm_181 : cwM 181 = true := by decide +kernel
theorem c0_181 : rpc (tab 181) 0 = 0 := by decide +kernel
theorem ck_181 : ∀ i, chX 181 i = true := chX_of (n := 2) (by decide +kernel) (chQ_of (by decide +kernel))
theorem cm_182 : cwM 182 = true := by decide +kernel
theorem c0_182 : rpc (tab 182) 0 = 0 := by decide +kernel
theorem ck_182 : ∀ i, chX 182 i = true := chX_of (n := 2) (by decide +kernel) (chQ_of (by decide +kernel))
theorem cm_183 : cwM 183 = true := by decide +kernel
theorem c0_183 : rpc (tab 183) 0 = 0 := by decide +kernel
theorem cp_183_0 : chC 183 0 = true := by decide +kernel
theorem cp_183_1 : chC 183 1 = true := by decide +kernel
theorem cp_183_2 : chC 183 2 = true := by decide +kernel
theorem cp_183_3 : chC 183 3 = true := by decide +kernel
theorem cp_183_4 : chC 183 4 = true := by decide +kernel
theorem cp_183_5 : chC 183 5 = true := by decide +kernel
theorem ck_183 : ∀ i, chX 183 i = true := chX_of (n := 6) (by decide +kernel) (fun q hq => match q, hq with
  | 0, _ => cp_183_0
  | 1, _ => cp_183_1
  | 2, _ => cp_183_2
  | 3, _ => cp_183_3
  | 4, _ => cp_183_4
  | 5, _ => cp_183_5
  | q + 6, hq => absurd hq (by omega))
theorem cm_184 : cwM 184 = true := by decide +kernel
theorem c0_184 : rpc (tab 184) 0 = 0 := by decide +kernel
theorem cp_184_0 : chC 184 0 = true := by decide +kernel
theorem cp_184_1 : chC 184 1 = true := by decide +kernel
theorem cp_184_2 : chC 184 2 = true := by decide +kernel
theorem cp_184_3 : chC 184 3 = true := by decide +kernel
theorem cp_184_4 : chC 184 4 = true := by decide +kernel
theorem ck_184 : ∀ i, chX 184 i = true := chX_of (n := 5) (by decide +kernel) (fun q hq => match q, hq with
  | 0, _ => cp_184_0
  | 1, _ => cp_184_1
  | 2, _ => cp_184_2
  | 3, _ => cp_184_3
  | 4, _ => cp_184_4
  | q + 5, hq => absurd hq (by omega))
theorem cm_185 : cwM 185 = true := by decide +kernel
theorem c0_185 : rpc (tab 185) 0 = 0 := by decide +kernel
theorem ck_185 : ∀ i, chX 185 i = true := chX_of (n := 2) (by decide +kernel) (chQ_of (by decide +kernel))
theorem cm_186 : cwM 186 = true := by decide +kernel
theorem c0_186 : rpc (tab 186) 0 = 0 := by decide +kernel
theorem cp_186_0 : chC 186 0 = true := by decide +kernel
theorem cp_186_1 : chC 186 1 = true := by decide +kernel
theorem cp_186_2 : chC 186 2 = true := by decide +kernel
theorem cp_186_3 : chC 186 3 = true := by decide +kernel
theorem ck_186 : ∀ i, chX 186 i = true := chX_of (n := 4) (by decide +kernel) (fun q hq => match q, hq with
  | 0, _ => cp_186_0
  | 1, _ => cp_186_1
  | 2, _ => cp_186_2
  | 3, _ => cp_186_3
  | q + 4, hq => absurd hq (by omega))
theorem cm_187 : cwM 187 = true := by decide +kernel
theorem c0_187 : rpc (tab 187) 0 = 0 := by decide +kernel
theorem ck_187 : ∀ i, chX 187 i = true := chX_of (n := 3) (by decide +kernel) (chQ_of (by decide +kernel))
theorem cm_188 : cwM 188 = true := by decide +kernel
theorem c0_188 : rpc (tab 188) 0 = 0 := by decide +kernel
theorem ck_188 : ∀ i, chX 188 i = true := chX_of (n := 3) (by decide +kernel) (chQ_of (by decide +kernel))
theorem cm_189 : cwM 189 = true := by decide +kernel
theorem c0_189 : rpc (tab 189) 0 = 0 := by decide +kernel
theorem ck_189 : ∀ i, chX 189 i = true := chX_of (n := 2) (by decide +kernel) (chQ_of (by decide +kernel))
theorem cm_190 : cwM 190 = true := by decide +kernel
theorem c0_190 : rpc (tab 190) 0 = 0 := by decide +kernel
theorem ck_190 : ∀ i, chX 190 i = true := chX_of (n := 3) (by decide +kernel) (chQ_of (by decide +kernel))
theorem cm_191 : cwM 191 = true := by decide +kernel
theorem c0_191 : rpc (tab 191) 0 = 0 := by decide +kernel
theorem cp_191_0 : chC 191 0 = true := by decide +kernel
theorem cp_191_1 : chC 191 1 = true := by decide +kernel
theorem cp_191_2 : chC 191 2 = true := by decide +kernel
theorem cp_191_3 : chC 191 3 = true := by decide +kernel
theorem ck_191 : ∀ i, chX 191 i = true := chX_of (n := 4) (by decide +kernel) (fun q hq => match q, hq with
  | 0, _ => cp_191_0
  | 1, _ => cp_191_1
  | 2, _ => cp_191_2
  | 3, _ => cp_191_3
  | q + 4, hq => absurd hq (by omega))
theorem cm_192 : cwM 192 = true := by decide +kernel
theorem c0_192 : rpc (tab 192) 0 = 0 := by decide +kernel
theorem ck_192 : ∀ i, chX 192 i = true := chX_of (n := 2) (by decide +kernel) (chQ_of (by decide +kernel))
theorem cm_193 : cwM 193 = true := by decide +kernel
theorem c0_193 : rpc (tab 193) 0 = 0 := by decide +kernel
theorem ck_193 : ∀ i, chX 193 i = true := chX_of (n := 1) (by decide +kernel) (chQ_of (by decide +kernel))
theorem cm_194 : cwM 194 = true := by decide +kernel
theorem c0_194 : rpc (tab 194) 0 = 0 := by decide +kernel
theorem ck_194 : ∀ i, chX 194 i = true := chX_of (n := 1) (by decide +kernel) (chQ_of (by decide +kernel))
theorem cm_195 : cwM 195 = true := by decide +kernel
theorem c0_195 : rpc (tab 195) 0 = 0 := by decide +kernel
theorem ck_195 : ∀ i, chX 195 i = true := chX_of (n := 3) (by decide +kernel) (chQ_of (by decide +kernel))
theorem cm_196 : cwM 196 = true := by decide +kernel
theorem c0_196 : rpc (tab 196) 0 = 0 := by decide +kernel
theorem ck_196 : ∀ i, chX 196 i = true := chX_of (n := 2) (by decide +kernel) (chQ_of (by decide +kernel))
theorem cm_197 : cwM 197 = true := by decide +kernel
theorem c0_197 : rpc (tab 197) 0 = 0 := by decide +kernel
theorem cp_197_0 : chC 197 0 = true := by decide +kernel
theorem cp_197_1 : chC 197 1 = true := by decide +kernel
theorem cp_197_2 : chC 197 2 = true := by decide +kernel
theorem cp_197_3 : chC 197 3 = true := by decide +kernel
theorem ck_197 : ∀ i, chX 197 i = true := chX_of (n := 4) (by decide +kernel) (fun q hq => match q, hq with
  | 0, _ => cp_197_0
  | 1, _ => cp_197_1
  | 2, _ => cp_197_2
  | 3, _ => cp_197_3
  | q + 4, hq => absurd hq (by omega))
theorem cm_198 : cwM 198 = true := by decide +kernel
theorem c0_198 : rpc (tab 198) 0 = 0 := by decide +kernel
theorem ck_198 : ∀ i, chX 198 i = true := chX_of (n := 3) (by decide +kernel) (chQ_of (by decide +kernel))
theorem cm_199 : cwM 199 = true := by decide +kernel
theorem c0_199 : rpc (tab 199) 0 = 0 := by decide +kernel
theorem ck_199 : ∀ i, chX 199 i = true := chX_of (n := 3) (by decide +kernel) (chQ_of (by decide +kernel))
theorem cm_200 : cwM 200 = true := by decide +kernel
theorem c0_200 : rpc (tab 200) 0 = 0 := by decide +kernel
theorem ck_200 : ∀ i, chX 200 i = true := chX_of (n := 3) (by decide +kernel) (chQ_of (by decide +kernel))
theorem cm_201 : cwM 201 = true := by decide +kernel
theorem c0_201 : rpc (tab 201) 0 = 0 := by decide +kernel
theorem cp_201_0 : chC 201 0 = true := by decide +kernel
theorem cp_201_1 : chC 201 1 = true := by decide +kernel
theorem cp_201_2 : chC 201 2 = true := by decide +kernel
theorem cp_201_3 : chC 201 3 = true := by decide +kernel
theorem cp_201_4 : chC 201 4 = true := by decide +kernel
theorem ck_201 : ∀ i, chX 201 i = true := chX_of (n := 5) (by decide +kernel) (fun q hq => match q, hq with
  | 0, _ => cp_201_0
  | 1, _ => cp_201_1
  | 2, _ => cp_201_2
  | 3, _ => cp_201_3
  | 4, _ => cp_201_4
  | q + 5, hq => absurd hq (by omega))
theorem cm_202 : cwM 202 = true := by decide +kernel
theorem c0_202 : rpc (tab 202) 0 = 0 := by decide +kernel
theorem ck_202 : ∀ i, chX 202 i = true := chX_of (n := 3) (by decide +kernel) (chQ_of (by decide +kernel))
theorem cm_203 : cwM 203 = true := by decide +kernel
theorem c0_203 : rpc (tab 203) 0 = 0 := by decide +kernel
theorem ck_203 : ∀ i, chX 203 i = true := chX_of (n := 2) (by decide +kernel) (chQ_of (by decide +kernel))
theorem cm_204 : cwM 204 = true := by decide +kernel
theorem c0_204 : rpc (tab 204) 0 = 0 := by decide +kernel
theorem ck_204 : ∀ i, chX 204 i = true := chX_of (n := 3) (by decide +kernel) (chQ_of (by decide +kernel))
theorem cm_205 : cwM 205 = true := by decide +kernel
theorem c0_205 : rpc (tab 205) 0 = 0 := by decide +kernel
theorem cp_205_0 : chC 205 0 = true := by decide +kernel
theorem cp_205_1 : chC 205 1 = true := by decide +kernel
theorem cp_205_2 : chC 205 2 = true := by decide +kernel
theorem cp_205_3 : chC 205 3 = true := by decide +kernel
theorem cp_205_4 : chC 205 4 = true := by decide +kernel
theorem ck_205 : ∀ i, chX 205 i = true := chX_of (n := 5) (by decide +kernel) (fun q hq => match q, hq with
  | 0, _ => cp_205_0
  | 1, _ => cp_205_1
  | 2, _ => cp_205_2
  | 3, _ => cp_205_3
  | 4, _ => cp_205_4
  | q + 5, hq => absurd hq (by omega))
theorem cm_206 : cwM 206 = true := by decide +kernel
theorem c0_206 : rpc (tab 206) 0 = 0 := by decide +kernel
theorem ck_206 : ∀ i, chX 206 i = true := chX_of (n := 2) (by decide +kernel) (chQ_of (by decide +kernel))
theorem cm_207 : cwM 207 = true := by decide +kernel
theorem c0_207 : rpc (tab 207) 0 = 0 := by decide +kernel
theorem cp_207_0 : chC 207 0 = true := by decide +kernel
theorem cp_207_1 : chC 207 1 = true := by decide +kernel
theorem cp_207_2 : chC 207 2 = true := by decide +kernel
theorem cp_207_3 : chC 207 3 = true := by decide +kernel
theorem cp_207_4 : chC 207 4 = true := by decide +kernel
theorem ck_207 : ∀ i, chX 207 i = true := chX_of (n := 5) (by decide +kernel) (fun q hq => match q, hq with
  | 0, _ => cp_207_0
  | 1, _ => cp_207_1
  | 2, _ => cp_207_2
  | 3, _ => cp_207_3
  | 4, _ => cp_207_4
  | q + 5, hq => absurd hq (by omega))
theorem cm_208 : cwM 208 = true := by decide +kernel
theorem c0_208 : rpc (tab 208) 0 = 0 := by decide +kernel
theorem ck_208 : ∀ i, chX 208 i = true := chX_of (n := 3) (by decide +kernel) (chQ_of (by decide +kernel))
theorem cm_209 : cwM 209 = true := by decide +kernel
theorem c0_209 : rpc (tab 209) 0 = 0 := by decide +kernel
theorem cp_209_0 : chC 209 0 = true := by decide +kernel
theorem cp_209_1 : chC 209 1 = true := by decide +kernel
theorem cp_209_2 : chC 209 2 = true := by decide +kernel
theorem cp_209_3 : chC 209 3 = true := by decide +kernel
theorem ck_209 : ∀ i, chX 209 i = true := chX_of (n := 4) (by decide +kernel) (fun q hq => match q, hq with
  | 0, _ => cp_209_0
  | 1, _ => cp_209_1
  | 2, _ => cp_209_2
  | 3, _ => cp_209_3
  | q + 4, hq => absurd hq (by omega))
theorem cm_210 : cwM 210 = true := by decide +kernel
theorem c0_210 : rpc (tab 210) 0 = 0 := by decide +kernel
theorem cp_210_0 : chC 210 0 = true := by decide +kernel
theorem cp_210_1 : chC 210 1 = true := by decide +kernel
theorem cp_210_2 : chC 210 2 = true := by decide +kernel
theorem cp_210_3 : chC 210 3 = true := by decide +kernel
theorem ck_210 : ∀ i, chX 210 i = true := chX_of (n := 4) (by decide +kernel) (fun q hq => match q, hq with
  | 0, _ => cp_210_0
  | 1, _ => cp_210_1
  | 2, _ => cp_210_2
  | 3, _ => cp_210_3
  | q + 4, hq => absurd hq (by omega))
theorem cm_211 : cwM 211 = true := by decide +kernel
theorem c0_211 : rpc (tab 211) 0 = 0 := by decide +kernel
theorem cp_211_0 : chC 211 0 = true := by decide +kernel
theorem cp_211_1 : chC 211 1 = true := by decide +kernel
theorem cp_211_2 : chC 211 2 = true := by decide +kernel
theorem cp_211_3 : chC 211 3 = true := by decide +kernel
theorem cp_211_4 : chC 211 4 = true := by decide +kernel
theorem ck_211 : ∀ i, chX 211 i = true := chX_of (n := 5) (by decide +kernel) (fun q hq => match q, hq with
  | 0, _ => cp_211_0
  | 1, _ => cp_211_1
  | 2, _ => cp_211_2
  | 3, _ => cp_211_3
  | 4, _ => cp_211_4
  | q + 5, hq => absurd hq (by omega))
theorem cm_212 : cwM 212 = true := by decide +kernel
theorem c0_212 : rpc (tab 212) 0 = 0 := by decide +kernel
theorem ck_212 : ∀ i, chX 212 i = true := chX_of (n := 3) (by decide +kernel) (chQ_of (by decide +kernel))
theorem cm_213 : cwM 213 = true := by decide +kernel
theorem c0_213 : rpc (tab 213) 0 = 0 := by decide +kernel
theorem ck_213 : ∀ i, chX 213 i = true := chX_of (n := 2) (by decide +kernel) (chQ_of (by decide +kernel))
theorem cm_214 : cwM 214 = true := by decide +kernel
theorem c0_214 : rpc (tab 214) 0 = 0 := by decide +kernel
theorem ck_214 : ∀ i, chX 214 i = true := chX_of (n := 1) (by decide +kernel) (chQ_of (by decide +kernel))
theorem cm_215 : cwM 215 = true := by decide +kernel
theorem c0_215 : rpc (tab 215) 0 = 0 := by decide +kernel
theorem ck_215 : ∀ i, chX 215 i = true := chX_of (n := 2) (by decide +kernel) (chQ_of (by decide +kernel))
theorem cm_216 : cwM 216 = true := by decide +kernel
theorem c0_216 : rpc (tab 216) 0 = 0 := by decide +kernel
theorem cp_216_0 : chC 216 0 = true := by decide +kernel
theorem cp_216_1 : chC 216 1 = true := by decide +kernel
theorem cp_216_2 : chC 216 2 = true := by decide +kernel
theorem cp_216_3 : chC 216 3 = true := by decide +kernel
theorem cp_216_4 : chC 216 4 = true := by decide +kernel
theorem ck_216 : ∀ i, chX 216 i = true := chX_of (n := 5) (by decide +kernel) (fun q hq => match q, hq with
  | 0, _ => cp_216_0
  | 1, _ => cp_216_1
  | 2, _ => cp_216_2
  | 3, _ => cp_216_3
  | 4, _ => cp_216_4
  | q + 5, hq => absurd hq (by omega))
theorem cm_217 : cwM 217 = true := by decide +kernel
theorem c0_217 : rpc (tab 217) 0 = 0 := by decide +kernel
theorem cp_217_0 : chC 217 0 = true := by decide +kernel
theorem cp_217_1 : chC 217 1 = true := by decide +kernel
theorem cp_217_2 : chC 217 2 = true := by decide +kernel
theorem cp_217_3 : chC 217 3 = true := by decide +kernel
theorem ck_217 : ∀ i, chX 217 i = true := chX_of (n := 4) (by decide +kernel) (fun q hq => match q, hq with
  | 0, _ => cp_217_0
  | 1, _ => cp_217_1
  | 2, _ => cp_217_2
  | 3, _ => cp_217_3
  | q + 4, hq => absurd hq (by omega))
theorem cm_218 : cwM 218 = true := by decide +kernel
theorem c0_218 : rpc (tab 218) 0 = 0 := by decide +kernel
theorem ck_218 : ∀ i, chX 218 i = true := chX_of (n := 2) (by decide +kernel) (chQ_of (by decide +kernel))
theorem cm_219 : cwM 219 = true := by decide +kernel
theorem c0_219 : rpc (tab 219) 0 = 0 := by decide +kernel
theorem cp_219_0 : chC 219 0 = true := by decide +kernel
theorem cp_219_1 : chC 219 1 = true := by decide +kernel
theorem cp_219_2 : chC 219 2 = true := by decide +kernel
theorem cp_219_3 : chC 219 3 = true := by decide +kernel
theorem cp_219_4 : chC 219 4 = true := by decide +kernel
theorem cp_219_5 : chC 219 5 = true := by decide +kernel
theorem ck_219 : ∀ i, chX 219 i = true := chX_of (n := 6) (by decide +kernel) (fun q hq => match q, hq with
  | 0, _ => cp_219_0
  | 1, _ => cp_219_1
  | 2, _ => cp_219_2
  | 3, _ => cp_219_3
  | 4, _ => cp_219_4
  | 5, _ => cp_219_5
  | q + 6, hq => absurd hq (by omega))
theorem cm_220 : cwM 220 = true := by decide +kernel
theorem c0_220 : rpc (tab 220) 0 = 0 := by decide +kernel
theorem ck_220 : ∀ i, chX 220 i = true := chX_of (n := 3) (by decide +kernel) (chQ_of (by decide +kernel))
theorem cm_221 : cwM 221 = true := by decide +kernel
theorem c0_221 : rpc (tab 221) 0 = 0 := by decide +kernel
theorem ck_221 : ∀ i, chX 221 i = true := chX_of (n := 1) (by decide +kernel) (chQ_of (by decide +kernel))
theorem cm_222 : cwM 222 = true := by decide +kernel
theorem c0_222 : rpc (tab 222) 0 = 0 := by decide +kernel
theorem cp_222_0 : chC 222 0 = true := by decide +kernel
theorem cp_222_1 : chC 222 1 = true := by decide +kernel
theorem cp_222_2 : chC 222 2 = true := by decide +kernel
theorem cp_222_3 : chC 222 3 = true := by decide +kernel
theorem cp_222_4 : chC 222 4 = true := by decide +kernel
theorem ck_222 : ∀ i, chX 222 i = true := chX_of (n := 5) (by decide +kernel) (fun q hq => match q, hq with
  | 0, _ => cp_222_0
  | 1, _ => cp_222_1
  | 2, _ => cp_222_2
  | 3, _ => cp_222_3
  | 4, _ => cp_222_4
  | q + 5, hq => absurd hq (by omega))
theorem cm_223 : cwM 223 = true := by decide +kernel
theorem c0_223 : rpc (tab 223) 0 = 0 := by decide +kernel
theorem ck_223 : ∀ i, chX 223 i = true := chX_of (n := 2) (by decide +kernel) (chQ_of (by decide +kernel))
theorem cm_224 : cwM 224 = true := by decide +kernel
theorem c0_224 : rpc (tab 224) 0 = 0 := by decide +kernel
theorem ck_224 : ∀ i, chX 224 i = true := chX_of (n := 1) (by decide +kernel) (chQ_of (by decide +kernel))
theorem cm_225 : cwM 225 = true := by decide +kernel
theorem c0_225 : rpc (tab 225) 0 = 0 := by decide +kernel
theorem ck_225 : ∀ i, chX 225 i = true := chX_of (n := 1) (by decide +kernel) (chQ_of (by decide +kernel))
