theorem lk_RL_100 : hf_kv RL 100 yX4_can cX4_can 10 (some .int) RX4 3 := hf_kv_of (hf_c3 81 rfl rfl) (hf_c3 82 rfl rfl) (hf_c3 83 rfl rfl) (hf_c1 1 rfl rfl) (hf_c3 84 rfl rfl) (by decide) ⟨rfl, by decide +kernel⟩
theorem lk_RL_103 : hf_kv RL 103 yX5_can cX5_can 7 (some .int) RX5 3 := hf_kv_of (hf_c5 130 rfl rfl) (hf_c5 131 rfl rfl) (hf_c5 132 rfl rfl) (hf_c1 6 rfl rfl) (hf_c5 133 rfl rfl) (by decide) ⟨rfl, by decide +kernel⟩
theorem lk_RL_104 : hf_kv RL 104 yX4_worlds cX4_worlds 1 (some .long) RX4 0 := hf_kv_of (hf_c3 88 rfl rfl) (hf_c3 89 rfl rfl) (hf_c3 90 rfl rfl) (hf_c1 1 rfl rfl) (hf_c3 91 rfl rfl) (by decide) ⟨rfl, by decide +kernel⟩
theorem lk_RL_108 : hf_kv RL 108 yX5_worlds cX5_worlds 1 (some .long) RX5 0 := hf_kv_of (hf_c5 138 rfl rfl) (hf_c5 139 rfl rfl) (hf_c5 140 rfl rfl) (hf_c1 6 rfl rfl) (hf_c5 141 rfl rfl) (by decide) ⟨rfl, by decide +kernel⟩
theorem lk_RL_109 : hf_kv RL 109 yX4_many cX4_many 1 (some .int) RX4 0 := hf_kv_of (hf_c3 92 rfl rfl) (hf_c3 93 rfl rfl) (hf_c3 94 rfl rfl) (hf_c1 1 rfl rfl) (hf_c3 95 rfl rfl) (by decide) ⟨rfl, by decide +kernel⟩
theorem lk_RL_112 : hf_kv RL 112 yX5_many cX5_many 1 (some .int) RX5 0 := hf_kv_of (hf_c5 142 rfl rfl) (hf_c5 143 rfl rfl) (hf_c5 144 rfl rfl) (hf_c1 6 rfl rfl) (hf_c5 145 rfl rfl) (by decide) ⟨rfl, by decide +kernel⟩
theorem lk_RL_113 : hf_kv RL 113 yX4_sure cX4_sure 2 (some .int) RX4 1 := hf_kv_of (hf_c3 96 rfl rfl) (hf_c3 97 rfl rfl) (hf_c3 98 rfl rfl) (hf_c1 1 rfl rfl) (hf_c3 99 rfl rfl) (by decide) ⟨rfl, by decide +kernel⟩
theorem lk_RL_116 : hf_kv RL 116 yX5_sure cX5_sure 2 (some .int) RX5 1 := hf_kv_of (hf_c5 146 rfl rfl) (hf_c5 147 rfl rfl) (hf_c5 148 rfl rfl) (hf_c1 6 rfl rfl) (hf_c5 149 rfl rfl) (by decide) ⟨rfl, by decide +kernel⟩
theorem lk_RL_117 : hf_kv RL 117 yX4_sures cX4_sures 5 (some .int) RX4 0 := hf_kv_of (hf_c3 103 rfl rfl) (hf_c3 104 rfl rfl) (hf_c3 105 rfl rfl) (hf_c1 1 rfl rfl) (hf_c3 106 rfl rfl) (by decide) ⟨rfl, by decide +kernel⟩
theorem lk_RL_120 : hf_kv RL 120 yX5_sures cX5_sures 5 (some .int) RX5 0 := hf_kv_of (hf_c5 158 rfl rfl) (hf_c5 159 rfl rfl) (hf_c5 160 rfl rfl) (hf_c1 6 rfl rfl) (hf_c5 161 rfl rfl) (by decide) ⟨rfl, by decide +kernel⟩
theorem lk_RL_121 : hf_kv RL 121 yX4_shown cX4_shown 3 (some .int) RX4 1 := hf_kv_of (hf_c3 107 rfl rfl) (hf_c3 108 rfl rfl) (hf_c3 109 rfl rfl) (hf_c1 1 rfl rfl) (hf_c3 110 rfl rfl) (by decide) ⟨rfl, by decide +kernel⟩
theorem lk_RL_124 : hf_kv RL 124 yX5_shown cX5_shown 3 (some .int) RX5 1 := hf_kv_of (hf_c5 162 rfl rfl) (hf_c5 163 rfl rfl) (hf_c5 164 rfl rfl) (hf_c1 6 rfl rfl) (hf_c5 165 rfl rfl) (by decide) ⟨rfl, by decide +kernel⟩
theorem lk_RL_125 : hf_kv RL 125 yX4_proof cX4_proof 6 (some .int) RX4 1 := hf_kv_of (hf_c3 111 rfl rfl) (hf_c3 112 rfl rfl) (hf_c3 113 rfl rfl) (hf_c1 1 rfl rfl) (hf_c3 114 rfl rfl) (by decide) ⟨rfl, by decide +kernel⟩
theorem lk_RL_128 : hf_kv RL 128 yX5_proof cX5_proof 6 (some .int) RX5 1 := hf_kv_of (hf_c5 166 rfl rfl) (hf_c5 167 rfl rfl) (hf_c5 168 rfl rfl) (hf_c1 6 rfl rfl) (hf_c5 169 rfl rfl) (by decide) ⟨rfl, by decide +kernel⟩
theorem lk_RL_129 : hf_kv RL 129 yX4_worst cX4_worst 3 (some .int) RX4 2 := hf_kv_of (hf_c3 121 rfl rfl) (hf_c3 122 rfl rfl) (hf_c3 123 rfl rfl) (hf_c1 1 rfl rfl) (hf_c3 124 rfl rfl) (by decide) ⟨rfl, by decide +kernel⟩
theorem lk_RL_13 : hf_kv RL 13 yX4_row cX4_row 4 (some .int) RX4 3 := hf_kv_of (hf_c1 204 rfl rfl) (hf_c1 205 rfl rfl) (hf_c1 206 rfl rfl) (hf_c1 1 rfl rfl) (hf_c1 207 rfl rfl) (by decide) ⟨rfl, by decide +kernel⟩
theorem lk_RL_132 : hf_kv RL 132 yX5_worst cX5_worst 3 (some .int) RX5 2 := hf_kv_of (hf_c5 170 rfl rfl) (hf_c5 171 rfl rfl) (hf_c5 172 rfl rfl) (hf_c1 6 rfl rfl) (hf_c5 173 rfl rfl) (by decide) ⟨rfl, by decide +kernel⟩
theorem lk_RL_133 : hf_kv RL 133 yX4_next cX4_next 8 (some .int) RX4 0 := hf_kv_of (hf_c3 130 rfl rfl) (hf_c3 131 rfl rfl) (hf_c3 132 rfl rfl) (hf_c1 1 rfl rfl) (hf_c3 133 rfl rfl) (by decide) ⟨rfl, by decide +kernel⟩
theorem lk_RL_136 : hf_kv RL 136 yX5_next cX5_next 6 (some .int) RX5 0 := hf_kv_of (hf_c5 178 rfl rfl) (hf_c5 179 rfl rfl) (hf_c5 180 rfl rfl) (hf_c1 6 rfl rfl) (hf_c5 181 rfl rfl) (by decide) ⟨rfl, by decide +kernel⟩
theorem lk_RL_137 : hf_kv RL 137 yX4_knows cX4_knows 3 (some .int) RX4 2 := hf_kv_of (hf_c3 134 rfl rfl) (hf_c3 135 rfl rfl) (hf_c3 136 rfl rfl) (hf_c1 1 rfl rfl) (hf_c3 137 rfl rfl) (by decide) ⟨rfl, by decide +kernel⟩
theorem lk_RL_140 : hf_kv RL 140 yX5_knows cX5_knows 3 (some .int) RX5 2 := hf_kv_of (hf_c5 182 rfl rfl) (hf_c5 183 rfl rfl) (hf_c5 184 rfl rfl) (hf_c1 6 rfl rfl) (hf_c5 185 rfl rfl) (by decide) ⟨rfl, by decide +kernel⟩
theorem lk_RL_141 : hf_kv RL 141 yX4_tree cX4_tree 5 (some .int) RX4 1 := hf_kv_of (hf_c3 146 rfl rfl) (hf_c3 147 rfl rfl) (hf_c3 148 rfl rfl) (hf_c1 1 rfl rfl) (hf_c3 149 rfl rfl) (by decide) ⟨rfl, by decide +kernel⟩
theorem lk_RL_144 : hf_kv RL 144 yX5_tree cX5_tree 3 (some .int) RX5 1 := hf_kv_of (hf_c5 190 rfl rfl) (hf_c5 191 rfl rfl) (hf_c5 192 rfl rfl) (hf_c1 6 rfl rfl) (hf_c5 193 rfl rfl) (by decide) ⟨rfl, by decide +kernel⟩
theorem lk_RL_145 : hf_kv RL 145 yX4_rows cX4_rows 3 (some .int) RX4 2 := hf_kv_of (hf_c3 150 rfl rfl) (hf_c3 151 rfl rfl) (hf_c3 152 rfl rfl) (hf_c1 1 rfl rfl) (hf_c3 153 rfl rfl) (by decide) ⟨rfl, by decide +kernel⟩
theorem lk_RL_148 : hf_kv RL 148 yX5_rows cX5_rows 3 (some .int) RX5 2 := hf_kv_of (hf_c5 194 rfl rfl) (hf_c5 195 rfl rfl) (hf_c5 196 rfl rfl) (hf_c1 6 rfl rfl) (hf_c5 197 rfl rfl) (by decide) ⟨rfl, by decide +kernel⟩
theorem lk_RL_149 : hf_kv RL 149 yX4_tells cX4_tells 4 (some .int) RX4 2 := hf_kv_of (hf_c3 158 rfl rfl) (hf_c3 159 rfl rfl) (hf_c3 160 rfl rfl) (hf_c1 1 rfl rfl) (hf_c3 161 rfl rfl) (by decide) ⟨rfl, by decide +kernel⟩
theorem lk_RL_152 : hf_kv RL 152 yX5_tells cX5_tells 4 (some .int) RX5 2 := hf_kv_of (hf_c5 206 rfl rfl) (hf_c5 207 rfl rfl) (hf_c5 208 rfl rfl) (hf_c1 6 rfl rfl) (hf_c5 209 rfl rfl) (by decide) ⟨rfl, by decide +kernel⟩
theorem lk_RL_153 : hf_kv RL 153 yX4_errands cX4_errands 9 (some .int) RX4 2 := hf_kv_of (hf_c3 162 rfl rfl) (hf_c3 163 rfl rfl) (hf_c3 164 rfl rfl) (hf_c1 1 rfl rfl) (hf_c3 165 rfl rfl) (by decide) ⟨rfl, by decide +kernel⟩
theorem lk_RL_156 : hf_kv RL 156 yX5_errands cX5_errands 4 (some .int) RX5 2 := hf_kv_of (hf_c5 210 rfl rfl) (hf_c5 211 rfl rfl) (hf_c5 212 rfl rfl) (hf_c1 6 rfl rfl) (hf_c5 213 rfl rfl) (by decide) ⟨rfl, by decide +kernel⟩
theorem lk_RL_157 : hf_kv RL 157 yX4_placed cX4_placed 4 (some .int) RX4 2 := hf_kv_of (hf_c3 179 rfl rfl) (hf_c3 180 rfl rfl) (hf_c3 181 rfl rfl) (hf_c1 1 rfl rfl) (hf_c3 182 rfl rfl) (by decide) ⟨rfl, by decide +kernel⟩
theorem lk_RL_160 : hf_kv RL 160 yX5_placed cX5_placed 4 (some .int) RX5 2 := hf_kv_of (hf_c5 222 rfl rfl) (hf_c5 223 rfl rfl) (hf_c5 224 rfl rfl) (hf_c1 6 rfl rfl) (hf_c5 225 rfl rfl) (by decide) ⟨rfl, by decide +kernel⟩
theorem lk_RL_161 : hf_kv RL 161 yX4_trust cX4_trust 8 (some .int) RX4 1 := hf_kv_of (hf_c3 183 rfl rfl) (hf_c3 184 rfl rfl) (hf_c3 185 rfl rfl) (hf_c1 1 rfl rfl) (hf_c3 186 rfl rfl) (by decide) ⟨rfl, by decide +kernel⟩
theorem lk_RL_164 : hf_kv RL 164 yX5_trust cX5_trust 6 (some .int) RX5 1 := hf_kv_of (hf_c5 226 rfl rfl) (hf_c5 227 rfl rfl) (hf_c5 228 rfl rfl) (hf_c1 6 rfl rfl) (hf_c5 229 rfl rfl) (by decide) ⟨rfl, by decide +kernel⟩
theorem lk_RL_165 : hf_kv RL 165 yX4_witness cX4_witness 5 (some .int) RX4 0 := hf_kv_of (hf_c3 197 rfl rfl) (hf_c3 198 rfl rfl) (hf_c3 199 rfl rfl) (hf_c1 1 rfl rfl) (hf_c3 200 rfl rfl) (by decide) ⟨rfl, by decide +kernel⟩
theorem lk_RL_168 : hf_kv RL 168 yX5_witness cX5_witness 5 (some .int) RX5 0 := hf_kv_of (hf_c5 235 rfl rfl) (hf_c5 236 rfl rfl) (hf_c5 237 rfl rfl) (hf_c1 6 rfl rfl) (hf_c5 238 rfl rfl) (by decide) ⟨rfl, by decide +kernel⟩
theorem lk_RL_169 : hf_kv RL 169 yX4_judge cX4_judge 7 (some .int) RX4 2 := hf_kv_of (hf_c3 205 rfl rfl) (hf_c3 206 rfl rfl) (hf_c3 207 rfl rfl) (hf_c1 1 rfl rfl) (hf_c3 208 rfl rfl) (by decide) ⟨rfl, by decide +kernel⟩
theorem lk_RL_17 : hf_kv RL 17 yX5_row cX5_row 5 (some .int) RX5 3 := hf_kv_of (hf_c4 174 rfl rfl) (hf_c4 175 rfl rfl) (hf_c4 176 rfl rfl) (hf_c1 6 rfl rfl) (hf_c4 177 rfl rfl) (by decide) ⟨rfl, by decide +kernel⟩
theorem lk_RL_172 : hf_kv RL 172 yX5_judge cX5_judge 12 (some .int) RX5 2 := hf_kv_of (hf_c5 239 rfl rfl) (hf_c6x 0 rfl rfl) (hf_c6x 1 rfl rfl) (hf_c1 6 rfl rfl) (hf_c6x 2 rfl rfl) (by decide) ⟨rfl, by decide +kernel⟩
theorem lk_RL_173 : hf_kv RL 173 yX4_sunset cX4_sunset 1 (some .int) RX4 0 := hf_kv_of (hf_c3 213 rfl rfl) (hf_c3 214 rfl rfl) (hf_c3 215 rfl rfl) (hf_c1 1 rfl rfl) (hf_c3 216 rfl rfl) (by decide) ⟨rfl, by decide +kernel⟩
theorem lk_RL_176 : hf_kv RL 176 yX5_sunset cX5_sunset 1 (some .int) RX5 0 := hf_kv_of (hf_c6x 3 rfl rfl) (hf_c6x 4 rfl rfl) (hf_c6x 5 rfl rfl) (hf_c1 6 rfl rfl) (hf_c6x 6 rfl rfl) (by decide) ⟨rfl, by decide +kernel⟩
theorem lk_RL_177 : hf_kv RL 177 yX4_draw cX4_draw 6 (some .int) RX4 0 := hf_kv_of (hf_c3 221 rfl rfl) (hf_c3 222 rfl rfl) (hf_c3 223 rfl rfl) (hf_c1 1 rfl rfl) (hf_c3 224 rfl rfl) (by decide) ⟨rfl, by decide +kernel⟩
theorem lk_RL_180 : hf_kv RL 180 yX5_draw cX5_draw 6 (some .int) RX5 0 := hf_kv_of (hf_c6x 7 rfl rfl) (hf_c6x 8 rfl rfl) (hf_c6x 9 rfl rfl) (hf_c1 6 rfl rfl) (hf_c6x 10 rfl rfl) (by decide) ⟨rfl, by decide +kernel⟩
theorem lk_RL_181 : hf_kv RL 181 yX4_ask cX4_ask 6 (some .int) RX4 2 := hf_kv_of (hf_c3 230 rfl rfl) (hf_c3 231 rfl rfl) (hf_c3 232 rfl rfl) (hf_c1 1 rfl rfl) (hf_c3 233 rfl rfl) (by decide) ⟨rfl, by decide +kernel⟩
theorem lk_RL_184 : hf_kv RL 184 yX5_ask cX5_ask 7 (some .int) RX5 2 := hf_kv_of (hf_c6x 16 rfl rfl) (hf_c6x 17 rfl rfl) (hf_c6x 18 rfl rfl) (hf_c1 6 rfl rfl) (hf_c6x 19 rfl rfl) (by decide) ⟨rfl, by decide +kernel⟩
theorem lk_RL_185 : hf_kv RL 185 yX4_truly cX4_truly 2 (some .int) RX4 1 := hf_kv_of (hf_c3 238 rfl rfl) (hf_c3 239 rfl rfl) (hf_c4 0 rfl rfl) (hf_c1 1 rfl rfl) (hf_c4 1 rfl rfl) (by decide) ⟨rfl, by decide +kernel⟩
theorem lk_RL_188 : hf_kv RL 188 yX5_truly cX5_truly 2 (some .int) RX5 1 := hf_kv_of (hf_c6x 20 rfl rfl) (hf_c6x 21 rfl rfl) (hf_c6x 22 rfl rfl) (hf_c1 6 rfl rfl) (hf_c6x 23 rfl rfl) (by decide) ⟨rfl, by decide +kernel⟩
theorem lk_RL_189 : hf_kv RL 189 yX4_seed cX4_seed 3 (some .int) RX4 1 := hf_kv_of (hf_c4 2 rfl rfl) (hf_c4 3 rfl rfl) (hf_c4 4 rfl rfl) (hf_c1 1 rfl rfl) (hf_c4 5 rfl rfl) (by decide) ⟨rfl, by decide +kernel⟩
theorem lk_RL_192 : hf_kv RL 192 yX5_seed cX5_seed 3 (some .int) RX5 1 := hf_kv_of (hf_c6x 24 rfl rfl) (hf_c6x 25 rfl rfl) (hf_c6x 26 rfl rfl) (hf_c1 6 rfl rfl) (hf_c6x 27 rfl rfl) (by decide) ⟨rfl, by decide +kernel⟩
theorem lk_RL_193 : hf_kv RL 193 yX4_act cX4_act 4 (some .int) RX4 3 := hf_kv_of (hf_c4 6 rfl rfl) (hf_c4 7 rfl rfl) (hf_c4 8 rfl rfl) (hf_c1 1 rfl rfl) (hf_c4 9 rfl rfl) (by decide) ⟨rfl, by decide +kernel⟩
theorem lk_RL_196 : hf_kv RL 196 yX5_act cX5_act 4 (some .int) RX5 3 := hf_kv_of (hf_c6x 28 rfl rfl) (hf_c6x 29 rfl rfl) (hf_c6x 30 rfl rfl) (hf_c1 6 rfl rfl) (hf_c6x 31 rfl rfl) (by decide) ⟨rfl, by decide +kernel⟩
theorem lk_RL_197 : hf_kv RL 197 yX4_trace cX4_trace 2 (some .int) RX4 1 := hf_kv_of (hf_c4 37 rfl rfl) (hf_c4 38 rfl rfl) (hf_c4 39 rfl rfl) (hf_c1 1 rfl rfl) (hf_c4 40 rfl rfl) (by decide) ⟨rfl, by decide +kernel⟩
theorem lk_RL_20 : hf_kv RL 20 yX4_set cX4_set 6 (some .int) RX4 3 := hf_kv_of (hf_c1 229 rfl rfl) (hf_c1 230 rfl rfl) (hf_c1 231 rfl rfl) (hf_c1 1 rfl rfl) (hf_c1 232 rfl rfl) (by decide) ⟨rfl, by decide +kernel⟩
theorem lk_RL_200 : hf_kv RL 200 yX5_trace cX5_trace 2 (some .int) RX5 1 := hf_kv_of (hf_c6x 48 rfl rfl) (hf_c6x 49 rfl rfl) (hf_c6x 50 rfl rfl) (hf_c1 6 rfl rfl) (hf_c6x 51 rfl rfl) (by decide) ⟨rfl, by decide +kernel⟩
theorem lk_RL_201 : hf_kv RL 201 yX4_image cX4_image 1 (some .int) RX4 0 := hf_kv_of (hf_c4 41 rfl rfl) (hf_c4 42 rfl rfl) (hf_c4 43 rfl rfl) (hf_c1 1 rfl rfl) (hf_c4 44 rfl rfl) (by decide) ⟨rfl, by decide +kernel⟩
theorem lk_RL_204 : hf_kv RL 204 yX5_image cX5_image 1 (some .int) RX5 0 := hf_kv_of (hf_c6x 52 rfl rfl) (hf_c6x 53 rfl rfl) (hf_c6x 54 rfl rfl) (hf_c1 6 rfl rfl) (hf_c6x 55 rfl rfl) (by decide) ⟨rfl, by decide +kernel⟩
theorem lk_RL_205 : hf_kv RL 205 yX4_restore cX4_restore 2 (some .int) RX4 0 := hf_kv_of (hf_c4 45 rfl rfl) (hf_c4 46 rfl rfl) (hf_c4 47 rfl rfl) (hf_c1 1 rfl rfl) (hf_c4 48 rfl rfl) (by decide) ⟨rfl, by decide +kernel⟩
theorem lk_RL_208 : hf_kv RL 208 yX5_restore cX5_restore 2 (some .int) RX5 0 := hf_kv_of (hf_c6x 56 rfl rfl) (hf_c6x 57 rfl rfl) (hf_c6x 58 rfl rfl) (hf_c1 6 rfl rfl) (hf_c6x 59 rfl rfl) (by decide) ⟨rfl, by decide +kernel⟩
theorem lk_RL_209 : hf_kv RL 209 yX4_status cX4_status 2 (some .int) RX4 1 := hf_kv_of (hf_c4 49 rfl rfl) (hf_c4 50 rfl rfl) (hf_c4 51 rfl rfl) (hf_c1 1 rfl rfl) (hf_c4 52 rfl rfl) (by decide) ⟨rfl, by decide +kernel⟩
theorem lk_RL_212 : hf_kv RL 212 yX5_status cX5_status 2 (some .int) RX5 1 := hf_kv_of (hf_c6x 60 rfl rfl) (hf_c6x 61 rfl rfl) (hf_c6x 62 rfl rfl) (hf_c1 6 rfl rfl) (hf_c6x 63 rfl rfl) (by decide) ⟨rfl, by decide +kernel⟩
theorem lk_RL_24 : hf_kv RL 24 yX5_set cX5_set 5 (some .int) RX5 3 := hf_kv_of (hf_c4 186 rfl rfl) (hf_c4 187 rfl rfl) (hf_c4 188 rfl rfl) (hf_c1 6 rfl rfl) (hf_c4 189 rfl rfl) (by decide) ⟨rfl, by decide +kernel⟩
theorem lk_RL_25 : hf_kv RL 25 yX4_copy cX4_copy 8 (some .int) RX4 5 := hf_kv_of (hf_c2 14 rfl rfl) (hf_c2 15 rfl rfl) (hf_c2 16 rfl rfl) (hf_c1 1 rfl rfl) (hf_c2 17 rfl rfl) (by decide) ⟨rfl, by decide +kernel⟩
theorem lk_RL_29 : hf_kv RL 29 yX5_copy cX5_copy 7 (some .int) RX5 5 := hf_kv_of (hf_c4 190 rfl rfl) (hf_c4 191 rfl rfl) (hf_c4 192 rfl rfl) (hf_c1 6 rfl rfl) (hf_c4 193 rfl rfl) (by decide) ⟨rfl, by decide +kernel⟩
theorem lk_RL_30 : hf_kv RL 30 yX4_element cX4_element 3 (some .long) RX4 2 := hf_kv_of (hf_c2 25 rfl rfl) (hf_c2 26 rfl rfl) (hf_c2 27 rfl rfl) (hf_c1 1 rfl rfl) (hf_c2 28 rfl rfl) (by decide) ⟨rfl, by decide +kernel⟩
theorem lk_RL_34 : hf_kv RL 34 yX5_element cX5_element 3 (some .long) RX5 2 := hf_kv_of (hf_c4 194 rfl rfl) (hf_c4 195 rfl rfl) (hf_c4 196 rfl rfl) (hf_c1 6 rfl rfl) (hf_c4 197 rfl rfl) (by decide) ⟨rfl, by decide +kernel⟩
theorem lk_RL_35 : hf_kv RL 35 yX4_show cX4_show 3 (some .int) RX4 2 := hf_kv_of (hf_c2 29 rfl rfl) (hf_c2 30 rfl rfl) (hf_c2 31 rfl rfl) (hf_c1 1 rfl rfl) (hf_c2 32 rfl rfl) (by decide) ⟨rfl, by decide +kernel⟩
theorem lk_RL_39 : hf_kv RL 39 yX5_show cX5_show 3 (some .int) RX5 2 := hf_kv_of (hf_c4 198 rfl rfl) (hf_c4 199 rfl rfl) (hf_c4 200 rfl rfl) (hf_c1 6 rfl rfl) (hf_c4 201 rfl rfl) (by decide) ⟨rfl, by decide +kernel⟩
theorem lk_RL_40 : hf_kv RL 40 yX4_holds cX4_holds 2 (some .int) RX4 1 := hf_kv_of (hf_c2 37 rfl rfl) (hf_c2 38 rfl rfl) (hf_c2 39 rfl rfl) (hf_c1 1 rfl rfl) (hf_c2 40 rfl rfl) (by decide) ⟨rfl, by decide +kernel⟩
theorem lk_RL_44 : hf_kv RL 44 yX5_holds cX5_holds 2 (some .int) RX5 1 := hf_kv_of (hf_c4 206 rfl rfl) (hf_c4 207 rfl rfl) (hf_c4 208 rfl rfl) (hf_c1 6 rfl rfl) (hf_c4 209 rfl rfl) (by decide) ⟨rfl, by decide +kernel⟩
theorem lk_RL_45 : hf_kv RL 45 yX4_says cX4_says 5 (some .int) RX4 2 := hf_kv_of (hf_c2 41 rfl rfl) (hf_c2 42 rfl rfl) (hf_c2 43 rfl rfl) (hf_c1 1 rfl rfl) (hf_c2 44 rfl rfl) (by decide) ⟨rfl, by decide +kernel⟩
theorem lk_RL_48 : hf_kv RL 48 yX5_says cX5_says 6 (some .int) RX5 2 := hf_kv_of (hf_c4 210 rfl rfl) (hf_c4 211 rfl rfl) (hf_c4 212 rfl rfl) (hf_c1 6 rfl rfl) (hf_c4 213 rfl rfl) (by decide) ⟨rfl, by decide +kernel⟩
theorem lk_RL_49 : hf_kv RL 49 yX4_fact cX4_fact 2 (some .int) RX4 1 := hf_kv_of (hf_c2 61 rfl rfl) (hf_c2 62 rfl rfl) (hf_c2 63 rfl rfl) (hf_c1 1 rfl rfl) (hf_c2 64 rfl rfl) (by decide) ⟨rfl, by decide +kernel⟩
theorem lk_RL_52 : hf_kv RL 52 yX5_fact cX5_fact 2 (some .int) RX5 1 := hf_kv_of (hf_c4 222 rfl rfl) (hf_c4 223 rfl rfl) (hf_c4 224 rfl rfl) (hf_c1 6 rfl rfl) (hf_c4 225 rfl rfl) (by decide) ⟨rfl, by decide +kernel⟩
theorem lk_RL_53 : hf_kv RL 53 yX4_speaker cX4_speaker 3 (some .int) RX4 2 := hf_kv_of (hf_c2 69 rfl rfl) (hf_c2 70 rfl rfl) (hf_c2 71 rfl rfl) (hf_c1 1 rfl rfl) (hf_c2 72 rfl rfl) (by decide) ⟨rfl, by decide +kernel⟩
theorem lk_RL_56 : hf_kv RL 56 yX5_speaker cX5_speaker 3 (some .int) RX5 2 := hf_kv_of (hf_c4 230 rfl rfl) (hf_c4 231 rfl rfl) (hf_c4 232 rfl rfl) (hf_c1 6 rfl rfl) (hf_c4 233 rfl rfl) (by decide) ⟨rfl, by decide +kernel⟩
theorem lk_RL_57 : hf_kv RL 57 yX4_law cX4_law 4 (some .int) RX4 2 := hf_kv_of (hf_c2 77 rfl rfl) (hf_c2 78 rfl rfl) (hf_c2 79 rfl rfl) (hf_c1 1 rfl rfl) (hf_c2 80 rfl rfl) (by decide) ⟨rfl, by decide +kernel⟩
theorem lk_RL_60 : hf_kv RL 60 yX5_law cX5_law 4 (some .int) RX5 2 := hf_kv_of (hf_c4 238 rfl rfl) (hf_c4 239 rfl rfl) (hf_c5 0 rfl rfl) (hf_c1 6 rfl rfl) (hf_c5 1 rfl rfl) (by decide) ⟨rfl, by decide +kernel⟩
theorem lk_RL_61 : hf_kv RL 61 yX4_speakerOf cX4_speakerOf 3 (some .int) RX4 2 := hf_kv_of (hf_c2 81 rfl rfl) (hf_c2 82 rfl rfl) (hf_c2 83 rfl rfl) (hf_c1 1 rfl rfl) (hf_c2 84 rfl rfl) (by decide) ⟨rfl, by decide +kernel⟩
theorem lk_RL_64 : hf_kv RL 64 yX5_speakerOf cX5_speakerOf 3 (some .int) RX5 2 := hf_kv_of (hf_c5 2 rfl rfl) (hf_c5 3 rfl rfl) (hf_c5 4 rfl rfl) (hf_c1 6 rfl rfl) (hf_c5 5 rfl rfl) (by decide) ⟨rfl, by decide +kernel⟩
theorem lk_RL_65 : hf_kv RL 65 yX4_harm cX4_harm 4 (some .int) RX4 2 := hf_kv_of (hf_c2 85 rfl rfl) (hf_c2 86 rfl rfl) (hf_c2 87 rfl rfl) (hf_c1 1 rfl rfl) (hf_c2 88 rfl rfl) (by decide) ⟨rfl, by decide +kernel⟩
theorem lk_RL_68 : hf_kv RL 68 yX5_harm cX5_harm 4 (some .int) RX5 2 := hf_kv_of (hf_c5 6 rfl rfl) (hf_c5 7 rfl rfl) (hf_c5 8 rfl rfl) (hf_c1 6 rfl rfl) (hf_c5 9 rfl rfl) (by decide) ⟨rfl, by decide +kernel⟩
theorem lk_RL_69 : hf_kv RL 69 yX4_say cX4_say 6 (some .int) RX4 3 := hf_kv_of (hf_c2 93 rfl rfl) (hf_c2 94 rfl rfl) (hf_c2 95 rfl rfl) (hf_c1 1 rfl rfl) (hf_c2 96 rfl rfl) (by decide) ⟨rfl, by decide +kernel⟩
theorem lk_RL_73 : hf_kv RL 73 yX5_say cX5_say 4 (some .int) RX5 3 := hf_kv_of (hf_c5 14 rfl rfl) (hf_c5 15 rfl rfl) (hf_c5 16 rfl rfl) (hf_c1 6 rfl rfl) (hf_c5 17 rfl rfl) (by decide) ⟨rfl, by decide +kernel⟩
theorem lk_RL_74 : hf_kv RL 74 yX4_unsay cX4_unsay 1 (some .int) RX4 0 := hf_kv_of (hf_c2 159 rfl rfl) (hf_c2 160 rfl rfl) (hf_c2 161 rfl rfl) (hf_c1 1 rfl rfl) (hf_c2 162 rfl rfl) (by decide) ⟨rfl, by decide +kernel⟩
theorem lk_RL_78 : hf_kv RL 78 yX5_unsay cX5_unsay 1 (some .int) RX5 0 := hf_kv_of (hf_c5 54 rfl rfl) (hf_c5 55 rfl rfl) (hf_c5 56 rfl rfl) (hf_c1 6 rfl rfl) (hf_c5 57 rfl rfl) (by decide) ⟨rfl, by decide +kernel⟩
theorem lk_RL_79 : hf_kv RL 79 yX4_sayingOf cX4_sayingOf 2 (some .int) RX4 1 := hf_kv_of (hf_c2 164 rfl rfl) (hf_c2 165 rfl rfl) (hf_c2 166 rfl rfl) (hf_c1 1 rfl rfl) (hf_c2 167 rfl rfl) (by decide) ⟨rfl, by decide +kernel⟩
theorem lk_RL_82 : hf_kv RL 82 yX5_sayingOf cX5_sayingOf 2 (some .int) RX5 1 := hf_kv_of (hf_c5 58 rfl rfl) (hf_c5 59 rfl rfl) (hf_c5 60 rfl rfl) (hf_c1 6 rfl rfl) (hf_c5 61 rfl rfl) (by decide) ⟨rfl, by decide +kernel⟩
theorem lk_RL_83 : hf_kv RL 83 yX4_known cX4_known 3 (some .int) RX4 2 := hf_kv_of (hf_c2 168 rfl rfl) (hf_c2 169 rfl rfl) (hf_c2 170 rfl rfl) (hf_c1 1 rfl rfl) (hf_c2 171 rfl rfl) (by decide) ⟨rfl, by decide +kernel⟩
theorem lk_RL_87 : hf_kv RL 87 yX5_known cX5_known 3 (some .int) RX5 2 := hf_kv_of (hf_c5 62 rfl rfl) (hf_c5 63 rfl rfl) (hf_c5 64 rfl rfl) (hf_c1 6 rfl rfl) (hf_c5 65 rfl rfl) (by decide) ⟨rfl, by decide +kernel⟩
theorem lk_RL_88 : hf_kv RL 88 yX4_town cX4_town 3 (some .int) RX4 1 := hf_kv_of (hf_c2 177 rfl rfl) (hf_c2 178 rfl rfl) (hf_c2 179 rfl rfl) (hf_c1 1 rfl rfl) (hf_c2 180 rfl rfl) (by decide) ⟨rfl, by decide +kernel⟩
theorem lk_RL_91 : hf_kv RL 91 yX5_town cX5_town 5 (some .int) RX5 1 := hf_kv_of (hf_c5 74 rfl rfl) (hf_c5 75 rfl rfl) (hf_c5 76 rfl rfl) (hf_c1 6 rfl rfl) (hf_c5 77 rfl rfl) (by decide) ⟨rfl, by decide +kernel⟩
theorem lk_RL_92 : hf_kv RL 92 yX4_fault cX4_fault 1 (some .int) RX4 0 := hf_kv_of (hf_c3 65 rfl rfl) (hf_c3 66 rfl rfl) (hf_c3 67 rfl rfl) (hf_c1 1 rfl rfl) (hf_c3 68 rfl rfl) (by decide) ⟨rfl, by decide +kernel⟩
theorem lk_RL_95 : hf_kv RL 95 yX5_fault cX5_fault 1 (some .int) RX5 0 := hf_kv_of (hf_c5 122 rfl rfl) (hf_c5 123 rfl rfl) (hf_c5 124 rfl rfl) (hf_c1 6 rfl rfl) (hf_c5 125 rfl rfl) (by decide) ⟨rfl, by decide +kernel⟩
theorem lk_RL_96 : hf_kv RL 96 yX4_canBe cX4_canBe 3 (some .int) RX4 2 := hf_kv_of (hf_c3 69 rfl rfl) (hf_c3 70 rfl rfl) (hf_c3 71 rfl rfl) (hf_c1 1 rfl rfl) (hf_c3 72 rfl rfl) (by decide) ⟨rfl, by decide +kernel⟩
theorem lk_RL_99 : hf_kv RL 99 yX5_canBe cX5_canBe 3 (some .int) RX5 2 := hf_kv_of (hf_c5 126 rfl rfl) (hf_c5 127 rfl rfl) (hf_c5 128 rfl rfl) (hf_c1 6 rfl rfl) (hf_c5 129 rfl rfl) (by decide) ⟨rfl, by decide +kernel⟩
def hl_W (g : hf_G) (p : Program) (l : Launch) (e : Env) (s : State) (m : MethodId) (args : Array Value) (below : List Frame) (meth : Method) (c : Code) (n : Nat) (Q : State → Prop) (M : hf_M) (ce sl : Nat) (pc : Nat) (L : List (Option Value)) (st : List Value) : Prop :=
  ∀ (H : Heap) (locs : List Loc) (ls : Array Slot), hf_P g M s H locs → hf_L ls n L → W p l e room_1 s m args below meth c H locs ce sl Q (F0 m pc ls st)
section HL
variable {g : hf_G} {p : Program} {l : Launch} {e : Env} {s : State} {m : MethodId} {args : Array Value} {below : List Frame} {meth : Method} {c : Code} {n : Nat} {Q : State → Prop} {M : hf_M} {ce sl : Nat} {pc : Nat} {L : List (Option Value)} {st : List Value} {cc : ByteArray} {own : String} {ret : Option FieldType}
theorem hl_iconst (X : hf_X g p s m args meth c cc n own ret) {z : Int} (v : Int32) (hd : decode cc pc = .ok (.iconst z, 1)) (hv : Int32.ofInt z = v) (k : hl_W g p l e s m args below meth c n Q M ce sl (pc + 1) L (.int v :: st)) : hl_W g p l e s m args below meth c n Q M ce sl (pc) L (st) := fun H locs ls hP hL => lv_iconst X.1 X.2.1 hd hv (k H locs ls hP hL)
theorem hl_bipush (X : hf_X g p s m args meth c cc n own ret) {z : Int} (v : Int32) (hd : decode cc pc = .ok (.bipush z, 2)) (hv : (Int8.ofInt z).toInt32 = v) (k : hl_W g p l e s m args below meth c n Q M ce sl (pc + 2) L (.int v :: st)) : hl_W g p l e s m args below meth c n Q M ce sl (pc) L (st) := fun H locs ls hP hL => lv_bipush X.1 X.2.1 hd hv (k H locs ls hP hL)
theorem hl_ldc2 (X : hf_X g p s m args meth c cc n own ret) {z : Nat} {v : Int64} (hd : decode cc pc = .ok (.ldc2_w z, 3)) (hw : Cond.constantLong own z v ∈ hf_T) (k : hl_W g p l e s m args below meth c n Q M ce sl (pc + 3) L (.long v :: st)) : hl_W g p l e s m args below meth c n Q M ce sl (pc) L (st) := fun H locs ls hP hL => lv_ldc2 X.1 X.2.1 X.2.2.2.1 (X.2.2.2.2.1 _ hw) hd (k H locs ls hP hL)
theorem hl_iadd (X : hf_X g p s m args meth c cc n own ret) {x y : Int32} (hd : decode cc pc = .ok (.iadd, 1))  (k : hl_W g p l e s m args below meth c n Q M ce sl (pc + 1) L (.int (x + y) :: st)) : hl_W g p l e s m args below meth c n Q M ce sl (pc) L (.int y :: .int x :: st) := fun H locs ls hP hL => lv_iadd X.1 X.2.1 hd (k H locs ls hP hL)
theorem hl_isub (X : hf_X g p s m args meth c cc n own ret) {x y : Int32} (hd : decode cc pc = .ok (.isub, 1))  (k : hl_W g p l e s m args below meth c n Q M ce sl (pc + 1) L (.int (x - y) :: st)) : hl_W g p l e s m args below meth c n Q M ce sl (pc) L (.int y :: .int x :: st) := fun H locs ls hP hL => lv_isub X.1 X.2.1 hd (k H locs ls hP hL)
theorem hl_iand (X : hf_X g p s m args meth c cc n own ret) {x y : Int32} (hd : decode cc pc = .ok (.iand, 1))  (k : hl_W g p l e s m args below meth c n Q M ce sl (pc + 1) L (.int (x &&& y) :: st)) : hl_W g p l e s m args below meth c n Q M ce sl (pc) L (.int y :: .int x :: st) := fun H locs ls hP hL => lv_iand X.1 X.2.1 hd (k H locs ls hP hL)
theorem hl_land (X : hf_X g p s m args meth c cc n own ret) {x y : Int64} (hd : decode cc pc = .ok (.land, 1))  (k : hl_W g p l e s m args below meth c n Q M ce sl (pc + 1) L (.long (x &&& y) :: st)) : hl_W g p l e s m args below meth c n Q M ce sl (pc) L (.long y :: .long x :: st) := fun H locs ls hP hL => lv_land X.1 X.2.1 hd (k H locs ls hP hL)
theorem hl_lor (X : hf_X g p s m args meth c cc n own ret) {x y : Int64} (hd : decode cc pc = .ok (.lor, 1))  (k : hl_W g p l e s m args below meth c n Q M ce sl (pc + 1) L (.long (x ||| y) :: st)) : hl_W g p l e s m args below meth c n Q M ce sl (pc) L (.long y :: .long x :: st) := fun H locs ls hP hL => lv_lor X.1 X.2.1 hd (k H locs ls hP hL)
theorem hl_lshl (X : hf_X g p s m args meth c cc n own ret) {x : Int64} {y : Int32} (hd : decode cc pc = .ok (.lshl, 1))  (k : hl_W g p l e s m args below meth c n Q M ce sl (pc + 1) L (.long (hn_lshl x y) :: st)) : hl_W g p l e s m args below meth c n Q M ce sl (pc) L (.int y :: .long x :: st) := fun H locs ls hP hL => lv_lshl X.1 X.2.1 hd rfl (k H locs ls hP hL)
theorem hl_lcmp (X : hf_X g p s m args meth c cc n own ret) {x y : Int64} (hd : decode cc pc = .ok (.lcmp, 1))  (k : hl_W g p l e s m args below meth c n Q M ce sl (pc + 1) L (.int (lg_cmp x y) :: st)) : hl_W g p l e s m args below meth c n Q M ce sl (pc) L (.long y :: .long x :: st) := fun H locs ls hP hL => W.lcmp X.1 X.2.1 hd (k H locs ls hP hL)
theorem hl_i2l (X : hf_X g p s m args meth c cc n own ret) {x : Int32} (hd : decode cc pc = .ok (.i2l, 1))  (k : hl_W g p l e s m args below meth c n Q M ce sl (pc + 1) L (.long x.toInt64 :: st)) : hl_W g p l e s m args below meth c n Q M ce sl (pc) L (.int x :: st) := fun H locs ls hP hL => lv_i2l X.1 X.2.1 hd rfl (k H locs ls hP hL)
theorem hl_iload_n (X : hf_X g p s m args meth c cc n own ret) {z : Fin 4} {x : Int32} (hd : decode cc pc = .ok (.iload_n z, 1)) (hl : L[(z : Nat)]? = some (some (.int x))) (k : hl_W g p l e s m args below meth c n Q M ce sl (pc + 1) L (.int x :: st)) : hl_W g p l e s m args below meth c n Q M ce sl (pc) L (st) := fun H locs ls hP hL => lv_iload_n X.1 X.2.1 hd rfl (hL.2.2 _ _ hl) (k H locs ls hP hL)
theorem hl_aload_n (X : hf_X g p s m args meth c cc n own ret) {z : Fin 4} {x : Nat} (hd : decode cc pc = .ok (.aload_n z, 1)) (hl : L[(z : Nat)]? = some (some (.ref x))) (k : hl_W g p l e s m args below meth c n Q M ce sl (pc + 1) L (.ref x :: st)) : hl_W g p l e s m args below meth c n Q M ce sl (pc) L (st) := fun H locs ls hP hL => lv_aload_n X.1 X.2.1 hd rfl (hL.2.2 _ _ hl) (k H locs ls hP hL)
theorem hl_iinc (X : hf_X g p s m args meth c cc n own ret) {z : Nat} {w : Int} {x : Int32} (v : Int32) (hd : decode cc pc = .ok (.iinc z w, 3)) (hl : L[z]? = some (some (.int x))) (hv : x + Int32.ofInt w = v) (hn : z < n) (hk : hf_ok1 L z = true) (k : hl_W g p l e s m args below meth c n Q M ce sl (pc + 3) (L.set z (some (.int v))) (st)) : hl_W g p l e s m args below meth c n Q M ce sl (pc) L (st) := by
  intro H locs ls hP hL
  obtain ⟨q, hq⟩ := hf_idx hl
  exact lv_iinc X.1 X.2.1 hd (hf_lv_has hL) hq hv hn rfl (fun ls' hl => k H locs ls' hP (hf_L_of1 hk hl))
theorem hl_goto (X : hf_X g p s m args meth c cc n own ret) {off : Int} (tgt : Nat) (hd : decode cc pc = .ok (.goto off, 3)) (ht : (pc : Int) + off = (tgt : Int)) (k : hl_W g p l e s m args below meth c n Q M ce sl (tgt) L (st)) : hl_W g p l e s m args below meth c n Q M ce sl (pc) L (st) := fun H locs ls hP hL => lv_goto X.1 X.2.1 hd ht (k H locs ls hP hL)
theorem hl_tabIn (X : hf_X g p s m args meth c cc n own ret) {dflt lo hi : Int} {offs : Array Int} {len : Nat} {x : Int32} {off : Int} (tgt : Nat) (hd : decode cc pc = .ok (.tableswitch dflt lo hi offs, len)) (h1 : ¬ x.toInt < lo) (h2 : ¬ hi < x.toInt) (ho : offs[(x.toInt - lo).toNat]? = some off) (ht : (pc : Int) + off = (tgt : Int)) (k : hl_W g p l e s m args below meth c n Q M ce sl (tgt) L (st)) : hl_W g p l e s m args below meth c n Q M ce sl (pc) L ((.int x :: st)) := fun H locs ls hP hL => lv_tableIn X.1 X.2.1 hd h1 h2 ho ht (k H locs ls hP hL)
theorem hl_tabOut (X : hf_X g p s m args meth c cc n own ret) {dflt lo hi : Int} {offs : Array Int} {len : Nat} {x : Int32} (tgt : Nat) (hd : decode cc pc = .ok (.tableswitch dflt lo hi offs, len)) (h : x.toInt < lo ∨ hi < x.toInt) (ht : (pc : Int) + dflt = (tgt : Int)) (k : hl_W g p l e s m args below meth c n Q M ce sl (tgt) L (st)) : hl_W g p l e s m args below meth c n Q M ce sl (pc) L ((.int x :: st)) := fun H locs ls hP hL => lv_tableOut X.1 X.2.1 hd h ht (k H locs ls hP hL)
theorem hl_xld (X : hf_X g p s m args meth c cc n own ret) {b Lx : Nat} {xs : Nat → Int32} {x : Int32} (hX : va_X b Lx xs s s.heap ∧ b < s.heap.size ∧ ¬ hf_A g b) (j : Nat) (hj : j < Lx) (hL2 : Lx ≤ 3072) (hxj : x = nI j) (hd : decode cc pc = .ok (.iaload, 1)) (k : hl_W g p l e s m args below meth c n Q M ce sl (pc + 1) L (.int (xs j) :: st)) : hl_W g p l e s m args below meth c n Q M ce sl (pc) L (.int x :: .ref b :: st) := by
  intro H locs ls hP hL
  obtain ⟨hx, hb, hml, hown, hts, hr, hlk, hK, hS, h0⟩ := X
  subst hxj
  refine va_sld hx hb hX.1 hX.2.1 hX.2.2 hP.2.2.1 (vp_in_nI hj (by omega)) hd ?_
  rw [nI_clamp (by omega)]
  exact k H locs ls hP hL
theorem hl_xln (X : hf_X g p s m args meth c cc n own ret) {b Lx : Nat} {xs : Nat → Int32} (hX : va_X b Lx xs s s.heap ∧ b < s.heap.size ∧ ¬ hf_A g b) (hd : decode cc pc = .ok (.arraylength, 1)) (k : hl_W g p l e s m args below meth c n Q M ce sl (pc + 1) L (.int (nI Lx) :: st)) : hl_W g p l e s m args below meth c n Q M ce sl (pc) L (.ref b :: st) := by
  intro H locs ls hP hL
  obtain ⟨hx, hb, hml, hown, hts, hr, hlk, hK, hS, h0⟩ := X
  exact va_slen hx hb hX.1 hX.2.1 hX.2.2 hP.2.2.1 hd (k H locs ls hP hL)
theorem hl_if_eq_T (X : hf_X g p s m args meth c cc n own ret) {x : Int32} {off : Int} (tgt : Nat) (h : x = 0) (hd : decode cc pc = .ok (.ifCond .eq off, 3)) (ht : (pc : Int) + off = (tgt : Int)) (k : hl_W g p l e s m args below meth c n Q M ce sl (tgt) L (st)) : hl_W g p l e s m args below meth c n Q M ce sl (pc) L (.int x :: st) := fun H locs ls hP hL => lv_if_eq X.1 X.2.1 hd ht (fun _ => k H locs ls hP hL) (fun c => absurd h c)
theorem hl_if_eq_F (X : hf_X g p s m args meth c cc n own ret) {x : Int32} {off : Int} (tgt : Nat) (h : ¬ x = 0) (hd : decode cc pc = .ok (.ifCond .eq off, 3)) (ht : (pc : Int) + off = (tgt : Int)) (k : hl_W g p l e s m args below meth c n Q M ce sl (pc + 3) L (st)) : hl_W g p l e s m args below meth c n Q M ce sl (pc) L (.int x :: st) := fun H locs ls hP hL => lv_if_eq X.1 X.2.1 hd ht (fun c => absurd c h) (fun _ => k H locs ls hP hL)
theorem hl_if_ne_T (X : hf_X g p s m args meth c cc n own ret) {x : Int32} {off : Int} (tgt : Nat) (h : ¬ x = 0) (hd : decode cc pc = .ok (.ifCond .ne off, 3)) (ht : (pc : Int) + off = (tgt : Int)) (k : hl_W g p l e s m args below meth c n Q M ce sl (tgt) L (st)) : hl_W g p l e s m args below meth c n Q M ce sl (pc) L (.int x :: st) := fun H locs ls hP hL => lv_if_ne X.1 X.2.1 hd ht (fun _ => k H locs ls hP hL) (fun c => absurd c h)
theorem hl_if_ne_F (X : hf_X g p s m args meth c cc n own ret) {x : Int32} {off : Int} (tgt : Nat) (h : x = 0) (hd : decode cc pc = .ok (.ifCond .ne off, 3)) (ht : (pc : Int) + off = (tgt : Int)) (k : hl_W g p l e s m args below meth c n Q M ce sl (pc + 3) L (st)) : hl_W g p l e s m args below meth c n Q M ce sl (pc) L (.int x :: st) := fun H locs ls hP hL => lv_if_ne X.1 X.2.1 hd ht (fun c => absurd h c) (fun _ => k H locs ls hP hL)
theorem hl_if_gt_T (X : hf_X g p s m args meth c cc n own ret) {x : Int32} {off : Int} (tgt : Nat) (h : 0 < x) (hd : decode cc pc = .ok (.ifCond .gt off, 3)) (ht : (pc : Int) + off = (tgt : Int)) (k : hl_W g p l e s m args below meth c n Q M ce sl (tgt) L (st)) : hl_W g p l e s m args below meth c n Q M ce sl (pc) L (.int x :: st) := fun H locs ls hP hL => lv_if_gt X.1 X.2.1 hd ht (fun _ => k H locs ls hP hL) (fun c => absurd h c)
theorem hl_if_gt_F (X : hf_X g p s m args meth c cc n own ret) {x : Int32} {off : Int} (tgt : Nat) (h : ¬ 0 < x) (hd : decode cc pc = .ok (.ifCond .gt off, 3)) (ht : (pc : Int) + off = (tgt : Int)) (k : hl_W g p l e s m args below meth c n Q M ce sl (pc + 3) L (st)) : hl_W g p l e s m args below meth c n Q M ce sl (pc) L (.int x :: st) := fun H locs ls hP hL => lv_if_gt X.1 X.2.1 hd ht (fun c => absurd c h) (fun _ => k H locs ls hP hL)
theorem hl_icmp_eq_T (X : hf_X g p s m args meth c cc n own ret) {x y : Int32} {off : Int} (tgt : Nat) (h : x = y) (hd : decode cc pc = .ok (.if_icmp .eq off, 3)) (ht : (pc : Int) + off = (tgt : Int)) (k : hl_W g p l e s m args below meth c n Q M ce sl (tgt) L (st)) : hl_W g p l e s m args below meth c n Q M ce sl (pc) L (.int y :: .int x :: st) := fun H locs ls hP hL => lv_icmp_eq X.1 X.2.1 hd ht (fun _ => k H locs ls hP hL) (fun c => absurd h c)
theorem hl_icmp_eq_F (X : hf_X g p s m args meth c cc n own ret) {x y : Int32} {off : Int} (tgt : Nat) (h : ¬ x = y) (hd : decode cc pc = .ok (.if_icmp .eq off, 3)) (ht : (pc : Int) + off = (tgt : Int)) (k : hl_W g p l e s m args below meth c n Q M ce sl (pc + 3) L (st)) : hl_W g p l e s m args below meth c n Q M ce sl (pc) L (.int y :: .int x :: st) := fun H locs ls hP hL => lv_icmp_eq X.1 X.2.1 hd ht (fun c => absurd c h) (fun _ => k H locs ls hP hL)
theorem hl_icmp_ne_T (X : hf_X g p s m args meth c cc n own ret) {x y : Int32} {off : Int} (tgt : Nat) (h : ¬ x = y) (hd : decode cc pc = .ok (.if_icmp .ne off, 3)) (ht : (pc : Int) + off = (tgt : Int)) (k : hl_W g p l e s m args below meth c n Q M ce sl (tgt) L (st)) : hl_W g p l e s m args below meth c n Q M ce sl (pc) L (.int y :: .int x :: st) := fun H locs ls hP hL => lv_icmp_ne X.1 X.2.1 hd ht (fun _ => k H locs ls hP hL) (fun c => absurd c h)
theorem hl_icmp_ne_F (X : hf_X g p s m args meth c cc n own ret) {x y : Int32} {off : Int} (tgt : Nat) (h : x = y) (hd : decode cc pc = .ok (.if_icmp .ne off, 3)) (ht : (pc : Int) + off = (tgt : Int)) (k : hl_W g p l e s m args below meth c n Q M ce sl (pc + 3) L (st)) : hl_W g p l e s m args below meth c n Q M ce sl (pc) L (.int y :: .int x :: st) := fun H locs ls hP hL => lv_icmp_ne X.1 X.2.1 hd ht (fun c => absurd h c) (fun _ => k H locs ls hP hL)
theorem hl_icmp_gt_T (X : hf_X g p s m args meth c cc n own ret) {x y : Int32} {off : Int} (tgt : Nat) (h : y < x) (hd : decode cc pc = .ok (.if_icmp .gt off, 3)) (ht : (pc : Int) + off = (tgt : Int)) (k : hl_W g p l e s m args below meth c n Q M ce sl (tgt) L (st)) : hl_W g p l e s m args below meth c n Q M ce sl (pc) L (.int y :: .int x :: st) := fun H locs ls hP hL => lv_icmp_gt X.1 X.2.1 hd ht (fun _ => k H locs ls hP hL) (fun c => absurd h c)
theorem hl_icmp_gt_F (X : hf_X g p s m args meth c cc n own ret) {x y : Int32} {off : Int} (tgt : Nat) (h : ¬ y < x) (hd : decode cc pc = .ok (.if_icmp .gt off, 3)) (ht : (pc : Int) + off = (tgt : Int)) (k : hl_W g p l e s m args below meth c n Q M ce sl (pc + 3) L (st)) : hl_W g p l e s m args below meth c n Q M ce sl (pc) L (.int y :: .int x :: st) := fun H locs ls hP hL => lv_icmp_gt X.1 X.2.1 hd ht (fun c => absurd c h) (fun _ => k H locs ls hP hL)
theorem hl_cvI (X : hf_X g p s m args meth c cc n own ret) {z d' maxL' k t ci N : Nat} {y : MethodName} {cd : ByteArray} {ret' : Option FieldType} {C : String} {T : u_T} {av : hf_G → List Value} {sh' : Option (Int32 × hf_M)} {r : Int32} {M1 : hf_M} (As rest : List Value) (hM : hf_CI y cd maxL' ret' d' av M sh') (hsh : sh' = some (r, M1)) (hl : hf_kv own z y cd maxL' ret' C k) (hav : av g = .ref (hf_a g t) :: As) (hst : st = As.reverse ++ .ref (hf_a g t) :: rest) (hk : As.length = k)
    (ht : t < 69) (hs : hf_shp t = ci) (hci : ci < 6 ∧ vwCl[ci]? = some (C, T, N)) (hd' : d' ≤ 100) (hrest : (rest.map fun v => v.category).sum ≤ 8) (hcs : ce ≤ 600000 ∧ sl ≤ 7302250) (hd : decode cc pc = .ok (.invokevirtual z, 3))
    (kc : hl_W g p l e s m args below meth c n Q M1 ce sl (pc + 3) L (.int r :: rest)) : hl_W g p l e s m args below meth c n Q M ce sl (pc) L (st) := by
  intro H locs ls hP hL
  subst hst
  obtain ⟨hx, hb, hml, hown, hts, hr, hlk, hK, hS, h0⟩ := X
  have he := hf_w_at g M ht
  rw [hf_cO g M hs hci.1] at he
  have hm := hM l g r M1 hsh
  rw [hav] at hm
  refine va_calli (va_runV (As := As) (rest := rest) ⟨hx, hb, hml, hown, hts⟩ hm (cwV k hts hl.1.1 rfl rfl rfl hl.2 ⟨by show d' + 1 ≤ 2048; omega, by show 8 + (maxL' + 11) + 48 * d' ≤ 84000; have := hl.1.2; omega⟩) ⟨hf_blind g M _, va_recv hK hP.1 (ci := ci) (q0 := t) hci.2 he, fun U hU hW => ⟨rfl, hf_Pic_at hK hS h0 hP hU hW⟩⟩ rfl hk hL.1 rfl (lv_room hrest) hd ⟨hcs.1, hcs.2⟩) hP.2.2.1 (fun q _ h => h) (fun q h => h) (fun r1 u t H1 locs1 ht1 hvm hr1 hB hz1 hk1 hS1 => ?_)
  subst hr1
  have hP1 := hB.2.1
  rw [ht1] at hP1
  exact kc H1 locs1 ls ⟨hP1, hB.2.2.1, hS1, hB.2.2.2.2.1⟩ hL
theorem hl_cvJ (X : hf_X g p s m args meth c cc n own ret) {z d' maxL' k t ci N : Nat} {y : MethodName} {cd : ByteArray} {ret' : Option FieldType} {C : String} {T : u_T} {av : hf_G → List Value} {sh' : Option (Int64 × hf_M)} {r : Int64} {M1 : hf_M} (As rest : List Value) (hM : hf_CJ y cd maxL' ret' d' av M sh') (hsh : sh' = some (r, M1)) (hl : hf_kv own z y cd maxL' ret' C k) (hav : av g = .ref (hf_a g t) :: As) (hst : st = As.reverse ++ .ref (hf_a g t) :: rest) (hk : As.length = k)
    (ht : t < 69) (hs : hf_shp t = ci) (hci : ci < 6 ∧ vwCl[ci]? = some (C, T, N)) (hd' : d' ≤ 100) (hrest : (rest.map fun v => v.category).sum ≤ 8) (hcs : ce ≤ 600000 ∧ sl ≤ 7302250) (hd : decode cc pc = .ok (.invokevirtual z, 3))
    (kc : hl_W g p l e s m args below meth c n Q M1 ce sl (pc + 3) L (.long r :: rest)) : hl_W g p l e s m args below meth c n Q M ce sl (pc) L (st) := by
  intro H locs ls hP hL
  subst hst
  obtain ⟨hx, hb, hml, hown, hts, hr, hlk, hK, hS, h0⟩ := X
  have he := hf_w_at g M ht
  rw [hf_cO g M hs hci.1] at he
  have hm := hM l g r M1 hsh
  rw [hav] at hm
  refine va_calll (va_runV (As := As) (rest := rest) ⟨hx, hb, hml, hown, hts⟩ hm (cwV k hts hl.1.1 rfl rfl rfl hl.2 ⟨by show d' + 1 ≤ 2048; omega, by show 8 + (maxL' + 11) + 48 * d' ≤ 84000; have := hl.1.2; omega⟩) ⟨hf_blind g M _, va_recv hK hP.1 (ci := ci) (q0 := t) hci.2 he, fun U hU hW => ⟨rfl, hf_Pic_at hK hS h0 hP hU hW⟩⟩ rfl hk hL.1 rfl (lv_room hrest) hd ⟨hcs.1, hcs.2⟩) hP.2.2.1 (fun q _ h => h) (fun q h => h) (fun r1 u t H1 locs1 ht1 hvm hr1 hB hz1 hk1 hS1 => ?_)
  subst hr1
  have hP1 := hB.2.1
  rw [ht1] at hP1
  exact kc H1 locs1 ls ⟨hP1, hB.2.2.1, hS1, hB.2.2.2.2.1⟩ hL
end HL
theorem hl_gt {i Lx : Nat} (hL : Lx ≤ 3072) (h : i + 6 ≤ Lx) : ¬ nI Lx - 6 < nI i := by
  have e : (nI Lx - 6).toInt = (Lx : Int) - 6 := pk_sub_toInt (a := Lx) (b := 6) (by omega) (by omega)
  intro hq
  rw [Int32.lt_iff_toInt_lt, e, nI_toInt (by omega)] at hq
  omega
theorem hl_le {i Lx : Nat} (hL : Lx ≤ 3072) (h : ¬ i + 6 ≤ Lx) (hi : i ≤ Lx + 6) : nI Lx - 6 < nI i := by
  have e : (nI Lx - 6).toInt = (Lx : Int) - 6 := pk_sub_toInt (a := Lx) (b := 6) (by omega) (by omega)
  rw [Int32.lt_iff_toInt_lt, e, nI_toInt (by omega)]
  omega
/-- row: both answer alike, and the invariant stays -/
def hs_row (Inv : hf_M → Prop) : Prop := ∀ M : hf_M, Inv M → ∀ (a1 : Int32) (a2 : Int32) (a3 : Int32), ∃ (r : Int32) (M1 M2 : hf_M), s_X4_row 0 a1 a2 a3 M = some (r, M1) ∧ s_X5_row 49 a1 a2 a3 M1 = some (r, M2) ∧ Inv M2
set_option maxRecDepth 100000 in
set_option maxHeartbeats 4000000 in
theorem hl_case_row {g : hf_G} {p : Program} {l : Launch} {e : Env} {s : State} {m : MethodId} {args : Array Value} {below : List Frame} {meth : Method} {c : Code} {Q : State → Prop} (X : hf_X g p s m args meth c cL_law 4 RL ret) {b Lx i : Nat} {xs : Nat → Int32} (hX : va_X b Lx xs s s.heap ∧ b < s.heap.size ∧ ¬ hf_A g b) (hL : Lx ≤ 3072) (hi : i + 6 ≤ Lx) {Inv : hf_M → Prop} (hst : hs_row Inv) (M : hf_M) (hM : Inv M) (kk : ∀ M2, Inv M2 → hl_W g p l e s m args below meth c 4 Q M2 100 10000 1581 [some (.ref b), some (.ref (hf_a g 0)), some (.ref (hf_a g 49)), some (.int (nI i))] []) : hl_W g p l e s m args below meth c 4 Q M 100 10000 236 [some (.ref b), some (.ref (hf_a g 0)), some (.ref (hf_a g 49)), some (.int (nI i))] [] := by
  obtain ⟨r, M1, M2, h1, h2, hI⟩ := hst M hM (xs (i + 1)) (xs (i + 2)) (xs (i + 3))
  have kk := kk M2 hI
  refine hl_aload_n X dL_law_236 rfl ?_
  refine hl_aload_n X dL_law_237 rfl ?_
  refine hl_iload_n X dL_law_238 rfl ?_
  refine hl_iconst X 1 dL_law_239 (by decide) ?_
  refine hl_iadd X dL_law_240 ?_
  refine hl_xld X hX (i + 1) (by omega) hL (nI_add i 1) dL_law_241 ?_
  refine hl_aload_n X dL_law_242 rfl ?_
  refine hl_iload_n X dL_law_243 rfl ?_
  refine hl_iconst X 2 dL_law_244 (by decide) ?_
  refine hl_iadd X dL_law_245 ?_
  refine hl_xld X hX (i + 2) (by omega) hL (nI_add i 2) dL_law_246 ?_
  refine hl_aload_n X dL_law_247 rfl ?_
  refine hl_iload_n X dL_law_248 rfl ?_
  refine hl_iconst X 3 dL_law_249 (by decide) ?_
  refine hl_iadd X dL_law_250 ?_
  refine hl_xld X hX (i + 3) (by omega) hL (nI_add i 3) dL_law_251 ?_
  refine hl_cvI X [.int (xs (i + 1)), .int (xs (i + 2)), .int (xs (i + 3))] [] (c_X4_row (by decide : 0 < 69) rfl (xs (i + 1)) (xs (i + 2)) (xs (i + 3)) M) h1 lk_RL_13 rfl rfl rfl (by decide : 0 < 69) rfl ⟨by decide, rfl⟩ (by decide) (Nat.le_of_ble_eq_true rfl) ⟨by decide, by decide⟩ dL_law_252 ?_
  refine hl_aload_n X dL_law_255 rfl ?_
  refine hl_aload_n X dL_law_256 rfl ?_
  refine hl_iload_n X dL_law_257 rfl ?_
  refine hl_iconst X 1 dL_law_258 (by decide) ?_
  refine hl_iadd X dL_law_259 ?_
  refine hl_xld X hX (i + 1) (by omega) hL (nI_add i 1) dL_law_260 ?_
  refine hl_aload_n X dL_law_261 rfl ?_
  refine hl_iload_n X dL_law_262 rfl ?_
  refine hl_iconst X 2 dL_law_263 (by decide) ?_
  refine hl_iadd X dL_law_264 ?_
  refine hl_xld X hX (i + 2) (by omega) hL (nI_add i 2) dL_law_265 ?_
  refine hl_aload_n X dL_law_266 rfl ?_
  refine hl_iload_n X dL_law_267 rfl ?_
  refine hl_iconst X 3 dL_law_268 (by decide) ?_
  refine hl_iadd X dL_law_269 ?_
  refine hl_xld X hX (i + 3) (by omega) hL (nI_add i 3) dL_law_270 ?_
  refine hl_cvI X [.int (xs (i + 1)), .int (xs (i + 2)), .int (xs (i + 3))] [.int r] (c_X5_row (by decide : 49 < 69) rfl (xs (i + 1)) (xs (i + 2)) (xs (i + 3)) M1) h2 lk_RL_17 rfl rfl rfl (by decide : 49 < 69) rfl ⟨by decide, rfl⟩ (by decide) (Nat.le_of_ble_eq_true rfl) ⟨by decide, by decide⟩ dL_law_271 ?_
  refine hl_icmp_eq_T X 1581 rfl dL_law_274 rfl ?_
  exact kk
/-- set: both answer alike, and the invariant stays -/
def hs_set (Inv : hf_M → Prop) : Prop := ∀ M : hf_M, Inv M → ∀ (a1 : Int32) (a2 : Int32) (a3 : Int64), ∃ (r : Int32) (M1 M2 : hf_M), s_X4_set 0 a1 a2 a3 M = some (r, M1) ∧ s_X5_set 49 a1 a2 a3 M1 = some (r, M2) ∧ Inv M2
set_option maxRecDepth 100000 in
set_option maxHeartbeats 4000000 in
theorem hl_case_set {g : hf_G} {p : Program} {l : Launch} {e : Env} {s : State} {m : MethodId} {args : Array Value} {below : List Frame} {meth : Method} {c : Code} {Q : State → Prop} (X : hf_X g p s m args meth c cL_law 4 RL ret) {b Lx i : Nat} {xs : Nat → Int32} (hX : va_X b Lx xs s s.heap ∧ b < s.heap.size ∧ ¬ hf_A g b) (hL : Lx ≤ 3072) (hi : i + 6 ≤ Lx) {Inv : hf_M → Prop} (hst : hs_set Inv) (M : hf_M) (hM : Inv M) (kk : ∀ M2, Inv M2 → hl_W g p l e s m args below meth c 4 Q M2 100 10000 1581 [some (.ref b), some (.ref (hf_a g 0)), some (.ref (hf_a g 49)), some (.int (nI i))] []) : hl_W g p l e s m args below meth c 4 Q M 100 10000 279 [some (.ref b), some (.ref (hf_a g 0)), some (.ref (hf_a g 49)), some (.int (nI i))] [] := by
  obtain ⟨r, M1, M2, h1, h2, hI⟩ := hst M hM (xs (i + 1)) (xs (i + 2)) ((hn_lshl (xs (i + 3)).toInt64 32 ||| ((xs (i + 4)).toInt64 &&& 4294967295)))
  have kk := kk M2 hI
  refine hl_aload_n X dL_law_279 rfl ?_
  refine hl_aload_n X dL_law_280 rfl ?_
  refine hl_iload_n X dL_law_281 rfl ?_
  refine hl_iconst X 1 dL_law_282 (by decide) ?_
  refine hl_iadd X dL_law_283 ?_
  refine hl_xld X hX (i + 1) (by omega) hL (nI_add i 1) dL_law_284 ?_
  refine hl_aload_n X dL_law_285 rfl ?_
  refine hl_iload_n X dL_law_286 rfl ?_
  refine hl_iconst X 2 dL_law_287 (by decide) ?_
  refine hl_iadd X dL_law_288 ?_
  refine hl_xld X hX (i + 2) (by omega) hL (nI_add i 2) dL_law_289 ?_
  refine hl_aload_n X dL_law_290 rfl ?_
  refine hl_iload_n X dL_law_291 rfl ?_
  refine hl_iconst X 3 dL_law_292 (by decide) ?_
  refine hl_iadd X dL_law_293 ?_
  refine hl_xld X hX (i + 3) (by omega) hL (nI_add i 3) dL_law_294 ?_
  refine hl_i2l X dL_law_295 ?_
  refine hl_bipush X 32 dL_law_296 (by decide) ?_
  refine hl_lshl X dL_law_298 ?_
  refine hl_aload_n X dL_law_299 rfl ?_
  refine hl_iload_n X dL_law_300 rfl ?_
  refine hl_iconst X 4 dL_law_301 (by decide) ?_
  refine hl_iadd X dL_law_302 ?_
  refine hl_xld X hX (i + 4) (by omega) hL (nI_add i 4) dL_law_303 ?_
  refine hl_i2l X dL_law_304 ?_
  refine hl_ldc2 X dL_law_305 (hf_c6x 64 rfl rfl) ?_
  refine hl_land X dL_law_308 ?_
  refine hl_lor X dL_law_309 ?_
  refine hl_cvI X [.int (xs (i + 1)), .int (xs (i + 2)), .long ((hn_lshl (xs (i + 3)).toInt64 32 ||| ((xs (i + 4)).toInt64 &&& 4294967295)))] [] (c_X4_set (by decide : 0 < 69) rfl (xs (i + 1)) (xs (i + 2)) ((hn_lshl (xs (i + 3)).toInt64 32 ||| ((xs (i + 4)).toInt64 &&& 4294967295))) M) h1 lk_RL_20 rfl rfl rfl (by decide : 0 < 69) rfl ⟨by decide, rfl⟩ (by decide) (Nat.le_of_ble_eq_true rfl) ⟨by decide, by decide⟩ dL_law_310 ?_
  refine hl_aload_n X dL_law_313 rfl ?_
  refine hl_aload_n X dL_law_314 rfl ?_
  refine hl_iload_n X dL_law_315 rfl ?_
  refine hl_iconst X 1 dL_law_316 (by decide) ?_
  refine hl_iadd X dL_law_317 ?_
  refine hl_xld X hX (i + 1) (by omega) hL (nI_add i 1) dL_law_318 ?_
  refine hl_aload_n X dL_law_319 rfl ?_
  refine hl_iload_n X dL_law_320 rfl ?_
  refine hl_iconst X 2 dL_law_321 (by decide) ?_
  refine hl_iadd X dL_law_322 ?_
  refine hl_xld X hX (i + 2) (by omega) hL (nI_add i 2) dL_law_323 ?_
  refine hl_aload_n X dL_law_324 rfl ?_
  refine hl_iload_n X dL_law_325 rfl ?_
  refine hl_iconst X 3 dL_law_326 (by decide) ?_
  refine hl_iadd X dL_law_327 ?_
  refine hl_xld X hX (i + 3) (by omega) hL (nI_add i 3) dL_law_328 ?_
  refine hl_i2l X dL_law_329 ?_
  refine hl_bipush X 32 dL_law_330 (by decide) ?_
  refine hl_lshl X dL_law_332 ?_
  refine hl_aload_n X dL_law_333 rfl ?_
  refine hl_iload_n X dL_law_334 rfl ?_
  refine hl_iconst X 4 dL_law_335 (by decide) ?_
  refine hl_iadd X dL_law_336 ?_
  refine hl_xld X hX (i + 4) (by omega) hL (nI_add i 4) dL_law_337 ?_
  refine hl_i2l X dL_law_338 ?_
  refine hl_ldc2 X dL_law_339 (hf_c6x 64 rfl rfl) ?_
  refine hl_land X dL_law_342 ?_
  refine hl_lor X dL_law_343 ?_
  refine hl_cvI X [.int (xs (i + 1)), .int (xs (i + 2)), .long ((hn_lshl (xs (i + 3)).toInt64 32 ||| ((xs (i + 4)).toInt64 &&& 4294967295)))] [.int r] (c_X5_set (by decide : 49 < 69) rfl (xs (i + 1)) (xs (i + 2)) ((hn_lshl (xs (i + 3)).toInt64 32 ||| ((xs (i + 4)).toInt64 &&& 4294967295))) M1) h2 lk_RL_24 rfl rfl rfl (by decide : 49 < 69) rfl ⟨by decide, rfl⟩ (by decide) (Nat.le_of_ble_eq_true rfl) ⟨by decide, by decide⟩ dL_law_344 ?_
  refine hl_icmp_eq_T X 1581 rfl dL_law_347 rfl ?_
  exact kk
/-- copy: both answer alike, and the invariant stays -/
def hs_copy (Inv : hf_M → Prop) : Prop := ∀ M : hf_M, Inv M → ∀ (a1 : Int32) (a2 : Int32) (a3 : Int32) (a4 : Int32) (a5 : Int32), ∃ (r : Int32) (M1 M2 : hf_M), s_X4_copy 0 a1 a2 a3 a4 a5 M = some (r, M1) ∧ s_X5_copy 49 a1 a2 a3 a4 a5 M1 = some (r, M2) ∧ Inv M2
set_option maxRecDepth 100000 in
set_option maxHeartbeats 4000000 in
theorem hl_case_copy {g : hf_G} {p : Program} {l : Launch} {e : Env} {s : State} {m : MethodId} {args : Array Value} {below : List Frame} {meth : Method} {c : Code} {Q : State → Prop} (X : hf_X g p s m args meth c cL_law 4 RL ret) {b Lx i : Nat} {xs : Nat → Int32} (hX : va_X b Lx xs s s.heap ∧ b < s.heap.size ∧ ¬ hf_A g b) (hL : Lx ≤ 3072) (hi : i + 6 ≤ Lx) {Inv : hf_M → Prop} (hst : hs_copy Inv) (M : hf_M) (hM : Inv M) (kk : ∀ M2, Inv M2 → hl_W g p l e s m args below meth c 4 Q M2 100 10000 1581 [some (.ref b), some (.ref (hf_a g 0)), some (.ref (hf_a g 49)), some (.int (nI i))] []) : hl_W g p l e s m args below meth c 4 Q M 100 10000 352 [some (.ref b), some (.ref (hf_a g 0)), some (.ref (hf_a g 49)), some (.int (nI i))] [] := by
  obtain ⟨r, M1, M2, h1, h2, hI⟩ := hst M hM (xs (i + 1)) (xs (i + 2)) (xs (i + 3)) (xs (i + 4)) (xs (i + 5))
  have kk := kk M2 hI
  refine hl_aload_n X dL_law_352 rfl ?_
  refine hl_aload_n X dL_law_353 rfl ?_
  refine hl_iload_n X dL_law_354 rfl ?_
  refine hl_iconst X 1 dL_law_355 (by decide) ?_
  refine hl_iadd X dL_law_356 ?_
  refine hl_xld X hX (i + 1) (by omega) hL (nI_add i 1) dL_law_357 ?_
  refine hl_aload_n X dL_law_358 rfl ?_
  refine hl_iload_n X dL_law_359 rfl ?_
  refine hl_iconst X 2 dL_law_360 (by decide) ?_
  refine hl_iadd X dL_law_361 ?_
  refine hl_xld X hX (i + 2) (by omega) hL (nI_add i 2) dL_law_362 ?_
  refine hl_aload_n X dL_law_363 rfl ?_
  refine hl_iload_n X dL_law_364 rfl ?_
  refine hl_iconst X 3 dL_law_365 (by decide) ?_
  refine hl_iadd X dL_law_366 ?_
  refine hl_xld X hX (i + 3) (by omega) hL (nI_add i 3) dL_law_367 ?_
  refine hl_aload_n X dL_law_368 rfl ?_
  refine hl_iload_n X dL_law_369 rfl ?_
  refine hl_iconst X 4 dL_law_370 (by decide) ?_
  refine hl_iadd X dL_law_371 ?_
  refine hl_xld X hX (i + 4) (by omega) hL (nI_add i 4) dL_law_372 ?_
  refine hl_aload_n X dL_law_373 rfl ?_
  refine hl_iload_n X dL_law_374 rfl ?_
  refine hl_iconst X 5 dL_law_375 (by decide) ?_
  refine hl_iadd X dL_law_376 ?_
  refine hl_xld X hX (i + 5) (by omega) hL (nI_add i 5) dL_law_377 ?_
  refine hl_cvI X [.int (xs (i + 1)), .int (xs (i + 2)), .int (xs (i + 3)), .int (xs (i + 4)), .int (xs (i + 5))] [] (c_X4_copy (by decide : 0 < 69) rfl (xs (i + 1)) (xs (i + 2)) (xs (i + 3)) (xs (i + 4)) (xs (i + 5)) M) h1 lk_RL_25 rfl rfl rfl (by decide : 0 < 69) rfl ⟨by decide, rfl⟩ (by decide) (Nat.le_of_ble_eq_true rfl) ⟨by decide, by decide⟩ dL_law_378 ?_
  refine hl_aload_n X dL_law_381 rfl ?_
  refine hl_aload_n X dL_law_382 rfl ?_
  refine hl_iload_n X dL_law_383 rfl ?_
  refine hl_iconst X 1 dL_law_384 (by decide) ?_
  refine hl_iadd X dL_law_385 ?_
  refine hl_xld X hX (i + 1) (by omega) hL (nI_add i 1) dL_law_386 ?_
  refine hl_aload_n X dL_law_387 rfl ?_
  refine hl_iload_n X dL_law_388 rfl ?_
  refine hl_iconst X 2 dL_law_389 (by decide) ?_
  refine hl_iadd X dL_law_390 ?_
  refine hl_xld X hX (i + 2) (by omega) hL (nI_add i 2) dL_law_391 ?_
  refine hl_aload_n X dL_law_392 rfl ?_
  refine hl_iload_n X dL_law_393 rfl ?_
  refine hl_iconst X 3 dL_law_394 (by decide) ?_
  refine hl_iadd X dL_law_395 ?_
  refine hl_xld X hX (i + 3) (by omega) hL (nI_add i 3) dL_law_396 ?_
  refine hl_aload_n X dL_law_397 rfl ?_
  refine hl_iload_n X dL_law_398 rfl ?_
  refine hl_iconst X 4 dL_law_399 (by decide) ?_
  refine hl_iadd X dL_law_400 ?_
  refine hl_xld X hX (i + 4) (by omega) hL (nI_add i 4) dL_law_401 ?_
  refine hl_aload_n X dL_law_402 rfl ?_
  refine hl_iload_n X dL_law_403 rfl ?_
  refine hl_iconst X 5 dL_law_404 (by decide) ?_
  refine hl_iadd X dL_law_405 ?_
  refine hl_xld X hX (i + 5) (by omega) hL (nI_add i 5) dL_law_406 ?_
  refine hl_cvI X [.int (xs (i + 1)), .int (xs (i + 2)), .int (xs (i + 3)), .int (xs (i + 4)), .int (xs (i + 5))] [.int r] (c_X5_copy (by decide : 49 < 69) rfl (xs (i + 1)) (xs (i + 2)) (xs (i + 3)) (xs (i + 4)) (xs (i + 5)) M1) h2 lk_RL_29 rfl rfl rfl (by decide : 49 < 69) rfl ⟨by decide, rfl⟩ (by decide) (Nat.le_of_ble_eq_true rfl) ⟨by decide, by decide⟩ dL_law_407 ?_
  refine hl_icmp_eq_T X 1581 rfl dL_law_410 rfl ?_
  exact kk
/-- element: both answer alike, and the invariant stays -/
def hs_element (Inv : hf_M → Prop) : Prop := ∀ M : hf_M, Inv M → ∀ (a1 : Int32) (a2 : Int32), ∃ (r : Int64) (M1 M2 : hf_M), s_X4_element 0 a1 a2 M = some (r, M1) ∧ s_X5_element 49 a1 a2 M1 = some (r, M2) ∧ Inv M2
set_option maxRecDepth 100000 in
set_option maxHeartbeats 4000000 in
theorem hl_case_element {g : hf_G} {p : Program} {l : Launch} {e : Env} {s : State} {m : MethodId} {args : Array Value} {below : List Frame} {meth : Method} {c : Code} {Q : State → Prop} (X : hf_X g p s m args meth c cL_law 4 RL ret) {b Lx i : Nat} {xs : Nat → Int32} (hX : va_X b Lx xs s s.heap ∧ b < s.heap.size ∧ ¬ hf_A g b) (hL : Lx ≤ 3072) (hi : i + 6 ≤ Lx) {Inv : hf_M → Prop} (hst : hs_element Inv) (M : hf_M) (hM : Inv M) (kk : ∀ M2, Inv M2 → hl_W g p l e s m args below meth c 4 Q M2 100 10000 1581 [some (.ref b), some (.ref (hf_a g 0)), some (.ref (hf_a g 49)), some (.int (nI i))] []) : hl_W g p l e s m args below meth c 4 Q M 100 10000 415 [some (.ref b), some (.ref (hf_a g 0)), some (.ref (hf_a g 49)), some (.int (nI i))] [] := by
  obtain ⟨r, M1, M2, h1, h2, hI⟩ := hst M hM (xs (i + 1)) (xs (i + 2))
  have kk := kk M2 hI
  refine hl_aload_n X dL_law_415 rfl ?_
  refine hl_aload_n X dL_law_416 rfl ?_
  refine hl_iload_n X dL_law_417 rfl ?_
  refine hl_iconst X 1 dL_law_418 (by decide) ?_
  refine hl_iadd X dL_law_419 ?_
  refine hl_xld X hX (i + 1) (by omega) hL (nI_add i 1) dL_law_420 ?_
  refine hl_aload_n X dL_law_421 rfl ?_
  refine hl_iload_n X dL_law_422 rfl ?_
  refine hl_iconst X 2 dL_law_423 (by decide) ?_
  refine hl_iadd X dL_law_424 ?_
  refine hl_xld X hX (i + 2) (by omega) hL (nI_add i 2) dL_law_425 ?_
  refine hl_cvJ X [.int (xs (i + 1)), .int (xs (i + 2))] [] (c_X4_element (by decide : 0 < 69) rfl (xs (i + 1)) (xs (i + 2)) M) h1 lk_RL_30 rfl rfl rfl (by decide : 0 < 69) rfl ⟨by decide, rfl⟩ (by decide) (Nat.le_of_ble_eq_true rfl) ⟨by decide, by decide⟩ dL_law_426 ?_
  refine hl_aload_n X dL_law_429 rfl ?_
  refine hl_aload_n X dL_law_430 rfl ?_
  refine hl_iload_n X dL_law_431 rfl ?_
  refine hl_iconst X 1 dL_law_432 (by decide) ?_
  refine hl_iadd X dL_law_433 ?_
  refine hl_xld X hX (i + 1) (by omega) hL (nI_add i 1) dL_law_434 ?_
  refine hl_aload_n X dL_law_435 rfl ?_
  refine hl_iload_n X dL_law_436 rfl ?_
  refine hl_iconst X 2 dL_law_437 (by decide) ?_
  refine hl_iadd X dL_law_438 ?_
  refine hl_xld X hX (i + 2) (by omega) hL (nI_add i 2) dL_law_439 ?_
  refine hl_cvJ X [.int (xs (i + 1)), .int (xs (i + 2))] [.long r] (c_X5_element (by decide : 49 < 69) rfl (xs (i + 1)) (xs (i + 2)) M1) h2 lk_RL_34 rfl rfl rfl (by decide : 49 < 69) rfl ⟨by decide, rfl⟩ (by decide) (Nat.le_of_ble_eq_true rfl) ⟨by decide, by decide⟩ dL_law_440 ?_
  refine hl_lcmp X dL_law_443 ?_
  refine hl_if_eq_T X 1581 (by simp [lg_cmp]) dL_law_444 rfl ?_
  exact kk
/-- show: both answer alike, and the invariant stays -/
def hs_show (Inv : hf_M → Prop) : Prop := ∀ M : hf_M, Inv M → ∀ (a1 : Int32) (a2 : Int32), ∃ (r : Int32) (M1 M2 : hf_M), s_X4_show 0 a1 a2 M = some (r, M1) ∧ s_X5_show 49 a1 a2 M1 = some (r, M2) ∧ Inv M2
set_option maxRecDepth 100000 in
set_option maxHeartbeats 4000000 in
theorem hl_case_show {g : hf_G} {p : Program} {l : Launch} {e : Env} {s : State} {m : MethodId} {args : Array Value} {below : List Frame} {meth : Method} {c : Code} {Q : State → Prop} (X : hf_X g p s m args meth c cL_law 4 RL ret) {b Lx i : Nat} {xs : Nat → Int32} (hX : va_X b Lx xs s s.heap ∧ b < s.heap.size ∧ ¬ hf_A g b) (hL : Lx ≤ 3072) (hi : i + 6 ≤ Lx) {Inv : hf_M → Prop} (hst : hs_show Inv) (M : hf_M) (hM : Inv M) (kk : ∀ M2, Inv M2 → hl_W g p l e s m args below meth c 4 Q M2 100 10000 1581 [some (.ref b), some (.ref (hf_a g 0)), some (.ref (hf_a g 49)), some (.int (nI i))] []) : hl_W g p l e s m args below meth c 4 Q M 100 10000 449 [some (.ref b), some (.ref (hf_a g 0)), some (.ref (hf_a g 49)), some (.int (nI i))] [] := by
  obtain ⟨r, M1, M2, h1, h2, hI⟩ := hst M hM (xs (i + 1)) (xs (i + 2))
  have kk := kk M2 hI
  refine hl_aload_n X dL_law_449 rfl ?_
  refine hl_aload_n X dL_law_450 rfl ?_
  refine hl_iload_n X dL_law_451 rfl ?_
  refine hl_iconst X 1 dL_law_452 (by decide) ?_
  refine hl_iadd X dL_law_453 ?_
  refine hl_xld X hX (i + 1) (by omega) hL (nI_add i 1) dL_law_454 ?_
  refine hl_aload_n X dL_law_455 rfl ?_
  refine hl_iload_n X dL_law_456 rfl ?_
  refine hl_iconst X 2 dL_law_457 (by decide) ?_
  refine hl_iadd X dL_law_458 ?_
  refine hl_xld X hX (i + 2) (by omega) hL (nI_add i 2) dL_law_459 ?_
  refine hl_cvI X [.int (xs (i + 1)), .int (xs (i + 2))] [] (c_X4_show (by decide : 0 < 69) rfl (xs (i + 1)) (xs (i + 2)) M) h1 lk_RL_35 rfl rfl rfl (by decide : 0 < 69) rfl ⟨by decide, rfl⟩ (by decide) (Nat.le_of_ble_eq_true rfl) ⟨by decide, by decide⟩ dL_law_460 ?_
  refine hl_aload_n X dL_law_463 rfl ?_
  refine hl_aload_n X dL_law_464 rfl ?_
  refine hl_iload_n X dL_law_465 rfl ?_
  refine hl_iconst X 1 dL_law_466 (by decide) ?_
  refine hl_iadd X dL_law_467 ?_
  refine hl_xld X hX (i + 1) (by omega) hL (nI_add i 1) dL_law_468 ?_
  refine hl_aload_n X dL_law_469 rfl ?_
  refine hl_iload_n X dL_law_470 rfl ?_
  refine hl_iconst X 2 dL_law_471 (by decide) ?_
  refine hl_iadd X dL_law_472 ?_
  refine hl_xld X hX (i + 2) (by omega) hL (nI_add i 2) dL_law_473 ?_
  refine hl_cvI X [.int (xs (i + 1)), .int (xs (i + 2))] [.int r] (c_X5_show (by decide : 49 < 69) rfl (xs (i + 1)) (xs (i + 2)) M1) h2 lk_RL_39 rfl rfl rfl (by decide : 49 < 69) rfl ⟨by decide, rfl⟩ (by decide) (Nat.le_of_ble_eq_true rfl) ⟨by decide, by decide⟩ dL_law_474 ?_
  refine hl_icmp_eq_T X 1581 rfl dL_law_477 rfl ?_
  exact kk
/-- holds: both answer alike, and the invariant stays -/
def hs_holds (Inv : hf_M → Prop) : Prop := ∀ M : hf_M, Inv M → ∀ (a1 : Int32), ∃ (r : Int32) (M1 M2 : hf_M), s_X4_holds 0 a1 M = some (r, M1) ∧ s_X5_holds 49 a1 M1 = some (r, M2) ∧ Inv M2
set_option maxRecDepth 100000 in
set_option maxHeartbeats 4000000 in
theorem hl_case_holds {g : hf_G} {p : Program} {l : Launch} {e : Env} {s : State} {m : MethodId} {args : Array Value} {below : List Frame} {meth : Method} {c : Code} {Q : State → Prop} (X : hf_X g p s m args meth c cL_law 4 RL ret) {b Lx i : Nat} {xs : Nat → Int32} (hX : va_X b Lx xs s s.heap ∧ b < s.heap.size ∧ ¬ hf_A g b) (hL : Lx ≤ 3072) (hi : i + 6 ≤ Lx) {Inv : hf_M → Prop} (hst : hs_holds Inv) (M : hf_M) (hM : Inv M) (kk : ∀ M2, Inv M2 → hl_W g p l e s m args below meth c 4 Q M2 100 10000 1581 [some (.ref b), some (.ref (hf_a g 0)), some (.ref (hf_a g 49)), some (.int (nI i))] []) : hl_W g p l e s m args below meth c 4 Q M 100 10000 482 [some (.ref b), some (.ref (hf_a g 0)), some (.ref (hf_a g 49)), some (.int (nI i))] [] := by
  obtain ⟨r, M1, M2, h1, h2, hI⟩ := hst M hM (xs (i + 1))
  have kk := kk M2 hI
  refine hl_aload_n X dL_law_482 rfl ?_
  refine hl_aload_n X dL_law_483 rfl ?_
  refine hl_iload_n X dL_law_484 rfl ?_
  refine hl_iconst X 1 dL_law_485 (by decide) ?_
  refine hl_iadd X dL_law_486 ?_
  refine hl_xld X hX (i + 1) (by omega) hL (nI_add i 1) dL_law_487 ?_
  refine hl_cvI X [.int (xs (i + 1))] [] (c_X4_holds (by decide : 0 < 69) rfl (xs (i + 1)) M) h1 lk_RL_40 rfl rfl rfl (by decide : 0 < 69) rfl ⟨by decide, rfl⟩ (by decide) (Nat.le_of_ble_eq_true rfl) ⟨by decide, by decide⟩ dL_law_488 ?_
  refine hl_aload_n X dL_law_491 rfl ?_
  refine hl_aload_n X dL_law_492 rfl ?_
  refine hl_iload_n X dL_law_493 rfl ?_
  refine hl_iconst X 1 dL_law_494 (by decide) ?_
  refine hl_iadd X dL_law_495 ?_
  refine hl_xld X hX (i + 1) (by omega) hL (nI_add i 1) dL_law_496 ?_
  refine hl_cvI X [.int (xs (i + 1))] [.int r] (c_X5_holds (by decide : 49 < 69) rfl (xs (i + 1)) M1) h2 lk_RL_44 rfl rfl rfl (by decide : 49 < 69) rfl ⟨by decide, rfl⟩ (by decide) (Nat.le_of_ble_eq_true rfl) ⟨by decide, by decide⟩ dL_law_497 ?_
  refine hl_icmp_eq_T X 1581 rfl dL_law_500 rfl ?_
  exact kk
/-- says: both answer alike, and the invariant stays -/
def hs_says (Inv : hf_M → Prop) : Prop := ∀ M : hf_M, Inv M → ∀ (a1 : Int32) (a2 : Int32), ∃ (r : Int32) (M1 M2 : hf_M), s_X4_says 0 a1 a2 M = some (r, M1) ∧ s_X5_says 49 a1 a2 M1 = some (r, M2) ∧ Inv M2
set_option maxRecDepth 100000 in
set_option maxHeartbeats 4000000 in
theorem hl_case_says {g : hf_G} {p : Program} {l : Launch} {e : Env} {s : State} {m : MethodId} {args : Array Value} {below : List Frame} {meth : Method} {c : Code} {Q : State → Prop} (X : hf_X g p s m args meth c cL_law 4 RL ret) {b Lx i : Nat} {xs : Nat → Int32} (hX : va_X b Lx xs s s.heap ∧ b < s.heap.size ∧ ¬ hf_A g b) (hL : Lx ≤ 3072) (hi : i + 6 ≤ Lx) {Inv : hf_M → Prop} (hst : hs_says Inv) (M : hf_M) (hM : Inv M) (kk : ∀ M2, Inv M2 → hl_W g p l e s m args below meth c 4 Q M2 100 10000 1581 [some (.ref b), some (.ref (hf_a g 0)), some (.ref (hf_a g 49)), some (.int (nI i))] []) : hl_W g p l e s m args below meth c 4 Q M 100 10000 505 [some (.ref b), some (.ref (hf_a g 0)), some (.ref (hf_a g 49)), some (.int (nI i))] [] := by
  obtain ⟨r, M1, M2, h1, h2, hI⟩ := hst M hM (xs (i + 1)) (xs (i + 2))
  have kk := kk M2 hI
  refine hl_aload_n X dL_law_505 rfl ?_
  refine hl_aload_n X dL_law_506 rfl ?_
  refine hl_iload_n X dL_law_507 rfl ?_
  refine hl_iconst X 1 dL_law_508 (by decide) ?_
  refine hl_iadd X dL_law_509 ?_
  refine hl_xld X hX (i + 1) (by omega) hL (nI_add i 1) dL_law_510 ?_
  refine hl_aload_n X dL_law_511 rfl ?_
  refine hl_iload_n X dL_law_512 rfl ?_
  refine hl_iconst X 2 dL_law_513 (by decide) ?_
  refine hl_iadd X dL_law_514 ?_
  refine hl_xld X hX (i + 2) (by omega) hL (nI_add i 2) dL_law_515 ?_
  refine hl_cvI X [.int (xs (i + 1)), .int (xs (i + 2))] [] (c_X4_says (by decide : 0 < 69) rfl (xs (i + 1)) (xs (i + 2)) M) h1 lk_RL_45 rfl rfl rfl (by decide : 0 < 69) rfl ⟨by decide, rfl⟩ (by decide) (Nat.le_of_ble_eq_true rfl) ⟨by decide, by decide⟩ dL_law_516 ?_
  refine hl_aload_n X dL_law_519 rfl ?_
  refine hl_aload_n X dL_law_520 rfl ?_
  refine hl_iload_n X dL_law_521 rfl ?_
  refine hl_iconst X 1 dL_law_522 (by decide) ?_
  refine hl_iadd X dL_law_523 ?_
  refine hl_xld X hX (i + 1) (by omega) hL (nI_add i 1) dL_law_524 ?_
  refine hl_aload_n X dL_law_525 rfl ?_
  refine hl_iload_n X dL_law_526 rfl ?_
  refine hl_iconst X 2 dL_law_527 (by decide) ?_
  refine hl_iadd X dL_law_528 ?_
  refine hl_xld X hX (i + 2) (by omega) hL (nI_add i 2) dL_law_529 ?_
  refine hl_cvI X [.int (xs (i + 1)), .int (xs (i + 2))] [.int r] (c_X5_says (by decide : 49 < 69) rfl (xs (i + 1)) (xs (i + 2)) M1) h2 lk_RL_48 rfl rfl rfl (by decide : 49 < 69) rfl ⟨by decide, rfl⟩ (by decide) (Nat.le_of_ble_eq_true rfl) ⟨by decide, by decide⟩ dL_law_530 ?_
  refine hl_icmp_eq_T X 1581 rfl dL_law_533 rfl ?_
  exact kk
/-- fact: both answer alike, and the invariant stays -/
def hs_fact (Inv : hf_M → Prop) : Prop := ∀ M : hf_M, Inv M → ∀ (a1 : Int32), ∃ (r : Int32) (M1 M2 : hf_M), s_X4_fact 0 a1 M = some (r, M1) ∧ s_X5_fact 49 a1 M1 = some (r, M2) ∧ Inv M2
set_option maxRecDepth 100000 in
set_option maxHeartbeats 4000000 in
theorem hl_case_fact {g : hf_G} {p : Program} {l : Launch} {e : Env} {s : State} {m : MethodId} {args : Array Value} {below : List Frame} {meth : Method} {c : Code} {Q : State → Prop} (X : hf_X g p s m args meth c cL_law 4 RL ret) {b Lx i : Nat} {xs : Nat → Int32} (hX : va_X b Lx xs s s.heap ∧ b < s.heap.size ∧ ¬ hf_A g b) (hL : Lx ≤ 3072) (hi : i + 6 ≤ Lx) {Inv : hf_M → Prop} (hst : hs_fact Inv) (M : hf_M) (hM : Inv M) (kk : ∀ M2, Inv M2 → hl_W g p l e s m args below meth c 4 Q M2 100 10000 1581 [some (.ref b), some (.ref (hf_a g 0)), some (.ref (hf_a g 49)), some (.int (nI i))] []) : hl_W g p l e s m args below meth c 4 Q M 100 10000 538 [some (.ref b), some (.ref (hf_a g 0)), some (.ref (hf_a g 49)), some (.int (nI i))] [] := by
  obtain ⟨r, M1, M2, h1, h2, hI⟩ := hst M hM (xs (i + 1))
  have kk := kk M2 hI
  refine hl_aload_n X dL_law_538 rfl ?_
  refine hl_aload_n X dL_law_539 rfl ?_
  refine hl_iload_n X dL_law_540 rfl ?_
  refine hl_iconst X 1 dL_law_541 (by decide) ?_
  refine hl_iadd X dL_law_542 ?_
  refine hl_xld X hX (i + 1) (by omega) hL (nI_add i 1) dL_law_543 ?_
  refine hl_cvI X [.int (xs (i + 1))] [] (c_X4_fact (by decide : 0 < 69) rfl (xs (i + 1)) M) h1 lk_RL_49 rfl rfl rfl (by decide : 0 < 69) rfl ⟨by decide, rfl⟩ (by decide) (Nat.le_of_ble_eq_true rfl) ⟨by decide, by decide⟩ dL_law_544 ?_
  refine hl_aload_n X dL_law_547 rfl ?_
  refine hl_aload_n X dL_law_548 rfl ?_
  refine hl_iload_n X dL_law_549 rfl ?_
  refine hl_iconst X 1 dL_law_550 (by decide) ?_
  refine hl_iadd X dL_law_551 ?_
  refine hl_xld X hX (i + 1) (by omega) hL (nI_add i 1) dL_law_552 ?_
  refine hl_cvI X [.int (xs (i + 1))] [.int r] (c_X5_fact (by decide : 49 < 69) rfl (xs (i + 1)) M1) h2 lk_RL_52 rfl rfl rfl (by decide : 49 < 69) rfl ⟨by decide, rfl⟩ (by decide) (Nat.le_of_ble_eq_true rfl) ⟨by decide, by decide⟩ dL_law_553 ?_
  refine hl_icmp_eq_T X 1581 rfl dL_law_556 rfl ?_
  exact kk
/-- speaker: both answer alike, and the invariant stays -/
def hs_speaker (Inv : hf_M → Prop) : Prop := ∀ M : hf_M, Inv M → ∀ (a1 : Int32) (a2 : Int32), ∃ (r : Int32) (M1 M2 : hf_M), s_X4_speaker 0 a1 a2 M = some (r, M1) ∧ s_X5_speaker 49 a1 a2 M1 = some (r, M2) ∧ Inv M2
set_option maxRecDepth 100000 in
set_option maxHeartbeats 4000000 in
theorem hl_case_speaker {g : hf_G} {p : Program} {l : Launch} {e : Env} {s : State} {m : MethodId} {args : Array Value} {below : List Frame} {meth : Method} {c : Code} {Q : State → Prop} (X : hf_X g p s m args meth c cL_law 4 RL ret) {b Lx i : Nat} {xs : Nat → Int32} (hX : va_X b Lx xs s s.heap ∧ b < s.heap.size ∧ ¬ hf_A g b) (hL : Lx ≤ 3072) (hi : i + 6 ≤ Lx) {Inv : hf_M → Prop} (hst : hs_speaker Inv) (M : hf_M) (hM : Inv M) (kk : ∀ M2, Inv M2 → hl_W g p l e s m args below meth c 4 Q M2 100 10000 1581 [some (.ref b), some (.ref (hf_a g 0)), some (.ref (hf_a g 49)), some (.int (nI i))] []) : hl_W g p l e s m args below meth c 4 Q M 100 10000 561 [some (.ref b), some (.ref (hf_a g 0)), some (.ref (hf_a g 49)), some (.int (nI i))] [] := by
  obtain ⟨r, M1, M2, h1, h2, hI⟩ := hst M hM (xs (i + 1)) (xs (i + 2))
  have kk := kk M2 hI
  refine hl_aload_n X dL_law_561 rfl ?_
  refine hl_aload_n X dL_law_562 rfl ?_
  refine hl_iload_n X dL_law_563 rfl ?_
  refine hl_iconst X 1 dL_law_564 (by decide) ?_
  refine hl_iadd X dL_law_565 ?_
  refine hl_xld X hX (i + 1) (by omega) hL (nI_add i 1) dL_law_566 ?_
  refine hl_aload_n X dL_law_567 rfl ?_
  refine hl_iload_n X dL_law_568 rfl ?_
  refine hl_iconst X 2 dL_law_569 (by decide) ?_
  refine hl_iadd X dL_law_570 ?_
  refine hl_xld X hX (i + 2) (by omega) hL (nI_add i 2) dL_law_571 ?_
  refine hl_cvI X [.int (xs (i + 1)), .int (xs (i + 2))] [] (c_X4_speaker (by decide : 0 < 69) rfl (xs (i + 1)) (xs (i + 2)) M) h1 lk_RL_53 rfl rfl rfl (by decide : 0 < 69) rfl ⟨by decide, rfl⟩ (by decide) (Nat.le_of_ble_eq_true rfl) ⟨by decide, by decide⟩ dL_law_572 ?_
  refine hl_aload_n X dL_law_575 rfl ?_
  refine hl_aload_n X dL_law_576 rfl ?_
  refine hl_iload_n X dL_law_577 rfl ?_
  refine hl_iconst X 1 dL_law_578 (by decide) ?_
  refine hl_iadd X dL_law_579 ?_
  refine hl_xld X hX (i + 1) (by omega) hL (nI_add i 1) dL_law_580 ?_
  refine hl_aload_n X dL_law_581 rfl ?_
  refine hl_iload_n X dL_law_582 rfl ?_
  refine hl_iconst X 2 dL_law_583 (by decide) ?_
  refine hl_iadd X dL_law_584 ?_
  refine hl_xld X hX (i + 2) (by omega) hL (nI_add i 2) dL_law_585 ?_
  refine hl_cvI X [.int (xs (i + 1)), .int (xs (i + 2))] [.int r] (c_X5_speaker (by decide : 49 < 69) rfl (xs (i + 1)) (xs (i + 2)) M1) h2 lk_RL_56 rfl rfl rfl (by decide : 49 < 69) rfl ⟨by decide, rfl⟩ (by decide) (Nat.le_of_ble_eq_true rfl) ⟨by decide, by decide⟩ dL_law_586 ?_
  refine hl_icmp_eq_T X 1581 rfl dL_law_589 rfl ?_
  exact kk
/-- law: both answer alike, and the invariant stays -/
def hs_law (Inv : hf_M → Prop) : Prop := ∀ M : hf_M, Inv M → ∀ (a1 : Int32) (a2 : Int32), ∃ (r : Int32) (M1 M2 : hf_M), s_X4_law 0 a1 a2 M = some (r, M1) ∧ s_X5_law 49 a1 a2 M1 = some (r, M2) ∧ Inv M2
set_option maxRecDepth 100000 in
set_option maxHeartbeats 4000000 in
theorem hl_case_law {g : hf_G} {p : Program} {l : Launch} {e : Env} {s : State} {m : MethodId} {args : Array Value} {below : List Frame} {meth : Method} {c : Code} {Q : State → Prop} (X : hf_X g p s m args meth c cL_law 4 RL ret) {b Lx i : Nat} {xs : Nat → Int32} (hX : va_X b Lx xs s s.heap ∧ b < s.heap.size ∧ ¬ hf_A g b) (hL : Lx ≤ 3072) (hi : i + 6 ≤ Lx) {Inv : hf_M → Prop} (hst : hs_law Inv) (M : hf_M) (hM : Inv M) (kk : ∀ M2, Inv M2 → hl_W g p l e s m args below meth c 4 Q M2 100 10000 1581 [some (.ref b), some (.ref (hf_a g 0)), some (.ref (hf_a g 49)), some (.int (nI i))] []) : hl_W g p l e s m args below meth c 4 Q M 100 10000 594 [some (.ref b), some (.ref (hf_a g 0)), some (.ref (hf_a g 49)), some (.int (nI i))] [] := by
  obtain ⟨r, M1, M2, h1, h2, hI⟩ := hst M hM (xs (i + 1)) (xs (i + 2))
  have kk := kk M2 hI
  refine hl_aload_n X dL_law_594 rfl ?_
  refine hl_aload_n X dL_law_595 rfl ?_
  refine hl_iload_n X dL_law_596 rfl ?_
  refine hl_iconst X 1 dL_law_597 (by decide) ?_
  refine hl_iadd X dL_law_598 ?_
  refine hl_xld X hX (i + 1) (by omega) hL (nI_add i 1) dL_law_599 ?_
  refine hl_aload_n X dL_law_600 rfl ?_
  refine hl_iload_n X dL_law_601 rfl ?_
  refine hl_iconst X 2 dL_law_602 (by decide) ?_
  refine hl_iadd X dL_law_603 ?_
  refine hl_xld X hX (i + 2) (by omega) hL (nI_add i 2) dL_law_604 ?_
  refine hl_cvI X [.int (xs (i + 1)), .int (xs (i + 2))] [] (c_X4_law (by decide : 0 < 69) rfl (xs (i + 1)) (xs (i + 2)) M) h1 lk_RL_57 rfl rfl rfl (by decide : 0 < 69) rfl ⟨by decide, rfl⟩ (by decide) (Nat.le_of_ble_eq_true rfl) ⟨by decide, by decide⟩ dL_law_605 ?_
  refine hl_aload_n X dL_law_608 rfl ?_
  refine hl_aload_n X dL_law_609 rfl ?_
  refine hl_iload_n X dL_law_610 rfl ?_
  refine hl_iconst X 1 dL_law_611 (by decide) ?_
  refine hl_iadd X dL_law_612 ?_
  refine hl_xld X hX (i + 1) (by omega) hL (nI_add i 1) dL_law_613 ?_
  refine hl_aload_n X dL_law_614 rfl ?_
  refine hl_iload_n X dL_law_615 rfl ?_
  refine hl_iconst X 2 dL_law_616 (by decide) ?_
  refine hl_iadd X dL_law_617 ?_
  refine hl_xld X hX (i + 2) (by omega) hL (nI_add i 2) dL_law_618 ?_
  refine hl_cvI X [.int (xs (i + 1)), .int (xs (i + 2))] [.int r] (c_X5_law (by decide : 49 < 69) rfl (xs (i + 1)) (xs (i + 2)) M1) h2 lk_RL_60 rfl rfl rfl (by decide : 49 < 69) rfl ⟨by decide, rfl⟩ (by decide) (Nat.le_of_ble_eq_true rfl) ⟨by decide, by decide⟩ dL_law_619 ?_
  refine hl_icmp_eq_T X 1581 rfl dL_law_622 rfl ?_
  exact kk
/-- speakerOf: both answer alike, and the invariant stays -/
def hs_speakerOf (Inv : hf_M → Prop) : Prop := ∀ M : hf_M, Inv M → ∀ (a1 : Int32) (a2 : Int32), ∃ (r : Int32) (M1 M2 : hf_M), s_X4_speakerOf 0 a1 a2 M = some (r, M1) ∧ s_X5_speakerOf 49 a1 a2 M1 = some (r, M2) ∧ Inv M2
set_option maxRecDepth 100000 in
set_option maxHeartbeats 4000000 in
theorem hl_case_speakerOf {g : hf_G} {p : Program} {l : Launch} {e : Env} {s : State} {m : MethodId} {args : Array Value} {below : List Frame} {meth : Method} {c : Code} {Q : State → Prop} (X : hf_X g p s m args meth c cL_law 4 RL ret) {b Lx i : Nat} {xs : Nat → Int32} (hX : va_X b Lx xs s s.heap ∧ b < s.heap.size ∧ ¬ hf_A g b) (hL : Lx ≤ 3072) (hi : i + 6 ≤ Lx) {Inv : hf_M → Prop} (hst : hs_speakerOf Inv) (M : hf_M) (hM : Inv M) (kk : ∀ M2, Inv M2 → hl_W g p l e s m args below meth c 4 Q M2 100 10000 1581 [some (.ref b), some (.ref (hf_a g 0)), some (.ref (hf_a g 49)), some (.int (nI i))] []) : hl_W g p l e s m args below meth c 4 Q M 100 10000 627 [some (.ref b), some (.ref (hf_a g 0)), some (.ref (hf_a g 49)), some (.int (nI i))] [] := by
  obtain ⟨r, M1, M2, h1, h2, hI⟩ := hst M hM (xs (i + 1)) (xs (i + 2))
  have kk := kk M2 hI
  refine hl_aload_n X dL_law_627 rfl ?_
  refine hl_aload_n X dL_law_628 rfl ?_
  refine hl_iload_n X dL_law_629 rfl ?_
  refine hl_iconst X 1 dL_law_630 (by decide) ?_
  refine hl_iadd X dL_law_631 ?_
  refine hl_xld X hX (i + 1) (by omega) hL (nI_add i 1) dL_law_632 ?_
  refine hl_aload_n X dL_law_633 rfl ?_
  refine hl_iload_n X dL_law_634 rfl ?_
  refine hl_iconst X 2 dL_law_635 (by decide) ?_
  refine hl_iadd X dL_law_636 ?_
  refine hl_xld X hX (i + 2) (by omega) hL (nI_add i 2) dL_law_637 ?_
  refine hl_cvI X [.int (xs (i + 1)), .int (xs (i + 2))] [] (c_X4_speakerOf (by decide : 0 < 69) rfl (xs (i + 1)) (xs (i + 2)) M) h1 lk_RL_61 rfl rfl rfl (by decide : 0 < 69) rfl ⟨by decide, rfl⟩ (by decide) (Nat.le_of_ble_eq_true rfl) ⟨by decide, by decide⟩ dL_law_638 ?_
  refine hl_aload_n X dL_law_641 rfl ?_
  refine hl_aload_n X dL_law_642 rfl ?_
  refine hl_iload_n X dL_law_643 rfl ?_
  refine hl_iconst X 1 dL_law_644 (by decide) ?_
  refine hl_iadd X dL_law_645 ?_
  refine hl_xld X hX (i + 1) (by omega) hL (nI_add i 1) dL_law_646 ?_
  refine hl_aload_n X dL_law_647 rfl ?_
  refine hl_iload_n X dL_law_648 rfl ?_
  refine hl_iconst X 2 dL_law_649 (by decide) ?_
  refine hl_iadd X dL_law_650 ?_
  refine hl_xld X hX (i + 2) (by omega) hL (nI_add i 2) dL_law_651 ?_
  refine hl_cvI X [.int (xs (i + 1)), .int (xs (i + 2))] [.int r] (c_X5_speakerOf (by decide : 49 < 69) rfl (xs (i + 1)) (xs (i + 2)) M1) h2 lk_RL_64 rfl rfl rfl (by decide : 49 < 69) rfl ⟨by decide, rfl⟩ (by decide) (Nat.le_of_ble_eq_true rfl) ⟨by decide, by decide⟩ dL_law_652 ?_
  refine hl_icmp_eq_T X 1581 rfl dL_law_655 rfl ?_
  exact kk
/-- harm: both answer alike, and the invariant stays -/
def hs_harm (Inv : hf_M → Prop) : Prop := ∀ M : hf_M, Inv M → ∀ (a1 : Int32) (a2 : Int32), ∃ (r : Int32) (M1 M2 : hf_M), s_X4_harm 0 a1 a2 M = some (r, M1) ∧ s_X5_harm 49 a1 a2 M1 = some (r, M2) ∧ Inv M2
set_option maxRecDepth 100000 in
set_option maxHeartbeats 4000000 in
theorem hl_case_harm {g : hf_G} {p : Program} {l : Launch} {e : Env} {s : State} {m : MethodId} {args : Array Value} {below : List Frame} {meth : Method} {c : Code} {Q : State → Prop} (X : hf_X g p s m args meth c cL_law 4 RL ret) {b Lx i : Nat} {xs : Nat → Int32} (hX : va_X b Lx xs s s.heap ∧ b < s.heap.size ∧ ¬ hf_A g b) (hL : Lx ≤ 3072) (hi : i + 6 ≤ Lx) {Inv : hf_M → Prop} (hst : hs_harm Inv) (M : hf_M) (hM : Inv M) (kk : ∀ M2, Inv M2 → hl_W g p l e s m args below meth c 4 Q M2 100 10000 1581 [some (.ref b), some (.ref (hf_a g 0)), some (.ref (hf_a g 49)), some (.int (nI i))] []) : hl_W g p l e s m args below meth c 4 Q M 100 10000 660 [some (.ref b), some (.ref (hf_a g 0)), some (.ref (hf_a g 49)), some (.int (nI i))] [] := by
  obtain ⟨r, M1, M2, h1, h2, hI⟩ := hst M hM (xs (i + 1)) (xs (i + 2))
  have kk := kk M2 hI
  refine hl_aload_n X dL_law_660 rfl ?_
  refine hl_aload_n X dL_law_661 rfl ?_
  refine hl_iload_n X dL_law_662 rfl ?_
  refine hl_iconst X 1 dL_law_663 (by decide) ?_
  refine hl_iadd X dL_law_664 ?_
  refine hl_xld X hX (i + 1) (by omega) hL (nI_add i 1) dL_law_665 ?_
  refine hl_aload_n X dL_law_666 rfl ?_
  refine hl_iload_n X dL_law_667 rfl ?_
  refine hl_iconst X 2 dL_law_668 (by decide) ?_
  refine hl_iadd X dL_law_669 ?_
  refine hl_xld X hX (i + 2) (by omega) hL (nI_add i 2) dL_law_670 ?_
  refine hl_cvI X [.int (xs (i + 1)), .int (xs (i + 2))] [] (c_X4_harm (by decide : 0 < 69) rfl (xs (i + 1)) (xs (i + 2)) M) h1 lk_RL_65 rfl rfl rfl (by decide : 0 < 69) rfl ⟨by decide, rfl⟩ (by decide) (Nat.le_of_ble_eq_true rfl) ⟨by decide, by decide⟩ dL_law_671 ?_
  refine hl_aload_n X dL_law_674 rfl ?_
  refine hl_aload_n X dL_law_675 rfl ?_
  refine hl_iload_n X dL_law_676 rfl ?_
  refine hl_iconst X 1 dL_law_677 (by decide) ?_
  refine hl_iadd X dL_law_678 ?_
  refine hl_xld X hX (i + 1) (by omega) hL (nI_add i 1) dL_law_679 ?_
  refine hl_aload_n X dL_law_680 rfl ?_
  refine hl_iload_n X dL_law_681 rfl ?_
  refine hl_iconst X 2 dL_law_682 (by decide) ?_
  refine hl_iadd X dL_law_683 ?_
  refine hl_xld X hX (i + 2) (by omega) hL (nI_add i 2) dL_law_684 ?_
  refine hl_cvI X [.int (xs (i + 1)), .int (xs (i + 2))] [.int r] (c_X5_harm (by decide : 49 < 69) rfl (xs (i + 1)) (xs (i + 2)) M1) h2 lk_RL_68 rfl rfl rfl (by decide : 49 < 69) rfl ⟨by decide, rfl⟩ (by decide) (Nat.le_of_ble_eq_true rfl) ⟨by decide, by decide⟩ dL_law_685 ?_
  refine hl_icmp_eq_T X 1581 rfl dL_law_688 rfl ?_
  exact kk
/-- say: both answer alike, and the invariant stays -/
def hs_say (Inv : hf_M → Prop) : Prop := ∀ M : hf_M, Inv M → ∀ (a1 : Int32) (a2 : Int32) (a3 : Int32), ∃ (r : Int32) (M1 M2 : hf_M), s_X4_say 0 a1 a2 a3 M = some (r, M1) ∧ s_X5_say 49 a1 a2 a3 M1 = some (r, M2) ∧ Inv M2
set_option maxRecDepth 100000 in
set_option maxHeartbeats 4000000 in
theorem hl_case_say {g : hf_G} {p : Program} {l : Launch} {e : Env} {s : State} {m : MethodId} {args : Array Value} {below : List Frame} {meth : Method} {c : Code} {Q : State → Prop} (X : hf_X g p s m args meth c cL_law 4 RL ret) {b Lx i : Nat} {xs : Nat → Int32} (hX : va_X b Lx xs s s.heap ∧ b < s.heap.size ∧ ¬ hf_A g b) (hL : Lx ≤ 3072) (hi : i + 6 ≤ Lx) {Inv : hf_M → Prop} (hst : hs_say Inv) (M : hf_M) (hM : Inv M) (kk : ∀ M2, Inv M2 → hl_W g p l e s m args below meth c 4 Q M2 100 10000 1581 [some (.ref b), some (.ref (hf_a g 0)), some (.ref (hf_a g 49)), some (.int (nI i))] []) : hl_W g p l e s m args below meth c 4 Q M 100 10000 693 [some (.ref b), some (.ref (hf_a g 0)), some (.ref (hf_a g 49)), some (.int (nI i))] [] := by
  by_cases hb0 : xs (i + 3) = 0
  · obtain ⟨r, M1, M2, h1, h2, hI⟩ := hst M hM (xs (i + 1)) (xs (i + 2)) 0
    have kk := kk M2 hI
    refine hl_aload_n X dL_law_693 rfl ?_
    refine hl_aload_n X dL_law_694 rfl ?_
    refine hl_iload_n X dL_law_695 rfl ?_
    refine hl_iconst X 1 dL_law_696 (by decide) ?_
    refine hl_iadd X dL_law_697 ?_
    refine hl_xld X hX (i + 1) (by omega) hL (nI_add i 1) dL_law_698 ?_
    refine hl_aload_n X dL_law_699 rfl ?_
    refine hl_iload_n X dL_law_700 rfl ?_
    refine hl_iconst X 2 dL_law_701 (by decide) ?_
    refine hl_iadd X dL_law_702 ?_
    refine hl_xld X hX (i + 2) (by omega) hL (nI_add i 2) dL_law_703 ?_
    refine hl_aload_n X dL_law_704 rfl ?_
    refine hl_iload_n X dL_law_705 rfl ?_
    refine hl_iconst X 3 dL_law_706 (by decide) ?_
    refine hl_iadd X dL_law_707 ?_
    refine hl_xld X hX (i + 3) (by omega) hL (nI_add i 3) dL_law_708 ?_
    refine hl_if_eq_T X 716 hb0 dL_law_709 rfl ?_
    refine hl_iconst X 0 dL_law_716 (by decide) ?_
    refine hl_cvI X [.int (xs (i + 1)), .int (xs (i + 2)), .int 0] [] (c_X4_say (by decide : 0 < 69) rfl (xs (i + 1)) (xs (i + 2)) 0 M) h1 lk_RL_69 rfl rfl rfl (by decide : 0 < 69) rfl ⟨by decide, rfl⟩ (by decide) (Nat.le_of_ble_eq_true rfl) ⟨by decide, by decide⟩ dL_law_717 ?_
    refine hl_aload_n X dL_law_720 rfl ?_
    refine hl_aload_n X dL_law_721 rfl ?_
    refine hl_iload_n X dL_law_722 rfl ?_
    refine hl_iconst X 1 dL_law_723 (by decide) ?_
    refine hl_iadd X dL_law_724 ?_
    refine hl_xld X hX (i + 1) (by omega) hL (nI_add i 1) dL_law_725 ?_
    refine hl_aload_n X dL_law_726 rfl ?_
    refine hl_iload_n X dL_law_727 rfl ?_
    refine hl_iconst X 2 dL_law_728 (by decide) ?_
    refine hl_iadd X dL_law_729 ?_
    refine hl_xld X hX (i + 2) (by omega) hL (nI_add i 2) dL_law_730 ?_
    refine hl_aload_n X dL_law_731 rfl ?_
    refine hl_iload_n X dL_law_732 rfl ?_
    refine hl_iconst X 3 dL_law_733 (by decide) ?_
    refine hl_iadd X dL_law_734 ?_
    refine hl_xld X hX (i + 3) (by omega) hL (nI_add i 3) dL_law_735 ?_
    refine hl_if_eq_T X 743 hb0 dL_law_736 rfl ?_
    refine hl_iconst X 0 dL_law_743 (by decide) ?_
    refine hl_cvI X [.int (xs (i + 1)), .int (xs (i + 2)), .int 0] [.int r] (c_X5_say (by decide : 49 < 69) rfl (xs (i + 1)) (xs (i + 2)) 0 M1) h2 lk_RL_73 rfl rfl rfl (by decide : 49 < 69) rfl ⟨by decide, rfl⟩ (by decide) (Nat.le_of_ble_eq_true rfl) ⟨by decide, by decide⟩ dL_law_744 ?_
    refine hl_icmp_eq_T X 1581 rfl dL_law_747 rfl ?_
    exact kk
  · obtain ⟨r, M1, M2, h1, h2, hI⟩ := hst M hM (xs (i + 1)) (xs (i + 2)) 1
    have kk := kk M2 hI
    refine hl_aload_n X dL_law_693 rfl ?_
    refine hl_aload_n X dL_law_694 rfl ?_
    refine hl_iload_n X dL_law_695 rfl ?_
    refine hl_iconst X 1 dL_law_696 (by decide) ?_
    refine hl_iadd X dL_law_697 ?_
    refine hl_xld X hX (i + 1) (by omega) hL (nI_add i 1) dL_law_698 ?_
    refine hl_aload_n X dL_law_699 rfl ?_
    refine hl_iload_n X dL_law_700 rfl ?_
    refine hl_iconst X 2 dL_law_701 (by decide) ?_
    refine hl_iadd X dL_law_702 ?_
    refine hl_xld X hX (i + 2) (by omega) hL (nI_add i 2) dL_law_703 ?_
    refine hl_aload_n X dL_law_704 rfl ?_
    refine hl_iload_n X dL_law_705 rfl ?_
    refine hl_iconst X 3 dL_law_706 (by decide) ?_
    refine hl_iadd X dL_law_707 ?_
    refine hl_xld X hX (i + 3) (by omega) hL (nI_add i 3) dL_law_708 ?_
    refine hl_if_eq_F X 716 hb0 dL_law_709 rfl ?_
    refine hl_iconst X 1 dL_law_712 (by decide) ?_
    refine hl_goto X 717 dL_law_713 rfl ?_
    refine hl_cvI X [.int (xs (i + 1)), .int (xs (i + 2)), .int 1] [] (c_X4_say (by decide : 0 < 69) rfl (xs (i + 1)) (xs (i + 2)) 1 M) h1 lk_RL_69 rfl rfl rfl (by decide : 0 < 69) rfl ⟨by decide, rfl⟩ (by decide) (Nat.le_of_ble_eq_true rfl) ⟨by decide, by decide⟩ dL_law_717 ?_
    refine hl_aload_n X dL_law_720 rfl ?_
    refine hl_aload_n X dL_law_721 rfl ?_
    refine hl_iload_n X dL_law_722 rfl ?_
    refine hl_iconst X 1 dL_law_723 (by decide) ?_
    refine hl_iadd X dL_law_724 ?_
    refine hl_xld X hX (i + 1) (by omega) hL (nI_add i 1) dL_law_725 ?_
    refine hl_aload_n X dL_law_726 rfl ?_
    refine hl_iload_n X dL_law_727 rfl ?_
    refine hl_iconst X 2 dL_law_728 (by decide) ?_
    refine hl_iadd X dL_law_729 ?_
    refine hl_xld X hX (i + 2) (by omega) hL (nI_add i 2) dL_law_730 ?_
    refine hl_aload_n X dL_law_731 rfl ?_
    refine hl_iload_n X dL_law_732 rfl ?_
    refine hl_iconst X 3 dL_law_733 (by decide) ?_
    refine hl_iadd X dL_law_734 ?_
    refine hl_xld X hX (i + 3) (by omega) hL (nI_add i 3) dL_law_735 ?_
    refine hl_if_eq_F X 743 hb0 dL_law_736 rfl ?_
    refine hl_iconst X 1 dL_law_739 (by decide) ?_
    refine hl_goto X 744 dL_law_740 rfl ?_
    refine hl_cvI X [.int (xs (i + 1)), .int (xs (i + 2)), .int 1] [.int r] (c_X5_say (by decide : 49 < 69) rfl (xs (i + 1)) (xs (i + 2)) 1 M1) h2 lk_RL_73 rfl rfl rfl (by decide : 49 < 69) rfl ⟨by decide, rfl⟩ (by decide) (Nat.le_of_ble_eq_true rfl) ⟨by decide, by decide⟩ dL_law_744 ?_
    refine hl_icmp_eq_T X 1581 rfl dL_law_747 rfl ?_
    exact kk
/-- unsay: both answer alike, and the invariant stays -/
def hs_unsay (Inv : hf_M → Prop) : Prop := ∀ M : hf_M, Inv M → ∃ (r : Int32) (M1 M2 : hf_M), s_X4_unsay 0  M = some (r, M1) ∧ s_X5_unsay 49  M1 = some (r, M2) ∧ Inv M2
set_option maxRecDepth 100000 in
set_option maxHeartbeats 4000000 in
theorem hl_case_unsay {g : hf_G} {p : Program} {l : Launch} {e : Env} {s : State} {m : MethodId} {args : Array Value} {below : List Frame} {meth : Method} {c : Code} {Q : State → Prop} (X : hf_X g p s m args meth c cL_law 4 RL ret) {b Lx i : Nat} {xs : Nat → Int32} (hX : va_X b Lx xs s s.heap ∧ b < s.heap.size ∧ ¬ hf_A g b) (hL : Lx ≤ 3072) (hi : i + 6 ≤ Lx) {Inv : hf_M → Prop} (hst : hs_unsay Inv) (M : hf_M) (hM : Inv M) (kk : ∀ M2, Inv M2 → hl_W g p l e s m args below meth c 4 Q M2 100 10000 1581 [some (.ref b), some (.ref (hf_a g 0)), some (.ref (hf_a g 49)), some (.int (nI i))] []) : hl_W g p l e s m args below meth c 4 Q M 100 10000 752 [some (.ref b), some (.ref (hf_a g 0)), some (.ref (hf_a g 49)), some (.int (nI i))] [] := by
  obtain ⟨r, M1, M2, h1, h2, hI⟩ := hst M hM 
  have kk := kk M2 hI
  refine hl_aload_n X dL_law_752 rfl ?_
  refine hl_cvI X [] [] (c_X4_unsay (by decide : 0 < 69) rfl  M) h1 lk_RL_74 rfl rfl rfl (by decide : 0 < 69) rfl ⟨by decide, rfl⟩ (by decide) (Nat.le_of_ble_eq_true rfl) ⟨by decide, by decide⟩ dL_law_753 ?_
  refine hl_aload_n X dL_law_756 rfl ?_
  refine hl_cvI X [] [.int r] (c_X5_unsay (by decide : 49 < 69) rfl  M1) h2 lk_RL_78 rfl rfl rfl (by decide : 49 < 69) rfl ⟨by decide, rfl⟩ (by decide) (Nat.le_of_ble_eq_true rfl) ⟨by decide, by decide⟩ dL_law_757 ?_
  refine hl_icmp_eq_T X 1581 rfl dL_law_760 rfl ?_
  exact kk
/-- sayingOf: both answer alike, and the invariant stays -/
def hs_sayingOf (Inv : hf_M → Prop) : Prop := ∀ M : hf_M, Inv M → ∀ (a1 : Int32), ∃ (r : Int32) (M1 M2 : hf_M), s_X4_sayingOf 0 a1 M = some (r, M1) ∧ s_X5_sayingOf 49 a1 M1 = some (r, M2) ∧ Inv M2
set_option maxRecDepth 100000 in
set_option maxHeartbeats 4000000 in
theorem hl_case_sayingOf {g : hf_G} {p : Program} {l : Launch} {e : Env} {s : State} {m : MethodId} {args : Array Value} {below : List Frame} {meth : Method} {c : Code} {Q : State → Prop} (X : hf_X g p s m args meth c cL_law 4 RL ret) {b Lx i : Nat} {xs : Nat → Int32} (hX : va_X b Lx xs s s.heap ∧ b < s.heap.size ∧ ¬ hf_A g b) (hL : Lx ≤ 3072) (hi : i + 6 ≤ Lx) {Inv : hf_M → Prop} (hst : hs_sayingOf Inv) (M : hf_M) (hM : Inv M) (kk : ∀ M2, Inv M2 → hl_W g p l e s m args below meth c 4 Q M2 100 10000 1581 [some (.ref b), some (.ref (hf_a g 0)), some (.ref (hf_a g 49)), some (.int (nI i))] []) : hl_W g p l e s m args below meth c 4 Q M 100 10000 765 [some (.ref b), some (.ref (hf_a g 0)), some (.ref (hf_a g 49)), some (.int (nI i))] [] := by
  obtain ⟨r, M1, M2, h1, h2, hI⟩ := hst M hM (xs (i + 1))
  have kk := kk M2 hI
  refine hl_aload_n X dL_law_765 rfl ?_
  refine hl_aload_n X dL_law_766 rfl ?_
  refine hl_iload_n X dL_law_767 rfl ?_
  refine hl_iconst X 1 dL_law_768 (by decide) ?_
  refine hl_iadd X dL_law_769 ?_
  refine hl_xld X hX (i + 1) (by omega) hL (nI_add i 1) dL_law_770 ?_
  refine hl_cvI X [.int (xs (i + 1))] [] (c_X4_sayingOf (by decide : 0 < 69) rfl (xs (i + 1)) M) h1 lk_RL_79 rfl rfl rfl (by decide : 0 < 69) rfl ⟨by decide, rfl⟩ (by decide) (Nat.le_of_ble_eq_true rfl) ⟨by decide, by decide⟩ dL_law_771 ?_
  refine hl_aload_n X dL_law_774 rfl ?_
  refine hl_aload_n X dL_law_775 rfl ?_
  refine hl_iload_n X dL_law_776 rfl ?_
  refine hl_iconst X 1 dL_law_777 (by decide) ?_
  refine hl_iadd X dL_law_778 ?_
  refine hl_xld X hX (i + 1) (by omega) hL (nI_add i 1) dL_law_779 ?_
  refine hl_cvI X [.int (xs (i + 1))] [.int r] (c_X5_sayingOf (by decide : 49 < 69) rfl (xs (i + 1)) M1) h2 lk_RL_82 rfl rfl rfl (by decide : 49 < 69) rfl ⟨by decide, rfl⟩ (by decide) (Nat.le_of_ble_eq_true rfl) ⟨by decide, by decide⟩ dL_law_780 ?_
  refine hl_icmp_eq_T X 1581 rfl dL_law_783 rfl ?_
  exact kk
/-- known: both answer alike, and the invariant stays -/
def hs_known (Inv : hf_M → Prop) : Prop := ∀ M : hf_M, Inv M → ∀ (a1 : Int32) (a2 : Int32), ∃ (r : Int32) (M1 M2 : hf_M), s_X4_known 0 a1 a2 M = some (r, M1) ∧ s_X5_known 49 a1 a2 M1 = some (r, M2) ∧ Inv M2
set_option maxRecDepth 100000 in
set_option maxHeartbeats 4000000 in
theorem hl_case_known {g : hf_G} {p : Program} {l : Launch} {e : Env} {s : State} {m : MethodId} {args : Array Value} {below : List Frame} {meth : Method} {c : Code} {Q : State → Prop} (X : hf_X g p s m args meth c cL_law 4 RL ret) {b Lx i : Nat} {xs : Nat → Int32} (hX : va_X b Lx xs s s.heap ∧ b < s.heap.size ∧ ¬ hf_A g b) (hL : Lx ≤ 3072) (hi : i + 6 ≤ Lx) {Inv : hf_M → Prop} (hst : hs_known Inv) (M : hf_M) (hM : Inv M) (kk : ∀ M2, Inv M2 → hl_W g p l e s m args below meth c 4 Q M2 100 10000 1581 [some (.ref b), some (.ref (hf_a g 0)), some (.ref (hf_a g 49)), some (.int (nI i))] []) : hl_W g p l e s m args below meth c 4 Q M 100 10000 788 [some (.ref b), some (.ref (hf_a g 0)), some (.ref (hf_a g 49)), some (.int (nI i))] [] := by
  by_cases hb0 : xs (i + 2) = 0
  · obtain ⟨r, M1, M2, h1, h2, hI⟩ := hst M hM (xs (i + 1)) 0
    have kk := kk M2 hI
    refine hl_aload_n X dL_law_788 rfl ?_
    refine hl_aload_n X dL_law_789 rfl ?_
    refine hl_iload_n X dL_law_790 rfl ?_
    refine hl_iconst X 1 dL_law_791 (by decide) ?_
    refine hl_iadd X dL_law_792 ?_
    refine hl_xld X hX (i + 1) (by omega) hL (nI_add i 1) dL_law_793 ?_
    refine hl_aload_n X dL_law_794 rfl ?_
    refine hl_iload_n X dL_law_795 rfl ?_
    refine hl_iconst X 2 dL_law_796 (by decide) ?_
    refine hl_iadd X dL_law_797 ?_
    refine hl_xld X hX (i + 2) (by omega) hL (nI_add i 2) dL_law_798 ?_
    refine hl_if_eq_T X 806 hb0 dL_law_799 rfl ?_
    refine hl_iconst X 0 dL_law_806 (by decide) ?_
    refine hl_cvI X [.int (xs (i + 1)), .int 0] [] (c_X4_known (by decide : 0 < 69) rfl (xs (i + 1)) 0 M) h1 lk_RL_83 rfl rfl rfl (by decide : 0 < 69) rfl ⟨by decide, rfl⟩ (by decide) (Nat.le_of_ble_eq_true rfl) ⟨by decide, by decide⟩ dL_law_807 ?_
    refine hl_aload_n X dL_law_810 rfl ?_
    refine hl_aload_n X dL_law_811 rfl ?_
    refine hl_iload_n X dL_law_812 rfl ?_
    refine hl_iconst X 1 dL_law_813 (by decide) ?_
    refine hl_iadd X dL_law_814 ?_
    refine hl_xld X hX (i + 1) (by omega) hL (nI_add i 1) dL_law_815 ?_
    refine hl_aload_n X dL_law_816 rfl ?_
    refine hl_iload_n X dL_law_817 rfl ?_
    refine hl_iconst X 2 dL_law_818 (by decide) ?_
    refine hl_iadd X dL_law_819 ?_
    refine hl_xld X hX (i + 2) (by omega) hL (nI_add i 2) dL_law_820 ?_
    refine hl_if_eq_T X 828 hb0 dL_law_821 rfl ?_
    refine hl_iconst X 0 dL_law_828 (by decide) ?_
    refine hl_cvI X [.int (xs (i + 1)), .int 0] [.int r] (c_X5_known (by decide : 49 < 69) rfl (xs (i + 1)) 0 M1) h2 lk_RL_87 rfl rfl rfl (by decide : 49 < 69) rfl ⟨by decide, rfl⟩ (by decide) (Nat.le_of_ble_eq_true rfl) ⟨by decide, by decide⟩ dL_law_829 ?_
    refine hl_icmp_eq_T X 1581 rfl dL_law_832 rfl ?_
    exact kk
  · obtain ⟨r, M1, M2, h1, h2, hI⟩ := hst M hM (xs (i + 1)) 1
    have kk := kk M2 hI
    refine hl_aload_n X dL_law_788 rfl ?_
    refine hl_aload_n X dL_law_789 rfl ?_
    refine hl_iload_n X dL_law_790 rfl ?_
    refine hl_iconst X 1 dL_law_791 (by decide) ?_
    refine hl_iadd X dL_law_792 ?_
    refine hl_xld X hX (i + 1) (by omega) hL (nI_add i 1) dL_law_793 ?_
    refine hl_aload_n X dL_law_794 rfl ?_
    refine hl_iload_n X dL_law_795 rfl ?_
    refine hl_iconst X 2 dL_law_796 (by decide) ?_
    refine hl_iadd X dL_law_797 ?_
    refine hl_xld X hX (i + 2) (by omega) hL (nI_add i 2) dL_law_798 ?_
    refine hl_if_eq_F X 806 hb0 dL_law_799 rfl ?_
    refine hl_iconst X 1 dL_law_802 (by decide) ?_
    refine hl_goto X 807 dL_law_803 rfl ?_
    refine hl_cvI X [.int (xs (i + 1)), .int 1] [] (c_X4_known (by decide : 0 < 69) rfl (xs (i + 1)) 1 M) h1 lk_RL_83 rfl rfl rfl (by decide : 0 < 69) rfl ⟨by decide, rfl⟩ (by decide) (Nat.le_of_ble_eq_true rfl) ⟨by decide, by decide⟩ dL_law_807 ?_
    refine hl_aload_n X dL_law_810 rfl ?_
    refine hl_aload_n X dL_law_811 rfl ?_
    refine hl_iload_n X dL_law_812 rfl ?_
    refine hl_iconst X 1 dL_law_813 (by decide) ?_
    refine hl_iadd X dL_law_814 ?_
    refine hl_xld X hX (i + 1) (by omega) hL (nI_add i 1) dL_law_815 ?_
    refine hl_aload_n X dL_law_816 rfl ?_
    refine hl_iload_n X dL_law_817 rfl ?_
    refine hl_iconst X 2 dL_law_818 (by decide) ?_
    refine hl_iadd X dL_law_819 ?_
    refine hl_xld X hX (i + 2) (by omega) hL (nI_add i 2) dL_law_820 ?_
    refine hl_if_eq_F X 828 hb0 dL_law_821 rfl ?_
    refine hl_iconst X 1 dL_law_824 (by decide) ?_
    refine hl_goto X 829 dL_law_825 rfl ?_
    refine hl_cvI X [.int (xs (i + 1)), .int 1] [.int r] (c_X5_known (by decide : 49 < 69) rfl (xs (i + 1)) 1 M1) h2 lk_RL_87 rfl rfl rfl (by decide : 49 < 69) rfl ⟨by decide, rfl⟩ (by decide) (Nat.le_of_ble_eq_true rfl) ⟨by decide, by decide⟩ dL_law_829 ?_
    refine hl_icmp_eq_T X 1581 rfl dL_law_832 rfl ?_
    exact kk
/-- town: both answer alike, and the invariant stays -/
def hs_town (Inv : hf_M → Prop) : Prop := ∀ M : hf_M, Inv M → ∀ (a1 : Int32), ∃ (r : Int32) (M1 M2 : hf_M), s_X4_town 0 a1 M = some (r, M1) ∧ s_X5_town 49 a1 M1 = some (r, M2) ∧ Inv M2
set_option maxRecDepth 100000 in
set_option maxHeartbeats 4000000 in
theorem hl_case_town {g : hf_G} {p : Program} {l : Launch} {e : Env} {s : State} {m : MethodId} {args : Array Value} {below : List Frame} {meth : Method} {c : Code} {Q : State → Prop} (X : hf_X g p s m args meth c cL_law 4 RL ret) {b Lx i : Nat} {xs : Nat → Int32} (hX : va_X b Lx xs s s.heap ∧ b < s.heap.size ∧ ¬ hf_A g b) (hL : Lx ≤ 3072) (hi : i + 6 ≤ Lx) {Inv : hf_M → Prop} (hst : hs_town Inv) (M : hf_M) (hM : Inv M) (kk : ∀ M2, Inv M2 → hl_W g p l e s m args below meth c 4 Q M2 100 10000 1581 [some (.ref b), some (.ref (hf_a g 0)), some (.ref (hf_a g 49)), some (.int (nI i))] []) : hl_W g p l e s m args below meth c 4 Q M 100 10000 837 [some (.ref b), some (.ref (hf_a g 0)), some (.ref (hf_a g 49)), some (.int (nI i))] [] := by
  obtain ⟨r, M1, M2, h1, h2, hI⟩ := hst M hM (xs (i + 1))
  have kk := kk M2 hI
  refine hl_aload_n X dL_law_837 rfl ?_
  refine hl_aload_n X dL_law_838 rfl ?_
  refine hl_iload_n X dL_law_839 rfl ?_
  refine hl_iconst X 1 dL_law_840 (by decide) ?_
  refine hl_iadd X dL_law_841 ?_
  refine hl_xld X hX (i + 1) (by omega) hL (nI_add i 1) dL_law_842 ?_
  refine hl_cvI X [.int (xs (i + 1))] [] (c_X4_town (by decide : 0 < 69) rfl (xs (i + 1)) M) h1 lk_RL_88 rfl rfl rfl (by decide : 0 < 69) rfl ⟨by decide, rfl⟩ (by decide) (Nat.le_of_ble_eq_true rfl) ⟨by decide, by decide⟩ dL_law_843 ?_
  refine hl_aload_n X dL_law_846 rfl ?_
  refine hl_aload_n X dL_law_847 rfl ?_
  refine hl_iload_n X dL_law_848 rfl ?_
  refine hl_iconst X 1 dL_law_849 (by decide) ?_
  refine hl_iadd X dL_law_850 ?_
  refine hl_xld X hX (i + 1) (by omega) hL (nI_add i 1) dL_law_851 ?_
  refine hl_cvI X [.int (xs (i + 1))] [.int r] (c_X5_town (by decide : 49 < 69) rfl (xs (i + 1)) M1) h2 lk_RL_91 rfl rfl rfl (by decide : 49 < 69) rfl ⟨by decide, rfl⟩ (by decide) (Nat.le_of_ble_eq_true rfl) ⟨by decide, by decide⟩ dL_law_852 ?_
  refine hl_icmp_eq_T X 1581 rfl dL_law_855 rfl ?_
  exact kk
/-- fault: both answer alike, and the invariant stays -/
def hs_fault (Inv : hf_M → Prop) : Prop := ∀ M : hf_M, Inv M → ∃ (r : Int32) (M1 M2 : hf_M), s_X4_fault 0  M = some (r, M1) ∧ s_X5_fault 49  M1 = some (r, M2) ∧ Inv M2
set_option maxRecDepth 100000 in
set_option maxHeartbeats 4000000 in
theorem hl_case_fault {g : hf_G} {p : Program} {l : Launch} {e : Env} {s : State} {m : MethodId} {args : Array Value} {below : List Frame} {meth : Method} {c : Code} {Q : State → Prop} (X : hf_X g p s m args meth c cL_law 4 RL ret) {b Lx i : Nat} {xs : Nat → Int32} (hX : va_X b Lx xs s s.heap ∧ b < s.heap.size ∧ ¬ hf_A g b) (hL : Lx ≤ 3072) (hi : i + 6 ≤ Lx) {Inv : hf_M → Prop} (hst : hs_fault Inv) (M : hf_M) (hM : Inv M) (kk : ∀ M2, Inv M2 → hl_W g p l e s m args below meth c 4 Q M2 100 10000 1581 [some (.ref b), some (.ref (hf_a g 0)), some (.ref (hf_a g 49)), some (.int (nI i))] []) : hl_W g p l e s m args below meth c 4 Q M 100 10000 860 [some (.ref b), some (.ref (hf_a g 0)), some (.ref (hf_a g 49)), some (.int (nI i))] [] := by
  obtain ⟨r, M1, M2, h1, h2, hI⟩ := hst M hM 
  have kk := kk M2 hI
  refine hl_aload_n X dL_law_860 rfl ?_
  refine hl_cvI X [] [] (c_X4_fault (by decide : 0 < 69) rfl  M) h1 lk_RL_92 rfl rfl rfl (by decide : 0 < 69) rfl ⟨by decide, rfl⟩ (by decide) (Nat.le_of_ble_eq_true rfl) ⟨by decide, by decide⟩ dL_law_861 ?_
  refine hl_aload_n X dL_law_864 rfl ?_
  refine hl_cvI X [] [.int r] (c_X5_fault (by decide : 49 < 69) rfl  M1) h2 lk_RL_95 rfl rfl rfl (by decide : 49 < 69) rfl ⟨by decide, rfl⟩ (by decide) (Nat.le_of_ble_eq_true rfl) ⟨by decide, by decide⟩ dL_law_865 ?_
  refine hl_icmp_eq_T X 1581 rfl dL_law_868 rfl ?_
  exact kk
/-- canBe: both answer alike, and the invariant stays -/
def hs_canBe (Inv : hf_M → Prop) : Prop := ∀ M : hf_M, Inv M → ∀ (a1 : Int32) (a2 : Int32), ∃ (r : Int32) (M1 M2 : hf_M), s_X4_canBe 0 a1 a2 M = some (r, M1) ∧ s_X5_canBe 49 a1 a2 M1 = some (r, M2) ∧ Inv M2
set_option maxRecDepth 100000 in
set_option maxHeartbeats 4000000 in
theorem hl_case_canBe {g : hf_G} {p : Program} {l : Launch} {e : Env} {s : State} {m : MethodId} {args : Array Value} {below : List Frame} {meth : Method} {c : Code} {Q : State → Prop} (X : hf_X g p s m args meth c cL_law 4 RL ret) {b Lx i : Nat} {xs : Nat → Int32} (hX : va_X b Lx xs s s.heap ∧ b < s.heap.size ∧ ¬ hf_A g b) (hL : Lx ≤ 3072) (hi : i + 6 ≤ Lx) {Inv : hf_M → Prop} (hst : hs_canBe Inv) (M : hf_M) (hM : Inv M) (kk : ∀ M2, Inv M2 → hl_W g p l e s m args below meth c 4 Q M2 100 10000 1581 [some (.ref b), some (.ref (hf_a g 0)), some (.ref (hf_a g 49)), some (.int (nI i))] []) : hl_W g p l e s m args below meth c 4 Q M 100 10000 873 [some (.ref b), some (.ref (hf_a g 0)), some (.ref (hf_a g 49)), some (.int (nI i))] [] := by
  obtain ⟨r, M1, M2, h1, h2, hI⟩ := hst M hM (xs (i + 1)) (xs (i + 2))
  have kk := kk M2 hI
  refine hl_aload_n X dL_law_873 rfl ?_
  refine hl_aload_n X dL_law_874 rfl ?_
  refine hl_iload_n X dL_law_875 rfl ?_
  refine hl_iconst X 1 dL_law_876 (by decide) ?_
  refine hl_iadd X dL_law_877 ?_
  refine hl_xld X hX (i + 1) (by omega) hL (nI_add i 1) dL_law_878 ?_
  refine hl_aload_n X dL_law_879 rfl ?_
  refine hl_iload_n X dL_law_880 rfl ?_
  refine hl_iconst X 2 dL_law_881 (by decide) ?_
  refine hl_iadd X dL_law_882 ?_
  refine hl_xld X hX (i + 2) (by omega) hL (nI_add i 2) dL_law_883 ?_
  refine hl_cvI X [.int (xs (i + 1)), .int (xs (i + 2))] [] (c_X4_canBe (by decide : 0 < 69) rfl (xs (i + 1)) (xs (i + 2)) M) h1 lk_RL_96 rfl rfl rfl (by decide : 0 < 69) rfl ⟨by decide, rfl⟩ (by decide) (Nat.le_of_ble_eq_true rfl) ⟨by decide, by decide⟩ dL_law_884 ?_
  refine hl_aload_n X dL_law_887 rfl ?_
  refine hl_aload_n X dL_law_888 rfl ?_
  refine hl_iload_n X dL_law_889 rfl ?_
  refine hl_iconst X 1 dL_law_890 (by decide) ?_
  refine hl_iadd X dL_law_891 ?_
  refine hl_xld X hX (i + 1) (by omega) hL (nI_add i 1) dL_law_892 ?_
  refine hl_aload_n X dL_law_893 rfl ?_
  refine hl_iload_n X dL_law_894 rfl ?_
  refine hl_iconst X 2 dL_law_895 (by decide) ?_
  refine hl_iadd X dL_law_896 ?_
  refine hl_xld X hX (i + 2) (by omega) hL (nI_add i 2) dL_law_897 ?_
  refine hl_cvI X [.int (xs (i + 1)), .int (xs (i + 2))] [.int r] (c_X5_canBe (by decide : 49 < 69) rfl (xs (i + 1)) (xs (i + 2)) M1) h2 lk_RL_99 rfl rfl rfl (by decide : 49 < 69) rfl ⟨by decide, rfl⟩ (by decide) (Nat.le_of_ble_eq_true rfl) ⟨by decide, by decide⟩ dL_law_898 ?_
  refine hl_icmp_eq_T X 1581 rfl dL_law_901 rfl ?_
  exact kk
/-- can: both answer alike, and the invariant stays -/
def hs_can (Inv : hf_M → Prop) : Prop := ∀ M : hf_M, Inv M → ∀ (a1 : Int32) (a2 : Int32) (a3 : Int32), ∃ (r : Int32) (M1 M2 : hf_M), s_X4_can 0 a1 a2 a3 M = some (r, M1) ∧ s_X5_can 49 a1 a2 a3 M1 = some (r, M2) ∧ Inv M2
set_option maxRecDepth 100000 in
set_option maxHeartbeats 4000000 in
theorem hl_case_can {g : hf_G} {p : Program} {l : Launch} {e : Env} {s : State} {m : MethodId} {args : Array Value} {below : List Frame} {meth : Method} {c : Code} {Q : State → Prop} (X : hf_X g p s m args meth c cL_law 4 RL ret) {b Lx i : Nat} {xs : Nat → Int32} (hX : va_X b Lx xs s s.heap ∧ b < s.heap.size ∧ ¬ hf_A g b) (hL : Lx ≤ 3072) (hi : i + 6 ≤ Lx) {Inv : hf_M → Prop} (hst : hs_can Inv) (M : hf_M) (hM : Inv M) (kk : ∀ M2, Inv M2 → hl_W g p l e s m args below meth c 4 Q M2 100 10000 1581 [some (.ref b), some (.ref (hf_a g 0)), some (.ref (hf_a g 49)), some (.int (nI i))] []) : hl_W g p l e s m args below meth c 4 Q M 100 10000 906 [some (.ref b), some (.ref (hf_a g 0)), some (.ref (hf_a g 49)), some (.int (nI i))] [] := by
  obtain ⟨r, M1, M2, h1, h2, hI⟩ := hst M hM (xs (i + 1)) (xs (i + 2)) (xs (i + 3))
  have kk := kk M2 hI
  refine hl_aload_n X dL_law_906 rfl ?_
  refine hl_aload_n X dL_law_907 rfl ?_
  refine hl_iload_n X dL_law_908 rfl ?_
  refine hl_iconst X 1 dL_law_909 (by decide) ?_
  refine hl_iadd X dL_law_910 ?_
  refine hl_xld X hX (i + 1) (by omega) hL (nI_add i 1) dL_law_911 ?_
  refine hl_aload_n X dL_law_912 rfl ?_
  refine hl_iload_n X dL_law_913 rfl ?_
  refine hl_iconst X 2 dL_law_914 (by decide) ?_
  refine hl_iadd X dL_law_915 ?_
  refine hl_xld X hX (i + 2) (by omega) hL (nI_add i 2) dL_law_916 ?_
  refine hl_aload_n X dL_law_917 rfl ?_
  refine hl_iload_n X dL_law_918 rfl ?_
  refine hl_iconst X 3 dL_law_919 (by decide) ?_
  refine hl_iadd X dL_law_920 ?_
  refine hl_xld X hX (i + 3) (by omega) hL (nI_add i 3) dL_law_921 ?_
  refine hl_cvI X [.int (xs (i + 1)), .int (xs (i + 2)), .int (xs (i + 3))] [] (c_X4_can (by decide : 0 < 69) rfl (xs (i + 1)) (xs (i + 2)) (xs (i + 3)) M) h1 lk_RL_100 rfl rfl rfl (by decide : 0 < 69) rfl ⟨by decide, rfl⟩ (by decide) (Nat.le_of_ble_eq_true rfl) ⟨by decide, by decide⟩ dL_law_922 ?_
  refine hl_aload_n X dL_law_925 rfl ?_
  refine hl_aload_n X dL_law_926 rfl ?_
  refine hl_iload_n X dL_law_927 rfl ?_
  refine hl_iconst X 1 dL_law_928 (by decide) ?_
  refine hl_iadd X dL_law_929 ?_
  refine hl_xld X hX (i + 1) (by omega) hL (nI_add i 1) dL_law_930 ?_
  refine hl_aload_n X dL_law_931 rfl ?_
  refine hl_iload_n X dL_law_932 rfl ?_
  refine hl_iconst X 2 dL_law_933 (by decide) ?_
  refine hl_iadd X dL_law_934 ?_
  refine hl_xld X hX (i + 2) (by omega) hL (nI_add i 2) dL_law_935 ?_
  refine hl_aload_n X dL_law_936 rfl ?_
  refine hl_iload_n X dL_law_937 rfl ?_
  refine hl_iconst X 3 dL_law_938 (by decide) ?_
  refine hl_iadd X dL_law_939 ?_
  refine hl_xld X hX (i + 3) (by omega) hL (nI_add i 3) dL_law_940 ?_
  refine hl_cvI X [.int (xs (i + 1)), .int (xs (i + 2)), .int (xs (i + 3))] [.int r] (c_X5_can (by decide : 49 < 69) rfl (xs (i + 1)) (xs (i + 2)) (xs (i + 3)) M1) h2 lk_RL_103 rfl rfl rfl (by decide : 49 < 69) rfl ⟨by decide, rfl⟩ (by decide) (Nat.le_of_ble_eq_true rfl) ⟨by decide, by decide⟩ dL_law_941 ?_
  refine hl_icmp_eq_T X 1581 rfl dL_law_944 rfl ?_
  exact kk
/-- worlds: both answer alike, and the invariant stays -/
def hs_worlds (Inv : hf_M → Prop) : Prop := ∀ M : hf_M, Inv M → ∃ (r : Int64) (M1 M2 : hf_M), s_X4_worlds 0  M = some (r, M1) ∧ s_X5_worlds 49  M1 = some (r, M2) ∧ Inv M2
set_option maxRecDepth 100000 in
set_option maxHeartbeats 4000000 in
theorem hl_case_worlds {g : hf_G} {p : Program} {l : Launch} {e : Env} {s : State} {m : MethodId} {args : Array Value} {below : List Frame} {meth : Method} {c : Code} {Q : State → Prop} (X : hf_X g p s m args meth c cL_law 4 RL ret) {b Lx i : Nat} {xs : Nat → Int32} (hX : va_X b Lx xs s s.heap ∧ b < s.heap.size ∧ ¬ hf_A g b) (hL : Lx ≤ 3072) (hi : i + 6 ≤ Lx) {Inv : hf_M → Prop} (hst : hs_worlds Inv) (M : hf_M) (hM : Inv M) (kk : ∀ M2, Inv M2 → hl_W g p l e s m args below meth c 4 Q M2 100 10000 1581 [some (.ref b), some (.ref (hf_a g 0)), some (.ref (hf_a g 49)), some (.int (nI i))] []) : hl_W g p l e s m args below meth c 4 Q M 100 10000 949 [some (.ref b), some (.ref (hf_a g 0)), some (.ref (hf_a g 49)), some (.int (nI i))] [] := by
  obtain ⟨r, M1, M2, h1, h2, hI⟩ := hst M hM 
  have kk := kk M2 hI
  refine hl_aload_n X dL_law_949 rfl ?_
  refine hl_cvJ X [] [] (c_X4_worlds (by decide : 0 < 69) rfl  M) h1 lk_RL_104 rfl rfl rfl (by decide : 0 < 69) rfl ⟨by decide, rfl⟩ (by decide) (Nat.le_of_ble_eq_true rfl) ⟨by decide, by decide⟩ dL_law_950 ?_
  refine hl_aload_n X dL_law_953 rfl ?_
  refine hl_cvJ X [] [.long r] (c_X5_worlds (by decide : 49 < 69) rfl  M1) h2 lk_RL_108 rfl rfl rfl (by decide : 49 < 69) rfl ⟨by decide, rfl⟩ (by decide) (Nat.le_of_ble_eq_true rfl) ⟨by decide, by decide⟩ dL_law_954 ?_
  refine hl_lcmp X dL_law_957 ?_
  refine hl_if_eq_T X 1581 (by simp [lg_cmp]) dL_law_958 rfl ?_
  exact kk
/-- many: both answer alike, and the invariant stays -/
def hs_many (Inv : hf_M → Prop) : Prop := ∀ M : hf_M, Inv M → ∃ (r : Int32) (M1 M2 : hf_M), s_X4_many 0  M = some (r, M1) ∧ s_X5_many 49  M1 = some (r, M2) ∧ Inv M2
set_option maxRecDepth 100000 in
set_option maxHeartbeats 4000000 in
theorem hl_case_many {g : hf_G} {p : Program} {l : Launch} {e : Env} {s : State} {m : MethodId} {args : Array Value} {below : List Frame} {meth : Method} {c : Code} {Q : State → Prop} (X : hf_X g p s m args meth c cL_law 4 RL ret) {b Lx i : Nat} {xs : Nat → Int32} (hX : va_X b Lx xs s s.heap ∧ b < s.heap.size ∧ ¬ hf_A g b) (hL : Lx ≤ 3072) (hi : i + 6 ≤ Lx) {Inv : hf_M → Prop} (hst : hs_many Inv) (M : hf_M) (hM : Inv M) (kk : ∀ M2, Inv M2 → hl_W g p l e s m args below meth c 4 Q M2 100 10000 1581 [some (.ref b), some (.ref (hf_a g 0)), some (.ref (hf_a g 49)), some (.int (nI i))] []) : hl_W g p l e s m args below meth c 4 Q M 100 10000 963 [some (.ref b), some (.ref (hf_a g 0)), some (.ref (hf_a g 49)), some (.int (nI i))] [] := by
  obtain ⟨r, M1, M2, h1, h2, hI⟩ := hst M hM 
  have kk := kk M2 hI
  refine hl_aload_n X dL_law_963 rfl ?_
  refine hl_cvI X [] [] (c_X4_many (by decide : 0 < 69) rfl  M) h1 lk_RL_109 rfl rfl rfl (by decide : 0 < 69) rfl ⟨by decide, rfl⟩ (by decide) (Nat.le_of_ble_eq_true rfl) ⟨by decide, by decide⟩ dL_law_964 ?_
  refine hl_aload_n X dL_law_967 rfl ?_
  refine hl_cvI X [] [.int r] (c_X5_many (by decide : 49 < 69) rfl  M1) h2 lk_RL_112 rfl rfl rfl (by decide : 49 < 69) rfl ⟨by decide, rfl⟩ (by decide) (Nat.le_of_ble_eq_true rfl) ⟨by decide, by decide⟩ dL_law_968 ?_
  refine hl_icmp_eq_T X 1581 rfl dL_law_971 rfl ?_
  exact kk
/-- sure: both answer alike, and the invariant stays -/
def hs_sure (Inv : hf_M → Prop) : Prop := ∀ M : hf_M, Inv M → ∀ (a1 : Int32), ∃ (r : Int32) (M1 M2 : hf_M), s_X4_sure 0 a1 M = some (r, M1) ∧ s_X5_sure 49 a1 M1 = some (r, M2) ∧ Inv M2
set_option maxRecDepth 100000 in
set_option maxHeartbeats 4000000 in
theorem hl_case_sure {g : hf_G} {p : Program} {l : Launch} {e : Env} {s : State} {m : MethodId} {args : Array Value} {below : List Frame} {meth : Method} {c : Code} {Q : State → Prop} (X : hf_X g p s m args meth c cL_law 4 RL ret) {b Lx i : Nat} {xs : Nat → Int32} (hX : va_X b Lx xs s s.heap ∧ b < s.heap.size ∧ ¬ hf_A g b) (hL : Lx ≤ 3072) (hi : i + 6 ≤ Lx) {Inv : hf_M → Prop} (hst : hs_sure Inv) (M : hf_M) (hM : Inv M) (kk : ∀ M2, Inv M2 → hl_W g p l e s m args below meth c 4 Q M2 100 10000 1581 [some (.ref b), some (.ref (hf_a g 0)), some (.ref (hf_a g 49)), some (.int (nI i))] []) : hl_W g p l e s m args below meth c 4 Q M 100 10000 976 [some (.ref b), some (.ref (hf_a g 0)), some (.ref (hf_a g 49)), some (.int (nI i))] [] := by
  obtain ⟨r, M1, M2, h1, h2, hI⟩ := hst M hM (xs (i + 1))
  have kk := kk M2 hI
  refine hl_aload_n X dL_law_976 rfl ?_
  refine hl_aload_n X dL_law_977 rfl ?_
  refine hl_iload_n X dL_law_978 rfl ?_
  refine hl_iconst X 1 dL_law_979 (by decide) ?_
  refine hl_iadd X dL_law_980 ?_
  refine hl_xld X hX (i + 1) (by omega) hL (nI_add i 1) dL_law_981 ?_
  refine hl_cvI X [.int (xs (i + 1))] [] (c_X4_sure (by decide : 0 < 69) rfl (xs (i + 1)) M) h1 lk_RL_113 rfl rfl rfl (by decide : 0 < 69) rfl ⟨by decide, rfl⟩ (by decide) (Nat.le_of_ble_eq_true rfl) ⟨by decide, by decide⟩ dL_law_982 ?_
  refine hl_aload_n X dL_law_985 rfl ?_
  refine hl_aload_n X dL_law_986 rfl ?_
  refine hl_iload_n X dL_law_987 rfl ?_
  refine hl_iconst X 1 dL_law_988 (by decide) ?_
  refine hl_iadd X dL_law_989 ?_
  refine hl_xld X hX (i + 1) (by omega) hL (nI_add i 1) dL_law_990 ?_
  refine hl_cvI X [.int (xs (i + 1))] [.int r] (c_X5_sure (by decide : 49 < 69) rfl (xs (i + 1)) M1) h2 lk_RL_116 rfl rfl rfl (by decide : 49 < 69) rfl ⟨by decide, rfl⟩ (by decide) (Nat.le_of_ble_eq_true rfl) ⟨by decide, by decide⟩ dL_law_991 ?_
  refine hl_icmp_eq_T X 1581 rfl dL_law_994 rfl ?_
  exact kk
/-- sures: both answer alike, and the invariant stays -/
def hs_sures (Inv : hf_M → Prop) : Prop := ∀ M : hf_M, Inv M → ∃ (r : Int32) (M1 M2 : hf_M), s_X4_sures 0  M = some (r, M1) ∧ s_X5_sures 49  M1 = some (r, M2) ∧ Inv M2
set_option maxRecDepth 100000 in
set_option maxHeartbeats 4000000 in
theorem hl_case_sures {g : hf_G} {p : Program} {l : Launch} {e : Env} {s : State} {m : MethodId} {args : Array Value} {below : List Frame} {meth : Method} {c : Code} {Q : State → Prop} (X : hf_X g p s m args meth c cL_law 4 RL ret) {b Lx i : Nat} {xs : Nat → Int32} (hX : va_X b Lx xs s s.heap ∧ b < s.heap.size ∧ ¬ hf_A g b) (hL : Lx ≤ 3072) (hi : i + 6 ≤ Lx) {Inv : hf_M → Prop} (hst : hs_sures Inv) (M : hf_M) (hM : Inv M) (kk : ∀ M2, Inv M2 → hl_W g p l e s m args below meth c 4 Q M2 100 10000 1581 [some (.ref b), some (.ref (hf_a g 0)), some (.ref (hf_a g 49)), some (.int (nI i))] []) : hl_W g p l e s m args below meth c 4 Q M 100 10000 999 [some (.ref b), some (.ref (hf_a g 0)), some (.ref (hf_a g 49)), some (.int (nI i))] [] := by
  obtain ⟨r, M1, M2, h1, h2, hI⟩ := hst M hM 
  have kk := kk M2 hI
  refine hl_aload_n X dL_law_999 rfl ?_
  refine hl_cvI X [] [] (c_X4_sures (by decide : 0 < 69) rfl  M) h1 lk_RL_117 rfl rfl rfl (by decide : 0 < 69) rfl ⟨by decide, rfl⟩ (by decide) (Nat.le_of_ble_eq_true rfl) ⟨by decide, by decide⟩ dL_law_1000 ?_
  refine hl_aload_n X dL_law_1003 rfl ?_
  refine hl_cvI X [] [.int r] (c_X5_sures (by decide : 49 < 69) rfl  M1) h2 lk_RL_120 rfl rfl rfl (by decide : 49 < 69) rfl ⟨by decide, rfl⟩ (by decide) (Nat.le_of_ble_eq_true rfl) ⟨by decide, by decide⟩ dL_law_1004 ?_
  refine hl_icmp_eq_T X 1581 rfl dL_law_1007 rfl ?_
  exact kk
/-- shown: both answer alike, and the invariant stays -/
def hs_shown (Inv : hf_M → Prop) : Prop := ∀ M : hf_M, Inv M → ∀ (a1 : Int32), ∃ (r : Int32) (M1 M2 : hf_M), s_X4_shown 0 a1 M = some (r, M1) ∧ s_X5_shown 49 a1 M1 = some (r, M2) ∧ Inv M2
set_option maxRecDepth 100000 in
set_option maxHeartbeats 4000000 in
theorem hl_case_shown {g : hf_G} {p : Program} {l : Launch} {e : Env} {s : State} {m : MethodId} {args : Array Value} {below : List Frame} {meth : Method} {c : Code} {Q : State → Prop} (X : hf_X g p s m args meth c cL_law 4 RL ret) {b Lx i : Nat} {xs : Nat → Int32} (hX : va_X b Lx xs s s.heap ∧ b < s.heap.size ∧ ¬ hf_A g b) (hL : Lx ≤ 3072) (hi : i + 6 ≤ Lx) {Inv : hf_M → Prop} (hst : hs_shown Inv) (M : hf_M) (hM : Inv M) (kk : ∀ M2, Inv M2 → hl_W g p l e s m args below meth c 4 Q M2 100 10000 1581 [some (.ref b), some (.ref (hf_a g 0)), some (.ref (hf_a g 49)), some (.int (nI i))] []) : hl_W g p l e s m args below meth c 4 Q M 100 10000 1012 [some (.ref b), some (.ref (hf_a g 0)), some (.ref (hf_a g 49)), some (.int (nI i))] [] := by
  obtain ⟨r, M1, M2, h1, h2, hI⟩ := hst M hM (xs (i + 1))
  have kk := kk M2 hI
  refine hl_aload_n X dL_law_1012 rfl ?_
  refine hl_aload_n X dL_law_1013 rfl ?_
  refine hl_iload_n X dL_law_1014 rfl ?_
  refine hl_iconst X 1 dL_law_1015 (by decide) ?_
  refine hl_iadd X dL_law_1016 ?_
  refine hl_xld X hX (i + 1) (by omega) hL (nI_add i 1) dL_law_1017 ?_
  refine hl_cvI X [.int (xs (i + 1))] [] (c_X4_shown (by decide : 0 < 69) rfl (xs (i + 1)) M) h1 lk_RL_121 rfl rfl rfl (by decide : 0 < 69) rfl ⟨by decide, rfl⟩ (by decide) (Nat.le_of_ble_eq_true rfl) ⟨by decide, by decide⟩ dL_law_1018 ?_
  refine hl_aload_n X dL_law_1021 rfl ?_
  refine hl_aload_n X dL_law_1022 rfl ?_
  refine hl_iload_n X dL_law_1023 rfl ?_
  refine hl_iconst X 1 dL_law_1024 (by decide) ?_
  refine hl_iadd X dL_law_1025 ?_
  refine hl_xld X hX (i + 1) (by omega) hL (nI_add i 1) dL_law_1026 ?_
  refine hl_cvI X [.int (xs (i + 1))] [.int r] (c_X5_shown (by decide : 49 < 69) rfl (xs (i + 1)) M1) h2 lk_RL_124 rfl rfl rfl (by decide : 49 < 69) rfl ⟨by decide, rfl⟩ (by decide) (Nat.le_of_ble_eq_true rfl) ⟨by decide, by decide⟩ dL_law_1027 ?_
  refine hl_icmp_eq_T X 1581 rfl dL_law_1030 rfl ?_
  exact kk
/-- proof: both answer alike, and the invariant stays -/
def hs_proof (Inv : hf_M → Prop) : Prop := ∀ M : hf_M, Inv M → ∀ (a1 : Int32), ∃ (r : Int32) (M1 M2 : hf_M), s_X4_proof 0 a1 M = some (r, M1) ∧ s_X5_proof 49 a1 M1 = some (r, M2) ∧ Inv M2
set_option maxRecDepth 100000 in
set_option maxHeartbeats 4000000 in
theorem hl_case_proof {g : hf_G} {p : Program} {l : Launch} {e : Env} {s : State} {m : MethodId} {args : Array Value} {below : List Frame} {meth : Method} {c : Code} {Q : State → Prop} (X : hf_X g p s m args meth c cL_law 4 RL ret) {b Lx i : Nat} {xs : Nat → Int32} (hX : va_X b Lx xs s s.heap ∧ b < s.heap.size ∧ ¬ hf_A g b) (hL : Lx ≤ 3072) (hi : i + 6 ≤ Lx) {Inv : hf_M → Prop} (hst : hs_proof Inv) (M : hf_M) (hM : Inv M) (kk : ∀ M2, Inv M2 → hl_W g p l e s m args below meth c 4 Q M2 100 10000 1581 [some (.ref b), some (.ref (hf_a g 0)), some (.ref (hf_a g 49)), some (.int (nI i))] []) : hl_W g p l e s m args below meth c 4 Q M 100 10000 1035 [some (.ref b), some (.ref (hf_a g 0)), some (.ref (hf_a g 49)), some (.int (nI i))] [] := by
  obtain ⟨r, M1, M2, h1, h2, hI⟩ := hst M hM (xs (i + 1))
  have kk := kk M2 hI
  refine hl_aload_n X dL_law_1035 rfl ?_
  refine hl_aload_n X dL_law_1036 rfl ?_
  refine hl_iload_n X dL_law_1037 rfl ?_
  refine hl_iconst X 1 dL_law_1038 (by decide) ?_
  refine hl_iadd X dL_law_1039 ?_
  refine hl_xld X hX (i + 1) (by omega) hL (nI_add i 1) dL_law_1040 ?_
  refine hl_cvI X [.int (xs (i + 1))] [] (c_X4_proof (by decide : 0 < 69) rfl (xs (i + 1)) M) h1 lk_RL_125 rfl rfl rfl (by decide : 0 < 69) rfl ⟨by decide, rfl⟩ (by decide) (Nat.le_of_ble_eq_true rfl) ⟨by decide, by decide⟩ dL_law_1041 ?_
  refine hl_aload_n X dL_law_1044 rfl ?_
  refine hl_aload_n X dL_law_1045 rfl ?_
  refine hl_iload_n X dL_law_1046 rfl ?_
  refine hl_iconst X 1 dL_law_1047 (by decide) ?_
  refine hl_iadd X dL_law_1048 ?_
  refine hl_xld X hX (i + 1) (by omega) hL (nI_add i 1) dL_law_1049 ?_
  refine hl_cvI X [.int (xs (i + 1))] [.int r] (c_X5_proof (by decide : 49 < 69) rfl (xs (i + 1)) M1) h2 lk_RL_128 rfl rfl rfl (by decide : 49 < 69) rfl ⟨by decide, rfl⟩ (by decide) (Nat.le_of_ble_eq_true rfl) ⟨by decide, by decide⟩ dL_law_1050 ?_
  refine hl_icmp_eq_T X 1581 rfl dL_law_1053 rfl ?_
  exact kk
/-- worst: both answer alike, and the invariant stays -/
def hs_worst (Inv : hf_M → Prop) : Prop := ∀ M : hf_M, Inv M → ∀ (a1 : Int32) (a2 : Int32), ∃ (r : Int32) (M1 M2 : hf_M), s_X4_worst 0 a1 a2 M = some (r, M1) ∧ s_X5_worst 49 a1 a2 M1 = some (r, M2) ∧ Inv M2
set_option maxRecDepth 100000 in
set_option maxHeartbeats 4000000 in
theorem hl_case_worst {g : hf_G} {p : Program} {l : Launch} {e : Env} {s : State} {m : MethodId} {args : Array Value} {below : List Frame} {meth : Method} {c : Code} {Q : State → Prop} (X : hf_X g p s m args meth c cL_law 4 RL ret) {b Lx i : Nat} {xs : Nat → Int32} (hX : va_X b Lx xs s s.heap ∧ b < s.heap.size ∧ ¬ hf_A g b) (hL : Lx ≤ 3072) (hi : i + 6 ≤ Lx) {Inv : hf_M → Prop} (hst : hs_worst Inv) (M : hf_M) (hM : Inv M) (kk : ∀ M2, Inv M2 → hl_W g p l e s m args below meth c 4 Q M2 100 10000 1581 [some (.ref b), some (.ref (hf_a g 0)), some (.ref (hf_a g 49)), some (.int (nI i))] []) : hl_W g p l e s m args below meth c 4 Q M 100 10000 1058 [some (.ref b), some (.ref (hf_a g 0)), some (.ref (hf_a g 49)), some (.int (nI i))] [] := by
  obtain ⟨r, M1, M2, h1, h2, hI⟩ := hst M hM (xs (i + 1)) (xs (i + 2))
  have kk := kk M2 hI
  refine hl_aload_n X dL_law_1058 rfl ?_
  refine hl_aload_n X dL_law_1059 rfl ?_
  refine hl_iload_n X dL_law_1060 rfl ?_
  refine hl_iconst X 1 dL_law_1061 (by decide) ?_
  refine hl_iadd X dL_law_1062 ?_
  refine hl_xld X hX (i + 1) (by omega) hL (nI_add i 1) dL_law_1063 ?_
  refine hl_aload_n X dL_law_1064 rfl ?_
  refine hl_iload_n X dL_law_1065 rfl ?_
  refine hl_iconst X 2 dL_law_1066 (by decide) ?_
  refine hl_iadd X dL_law_1067 ?_
  refine hl_xld X hX (i + 2) (by omega) hL (nI_add i 2) dL_law_1068 ?_
  refine hl_cvI X [.int (xs (i + 1)), .int (xs (i + 2))] [] (c_X4_worst (by decide : 0 < 69) rfl (xs (i + 1)) (xs (i + 2)) M) h1 lk_RL_129 rfl rfl rfl (by decide : 0 < 69) rfl ⟨by decide, rfl⟩ (by decide) (Nat.le_of_ble_eq_true rfl) ⟨by decide, by decide⟩ dL_law_1069 ?_
  refine hl_aload_n X dL_law_1072 rfl ?_
  refine hl_aload_n X dL_law_1073 rfl ?_
  refine hl_iload_n X dL_law_1074 rfl ?_
  refine hl_iconst X 1 dL_law_1075 (by decide) ?_
  refine hl_iadd X dL_law_1076 ?_
  refine hl_xld X hX (i + 1) (by omega) hL (nI_add i 1) dL_law_1077 ?_
  refine hl_aload_n X dL_law_1078 rfl ?_
  refine hl_iload_n X dL_law_1079 rfl ?_
  refine hl_iconst X 2 dL_law_1080 (by decide) ?_
  refine hl_iadd X dL_law_1081 ?_
  refine hl_xld X hX (i + 2) (by omega) hL (nI_add i 2) dL_law_1082 ?_
  refine hl_cvI X [.int (xs (i + 1)), .int (xs (i + 2))] [.int r] (c_X5_worst (by decide : 49 < 69) rfl (xs (i + 1)) (xs (i + 2)) M1) h2 lk_RL_132 rfl rfl rfl (by decide : 49 < 69) rfl ⟨by decide, rfl⟩ (by decide) (Nat.le_of_ble_eq_true rfl) ⟨by decide, by decide⟩ dL_law_1083 ?_
  refine hl_icmp_eq_T X 1581 rfl dL_law_1086 rfl ?_
  exact kk
/-- next: both answer alike, and the invariant stays -/
def hs_next (Inv : hf_M → Prop) : Prop := ∀ M : hf_M, Inv M → ∃ (r : Int32) (M1 M2 : hf_M), s_X4_next 0  M = some (r, M1) ∧ s_X5_next 49  M1 = some (r, M2) ∧ Inv M2
set_option maxRecDepth 100000 in
set_option maxHeartbeats 4000000 in
theorem hl_case_next {g : hf_G} {p : Program} {l : Launch} {e : Env} {s : State} {m : MethodId} {args : Array Value} {below : List Frame} {meth : Method} {c : Code} {Q : State → Prop} (X : hf_X g p s m args meth c cL_law 4 RL ret) {b Lx i : Nat} {xs : Nat → Int32} (hX : va_X b Lx xs s s.heap ∧ b < s.heap.size ∧ ¬ hf_A g b) (hL : Lx ≤ 3072) (hi : i + 6 ≤ Lx) {Inv : hf_M → Prop} (hst : hs_next Inv) (M : hf_M) (hM : Inv M) (kk : ∀ M2, Inv M2 → hl_W g p l e s m args below meth c 4 Q M2 100 10000 1581 [some (.ref b), some (.ref (hf_a g 0)), some (.ref (hf_a g 49)), some (.int (nI i))] []) : hl_W g p l e s m args below meth c 4 Q M 100 10000 1091 [some (.ref b), some (.ref (hf_a g 0)), some (.ref (hf_a g 49)), some (.int (nI i))] [] := by
  obtain ⟨r, M1, M2, h1, h2, hI⟩ := hst M hM 
  have kk := kk M2 hI
  refine hl_aload_n X dL_law_1091 rfl ?_
  refine hl_cvI X [] [] (c_X4_next (by decide : 0 < 69) rfl  M) h1 lk_RL_133 rfl rfl rfl (by decide : 0 < 69) rfl ⟨by decide, rfl⟩ (by decide) (Nat.le_of_ble_eq_true rfl) ⟨by decide, by decide⟩ dL_law_1092 ?_
  refine hl_aload_n X dL_law_1095 rfl ?_
  refine hl_cvI X [] [.int r] (c_X5_next (by decide : 49 < 69) rfl  M1) h2 lk_RL_136 rfl rfl rfl (by decide : 49 < 69) rfl ⟨by decide, rfl⟩ (by decide) (Nat.le_of_ble_eq_true rfl) ⟨by decide, by decide⟩ dL_law_1096 ?_
  refine hl_icmp_eq_T X 1581 rfl dL_law_1099 rfl ?_
  exact kk
/-- knows: both answer alike, and the invariant stays -/
def hs_knows (Inv : hf_M → Prop) : Prop := ∀ M : hf_M, Inv M → ∀ (a1 : Int32) (a2 : Int32), ∃ (r : Int32) (M1 M2 : hf_M), s_X4_knows 0 a1 a2 M = some (r, M1) ∧ s_X5_knows 49 a1 a2 M1 = some (r, M2) ∧ Inv M2
set_option maxRecDepth 100000 in
set_option maxHeartbeats 4000000 in
theorem hl_case_knows {g : hf_G} {p : Program} {l : Launch} {e : Env} {s : State} {m : MethodId} {args : Array Value} {below : List Frame} {meth : Method} {c : Code} {Q : State → Prop} (X : hf_X g p s m args meth c cL_law 4 RL ret) {b Lx i : Nat} {xs : Nat → Int32} (hX : va_X b Lx xs s s.heap ∧ b < s.heap.size ∧ ¬ hf_A g b) (hL : Lx ≤ 3072) (hi : i + 6 ≤ Lx) {Inv : hf_M → Prop} (hst : hs_knows Inv) (M : hf_M) (hM : Inv M) (kk : ∀ M2, Inv M2 → hl_W g p l e s m args below meth c 4 Q M2 100 10000 1581 [some (.ref b), some (.ref (hf_a g 0)), some (.ref (hf_a g 49)), some (.int (nI i))] []) : hl_W g p l e s m args below meth c 4 Q M 100 10000 1104 [some (.ref b), some (.ref (hf_a g 0)), some (.ref (hf_a g 49)), some (.int (nI i))] [] := by
  obtain ⟨r, M1, M2, h1, h2, hI⟩ := hst M hM (xs (i + 1)) (xs (i + 2))
  have kk := kk M2 hI
  refine hl_aload_n X dL_law_1104 rfl ?_
  refine hl_aload_n X dL_law_1105 rfl ?_
  refine hl_iload_n X dL_law_1106 rfl ?_
  refine hl_iconst X 1 dL_law_1107 (by decide) ?_
  refine hl_iadd X dL_law_1108 ?_
  refine hl_xld X hX (i + 1) (by omega) hL (nI_add i 1) dL_law_1109 ?_
  refine hl_aload_n X dL_law_1110 rfl ?_
  refine hl_iload_n X dL_law_1111 rfl ?_
  refine hl_iconst X 2 dL_law_1112 (by decide) ?_
  refine hl_iadd X dL_law_1113 ?_
  refine hl_xld X hX (i + 2) (by omega) hL (nI_add i 2) dL_law_1114 ?_
  refine hl_cvI X [.int (xs (i + 1)), .int (xs (i + 2))] [] (c_X4_knows (by decide : 0 < 69) rfl (xs (i + 1)) (xs (i + 2)) M) h1 lk_RL_137 rfl rfl rfl (by decide : 0 < 69) rfl ⟨by decide, rfl⟩ (by decide) (Nat.le_of_ble_eq_true rfl) ⟨by decide, by decide⟩ dL_law_1115 ?_
  refine hl_aload_n X dL_law_1118 rfl ?_
  refine hl_aload_n X dL_law_1119 rfl ?_
  refine hl_iload_n X dL_law_1120 rfl ?_
  refine hl_iconst X 1 dL_law_1121 (by decide) ?_
  refine hl_iadd X dL_law_1122 ?_
  refine hl_xld X hX (i + 1) (by omega) hL (nI_add i 1) dL_law_1123 ?_
  refine hl_aload_n X dL_law_1124 rfl ?_
  refine hl_iload_n X dL_law_1125 rfl ?_
  refine hl_iconst X 2 dL_law_1126 (by decide) ?_
  refine hl_iadd X dL_law_1127 ?_
  refine hl_xld X hX (i + 2) (by omega) hL (nI_add i 2) dL_law_1128 ?_
  refine hl_cvI X [.int (xs (i + 1)), .int (xs (i + 2))] [.int r] (c_X5_knows (by decide : 49 < 69) rfl (xs (i + 1)) (xs (i + 2)) M1) h2 lk_RL_140 rfl rfl rfl (by decide : 49 < 69) rfl ⟨by decide, rfl⟩ (by decide) (Nat.le_of_ble_eq_true rfl) ⟨by decide, by decide⟩ dL_law_1129 ?_
  refine hl_icmp_eq_T X 1581 rfl dL_law_1132 rfl ?_
  exact kk
/-- tree: both answer alike, and the invariant stays -/
def hs_tree (Inv : hf_M → Prop) : Prop := ∀ M : hf_M, Inv M → ∀ (a1 : Int32), ∃ (r : Int32) (M1 M2 : hf_M), s_X4_tree 0 a1 M = some (r, M1) ∧ s_X5_tree 49 a1 M1 = some (r, M2) ∧ Inv M2
set_option maxRecDepth 100000 in
set_option maxHeartbeats 4000000 in
theorem hl_case_tree {g : hf_G} {p : Program} {l : Launch} {e : Env} {s : State} {m : MethodId} {args : Array Value} {below : List Frame} {meth : Method} {c : Code} {Q : State → Prop} (X : hf_X g p s m args meth c cL_law 4 RL ret) {b Lx i : Nat} {xs : Nat → Int32} (hX : va_X b Lx xs s s.heap ∧ b < s.heap.size ∧ ¬ hf_A g b) (hL : Lx ≤ 3072) (hi : i + 6 ≤ Lx) {Inv : hf_M → Prop} (hst : hs_tree Inv) (M : hf_M) (hM : Inv M) (kk : ∀ M2, Inv M2 → hl_W g p l e s m args below meth c 4 Q M2 100 10000 1581 [some (.ref b), some (.ref (hf_a g 0)), some (.ref (hf_a g 49)), some (.int (nI i))] []) : hl_W g p l e s m args below meth c 4 Q M 100 10000 1137 [some (.ref b), some (.ref (hf_a g 0)), some (.ref (hf_a g 49)), some (.int (nI i))] [] := by
  obtain ⟨r, M1, M2, h1, h2, hI⟩ := hst M hM (xs (i + 1))
  have kk := kk M2 hI
  refine hl_aload_n X dL_law_1137 rfl ?_
  refine hl_aload_n X dL_law_1138 rfl ?_
  refine hl_iload_n X dL_law_1139 rfl ?_
  refine hl_iconst X 1 dL_law_1140 (by decide) ?_
  refine hl_iadd X dL_law_1141 ?_
  refine hl_xld X hX (i + 1) (by omega) hL (nI_add i 1) dL_law_1142 ?_
  refine hl_cvI X [.int (xs (i + 1))] [] (c_X4_tree (by decide : 0 < 69) rfl (xs (i + 1)) M) h1 lk_RL_141 rfl rfl rfl (by decide : 0 < 69) rfl ⟨by decide, rfl⟩ (by decide) (Nat.le_of_ble_eq_true rfl) ⟨by decide, by decide⟩ dL_law_1143 ?_
  refine hl_aload_n X dL_law_1146 rfl ?_
  refine hl_aload_n X dL_law_1147 rfl ?_
  refine hl_iload_n X dL_law_1148 rfl ?_
  refine hl_iconst X 1 dL_law_1149 (by decide) ?_
  refine hl_iadd X dL_law_1150 ?_
  refine hl_xld X hX (i + 1) (by omega) hL (nI_add i 1) dL_law_1151 ?_
  refine hl_cvI X [.int (xs (i + 1))] [.int r] (c_X5_tree (by decide : 49 < 69) rfl (xs (i + 1)) M1) h2 lk_RL_144 rfl rfl rfl (by decide : 49 < 69) rfl ⟨by decide, rfl⟩ (by decide) (Nat.le_of_ble_eq_true rfl) ⟨by decide, by decide⟩ dL_law_1152 ?_
  refine hl_icmp_eq_T X 1581 rfl dL_law_1155 rfl ?_
  exact kk
/-- rows: both answer alike, and the invariant stays -/
def hs_rows (Inv : hf_M → Prop) : Prop := ∀ M : hf_M, Inv M → ∀ (a1 : Int32) (a2 : Int32), ∃ (r : Int32) (M1 M2 : hf_M), s_X4_rows 0 a1 a2 M = some (r, M1) ∧ s_X5_rows 49 a1 a2 M1 = some (r, M2) ∧ Inv M2
set_option maxRecDepth 100000 in
set_option maxHeartbeats 4000000 in
theorem hl_case_rows {g : hf_G} {p : Program} {l : Launch} {e : Env} {s : State} {m : MethodId} {args : Array Value} {below : List Frame} {meth : Method} {c : Code} {Q : State → Prop} (X : hf_X g p s m args meth c cL_law 4 RL ret) {b Lx i : Nat} {xs : Nat → Int32} (hX : va_X b Lx xs s s.heap ∧ b < s.heap.size ∧ ¬ hf_A g b) (hL : Lx ≤ 3072) (hi : i + 6 ≤ Lx) {Inv : hf_M → Prop} (hst : hs_rows Inv) (M : hf_M) (hM : Inv M) (kk : ∀ M2, Inv M2 → hl_W g p l e s m args below meth c 4 Q M2 100 10000 1581 [some (.ref b), some (.ref (hf_a g 0)), some (.ref (hf_a g 49)), some (.int (nI i))] []) : hl_W g p l e s m args below meth c 4 Q M 100 10000 1160 [some (.ref b), some (.ref (hf_a g 0)), some (.ref (hf_a g 49)), some (.int (nI i))] [] := by
  obtain ⟨r, M1, M2, h1, h2, hI⟩ := hst M hM (xs (i + 1)) (xs (i + 2))
  have kk := kk M2 hI
  refine hl_aload_n X dL_law_1160 rfl ?_
  refine hl_aload_n X dL_law_1161 rfl ?_
  refine hl_iload_n X dL_law_1162 rfl ?_
  refine hl_iconst X 1 dL_law_1163 (by decide) ?_
  refine hl_iadd X dL_law_1164 ?_
  refine hl_xld X hX (i + 1) (by omega) hL (nI_add i 1) dL_law_1165 ?_
  refine hl_aload_n X dL_law_1166 rfl ?_
  refine hl_iload_n X dL_law_1167 rfl ?_
  refine hl_iconst X 2 dL_law_1168 (by decide) ?_
  refine hl_iadd X dL_law_1169 ?_
  refine hl_xld X hX (i + 2) (by omega) hL (nI_add i 2) dL_law_1170 ?_
  refine hl_cvI X [.int (xs (i + 1)), .int (xs (i + 2))] [] (c_X4_rows (by decide : 0 < 69) rfl (xs (i + 1)) (xs (i + 2)) M) h1 lk_RL_145 rfl rfl rfl (by decide : 0 < 69) rfl ⟨by decide, rfl⟩ (by decide) (Nat.le_of_ble_eq_true rfl) ⟨by decide, by decide⟩ dL_law_1171 ?_
  refine hl_aload_n X dL_law_1174 rfl ?_
  refine hl_aload_n X dL_law_1175 rfl ?_
  refine hl_iload_n X dL_law_1176 rfl ?_
  refine hl_iconst X 1 dL_law_1177 (by decide) ?_
  refine hl_iadd X dL_law_1178 ?_
  refine hl_xld X hX (i + 1) (by omega) hL (nI_add i 1) dL_law_1179 ?_
  refine hl_aload_n X dL_law_1180 rfl ?_
  refine hl_iload_n X dL_law_1181 rfl ?_
  refine hl_iconst X 2 dL_law_1182 (by decide) ?_
  refine hl_iadd X dL_law_1183 ?_
  refine hl_xld X hX (i + 2) (by omega) hL (nI_add i 2) dL_law_1184 ?_
  refine hl_cvI X [.int (xs (i + 1)), .int (xs (i + 2))] [.int r] (c_X5_rows (by decide : 49 < 69) rfl (xs (i + 1)) (xs (i + 2)) M1) h2 lk_RL_148 rfl rfl rfl (by decide : 49 < 69) rfl ⟨by decide, rfl⟩ (by decide) (Nat.le_of_ble_eq_true rfl) ⟨by decide, by decide⟩ dL_law_1185 ?_
  refine hl_icmp_eq_T X 1581 rfl dL_law_1188 rfl ?_
  exact kk
/-- tells: both answer alike, and the invariant stays -/
def hs_tells (Inv : hf_M → Prop) : Prop := ∀ M : hf_M, Inv M → ∀ (a1 : Int32) (a2 : Int32), ∃ (r : Int32) (M1 M2 : hf_M), s_X4_tells 0 a1 a2 M = some (r, M1) ∧ s_X5_tells 49 a1 a2 M1 = some (r, M2) ∧ Inv M2
set_option maxRecDepth 100000 in
set_option maxHeartbeats 4000000 in
theorem hl_case_tells {g : hf_G} {p : Program} {l : Launch} {e : Env} {s : State} {m : MethodId} {args : Array Value} {below : List Frame} {meth : Method} {c : Code} {Q : State → Prop} (X : hf_X g p s m args meth c cL_law 4 RL ret) {b Lx i : Nat} {xs : Nat → Int32} (hX : va_X b Lx xs s s.heap ∧ b < s.heap.size ∧ ¬ hf_A g b) (hL : Lx ≤ 3072) (hi : i + 6 ≤ Lx) {Inv : hf_M → Prop} (hst : hs_tells Inv) (M : hf_M) (hM : Inv M) (kk : ∀ M2, Inv M2 → hl_W g p l e s m args below meth c 4 Q M2 100 10000 1581 [some (.ref b), some (.ref (hf_a g 0)), some (.ref (hf_a g 49)), some (.int (nI i))] []) : hl_W g p l e s m args below meth c 4 Q M 100 10000 1193 [some (.ref b), some (.ref (hf_a g 0)), some (.ref (hf_a g 49)), some (.int (nI i))] [] := by
  obtain ⟨r, M1, M2, h1, h2, hI⟩ := hst M hM (xs (i + 1)) (xs (i + 2))
  have kk := kk M2 hI
  refine hl_aload_n X dL_law_1193 rfl ?_
  refine hl_aload_n X dL_law_1194 rfl ?_
  refine hl_iload_n X dL_law_1195 rfl ?_
  refine hl_iconst X 1 dL_law_1196 (by decide) ?_
  refine hl_iadd X dL_law_1197 ?_
  refine hl_xld X hX (i + 1) (by omega) hL (nI_add i 1) dL_law_1198 ?_
  refine hl_aload_n X dL_law_1199 rfl ?_
  refine hl_iload_n X dL_law_1200 rfl ?_
  refine hl_iconst X 2 dL_law_1201 (by decide) ?_
  refine hl_iadd X dL_law_1202 ?_
  refine hl_xld X hX (i + 2) (by omega) hL (nI_add i 2) dL_law_1203 ?_
  refine hl_cvI X [.int (xs (i + 1)), .int (xs (i + 2))] [] (c_X4_tells (by decide : 0 < 69) rfl (xs (i + 1)) (xs (i + 2)) M) h1 lk_RL_149 rfl rfl rfl (by decide : 0 < 69) rfl ⟨by decide, rfl⟩ (by decide) (Nat.le_of_ble_eq_true rfl) ⟨by decide, by decide⟩ dL_law_1204 ?_
  refine hl_aload_n X dL_law_1207 rfl ?_
  refine hl_aload_n X dL_law_1208 rfl ?_
  refine hl_iload_n X dL_law_1209 rfl ?_
  refine hl_iconst X 1 dL_law_1210 (by decide) ?_
  refine hl_iadd X dL_law_1211 ?_
  refine hl_xld X hX (i + 1) (by omega) hL (nI_add i 1) dL_law_1212 ?_
  refine hl_aload_n X dL_law_1213 rfl ?_
  refine hl_iload_n X dL_law_1214 rfl ?_
  refine hl_iconst X 2 dL_law_1215 (by decide) ?_
  refine hl_iadd X dL_law_1216 ?_
  refine hl_xld X hX (i + 2) (by omega) hL (nI_add i 2) dL_law_1217 ?_
  refine hl_cvI X [.int (xs (i + 1)), .int (xs (i + 2))] [.int r] (c_X5_tells (by decide : 49 < 69) rfl (xs (i + 1)) (xs (i + 2)) M1) h2 lk_RL_152 rfl rfl rfl (by decide : 49 < 69) rfl ⟨by decide, rfl⟩ (by decide) (Nat.le_of_ble_eq_true rfl) ⟨by decide, by decide⟩ dL_law_1218 ?_
  refine hl_icmp_eq_T X 1581 rfl dL_law_1221 rfl ?_
  exact kk
/-- errands: both answer alike, and the invariant stays -/
def hs_errands (Inv : hf_M → Prop) : Prop := ∀ M : hf_M, Inv M → ∀ (a1 : Int32) (a2 : Int32), ∃ (r : Int32) (M1 M2 : hf_M), s_X4_errands 0 a1 a2 M = some (r, M1) ∧ s_X5_errands 49 a1 a2 M1 = some (r, M2) ∧ Inv M2
set_option maxRecDepth 100000 in
set_option maxHeartbeats 4000000 in
theorem hl_case_errands {g : hf_G} {p : Program} {l : Launch} {e : Env} {s : State} {m : MethodId} {args : Array Value} {below : List Frame} {meth : Method} {c : Code} {Q : State → Prop} (X : hf_X g p s m args meth c cL_law 4 RL ret) {b Lx i : Nat} {xs : Nat → Int32} (hX : va_X b Lx xs s s.heap ∧ b < s.heap.size ∧ ¬ hf_A g b) (hL : Lx ≤ 3072) (hi : i + 6 ≤ Lx) {Inv : hf_M → Prop} (hst : hs_errands Inv) (M : hf_M) (hM : Inv M) (kk : ∀ M2, Inv M2 → hl_W g p l e s m args below meth c 4 Q M2 100 10000 1581 [some (.ref b), some (.ref (hf_a g 0)), some (.ref (hf_a g 49)), some (.int (nI i))] []) : hl_W g p l e s m args below meth c 4 Q M 100 10000 1226 [some (.ref b), some (.ref (hf_a g 0)), some (.ref (hf_a g 49)), some (.int (nI i))] [] := by
  obtain ⟨r, M1, M2, h1, h2, hI⟩ := hst M hM (xs (i + 1)) (xs (i + 2))
  have kk := kk M2 hI
  refine hl_aload_n X dL_law_1226 rfl ?_
  refine hl_aload_n X dL_law_1227 rfl ?_
  refine hl_iload_n X dL_law_1228 rfl ?_
  refine hl_iconst X 1 dL_law_1229 (by decide) ?_
  refine hl_iadd X dL_law_1230 ?_
  refine hl_xld X hX (i + 1) (by omega) hL (nI_add i 1) dL_law_1231 ?_
  refine hl_aload_n X dL_law_1232 rfl ?_
  refine hl_iload_n X dL_law_1233 rfl ?_
  refine hl_iconst X 2 dL_law_1234 (by decide) ?_
  refine hl_iadd X dL_law_1235 ?_
  refine hl_xld X hX (i + 2) (by omega) hL (nI_add i 2) dL_law_1236 ?_
  refine hl_cvI X [.int (xs (i + 1)), .int (xs (i + 2))] [] (c_X4_errands (by decide : 0 < 69) rfl (xs (i + 1)) (xs (i + 2)) M) h1 lk_RL_153 rfl rfl rfl (by decide : 0 < 69) rfl ⟨by decide, rfl⟩ (by decide) (Nat.le_of_ble_eq_true rfl) ⟨by decide, by decide⟩ dL_law_1237 ?_
  refine hl_aload_n X dL_law_1240 rfl ?_
  refine hl_aload_n X dL_law_1241 rfl ?_
  refine hl_iload_n X dL_law_1242 rfl ?_
  refine hl_iconst X 1 dL_law_1243 (by decide) ?_
  refine hl_iadd X dL_law_1244 ?_
  refine hl_xld X hX (i + 1) (by omega) hL (nI_add i 1) dL_law_1245 ?_
  refine hl_aload_n X dL_law_1246 rfl ?_
  refine hl_iload_n X dL_law_1247 rfl ?_
  refine hl_iconst X 2 dL_law_1248 (by decide) ?_
  refine hl_iadd X dL_law_1249 ?_
  refine hl_xld X hX (i + 2) (by omega) hL (nI_add i 2) dL_law_1250 ?_
  refine hl_cvI X [.int (xs (i + 1)), .int (xs (i + 2))] [.int r] (c_X5_errands (by decide : 49 < 69) rfl (xs (i + 1)) (xs (i + 2)) M1) h2 lk_RL_156 rfl rfl rfl (by decide : 49 < 69) rfl ⟨by decide, rfl⟩ (by decide) (Nat.le_of_ble_eq_true rfl) ⟨by decide, by decide⟩ dL_law_1251 ?_
  refine hl_icmp_eq_T X 1581 rfl dL_law_1254 rfl ?_
  exact kk
/-- placed: both answer alike, and the invariant stays -/
def hs_placed (Inv : hf_M → Prop) : Prop := ∀ M : hf_M, Inv M → ∀ (a1 : Int32) (a2 : Int32), ∃ (r : Int32) (M1 M2 : hf_M), s_X4_placed 0 a1 a2 M = some (r, M1) ∧ s_X5_placed 49 a1 a2 M1 = some (r, M2) ∧ Inv M2
set_option maxRecDepth 100000 in
set_option maxHeartbeats 4000000 in
theorem hl_case_placed {g : hf_G} {p : Program} {l : Launch} {e : Env} {s : State} {m : MethodId} {args : Array Value} {below : List Frame} {meth : Method} {c : Code} {Q : State → Prop} (X : hf_X g p s m args meth c cL_law 4 RL ret) {b Lx i : Nat} {xs : Nat → Int32} (hX : va_X b Lx xs s s.heap ∧ b < s.heap.size ∧ ¬ hf_A g b) (hL : Lx ≤ 3072) (hi : i + 6 ≤ Lx) {Inv : hf_M → Prop} (hst : hs_placed Inv) (M : hf_M) (hM : Inv M) (kk : ∀ M2, Inv M2 → hl_W g p l e s m args below meth c 4 Q M2 100 10000 1581 [some (.ref b), some (.ref (hf_a g 0)), some (.ref (hf_a g 49)), some (.int (nI i))] []) : hl_W g p l e s m args below meth c 4 Q M 100 10000 1259 [some (.ref b), some (.ref (hf_a g 0)), some (.ref (hf_a g 49)), some (.int (nI i))] [] := by
  obtain ⟨r, M1, M2, h1, h2, hI⟩ := hst M hM (xs (i + 1)) (xs (i + 2))
  have kk := kk M2 hI
  refine hl_aload_n X dL_law_1259 rfl ?_
  refine hl_aload_n X dL_law_1260 rfl ?_
  refine hl_iload_n X dL_law_1261 rfl ?_
  refine hl_iconst X 1 dL_law_1262 (by decide) ?_
  refine hl_iadd X dL_law_1263 ?_
  refine hl_xld X hX (i + 1) (by omega) hL (nI_add i 1) dL_law_1264 ?_
  refine hl_aload_n X dL_law_1265 rfl ?_
  refine hl_iload_n X dL_law_1266 rfl ?_
  refine hl_iconst X 2 dL_law_1267 (by decide) ?_
  refine hl_iadd X dL_law_1268 ?_
  refine hl_xld X hX (i + 2) (by omega) hL (nI_add i 2) dL_law_1269 ?_
  refine hl_cvI X [.int (xs (i + 1)), .int (xs (i + 2))] [] (c_X4_placed (by decide : 0 < 69) rfl (xs (i + 1)) (xs (i + 2)) M) h1 lk_RL_157 rfl rfl rfl (by decide : 0 < 69) rfl ⟨by decide, rfl⟩ (by decide) (Nat.le_of_ble_eq_true rfl) ⟨by decide, by decide⟩ dL_law_1270 ?_
  refine hl_aload_n X dL_law_1273 rfl ?_
  refine hl_aload_n X dL_law_1274 rfl ?_
  refine hl_iload_n X dL_law_1275 rfl ?_
  refine hl_iconst X 1 dL_law_1276 (by decide) ?_
  refine hl_iadd X dL_law_1277 ?_
  refine hl_xld X hX (i + 1) (by omega) hL (nI_add i 1) dL_law_1278 ?_
  refine hl_aload_n X dL_law_1279 rfl ?_
  refine hl_iload_n X dL_law_1280 rfl ?_
  refine hl_iconst X 2 dL_law_1281 (by decide) ?_
  refine hl_iadd X dL_law_1282 ?_
  refine hl_xld X hX (i + 2) (by omega) hL (nI_add i 2) dL_law_1283 ?_
  refine hl_cvI X [.int (xs (i + 1)), .int (xs (i + 2))] [.int r] (c_X5_placed (by decide : 49 < 69) rfl (xs (i + 1)) (xs (i + 2)) M1) h2 lk_RL_160 rfl rfl rfl (by decide : 49 < 69) rfl ⟨by decide, rfl⟩ (by decide) (Nat.le_of_ble_eq_true rfl) ⟨by decide, by decide⟩ dL_law_1284 ?_
  refine hl_icmp_eq_T X 1581 rfl dL_law_1287 rfl ?_
  exact kk
/-- trust: both answer alike, and the invariant stays -/
def hs_trust (Inv : hf_M → Prop) : Prop := ∀ M : hf_M, Inv M → ∀ (a1 : Int32), ∃ (r : Int32) (M1 M2 : hf_M), s_X4_trust 0 a1 M = some (r, M1) ∧ s_X5_trust 49 a1 M1 = some (r, M2) ∧ Inv M2
set_option maxRecDepth 100000 in
set_option maxHeartbeats 4000000 in
theorem hl_case_trust {g : hf_G} {p : Program} {l : Launch} {e : Env} {s : State} {m : MethodId} {args : Array Value} {below : List Frame} {meth : Method} {c : Code} {Q : State → Prop} (X : hf_X g p s m args meth c cL_law 4 RL ret) {b Lx i : Nat} {xs : Nat → Int32} (hX : va_X b Lx xs s s.heap ∧ b < s.heap.size ∧ ¬ hf_A g b) (hL : Lx ≤ 3072) (hi : i + 6 ≤ Lx) {Inv : hf_M → Prop} (hst : hs_trust Inv) (M : hf_M) (hM : Inv M) (kk : ∀ M2, Inv M2 → hl_W g p l e s m args below meth c 4 Q M2 100 10000 1581 [some (.ref b), some (.ref (hf_a g 0)), some (.ref (hf_a g 49)), some (.int (nI i))] []) : hl_W g p l e s m args below meth c 4 Q M 100 10000 1292 [some (.ref b), some (.ref (hf_a g 0)), some (.ref (hf_a g 49)), some (.int (nI i))] [] := by
  obtain ⟨r, M1, M2, h1, h2, hI⟩ := hst M hM (xs (i + 1))
  have kk := kk M2 hI
  refine hl_aload_n X dL_law_1292 rfl ?_
  refine hl_aload_n X dL_law_1293 rfl ?_
  refine hl_iload_n X dL_law_1294 rfl ?_
  refine hl_iconst X 1 dL_law_1295 (by decide) ?_
  refine hl_iadd X dL_law_1296 ?_
  refine hl_xld X hX (i + 1) (by omega) hL (nI_add i 1) dL_law_1297 ?_
  refine hl_cvI X [.int (xs (i + 1))] [] (c_X4_trust (by decide : 0 < 69) rfl (xs (i + 1)) M) h1 lk_RL_161 rfl rfl rfl (by decide : 0 < 69) rfl ⟨by decide, rfl⟩ (by decide) (Nat.le_of_ble_eq_true rfl) ⟨by decide, by decide⟩ dL_law_1298 ?_
  refine hl_aload_n X dL_law_1301 rfl ?_
  refine hl_aload_n X dL_law_1302 rfl ?_
  refine hl_iload_n X dL_law_1303 rfl ?_
  refine hl_iconst X 1 dL_law_1304 (by decide) ?_
  refine hl_iadd X dL_law_1305 ?_
  refine hl_xld X hX (i + 1) (by omega) hL (nI_add i 1) dL_law_1306 ?_
  refine hl_cvI X [.int (xs (i + 1))] [.int r] (c_X5_trust (by decide : 49 < 69) rfl (xs (i + 1)) M1) h2 lk_RL_164 rfl rfl rfl (by decide : 49 < 69) rfl ⟨by decide, rfl⟩ (by decide) (Nat.le_of_ble_eq_true rfl) ⟨by decide, by decide⟩ dL_law_1307 ?_
  refine hl_icmp_eq_T X 1581 rfl dL_law_1310 rfl ?_
  exact kk
/-- witness: both answer alike, and the invariant stays -/
def hs_witness (Inv : hf_M → Prop) : Prop := ∀ M : hf_M, Inv M → ∃ (r : Int32) (M1 M2 : hf_M), s_X4_witness 0  M = some (r, M1) ∧ s_X5_witness 49  M1 = some (r, M2) ∧ Inv M2
set_option maxRecDepth 100000 in
set_option maxHeartbeats 4000000 in
theorem hl_case_witness {g : hf_G} {p : Program} {l : Launch} {e : Env} {s : State} {m : MethodId} {args : Array Value} {below : List Frame} {meth : Method} {c : Code} {Q : State → Prop} (X : hf_X g p s m args meth c cL_law 4 RL ret) {b Lx i : Nat} {xs : Nat → Int32} (hX : va_X b Lx xs s s.heap ∧ b < s.heap.size ∧ ¬ hf_A g b) (hL : Lx ≤ 3072) (hi : i + 6 ≤ Lx) {Inv : hf_M → Prop} (hst : hs_witness Inv) (M : hf_M) (hM : Inv M) (kk : ∀ M2, Inv M2 → hl_W g p l e s m args below meth c 4 Q M2 100 10000 1581 [some (.ref b), some (.ref (hf_a g 0)), some (.ref (hf_a g 49)), some (.int (nI i))] []) : hl_W g p l e s m args below meth c 4 Q M 100 10000 1315 [some (.ref b), some (.ref (hf_a g 0)), some (.ref (hf_a g 49)), some (.int (nI i))] [] := by
  obtain ⟨r, M1, M2, h1, h2, hI⟩ := hst M hM 
  have kk := kk M2 hI
  refine hl_aload_n X dL_law_1315 rfl ?_
  refine hl_cvI X [] [] (c_X4_witness (by decide : 0 < 69) rfl  M) h1 lk_RL_165 rfl rfl rfl (by decide : 0 < 69) rfl ⟨by decide, rfl⟩ (by decide) (Nat.le_of_ble_eq_true rfl) ⟨by decide, by decide⟩ dL_law_1316 ?_
  refine hl_aload_n X dL_law_1319 rfl ?_
  refine hl_cvI X [] [.int r] (c_X5_witness (by decide : 49 < 69) rfl  M1) h2 lk_RL_168 rfl rfl rfl (by decide : 49 < 69) rfl ⟨by decide, rfl⟩ (by decide) (Nat.le_of_ble_eq_true rfl) ⟨by decide, by decide⟩ dL_law_1320 ?_
  refine hl_icmp_eq_T X 1581 rfl dL_law_1323 rfl ?_
  exact kk
/-- judge: both answer alike, and the invariant stays -/
def hs_judge (Inv : hf_M → Prop) : Prop := ∀ M : hf_M, Inv M → ∀ (a1 : Int32) (a2 : Int32), ∃ (r : Int32) (M1 M2 : hf_M), s_X4_judge 0 a1 a2 M = some (r, M1) ∧ s_X5_judge 49 a1 a2 M1 = some (r, M2) ∧ Inv M2
set_option maxRecDepth 100000 in
set_option maxHeartbeats 4000000 in
theorem hl_case_judge {g : hf_G} {p : Program} {l : Launch} {e : Env} {s : State} {m : MethodId} {args : Array Value} {below : List Frame} {meth : Method} {c : Code} {Q : State → Prop} (X : hf_X g p s m args meth c cL_law 4 RL ret) {b Lx i : Nat} {xs : Nat → Int32} (hX : va_X b Lx xs s s.heap ∧ b < s.heap.size ∧ ¬ hf_A g b) (hL : Lx ≤ 3072) (hi : i + 6 ≤ Lx) {Inv : hf_M → Prop} (hst : hs_judge Inv) (M : hf_M) (hM : Inv M) (kk : ∀ M2, Inv M2 → hl_W g p l e s m args below meth c 4 Q M2 100 10000 1581 [some (.ref b), some (.ref (hf_a g 0)), some (.ref (hf_a g 49)), some (.int (nI i))] []) : hl_W g p l e s m args below meth c 4 Q M 100 10000 1328 [some (.ref b), some (.ref (hf_a g 0)), some (.ref (hf_a g 49)), some (.int (nI i))] [] := by
  obtain ⟨r, M1, M2, h1, h2, hI⟩ := hst M hM (xs (i + 1)) (xs (i + 2))
  have kk := kk M2 hI
  refine hl_aload_n X dL_law_1328 rfl ?_
  refine hl_aload_n X dL_law_1329 rfl ?_
  refine hl_iload_n X dL_law_1330 rfl ?_
  refine hl_iconst X 1 dL_law_1331 (by decide) ?_
  refine hl_iadd X dL_law_1332 ?_
  refine hl_xld X hX (i + 1) (by omega) hL (nI_add i 1) dL_law_1333 ?_
  refine hl_aload_n X dL_law_1334 rfl ?_
  refine hl_iload_n X dL_law_1335 rfl ?_
  refine hl_iconst X 2 dL_law_1336 (by decide) ?_
  refine hl_iadd X dL_law_1337 ?_
  refine hl_xld X hX (i + 2) (by omega) hL (nI_add i 2) dL_law_1338 ?_
  refine hl_cvI X [.int (xs (i + 1)), .int (xs (i + 2))] [] (c_X4_judge (by decide : 0 < 69) rfl (xs (i + 1)) (xs (i + 2)) M) h1 lk_RL_169 rfl rfl rfl (by decide : 0 < 69) rfl ⟨by decide, rfl⟩ (by decide) (Nat.le_of_ble_eq_true rfl) ⟨by decide, by decide⟩ dL_law_1339 ?_
  refine hl_aload_n X dL_law_1342 rfl ?_
  refine hl_aload_n X dL_law_1343 rfl ?_
  refine hl_iload_n X dL_law_1344 rfl ?_
  refine hl_iconst X 1 dL_law_1345 (by decide) ?_
  refine hl_iadd X dL_law_1346 ?_
  refine hl_xld X hX (i + 1) (by omega) hL (nI_add i 1) dL_law_1347 ?_
  refine hl_aload_n X dL_law_1348 rfl ?_
  refine hl_iload_n X dL_law_1349 rfl ?_
  refine hl_iconst X 2 dL_law_1350 (by decide) ?_
  refine hl_iadd X dL_law_1351 ?_
  refine hl_xld X hX (i + 2) (by omega) hL (nI_add i 2) dL_law_1352 ?_
  refine hl_cvI X [.int (xs (i + 1)), .int (xs (i + 2))] [.int r] (c_X5_judge (by decide : 49 < 69) rfl (xs (i + 1)) (xs (i + 2)) M1) h2 lk_RL_172 rfl rfl rfl (by decide : 49 < 69) rfl ⟨by decide, rfl⟩ (by decide) (Nat.le_of_ble_eq_true rfl) ⟨by decide, by decide⟩ dL_law_1353 ?_
  refine hl_icmp_eq_T X 1581 rfl dL_law_1356 rfl ?_
  exact kk
/-- sunset: both answer alike, and the invariant stays -/
def hs_sunset (Inv : hf_M → Prop) : Prop := ∀ M : hf_M, Inv M → ∃ (r : Int32) (M1 M2 : hf_M), s_X4_sunset 0  M = some (r, M1) ∧ s_X5_sunset 49  M1 = some (r, M2) ∧ Inv M2
set_option maxRecDepth 100000 in
set_option maxHeartbeats 4000000 in
theorem hl_case_sunset {g : hf_G} {p : Program} {l : Launch} {e : Env} {s : State} {m : MethodId} {args : Array Value} {below : List Frame} {meth : Method} {c : Code} {Q : State → Prop} (X : hf_X g p s m args meth c cL_law 4 RL ret) {b Lx i : Nat} {xs : Nat → Int32} (hX : va_X b Lx xs s s.heap ∧ b < s.heap.size ∧ ¬ hf_A g b) (hL : Lx ≤ 3072) (hi : i + 6 ≤ Lx) {Inv : hf_M → Prop} (hst : hs_sunset Inv) (M : hf_M) (hM : Inv M) (kk : ∀ M2, Inv M2 → hl_W g p l e s m args below meth c 4 Q M2 100 10000 1581 [some (.ref b), some (.ref (hf_a g 0)), some (.ref (hf_a g 49)), some (.int (nI i))] []) : hl_W g p l e s m args below meth c 4 Q M 100 10000 1361 [some (.ref b), some (.ref (hf_a g 0)), some (.ref (hf_a g 49)), some (.int (nI i))] [] := by
  obtain ⟨r, M1, M2, h1, h2, hI⟩ := hst M hM 
  have kk := kk M2 hI
  refine hl_aload_n X dL_law_1361 rfl ?_
  refine hl_cvI X [] [] (c_X4_sunset (by decide : 0 < 69) rfl  M) h1 lk_RL_173 rfl rfl rfl (by decide : 0 < 69) rfl ⟨by decide, rfl⟩ (by decide) (Nat.le_of_ble_eq_true rfl) ⟨by decide, by decide⟩ dL_law_1362 ?_
  refine hl_aload_n X dL_law_1365 rfl ?_
  refine hl_cvI X [] [.int r] (c_X5_sunset (by decide : 49 < 69) rfl  M1) h2 lk_RL_176 rfl rfl rfl (by decide : 49 < 69) rfl ⟨by decide, rfl⟩ (by decide) (Nat.le_of_ble_eq_true rfl) ⟨by decide, by decide⟩ dL_law_1366 ?_
  refine hl_icmp_eq_T X 1581 rfl dL_law_1369 rfl ?_
  exact kk
/-- draw: both answer alike, and the invariant stays -/
def hs_draw (Inv : hf_M → Prop) : Prop := ∀ M : hf_M, Inv M → ∃ (r : Int32) (M1 M2 : hf_M), s_X4_draw 0  M = some (r, M1) ∧ s_X5_draw 49  M1 = some (r, M2) ∧ Inv M2
set_option maxRecDepth 100000 in
set_option maxHeartbeats 4000000 in
theorem hl_case_draw {g : hf_G} {p : Program} {l : Launch} {e : Env} {s : State} {m : MethodId} {args : Array Value} {below : List Frame} {meth : Method} {c : Code} {Q : State → Prop} (X : hf_X g p s m args meth c cL_law 4 RL ret) {b Lx i : Nat} {xs : Nat → Int32} (hX : va_X b Lx xs s s.heap ∧ b < s.heap.size ∧ ¬ hf_A g b) (hL : Lx ≤ 3072) (hi : i + 6 ≤ Lx) {Inv : hf_M → Prop} (hst : hs_draw Inv) (M : hf_M) (hM : Inv M) (kk : ∀ M2, Inv M2 → hl_W g p l e s m args below meth c 4 Q M2 100 10000 1581 [some (.ref b), some (.ref (hf_a g 0)), some (.ref (hf_a g 49)), some (.int (nI i))] []) : hl_W g p l e s m args below meth c 4 Q M 100 10000 1374 [some (.ref b), some (.ref (hf_a g 0)), some (.ref (hf_a g 49)), some (.int (nI i))] [] := by
  obtain ⟨r, M1, M2, h1, h2, hI⟩ := hst M hM 
  have kk := kk M2 hI
  refine hl_aload_n X dL_law_1374 rfl ?_
  refine hl_cvI X [] [] (c_X4_draw (by decide : 0 < 69) rfl  M) h1 lk_RL_177 rfl rfl rfl (by decide : 0 < 69) rfl ⟨by decide, rfl⟩ (by decide) (Nat.le_of_ble_eq_true rfl) ⟨by decide, by decide⟩ dL_law_1375 ?_
  refine hl_aload_n X dL_law_1378 rfl ?_
  refine hl_cvI X [] [.int r] (c_X5_draw (by decide : 49 < 69) rfl  M1) h2 lk_RL_180 rfl rfl rfl (by decide : 49 < 69) rfl ⟨by decide, rfl⟩ (by decide) (Nat.le_of_ble_eq_true rfl) ⟨by decide, by decide⟩ dL_law_1379 ?_
  refine hl_icmp_eq_T X 1581 rfl dL_law_1382 rfl ?_
  exact kk
/-- ask: both answer alike, and the invariant stays -/
def hs_ask (Inv : hf_M → Prop) : Prop := ∀ M : hf_M, Inv M → ∀ (a1 : Int32) (a2 : Int32), ∃ (r : Int32) (M1 M2 : hf_M), s_X4_ask 0 a1 a2 M = some (r, M1) ∧ s_X5_ask 49 a1 a2 M1 = some (r, M2) ∧ Inv M2
set_option maxRecDepth 100000 in
set_option maxHeartbeats 4000000 in
theorem hl_case_ask {g : hf_G} {p : Program} {l : Launch} {e : Env} {s : State} {m : MethodId} {args : Array Value} {below : List Frame} {meth : Method} {c : Code} {Q : State → Prop} (X : hf_X g p s m args meth c cL_law 4 RL ret) {b Lx i : Nat} {xs : Nat → Int32} (hX : va_X b Lx xs s s.heap ∧ b < s.heap.size ∧ ¬ hf_A g b) (hL : Lx ≤ 3072) (hi : i + 6 ≤ Lx) {Inv : hf_M → Prop} (hst : hs_ask Inv) (M : hf_M) (hM : Inv M) (kk : ∀ M2, Inv M2 → hl_W g p l e s m args below meth c 4 Q M2 100 10000 1581 [some (.ref b), some (.ref (hf_a g 0)), some (.ref (hf_a g 49)), some (.int (nI i))] []) : hl_W g p l e s m args below meth c 4 Q M 100 10000 1387 [some (.ref b), some (.ref (hf_a g 0)), some (.ref (hf_a g 49)), some (.int (nI i))] [] := by
  obtain ⟨r, M1, M2, h1, h2, hI⟩ := hst M hM (xs (i + 1)) (xs (i + 2))
  have kk := kk M2 hI
  refine hl_aload_n X dL_law_1387 rfl ?_
  refine hl_aload_n X dL_law_1388 rfl ?_
  refine hl_iload_n X dL_law_1389 rfl ?_
  refine hl_iconst X 1 dL_law_1390 (by decide) ?_
  refine hl_iadd X dL_law_1391 ?_
  refine hl_xld X hX (i + 1) (by omega) hL (nI_add i 1) dL_law_1392 ?_
  refine hl_aload_n X dL_law_1393 rfl ?_
  refine hl_iload_n X dL_law_1394 rfl ?_
  refine hl_iconst X 2 dL_law_1395 (by decide) ?_
  refine hl_iadd X dL_law_1396 ?_
  refine hl_xld X hX (i + 2) (by omega) hL (nI_add i 2) dL_law_1397 ?_
  refine hl_cvI X [.int (xs (i + 1)), .int (xs (i + 2))] [] (c_X4_ask (by decide : 0 < 69) rfl (xs (i + 1)) (xs (i + 2)) M) h1 lk_RL_181 rfl rfl rfl (by decide : 0 < 69) rfl ⟨by decide, rfl⟩ (by decide) (Nat.le_of_ble_eq_true rfl) ⟨by decide, by decide⟩ dL_law_1398 ?_
  refine hl_aload_n X dL_law_1401 rfl ?_
  refine hl_aload_n X dL_law_1402 rfl ?_
  refine hl_iload_n X dL_law_1403 rfl ?_
  refine hl_iconst X 1 dL_law_1404 (by decide) ?_
  refine hl_iadd X dL_law_1405 ?_
  refine hl_xld X hX (i + 1) (by omega) hL (nI_add i 1) dL_law_1406 ?_
  refine hl_aload_n X dL_law_1407 rfl ?_
  refine hl_iload_n X dL_law_1408 rfl ?_
  refine hl_iconst X 2 dL_law_1409 (by decide) ?_
  refine hl_iadd X dL_law_1410 ?_
  refine hl_xld X hX (i + 2) (by omega) hL (nI_add i 2) dL_law_1411 ?_
  refine hl_cvI X [.int (xs (i + 1)), .int (xs (i + 2))] [.int r] (c_X5_ask (by decide : 49 < 69) rfl (xs (i + 1)) (xs (i + 2)) M1) h2 lk_RL_184 rfl rfl rfl (by decide : 49 < 69) rfl ⟨by decide, rfl⟩ (by decide) (Nat.le_of_ble_eq_true rfl) ⟨by decide, by decide⟩ dL_law_1412 ?_
  refine hl_icmp_eq_T X 1581 rfl dL_law_1415 rfl ?_
  exact kk
/-- truly: both answer alike, and the invariant stays -/
def hs_truly (Inv : hf_M → Prop) : Prop := ∀ M : hf_M, Inv M → ∀ (a1 : Int32), ∃ (r : Int32) (M1 M2 : hf_M), s_X4_truly 0 a1 M = some (r, M1) ∧ s_X5_truly 49 a1 M1 = some (r, M2) ∧ Inv M2
set_option maxRecDepth 100000 in
set_option maxHeartbeats 4000000 in
theorem hl_case_truly {g : hf_G} {p : Program} {l : Launch} {e : Env} {s : State} {m : MethodId} {args : Array Value} {below : List Frame} {meth : Method} {c : Code} {Q : State → Prop} (X : hf_X g p s m args meth c cL_law 4 RL ret) {b Lx i : Nat} {xs : Nat → Int32} (hX : va_X b Lx xs s s.heap ∧ b < s.heap.size ∧ ¬ hf_A g b) (hL : Lx ≤ 3072) (hi : i + 6 ≤ Lx) {Inv : hf_M → Prop} (hst : hs_truly Inv) (M : hf_M) (hM : Inv M) (kk : ∀ M2, Inv M2 → hl_W g p l e s m args below meth c 4 Q M2 100 10000 1581 [some (.ref b), some (.ref (hf_a g 0)), some (.ref (hf_a g 49)), some (.int (nI i))] []) : hl_W g p l e s m args below meth c 4 Q M 100 10000 1420 [some (.ref b), some (.ref (hf_a g 0)), some (.ref (hf_a g 49)), some (.int (nI i))] [] := by
  obtain ⟨r, M1, M2, h1, h2, hI⟩ := hst M hM (xs (i + 1))
  have kk := kk M2 hI
  refine hl_aload_n X dL_law_1420 rfl ?_
  refine hl_aload_n X dL_law_1421 rfl ?_
  refine hl_iload_n X dL_law_1422 rfl ?_
  refine hl_iconst X 1 dL_law_1423 (by decide) ?_
  refine hl_iadd X dL_law_1424 ?_
  refine hl_xld X hX (i + 1) (by omega) hL (nI_add i 1) dL_law_1425 ?_
  refine hl_cvI X [.int (xs (i + 1))] [] (c_X4_truly (by decide : 0 < 69) rfl (xs (i + 1)) M) h1 lk_RL_185 rfl rfl rfl (by decide : 0 < 69) rfl ⟨by decide, rfl⟩ (by decide) (Nat.le_of_ble_eq_true rfl) ⟨by decide, by decide⟩ dL_law_1426 ?_
  refine hl_aload_n X dL_law_1429 rfl ?_
  refine hl_aload_n X dL_law_1430 rfl ?_
  refine hl_iload_n X dL_law_1431 rfl ?_
  refine hl_iconst X 1 dL_law_1432 (by decide) ?_
  refine hl_iadd X dL_law_1433 ?_
  refine hl_xld X hX (i + 1) (by omega) hL (nI_add i 1) dL_law_1434 ?_
  refine hl_cvI X [.int (xs (i + 1))] [.int r] (c_X5_truly (by decide : 49 < 69) rfl (xs (i + 1)) M1) h2 lk_RL_188 rfl rfl rfl (by decide : 49 < 69) rfl ⟨by decide, rfl⟩ (by decide) (Nat.le_of_ble_eq_true rfl) ⟨by decide, by decide⟩ dL_law_1435 ?_
  refine hl_icmp_eq_T X 1581 rfl dL_law_1438 rfl ?_
  exact kk
/-- seed: both answer alike, and the invariant stays -/
def hs_seed (Inv : hf_M → Prop) : Prop := ∀ M : hf_M, Inv M → ∀ (a1 : Int32), ∃ (r : Int32) (M1 M2 : hf_M), s_X4_seed 0 a1 M = some (r, M1) ∧ s_X5_seed 49 a1 M1 = some (r, M2) ∧ Inv M2
set_option maxRecDepth 100000 in
set_option maxHeartbeats 4000000 in
theorem hl_case_seed {g : hf_G} {p : Program} {l : Launch} {e : Env} {s : State} {m : MethodId} {args : Array Value} {below : List Frame} {meth : Method} {c : Code} {Q : State → Prop} (X : hf_X g p s m args meth c cL_law 4 RL ret) {b Lx i : Nat} {xs : Nat → Int32} (hX : va_X b Lx xs s s.heap ∧ b < s.heap.size ∧ ¬ hf_A g b) (hL : Lx ≤ 3072) (hi : i + 6 ≤ Lx) {Inv : hf_M → Prop} (hst : hs_seed Inv) (M : hf_M) (hM : Inv M) (kk : ∀ M2, Inv M2 → hl_W g p l e s m args below meth c 4 Q M2 100 10000 1581 [some (.ref b), some (.ref (hf_a g 0)), some (.ref (hf_a g 49)), some (.int (nI i))] []) : hl_W g p l e s m args below meth c 4 Q M 100 10000 1443 [some (.ref b), some (.ref (hf_a g 0)), some (.ref (hf_a g 49)), some (.int (nI i))] [] := by
  obtain ⟨r, M1, M2, h1, h2, hI⟩ := hst M hM (xs (i + 1))
  have kk := kk M2 hI
  refine hl_aload_n X dL_law_1443 rfl ?_
  refine hl_aload_n X dL_law_1444 rfl ?_
  refine hl_iload_n X dL_law_1445 rfl ?_
  refine hl_iconst X 1 dL_law_1446 (by decide) ?_
  refine hl_iadd X dL_law_1447 ?_
  refine hl_xld X hX (i + 1) (by omega) hL (nI_add i 1) dL_law_1448 ?_
  refine hl_cvI X [.int (xs (i + 1))] [] (c_X4_seed (by decide : 0 < 69) rfl (xs (i + 1)) M) h1 lk_RL_189 rfl rfl rfl (by decide : 0 < 69) rfl ⟨by decide, rfl⟩ (by decide) (Nat.le_of_ble_eq_true rfl) ⟨by decide, by decide⟩ dL_law_1449 ?_
  refine hl_aload_n X dL_law_1452 rfl ?_
  refine hl_aload_n X dL_law_1453 rfl ?_
  refine hl_iload_n X dL_law_1454 rfl ?_
  refine hl_iconst X 1 dL_law_1455 (by decide) ?_
  refine hl_iadd X dL_law_1456 ?_
  refine hl_xld X hX (i + 1) (by omega) hL (nI_add i 1) dL_law_1457 ?_
  refine hl_cvI X [.int (xs (i + 1))] [.int r] (c_X5_seed (by decide : 49 < 69) rfl (xs (i + 1)) M1) h2 lk_RL_192 rfl rfl rfl (by decide : 49 < 69) rfl ⟨by decide, rfl⟩ (by decide) (Nat.le_of_ble_eq_true rfl) ⟨by decide, by decide⟩ dL_law_1458 ?_
  refine hl_icmp_eq_T X 1581 rfl dL_law_1461 rfl ?_
  exact kk
/-- act: both answer alike, and the invariant stays -/
def hs_act (Inv : hf_M → Prop) : Prop := ∀ M : hf_M, Inv M → ∀ (a1 : Int32) (a2 : Int32) (a3 : Int32), ∃ (r : Int32) (M1 M2 : hf_M), s_X4_act 0 a1 a2 a3 M = some (r, M1) ∧ s_X5_act 49 a1 a2 a3 M1 = some (r, M2) ∧ Inv M2
set_option maxRecDepth 100000 in
set_option maxHeartbeats 4000000 in
theorem hl_case_act {g : hf_G} {p : Program} {l : Launch} {e : Env} {s : State} {m : MethodId} {args : Array Value} {below : List Frame} {meth : Method} {c : Code} {Q : State → Prop} (X : hf_X g p s m args meth c cL_law 4 RL ret) {b Lx i : Nat} {xs : Nat → Int32} (hX : va_X b Lx xs s s.heap ∧ b < s.heap.size ∧ ¬ hf_A g b) (hL : Lx ≤ 3072) (hi : i + 6 ≤ Lx) {Inv : hf_M → Prop} (hst : hs_act Inv) (M : hf_M) (hM : Inv M) (kk : ∀ M2, Inv M2 → hl_W g p l e s m args below meth c 4 Q M2 100 10000 1581 [some (.ref b), some (.ref (hf_a g 0)), some (.ref (hf_a g 49)), some (.int (nI i))] []) : hl_W g p l e s m args below meth c 4 Q M 100 10000 1466 [some (.ref b), some (.ref (hf_a g 0)), some (.ref (hf_a g 49)), some (.int (nI i))] [] := by
  obtain ⟨r, M1, M2, h1, h2, hI⟩ := hst M hM (xs (i + 1)) (xs (i + 2)) (xs (i + 3))
  have kk := kk M2 hI
  refine hl_aload_n X dL_law_1466 rfl ?_
  refine hl_aload_n X dL_law_1467 rfl ?_
  refine hl_iload_n X dL_law_1468 rfl ?_
  refine hl_iconst X 1 dL_law_1469 (by decide) ?_
  refine hl_iadd X dL_law_1470 ?_
  refine hl_xld X hX (i + 1) (by omega) hL (nI_add i 1) dL_law_1471 ?_
  refine hl_aload_n X dL_law_1472 rfl ?_
  refine hl_iload_n X dL_law_1473 rfl ?_
  refine hl_iconst X 2 dL_law_1474 (by decide) ?_
  refine hl_iadd X dL_law_1475 ?_
  refine hl_xld X hX (i + 2) (by omega) hL (nI_add i 2) dL_law_1476 ?_
  refine hl_aload_n X dL_law_1477 rfl ?_
  refine hl_iload_n X dL_law_1478 rfl ?_
  refine hl_iconst X 3 dL_law_1479 (by decide) ?_
  refine hl_iadd X dL_law_1480 ?_
  refine hl_xld X hX (i + 3) (by omega) hL (nI_add i 3) dL_law_1481 ?_
  refine hl_cvI X [.int (xs (i + 1)), .int (xs (i + 2)), .int (xs (i + 3))] [] (c_X4_act (by decide : 0 < 69) rfl (xs (i + 1)) (xs (i + 2)) (xs (i + 3)) M) h1 lk_RL_193 rfl rfl rfl (by decide : 0 < 69) rfl ⟨by decide, rfl⟩ (by decide) (Nat.le_of_ble_eq_true rfl) ⟨by decide, by decide⟩ dL_law_1482 ?_
  refine hl_aload_n X dL_law_1485 rfl ?_
  refine hl_aload_n X dL_law_1486 rfl ?_
  refine hl_iload_n X dL_law_1487 rfl ?_
  refine hl_iconst X 1 dL_law_1488 (by decide) ?_
  refine hl_iadd X dL_law_1489 ?_
  refine hl_xld X hX (i + 1) (by omega) hL (nI_add i 1) dL_law_1490 ?_
  refine hl_aload_n X dL_law_1491 rfl ?_
  refine hl_iload_n X dL_law_1492 rfl ?_
  refine hl_iconst X 2 dL_law_1493 (by decide) ?_
  refine hl_iadd X dL_law_1494 ?_
  refine hl_xld X hX (i + 2) (by omega) hL (nI_add i 2) dL_law_1495 ?_
  refine hl_aload_n X dL_law_1496 rfl ?_
  refine hl_iload_n X dL_law_1497 rfl ?_
  refine hl_iconst X 3 dL_law_1498 (by decide) ?_
  refine hl_iadd X dL_law_1499 ?_
  refine hl_xld X hX (i + 3) (by omega) hL (nI_add i 3) dL_law_1500 ?_
  refine hl_cvI X [.int (xs (i + 1)), .int (xs (i + 2)), .int (xs (i + 3))] [.int r] (c_X5_act (by decide : 49 < 69) rfl (xs (i + 1)) (xs (i + 2)) (xs (i + 3)) M1) h2 lk_RL_196 rfl rfl rfl (by decide : 49 < 69) rfl ⟨by decide, rfl⟩ (by decide) (Nat.le_of_ble_eq_true rfl) ⟨by decide, by decide⟩ dL_law_1501 ?_
  refine hl_icmp_eq_T X 1581 rfl dL_law_1504 rfl ?_
  exact kk
/-- trace: both answer alike, and the invariant stays -/
def hs_trace (Inv : hf_M → Prop) : Prop := ∀ M : hf_M, Inv M → ∀ (a1 : Int32), ∃ (r : Int32) (M1 M2 : hf_M), s_X4_trace 0 a1 M = some (r, M1) ∧ s_X5_trace 49 a1 M1 = some (r, M2) ∧ Inv M2
set_option maxRecDepth 100000 in
set_option maxHeartbeats 4000000 in
theorem hl_case_trace {g : hf_G} {p : Program} {l : Launch} {e : Env} {s : State} {m : MethodId} {args : Array Value} {below : List Frame} {meth : Method} {c : Code} {Q : State → Prop} (X : hf_X g p s m args meth c cL_law 4 RL ret) {b Lx i : Nat} {xs : Nat → Int32} (hX : va_X b Lx xs s s.heap ∧ b < s.heap.size ∧ ¬ hf_A g b) (hL : Lx ≤ 3072) (hi : i + 6 ≤ Lx) {Inv : hf_M → Prop} (hst : hs_trace Inv) (M : hf_M) (hM : Inv M) (kk : ∀ M2, Inv M2 → hl_W g p l e s m args below meth c 4 Q M2 100 10000 1581 [some (.ref b), some (.ref (hf_a g 0)), some (.ref (hf_a g 49)), some (.int (nI i))] []) : hl_W g p l e s m args below meth c 4 Q M 100 10000 1509 [some (.ref b), some (.ref (hf_a g 0)), some (.ref (hf_a g 49)), some (.int (nI i))] [] := by
  obtain ⟨r, M1, M2, h1, h2, hI⟩ := hst M hM (xs (i + 1))
  have kk := kk M2 hI
  refine hl_aload_n X dL_law_1509 rfl ?_
  refine hl_aload_n X dL_law_1510 rfl ?_
  refine hl_iload_n X dL_law_1511 rfl ?_
  refine hl_iconst X 1 dL_law_1512 (by decide) ?_
  refine hl_iadd X dL_law_1513 ?_
  refine hl_xld X hX (i + 1) (by omega) hL (nI_add i 1) dL_law_1514 ?_
  refine hl_cvI X [.int (xs (i + 1))] [] (c_X4_trace (by decide : 0 < 69) rfl (xs (i + 1)) M) h1 lk_RL_197 rfl rfl rfl (by decide : 0 < 69) rfl ⟨by decide, rfl⟩ (by decide) (Nat.le_of_ble_eq_true rfl) ⟨by decide, by decide⟩ dL_law_1515 ?_
  refine hl_aload_n X dL_law_1518 rfl ?_
  refine hl_aload_n X dL_law_1519 rfl ?_
  refine hl_iload_n X dL_law_1520 rfl ?_
  refine hl_iconst X 1 dL_law_1521 (by decide) ?_
  refine hl_iadd X dL_law_1522 ?_
  refine hl_xld X hX (i + 1) (by omega) hL (nI_add i 1) dL_law_1523 ?_
  refine hl_cvI X [.int (xs (i + 1))] [.int r] (c_X5_trace (by decide : 49 < 69) rfl (xs (i + 1)) M1) h2 lk_RL_200 rfl rfl rfl (by decide : 49 < 69) rfl ⟨by decide, rfl⟩ (by decide) (Nat.le_of_ble_eq_true rfl) ⟨by decide, by decide⟩ dL_law_1524 ?_
  refine hl_icmp_eq_T X 1581 rfl dL_law_1527 rfl ?_
  exact kk
/-- image: both answer alike, and the invariant stays -/
def hs_image (Inv : hf_M → Prop) : Prop := ∀ M : hf_M, Inv M → ∃ (r : Int32) (M1 M2 : hf_M), s_X4_image 0  M = some (r, M1) ∧ s_X5_image 49  M1 = some (r, M2) ∧ Inv M2
set_option maxRecDepth 100000 in
set_option maxHeartbeats 4000000 in
theorem hl_case_image {g : hf_G} {p : Program} {l : Launch} {e : Env} {s : State} {m : MethodId} {args : Array Value} {below : List Frame} {meth : Method} {c : Code} {Q : State → Prop} (X : hf_X g p s m args meth c cL_law 4 RL ret) {b Lx i : Nat} {xs : Nat → Int32} (hX : va_X b Lx xs s s.heap ∧ b < s.heap.size ∧ ¬ hf_A g b) (hL : Lx ≤ 3072) (hi : i + 6 ≤ Lx) {Inv : hf_M → Prop} (hst : hs_image Inv) (M : hf_M) (hM : Inv M) (kk : ∀ M2, Inv M2 → hl_W g p l e s m args below meth c 4 Q M2 100 10000 1581 [some (.ref b), some (.ref (hf_a g 0)), some (.ref (hf_a g 49)), some (.int (nI i))] []) : hl_W g p l e s m args below meth c 4 Q M 100 10000 1532 [some (.ref b), some (.ref (hf_a g 0)), some (.ref (hf_a g 49)), some (.int (nI i))] [] := by
  obtain ⟨r, M1, M2, h1, h2, hI⟩ := hst M hM 
  have kk := kk M2 hI
  refine hl_aload_n X dL_law_1532 rfl ?_
  refine hl_cvI X [] [] (c_X4_image (by decide : 0 < 69) rfl  M) h1 lk_RL_201 rfl rfl rfl (by decide : 0 < 69) rfl ⟨by decide, rfl⟩ (by decide) (Nat.le_of_ble_eq_true rfl) ⟨by decide, by decide⟩ dL_law_1533 ?_
  refine hl_aload_n X dL_law_1536 rfl ?_
  refine hl_cvI X [] [.int r] (c_X5_image (by decide : 49 < 69) rfl  M1) h2 lk_RL_204 rfl rfl rfl (by decide : 49 < 69) rfl ⟨by decide, rfl⟩ (by decide) (Nat.le_of_ble_eq_true rfl) ⟨by decide, by decide⟩ dL_law_1537 ?_
  refine hl_icmp_eq_T X 1581 rfl dL_law_1540 rfl ?_
  exact kk
/-- restore: both answer alike, and the invariant stays -/
def hs_restore (Inv : hf_M → Prop) : Prop := ∀ M : hf_M, Inv M → ∃ (r : Int32) (M1 M2 : hf_M), s_X4_restore 0  M = some (r, M1) ∧ s_X5_restore 49  M1 = some (r, M2) ∧ Inv M2
set_option maxRecDepth 100000 in
set_option maxHeartbeats 4000000 in
theorem hl_case_restore {g : hf_G} {p : Program} {l : Launch} {e : Env} {s : State} {m : MethodId} {args : Array Value} {below : List Frame} {meth : Method} {c : Code} {Q : State → Prop} (X : hf_X g p s m args meth c cL_law 4 RL ret) {b Lx i : Nat} {xs : Nat → Int32} (hX : va_X b Lx xs s s.heap ∧ b < s.heap.size ∧ ¬ hf_A g b) (hL : Lx ≤ 3072) (hi : i + 6 ≤ Lx) {Inv : hf_M → Prop} (hst : hs_restore Inv) (M : hf_M) (hM : Inv M) (kk : ∀ M2, Inv M2 → hl_W g p l e s m args below meth c 4 Q M2 100 10000 1581 [some (.ref b), some (.ref (hf_a g 0)), some (.ref (hf_a g 49)), some (.int (nI i))] []) : hl_W g p l e s m args below meth c 4 Q M 100 10000 1545 [some (.ref b), some (.ref (hf_a g 0)), some (.ref (hf_a g 49)), some (.int (nI i))] [] := by
  obtain ⟨r, M1, M2, h1, h2, hI⟩ := hst M hM 
  have kk := kk M2 hI
  refine hl_aload_n X dL_law_1545 rfl ?_
  refine hl_cvI X [] [] (c_X4_restore (by decide : 0 < 69) rfl  M) h1 lk_RL_205 rfl rfl rfl (by decide : 0 < 69) rfl ⟨by decide, rfl⟩ (by decide) (Nat.le_of_ble_eq_true rfl) ⟨by decide, by decide⟩ dL_law_1546 ?_
  refine hl_aload_n X dL_law_1549 rfl ?_
  refine hl_cvI X [] [.int r] (c_X5_restore (by decide : 49 < 69) rfl  M1) h2 lk_RL_208 rfl rfl rfl (by decide : 49 < 69) rfl ⟨by decide, rfl⟩ (by decide) (Nat.le_of_ble_eq_true rfl) ⟨by decide, by decide⟩ dL_law_1550 ?_
  refine hl_icmp_eq_T X 1581 rfl dL_law_1553 rfl ?_
  exact kk
/-- status: both answer alike, and the invariant stays -/
def hs_status (Inv : hf_M → Prop) : Prop := ∀ M : hf_M, Inv M → ∀ (a1 : Int32), ∃ (r : Int32) (M1 M2 : hf_M), s_X4_status 0 a1 M = some (r, M1) ∧ s_X5_status 49 a1 M1 = some (r, M2) ∧ Inv M2
set_option maxRecDepth 100000 in
set_option maxHeartbeats 4000000 in
theorem hl_case_status {g : hf_G} {p : Program} {l : Launch} {e : Env} {s : State} {m : MethodId} {args : Array Value} {below : List Frame} {meth : Method} {c : Code} {Q : State → Prop} (X : hf_X g p s m args meth c cL_law 4 RL ret) {b Lx i : Nat} {xs : Nat → Int32} (hX : va_X b Lx xs s s.heap ∧ b < s.heap.size ∧ ¬ hf_A g b) (hL : Lx ≤ 3072) (hi : i + 6 ≤ Lx) {Inv : hf_M → Prop} (hst : hs_status Inv) (M : hf_M) (hM : Inv M) (kk : ∀ M2, Inv M2 → hl_W g p l e s m args below meth c 4 Q M2 100 10000 1581 [some (.ref b), some (.ref (hf_a g 0)), some (.ref (hf_a g 49)), some (.int (nI i))] []) : hl_W g p l e s m args below meth c 4 Q M 100 10000 1558 [some (.ref b), some (.ref (hf_a g 0)), some (.ref (hf_a g 49)), some (.int (nI i))] [] := by
  obtain ⟨r, M1, M2, h1, h2, hI⟩ := hst M hM (xs (i + 1))
  have kk := kk M2 hI
  refine hl_aload_n X dL_law_1558 rfl ?_
  refine hl_aload_n X dL_law_1559 rfl ?_
  refine hl_iload_n X dL_law_1560 rfl ?_
  refine hl_iconst X 1 dL_law_1561 (by decide) ?_
  refine hl_iadd X dL_law_1562 ?_
  refine hl_xld X hX (i + 1) (by omega) hL (nI_add i 1) dL_law_1563 ?_
  refine hl_cvI X [.int (xs (i + 1))] [] (c_X4_status (by decide : 0 < 69) rfl (xs (i + 1)) M) h1 lk_RL_209 rfl rfl rfl (by decide : 0 < 69) rfl ⟨by decide, rfl⟩ (by decide) (Nat.le_of_ble_eq_true rfl) ⟨by decide, by decide⟩ dL_law_1564 ?_
  refine hl_aload_n X dL_law_1567 rfl ?_
  refine hl_aload_n X dL_law_1568 rfl ?_
  refine hl_iload_n X dL_law_1569 rfl ?_
  refine hl_iconst X 1 dL_law_1570 (by decide) ?_
  refine hl_iadd X dL_law_1571 ?_
  refine hl_xld X hX (i + 1) (by omega) hL (nI_add i 1) dL_law_1572 ?_
  refine hl_cvI X [.int (xs (i + 1))] [.int r] (c_X5_status (by decide : 49 < 69) rfl (xs (i + 1)) M1) h2 lk_RL_212 rfl rfl rfl (by decide : 49 < 69) rfl ⟨by decide, rfl⟩ (by decide) (Nat.le_of_ble_eq_true rfl) ⟨by decide, by decide⟩ dL_law_1573 ?_
  refine hl_icmp_eq_T X 1581 rfl dL_law_1576 rfl ?_
  exact kk
/-- all that is owed of the two classes -/
def hs_all (Inv : hf_M → Prop) : Prop := hs_row Inv ∧ hs_set Inv ∧ hs_copy Inv ∧ hs_element Inv ∧ hs_show Inv ∧ hs_holds Inv ∧ hs_says Inv ∧ hs_fact Inv ∧ hs_speaker Inv ∧ hs_law Inv ∧ hs_speakerOf Inv ∧ hs_harm Inv ∧ hs_say Inv ∧ hs_unsay Inv ∧ hs_sayingOf Inv ∧ hs_known Inv ∧ hs_town Inv ∧ hs_fault Inv ∧ hs_canBe Inv ∧ hs_can Inv ∧ hs_worlds Inv ∧ hs_many Inv ∧ hs_sure Inv ∧ hs_sures Inv ∧ hs_shown Inv ∧ hs_proof Inv ∧ hs_worst Inv ∧ hs_next Inv ∧ hs_knows Inv ∧ hs_tree Inv ∧ hs_rows Inv ∧ hs_tells Inv ∧ hs_errands Inv ∧ hs_placed Inv ∧ hs_trust Inv ∧ hs_witness Inv ∧ hs_judge Inv ∧ hs_sunset Inv ∧ hs_draw Inv ∧ hs_ask Inv ∧ hs_truly Inv ∧ hs_seed Inv ∧ hs_act Inv ∧ hs_trace Inv ∧ hs_image Inv ∧ hs_restore Inv ∧ hs_status Inv
set_option maxRecDepth 100000 in
set_option maxHeartbeats 8000000 in
theorem hl_loop {g : hf_G} {p : Program} {l : Launch} {e : Env} {s : State} {m : MethodId} {args : Array Value} {below : List Frame} {meth : Method} {c : Code} {Q : State → Prop} (X : hf_X g p s m args meth c cL_law 4 RL ret) {b Lx : Nat} {xs : Nat → Int32} (hX : va_X b Lx xs s s.heap ∧ b < s.heap.size ∧ ¬ hf_A g b) (hL : Lx ≤ 3072) {Inv : hf_M → Prop} (hs : hs_all Inv) (hend : ∀ (M : hf_M) (i : Nat), Inv M → hl_W g p l e s m args below meth c 4 Q M 100 10000 1587 [some (.ref b), some (.ref (hf_a g 0)), some (.ref (hf_a g 49)), some (.int (nI i))] []) : ∀ (k i : Nat) (M : hf_M), i ≤ Lx + 6 → Lx ≤ i + k → Inv M → hl_W g p l e s m args below meth c 4 Q M 100 10000 18 [some (.ref b), some (.ref (hf_a g 0)), some (.ref (hf_a g 49)), some (.int (nI i))] [] := by
  intro k
  induction k with
  | zero =>
    intro i M h1 h2 hM
    refine hl_iload_n X dL_law_18 rfl ?_
    refine hl_aload_n X dL_law_19 rfl ?_
    refine hl_xln X hX dL_law_20 ?_
    refine hl_bipush X 6 dL_law_21 (by decide) ?_
    refine hl_isub X dL_law_23 ?_
    exact hl_icmp_gt_T X 1587 (hl_le hL (by omega) h1) dL_law_24 rfl (hend M i hM)
  | succ k ih =>
    intro i M h1 h2 hM
    refine hl_iload_n X dL_law_18 rfl ?_
    refine hl_aload_n X dL_law_19 rfl ?_
    refine hl_xln X hX dL_law_20 ?_
    refine hl_bipush X 6 dL_law_21 (by decide) ?_
    refine hl_isub X dL_law_23 ?_
    by_cases hi : i + 6 ≤ Lx
    case neg => exact hl_icmp_gt_T X 1587 (hl_le hL hi h1) dL_law_24 rfl (hend M i hM)
    refine hl_icmp_gt_F X 1587 (hl_gt hL hi) dL_law_24 rfl ?_
    refine hl_aload_n X dL_law_27 rfl ?_
    refine hl_iload_n X dL_law_28 rfl ?_
    refine hl_xld X hX i (by omega) hL rfl dL_law_29 ?_
    refine hl_bipush X 63 dL_law_30 (by decide) ?_
    refine hl_iand X dL_law_32 ?_
    have kk : ∀ M2, Inv M2 → hl_W g p l e s m args below meth c 4 Q M2 100 10000 1581 [some (.ref b), some (.ref (hf_a g 0)), some (.ref (hf_a g 49)), some (.int (nI i))] [] := fun M2 hI => by
      refine hl_iinc X (nI (i + 6)) dL_law_1581 rfl (nI_add i 6) (by decide) rfl ?_
      exact hl_goto X 18 dL_law_1584 rfl (ih (i + 6) M2 (by omega) (by omega) hI)
    obtain ⟨j, hj, ej⟩ := pk_andE (xs i) (m := 63) 6 (by decide)
    rw [ej]
    match j, hj with
    | 0, _ => exact hl_tabIn X 236 dL_law_33 (by decide) (by decide) rfl rfl (hl_case_row X hX hL hi hs.1 M hM kk)
    | 1, _ => exact hl_tabIn X 279 dL_law_33 (by decide) (by decide) rfl rfl (hl_case_set X hX hL hi hs.2.1 M hM kk)
    | 2, _ => exact hl_tabIn X 352 dL_law_33 (by decide) (by decide) rfl rfl (hl_case_copy X hX hL hi hs.2.2.1 M hM kk)
    | 3, _ => exact hl_tabIn X 415 dL_law_33 (by decide) (by decide) rfl rfl (hl_case_element X hX hL hi hs.2.2.2.1 M hM kk)
    | 4, _ => exact hl_tabIn X 449 dL_law_33 (by decide) (by decide) rfl rfl (hl_case_show X hX hL hi hs.2.2.2.2.1 M hM kk)
    | 5, _ => exact hl_tabIn X 482 dL_law_33 (by decide) (by decide) rfl rfl (hl_case_holds X hX hL hi hs.2.2.2.2.2.1 M hM kk)
    | 6, _ => exact hl_tabIn X 505 dL_law_33 (by decide) (by decide) rfl rfl (hl_case_says X hX hL hi hs.2.2.2.2.2.2.1 M hM kk)
    | 7, _ => exact hl_tabIn X 538 dL_law_33 (by decide) (by decide) rfl rfl (hl_case_fact X hX hL hi hs.2.2.2.2.2.2.2.1 M hM kk)
    | 8, _ => exact hl_tabIn X 561 dL_law_33 (by decide) (by decide) rfl rfl (hl_case_speaker X hX hL hi hs.2.2.2.2.2.2.2.2.1 M hM kk)
    | 9, _ => exact hl_tabIn X 594 dL_law_33 (by decide) (by decide) rfl rfl (hl_case_law X hX hL hi hs.2.2.2.2.2.2.2.2.2.1 M hM kk)
    | 10, _ => exact hl_tabIn X 627 dL_law_33 (by decide) (by decide) rfl rfl (hl_case_speakerOf X hX hL hi hs.2.2.2.2.2.2.2.2.2.2.1 M hM kk)
    | 11, _ => exact hl_tabIn X 660 dL_law_33 (by decide) (by decide) rfl rfl (hl_case_harm X hX hL hi hs.2.2.2.2.2.2.2.2.2.2.2.1 M hM kk)
    | 12, _ => exact hl_tabIn X 693 dL_law_33 (by decide) (by decide) rfl rfl (hl_case_say X hX hL hi hs.2.2.2.2.2.2.2.2.2.2.2.2.1 M hM kk)
    | 13, _ => exact hl_tabIn X 752 dL_law_33 (by decide) (by decide) rfl rfl (hl_case_unsay X hX hL hi hs.2.2.2.2.2.2.2.2.2.2.2.2.2.1 M hM kk)
    | 14, _ => exact hl_tabIn X 765 dL_law_33 (by decide) (by decide) rfl rfl (hl_case_sayingOf X hX hL hi hs.2.2.2.2.2.2.2.2.2.2.2.2.2.2.1 M hM kk)
    | 15, _ => exact hl_tabIn X 788 dL_law_33 (by decide) (by decide) rfl rfl (hl_case_known X hX hL hi hs.2.2.2.2.2.2.2.2.2.2.2.2.2.2.2.1 M hM kk)
    | 16, _ => exact hl_tabIn X 837 dL_law_33 (by decide) (by decide) rfl rfl (hl_case_town X hX hL hi hs.2.2.2.2.2.2.2.2.2.2.2.2.2.2.2.2.1 M hM kk)
    | 17, _ => exact hl_tabIn X 860 dL_law_33 (by decide) (by decide) rfl rfl (hl_case_fault X hX hL hi hs.2.2.2.2.2.2.2.2.2.2.2.2.2.2.2.2.2.1 M hM kk)
    | 18, _ => exact hl_tabIn X 873 dL_law_33 (by decide) (by decide) rfl rfl (hl_case_canBe X hX hL hi hs.2.2.2.2.2.2.2.2.2.2.2.2.2.2.2.2.2.2.1 M hM kk)
    | 19, _ => exact hl_tabIn X 906 dL_law_33 (by decide) (by decide) rfl rfl (hl_case_can X hX hL hi hs.2.2.2.2.2.2.2.2.2.2.2.2.2.2.2.2.2.2.2.1 M hM kk)
    | 20, _ => exact hl_tabIn X 949 dL_law_33 (by decide) (by decide) rfl rfl (hl_case_worlds X hX hL hi hs.2.2.2.2.2.2.2.2.2.2.2.2.2.2.2.2.2.2.2.2.1 M hM kk)
    | 21, _ => exact hl_tabIn X 963 dL_law_33 (by decide) (by decide) rfl rfl (hl_case_many X hX hL hi hs.2.2.2.2.2.2.2.2.2.2.2.2.2.2.2.2.2.2.2.2.2.1 M hM kk)
    | 22, _ => exact hl_tabIn X 976 dL_law_33 (by decide) (by decide) rfl rfl (hl_case_sure X hX hL hi hs.2.2.2.2.2.2.2.2.2.2.2.2.2.2.2.2.2.2.2.2.2.2.1 M hM kk)
    | 23, _ => exact hl_tabIn X 999 dL_law_33 (by decide) (by decide) rfl rfl (hl_case_sures X hX hL hi hs.2.2.2.2.2.2.2.2.2.2.2.2.2.2.2.2.2.2.2.2.2.2.2.1 M hM kk)
    | 24, _ => exact hl_tabIn X 1012 dL_law_33 (by decide) (by decide) rfl rfl (hl_case_shown X hX hL hi hs.2.2.2.2.2.2.2.2.2.2.2.2.2.2.2.2.2.2.2.2.2.2.2.2.1 M hM kk)
    | 25, _ => exact hl_tabIn X 1035 dL_law_33 (by decide) (by decide) rfl rfl (hl_case_proof X hX hL hi hs.2.2.2.2.2.2.2.2.2.2.2.2.2.2.2.2.2.2.2.2.2.2.2.2.2.1 M hM kk)
    | 26, _ => exact hl_tabIn X 1058 dL_law_33 (by decide) (by decide) rfl rfl (hl_case_worst X hX hL hi hs.2.2.2.2.2.2.2.2.2.2.2.2.2.2.2.2.2.2.2.2.2.2.2.2.2.2.1 M hM kk)
    | 27, _ => exact hl_tabIn X 1091 dL_law_33 (by decide) (by decide) rfl rfl (hl_case_next X hX hL hi hs.2.2.2.2.2.2.2.2.2.2.2.2.2.2.2.2.2.2.2.2.2.2.2.2.2.2.2.1 M hM kk)
    | 28, _ => exact hl_tabIn X 1104 dL_law_33 (by decide) (by decide) rfl rfl (hl_case_knows X hX hL hi hs.2.2.2.2.2.2.2.2.2.2.2.2.2.2.2.2.2.2.2.2.2.2.2.2.2.2.2.2.1 M hM kk)
    | 29, _ => exact hl_tabIn X 1137 dL_law_33 (by decide) (by decide) rfl rfl (hl_case_tree X hX hL hi hs.2.2.2.2.2.2.2.2.2.2.2.2.2.2.2.2.2.2.2.2.2.2.2.2.2.2.2.2.2.1 M hM kk)
    | 30, _ => exact hl_tabIn X 1160 dL_law_33 (by decide) (by decide) rfl rfl (hl_case_rows X hX hL hi hs.2.2.2.2.2.2.2.2.2.2.2.2.2.2.2.2.2.2.2.2.2.2.2.2.2.2.2.2.2.2.1 M hM kk)
    | 31, _ => exact hl_tabIn X 1193 dL_law_33 (by decide) (by decide) rfl rfl (hl_case_tells X hX hL hi hs.2.2.2.2.2.2.2.2.2.2.2.2.2.2.2.2.2.2.2.2.2.2.2.2.2.2.2.2.2.2.2.1 M hM kk)
    | 32, _ => exact hl_tabIn X 1226 dL_law_33 (by decide) (by decide) rfl rfl (hl_case_errands X hX hL hi hs.2.2.2.2.2.2.2.2.2.2.2.2.2.2.2.2.2.2.2.2.2.2.2.2.2.2.2.2.2.2.2.2.1 M hM kk)
    | 33, _ => exact hl_tabIn X 1259 dL_law_33 (by decide) (by decide) rfl rfl (hl_case_placed X hX hL hi hs.2.2.2.2.2.2.2.2.2.2.2.2.2.2.2.2.2.2.2.2.2.2.2.2.2.2.2.2.2.2.2.2.2.1 M hM kk)
    | 34, _ => exact hl_tabIn X 1292 dL_law_33 (by decide) (by decide) rfl rfl (hl_case_trust X hX hL hi hs.2.2.2.2.2.2.2.2.2.2.2.2.2.2.2.2.2.2.2.2.2.2.2.2.2.2.2.2.2.2.2.2.2.2.1 M hM kk)
    | 35, _ => exact hl_tabIn X 1315 dL_law_33 (by decide) (by decide) rfl rfl (hl_case_witness X hX hL hi hs.2.2.2.2.2.2.2.2.2.2.2.2.2.2.2.2.2.2.2.2.2.2.2.2.2.2.2.2.2.2.2.2.2.2.2.1 M hM kk)
    | 36, _ => exact hl_tabIn X 1328 dL_law_33 (by decide) (by decide) rfl rfl (hl_case_judge X hX hL hi hs.2.2.2.2.2.2.2.2.2.2.2.2.2.2.2.2.2.2.2.2.2.2.2.2.2.2.2.2.2.2.2.2.2.2.2.2.1 M hM kk)
    | 37, _ => exact hl_tabIn X 1361 dL_law_33 (by decide) (by decide) rfl rfl (hl_case_sunset X hX hL hi hs.2.2.2.2.2.2.2.2.2.2.2.2.2.2.2.2.2.2.2.2.2.2.2.2.2.2.2.2.2.2.2.2.2.2.2.2.2.1 M hM kk)
    | 38, _ => exact hl_tabIn X 1374 dL_law_33 (by decide) (by decide) rfl rfl (hl_case_draw X hX hL hi hs.2.2.2.2.2.2.2.2.2.2.2.2.2.2.2.2.2.2.2.2.2.2.2.2.2.2.2.2.2.2.2.2.2.2.2.2.2.2.1 M hM kk)
    | 39, _ => exact hl_tabIn X 1387 dL_law_33 (by decide) (by decide) rfl rfl (hl_case_ask X hX hL hi hs.2.2.2.2.2.2.2.2.2.2.2.2.2.2.2.2.2.2.2.2.2.2.2.2.2.2.2.2.2.2.2.2.2.2.2.2.2.2.2.1 M hM kk)
    | 40, _ => exact hl_tabIn X 1420 dL_law_33 (by decide) (by decide) rfl rfl (hl_case_truly X hX hL hi hs.2.2.2.2.2.2.2.2.2.2.2.2.2.2.2.2.2.2.2.2.2.2.2.2.2.2.2.2.2.2.2.2.2.2.2.2.2.2.2.2.1 M hM kk)
    | 41, _ => exact hl_tabIn X 1443 dL_law_33 (by decide) (by decide) rfl rfl (hl_case_seed X hX hL hi hs.2.2.2.2.2.2.2.2.2.2.2.2.2.2.2.2.2.2.2.2.2.2.2.2.2.2.2.2.2.2.2.2.2.2.2.2.2.2.2.2.2.1 M hM kk)
    | 42, _ => exact hl_tabIn X 1466 dL_law_33 (by decide) (by decide) rfl rfl (hl_case_act X hX hL hi hs.2.2.2.2.2.2.2.2.2.2.2.2.2.2.2.2.2.2.2.2.2.2.2.2.2.2.2.2.2.2.2.2.2.2.2.2.2.2.2.2.2.2.1 M hM kk)
    | 43, _ => exact hl_tabIn X 1509 dL_law_33 (by decide) (by decide) rfl rfl (hl_case_trace X hX hL hi hs.2.2.2.2.2.2.2.2.2.2.2.2.2.2.2.2.2.2.2.2.2.2.2.2.2.2.2.2.2.2.2.2.2.2.2.2.2.2.2.2.2.2.2.1 M hM kk)
    | 44, _ => exact hl_tabIn X 1532 dL_law_33 (by decide) (by decide) rfl rfl (hl_case_image X hX hL hi hs.2.2.2.2.2.2.2.2.2.2.2.2.2.2.2.2.2.2.2.2.2.2.2.2.2.2.2.2.2.2.2.2.2.2.2.2.2.2.2.2.2.2.2.2.1 M hM kk)
    | 45, _ => exact hl_tabIn X 1545 dL_law_33 (by decide) (by decide) rfl rfl (hl_case_restore X hX hL hi hs.2.2.2.2.2.2.2.2.2.2.2.2.2.2.2.2.2.2.2.2.2.2.2.2.2.2.2.2.2.2.2.2.2.2.2.2.2.2.2.2.2.2.2.2.2.1 M hM kk)
    | 46, _ => exact hl_tabIn X 1558 dL_law_33 (by decide) (by decide) rfl rfl (hl_case_status X hX hL hi hs.2.2.2.2.2.2.2.2.2.2.2.2.2.2.2.2.2.2.2.2.2.2.2.2.2.2.2.2.2.2.2.2.2.2.2.2.2.2.2.2.2.2.2.2.2.2 M hM kk)
    | j + 47, hj =>
      refine hl_tabOut X 1581 dL_law_33 (Or.inr ?_) rfl (kk M hM)
      rw [nI_toInt (by omega)]
      omega
theorem hf_RT_N {M : hf_M} (h : hf_RT M) (k j : Nat) : hf_RT (hf_sR M k j none) := by
  intro a b t ht
  simp only [hf_sR, hf_u] at ht
  by_cases c : a = k ∧ b = j
  · rw [if_pos c] at ht; cases ht
  · rw [if_neg c] at ht; exact h a b t ht
theorem hz_rt0 : hf_RT hm_0 := fun k j t h => by cases h
theorem hz_rt1 : hf_RT hm_1 := by
  unfold hm_1
  repeat (first | exact hz_rt0 | refine hf_RT_I ?_ _ _ _ | refine hf_RT_L ?_ _ _ _ | refine hf_RT_N ?_ _ _ | refine hf_RT_R ?_ _ _ _ ⟨by decide, by decide⟩)
theorem hz_rt2 : hf_RT hm_2 := by
  unfold hm_2
  repeat (first | exact hz_rt1 | exact hz_rt0 | refine hf_RT_I ?_ _ _ _ | refine hf_RT_L ?_ _ _ _ | refine hf_RT_N ?_ _ _ | refine hf_RT_R ?_ _ _ _ ⟨by decide, by decide⟩)
theorem hz_rt3 : hf_RT hm_3 := by
  unfold hm_3
  repeat (first | exact hz_rt2 | exact hz_rt1 | refine hf_RT_I ?_ _ _ _ | refine hf_RT_L ?_ _ _ _ | refine hf_RT_N ?_ _ _ | refine hf_RT_R ?_ _ _ _ ⟨by decide, by decide⟩)
theorem hz_rt4 : hf_RT hm_4 := by
  unfold hm_4
  repeat (first | exact hz_rt3 | exact hz_rt2 | refine hf_RT_I ?_ _ _ _ | refine hf_RT_L ?_ _ _ _ | refine hf_RT_N ?_ _ _ | refine hf_RT_R ?_ _ _ _ ⟨by decide, by decide⟩)
theorem hz_rt5 : hf_RT hm_5 := by
  unfold hm_5
  repeat (first | exact hz_rt4 | exact hz_rt3 | refine hf_RT_I ?_ _ _ _ | refine hf_RT_L ?_ _ _ _ | refine hf_RT_N ?_ _ _ | refine hf_RT_R ?_ _ _ _ ⟨by decide, by decide⟩)
theorem hz_rt6 : hf_RT hm_6 := by
  unfold hm_6
  repeat (first | exact hz_rt5 | exact hz_rt4 | refine hf_RT_I ?_ _ _ _ | refine hf_RT_L ?_ _ _ _ | refine hf_RT_N ?_ _ _ | refine hf_RT_R ?_ _ _ _ ⟨by decide, by decide⟩)
theorem hz_rt7 : hf_RT hm_7 := by
  unfold hm_7
  repeat (first | exact hz_rt6 | exact hz_rt5 | refine hf_RT_I ?_ _ _ _ | refine hf_RT_L ?_ _ _ _ | refine hf_RT_N ?_ _ _ | refine hf_RT_R ?_ _ _ _ ⟨by decide, by decide⟩)
theorem hz_rt8 : hf_RT hm_8 := by
  unfold hm_8
  repeat (first | exact hz_rt7 | exact hz_rt6 | refine hf_RT_I ?_ _ _ _ | refine hf_RT_L ?_ _ _ _ | refine hf_RT_N ?_ _ _ | refine hf_RT_R ?_ _ _ _ ⟨by decide, by decide⟩)
theorem hz_rt9 : hf_RT hm_9 := by
  unfold hm_9
  repeat (first | exact hz_rt8 | exact hz_rt7 | refine hf_RT_I ?_ _ _ _ | refine hf_RT_L ?_ _ _ _ | refine hf_RT_N ?_ _ _ | refine hf_RT_R ?_ _ _ _ ⟨by decide, by decide⟩)
theorem hz_rt10 : hf_RT hm_10 := by
  unfold hm_10
  repeat (first | exact hz_rt9 | exact hz_rt8 | refine hf_RT_I ?_ _ _ _ | refine hf_RT_L ?_ _ _ _ | refine hf_RT_N ?_ _ _ | refine hf_RT_R ?_ _ _ _ ⟨by decide, by decide⟩)
theorem hz_rt11 : hf_RT hm_11 := by
  unfold hm_11
  repeat (first | exact hz_rt10 | exact hz_rt9 | refine hf_RT_I ?_ _ _ _ | refine hf_RT_L ?_ _ _ _ | refine hf_RT_N ?_ _ _ | refine hf_RT_R ?_ _ _ _ ⟨by decide, by decide⟩)
theorem hz_rt12 : hf_RT hm_12 := by
  unfold hm_12
  repeat (first | exact hz_rt11 | exact hz_rt10 | refine hf_RT_I ?_ _ _ _ | refine hf_RT_L ?_ _ _ _ | refine hf_RT_N ?_ _ _ | refine hf_RT_R ?_ _ _ _ ⟨by decide, by decide⟩)
theorem hz_rt13 : hf_RT hm_13 := by
  unfold hm_13
  repeat (first | exact hz_rt12 | exact hz_rt11 | refine hf_RT_I ?_ _ _ _ | refine hf_RT_L ?_ _ _ _ | refine hf_RT_N ?_ _ _ | refine hf_RT_R ?_ _ _ _ ⟨by decide, by decide⟩)
theorem hz_rt14 : hf_RT hm_14 := by
  unfold hm_14
  repeat (first | exact hz_rt13 | exact hz_rt12 | refine hf_RT_I ?_ _ _ _ | refine hf_RT_L ?_ _ _ _ | refine hf_RT_N ?_ _ _ | refine hf_RT_R ?_ _ _ _ ⟨by decide, by decide⟩)
theorem hz_rt15 : hf_RT hm_15 := by
  unfold hm_15
  repeat (first | exact hz_rt14 | exact hz_rt13 | refine hf_RT_I ?_ _ _ _ | refine hf_RT_L ?_ _ _ _ | refine hf_RT_N ?_ _ _ | refine hf_RT_R ?_ _ _ _ ⟨by decide, by decide⟩)
theorem hz_rt16 : hf_RT hm_16 := by
  unfold hm_16
  repeat (first | exact hz_rt15 | exact hz_rt14 | refine hf_RT_I ?_ _ _ _ | refine hf_RT_L ?_ _ _ _ | refine hf_RT_N ?_ _ _ | refine hf_RT_R ?_ _ _ _ ⟨by decide, by decide⟩)
theorem hz_rt17 : hf_RT hm_17 := by
  unfold hm_17
  repeat (first | exact hz_rt16 | exact hz_rt15 | refine hf_RT_I ?_ _ _ _ | refine hf_RT_L ?_ _ _ _ | refine hf_RT_N ?_ _ _ | refine hf_RT_R ?_ _ _ _ ⟨by decide, by decide⟩)
theorem hz_rt18 : hf_RT hm_18 := by
  unfold hm_18
  repeat (first | exact hz_rt17 | exact hz_rt16 | refine hf_RT_I ?_ _ _ _ | refine hf_RT_L ?_ _ _ _ | refine hf_RT_N ?_ _ _ | refine hf_RT_R ?_ _ _ _ ⟨by decide, by decide⟩)
theorem hz_rt19 : hf_RT hm_19 := by
  unfold hm_19
  repeat (first | exact hz_rt18 | exact hz_rt17 | refine hf_RT_I ?_ _ _ _ | refine hf_RT_L ?_ _ _ _ | refine hf_RT_N ?_ _ _ | refine hf_RT_R ?_ _ _ _ ⟨by decide, by decide⟩)
theorem hz_rt20 : hf_RT hm_20 := by
  unfold hm_20
  repeat (first | exact hz_rt19 | exact hz_rt18 | refine hf_RT_I ?_ _ _ _ | refine hf_RT_L ?_ _ _ _ | refine hf_RT_N ?_ _ _ | refine hf_RT_R ?_ _ _ _ ⟨by decide, by decide⟩)
theorem hz_rt21 : hf_RT hm_21 := by
  unfold hm_21
  repeat (first | exact hz_rt20 | exact hz_rt19 | refine hf_RT_I ?_ _ _ _ | refine hf_RT_L ?_ _ _ _ | refine hf_RT_N ?_ _ _ | refine hf_RT_R ?_ _ _ _ ⟨by decide, by decide⟩)
theorem hz_rt22 : hf_RT hm_22 := by
  unfold hm_22
  repeat (first | exact hz_rt21 | exact hz_rt20 | refine hf_RT_I ?_ _ _ _ | refine hf_RT_L ?_ _ _ _ | refine hf_RT_N ?_ _ _ | refine hf_RT_R ?_ _ _ _ ⟨by decide, by decide⟩)
theorem hz_rt23 : hf_RT hm_23 := by
  unfold hm_23
  repeat (first | exact hz_rt22 | exact hz_rt21 | refine hf_RT_I ?_ _ _ _ | refine hf_RT_L ?_ _ _ _ | refine hf_RT_N ?_ _ _ | refine hf_RT_R ?_ _ _ _ ⟨by decide, by decide⟩)
theorem hz_rt24 : hf_RT hm_24 := by
  unfold hm_24
  repeat (first | exact hz_rt23 | exact hz_rt22 | refine hf_RT_I ?_ _ _ _ | refine hf_RT_L ?_ _ _ _ | refine hf_RT_N ?_ _ _ | refine hf_RT_R ?_ _ _ _ ⟨by decide, by decide⟩)
theorem hz_rt25 : hf_RT hm_25 := by
  unfold hm_25
  repeat (first | exact hz_rt24 | exact hz_rt23 | refine hf_RT_I ?_ _ _ _ | refine hf_RT_L ?_ _ _ _ | refine hf_RT_N ?_ _ _ | refine hf_RT_R ?_ _ _ _ ⟨by decide, by decide⟩)
theorem hz_rt26 : hf_RT hm_26 := by
  unfold hm_26
  repeat (first | exact hz_rt25 | exact hz_rt24 | refine hf_RT_I ?_ _ _ _ | refine hf_RT_L ?_ _ _ _ | refine hf_RT_N ?_ _ _ | refine hf_RT_R ?_ _ _ _ ⟨by decide, by decide⟩)
theorem hz_rt27 : hf_RT hm_27 := by
  unfold hm_27
  repeat (first | exact hz_rt26 | exact hz_rt25 | refine hf_RT_I ?_ _ _ _ | refine hf_RT_L ?_ _ _ _ | refine hf_RT_N ?_ _ _ | refine hf_RT_R ?_ _ _ _ ⟨by decide, by decide⟩)
set_option maxRecDepth 100000 in
set_option maxHeartbeats 4000000 in
theorem hl_whole {Inv : hf_M → Prop} (hi : Inv hm_end) (hs : hs_all Inv) {p : Program} {e : Env} {s : State} {m : MethodId} {below : List Frame} {meth : Method} {c : Code} (l : Launch) {b L : Nat} {xs : Nat → Int32} (hL : L ≤ 3072) (C0 : lw_At p s m meth c b L xs) : W p l e room_1 s m #[Value.ref b] below meth c s.heap [] 0 0 (lw_Z below #[Value.ref b] s) (entryFrame m ([Value.ref b] : List Value).toArray 4) := by
  obtain ⟨hx, hb, hr, hml, hown, hts, hX, hbl, hlocks, hgv⟩ := id C0
  obtain ⟨g, hg0, hga, hK, hS⟩ := hz_start hts hgv
  have X : hf_X g p s m #[Value.ref b] meth c cL_law 4 RL ret := ⟨hx, hb, hml, hown, fun w h => hts w (List.mem_filter.mp h).1, hr, hlocks, hK, hS, by rw [hg0]; exact Nat.le_refl _⟩
  have hbA : ¬ hf_A g b := by
    rintro (⟨k, _, h⟩ | h)
    · rw [hga, hg0] at h; omega
    · rw [hg0] at h; omega
  have hl := lv_entry ([.ref b]) (n := 4) (Nat.le_of_ble_eq_true rfl)
  rw [lg_entry_eq]
  have hl2 : hf_L ((lg_sl ([.ref b]) ++ List.replicate (4 - (lg_sl ([.ref b])).length) Slot.unset).toArray) 4 (hf_L0 ([.ref b]) 4) := ⟨hl.1, hl.2.1, fun i v h => hl.2.2 (i, v) (by have := hf_L0_in ([.ref b]) _ 0 i v h; simpa using this)⟩
  have hP0 : hc_P g 0 hm_0 s s.heap [] := ⟨fun k q h => by simp [hc_w] at h, ⟨fun i j p q h => by simp [hc_w] at h, fun k q h => by simp [hc_w] at h⟩, va_S.rf, by rw [hg0]; rfl, hga⟩
  have hend : ∀ (M : hf_M) (i : Nat), Inv M → hl_W g p l e s m #[Value.ref b] below meth c 4 (lw_Z below #[Value.ref b] s) M 100 10000 1587 [some (.ref b), some (.ref (hf_a g 0)), some (.ref (hf_a g 49)), some (.int (nI i))] [] := by
    intro M i _
    refine hl_iconst X 1 dL_law_1587 (by decide) ?_
    intro H locs ls hP hL
    refine va_forget (fun q hq => ?_) (W.widen (k := 600000) (n := 7302250) (by decide) (by decide) (lw_ret hx hb hr hlocks dL_law_1588))
    rcases hP.2.2.1.2.2 q hq with ⟨k, _, h⟩ | h
    · rw [h, hga, hg0]; omega
    · rw [hg0] at h; exact h
  have key : hc_W g p l e room_1 s m #[Value.ref b] below meth c 4 (lw_Z below #[Value.ref b] s) 0 hm_0 0 0 0 [some (.ref b), none, none, none] [] := by
    refine hc_new X (ci := 4) (k := 9) rfl ⟨by decide, rfl, rfl⟩ (hf_c1 15 rfl rfl) (hf_c1 16 rfl rfl) (hf_c1 1 rfl rfl) hin_X4 tyX4_ok hdf_X4 (fun _ => rfl) (fun _ => rfl) (fun _ => rfl) (by decide) (by decide) dL_law_0 ?_
    refine hc_dup X dL_law_3 rfl ?_
    refine hc_call X ci_X4_0 (Or.inl (hf_c1 17 rfl rfl)) (hf_c1 18 rfl rfl) (hf_c1 1 rfl rfl) (hf_c1 19 rfl rfl) (by decide) rfl (by decide +kernel) rfl (by decide) (by decide) (Nat.le_of_ble_eq_true rfl) (by decide) (by decide) dL_law_4 ?_
    refine hc_astore_n X dL_law_7 (by decide) rfl ?_
    refine hc_new X (ci := 5) (k := 38) rfl ⟨by decide, rfl, rfl⟩ (hf_c4 53 rfl rfl) (hf_c4 54 rfl rfl) (hf_c1 6 rfl rfl) hin_X5 tyX5_ok hdf_X5 (fun _ => rfl) (fun _ => rfl) (fun _ => rfl) (by decide) (by decide) dL_law_8 ?_
    refine hc_dup X dL_law_11 rfl ?_
    refine hc_call X ci_X5_49 (Or.inl (hf_c4 55 rfl rfl)) (hf_c4 56 rfl rfl) (hf_c1 6 rfl rfl) (hf_c4 57 rfl rfl) (by decide) rfl (by decide +kernel) rfl (by decide) (by decide) (Nat.le_of_ble_eq_true rfl) (by decide) (by decide) dL_law_12 ?_
    refine hc_astore_n X dL_law_15 (by decide) rfl ?_
    refine hc_iconst X 0 dL_law_16 (by decide) ?_
    refine hc_istore_n X dL_law_17 (by decide) rfl ?_
    refine hc_wd (ce' := 100) (sl' := 10000) (by decide) (by decide) ?_
    intro H locs ls hP hLs
    exact hl_loop X ⟨hX, hbl, hbA⟩ hL hs hend L 0 hm_end (Nat.zero_le _) (by omega) hi H locs ls ⟨hP.1, hP.2.1, hP.2.2.1, hz_rt27⟩ hLs
  exact key s.heap [] _ hP0 hl2
