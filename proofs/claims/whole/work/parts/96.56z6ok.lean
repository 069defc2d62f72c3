theorem gc_all {y : Nat} (h1 : (gc_cd y).all (gc_okE y) = true) (h2 : gc_chain (gc_cd y) = true) (h3 : gc_okM y) : (∀ el ∈ gc_cd y, gc_okE y el = true) ∧ gc_chain (gc_cd y) = true ∧ gc_okM y := ⟨List.all_eq_true.mp h1, h2, h3⟩
theorem gc_all0 : ∀ j, j < 20 → (∀ el ∈ gc_cd (0 + j), gc_okE (0 + j) el = true) ∧ gc_chain (gc_cd (0 + j)) = true ∧ gc_okM (0 + j) := by
  intro j hj
  match j, hj with
  | 0, _ => exact gc_all gc_e0 gc_h0 gc_M0
  | 1, _ => exact gc_all gc_e1 gc_h1 gc_M1
  | 2, _ => exact gc_all gc_e2 gc_h2 gc_M2
  | 3, _ => exact gc_all gc_e3 gc_h3 gc_M3
  | 4, _ => exact gc_all gc_e4 gc_h4 gc_M4
  | 5, _ => exact gc_all gc_e5 gc_h5 gc_M5
  | 6, _ => exact gc_all gc_e6 gc_h6 gc_M6
  | 7, _ => exact gc_all gc_e7 gc_h7 gc_M7
  | 8, _ => exact gc_all gc_e8 gc_h8 gc_M8
  | 9, _ => exact gc_all gc_e9 gc_h9 gc_M9
  | 10, _ => exact gc_all gc_e10 gc_h10 gc_M10
  | 11, _ => exact gc_all gc_e11 gc_h11 gc_M11
  | 12, _ => exact gc_all gc_e12 gc_h12 gc_M12
  | 13, _ => exact gc_all gc_e13 gc_h13 gc_M13
  | 14, _ => exact gc_all gc_e14 gc_h14 gc_M14
  | 15, _ => exact gc_all gc_e15 gc_h15 gc_M15
  | 16, _ => exact gc_all gc_e16 gc_h16 gc_M16
  | 17, _ => exact gc_all gc_e17 gc_h17 gc_M17
  | 18, _ => exact gc_all gc_e18 gc_h18 gc_M18
  | 19, _ => exact gc_all gc_e19 gc_h19 gc_M19
  | n + 20, h => omega
theorem gc_all1 : ∀ j, j < 20 → (∀ el ∈ gc_cd (20 + j), gc_okE (20 + j) el = true) ∧ gc_chain (gc_cd (20 + j)) = true ∧ gc_okM (20 + j) := by
  intro j hj
  match j, hj with
  | 0, _ => exact gc_all gc_e20 gc_h20 gc_M20
  | 1, _ => exact gc_all gc_e21 gc_h21 gc_M21
  | 2, _ => exact gc_all gc_e22 gc_h22 gc_M22
  | 3, _ => exact gc_all gc_e23 gc_h23 gc_M23
  | 4, _ => exact gc_all gc_e24 gc_h24 gc_M24
  | 5, _ => exact gc_all gc_e25 gc_h25 gc_M25
  | 6, _ => exact gc_all gc_e26 gc_h26 gc_M26
  | 7, _ => exact gc_all gc_e27 gc_h27 gc_M27
  | 8, _ => exact gc_all gc_e28 gc_h28 gc_M28
  | 9, _ => exact gc_all gc_e29 gc_h29 gc_M29
  | 10, _ => exact gc_all gc_e30 gc_h30 gc_M30
  | 11, _ => exact gc_all gc_e31 gc_h31 gc_M31
  | 12, _ => exact gc_all gc_e32 gc_h32 gc_M32
  | 13, _ => exact gc_all gc_e33 gc_h33 gc_M33
  | 14, _ => exact gc_all gc_e34 gc_h34 gc_M34
  | 15, _ => exact gc_all gc_e35 gc_h35 gc_M35
  | 16, _ => exact gc_all gc_e36 gc_h36 gc_M36
  | 17, _ => exact gc_all gc_e37 gc_h37 gc_M37
  | 18, _ => exact gc_all gc_e38 gc_h38 gc_M38
  | 19, _ => exact gc_all gc_e39 gc_h39 gc_M39
  | n + 20, h => omega
theorem gc_all2 : ∀ j, j < 20 → (∀ el ∈ gc_cd (40 + j), gc_okE (40 + j) el = true) ∧ gc_chain (gc_cd (40 + j)) = true ∧ gc_okM (40 + j) := by
  intro j hj
  match j, hj with
  | 0, _ => exact gc_all gc_e40 gc_h40 gc_M40
  | 1, _ => exact gc_all gc_e41 gc_h41 gc_M41
  | 2, _ => exact gc_all gc_e42 gc_h42 gc_M42
  | 3, _ => exact gc_all gc_e43 gc_h43 gc_M43
  | 4, _ => exact gc_all gc_e44 gc_h44 gc_M44
  | 5, _ => exact gc_all gc_e45 gc_h45 gc_M45
  | 6, _ => exact gc_all gc_e46 gc_h46 gc_M46
  | 7, _ => exact gc_all gc_e47 gc_h47 gc_M47
  | 8, _ => exact gc_all gc_e48 gc_h48 gc_M48
  | 9, _ => exact gc_all gc_e49 gc_h49 gc_M49
  | 10, _ => exact gc_all gc_e50 gc_h50 gc_M50
  | 11, _ => exact gc_all gc_e51 gc_h51 gc_M51
  | 12, _ => exact gc_all gc_e52 gc_h52 gc_M52
  | 13, _ => exact gc_all gc_e53 gc_h53 gc_M53
  | 14, _ => exact gc_all gc_e54 gc_h54 gc_M54
  | 15, _ => exact gc_all gc_e55 gc_h55 gc_M55
  | 16, _ => exact gc_all gc_e56 gc_h56 gc_M56
  | 17, _ => exact gc_all gc_e57 gc_h57 gc_M57
  | 18, _ => exact gc_all gc_e58 gc_h58 gc_M58
  | 19, _ => exact gc_all gc_e59 gc_h59 gc_M59
  | n + 20, h => omega
theorem gc_all3 : ∀ j, j < 20 → (∀ el ∈ gc_cd (60 + j), gc_okE (60 + j) el = true) ∧ gc_chain (gc_cd (60 + j)) = true ∧ gc_okM (60 + j) := by
  intro j hj
  match j, hj with
  | 0, _ => exact gc_all gc_e60 gc_h60 gc_M60
  | 1, _ => exact gc_all gc_e61 gc_h61 gc_M61
  | 2, _ => exact gc_all gc_e62 gc_h62 gc_M62
  | 3, _ => exact gc_all gc_e63 gc_h63 gc_M63
  | 4, _ => exact gc_all gc_e64 gc_h64 gc_M64
  | 5, _ => exact gc_all gc_e65 gc_h65 gc_M65
  | 6, _ => exact gc_all gc_e66 gc_h66 gc_M66
  | 7, _ => exact gc_all gc_e67 gc_h67 gc_M67
  | 8, _ => exact gc_all gc_e68 gc_h68 gc_M68
  | 9, _ => exact gc_all gc_e69 gc_h69 gc_M69
  | 10, _ => exact gc_all gc_e70 gc_h70 gc_M70
  | 11, _ => exact gc_all gc_e71 gc_h71 gc_M71
  | 12, _ => exact gc_all gc_e72 gc_h72 gc_M72
  | 13, _ => exact gc_all gc_e73 gc_h73 gc_M73
  | 14, _ => exact gc_all gc_e74 gc_h74 gc_M74
  | 15, _ => exact gc_all gc_e75 gc_h75 gc_M75
  | 16, _ => exact gc_all gc_e76 gc_h76 gc_M76
  | 17, _ => exact gc_all gc_e77 gc_h77 gc_M77
  | 18, _ => exact gc_all gc_e78 gc_h78 gc_M78
  | 19, _ => exact gc_all gc_e79 gc_h79 gc_M79
  | n + 20, h => omega
theorem gc_all4 : ∀ j, j < 20 → (∀ el ∈ gc_cd (80 + j), gc_okE (80 + j) el = true) ∧ gc_chain (gc_cd (80 + j)) = true ∧ gc_okM (80 + j) := by
  intro j hj
  match j, hj with
  | 0, _ => exact gc_all gc_e80 gc_h80 gc_M80
  | 1, _ => exact gc_all gc_e81 gc_h81 gc_M81
  | 2, _ => exact gc_all gc_e82 gc_h82 gc_M82
  | 3, _ => exact gc_all gc_e83 gc_h83 gc_M83
  | 4, _ => exact gc_all gc_e84 gc_h84 gc_M84
  | 5, _ => exact gc_all gc_e85 gc_h85 gc_M85
  | 6, _ => exact gc_all gc_e86 gc_h86 gc_M86
  | 7, _ => exact gc_all gc_e87 gc_h87 gc_M87
  | 8, _ => exact gc_all gc_e88 gc_h88 gc_M88
  | 9, _ => exact gc_all gc_e89 gc_h89 gc_M89
  | 10, _ => exact gc_all gc_e90 gc_h90 gc_M90
  | 11, _ => exact gc_all gc_e91 gc_h91 gc_M91
  | 12, _ => exact gc_all gc_e92 gc_h92 gc_M92
  | 13, _ => exact gc_all gc_e93 gc_h93 gc_M93
  | 14, _ => exact gc_all gc_e94 gc_h94 gc_M94
  | 15, _ => exact gc_all gc_e95 gc_h95 gc_M95
  | 16, _ => exact gc_all gc_e96 gc_h96 gc_M96
  | 17, _ => exact gc_all gc_e97 gc_h97 gc_M97
  | 18, _ => exact gc_all gc_e98 gc_h98 gc_M98
  | 19, _ => exact gc_all gc_e99 gc_h99 gc_M99
  | n + 20, h => omega
theorem gc_all5 : ∀ j, j < 20 → (∀ el ∈ gc_cd (100 + j), gc_okE (100 + j) el = true) ∧ gc_chain (gc_cd (100 + j)) = true ∧ gc_okM (100 + j) := by
  intro j hj
  match j, hj with
  | 0, _ => exact gc_all gc_e100 gc_h100 gc_M100
  | 1, _ => exact gc_all gc_e101 gc_h101 gc_M101
  | 2, _ => exact gc_all gc_e102 gc_h102 gc_M102
  | 3, _ => exact gc_all gc_e103 gc_h103 gc_M103
  | 4, _ => exact gc_all gc_e104 gc_h104 gc_M104
  | 5, _ => exact gc_all gc_e105 gc_h105 gc_M105
  | 6, _ => exact gc_all gc_e106 gc_h106 gc_M106
  | 7, _ => exact gc_all gc_e107 gc_h107 gc_M107
  | 8, _ => exact gc_all gc_e108 gc_h108 gc_M108
  | 9, _ => exact gc_all gc_e109 gc_h109 gc_M109
  | 10, _ => exact gc_all gc_e110 gc_h110 gc_M110
  | 11, _ => exact gc_all gc_e111 gc_h111 gc_M111
  | 12, _ => exact gc_all gc_e112 gc_h112 gc_M112
  | 13, _ => exact gc_all gc_e113 gc_h113 gc_M113
  | 14, _ => exact gc_all gc_e114 gc_h114 gc_M114
  | 15, _ => exact gc_all gc_e115 gc_h115 gc_M115
  | 16, _ => exact gc_all gc_e116 gc_h116 gc_M116
  | 17, _ => exact gc_all gc_e117 gc_h117 gc_M117
  | 18, _ => exact gc_all gc_e118 gc_h118 gc_M118
  | 19, _ => exact gc_all gc_e119 gc_h119 gc_M119
  | n + 20, h => omega
theorem gc_all6 : ∀ j, j < 20 → (∀ el ∈ gc_cd (120 + j), gc_okE (120 + j) el = true) ∧ gc_chain (gc_cd (120 + j)) = true ∧ gc_okM (120 + j) := by
  intro j hj
  match j, hj with
  | 0, _ => exact gc_all gc_e120 gc_h120 gc_M120
  | 1, _ => exact gc_all gc_e121 gc_h121 gc_M121
  | 2, _ => exact gc_all gc_e122 gc_h122 gc_M122
  | 3, _ => exact gc_all gc_e123 gc_h123 gc_M123
  | 4, _ => exact gc_all gc_e124 gc_h124 gc_M124
  | 5, _ => exact gc_all gc_e125 gc_h125 gc_M125
  | 6, _ => exact gc_all gc_e126 gc_h126 gc_M126
  | 7, _ => exact gc_all gc_e127 gc_h127 gc_M127
  | 8, _ => exact gc_all gc_e128 gc_h128 gc_M128
  | 9, _ => exact gc_all gc_e129 gc_h129 gc_M129
  | 10, _ => exact gc_all gc_e130 gc_h130 gc_M130
  | 11, _ => exact gc_all gc_e131 gc_h131 gc_M131
  | 12, _ => exact gc_all gc_e132 gc_h132 gc_M132
  | 13, _ => exact gc_all gc_e133 gc_h133 gc_M133
  | 14, _ => exact gc_all gc_e134 gc_h134 gc_M134
  | 15, _ => exact gc_all gc_e135 gc_h135 gc_M135
  | 16, _ => exact gc_all gc_e136 gc_h136 gc_M136
  | 17, _ => exact gc_all gc_e137 gc_h137 gc_M137
  | 18, _ => exact gc_all gc_e138 gc_h138 gc_M138
  | 19, _ => exact gc_all gc_e139 gc_h139 gc_M139
  | n + 20, h => omega
theorem gc_all7 : ∀ j, j < 20 → (∀ el ∈ gc_cd (140 + j), gc_okE (140 + j) el = true) ∧ gc_chain (gc_cd (140 + j)) = true ∧ gc_okM (140 + j) := by
  intro j hj
  match j, hj with
  | 0, _ => exact gc_all gc_e140 gc_h140 gc_M140
  | 1, _ => exact gc_all gc_e141 gc_h141 gc_M141
  | 2, _ => exact gc_all gc_e142 gc_h142 gc_M142
  | 3, _ => exact gc_all gc_e143 gc_h143 gc_M143
  | 4, _ => exact gc_all gc_e144 gc_h144 gc_M144
  | 5, _ => exact gc_all gc_e145 gc_h145 gc_M145
  | 6, _ => exact gc_all gc_e146 gc_h146 gc_M146
  | 7, _ => exact gc_all gc_e147 gc_h147 gc_M147
  | 8, _ => exact gc_all gc_e148 gc_h148 gc_M148
  | 9, _ => exact gc_all gc_e149 gc_h149 gc_M149
  | 10, _ => exact gc_all gc_e150 gc_h150 gc_M150
  | 11, _ => exact gc_all gc_e151 gc_h151 gc_M151
  | 12, _ => exact gc_all gc_e152 gc_h152 gc_M152
  | 13, _ => exact gc_all gc_e153 gc_h153 gc_M153
  | 14, _ => exact gc_all gc_e154 gc_h154 gc_M154
  | 15, _ => exact gc_all gc_e155 gc_h155 gc_M155
  | 16, _ => exact gc_all gc_e156 gc_h156 gc_M156
  | 17, _ => exact gc_all gc_e157 gc_h157 gc_M157
  | 18, _ => exact gc_all gc_e158 gc_h158 gc_M158
  | 19, _ => exact gc_all gc_e159 gc_h159 gc_M159
  | n + 20, h => omega
theorem gc_all8 : ∀ j, j < 20 → (∀ el ∈ gc_cd (160 + j), gc_okE (160 + j) el = true) ∧ gc_chain (gc_cd (160 + j)) = true ∧ gc_okM (160 + j) := by
  intro j hj
  match j, hj with
  | 0, _ => exact gc_all gc_e160 gc_h160 gc_M160
  | 1, _ => exact gc_all gc_e161 gc_h161 gc_M161
  | 2, _ => exact gc_all gc_e162 gc_h162 gc_M162
  | 3, _ => exact gc_all gc_e163 gc_h163 gc_M163
  | 4, _ => exact gc_all gc_e164 gc_h164 gc_M164
  | 5, _ => exact gc_all gc_e165 gc_h165 gc_M165
  | 6, _ => exact gc_all gc_e166 gc_h166 gc_M166
  | 7, _ => exact gc_all gc_e167 gc_h167 gc_M167
  | 8, _ => exact gc_all gc_e168 gc_h168 gc_M168
  | 9, _ => exact gc_all gc_e169 gc_h169 gc_M169
  | 10, _ => exact gc_all gc_e170 gc_h170 gc_M170
  | 11, _ => exact gc_all gc_e171 gc_h171 gc_M171
  | 12, _ => exact gc_all gc_e172 gc_h172 gc_M172
  | 13, _ => exact gc_all gc_e173 gc_h173 gc_M173
  | 14, _ => exact gc_all gc_e174 gc_h174 gc_M174
  | 15, _ => exact gc_all gc_e175 gc_h175 gc_M175
  | 16, _ => exact gc_all gc_e176 gc_h176 gc_M176
  | 17, _ => exact gc_all gc_e177 gc_h177 gc_M177
  | 18, _ => exact gc_all gc_e178 gc_h178 gc_M178
  | 19, _ => exact gc_all gc_e179 gc_h179 gc_M179
  | n + 20, h => omega
theorem gc_all9 : ∀ j, j < 20 → (∀ el ∈ gc_cd (180 + j), gc_okE (180 + j) el = true) ∧ gc_chain (gc_cd (180 + j)) = true ∧ gc_okM (180 + j) := by
  intro j hj
  match j, hj with
  | 0, _ => exact gc_all gc_e180 gc_h180 gc_M180
  | 1, _ => exact gc_all gc_e181 gc_h181 gc_M181
  | 2, _ => exact gc_all gc_e182 gc_h182 gc_M182
  | 3, _ => exact gc_all gc_e183 gc_h183 gc_M183
  | 4, _ => exact gc_all gc_e184 gc_h184 gc_M184
  | 5, _ => exact gc_all gc_e185 gc_h185 gc_M185
  | 6, _ => exact gc_all gc_e186 gc_h186 gc_M186
  | 7, _ => exact gc_all gc_e187 gc_h187 gc_M187
  | 8, _ => exact gc_all gc_e188 gc_h188 gc_M188
  | 9, _ => exact gc_all gc_e189 gc_h189 gc_M189
  | 10, _ => exact gc_all gc_e190 gc_h190 gc_M190
  | 11, _ => exact gc_all gc_e191 gc_h191 gc_M191
  | 12, _ => exact gc_all gc_e192 gc_h192 gc_M192
  | 13, _ => exact gc_all gc_e193 gc_h193 gc_M193
  | 14, _ => exact gc_all gc_e194 gc_h194 gc_M194
  | 15, _ => exact gc_all gc_e195 gc_h195 gc_M195
  | 16, _ => exact gc_all gc_e196 gc_h196 gc_M196
  | 17, _ => exact gc_all gc_e197 gc_h197 gc_M197
  | 18, _ => exact gc_all gc_e198 gc_h198 gc_M198
  | 19, _ => exact gc_all gc_e199 gc_h199 gc_M199
  | n + 20, h => omega
theorem gc_all10 : ∀ j, j < 20 → (∀ el ∈ gc_cd (200 + j), gc_okE (200 + j) el = true) ∧ gc_chain (gc_cd (200 + j)) = true ∧ gc_okM (200 + j) := by
  intro j hj
  match j, hj with
  | 0, _ => exact gc_all gc_e200 gc_h200 gc_M200
  | 1, _ => exact gc_all gc_e201 gc_h201 gc_M201
  | 2, _ => exact gc_all gc_e202 gc_h202 gc_M202
  | 3, _ => exact gc_all gc_e203 gc_h203 gc_M203
  | 4, _ => exact gc_all gc_e204 gc_h204 gc_M204
  | 5, _ => exact gc_all gc_e205 gc_h205 gc_M205
  | 6, _ => exact gc_all gc_e206 gc_h206 gc_M206
  | 7, _ => exact gc_all gc_e207 gc_h207 gc_M207
  | 8, _ => exact gc_all gc_e208 gc_h208 gc_M208
  | 9, _ => exact gc_all gc_e209 gc_h209 gc_M209
  | 10, _ => exact gc_all gc_e210 gc_h210 gc_M210
  | 11, _ => exact gc_all gc_e211 gc_h211 gc_M211
  | 12, _ => exact gc_all gc_e212 gc_h212 gc_M212
  | 13, _ => exact gc_all gc_e213 gc_h213 gc_M213
  | 14, _ => exact gc_all gc_e214 gc_h214 gc_M214
  | 15, _ => exact gc_all gc_e215 gc_h215 gc_M215
  | 16, _ => exact gc_all gc_e216 gc_h216 gc_M216
  | 17, _ => exact gc_all gc_e217 gc_h217 gc_M217
  | 18, _ => exact gc_all gc_e218 gc_h218 gc_M218
  | 19, _ => exact gc_all gc_e219 gc_h219 gc_M219
  | n + 20, h => omega
theorem gc_all11 : ∀ j, j < 20 → (∀ el ∈ gc_cd (220 + j), gc_okE (220 + j) el = true) ∧ gc_chain (gc_cd (220 + j)) = true ∧ gc_okM (220 + j) := by
  intro j hj
  match j, hj with
  | 0, _ => exact gc_all gc_e220 gc_h220 gc_M220
  | 1, _ => exact gc_all gc_e221 gc_h221 gc_M221
  | 2, _ => exact gc_all gc_e222 gc_h222 gc_M222
  | 3, _ => exact gc_all gc_e223 gc_h223 gc_M223
  | 4, _ => exact gc_all gc_e224 gc_h224 gc_M224
  | 5, _ => exact gc_all gc_e225 gc_h225 gc_M225
  | 6, _ => exact gc_all gc_e226 gc_h226 gc_M226
  | 7, _ => exact gc_all gc_e227 gc_h227 gc_M227
  | 8, _ => exact gc_all gc_e228 gc_h228 gc_M228
  | 9, _ => exact gc_all gc_e229 gc_h229 gc_M229
  | 10, _ => exact gc_all gc_e230 gc_h230 gc_M230
  | 11, _ => exact gc_all gc_e231 gc_h231 gc_M231
  | 12, _ => exact gc_all gc_e232 gc_h232 gc_M232
  | 13, _ => exact gc_all gc_e233 gc_h233 gc_M233
  | 14, _ => exact gc_all gc_e234 gc_h234 gc_M234
  | 15, _ => exact gc_all gc_e235 gc_h235 gc_M235
  | 16, _ => exact gc_all gc_e236 gc_h236 gc_M236
  | 17, _ => exact gc_all gc_e237 gc_h237 gc_M237
  | 18, _ => exact gc_all gc_e238 gc_h238 gc_M238
  | 19, _ => exact gc_all gc_e239 gc_h239 gc_M239
  | n + 20, h => omega
theorem gc_all12 : ∀ j, j < 20 → (∀ el ∈ gc_cd (240 + j), gc_okE (240 + j) el = true) ∧ gc_chain (gc_cd (240 + j)) = true ∧ gc_okM (240 + j) := by
  intro j hj
  match j, hj with
  | 0, _ => exact gc_all gc_e240 gc_h240 gc_M240
  | 1, _ => exact gc_all gc_e241 gc_h241 gc_M241
  | 2, _ => exact gc_all gc_e242 gc_h242 gc_M242
  | 3, _ => exact gc_all gc_e243 gc_h243 gc_M243
  | 4, _ => exact gc_all gc_e244 gc_h244 gc_M244
  | 5, _ => exact gc_all gc_e245 gc_h245 gc_M245
  | 6, _ => exact gc_all gc_e246 gc_h246 gc_M246
  | 7, _ => exact gc_all gc_e247 gc_h247 gc_M247
  | 8, _ => exact gc_all gc_e248 gc_h248 gc_M248
  | 9, _ => exact gc_all gc_e249 gc_h249 gc_M249
  | 10, _ => exact gc_all gc_e250 gc_h250 gc_M250
  | 11, _ => exact gc_all gc_e251 gc_h251 gc_M251
  | 12, _ => exact gc_all gc_e252 gc_h252 gc_M252
  | 13, _ => exact gc_all gc_e253 gc_h253 gc_M253
  | 14, _ => exact gc_all gc_e254 gc_h254 gc_M254
  | 15, _ => exact gc_all gc_e255 gc_h255 gc_M255
  | 16, _ => exact gc_all gc_e256 gc_h256 gc_M256
  | 17, _ => exact gc_all gc_e257 gc_h257 gc_M257
  | 18, _ => exact gc_all gc_e258 gc_h258 gc_M258
  | 19, _ => exact gc_all gc_e259 gc_h259 gc_M259
  | n + 20, h => omega
theorem gc_all13 : ∀ j, j < 20 → (∀ el ∈ gc_cd (260 + j), gc_okE (260 + j) el = true) ∧ gc_chain (gc_cd (260 + j)) = true ∧ gc_okM (260 + j) := by
  intro j hj
  match j, hj with
  | 0, _ => exact gc_all gc_e260 gc_h260 gc_M260
  | 1, _ => exact gc_all gc_e261 gc_h261 gc_M261
  | 2, _ => exact gc_all gc_e262 gc_h262 gc_M262
  | 3, _ => exact gc_all gc_e263 gc_h263 gc_M263
  | 4, _ => exact gc_all gc_e264 gc_h264 gc_M264
  | 5, _ => exact gc_all gc_e265 gc_h265 gc_M265
  | 6, _ => exact gc_all gc_e266 gc_h266 gc_M266
  | 7, _ => exact gc_all gc_e267 gc_h267 gc_M267
  | 8, _ => exact gc_all gc_e268 gc_h268 gc_M268
  | 9, _ => exact gc_all gc_e269 gc_h269 gc_M269
  | 10, _ => exact gc_all gc_e270 gc_h270 gc_M270
  | 11, _ => exact gc_all gc_e271 gc_h271 gc_M271
  | 12, _ => exact gc_all gc_e272 gc_h272 gc_M272
  | 13, _ => exact gc_all gc_e273 gc_h273 gc_M273
  | 14, _ => exact gc_all gc_e274 gc_h274 gc_M274
  | 15, _ => exact gc_all gc_e275 gc_h275 gc_M275
  | 16, _ => exact gc_all gc_e276 gc_h276 gc_M276
  | 17, _ => exact gc_all gc_e277 gc_h277 gc_M277
  | 18, _ => exact gc_all gc_e278 gc_h278 gc_M278
  | 19, _ => exact gc_all gc_e279 gc_h279 gc_M279
  | n + 20, h => omega
theorem gc_all14 : ∀ j, j < 18 → (∀ el ∈ gc_cd (280 + j), gc_okE (280 + j) el = true) ∧ gc_chain (gc_cd (280 + j)) = true ∧ gc_okM (280 + j) := by
  intro j hj
  match j, hj with
  | 0, _ => exact gc_all gc_e280 gc_h280 gc_M280
  | 1, _ => exact gc_all gc_e281 gc_h281 gc_M281
  | 2, _ => exact gc_all gc_e282 gc_h282 gc_M282
  | 3, _ => exact gc_all gc_e283 gc_h283 gc_M283
  | 4, _ => exact gc_all gc_e284 gc_h284 gc_M284
  | 5, _ => exact gc_all gc_e285 gc_h285 gc_M285
  | 6, _ => exact gc_all gc_e286 gc_h286 gc_M286
  | 7, _ => exact gc_all gc_e287 gc_h287 gc_M287
  | 8, _ => exact gc_all gc_e288 gc_h288 gc_M288
  | 9, _ => exact gc_all gc_e289 gc_h289 gc_M289
  | 10, _ => exact gc_all gc_e290 gc_h290 gc_M290
  | 11, _ => exact gc_all gc_e291 gc_h291 gc_M291
  | 12, _ => exact gc_all gc_e292 gc_h292 gc_M292
  | 13, _ => exact gc_all gc_e293 gc_h293 gc_M293
  | 14, _ => exact gc_all gc_e294 gc_h294 gc_M294
  | 15, _ => exact gc_all gc_e295 gc_h295 gc_M295
  | 16, _ => exact gc_all gc_e296 gc_h296 gc_M296
  | 17, _ => exact gc_all gc_e297 gc_h297 gc_M297
  | n + 18, h => omega
theorem gc_okY (y : Nat) (hy : y < gc_NM) : (∀ el ∈ gc_cd y, gc_okE y el = true) ∧ gc_chain (gc_cd y) = true ∧ gc_okM y := by
  have hy : y < 298 := hy
  by_cases h0 : y < 20
  · obtain ⟨j, rfl⟩ : ∃ j, y = 0 + j := ⟨y - 0, by omega⟩
    exact gc_all0 j (by omega)
  by_cases h1 : y < 40
  · obtain ⟨j, rfl⟩ : ∃ j, y = 20 + j := ⟨y - 20, by omega⟩
    exact gc_all1 j (by omega)
  by_cases h2 : y < 60
  · obtain ⟨j, rfl⟩ : ∃ j, y = 40 + j := ⟨y - 40, by omega⟩
    exact gc_all2 j (by omega)
  by_cases h3 : y < 80
  · obtain ⟨j, rfl⟩ : ∃ j, y = 60 + j := ⟨y - 60, by omega⟩
    exact gc_all3 j (by omega)
  by_cases h4 : y < 100
  · obtain ⟨j, rfl⟩ : ∃ j, y = 80 + j := ⟨y - 80, by omega⟩
    exact gc_all4 j (by omega)
  by_cases h5 : y < 120
  · obtain ⟨j, rfl⟩ : ∃ j, y = 100 + j := ⟨y - 100, by omega⟩
    exact gc_all5 j (by omega)
  by_cases h6 : y < 140
  · obtain ⟨j, rfl⟩ : ∃ j, y = 120 + j := ⟨y - 120, by omega⟩
    exact gc_all6 j (by omega)
  by_cases h7 : y < 160
  · obtain ⟨j, rfl⟩ : ∃ j, y = 140 + j := ⟨y - 140, by omega⟩
    exact gc_all7 j (by omega)
  by_cases h8 : y < 180
  · obtain ⟨j, rfl⟩ : ∃ j, y = 160 + j := ⟨y - 160, by omega⟩
    exact gc_all8 j (by omega)
  by_cases h9 : y < 200
  · obtain ⟨j, rfl⟩ : ∃ j, y = 180 + j := ⟨y - 180, by omega⟩
    exact gc_all9 j (by omega)
  by_cases h10 : y < 220
  · obtain ⟨j, rfl⟩ : ∃ j, y = 200 + j := ⟨y - 200, by omega⟩
    exact gc_all10 j (by omega)
  by_cases h11 : y < 240
  · obtain ⟨j, rfl⟩ : ∃ j, y = 220 + j := ⟨y - 220, by omega⟩
    exact gc_all11 j (by omega)
  by_cases h12 : y < 260
  · obtain ⟨j, rfl⟩ : ∃ j, y = 240 + j := ⟨y - 240, by omega⟩
    exact gc_all12 j (by omega)
  by_cases h13 : y < 280
  · obtain ⟨j, rfl⟩ : ∃ j, y = 260 + j := ⟨y - 260, by omega⟩
    exact gc_all13 j (by omega)
  by_cases h14 : y < 298
  · obtain ⟨j, rfl⟩ : ∃ j, y = 280 + j := ⟨y - 280, by omega⟩
    exact gc_all14 j (by omega)
  omega
theorem gc_ok : gc_okP := by
  refine ⟨gc_okY, gc_inL [_] [164] (by decide +kernel) (by decide +kernel) _ List.mem_cons_self, gc_inL [_] [165] (by decide +kernel) (by decide +kernel) _ List.mem_cons_self, ?_, gc_inL [_] [1349] (by decide +kernel) (by decide +kernel) _ List.mem_cons_self, gc_inL [_] [1348] (by decide +kernel) (by decide +kernel) _ List.mem_cons_self, gc_inL [_] [157] (by decide +kernel) (by decide +kernel) _ List.mem_cons_self, gc_inL [_] [154] (by decide +kernel) (by decide +kernel) _ List.mem_cons_self, gc_inL [_] [973] (by decide +kernel) (by decide +kernel) _ List.mem_cons_self, gc_inL [_] [974] (by decide +kernel) (by decide +kernel) _ List.mem_cons_self, gc_inL [_] [1265] (by decide +kernel) (by decide +kernel) _ List.mem_cons_self, gc_inL [_] [1266] (by decide +kernel) (by decide +kernel) _ List.mem_cons_self⟩
  intro t ht
  match t, ht with
  | 0, _ => exact gc_inL [_] [315] (by decide +kernel) (by decide +kernel) _ List.mem_cons_self
  | 1, _ => exact gc_inL [_] [181] (by decide +kernel) (by decide +kernel) _ List.mem_cons_self
  | 2, _ => exact gc_inL [_] [316] (by decide +kernel) (by decide +kernel) _ List.mem_cons_self
  | 3, _ => exact gc_inL [_] [1695] (by decide +kernel) (by decide +kernel) _ List.mem_cons_self
  | n + 4, h => omega
