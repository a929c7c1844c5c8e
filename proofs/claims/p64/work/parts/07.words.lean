theorem rc0 : vwCl[0]? = some (RX0, TX0, 8) := rfl
theorem rc1 : vwCl[1]? = some (RX1, TX1, 7) := rfl
theorem rc2 : vwCl[2]? = some (RX2, TX2, 7) := rfl
theorem rc3 : vwCl[3]? = some (RX3, TX3, 4) := rfl
theorem rc4 : vwCl[4]? = some (RX4, TX4, 7) := rfl
theorem rc5 : vwCl[5]? = some (RX5, TX5, 11) := rfl
theorem rc6 : vwCl[6]? = some (RX6, TX6, 2) := rfl
theorem rc7 : vwCl[7]? = some (RX7, TX7, 9) := rfl
theorem rc8 : vwCl[8]? = some (RX8, TX8, 4) := rfl
theorem rc9 : vwCl[9]? = some (RX9, TX9, 3) := rfl
theorem rc10 : vwCl[10]? = some (RX10, TX10, 4) := rfl
theorem rc11 : vwCl[11]? = some (RX11, TX11, 12) := rfl
theorem rc12 : vwCl[12]? = some (RX12, TX12, 17) := rfl
theorem rc13 : vwCl[13]? = some (RX13, TX13, 2) := rfl
theorem rc14 : vwCl[14]? = some (RJ0, TJ0, 4) := rfl
theorem rc15 : vwCl[15]? = some (RJ4, TJ4, 4) := rfl
theorem uw0 : ∀ w ∈ u_ws RX0 TX0 8, Gd w := by
  have h : ∀ w ∈ u_ws RX0 TX0 8, w ∈ lw_tbl ∧ okW w = true := by decide +kernel
  exact fun w hw => gdm (h w hw)
theorem uw1 : ∀ w ∈ u_ws RX1 TX1 7, Gd w := by
  have h : ∀ w ∈ u_ws RX1 TX1 7, w ∈ lw_tbl ∧ okW w = true := by decide +kernel
  exact fun w hw => gdm (h w hw)
theorem uw2 : ∀ w ∈ u_ws RX2 TX2 7, Gd w := by
  have h : ∀ w ∈ u_ws RX2 TX2 7, w ∈ lw_tbl ∧ okW w = true := by decide +kernel
  exact fun w hw => gdm (h w hw)
theorem uw3 : ∀ w ∈ u_ws RX3 TX3 4, Gd w := by
  have h : ∀ w ∈ u_ws RX3 TX3 4, w ∈ lw_tbl ∧ okW w = true := by decide +kernel
  exact fun w hw => gdm (h w hw)
theorem uw4 : ∀ w ∈ u_ws RX4 TX4 7, Gd w := by
  have h : ∀ w ∈ u_ws RX4 TX4 7, w ∈ lw_tbl ∧ okW w = true := by decide +kernel
  exact fun w hw => gdm (h w hw)
theorem uw5 : ∀ w ∈ u_ws RX5 TX5 11, Gd w := by
  have h : ∀ w ∈ u_ws RX5 TX5 11, w ∈ lw_tbl ∧ okW w = true := by decide +kernel
  exact fun w hw => gdm (h w hw)
theorem uw6 : ∀ w ∈ u_ws RX6 TX6 2, Gd w := by
  have h : ∀ w ∈ u_ws RX6 TX6 2, w ∈ lw_tbl ∧ okW w = true := by decide +kernel
  exact fun w hw => gdm (h w hw)
theorem uw7 : ∀ w ∈ u_ws RX7 TX7 9, Gd w := by
  have h : ∀ w ∈ u_ws RX7 TX7 9, w ∈ lw_tbl ∧ okW w = true := by decide +kernel
  exact fun w hw => gdm (h w hw)
theorem uw8 : ∀ w ∈ u_ws RX8 TX8 4, Gd w := by
  have h : ∀ w ∈ u_ws RX8 TX8 4, w ∈ lw_tbl ∧ okW w = true := by decide +kernel
  exact fun w hw => gdm (h w hw)
theorem uw9 : ∀ w ∈ u_ws RX9 TX9 3, Gd w := by
  have h : ∀ w ∈ u_ws RX9 TX9 3, w ∈ lw_tbl ∧ okW w = true := by decide +kernel
  exact fun w hw => gdm (h w hw)
theorem uw10 : ∀ w ∈ u_ws RX10 TX10 4, Gd w := by
  have h : ∀ w ∈ u_ws RX10 TX10 4, w ∈ lw_tbl ∧ okW w = true := by decide +kernel
  exact fun w hw => gdm (h w hw)
theorem uw11 : ∀ w ∈ u_ws RX11 TX11 12, Gd w := by
  have h : ∀ w ∈ u_ws RX11 TX11 12, w ∈ lw_tbl ∧ okW w = true := by decide +kernel
  exact fun w hw => gdm (h w hw)
theorem uw12 : ∀ w ∈ u_ws RX12 TX12 17, Gd w := by
  have h : ∀ w ∈ u_ws RX12 TX12 17, w ∈ lw_tbl ∧ okW w = true := by decide +kernel
  exact fun w hw => gdm (h w hw)
theorem uw13 : ∀ w ∈ u_ws RX13 TX13 2, Gd w := by
  have h : ∀ w ∈ u_ws RX13 TX13 2, w ∈ lw_tbl ∧ okW w = true := by decide +kernel
  exact fun w hw => gdm (h w hw)
theorem uw14 : ∀ w ∈ u_ws RJ0 TJ0 4, Gd w := by
  have h : ∀ w ∈ u_ws RJ0 TJ0 4, w ∈ lw_tbl ∧ okW w = true := by decide +kernel
  exact fun w hw => gdm (h w hw)
theorem uw15 : ∀ w ∈ u_ws RJ4 TJ4 4, Gd w := by
  have h : ∀ w ∈ u_ws RJ4 TJ4 4, w ∈ lw_tbl ∧ okW w = true := by decide +kernel
  exact fun w hw => gdm (h w hw)
theorem lk_RX0_9 : FLk RX0 9 0 2 2 := ⟨_, _, _, rc0, by decide, by decide +kernel, uw0, gd 136 (by decide +kernel) rfl⟩
theorem lk_RX0_15 : FLk RX0 15 0 3 2 := ⟨_, _, _, rc0, by decide, by decide +kernel, uw0, gd 143 (by decide +kernel) rfl⟩
theorem lk_RX0_18 : FLk RX0 18 0 4 2 := ⟨_, _, _, rc0, by decide, by decide +kernel, uw0, gd 149 (by decide +kernel) rfl⟩
theorem lk_RX0_21 : FLk RX0 21 0 5 2 := ⟨_, _, _, rc0, by decide, by decide +kernel, uw0, gd 151 (by decide +kernel) rfl⟩
theorem lk_RX0_24 : FLk RX0 24 0 6 2 := ⟨_, _, _, rc0, by decide, by decide +kernel, uw0, gd 152 (by decide +kernel) rfl⟩
theorem lk_RX0_27 : FLk RX0 27 0 7 2 := ⟨_, _, _, rc0, by decide, by decide +kernel, uw0, gd 154 (by decide +kernel) rfl⟩
theorem lk_RX0_30 : FLk RX0 30 0 0 0 := ⟨_, _, _, rc0, by decide, by decide +kernel, uw0, gd 126 (by decide +kernel) rfl⟩
theorem lk_RX0_34 : FLk RX0 34 0 1 0 := ⟨_, _, _, rc0, by decide, by decide +kernel, uw0, gd 132 (by decide +kernel) rfl⟩
theorem lk_RX1_9 : FLk RX1 9 1 3 2 := ⟨_, _, _, rc1, by decide, by decide +kernel, uw1, gd 237 (by decide +kernel) rfl⟩
theorem lk_RX1_15 : FLk RX1 15 1 4 2 := ⟨_, _, _, rc1, by decide, by decide +kernel, uw1, gd 238 (by decide +kernel) rfl⟩
theorem lk_RX1_18 : FLk RX1 18 1 5 2 := ⟨_, _, _, rc1, by decide, by decide +kernel, uw1, gd 239 (by decide +kernel) rfl⟩
theorem lk_RX1_21 : FLk RX1 21 1 6 2 := ⟨_, _, _, rc1, by decide, by decide +kernel, uw1, gd 240 (by decide +kernel) rfl⟩
theorem lk_RX1_24 : FLk RX1 24 1 0 2 := ⟨_, _, _, rc1, by decide, by decide +kernel, uw1, gd 234 (by decide +kernel) rfl⟩
theorem lk_RX1_28 : FLk RX1 28 1 1 0 := ⟨_, _, _, rc1, by decide, by decide +kernel, uw1, gd 235 (by decide +kernel) rfl⟩
theorem lk_RX1_32 : FLk RX1 32 1 2 0 := ⟨_, _, _, rc1, by decide, by decide +kernel, uw1, gd 236 (by decide +kernel) rfl⟩
theorem lk_RX1_49 : FLk RX1 49 0 0 0 := ⟨_, _, _, rc0, by decide, by decide +kernel, uw0, gd 128 (by decide +kernel) rfl⟩
theorem lk_RX1_54 : FLk RX1 54 0 2 2 := ⟨_, _, _, rc0, by decide, by decide +kernel, uw0, gd 137 (by decide +kernel) rfl⟩
theorem lk_RX1_85 : FLk RX1 85 0 3 2 := ⟨_, _, _, rc0, by decide, by decide +kernel, uw0, gd 148 (by decide +kernel) rfl⟩
theorem lk_RX10_9 : FLk RX10 9 10 0 2 := ⟨_, _, _, rc10, by decide, by decide +kernel, uw10, gd 398 (by decide +kernel) rfl⟩
theorem lk_RX10_23 : FLk RX10 23 10 3 0 := ⟨_, _, _, rc10, by decide, by decide +kernel, uw10, gd 403 (by decide +kernel) rfl⟩
theorem lk_RX10_27 : FLk RX10 27 10 2 0 := ⟨_, _, _, rc10, by decide, by decide +kernel, uw10, gd 401 (by decide +kernel) rfl⟩
theorem lk_RX10_37 : FLk RX10 37 7 3 0 := ⟨_, _, _, rc7, by decide, by decide +kernel, uw7, gd 191 (by decide +kernel) rfl⟩
theorem lk_RX10_42 : FLk RX10 42 7 4 0 := ⟨_, _, _, rc7, by decide, by decide +kernel, uw7, gd 196 (by decide +kernel) rfl⟩
theorem lk_RX10_45 : FLk RX10 45 7 0 2 := ⟨_, _, _, rc7, by decide, by decide +kernel, uw7, gd 181 (by decide +kernel) rfl⟩
theorem lk_RX10_53 : FLk RX10 53 0 3 2 := ⟨_, _, _, rc0, by decide, by decide +kernel, uw0, gd 144 (by decide +kernel) rfl⟩
theorem lk_RX10_58 : FLk RX10 58 10 1 0 := ⟨_, _, _, rc10, by decide, by decide +kernel, uw10, gd 399 (by decide +kernel) rfl⟩
theorem lk_RX10_61 : FLk RX10 61 0 2 2 := ⟨_, _, _, rc0, by decide, by decide +kernel, uw0, gd 139 (by decide +kernel) rfl⟩
theorem lk_RX10_64 : FLk RX10 64 0 7 2 := ⟨_, _, _, rc0, by decide, by decide +kernel, uw0, gd 155 (by decide +kernel) rfl⟩
theorem lk_RX10_67 : FLk RX10 67 0 6 2 := ⟨_, _, _, rc0, by decide, by decide +kernel, uw0, gd 153 (by decide +kernel) rfl⟩
theorem lk_RX11_25 : FLk RX11 25 11 0 2 := ⟨_, _, _, rc11, by decide, by decide +kernel, uw11, gd 428 (by decide +kernel) rfl⟩
theorem lk_RX11_34 : FLk RX11 34 11 1 2 := ⟨_, _, _, rc11, by decide, by decide +kernel, uw11, gd 429 (by decide +kernel) rfl⟩
theorem lk_RX11_38 : FLk RX11 38 11 2 2 := ⟨_, _, _, rc11, by decide, by decide +kernel, uw11, gd 430 (by decide +kernel) rfl⟩
theorem lk_RX11_42 : FLk RX11 42 11 3 2 := ⟨_, _, _, rc11, by decide, by decide +kernel, uw11, gd 431 (by decide +kernel) rfl⟩
theorem lk_RX11_49 : FLk RX11 49 11 4 2 := ⟨_, _, _, rc11, by decide, by decide +kernel, uw11, gd 432 (by decide +kernel) rfl⟩
theorem lk_RX11_53 : FLk RX11 53 11 5 2 := ⟨_, _, _, rc11, by decide, by decide +kernel, uw11, gd 433 (by decide +kernel) rfl⟩
theorem lk_RX11_69 : FLk RX11 69 11 7 2 := ⟨_, _, _, rc11, by decide, by decide +kernel, uw11, gd 435 (by decide +kernel) rfl⟩
theorem lk_RX11_78 : FLk RX11 78 11 8 2 := ⟨_, _, _, rc11, by decide, by decide +kernel, uw11, gd 436 (by decide +kernel) rfl⟩
theorem lk_RX11_85 : FLk RX11 85 11 9 2 := ⟨_, _, _, rc11, by decide, by decide +kernel, uw11, gd 437 (by decide +kernel) rfl⟩
theorem lk_RX11_92 : FLk RX11 92 11 10 2 := ⟨_, _, _, rc11, by decide, by decide +kernel, uw11, gd 438 (by decide +kernel) rfl⟩
theorem lk_RX11_96 : FLk RX11 96 11 11 2 := ⟨_, _, _, rc11, by decide, by decide +kernel, uw11, gd 439 (by decide +kernel) rfl⟩
theorem lk_RX11_108 : FLk RX11 108 2 1 0 := ⟨_, _, _, rc2, by decide, by decide +kernel, uw2, gd 95 (by decide +kernel) rfl⟩
theorem lk_RX11_127 : FLk RX11 127 4 0 2 := ⟨_, _, _, rc4, by decide, by decide +kernel, uw4, gd 268 (by decide +kernel) rfl⟩
theorem lk_RX11_131 : FLk RX11 131 4 1 2 := ⟨_, _, _, rc4, by decide, by decide +kernel, uw4, gd 270 (by decide +kernel) rfl⟩
theorem lk_RX11_145 : FLk RX11 145 4 2 0 := ⟨_, _, _, rc4, by decide, by decide +kernel, uw4, gd 272 (by decide +kernel) rfl⟩
theorem lk_RX11_148 : FLk RX11 148 4 3 0 := ⟨_, _, _, rc4, by decide, by decide +kernel, uw4, gd 274 (by decide +kernel) rfl⟩
theorem lk_RX11_151 : FLk RX11 151 0 0 0 := ⟨_, _, _, rc0, by decide, by decide +kernel, uw0, gd 130 (by decide +kernel) rfl⟩
theorem lk_RX11_154 : FLk RX11 154 0 1 0 := ⟨_, _, _, rc0, by decide, by decide +kernel, uw0, gd 134 (by decide +kernel) rfl⟩
theorem lk_RX11_157 : FLk RX11 157 7 4 0 := ⟨_, _, _, rc7, by decide, by decide +kernel, uw7, gd 199 (by decide +kernel) rfl⟩
theorem lk_RX11_163 : FLk RX11 163 7 3 0 := ⟨_, _, _, rc7, by decide, by decide +kernel, uw7, gd 193 (by decide +kernel) rfl⟩
theorem lk_RX11_169 : FLk RX11 169 0 2 2 := ⟨_, _, _, rc0, by decide, by decide +kernel, uw0, gd 141 (by decide +kernel) rfl⟩
theorem lk_RX11_176 : FLk RX11 176 0 3 2 := ⟨_, _, _, rc0, by decide, by decide +kernel, uw0, gd 146 (by decide +kernel) rfl⟩
theorem lk_RX11_192 : FLk RX11 192 7 0 2 := ⟨_, _, _, rc7, by decide, by decide +kernel, uw7, gd 182 (by decide +kernel) rfl⟩
theorem lk_RX11_199 : FLk RX11 199 7 2 2 := ⟨_, _, _, rc7, by decide, by decide +kernel, uw7, gd 189 (by decide +kernel) rfl⟩
theorem lk_RX11_274 : FLk RX11 274 5 10 2 := ⟨_, _, _, rc5, by decide, by decide +kernel, uw5, gd 352 (by decide +kernel) rfl⟩
theorem lk_RX11_293 : FLk RX11 293 7 5 0 := ⟨_, _, _, rc7, by decide, by decide +kernel, uw7, gd 202 (by decide +kernel) rfl⟩
theorem lk_RX11_299 : FLk RX11 299 7 6 0 := ⟨_, _, _, rc7, by decide, by decide +kernel, uw7, gd 204 (by decide +kernel) rfl⟩
theorem lk_RX11_302 : FLk RX11 302 7 7 2 := ⟨_, _, _, rc7, by decide, by decide +kernel, uw7, gd 206 (by decide +kernel) rfl⟩
theorem lk_RX11_305 : FLk RX11 305 7 8 2 := ⟨_, _, _, rc7, by decide, by decide +kernel, uw7, gd 208 (by decide +kernel) rfl⟩
theorem lk_RX11_311 : FLk RX11 311 10 1 0 := ⟨_, _, _, rc10, by decide, by decide +kernel, uw10, gd 400 (by decide +kernel) rfl⟩
theorem lk_RX11_316 : FLk RX11 316 6 1 0 := ⟨_, _, _, rc6, by decide, by decide +kernel, uw6, gd 422 (by decide +kernel) rfl⟩
theorem lk_RX11_325 : FLk RX11 325 6 0 2 := ⟨_, _, _, rc6, by decide, by decide +kernel, uw6, gd 421 (by decide +kernel) rfl⟩
theorem lk_RX11_342 : FLk RX11 342 7 1 2 := ⟨_, _, _, rc7, by decide, by decide +kernel, uw7, gd 185 (by decide +kernel) rfl⟩
theorem lk_RX11_347 : FLk RX11 347 10 2 0 := ⟨_, _, _, rc10, by decide, by decide +kernel, uw10, gd 402 (by decide +kernel) rfl⟩
theorem lk_RX11_354 : FLk RX11 354 10 3 0 := ⟨_, _, _, rc10, by decide, by decide +kernel, uw10, gd 404 (by decide +kernel) rfl⟩
theorem lk_RX11_357 : FLk RX11 357 3 0 0 := ⟨_, _, _, rc3, by decide, by decide +kernel, uw3, gd 303 (by decide +kernel) rfl⟩
theorem lk_RX2_9 : FLk RX2 9 2 0 2 := ⟨_, _, _, rc2, by decide, by decide +kernel, uw2, gd 93 (by decide +kernel) rfl⟩
theorem lk_RX2_15 : FLk RX2 15 2 1 0 := ⟨_, _, _, rc2, by decide, by decide +kernel, uw2, gd 94 (by decide +kernel) rfl⟩
theorem lk_RX2_25 : FLk RX2 25 2 2 0 := ⟨_, _, _, rc2, by decide, by decide +kernel, uw2, gd 96 (by decide +kernel) rfl⟩
theorem lk_RX2_28 : FLk RX2 28 2 5 0 := ⟨_, _, _, rc2, by decide, by decide +kernel, uw2, gd 101 (by decide +kernel) rfl⟩
theorem lk_RX2_34 : FLk RX2 34 2 4 0 := ⟨_, _, _, rc2, by decide, by decide +kernel, uw2, gd 100 (by decide +kernel) rfl⟩
theorem lk_RX2_37 : FLk RX2 37 2 3 0 := ⟨_, _, _, rc2, by decide, by decide +kernel, uw2, gd 98 (by decide +kernel) rfl⟩
theorem lk_RX2_47 : FLk RX2 47 2 6 0 := ⟨_, _, _, rc2, by decide, by decide +kernel, uw2, gd 103 (by decide +kernel) rfl⟩
theorem lk_RX3_11 : FLk RX3 11 3 1 2 := ⟨_, _, _, rc3, by decide, by decide +kernel, uw3, gd 304 (by decide +kernel) rfl⟩
theorem lk_RX3_17 : FLk RX3 17 3 2 2 := ⟨_, _, _, rc3, by decide, by decide +kernel, uw3, gd 305 (by decide +kernel) rfl⟩
theorem lk_RX3_21 : FLk RX3 21 3 0 0 := ⟨_, _, _, rc3, by decide, by decide +kernel, uw3, gd 302 (by decide +kernel) rfl⟩
theorem lk_RX3_25 : FLk RX3 25 3 3 0 := ⟨_, _, _, rc3, by decide, by decide +kernel, uw3, gd 306 (by decide +kernel) rfl⟩
theorem lk_RX4_12 : FLk RX4 12 4 0 2 := ⟨_, _, _, rc4, by decide, by decide +kernel, uw4, gd 267 (by decide +kernel) rfl⟩
theorem lk_RX4_21 : FLk RX4 21 4 1 2 := ⟨_, _, _, rc4, by decide, by decide +kernel, uw4, gd 269 (by decide +kernel) rfl⟩
theorem lk_RX4_29 : FLk RX4 29 4 4 2 := ⟨_, _, _, rc4, by decide, by decide +kernel, uw4, gd 275 (by decide +kernel) rfl⟩
theorem lk_RX4_36 : FLk RX4 36 4 6 0 := ⟨_, _, _, rc4, by decide, by decide +kernel, uw4, gd 277 (by decide +kernel) rfl⟩
theorem lk_RX4_53 : FLk RX4 53 2 3 0 := ⟨_, _, _, rc2, by decide, by decide +kernel, uw2, gd 97 (by decide +kernel) rfl⟩
theorem lk_RX4_69 : FLk RX4 69 2 4 0 := ⟨_, _, _, rc2, by decide, by decide +kernel, uw2, gd 99 (by decide +kernel) rfl⟩
theorem lk_RX4_76 : FLk RX4 76 2 6 0 := ⟨_, _, _, rc2, by decide, by decide +kernel, uw2, gd 102 (by decide +kernel) rfl⟩
theorem lk_RX4_79 : FLk RX4 79 4 5 0 := ⟨_, _, _, rc4, by decide, by decide +kernel, uw4, gd 276 (by decide +kernel) rfl⟩
theorem lk_RX4_86 : FLk RX4 86 0 0 0 := ⟨_, _, _, rc0, by decide, by decide +kernel, uw0, gd 131 (by decide +kernel) rfl⟩
theorem lk_RX4_123 : FLk RX4 123 0 1 0 := ⟨_, _, _, rc0, by decide, by decide +kernel, uw0, gd 135 (by decide +kernel) rfl⟩
theorem lk_RX4_126 : FLk RX4 126 7 2 2 := ⟨_, _, _, rc7, by decide, by decide +kernel, uw7, gd 187 (by decide +kernel) rfl⟩
theorem lk_RX4_137 : FLk RX4 137 0 2 2 := ⟨_, _, _, rc0, by decide, by decide +kernel, uw0, gd 142 (by decide +kernel) rfl⟩
theorem lk_RX4_153 : FLk RX4 153 0 3 2 := ⟨_, _, _, rc0, by decide, by decide +kernel, uw0, gd 147 (by decide +kernel) rfl⟩
theorem lk_RX4_161 : FLk RX4 161 0 4 2 := ⟨_, _, _, rc0, by decide, by decide +kernel, uw0, gd 150 (by decide +kernel) rfl⟩
theorem lk_RX4_179 : FLk RX4 179 7 0 2 := ⟨_, _, _, rc7, by decide, by decide +kernel, uw7, gd 183 (by decide +kernel) rfl⟩
theorem lk_RX5_9 : FLk RX5 9 5 3 2 := ⟨_, _, _, rc5, by decide, by decide +kernel, uw5, gd 344 (by decide +kernel) rfl⟩
theorem lk_RX5_15 : FLk RX5 15 5 4 2 := ⟨_, _, _, rc5, by decide, by decide +kernel, uw5, gd 345 (by decide +kernel) rfl⟩
theorem lk_RX5_18 : FLk RX5 18 5 5 0 := ⟨_, _, _, rc5, by decide, by decide +kernel, uw5, gd 346 (by decide +kernel) rfl⟩
theorem lk_RX5_22 : FLk RX5 22 5 6 0 := ⟨_, _, _, rc5, by decide, by decide +kernel, uw5, gd 347 (by decide +kernel) rfl⟩
theorem lk_RX5_25 : FLk RX5 25 5 8 2 := ⟨_, _, _, rc5, by decide, by decide +kernel, uw5, gd 349 (by decide +kernel) rfl⟩
theorem lk_RX5_29 : FLk RX5 29 5 9 2 := ⟨_, _, _, rc5, by decide, by decide +kernel, uw5, gd 350 (by decide +kernel) rfl⟩
theorem lk_RX5_32 : FLk RX5 32 5 10 2 := ⟨_, _, _, rc5, by decide, by decide +kernel, uw5, gd 351 (by decide +kernel) rfl⟩
theorem lk_RX5_35 : FLk RX5 35 5 0 2 := ⟨_, _, _, rc5, by decide, by decide +kernel, uw5, gd 341 (by decide +kernel) rfl⟩
theorem lk_RX5_39 : FLk RX5 39 5 1 2 := ⟨_, _, _, rc5, by decide, by decide +kernel, uw5, gd 342 (by decide +kernel) rfl⟩
theorem lk_RX5_43 : FLk RX5 43 5 2 2 := ⟨_, _, _, rc5, by decide, by decide +kernel, uw5, gd 343 (by decide +kernel) rfl⟩
theorem lk_RX5_63 : FLk RX5 63 5 7 0 := ⟨_, _, _, rc5, by decide, by decide +kernel, uw5, gd 348 (by decide +kernel) rfl⟩
theorem lk_RX5_83 : FLk RX5 83 0 0 0 := ⟨_, _, _, rc0, by decide, by decide +kernel, uw0, gd 129 (by decide +kernel) rfl⟩
theorem lk_RX5_95 : FLk RX5 95 7 3 0 := ⟨_, _, _, rc7, by decide, by decide +kernel, uw7, gd 192 (by decide +kernel) rfl⟩
theorem lk_RX5_100 : FLk RX5 100 7 4 0 := ⟨_, _, _, rc7, by decide, by decide +kernel, uw7, gd 197 (by decide +kernel) rfl⟩
theorem lk_RX5_116 : FLk RX5 116 0 1 0 := ⟨_, _, _, rc0, by decide, by decide +kernel, uw0, gd 133 (by decide +kernel) rfl⟩
theorem lk_RX5_128 : FLk RX5 128 0 2 2 := ⟨_, _, _, rc0, by decide, by decide +kernel, uw0, gd 140 (by decide +kernel) rfl⟩
theorem lk_RX5_138 : FLk RX5 138 7 2 2 := ⟨_, _, _, rc7, by decide, by decide +kernel, uw7, gd 188 (by decide +kernel) rfl⟩
theorem lk_RX7_9 : FLk RX7 9 7 0 2 := ⟨_, _, _, rc7, by decide, by decide +kernel, uw7, gd 180 (by decide +kernel) rfl⟩
theorem lk_RX7_15 : FLk RX7 15 7 1 2 := ⟨_, _, _, rc7, by decide, by decide +kernel, uw7, gd 184 (by decide +kernel) rfl⟩
theorem lk_RX7_18 : FLk RX7 18 7 2 2 := ⟨_, _, _, rc7, by decide, by decide +kernel, uw7, gd 186 (by decide +kernel) rfl⟩
theorem lk_RX7_21 : FLk RX7 21 7 6 0 := ⟨_, _, _, rc7, by decide, by decide +kernel, uw7, gd 203 (by decide +kernel) rfl⟩
theorem lk_RX7_25 : FLk RX7 25 7 7 2 := ⟨_, _, _, rc7, by decide, by decide +kernel, uw7, gd 205 (by decide +kernel) rfl⟩
theorem lk_RX7_28 : FLk RX7 28 7 8 2 := ⟨_, _, _, rc7, by decide, by decide +kernel, uw7, gd 207 (by decide +kernel) rfl⟩
theorem lk_RX7_41 : FLk RX7 41 7 3 0 := ⟨_, _, _, rc7, by decide, by decide +kernel, uw7, gd 190 (by decide +kernel) rfl⟩
theorem lk_RX7_44 : FLk RX7 44 7 4 0 := ⟨_, _, _, rc7, by decide, by decide +kernel, uw7, gd 195 (by decide +kernel) rfl⟩
theorem lk_RX7_47 : FLk RX7 47 7 5 0 := ⟨_, _, _, rc7, by decide, by decide +kernel, uw7, gd 200 (by decide +kernel) rfl⟩
theorem lk_RX9_9 : FLk RX9 9 9 2 2 := ⟨_, _, _, rc9, by decide, by decide +kernel, uw9, gd 384 (by decide +kernel) rfl⟩
theorem lk_RX9_15 : FLk RX9 15 9 0 2 := ⟨_, _, _, rc9, by decide, by decide +kernel, uw9, gd 382 (by decide +kernel) rfl⟩
theorem lk_RX9_19 : FLk RX9 19 9 1 2 := ⟨_, _, _, rc9, by decide, by decide +kernel, uw9, gd 383 (by decide +kernel) rfl⟩
theorem lk_RX9_29 : FLk RX9 29 0 0 0 := ⟨_, _, _, rc0, by decide, by decide +kernel, uw0, gd 127 (by decide +kernel) rfl⟩
theorem lk_RX9_48 : FLk RX9 48 0 2 2 := ⟨_, _, _, rc0, by decide, by decide +kernel, uw0, gd 138 (by decide +kernel) rfl⟩
theorem lk_RX9_63 : FLk RX9 63 0 3 2 := ⟨_, _, _, rc0, by decide, by decide +kernel, uw0, gd 145 (by decide +kernel) rfl⟩
theorem pk_RX0_30 : FPk RX0 30 0 0 0 false (fun v => ∃ x, v = .int x) := ⟨_, _, _, tyX0, rc0, by decide, by decide +kernel, uw0, gd 126 (by decide +kernel) rfl, rfl, (fun h => nomatch h), tyX0_ok, nmX0, (fun v h => by obtain ⟨x, rfl⟩ := h; exact ⟨rfl, rfl⟩)⟩
theorem pk_RX0_34 : FPk RX0 34 0 1 0 false (fun v => ∃ x, v = .int x) := ⟨_, _, _, tyX0, rc0, by decide, by decide +kernel, uw0, gd 132 (by decide +kernel) rfl, rfl, (fun h => nomatch h), tyX0_ok, nmX0, (fun v h => by obtain ⟨x, rfl⟩ := h; exact ⟨rfl, rfl⟩)⟩
theorem pk_RX1_28 : FPk RX1 28 1 1 0 false (fun v => ∃ x, v = .int x) := ⟨_, _, _, tyX1, rc1, by decide, by decide +kernel, uw1, gd 235 (by decide +kernel) rfl, rfl, (fun h => nomatch h), tyX1_ok, nmX1, (fun v h => by obtain ⟨x, rfl⟩ := h; exact ⟨rfl, rfl⟩)⟩
theorem pk_RX1_32 : FPk RX1 32 1 2 0 false (fun v => ∃ x, v = .int x) := ⟨_, _, _, tyX1, rc1, by decide, by decide +kernel, uw1, gd 236 (by decide +kernel) rfl, rfl, (fun h => nomatch h), tyX1_ok, nmX1, (fun v h => by obtain ⟨x, rfl⟩ := h; exact ⟨rfl, rfl⟩)⟩
theorem pk_RX10_23 : FPk RX10 23 10 3 0 false (fun v => ∃ x, v = .int x) := ⟨_, _, _, tyX10, rc10, by decide, by decide +kernel, uw10, gd 403 (by decide +kernel) rfl, rfl, (fun h => nomatch h), tyX10_ok, nmX10, (fun v h => by obtain ⟨x, rfl⟩ := h; exact ⟨rfl, rfl⟩)⟩
theorem pk_RX10_27 : FPk RX10 27 10 2 0 false (fun v => ∃ x, v = .int x) := ⟨_, _, _, tyX10, rc10, by decide, by decide +kernel, uw10, gd 401 (by decide +kernel) rfl, rfl, (fun h => nomatch h), tyX10_ok, nmX10, (fun v h => by obtain ⟨x, rfl⟩ := h; exact ⟨rfl, rfl⟩)⟩
theorem pk_RX10_58 : FPk RX10 58 10 1 0 false (fun v => ∃ x, v = .int x) := ⟨_, _, _, tyX10, rc10, by decide, by decide +kernel, uw10, gd 399 (by decide +kernel) rfl, rfl, (fun h => nomatch h), tyX10_ok, nmX10, (fun v h => by obtain ⟨x, rfl⟩ := h; exact ⟨rfl, rfl⟩)⟩
theorem pk_RX11_108 : FPk RX11 108 2 1 0 false (fun v => ∃ x, v = .int x) := ⟨_, _, _, tyX2, rc2, by decide, by decide +kernel, uw2, gd 95 (by decide +kernel) rfl, rfl, (fun h => nomatch h), tyX2_ok, nmX2, (fun v h => by obtain ⟨x, rfl⟩ := h; exact ⟨rfl, rfl⟩)⟩
theorem pk_RX11_157 : FPk RX11 157 7 4 0 false (fun v => ∃ x, v = .int x) := ⟨_, _, _, tyX7, rc7, by decide, by decide +kernel, uw7, gd 199 (by decide +kernel) rfl, rfl, (fun h => nomatch h), tyX7_ok, nmX7, (fun v h => by obtain ⟨x, rfl⟩ := h; exact ⟨rfl, rfl⟩)⟩
theorem pk_RX11_163 : FPk RX11 163 7 3 0 false (fun v => ∃ x, v = .int x) := ⟨_, _, _, tyX7, rc7, by decide, by decide +kernel, uw7, gd 193 (by decide +kernel) rfl, rfl, (fun h => nomatch h), tyX7_ok, nmX7, (fun v h => by obtain ⟨x, rfl⟩ := h; exact ⟨rfl, rfl⟩)⟩
theorem pk_RX11_293 : FPk RX11 293 7 5 0 false (fun v => ∃ x, v = .int x) := ⟨_, _, _, tyX7, rc7, by decide, by decide +kernel, uw7, gd 202 (by decide +kernel) rfl, rfl, (fun h => nomatch h), tyX7_ok, nmX7, (fun v h => by obtain ⟨x, rfl⟩ := h; exact ⟨rfl, rfl⟩)⟩
theorem pk_RX11_299 : FPk RX11 299 7 6 0 false (fun v => ∃ x, v = .int x) := ⟨_, _, _, tyX7, rc7, by decide, by decide +kernel, uw7, gd 204 (by decide +kernel) rfl, rfl, (fun h => nomatch h), tyX7_ok, nmX7, (fun v h => by obtain ⟨x, rfl⟩ := h; exact ⟨rfl, rfl⟩)⟩
theorem pk_RX11_311 : FPk RX11 311 10 1 0 false (fun v => ∃ x, v = .int x) := ⟨_, _, _, tyX10, rc10, by decide, by decide +kernel, uw10, gd 400 (by decide +kernel) rfl, rfl, (fun h => nomatch h), tyX10_ok, nmX10, (fun v h => by obtain ⟨x, rfl⟩ := h; exact ⟨rfl, rfl⟩)⟩
theorem pk_RX11_347 : FPk RX11 347 10 2 0 false (fun v => ∃ x, v = .int x) := ⟨_, _, _, tyX10, rc10, by decide, by decide +kernel, uw10, gd 402 (by decide +kernel) rfl, rfl, (fun h => nomatch h), tyX10_ok, nmX10, (fun v h => by obtain ⟨x, rfl⟩ := h; exact ⟨rfl, rfl⟩)⟩
theorem pk_RX2_15 : FPk RX2 15 2 1 0 false (fun v => ∃ x, v = .int x) := ⟨_, _, _, tyX2, rc2, by decide, by decide +kernel, uw2, gd 94 (by decide +kernel) rfl, rfl, (fun h => nomatch h), tyX2_ok, nmX2, (fun v h => by obtain ⟨x, rfl⟩ := h; exact ⟨rfl, rfl⟩)⟩
theorem pk_RX2_25 : FPk RX2 25 2 2 0 false (fun v => ∃ x, v = .int x) := ⟨_, _, _, tyX2, rc2, by decide, by decide +kernel, uw2, gd 96 (by decide +kernel) rfl, rfl, (fun h => nomatch h), tyX2_ok, nmX2, (fun v h => by obtain ⟨x, rfl⟩ := h; exact ⟨rfl, rfl⟩)⟩
theorem pk_RX2_28 : FPk RX2 28 2 5 0 false (fun v => ∃ x, v = .int x) := ⟨_, _, _, tyX2, rc2, by decide, by decide +kernel, uw2, gd 101 (by decide +kernel) rfl, rfl, (fun h => nomatch h), tyX2_ok, nmX2, (fun v h => by obtain ⟨x, rfl⟩ := h; exact ⟨rfl, rfl⟩)⟩
theorem pk_RX2_34 : FPk RX2 34 2 4 0 false (fun v => ∃ x, v = .int x) := ⟨_, _, _, tyX2, rc2, by decide, by decide +kernel, uw2, gd 100 (by decide +kernel) rfl, rfl, (fun h => nomatch h), tyX2_ok, nmX2, (fun v h => by obtain ⟨x, rfl⟩ := h; exact ⟨rfl, rfl⟩)⟩
theorem pk_RX2_37 : FPk RX2 37 2 3 0 false (fun v => ∃ x, v = .int x) := ⟨_, _, _, tyX2, rc2, by decide, by decide +kernel, uw2, gd 98 (by decide +kernel) rfl, rfl, (fun h => nomatch h), tyX2_ok, nmX2, (fun v h => by obtain ⟨x, rfl⟩ := h; exact ⟨rfl, rfl⟩)⟩
theorem pk_RX2_47 : FPk RX2 47 2 6 0 false (fun v => ∃ x, v = .int x) := ⟨_, _, _, tyX2, rc2, by decide, by decide +kernel, uw2, gd 103 (by decide +kernel) rfl, rfl, (fun h => nomatch h), tyX2_ok, nmX2, (fun v h => by obtain ⟨x, rfl⟩ := h; exact ⟨rfl, rfl⟩)⟩
theorem pk_RX3_21 : FPk RX3 21 3 0 0 false (fun v => ∃ x, v = .int x) := ⟨_, _, _, tyX3, rc3, by decide, by decide +kernel, uw3, gd 302 (by decide +kernel) rfl, rfl, (fun h => nomatch h), tyX3_ok, nmX3, (fun v h => by obtain ⟨x, rfl⟩ := h; exact ⟨rfl, rfl⟩)⟩
theorem pk_RX3_25 : FPk RX3 25 3 3 0 false (fun v => ∃ x, v = .int x) := ⟨_, _, _, tyX3, rc3, by decide, by decide +kernel, uw3, gd 306 (by decide +kernel) rfl, rfl, (fun h => nomatch h), tyX3_ok, nmX3, (fun v h => by obtain ⟨x, rfl⟩ := h; exact ⟨rfl, rfl⟩)⟩
theorem pk_RX4_25 : FPk RX4 25 4 3 0 false (fun v => ∃ x, v = .int x) := ⟨_, _, _, tyX4, rc4, by decide, by decide +kernel, uw4, gd 273 (by decide +kernel) rfl, rfl, (fun h => nomatch h), tyX4_ok, nmX4, (fun v h => by obtain ⟨x, rfl⟩ := h; exact ⟨rfl, rfl⟩)⟩
theorem pk_RX4_33 : FPk RX4 33 4 2 0 false (fun v => ∃ x, v = .int x) := ⟨_, _, _, tyX4, rc4, by decide, by decide +kernel, uw4, gd 271 (by decide +kernel) rfl, rfl, (fun h => nomatch h), tyX4_ok, nmX4, (fun v h => by obtain ⟨x, rfl⟩ := h; exact ⟨rfl, rfl⟩)⟩
theorem pk_RX4_36 : FPk RX4 36 4 6 0 false (fun v => ∃ x, v = .int x) := ⟨_, _, _, tyX4, rc4, by decide, by decide +kernel, uw4, gd 277 (by decide +kernel) rfl, rfl, (fun h => nomatch h), tyX4_ok, nmX4, (fun v h => by obtain ⟨x, rfl⟩ := h; exact ⟨rfl, rfl⟩)⟩
theorem pk_RX4_79 : FPk RX4 79 4 5 0 false (fun v => ∃ x, v = .int x) := ⟨_, _, _, tyX4, rc4, by decide, by decide +kernel, uw4, gd 276 (by decide +kernel) rfl, rfl, (fun h => nomatch h), tyX4_ok, nmX4, (fun v h => by obtain ⟨x, rfl⟩ := h; exact ⟨rfl, rfl⟩)⟩
theorem pk_RX4_86 : FPk RX4 86 0 0 0 false (fun v => ∃ x, v = .int x) := ⟨_, _, _, tyX0, rc0, by decide, by decide +kernel, uw0, gd 131 (by decide +kernel) rfl, rfl, (fun h => nomatch h), tyX0_ok, nmX0, (fun v h => by obtain ⟨x, rfl⟩ := h; exact ⟨rfl, rfl⟩)⟩
theorem pk_RX4_99 : FPk RX4 99 7 4 0 false (fun v => ∃ x, v = .int x) := ⟨_, _, _, tyX7, rc7, by decide, by decide +kernel, uw7, gd 198 (by decide +kernel) rfl, rfl, (fun h => nomatch h), tyX7_ok, nmX7, (fun v h => by obtain ⟨x, rfl⟩ := h; exact ⟨rfl, rfl⟩)⟩
theorem pk_RX4_103 : FPk RX4 103 7 5 0 false (fun v => ∃ x, v = .int x) := ⟨_, _, _, tyX7, rc7, by decide, by decide +kernel, uw7, gd 201 (by decide +kernel) rfl, rfl, (fun h => nomatch h), tyX7_ok, nmX7, (fun v h => by obtain ⟨x, rfl⟩ := h; exact ⟨rfl, rfl⟩)⟩
theorem pk_RX4_123 : FPk RX4 123 0 1 0 false (fun v => ∃ x, v = .int x) := ⟨_, _, _, tyX0, rc0, by decide, by decide +kernel, uw0, gd 135 (by decide +kernel) rfl, rfl, (fun h => nomatch h), tyX0_ok, nmX0, (fun v h => by obtain ⟨x, rfl⟩ := h; exact ⟨rfl, rfl⟩)⟩
theorem pk_RX4_135 : FPk RX4 135 7 3 0 false (fun v => ∃ x, v = .int x) := ⟨_, _, _, tyX7, rc7, by decide, by decide +kernel, uw7, gd 194 (by decide +kernel) rfl, rfl, (fun h => nomatch h), tyX7_ok, nmX7, (fun v h => by obtain ⟨x, rfl⟩ := h; exact ⟨rfl, rfl⟩)⟩
theorem pk_RX5_18 : FPk RX5 18 5 5 0 false (fun v => ∃ x, v = .int x) := ⟨_, _, _, tyX5, rc5, by decide, by decide +kernel, uw5, gd 346 (by decide +kernel) rfl, rfl, (fun h => nomatch h), tyX5_ok, nmX5, (fun v h => by obtain ⟨x, rfl⟩ := h; exact ⟨rfl, rfl⟩)⟩
theorem pk_RX5_22 : FPk RX5 22 5 6 0 false (fun v => ∃ x, v = .int x) := ⟨_, _, _, tyX5, rc5, by decide, by decide +kernel, uw5, gd 347 (by decide +kernel) rfl, rfl, (fun h => nomatch h), tyX5_ok, nmX5, (fun v h => by obtain ⟨x, rfl⟩ := h; exact ⟨rfl, rfl⟩)⟩
theorem pk_RX5_63 : FPk RX5 63 5 7 0 false (fun v => ∃ x, v = .int x) := ⟨_, _, _, tyX5, rc5, by decide, by decide +kernel, uw5, gd 348 (by decide +kernel) rfl, rfl, (fun h => nomatch h), tyX5_ok, nmX5, (fun v h => by obtain ⟨x, rfl⟩ := h; exact ⟨rfl, rfl⟩)⟩
theorem pk_RX7_21 : FPk RX7 21 7 6 0 false (fun v => ∃ x, v = .int x) := ⟨_, _, _, tyX7, rc7, by decide, by decide +kernel, uw7, gd 203 (by decide +kernel) rfl, rfl, (fun h => nomatch h), tyX7_ok, nmX7, (fun v h => by obtain ⟨x, rfl⟩ := h; exact ⟨rfl, rfl⟩)⟩
theorem pk_RX7_41 : FPk RX7 41 7 3 0 false (fun v => ∃ x, v = .int x) := ⟨_, _, _, tyX7, rc7, by decide, by decide +kernel, uw7, gd 190 (by decide +kernel) rfl, rfl, (fun h => nomatch h), tyX7_ok, nmX7, (fun v h => by obtain ⟨x, rfl⟩ := h; exact ⟨rfl, rfl⟩)⟩
theorem pk_RX7_44 : FPk RX7 44 7 4 0 false (fun v => ∃ x, v = .int x) := ⟨_, _, _, tyX7, rc7, by decide, by decide +kernel, uw7, gd 195 (by decide +kernel) rfl, rfl, (fun h => nomatch h), tyX7_ok, nmX7, (fun v h => by obtain ⟨x, rfl⟩ := h; exact ⟨rfl, rfl⟩)⟩
theorem pk_RX7_47 : FPk RX7 47 7 5 0 false (fun v => ∃ x, v = .int x) := ⟨_, _, _, tyX7, rc7, by decide, by decide +kernel, uw7, gd 200 (by decide +kernel) rfl, rfl, (fun h => nomatch h), tyX7_ok, nmX7, (fun v h => by obtain ⟨x, rfl⟩ := h; exact ⟨rfl, rfl⟩)⟩
theorem ln_RX0_37 : Gd (.methodLink RX0 37 yJ7_fill_53178) := gd 926 (by decide +kernel) rfl
theorem ln_RX0_43 : Gd (.methodLinkNest RX0 43 yX11_copyRow "DecisionChain") := gd 1073 (by decide +kernel) rfl
theorem ln_RX1_35 : Gd (.methodLink RX1 35 yX1_fillParts) := gd 1177 (by decide +kernel) rfl
theorem ln_RX1_39 : Gd (.methodLink RX1 39 yJ7_fill_d0a16) := gd 1181 (by decide +kernel) rfl
theorem ln_RX1_45 : Gd (.methodLink RX1 45 yX1_spread) := gd 1190 (by decide +kernel) rfl
theorem ln_RX1_58 : Gd (.methodLinkNest RX1 58 yX11_rowOf "DecisionChain") := gd 1184 (by decide +kernel) rfl
theorem ln_RX1_62 : Gd (.methodLink RX1 62 yX1_addParts) := gd 1185 (by decide +kernel) rfl
theorem ln_RX1_66 : Gd (.methodLink RX1 66 yX0_percentTo) := gd 1189 (by decide +kernel) rfl
theorem ln_RX1_69 : Gd (.methodLink RX1 69 yX1_partsTo) := gd 1194 (by decide +kernel) rfl
theorem ln_RX1_73 : Gd (.methodLink RX1 73 yX1_sumOf) := gd 1230 (by decide +kernel) rfl
theorem ln_RX1_78 : Gd (.methodLink RX1 78 yX1_at) := gd 1235 (by decide +kernel) rfl
theorem ln_RX1_81 : Gd (.methodLink RX1 81 yX1_visitsOf) := gd 1226 (by decide +kernel) rfl
theorem ln_RX1_88 : Gd (.methodLink RX1 88 yX0_amountOf) := gd 1327 (by decide +kernel) rfl
theorem ln_RX1_91 : Gd (.methodLink RX1 91 yX1_fillChances) := gd 1244 (by decide +kernel) rfl
theorem ln_RX1_94 : Gd (.methodLink RX1 94 yX1_likeliestNext) := gd 1255 (by decide +kernel) rfl
theorem ln_RX1_97 : Gd (.methodLink RX1 97 yX1_chanceOver) := gd 1248 (by decide +kernel) rfl
theorem ln_RX1_101 : Gd (.methodLink RX1 101 yJ9_max_f86c9) := gd 1252 (by decide +kernel) rfl
theorem ln_RX10_15 : Gd (.methodLink RX10 15 yX10_draw) := gd 1384 (by decide +kernel) rfl
theorem ln_RX10_19 : Gd (.methodLink RX10 19 yX10_drawAction) := gd 1388 (by decide +kernel) rfl
theorem ln_RX10_30 : Gd (.methodLinkNest RX10 30 yX11_rowOf "DecisionChain") := gd 1392 (by decide +kernel) rfl
theorem ln_RX10_34 : Gd (.methodLink RX10 34 yX10_drawNext) := gd 1393 (by decide +kernel) rfl
theorem ln_RX10_49 : Gd (.methodLink RX10 49 yX10_step) := gd 1380 (by decide +kernel) rfl
theorem ln_RX10_70 : Gd (.methodLink RX10 70 yX0_percentTo) := gd 1397 (by decide +kernel) rfl
theorem ln_RX11_100 : Gd (.methodLink RX11 100 yX2_hasRoom) := gd 839 (by decide +kernel) rfl
theorem ln_RX11_104 : Gd (.methodLink RX11 104 yX2_put) := gd 843 (by decide +kernel) rfl
theorem ln_RX11_119 : Gd (.methodLink RX11 119 yX4_parse) := gd 918 (by decide +kernel) rfl
theorem ln_RX11_128 : Gd (.methodLink RX11 128 yX0_copyFrom) := gd 1069 (by decide +kernel) rfl
theorem ln_RX11_134 : Gd (.methodLink RX11 134 yX7_copyFrom) := gd 1078 (by decide +kernel) rfl
theorem ln_RX11_137 : Gd (.methodLink RX11 137 yX3_forget) := gd 1083 (by decide +kernel) rfl
theorem ln_RX11_140 : Gd (.methodLink RX11 140 yX5_forget) := gd 1087 (by decide +kernel) rfl
theorem ln_RX11_141 : Gd (.methodLink RX11 141 yX0_countActions) := gd 1091 (by decide +kernel) rfl
theorem ln_RX11_160 : Gd (.methodLink RX11 160 yX11_needChain) := gd 1116 (by decide +kernel) rfl
theorem ln_RX11_166 : Gd (.methodLink RX11 166 yX11_needState) := gd 1112 (by decide +kernel) rfl
theorem ln_RX11_172 : Gd (.methodLink RX11 172 yX11_needAction) := gd 1108 (by decide +kernel) rfl
theorem ln_RX11_179 : Gd (.methodLink RX11 179 yX11_rowOf) := gd 936 (by decide +kernel) rfl
theorem ln_RX11_183 : Gd (.methodLink RX11 183 yX11_needBudget) := gd 1142 (by decide +kernel) rfl
theorem ln_RX11_186 : Gd (.methodLink RX11 186 yX0_amountOf) := gd 1147 (by decide +kernel) rfl
theorem ln_RX11_189 : Gd (.methodLink RX11 189 yX0_percentTo) := gd 1152 (by decide +kernel) rfl
theorem ln_RX11_195 : Gd (.methodLink RX11 195 yX7_permits) := gd 1428 (by decide +kernel) rfl
theorem ln_RX11_202 : Gd (.methodLink RX11 202 yX11_needTime) := gd 1161 (by decide +kernel) rfl
theorem ln_RX11_205 : Gd (.methodLink RX11 205 yX11_followRules) := gd 1169 (by decide +kernel) rfl
theorem ln_RX11_208 : Gd (.methodLink RX11 208 yX1_at) := gd 1198 (by decide +kernel) rfl
theorem ln_RX11_212 : Gd (.methodLink RX11 212 yX11_needRange) := gd 1165 (by decide +kernel) rfl
theorem ln_RX11_216 : Gd (.methodLink RX11 216 yX1_nextStates) := gd 1206 (by decide +kernel) rfl
theorem ln_RX11_220 : Gd (.methodLink RX11 220 yX1_visitsOf) := gd 1589 (by decide +kernel) rfl
theorem ln_RX11_224 : Gd (.methodLink RX11 224 yX1_hitOf) := gd 1598 (by decide +kernel) rfl
theorem ln_RX11_227 : Gd (.methodLink RX11 227 yX11_unitOf) := gd 1361 (by decide +kernel) rfl
theorem ln_RX11_230 : Gd (.methodLink RX11 230 yX1_gainOf) := gd 1362 (by decide +kernel) rfl
theorem ln_RX11_234 : Gd (.methodLink RX11 234 yX1_usedOf) := gd 1360 (by decide +kernel) rfl
theorem ln_RX11_238 : Gd (.methodLink RX11 238 yX11_brokenWith) := gd 1356 (by decide +kernel) rfl
theorem ln_RX11_250 : Gd (.methodLink RX11 250 yX1_rankOf) := gd 1222 (by decide +kernel) rfl
theorem ln_RX11_257 : Gd (.methodLink RX11 257 yX1_stateOfLikeliest) := gd 1240 (by decide +kernel) rfl
theorem ln_RX11_260 : Gd (.methodLink RX11 260 yX9_fill) := gd 1263 (by decide +kernel) rfl
theorem ln_RX11_263 : Gd (.methodLink RX11 263 yX9_of) := gd 1289 (by decide +kernel) rfl
theorem ln_RX11_266 : Gd (.methodLink RX11 266 yX9_firstAction) := gd 1294 (by decide +kernel) rfl
theorem ln_RX11_269 : Gd (.methodLink RX11 269 yX5_findBest) := gd 1299 (by decide +kernel) rfl
theorem ln_RX11_285 : Gd (.methodLink RX11 285 yX11_copyRow) := gd 1354 (by decide +kernel) rfl
theorem ln_RX11_289 : Gd (.methodLink RX11 289 yX11_setWeights) := gd 1355 (by decide +kernel) rfl
theorem ln_RX11_296 : Gd (.methodLink RX11 296 yX11_needWalk) := gd 1367 (by decide +kernel) rfl
theorem ln_RX11_308 : Gd (.methodLink RX11 308 yX7_walkRow) := gd 1534 (by decide +kernel) rfl
theorem ln_RX11_312 : Gd (.methodLink RX11 312 yX10_gainOfNext) := gd 1376 (by decide +kernel) rfl
theorem ln_RX11_331 : Gd (.methodLink RX11 331 yX3_keep) := gd 1408 (by decide +kernel) rfl
theorem ln_RX11_339 : Gd (.methodLink RX11 339 yX5_writeWeights) := gd 1422 (by decide +kernel) rfl
theorem ln_RX11_350 : Gd (.methodLink RX11 350 yX10_step) := gd 1529 (by decide +kernel) rfl
theorem ln_RX11_362 : Gd (.methodLink RX11 362 yX3_giveBack) := gd 1442 (by decide +kernel) rfl
theorem ln_RX11_365 : Gd (.methodLink RX11 365 yX11_needSlot) := gd 1450 (by decide +kernel) rfl
theorem ln_RX11_368 : Gd (.methodLink RX11 368 yX3_put) := gd 1454 (by decide +kernel) rfl
theorem ln_RX11_371 : Gd (.methodLink RX11 371 yX3_isFull) := gd 1462 (by decide +kernel) rfl
theorem ln_RX11_376 : Gd (.methodLink RX11 376 yX3_take) := gd 1467 (by decide +kernel) rfl
theorem ln_RX11_393 : Gd (.methodLink RX11 393 yJ9_min_7cf53) := gd 1076 (by decide +kernel) rfl
theorem ln_RX11_398 : Gd (.methodLink RX11 398 arraycopyName) := gd 1077 (by decide +kernel) rfl
theorem ln_RX11_408 : Gd (.methodLink RX11 408 yX1_follow) := gd 1173 (by decide +kernel) rfl
theorem ln_RX2_19 : Gd (.methodLink RX2 19 yJ9_min_7cf53) := gd 944 (by decide +kernel) rfl
theorem ln_RX2_31 : Gd (.methodLink RX2 31 yX2_advance) := gd 945 (by decide +kernel) rfl
theorem ln_RX2_40 : Gd (.methodLink RX2 40 yX2_isLetter) := gd 949 (by decide +kernel) rfl
theorem ln_RX2_44 : Gd (.methodLink RX2 44 yX2_isDigit) := gd 952 (by decide +kernel) rfl
theorem ln_RX2_50 : Gd (.methodLink RX2 50 yJ0_length_8abf5) := gd 968 (by decide +kernel) rfl
theorem ln_RX2_56 : Gd (.methodLink RX2 56 yJ0_charAt_5068e) := gd 969 (by decide +kernel) rfl
theorem ln_RX3_28 : Gd (.methodLink RX3 28 yX3_dropOldest) := gd 1412 (by decide +kernel) rfl
theorem ln_RX3_31 : Gd (.methodLink RX3 31 yX7_copyFrom) := gd 1416 (by decide +kernel) rfl
theorem ln_RX4_39 : Gd (.methodLink RX4 39 yX0_clear) := gd 922 (by decide +kernel) rfl
theorem ln_RX4_42 : Gd (.methodLink RX4 42 yX7_clear) := gd 929 (by decide +kernel) rfl
theorem ln_RX4_43 : Gd (.methodLink RX4 43 yX2_begin) := gd 940 (by decide +kernel) rfl
theorem ln_RX4_49 : Gd (.methodLink RX4 49 yX4_parseHead) := gd 955 (by decide +kernel) rfl
theorem ln_RX4_56 : Gd (.methodLink RX4 56 yX2_advance) := gd 974 (by decide +kernel) rfl
theorem ln_RX4_59 : Gd (.methodLink RX4 59 yX4_parseLine) := gd 986 (by decide +kernel) rfl
theorem ln_RX4_62 : Gd (.methodLink RX4 62 yX4_checkStates) := gd 1049 (by decide +kernel) rfl
theorem ln_RX4_65 : Gd (.methodLink RX4 65 yX4_fail) := gd 970 (by decide +kernel) rfl
theorem ln_RX4_72 : Gd (.methodLink RX4 72 yX2_isWord) := gd 964 (by decide +kernel) rfl
theorem ln_RX4_82 : Gd (.methodLink RX4 82 yX4_seeNumber) := gd 980 (by decide +kernel) rfl
theorem ln_RX4_90 : Gd (.methodLink RX4 90 yX4_takeWord) := gd 960 (by decide +kernel) rfl
theorem ln_RX4_94 : Gd (.methodLink RX4 94 yX4_takeNumber) := gd 976 (by decide +kernel) rfl
theorem ln_RX4_107 : Gd (.methodLink RX4 107 yX4_parseBudget) := gd 991 (by decide +kernel) rfl
theorem ln_RX4_112 : Gd (.methodLink RX4 112 yX4_parseAct) := gd 996 (by decide +kernel) rfl
theorem ln_RX4_117 : Gd (.methodLink RX4 117 yX4_parseRule) := gd 1036 (by decide +kernel) rfl
theorem ln_RX4_120 : Gd (.methodLink RX4 120 yX4_parseStart) := gd 1044 (by decide +kernel) rfl
theorem ln_RX4_132 : Gd (.methodLink RX4 132 yX4_seeState) := gd 1000 (by decide +kernel) rfl
theorem ln_RX4_140 : Gd (.methodLinkNest RX4 140 yX11_rowOf "DecisionChain") := gd 1004 (by decide +kernel) rfl
theorem ln_RX4_144 : Gd (.methodLink RX4 144 yX4_parseGain) := gd 1005 (by decide +kernel) rfl
theorem ln_RX4_147 : Gd (.methodLink RX4 147 yX4_parseUses) := gd 1009 (by decide +kernel) rfl
theorem ln_RX4_150 : Gd (.methodLink RX4 150 yX4_parsePercents) := gd 1018 (by decide +kernel) rfl
theorem ln_RX4_158 : Gd (.methodLink RX4 158 yX0_amountOf) := gd 1014 (by decide +kernel) rfl
theorem ln_RX4_166 : Gd (.methodLink RX4 166 yX0_percentTo) := gd 1023 (by decide +kernel) rfl
theorem ln_RX4_169 : Gd (.methodLink RX4 169 yX0_tell) := gd 1027 (by decide +kernel) rfl
theorem ln_RX4_173 : Gd (.methodLink RX4 173 yX4_endLine) := gd 1031 (by decide +kernel) rfl
theorem ln_RX4_176 : Gd (.methodLink RX4 176 yX4_parseWeights) := gd 1040 (by decide +kernel) rfl
theorem ln_RX5_47 : Gd (.methodLink RX5 47 yX5_fill) := gd 1303 (by decide +kernel) rfl
theorem ln_RX5_52 : Gd (.methodLink RX5 52 yX5_begin) := gd 1307 (by decide +kernel) rfl
theorem ln_RX5_56 : Gd (.methodLink RX5 56 yX5_isPermittedSet) := gd 1333 (by decide +kernel) rfl
theorem ln_RX5_59 : Gd (.methodLink RX5 59 yX5_holds) := gd 1338 (by decide +kernel) rfl
theorem ln_RX5_66 : Gd (.methodLinkNest RX5 66 yX11_copyRow "DecisionChain") := gd 1347 (by decide +kernel) rfl
theorem ln_RX5_70 : Gd (.methodLink RX5 70 yX5_moveOn) := gd 1328 (by decide +kernel) rfl
theorem ln_RX5_88 : Gd (.methodLinkNest RX5 88 yX11_setWeights "DecisionChain") := gd 1316 (by decide +kernel) rfl
theorem ln_RX5_92 : Gd (.methodLinkNest RX5 92 yX11_rowOf "DecisionChain") := gd 1317 (by decide +kernel) rfl
theorem ln_RX5_103 : Gd (.methodLink RX5 103 yX5_writeWeights) := gd 1312 (by decide +kernel) rfl
theorem ln_RX5_106 : Gd (.methodLink RX5 106 yX1_follow) := gd 1318 (by decide +kernel) rfl
theorem ln_RX5_112 : Gd (.methodLink RX5 112 yX1_gainOf) := gd 1319 (by decide +kernel) rfl
theorem ln_RX5_119 : Gd (.methodLink RX5 119 yX1_usedOf) := gd 1323 (by decide +kernel) rfl
theorem ln_RX5_123 : Gd (.methodLink RX5 123 yJ7_fill_53178) := gd 1311 (by decide +kernel) rfl
theorem ln_RX5_131 : Gd (.methodLink RX5 131 yX7_permits) := gd 1337 (by decide +kernel) rfl
theorem ln_RX5_134 : Gd (.methodLinkNest RX5 134 yX11_unitOf "DecisionChain") := gd 1342 (by decide +kernel) rfl
theorem ln_RX7_31 : Gd (.methodLinkNest RX7 31 yX11_setWeights "DecisionChain") := gd 933 (by decide +kernel) rfl
theorem ln_RX7_35 : Gd (.methodLink RX7 35 yJ7_fill_53178) := gd 939 (by decide +kernel) rfl
theorem ln_RX7_50 : Gd (.methodLinkNest RX7 50 yX11_copyRow "DecisionChain") := gd 1082 (by decide +kernel) rfl
theorem ln_RX7_54 : Gd (.methodLinkNest RX7 54 yX11_rowOf "DecisionChain") := gd 1538 (by decide +kernel) rfl
theorem ln_RX9_23 : Gd (.methodLink RX9 23 yJ7_fill_d0a16) := gd 1267 (by decide +kernel) rfl
theorem ln_RX9_35 : Gd (.methodLink RX9 35 yX9_firstAction) := gd 1268 (by decide +kernel) rfl
theorem ln_RX9_39 : Gd (.methodLinkNest RX9 39 yX11_rowOf "DecisionChain") := gd 1273 (by decide +kernel) rfl
theorem ln_RX9_42 : Gd (.methodLink RX9 42 yX9_valueOver) := gd 1274 (by decide +kernel) rfl
theorem ln_RX9_52 : Gd (.methodLink RX9 52 yX7_permits) := gd 1284 (by decide +kernel) rfl
theorem ln_RX9_58 : Gd (.methodLink RX9 58 yJ9_max_7cf53) := gd 1288 (by decide +kernel) rfl
theorem ln_RX9_68 : Gd (.methodLink RX9 68 yX0_percentTo) := gd 1279 (by decide +kernel) rfl
theorem ln_RX9_71 : Gd (.methodLink RX9 71 yX9_of) := gd 1280 (by decide +kernel) rfl
theorem mw_J7_fill_53178 : MW yJ7_fill_53178 cJ7_fill_53178 4 none 2 := ⟨gd 55 (by decide +kernel) rfl, gd 928 (by decide +kernel) rfl, ⟨by decide, by decide⟩, by decide +kernel⟩
theorem mw_J7_fill_d0a16 : MW yJ7_fill_d0a16 cJ7_fill_d0a16 5 none 2 := ⟨gd 55 (by decide +kernel) rfl, gd 1183 (by decide +kernel) rfl, ⟨by decide, by decide⟩, by decide +kernel⟩
theorem mw_X0_amountOf : MW yX0_amountOf cX0_amountOf 3 (some .int) 2 := ⟨gd 63 (by decide +kernel) rfl, gd 1017 (by decide +kernel) rfl, ⟨by decide, by decide⟩, by decide +kernel⟩
theorem mw_X0_clear : MW yX0_clear cX0_clear 1 none 0 := ⟨gd 63 (by decide +kernel) rfl, gd 925 (by decide +kernel) rfl, ⟨by decide, by decide⟩, by decide +kernel⟩
theorem mw_X0_copyFrom : MW yX0_copyFrom cX0_copyFrom 2 none 1 := ⟨gd 63 (by decide +kernel) rfl, gd 1072 (by decide +kernel) rfl, ⟨by decide, by decide⟩, by decide +kernel⟩
theorem mw_X0_countActions : MW yX0_countActions cX0_countActions 3 (some .int) 0 := ⟨gd 63 (by decide +kernel) rfl, gd 1094 (by decide +kernel) rfl, ⟨by decide, by decide⟩, by decide +kernel⟩
theorem mw_X0_percentTo : MW yX0_percentTo cX0_percentTo 3 (some .int) 2 := ⟨gd 63 (by decide +kernel) rfl, gd 1026 (by decide +kernel) rfl, ⟨by decide, by decide⟩, by decide +kernel⟩
theorem mw_X0_tell : MW yX0_tell cX0_tell 4 none 3 := ⟨gd 63 (by decide +kernel) rfl, gd 1030 (by decide +kernel) rfl, ⟨by decide, by decide⟩, by decide +kernel⟩
theorem mw_X10_draw : MW yX10_draw cX10_draw 1 (some .int) 0 := ⟨gd 71 (by decide +kernel) rfl, gd 1387 (by decide +kernel) rfl, ⟨by decide, by decide⟩, by decide +kernel⟩
theorem mw_X10_drawAction : MW yX10_drawAction cX10_drawAction 5 (some .int) 2 := ⟨gd 71 (by decide +kernel) rfl, gd 1391 (by decide +kernel) rfl, ⟨by decide, by decide⟩, by decide +kernel⟩
theorem mw_X10_drawNext : MW yX10_drawNext cX10_drawNext 6 (some .int) 2 := ⟨gd 71 (by decide +kernel) rfl, gd 1396 (by decide +kernel) rfl, ⟨by decide, by decide⟩, by decide +kernel⟩
theorem mw_X10_gainOfNext : MW yX10_gainOfNext cX10_gainOfNext 5 (some .int) 1 := ⟨gd 71 (by decide +kernel) rfl, gd 1379 (by decide +kernel) rfl, ⟨by decide, by decide⟩, by decide +kernel⟩
theorem mw_X10_step : MW yX10_step cX10_step 2 none 1 := ⟨gd 71 (by decide +kernel) rfl, gd 1383 (by decide +kernel) rfl, ⟨by decide, by decide⟩, by decide +kernel⟩
theorem mw_X11_brokenWith : MW yX11_brokenWith cX11_brokenWith 4 (some .int) 1 := ⟨gd 61 (by decide +kernel) rfl, gd 1359 (by decide +kernel) rfl, ⟨by decide, by decide⟩, by decide +kernel⟩
theorem mw_X11_copyRow : MW yX11_copyRow cX11_copyRow 2 none 2 := ⟨gd 61 (by decide +kernel) rfl, gd 1075 (by decide +kernel) rfl, ⟨by decide, by decide⟩, by decide +kernel⟩
theorem mw_X11_followRules : MW yX11_followRules cX11_followRules 1 none 0 := ⟨gd 61 (by decide +kernel) rfl, gd 1172 (by decide +kernel) rfl, ⟨by decide, by decide⟩, by decide +kernel⟩
theorem mw_X11_needAction : MW yX11_needAction cX11_needAction 3 none 2 := ⟨gd 61 (by decide +kernel) rfl, gd 1111 (by decide +kernel) rfl, ⟨by decide, by decide⟩, by decide +kernel⟩
theorem mw_X11_needBudget : MW yX11_needBudget cX11_needBudget 2 none 1 := ⟨gd 61 (by decide +kernel) rfl, gd 1145 (by decide +kernel) rfl, ⟨by decide, by decide⟩, by decide +kernel⟩
theorem mw_X11_needChain : MW yX11_needChain cX11_needChain 1 none 0 := ⟨gd 61 (by decide +kernel) rfl, gd 1119 (by decide +kernel) rfl, ⟨by decide, by decide⟩, by decide +kernel⟩
theorem mw_X11_needRange : MW yX11_needRange cX11_needRange 3 none 3 := ⟨gd 61 (by decide +kernel) rfl, gd 1167 (by decide +kernel) rfl, ⟨by decide, by decide⟩, by decide +kernel⟩
theorem mw_X11_needSlot : MW yX11_needSlot cX11_needSlot 1 none 1 := ⟨gd 61 (by decide +kernel) rfl, gd 1452 (by decide +kernel) rfl, ⟨by decide, by decide⟩, by decide +kernel⟩
theorem mw_X11_needState : MW yX11_needState cX11_needState 2 none 1 := ⟨gd 61 (by decide +kernel) rfl, gd 1115 (by decide +kernel) rfl, ⟨by decide, by decide⟩, by decide +kernel⟩
theorem mw_X11_needTime : MW yX11_needTime cX11_needTime 2 none 1 := ⟨gd 61 (by decide +kernel) rfl, gd 1164 (by decide +kernel) rfl, ⟨by decide, by decide⟩, by decide +kernel⟩
theorem mw_X11_needWalk : MW yX11_needWalk cX11_needWalk 1 none 0 := ⟨gd 61 (by decide +kernel) rfl, gd 1370 (by decide +kernel) rfl, ⟨by decide, by decide⟩, by decide +kernel⟩
theorem mw_X11_rowOf : MW yX11_rowOf cX11_rowOf 2 (some .int) 2 := ⟨gd 61 (by decide +kernel) rfl, gd 938 (by decide +kernel) rfl, ⟨by decide, by decide⟩, by decide +kernel⟩
theorem mw_X11_setWeights : MW yX11_setWeights cX11_setWeights 5 none 5 := ⟨gd 61 (by decide +kernel) rfl, gd 935 (by decide +kernel) rfl, ⟨by decide, by decide⟩, by decide +kernel⟩
theorem mw_X11_unitOf : MW yX11_unitOf cX11_unitOf 4 (some .long) 1 := ⟨gd 61 (by decide +kernel) rfl, gd 1344 (by decide +kernel) rfl, ⟨by decide, by decide⟩, by decide +kernel⟩
theorem mw_X1_addParts : MW yX1_addParts cX1_addParts 5 none 3 := ⟨gd 65 (by decide +kernel) rfl, gd 1188 (by decide +kernel) rfl, ⟨by decide, by decide⟩, by decide +kernel⟩
theorem mw_X1_at : MW yX1_at cX1_at 3 (some .long) 2 := ⟨gd 65 (by decide +kernel) rfl, gd 1201 (by decide +kernel) rfl, ⟨by decide, by decide⟩, by decide +kernel⟩
theorem mw_X1_chanceOver : MW yX1_chanceOver cX1_chanceOver 4 (some .long) 3 := ⟨gd 65 (by decide +kernel) rfl, gd 1251 (by decide +kernel) rfl, ⟨by decide, by decide⟩, by decide +kernel⟩
theorem mw_X1_fillChances : MW yX1_fillChances cX1_fillChances 6 none 0 := ⟨gd 65 (by decide +kernel) rfl, gd 1247 (by decide +kernel) rfl, ⟨by decide, by decide⟩, by decide +kernel⟩
theorem mw_X1_fillParts : MW yX1_fillParts cX1_fillParts 5 none 1 := ⟨gd 65 (by decide +kernel) rfl, gd 1180 (by decide +kernel) rfl, ⟨by decide, by decide⟩, by decide +kernel⟩
theorem mw_X1_follow : MW yX1_follow cX1_follow 5 none 3 := ⟨gd 65 (by decide +kernel) rfl, gd 1176 (by decide +kernel) rfl, ⟨by decide, by decide⟩, by decide +kernel⟩
theorem mw_X1_gainOf : MW yX1_gainOf cX1_gainOf 9 (some .long) 1 := ⟨gd 65 (by decide +kernel) rfl, gd 1322 (by decide +kernel) rfl, ⟨by decide, by decide⟩, by decide +kernel⟩
theorem mw_X1_hitOf : MW yX1_hitOf cX1_hitOf 6 (some .long) 1 := ⟨gd 65 (by decide +kernel) rfl, gd 1601 (by decide +kernel) rfl, ⟨by decide, by decide⟩, by decide +kernel⟩
theorem mw_X1_likeliestNext : MW yX1_likeliestNext cX1_likeliestNext 4 (some .int) 2 := ⟨gd 65 (by decide +kernel) rfl, gd 1258 (by decide +kernel) rfl, ⟨by decide, by decide⟩, by decide +kernel⟩
theorem mw_X1_nextStates : MW yX1_nextStates cX1_nextStates 4 (some .int) 1 := ⟨gd 65 (by decide +kernel) rfl, gd 1209 (by decide +kernel) rfl, ⟨by decide, by decide⟩, by decide +kernel⟩
theorem mw_X1_partsTo : MW yX1_partsTo cX1_partsTo 3 (some .long) 2 := ⟨gd 65 (by decide +kernel) rfl, gd 1197 (by decide +kernel) rfl, ⟨by decide, by decide⟩, by decide +kernel⟩
theorem mw_X1_rankOf : MW yX1_rankOf cX1_rankOf 8 (some .int) 1 := ⟨gd 65 (by decide +kernel) rfl, gd 1225 (by decide +kernel) rfl, ⟨by decide, by decide⟩, by decide +kernel⟩
theorem mw_X1_spread : MW yX1_spread cX1_spread 7 none 2 := ⟨gd 65 (by decide +kernel) rfl, gd 1193 (by decide +kernel) rfl, ⟨by decide, by decide⟩, by decide +kernel⟩
theorem mw_X1_stateOfLikeliest : MW yX1_stateOfLikeliest cX1_stateOfLikeliest 4 (some .int) 1 := ⟨gd 65 (by decide +kernel) rfl, gd 1243 (by decide +kernel) rfl, ⟨by decide, by decide⟩, by decide +kernel⟩
theorem mw_X1_sumOf : MW yX1_sumOf cX1_sumOf 6 (some .long) 2 := ⟨gd 65 (by decide +kernel) rfl, gd 1233 (by decide +kernel) rfl, ⟨by decide, by decide⟩, by decide +kernel⟩
theorem mw_X1_usedOf : MW yX1_usedOf cX1_usedOf 10 (some .long) 2 := ⟨gd 65 (by decide +kernel) rfl, gd 1326 (by decide +kernel) rfl, ⟨by decide, by decide⟩, by decide +kernel⟩
theorem mw_X1_visitsOf : MW yX1_visitsOf cX1_visitsOf 2 (some .long) 1 := ⟨gd 65 (by decide +kernel) rfl, gd 1229 (by decide +kernel) rfl, ⟨by decide, by decide⟩, by decide +kernel⟩
theorem mw_X2_advance : MW yX2_advance cX2_advance 1 none 0 := ⟨gd 62 (by decide +kernel) rfl, gd 948 (by decide +kernel) rfl, ⟨by decide, by decide⟩, by decide +kernel⟩
theorem mw_X2_begin : MW yX2_begin cX2_begin 2 none 1 := ⟨gd 62 (by decide +kernel) rfl, gd 943 (by decide +kernel) rfl, ⟨by decide, by decide⟩, by decide +kernel⟩
theorem mw_X2_hasRoom : MW yX2_hasRoom cX2_hasRoom 2 (some .boolean) 1 := ⟨gd 62 (by decide +kernel) rfl, gd 842 (by decide +kernel) rfl, ⟨by decide, by decide⟩, by decide +kernel⟩
theorem mw_X2_isDigit : MW yX2_isDigit cX2_isDigit 1 (some .boolean) 1 := ⟨gd 62 (by decide +kernel) rfl, gd 954 (by decide +kernel) rfl, ⟨by decide, by decide⟩, by decide +kernel⟩
theorem mw_X2_isLetter : MW yX2_isLetter cX2_isLetter 1 (some .boolean) 1 := ⟨gd 62 (by decide +kernel) rfl, gd 951 (by decide +kernel) rfl, ⟨by decide, by decide⟩, by decide +kernel⟩
theorem mw_X2_isWord : MW yX2_isWord cX2_isWord 3 (some .boolean) 1 := ⟨gd 62 (by decide +kernel) rfl, gd 967 (by decide +kernel) rfl, ⟨by decide, by decide⟩, by decide +kernel⟩
theorem mw_X2_put : MW yX2_put cX2_put 3 none 1 := ⟨gd 62 (by decide +kernel) rfl, gd 846 (by decide +kernel) rfl, ⟨by decide, by decide⟩, by decide +kernel⟩
theorem mw_X3_dropOldest : MW yX3_dropOldest cX3_dropOldest 3 none 0 := ⟨gd 67 (by decide +kernel) rfl, gd 1415 (by decide +kernel) rfl, ⟨by decide, by decide⟩, by decide +kernel⟩
theorem mw_X3_forget : MW yX3_forget cX3_forget 1 none 0 := ⟨gd 67 (by decide +kernel) rfl, gd 1086 (by decide +kernel) rfl, ⟨by decide, by decide⟩, by decide +kernel⟩
theorem mw_X3_giveBack : MW yX3_giveBack cX3_giveBack 2 none 1 := ⟨gd 67 (by decide +kernel) rfl, gd 1445 (by decide +kernel) rfl, ⟨by decide, by decide⟩, by decide +kernel⟩
theorem mw_X3_isFull : MW yX3_isFull cX3_isFull 2 (some .boolean) 1 := ⟨gd 67 (by decide +kernel) rfl, gd 1465 (by decide +kernel) rfl, ⟨by decide, by decide⟩, by decide +kernel⟩
theorem mw_X3_keep : MW yX3_keep cX3_keep 2 none 1 := ⟨gd 67 (by decide +kernel) rfl, gd 1411 (by decide +kernel) rfl, ⟨by decide, by decide⟩, by decide +kernel⟩
theorem mw_X3_put : MW yX3_put cX3_put 3 none 2 := ⟨gd 67 (by decide +kernel) rfl, gd 1457 (by decide +kernel) rfl, ⟨by decide, by decide⟩, by decide +kernel⟩
theorem mw_X3_take : MW yX3_take cX3_take 3 none 2 := ⟨gd 67 (by decide +kernel) rfl, gd 1470 (by decide +kernel) rfl, ⟨by decide, by decide⟩, by decide +kernel⟩
theorem mw_X4_checkStates : MW yX4_checkStates cX4_checkStates 2 (some .boolean) 0 := ⟨gd 66 (by decide +kernel) rfl, gd 1052 (by decide +kernel) rfl, ⟨by decide, by decide⟩, by decide +kernel⟩
theorem mw_X4_endLine : MW yX4_endLine cX4_endLine 2 (some .boolean) 1 := ⟨gd 66 (by decide +kernel) rfl, gd 1034 (by decide +kernel) rfl, ⟨by decide, by decide⟩, by decide +kernel⟩
theorem mw_X4_fail : MW yX4_fail cX4_fail 2 (some .boolean) 1 := ⟨gd 66 (by decide +kernel) rfl, gd 973 (by decide +kernel) rfl, ⟨by decide, by decide⟩, by decide +kernel⟩
theorem mw_X4_parse : MW yX4_parse cX4_parse 3 (some .boolean) 1 := ⟨gd 66 (by decide +kernel) rfl, gd 921 (by decide +kernel) rfl, ⟨by decide, by decide⟩, by decide +kernel⟩
theorem mw_X4_parseAct : MW yX4_parseAct cX4_parseAct 3 (some .boolean) 0 := ⟨gd 66 (by decide +kernel) rfl, gd 999 (by decide +kernel) rfl, ⟨by decide, by decide⟩, by decide +kernel⟩
theorem mw_X4_parseBudget : MW yX4_parseBudget cX4_parseBudget 1 (some .boolean) 0 := ⟨gd 66 (by decide +kernel) rfl, gd 994 (by decide +kernel) rfl, ⟨by decide, by decide⟩, by decide +kernel⟩
theorem mw_X4_parseGain : MW yX4_parseGain cX4_parseGain 3 (some .boolean) 1 := ⟨gd 66 (by decide +kernel) rfl, gd 1008 (by decide +kernel) rfl, ⟨by decide, by decide⟩, by decide +kernel⟩
theorem mw_X4_parseHead : MW yX4_parseHead cX4_parseHead 1 (some .boolean) 0 := ⟨gd 66 (by decide +kernel) rfl, gd 958 (by decide +kernel) rfl, ⟨by decide, by decide⟩, by decide +kernel⟩
theorem mw_X4_parseLine : MW yX4_parseLine cX4_parseLine 1 (some .boolean) 0 := ⟨gd 66 (by decide +kernel) rfl, gd 989 (by decide +kernel) rfl, ⟨by decide, by decide⟩, by decide +kernel⟩
theorem mw_X4_parsePercents : MW yX4_parsePercents cX4_parsePercents 5 (some .boolean) 1 := ⟨gd 66 (by decide +kernel) rfl, gd 1021 (by decide +kernel) rfl, ⟨by decide, by decide⟩, by decide +kernel⟩
theorem mw_X4_parseRule : MW yX4_parseRule cX4_parseRule 2 (some .boolean) 0 := ⟨gd 66 (by decide +kernel) rfl, gd 1039 (by decide +kernel) rfl, ⟨by decide, by decide⟩, by decide +kernel⟩
theorem mw_X4_parseStart : MW yX4_parseStart cX4_parseStart 1 (some .boolean) 0 := ⟨gd 66 (by decide +kernel) rfl, gd 1047 (by decide +kernel) rfl, ⟨by decide, by decide⟩, by decide +kernel⟩
theorem mw_X4_parseUses : MW yX4_parseUses cX4_parseUses 4 (some .boolean) 1 := ⟨gd 66 (by decide +kernel) rfl, gd 1012 (by decide +kernel) rfl, ⟨by decide, by decide⟩, by decide +kernel⟩
theorem mw_X4_parseWeights : MW yX4_parseWeights cX4_parseWeights 4 (some .boolean) 1 := ⟨gd 66 (by decide +kernel) rfl, gd 1043 (by decide +kernel) rfl, ⟨by decide, by decide⟩, by decide +kernel⟩
theorem mw_X4_seeNumber : MW yX4_seeNumber cX4_seeNumber 3 (some .boolean) 2 := ⟨gd 66 (by decide +kernel) rfl, gd 983 (by decide +kernel) rfl, ⟨by decide, by decide⟩, by decide +kernel⟩
theorem mw_X4_seeState : MW yX4_seeState cX4_seeState 1 (some .boolean) 0 := ⟨gd 66 (by decide +kernel) rfl, gd 1003 (by decide +kernel) rfl, ⟨by decide, by decide⟩, by decide +kernel⟩
theorem mw_X4_takeNumber : MW yX4_takeNumber cX4_takeNumber 3 (some .boolean) 2 := ⟨gd 66 (by decide +kernel) rfl, gd 979 (by decide +kernel) rfl, ⟨by decide, by decide⟩, by decide +kernel⟩
theorem mw_X4_takeWord : MW yX4_takeWord cX4_takeWord 2 (some .boolean) 1 := ⟨gd 66 (by decide +kernel) rfl, gd 963 (by decide +kernel) rfl, ⟨by decide, by decide⟩, by decide +kernel⟩
theorem mw_X5_begin : MW yX5_begin cX5_begin 1 (some .boolean) 0 := ⟨gd 69 (by decide +kernel) rfl, gd 1310 (by decide +kernel) rfl, ⟨by decide, by decide⟩, by decide +kernel⟩
theorem mw_X5_fill : MW yX5_fill cX5_fill 4 none 0 := ⟨gd 69 (by decide +kernel) rfl, gd 1306 (by decide +kernel) rfl, ⟨by decide, by decide⟩, by decide +kernel⟩
theorem mw_X5_findBest : MW yX5_findBest cX5_findBest 7 (some .long) 2 := ⟨gd 69 (by decide +kernel) rfl, gd 1302 (by decide +kernel) rfl, ⟨by decide, by decide⟩, by decide +kernel⟩
theorem mw_X5_forget : MW yX5_forget cX5_forget 1 none 0 := ⟨gd 69 (by decide +kernel) rfl, gd 1090 (by decide +kernel) rfl, ⟨by decide, by decide⟩, by decide +kernel⟩
theorem mw_X5_holds : MW yX5_holds cX5_holds 7 (some .boolean) 2 := ⟨gd 69 (by decide +kernel) rfl, gd 1341 (by decide +kernel) rfl, ⟨by decide, by decide⟩, by decide +kernel⟩
theorem mw_X5_isPermittedSet : MW yX5_isPermittedSet cX5_isPermittedSet 2 (some .boolean) 0 := ⟨gd 69 (by decide +kernel) rfl, gd 1336 (by decide +kernel) rfl, ⟨by decide, by decide⟩, by decide +kernel⟩
theorem mw_X5_moveOn : MW yX5_moveOn cX5_moveOn 2 (some .boolean) 0 := ⟨gd 69 (by decide +kernel) rfl, gd 1331 (by decide +kernel) rfl, ⟨by decide, by decide⟩, by decide +kernel⟩
theorem mw_X5_writeWeights : MW yX5_writeWeights cX5_writeWeights 4 none 2 := ⟨gd 69 (by decide +kernel) rfl, gd 1315 (by decide +kernel) rfl, ⟨by decide, by decide⟩, by decide +kernel⟩
theorem mw_X7_clear : MW yX7_clear cX7_clear 2 none 0 := ⟨gd 64 (by decide +kernel) rfl, gd 932 (by decide +kernel) rfl, ⟨by decide, by decide⟩, by decide +kernel⟩
theorem mw_X7_copyFrom : MW yX7_copyFrom cX7_copyFrom 2 none 1 := ⟨gd 64 (by decide +kernel) rfl, gd 1081 (by decide +kernel) rfl, ⟨by decide, by decide⟩, by decide +kernel⟩
theorem mw_X7_permits : MW yX7_permits cX7_permits 3 (some .boolean) 2 := ⟨gd 64 (by decide +kernel) rfl, gd 1287 (by decide +kernel) rfl, ⟨by decide, by decide⟩, by decide +kernel⟩
theorem mw_X7_walkRow : MW yX7_walkRow cX7_walkRow 2 (some .int) 1 := ⟨gd 64 (by decide +kernel) rfl, gd 1537 (by decide +kernel) rfl, ⟨by decide, by decide⟩, by decide +kernel⟩
theorem mw_X9_fill : MW yX9_fill cX9_fill 4 none 0 := ⟨gd 70 (by decide +kernel) rfl, gd 1266 (by decide +kernel) rfl, ⟨by decide, by decide⟩, by decide +kernel⟩
theorem mw_X9_firstAction : MW yX9_firstAction cX9_firstAction 9 (some .int) 2 := ⟨gd 70 (by decide +kernel) rfl, gd 1271 (by decide +kernel) rfl, ⟨by decide, by decide⟩, by decide +kernel⟩
theorem mw_X9_of : MW yX9_of cX9_of 3 (some .long) 2 := ⟨gd 70 (by decide +kernel) rfl, gd 1283 (by decide +kernel) rfl, ⟨by decide, by decide⟩, by decide +kernel⟩
theorem mw_X9_valueOver : MW yX9_valueOver cX9_valueOver 6 (some .long) 2 := ⟨gd 70 (by decide +kernel) rfl, gd 1277 (by decide +kernel) rfl, ⟨by decide, by decide⟩, by decide +kernel⟩
theorem mi_X0_amountOf : (Gd (.instanceMethod yX0_amountOf) ∧ Gd (.selects yX0_amountOf.cls yX0_amountOf yX0_amountOf)) := ⟨gd 1015 (by decide +kernel) rfl, gd 1016 (by decide +kernel) rfl⟩
theorem mi_X0_clear : (Gd (.instanceMethod yX0_clear) ∧ Gd (.selects yX0_clear.cls yX0_clear yX0_clear)) := ⟨gd 923 (by decide +kernel) rfl, gd 924 (by decide +kernel) rfl⟩
theorem mi_X0_copyFrom : (Gd (.instanceMethod yX0_copyFrom) ∧ Gd (.selects yX0_copyFrom.cls yX0_copyFrom yX0_copyFrom)) := ⟨gd 1070 (by decide +kernel) rfl, gd 1071 (by decide +kernel) rfl⟩
theorem mi_X0_countActions : (Gd (.instanceMethod yX0_countActions) ∧ Gd (.selects yX0_countActions.cls yX0_countActions yX0_countActions)) := ⟨gd 1092 (by decide +kernel) rfl, gd 1093 (by decide +kernel) rfl⟩
theorem mi_X0_percentTo : (Gd (.instanceMethod yX0_percentTo) ∧ Gd (.selects yX0_percentTo.cls yX0_percentTo yX0_percentTo)) := ⟨gd 1024 (by decide +kernel) rfl, gd 1025 (by decide +kernel) rfl⟩
theorem mi_X0_tell : (Gd (.instanceMethod yX0_tell) ∧ Gd (.selects yX0_tell.cls yX0_tell yX0_tell)) := ⟨gd 1028 (by decide +kernel) rfl, gd 1029 (by decide +kernel) rfl⟩
theorem mi_X10_draw : (Gd (.instanceMethod yX10_draw) ∧ Gd (.selects yX10_draw.cls yX10_draw yX10_draw)) := ⟨gd 1386 (by decide +kernel) rfl, gd 42 (by decide +kernel) rfl⟩
theorem mi_X10_drawAction : (Gd (.instanceMethod yX10_drawAction) ∧ Gd (.selects yX10_drawAction.cls yX10_drawAction yX10_drawAction)) := ⟨gd 1390 (by decide +kernel) rfl, gd 43 (by decide +kernel) rfl⟩
theorem mi_X10_drawNext : (Gd (.instanceMethod yX10_drawNext) ∧ Gd (.selects yX10_drawNext.cls yX10_drawNext yX10_drawNext)) := ⟨gd 1395 (by decide +kernel) rfl, gd 44 (by decide +kernel) rfl⟩
theorem mi_X10_gainOfNext : (Gd (.instanceMethod yX10_gainOfNext) ∧ Gd (.selects yX10_gainOfNext.cls yX10_gainOfNext yX10_gainOfNext)) := ⟨gd 1377 (by decide +kernel) rfl, gd 1378 (by decide +kernel) rfl⟩
theorem mi_X10_step : (Gd (.instanceMethod yX10_step) ∧ Gd (.selects yX10_step.cls yX10_step yX10_step)) := ⟨gd 1381 (by decide +kernel) rfl, gd 1382 (by decide +kernel) rfl⟩
theorem mi_X11_brokenWith : (Gd (.instanceMethod yX11_brokenWith) ∧ Gd (.selects yX11_brokenWith.cls yX11_brokenWith yX11_brokenWith)) := ⟨gd 1358 (by decide +kernel) rfl, gd 40 (by decide +kernel) rfl⟩
theorem mi_X11_followRules : (Gd (.instanceMethod yX11_followRules) ∧ Gd (.selects yX11_followRules.cls yX11_followRules yX11_followRules)) := ⟨gd 1171 (by decide +kernel) rfl, gd 25 (by decide +kernel) rfl⟩
theorem mi_X11_needAction : (Gd (.instanceMethod yX11_needAction) ∧ Gd (.selects yX11_needAction.cls yX11_needAction yX11_needAction)) := ⟨gd 1110 (by decide +kernel) rfl, gd 20 (by decide +kernel) rfl⟩
theorem mi_X11_needBudget : (Gd (.instanceMethod yX11_needBudget) ∧ Gd (.selects yX11_needBudget.cls yX11_needBudget yX11_needBudget)) := ⟨gd 1144 (by decide +kernel) rfl, gd 23 (by decide +kernel) rfl⟩
theorem mi_X11_needChain : (Gd (.instanceMethod yX11_needChain) ∧ Gd (.selects yX11_needChain.cls yX11_needChain yX11_needChain)) := ⟨gd 1118 (by decide +kernel) rfl, gd 22 (by decide +kernel) rfl⟩
theorem mi_X11_needState : (Gd (.instanceMethod yX11_needState) ∧ Gd (.selects yX11_needState.cls yX11_needState yX11_needState)) := ⟨gd 1114 (by decide +kernel) rfl, gd 21 (by decide +kernel) rfl⟩
theorem mi_X11_needTime : (Gd (.instanceMethod yX11_needTime) ∧ Gd (.selects yX11_needTime.cls yX11_needTime yX11_needTime)) := ⟨gd 1163 (by decide +kernel) rfl, gd 24 (by decide +kernel) rfl⟩
theorem mi_X11_needWalk : (Gd (.instanceMethod yX11_needWalk) ∧ Gd (.selects yX11_needWalk.cls yX11_needWalk yX11_needWalk)) := ⟨gd 1369 (by decide +kernel) rfl, gd 41 (by decide +kernel) rfl⟩
theorem mi_X1_addParts : (Gd (.instanceMethod yX1_addParts) ∧ Gd (.selects yX1_addParts.cls yX1_addParts yX1_addParts)) := ⟨gd 1187 (by decide +kernel) rfl, gd 27 (by decide +kernel) rfl⟩
theorem mi_X1_at : (Gd (.instanceMethod yX1_at) ∧ Gd (.selects yX1_at.cls yX1_at yX1_at)) := ⟨gd 1199 (by decide +kernel) rfl, gd 1200 (by decide +kernel) rfl⟩
theorem mi_X1_chanceOver : (Gd (.instanceMethod yX1_chanceOver) ∧ Gd (.selects yX1_chanceOver.cls yX1_chanceOver yX1_chanceOver)) := ⟨gd 1250 (by decide +kernel) rfl, gd 32 (by decide +kernel) rfl⟩
theorem mi_X1_fillChances : (Gd (.instanceMethod yX1_fillChances) ∧ Gd (.selects yX1_fillChances.cls yX1_fillChances yX1_fillChances)) := ⟨gd 1246 (by decide +kernel) rfl, gd 31 (by decide +kernel) rfl⟩
theorem mi_X1_fillParts : (Gd (.instanceMethod yX1_fillParts) ∧ Gd (.selects yX1_fillParts.cls yX1_fillParts yX1_fillParts)) := ⟨gd 1179 (by decide +kernel) rfl, gd 26 (by decide +kernel) rfl⟩
theorem mi_X1_follow : (Gd (.instanceMethod yX1_follow) ∧ Gd (.selects yX1_follow.cls yX1_follow yX1_follow)) := ⟨gd 1174 (by decide +kernel) rfl, gd 1175 (by decide +kernel) rfl⟩
theorem mi_X1_gainOf : (Gd (.instanceMethod yX1_gainOf) ∧ Gd (.selects yX1_gainOf.cls yX1_gainOf yX1_gainOf)) := ⟨gd 1320 (by decide +kernel) rfl, gd 1321 (by decide +kernel) rfl⟩
theorem mi_X1_hitOf : (Gd (.instanceMethod yX1_hitOf) ∧ Gd (.selects yX1_hitOf.cls yX1_hitOf yX1_hitOf)) := ⟨gd 1599 (by decide +kernel) rfl, gd 1600 (by decide +kernel) rfl⟩
theorem mi_X1_likeliestNext : (Gd (.instanceMethod yX1_likeliestNext) ∧ Gd (.selects yX1_likeliestNext.cls yX1_likeliestNext yX1_likeliestNext)) := ⟨gd 1257 (by decide +kernel) rfl, gd 33 (by decide +kernel) rfl⟩
theorem mi_X1_nextStates : (Gd (.instanceMethod yX1_nextStates) ∧ Gd (.selects yX1_nextStates.cls yX1_nextStates yX1_nextStates)) := ⟨gd 1207 (by decide +kernel) rfl, gd 1208 (by decide +kernel) rfl⟩
theorem mi_X1_partsTo : (Gd (.instanceMethod yX1_partsTo) ∧ Gd (.selects yX1_partsTo.cls yX1_partsTo yX1_partsTo)) := ⟨gd 1196 (by decide +kernel) rfl, gd 29 (by decide +kernel) rfl⟩
theorem mi_X1_rankOf : (Gd (.instanceMethod yX1_rankOf) ∧ Gd (.selects yX1_rankOf.cls yX1_rankOf yX1_rankOf)) := ⟨gd 1223 (by decide +kernel) rfl, gd 1224 (by decide +kernel) rfl⟩
theorem mi_X1_spread : (Gd (.instanceMethod yX1_spread) ∧ Gd (.selects yX1_spread.cls yX1_spread yX1_spread)) := ⟨gd 1192 (by decide +kernel) rfl, gd 28 (by decide +kernel) rfl⟩
theorem mi_X1_stateOfLikeliest : (Gd (.instanceMethod yX1_stateOfLikeliest) ∧ Gd (.selects yX1_stateOfLikeliest.cls yX1_stateOfLikeliest yX1_stateOfLikeliest)) := ⟨gd 1241 (by decide +kernel) rfl, gd 1242 (by decide +kernel) rfl⟩
theorem mi_X1_sumOf : (Gd (.instanceMethod yX1_sumOf) ∧ Gd (.selects yX1_sumOf.cls yX1_sumOf yX1_sumOf)) := ⟨gd 1232 (by decide +kernel) rfl, gd 30 (by decide +kernel) rfl⟩
theorem mi_X1_usedOf : (Gd (.instanceMethod yX1_usedOf) ∧ Gd (.selects yX1_usedOf.cls yX1_usedOf yX1_usedOf)) := ⟨gd 1324 (by decide +kernel) rfl, gd 1325 (by decide +kernel) rfl⟩
theorem mi_X1_visitsOf : (Gd (.instanceMethod yX1_visitsOf) ∧ Gd (.selects yX1_visitsOf.cls yX1_visitsOf yX1_visitsOf)) := ⟨gd 1227 (by decide +kernel) rfl, gd 1228 (by decide +kernel) rfl⟩
theorem mi_X2_advance : (Gd (.instanceMethod yX2_advance) ∧ Gd (.selects yX2_advance.cls yX2_advance yX2_advance)) := ⟨gd 946 (by decide +kernel) rfl, gd 947 (by decide +kernel) rfl⟩
theorem mi_X2_begin : (Gd (.instanceMethod yX2_begin) ∧ Gd (.selects yX2_begin.cls yX2_begin yX2_begin)) := ⟨gd 941 (by decide +kernel) rfl, gd 942 (by decide +kernel) rfl⟩
theorem mi_X2_hasRoom : (Gd (.instanceMethod yX2_hasRoom) ∧ Gd (.selects yX2_hasRoom.cls yX2_hasRoom yX2_hasRoom)) := ⟨gd 840 (by decide +kernel) rfl, gd 841 (by decide +kernel) rfl⟩
theorem mi_X2_isWord : (Gd (.instanceMethod yX2_isWord) ∧ Gd (.selects yX2_isWord.cls yX2_isWord yX2_isWord)) := ⟨gd 965 (by decide +kernel) rfl, gd 966 (by decide +kernel) rfl⟩
theorem mi_X2_put : (Gd (.instanceMethod yX2_put) ∧ Gd (.selects yX2_put.cls yX2_put yX2_put)) := ⟨gd 844 (by decide +kernel) rfl, gd 845 (by decide +kernel) rfl⟩
theorem mi_X3_dropOldest : (Gd (.instanceMethod yX3_dropOldest) ∧ Gd (.selects yX3_dropOldest.cls yX3_dropOldest yX3_dropOldest)) := ⟨gd 1414 (by decide +kernel) rfl, gd 45 (by decide +kernel) rfl⟩
theorem mi_X3_forget : (Gd (.instanceMethod yX3_forget) ∧ Gd (.selects yX3_forget.cls yX3_forget yX3_forget)) := ⟨gd 1084 (by decide +kernel) rfl, gd 1085 (by decide +kernel) rfl⟩
theorem mi_X3_giveBack : (Gd (.instanceMethod yX3_giveBack) ∧ Gd (.selects yX3_giveBack.cls yX3_giveBack yX3_giveBack)) := ⟨gd 1443 (by decide +kernel) rfl, gd 1444 (by decide +kernel) rfl⟩
theorem mi_X3_isFull : (Gd (.instanceMethod yX3_isFull) ∧ Gd (.selects yX3_isFull.cls yX3_isFull yX3_isFull)) := ⟨gd 1463 (by decide +kernel) rfl, gd 1464 (by decide +kernel) rfl⟩
theorem mi_X3_keep : (Gd (.instanceMethod yX3_keep) ∧ Gd (.selects yX3_keep.cls yX3_keep yX3_keep)) := ⟨gd 1409 (by decide +kernel) rfl, gd 1410 (by decide +kernel) rfl⟩
theorem mi_X3_put : (Gd (.instanceMethod yX3_put) ∧ Gd (.selects yX3_put.cls yX3_put yX3_put)) := ⟨gd 1455 (by decide +kernel) rfl, gd 1456 (by decide +kernel) rfl⟩
theorem mi_X3_take : (Gd (.instanceMethod yX3_take) ∧ Gd (.selects yX3_take.cls yX3_take yX3_take)) := ⟨gd 1468 (by decide +kernel) rfl, gd 1469 (by decide +kernel) rfl⟩
theorem mi_X4_checkStates : (Gd (.instanceMethod yX4_checkStates) ∧ Gd (.selects yX4_checkStates.cls yX4_checkStates yX4_checkStates)) := ⟨gd 1051 (by decide +kernel) rfl, gd 19 (by decide +kernel) rfl⟩
theorem mi_X4_endLine : (Gd (.instanceMethod yX4_endLine) ∧ Gd (.selects yX4_endLine.cls yX4_endLine yX4_endLine)) := ⟨gd 1033 (by decide +kernel) rfl, gd 15 (by decide +kernel) rfl⟩
theorem mi_X4_fail : (Gd (.instanceMethod yX4_fail) ∧ Gd (.selects yX4_fail.cls yX4_fail yX4_fail)) := ⟨gd 972 (by decide +kernel) rfl, gd 5 (by decide +kernel) rfl⟩
theorem mi_X4_parse : (Gd (.instanceMethod yX4_parse) ∧ Gd (.selects yX4_parse.cls yX4_parse yX4_parse)) := ⟨gd 919 (by decide +kernel) rfl, gd 920 (by decide +kernel) rfl⟩
theorem mi_X4_parseAct : (Gd (.instanceMethod yX4_parseAct) ∧ Gd (.selects yX4_parseAct.cls yX4_parseAct yX4_parseAct)) := ⟨gd 998 (by decide +kernel) rfl, gd 10 (by decide +kernel) rfl⟩
theorem mi_X4_parseBudget : (Gd (.instanceMethod yX4_parseBudget) ∧ Gd (.selects yX4_parseBudget.cls yX4_parseBudget yX4_parseBudget)) := ⟨gd 993 (by decide +kernel) rfl, gd 9 (by decide +kernel) rfl⟩
theorem mi_X4_parseGain : (Gd (.instanceMethod yX4_parseGain) ∧ Gd (.selects yX4_parseGain.cls yX4_parseGain yX4_parseGain)) := ⟨gd 1007 (by decide +kernel) rfl, gd 12 (by decide +kernel) rfl⟩
theorem mi_X4_parseHead : (Gd (.instanceMethod yX4_parseHead) ∧ Gd (.selects yX4_parseHead.cls yX4_parseHead yX4_parseHead)) := ⟨gd 957 (by decide +kernel) rfl, gd 3 (by decide +kernel) rfl⟩
theorem mi_X4_parseLine : (Gd (.instanceMethod yX4_parseLine) ∧ Gd (.selects yX4_parseLine.cls yX4_parseLine yX4_parseLine)) := ⟨gd 988 (by decide +kernel) rfl, gd 8 (by decide +kernel) rfl⟩
theorem mi_X4_parsePercents : (Gd (.instanceMethod yX4_parsePercents) ∧ Gd (.selects yX4_parsePercents.cls yX4_parsePercents yX4_parsePercents)) := ⟨gd 1020 (by decide +kernel) rfl, gd 14 (by decide +kernel) rfl⟩
theorem mi_X4_parseRule : (Gd (.instanceMethod yX4_parseRule) ∧ Gd (.selects yX4_parseRule.cls yX4_parseRule yX4_parseRule)) := ⟨gd 1038 (by decide +kernel) rfl, gd 16 (by decide +kernel) rfl⟩
theorem mi_X4_parseStart : (Gd (.instanceMethod yX4_parseStart) ∧ Gd (.selects yX4_parseStart.cls yX4_parseStart yX4_parseStart)) := ⟨gd 1046 (by decide +kernel) rfl, gd 18 (by decide +kernel) rfl⟩
theorem mi_X4_parseUses : (Gd (.instanceMethod yX4_parseUses) ∧ Gd (.selects yX4_parseUses.cls yX4_parseUses yX4_parseUses)) := ⟨gd 1011 (by decide +kernel) rfl, gd 13 (by decide +kernel) rfl⟩
theorem mi_X4_parseWeights : (Gd (.instanceMethod yX4_parseWeights) ∧ Gd (.selects yX4_parseWeights.cls yX4_parseWeights yX4_parseWeights)) := ⟨gd 1042 (by decide +kernel) rfl, gd 17 (by decide +kernel) rfl⟩
theorem mi_X4_seeNumber : (Gd (.instanceMethod yX4_seeNumber) ∧ Gd (.selects yX4_seeNumber.cls yX4_seeNumber yX4_seeNumber)) := ⟨gd 982 (by decide +kernel) rfl, gd 7 (by decide +kernel) rfl⟩
theorem mi_X4_seeState : (Gd (.instanceMethod yX4_seeState) ∧ Gd (.selects yX4_seeState.cls yX4_seeState yX4_seeState)) := ⟨gd 1002 (by decide +kernel) rfl, gd 11 (by decide +kernel) rfl⟩
theorem mi_X4_takeNumber : (Gd (.instanceMethod yX4_takeNumber) ∧ Gd (.selects yX4_takeNumber.cls yX4_takeNumber yX4_takeNumber)) := ⟨gd 978 (by decide +kernel) rfl, gd 6 (by decide +kernel) rfl⟩
theorem mi_X4_takeWord : (Gd (.instanceMethod yX4_takeWord) ∧ Gd (.selects yX4_takeWord.cls yX4_takeWord yX4_takeWord)) := ⟨gd 962 (by decide +kernel) rfl, gd 4 (by decide +kernel) rfl⟩
theorem mi_X5_begin : (Gd (.instanceMethod yX5_begin) ∧ Gd (.selects yX5_begin.cls yX5_begin yX5_begin)) := ⟨gd 1309 (by decide +kernel) rfl, gd 36 (by decide +kernel) rfl⟩
theorem mi_X5_fill : (Gd (.instanceMethod yX5_fill) ∧ Gd (.selects yX5_fill.cls yX5_fill yX5_fill)) := ⟨gd 1305 (by decide +kernel) rfl, gd 35 (by decide +kernel) rfl⟩
theorem mi_X5_findBest : (Gd (.instanceMethod yX5_findBest) ∧ Gd (.selects yX5_findBest.cls yX5_findBest yX5_findBest)) := ⟨gd 1300 (by decide +kernel) rfl, gd 1301 (by decide +kernel) rfl⟩
theorem mi_X5_forget : (Gd (.instanceMethod yX5_forget) ∧ Gd (.selects yX5_forget.cls yX5_forget yX5_forget)) := ⟨gd 1088 (by decide +kernel) rfl, gd 1089 (by decide +kernel) rfl⟩
theorem mi_X5_holds : (Gd (.instanceMethod yX5_holds) ∧ Gd (.selects yX5_holds.cls yX5_holds yX5_holds)) := ⟨gd 1340 (by decide +kernel) rfl, gd 39 (by decide +kernel) rfl⟩
theorem mi_X5_isPermittedSet : (Gd (.instanceMethod yX5_isPermittedSet) ∧ Gd (.selects yX5_isPermittedSet.cls yX5_isPermittedSet yX5_isPermittedSet)) := ⟨gd 1335 (by decide +kernel) rfl, gd 38 (by decide +kernel) rfl⟩
theorem mi_X5_moveOn : (Gd (.instanceMethod yX5_moveOn) ∧ Gd (.selects yX5_moveOn.cls yX5_moveOn yX5_moveOn)) := ⟨gd 1330 (by decide +kernel) rfl, gd 37 (by decide +kernel) rfl⟩
theorem mi_X5_writeWeights : (Gd (.instanceMethod yX5_writeWeights) ∧ Gd (.selects yX5_writeWeights.cls yX5_writeWeights yX5_writeWeights)) := ⟨gd 1313 (by decide +kernel) rfl, gd 1314 (by decide +kernel) rfl⟩
theorem mi_X7_clear : (Gd (.instanceMethod yX7_clear) ∧ Gd (.selects yX7_clear.cls yX7_clear yX7_clear)) := ⟨gd 930 (by decide +kernel) rfl, gd 931 (by decide +kernel) rfl⟩
theorem mi_X7_copyFrom : (Gd (.instanceMethod yX7_copyFrom) ∧ Gd (.selects yX7_copyFrom.cls yX7_copyFrom yX7_copyFrom)) := ⟨gd 1079 (by decide +kernel) rfl, gd 1080 (by decide +kernel) rfl⟩
theorem mi_X7_permits : (Gd (.instanceMethod yX7_permits) ∧ Gd (.selects yX7_permits.cls yX7_permits yX7_permits)) := ⟨gd 1285 (by decide +kernel) rfl, gd 1286 (by decide +kernel) rfl⟩
theorem mi_X7_walkRow : (Gd (.instanceMethod yX7_walkRow) ∧ Gd (.selects yX7_walkRow.cls yX7_walkRow yX7_walkRow)) := ⟨gd 1535 (by decide +kernel) rfl, gd 1536 (by decide +kernel) rfl⟩
theorem mi_X9_fill : (Gd (.instanceMethod yX9_fill) ∧ Gd (.selects yX9_fill.cls yX9_fill yX9_fill)) := ⟨gd 1264 (by decide +kernel) rfl, gd 1265 (by decide +kernel) rfl⟩
theorem mi_X9_firstAction : (Gd (.instanceMethod yX9_firstAction) ∧ Gd (.selects yX9_firstAction.cls yX9_firstAction yX9_firstAction)) := ⟨gd 1269 (by decide +kernel) rfl, gd 1270 (by decide +kernel) rfl⟩
theorem mi_X9_of : (Gd (.instanceMethod yX9_of) ∧ Gd (.selects yX9_of.cls yX9_of yX9_of)) := ⟨gd 1281 (by decide +kernel) rfl, gd 1282 (by decide +kernel) rfl⟩
theorem mi_X9_valueOver : (Gd (.instanceMethod yX9_valueOver) ∧ Gd (.selects yX9_valueOver.cls yX9_valueOver yX9_valueOver)) := ⟨gd 1276 (by decide +kernel) rfl, gd 34 (by decide +kernel) rfl⟩
theorem ms_J7_fill_53178 : Gd (.static yJ7_fill_53178) := gd 927 (by decide +kernel) rfl
theorem ms_J7_fill_d0a16 : Gd (.static yJ7_fill_d0a16) := gd 1182 (by decide +kernel) rfl
theorem ms_X11_copyRow : Gd (.static yX11_copyRow) := gd 1074 (by decide +kernel) rfl
theorem ms_X11_needRange : Gd (.static yX11_needRange) := gd 1166 (by decide +kernel) rfl
theorem ms_X11_needSlot : Gd (.static yX11_needSlot) := gd 1451 (by decide +kernel) rfl
theorem ms_X11_rowOf : Gd (.static yX11_rowOf) := gd 937 (by decide +kernel) rfl
theorem ms_X11_setWeights : Gd (.static yX11_setWeights) := gd 934 (by decide +kernel) rfl
theorem ms_X11_unitOf : Gd (.static yX11_unitOf) := gd 1343 (by decide +kernel) rfl
theorem ms_X2_isDigit : Gd (.static yX2_isDigit) := gd 953 (by decide +kernel) rfl
theorem ms_X2_isLetter : Gd (.static yX2_isLetter) := gd 950 (by decide +kernel) rfl
theorem cl_RX11_272 : Gd (.constantLong RX11 272 (-9223372036854775808 : Int64)) := gd 1348 (by decide +kernel) rfl
theorem cl_RX11_404 : Gd (.constantLong RX11 404 (10 : Int64)) := gd 1345 (by decide +kernel) rfl
theorem cl_RX11_406 : Gd (.constantLong RX11 406 (1000 : Int64)) := gd 1346 (by decide +kernel) rfl
theorem cl_RX1_76 : Gd (.constantLong RX1 76 (1000 : Int64)) := gd 1234 (by decide +kernel) rfl
theorem cl_RX5_50 : Gd (.constantLong RX5 50 (-9223372036854775808 : Int64)) := gd 1332 (by decide +kernel) rfl
theorem cl_RX9_46 : Gd (.constantLong RX9 46 (-9223372036854775808 : Int64)) := gd 1272 (by decide +kernel) rfl
theorem cl_RX9_66 : Gd (.constantLong RX9 66 (100 : Int64)) := gd 1278 (by decide +kernel) rfl
theorem th_RX11_112_116 : Gd (.classLink RX11 112 (xN 1)) ∧ Gd (.initialized (xN 1)) ∧ (∀ w ∈ vx_atS RX11 116 (xN 1) ["java/lang/RuntimeException", "java/lang/Exception"], Gd w) ∧ (∀ w ∈ Cond.classLink RX11 112 (xN 1) :: Cond.initialized (xN 1) :: vx_atS RX11 116 (xN 1) ["java/lang/RuntimeException", "java/lang/Exception"], vx_ot w = true) := by
  have h : ∀ w ∈ vx_atS RX11 116 (xN 1) ["java/lang/RuntimeException", "java/lang/Exception"], w ∈ lw_tbl ∧ okW w = true := by decide +kernel
  exact ⟨gd 851 (by decide +kernel) rfl, gd 77 (by decide +kernel) rfl, fun w hw => gdm (h w hw), by decide +kernel⟩
theorem th_RX11_122_126 : Gd (.classLink RX11 122 (xN 2)) ∧ Gd (.initialized (xN 2)) ∧ (∀ w ∈ vx_atS RX11 126 (xN 2) ["java/lang/RuntimeException", "java/lang/Exception"], Gd w) ∧ (∀ w ∈ Cond.classLink RX11 122 (xN 2) :: Cond.initialized (xN 2) :: vx_atS RX11 126 (xN 2) ["java/lang/RuntimeException", "java/lang/Exception"], vx_ot w = true) := by
  have h : ∀ w ∈ vx_atS RX11 126 (xN 2) ["java/lang/RuntimeException", "java/lang/Exception"], w ∈ lw_tbl ∧ okW w = true := by decide +kernel
  exact ⟨gd 1053 (by decide +kernel) rfl, gd 78 (by decide +kernel) rfl, fun w hw => gdm (h w hw), by decide +kernel⟩
theorem th_RX11_334_338 : Gd (.classLink RX11 334 (xN 0)) ∧ Gd (.initialized (xN 0)) ∧ (∀ w ∈ vx_atS RX11 338 (xN 0) ["java/lang/RuntimeException", "java/lang/Exception"], Gd w) ∧ (∀ w ∈ Cond.classLink RX11 334 (xN 0) :: Cond.initialized (xN 0) :: vx_atS RX11 338 (xN 0) ["java/lang/RuntimeException", "java/lang/Exception"], vx_ot w = true) := by
  have h : ∀ w ∈ vx_atS RX11 338 (xN 0) ["java/lang/RuntimeException", "java/lang/Exception"], w ∈ lw_tbl ∧ okW w = true := by decide +kernel
  exact ⟨gd 1120 (by decide +kernel) rfl, gd 76 (by decide +kernel) rfl, fun w hw => gdm (h w hw), by decide +kernel⟩
