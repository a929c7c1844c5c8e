theorem rc0 : vwCl[0]? = some (RX0, TX0, 8) := rfl
theorem rc1 : vwCl[1]? = some (RX1, TX1, 7) := rfl
theorem rc2 : vwCl[2]? = some (RX2, TX2, 7) := rfl
theorem rc3 : vwCl[3]? = some (RX3, TX3, 4) := rfl
theorem rc4 : vwCl[4]? = some (RX4, TX4, 7) := rfl
theorem rc5 : vwCl[5]? = some (RX5, TX5, 11) := rfl
theorem rc6 : vwCl[6]? = some (RX6, TX6, 2) := rfl
theorem rc7 : vwCl[7]? = some (RX7, TX7, 9) := rfl
theorem rc8 : vwCl[8]? = some (RX8, TX8, 4) := rfl
theorem rc9 : vwCl[9]? = some (RX9, TX9, 3) := rfl
theorem rc10 : vwCl[10]? = some (RX10, TX10, 4) := rfl
theorem rc11 : vwCl[11]? = some (RX11, TX11, 12) := rfl
theorem rc12 : vwCl[12]? = some (RX12, TX12, 32) := rfl
theorem uw0 : ∀ w ∈ u_ws RX0 TX0 8, Gd w := by
  have h : ∀ w ∈ u_ws RX0 TX0 8, w ∈ lw_tbl ∧ okW w = true := by decide +kernel
  exact h
theorem uw1 : ∀ w ∈ u_ws RX1 TX1 7, Gd w := by
  have h : ∀ w ∈ u_ws RX1 TX1 7, w ∈ lw_tbl ∧ okW w = true := by decide +kernel
  exact h
theorem uw2 : ∀ w ∈ u_ws RX2 TX2 7, Gd w := by
  have h : ∀ w ∈ u_ws RX2 TX2 7, w ∈ lw_tbl ∧ okW w = true := by decide +kernel
  exact h
theorem uw3 : ∀ w ∈ u_ws RX3 TX3 4, Gd w := by
  have h : ∀ w ∈ u_ws RX3 TX3 4, w ∈ lw_tbl ∧ okW w = true := by decide +kernel
  exact h
theorem uw4 : ∀ w ∈ u_ws RX4 TX4 7, Gd w := by
  have h : ∀ w ∈ u_ws RX4 TX4 7, w ∈ lw_tbl ∧ okW w = true := by decide +kernel
  exact h
theorem uw5 : ∀ w ∈ u_ws RX5 TX5 11, Gd w := by
  have h : ∀ w ∈ u_ws RX5 TX5 11, w ∈ lw_tbl ∧ okW w = true := by decide +kernel
  exact h
theorem uw6 : ∀ w ∈ u_ws RX6 TX6 2, Gd w := by
  have h : ∀ w ∈ u_ws RX6 TX6 2, w ∈ lw_tbl ∧ okW w = true := by decide +kernel
  exact h
theorem uw7 : ∀ w ∈ u_ws RX7 TX7 9, Gd w := by
  have h : ∀ w ∈ u_ws RX7 TX7 9, w ∈ lw_tbl ∧ okW w = true := by decide +kernel
  exact h
theorem uw8 : ∀ w ∈ u_ws RX8 TX8 4, Gd w := by
  have h : ∀ w ∈ u_ws RX8 TX8 4, w ∈ lw_tbl ∧ okW w = true := by decide +kernel
  exact h
theorem uw9 : ∀ w ∈ u_ws RX9 TX9 3, Gd w := by
  have h : ∀ w ∈ u_ws RX9 TX9 3, w ∈ lw_tbl ∧ okW w = true := by decide +kernel
  exact h
theorem uw10 : ∀ w ∈ u_ws RX10 TX10 4, Gd w := by
  have h : ∀ w ∈ u_ws RX10 TX10 4, w ∈ lw_tbl ∧ okW w = true := by decide +kernel
  exact h
theorem uw11 : ∀ w ∈ u_ws RX11 TX11 12, Gd w := by
  have h : ∀ w ∈ u_ws RX11 TX11 12, w ∈ lw_tbl ∧ okW w = true := by decide +kernel
  exact h
theorem uw12 : ∀ w ∈ u_ws RX12 TX12 32, Gd w := by
  have h : ∀ w ∈ u_ws RX12 TX12 32, w ∈ lw_tbl ∧ okW w = true := by decide +kernel
  exact h
theorem lk_RX0_9 : FLk RX0 9 0 2 2 := ⟨_, _, _, rc0, by decide, by decide +kernel, uw0, gd 207 (by decide +kernel) rfl⟩
theorem lk_RX0_15 : FLk RX0 15 0 3 2 := ⟨_, _, _, rc0, by decide, by decide +kernel, uw0, gd 215 (by decide +kernel) rfl⟩
theorem lk_RX0_18 : FLk RX0 18 0 4 2 := ⟨_, _, _, rc0, by decide, by decide +kernel, uw0, gd 221 (by decide +kernel) rfl⟩
theorem lk_RX0_21 : FLk RX0 21 0 5 2 := ⟨_, _, _, rc0, by decide, by decide +kernel, uw0, gd 223 (by decide +kernel) rfl⟩
theorem lk_RX0_24 : FLk RX0 24 0 6 2 := ⟨_, _, _, rc0, by decide, by decide +kernel, uw0, gd 224 (by decide +kernel) rfl⟩
theorem lk_RX0_27 : FLk RX0 27 0 7 2 := ⟨_, _, _, rc0, by decide, by decide +kernel, uw0, gd 226 (by decide +kernel) rfl⟩
theorem lk_RX0_30 : FLk RX0 30 0 0 0 := ⟨_, _, _, rc0, by decide, by decide +kernel, uw0, gd 196 (by decide +kernel) rfl⟩
theorem lk_RX0_34 : FLk RX0 34 0 1 0 := ⟨_, _, _, rc0, by decide, by decide +kernel, uw0, gd 203 (by decide +kernel) rfl⟩
theorem lk_RX1_9 : FLk RX1 9 1 3 2 := ⟨_, _, _, rc1, by decide, by decide +kernel, uw1, gd 313 (by decide +kernel) rfl⟩
theorem lk_RX1_15 : FLk RX1 15 1 4 2 := ⟨_, _, _, rc1, by decide, by decide +kernel, uw1, gd 314 (by decide +kernel) rfl⟩
theorem lk_RX1_18 : FLk RX1 18 1 5 2 := ⟨_, _, _, rc1, by decide, by decide +kernel, uw1, gd 315 (by decide +kernel) rfl⟩
theorem lk_RX1_21 : FLk RX1 21 1 6 2 := ⟨_, _, _, rc1, by decide, by decide +kernel, uw1, gd 316 (by decide +kernel) rfl⟩
theorem lk_RX1_24 : FLk RX1 24 1 0 2 := ⟨_, _, _, rc1, by decide, by decide +kernel, uw1, gd 310 (by decide +kernel) rfl⟩
theorem lk_RX1_28 : FLk RX1 28 1 1 0 := ⟨_, _, _, rc1, by decide, by decide +kernel, uw1, gd 311 (by decide +kernel) rfl⟩
theorem lk_RX1_32 : FLk RX1 32 1 2 0 := ⟨_, _, _, rc1, by decide, by decide +kernel, uw1, gd 312 (by decide +kernel) rfl⟩
theorem lk_RX1_49 : FLk RX1 49 0 0 0 := ⟨_, _, _, rc0, by decide, by decide +kernel, uw0, gd 199 (by decide +kernel) rfl⟩
theorem lk_RX1_54 : FLk RX1 54 0 2 2 := ⟨_, _, _, rc0, by decide, by decide +kernel, uw0, gd 208 (by decide +kernel) rfl⟩
theorem lk_RX1_85 : FLk RX1 85 0 3 2 := ⟨_, _, _, rc0, by decide, by decide +kernel, uw0, gd 220 (by decide +kernel) rfl⟩
theorem lk_RX10_9 : FLk RX10 9 10 0 2 := ⟨_, _, _, rc10, by decide, by decide +kernel, uw10, gd 474 (by decide +kernel) rfl⟩
theorem lk_RX10_23 : FLk RX10 23 10 3 0 := ⟨_, _, _, rc10, by decide, by decide +kernel, uw10, gd 479 (by decide +kernel) rfl⟩
theorem lk_RX10_27 : FLk RX10 27 10 2 0 := ⟨_, _, _, rc10, by decide, by decide +kernel, uw10, gd 477 (by decide +kernel) rfl⟩
theorem lk_RX10_37 : FLk RX10 37 7 3 0 := ⟨_, _, _, rc7, by decide, by decide +kernel, uw7, gd 266 (by decide +kernel) rfl⟩
theorem lk_RX10_42 : FLk RX10 42 7 4 0 := ⟨_, _, _, rc7, by decide, by decide +kernel, uw7, gd 272 (by decide +kernel) rfl⟩
theorem lk_RX10_45 : FLk RX10 45 7 0 2 := ⟨_, _, _, rc7, by decide, by decide +kernel, uw7, gd 254 (by decide +kernel) rfl⟩
theorem lk_RX10_53 : FLk RX10 53 0 3 2 := ⟨_, _, _, rc0, by decide, by decide +kernel, uw0, gd 216 (by decide +kernel) rfl⟩
theorem lk_RX10_58 : FLk RX10 58 10 1 0 := ⟨_, _, _, rc10, by decide, by decide +kernel, uw10, gd 475 (by decide +kernel) rfl⟩
theorem lk_RX10_61 : FLk RX10 61 0 2 2 := ⟨_, _, _, rc0, by decide, by decide +kernel, uw0, gd 211 (by decide +kernel) rfl⟩
theorem lk_RX10_64 : FLk RX10 64 0 7 2 := ⟨_, _, _, rc0, by decide, by decide +kernel, uw0, gd 227 (by decide +kernel) rfl⟩
theorem lk_RX10_67 : FLk RX10 67 0 6 2 := ⟨_, _, _, rc0, by decide, by decide +kernel, uw0, gd 225 (by decide +kernel) rfl⟩
theorem lk_RX11_25 : FLk RX11 25 11 0 2 := ⟨_, _, _, rc11, by decide, by decide +kernel, uw11, gd 505 (by decide +kernel) rfl⟩
theorem lk_RX11_34 : FLk RX11 34 11 1 2 := ⟨_, _, _, rc11, by decide, by decide +kernel, uw11, gd 506 (by decide +kernel) rfl⟩
theorem lk_RX11_38 : FLk RX11 38 11 2 2 := ⟨_, _, _, rc11, by decide, by decide +kernel, uw11, gd 507 (by decide +kernel) rfl⟩
theorem lk_RX11_42 : FLk RX11 42 11 3 2 := ⟨_, _, _, rc11, by decide, by decide +kernel, uw11, gd 508 (by decide +kernel) rfl⟩
theorem lk_RX11_49 : FLk RX11 49 11 4 2 := ⟨_, _, _, rc11, by decide, by decide +kernel, uw11, gd 509 (by decide +kernel) rfl⟩
theorem lk_RX11_53 : FLk RX11 53 11 5 2 := ⟨_, _, _, rc11, by decide, by decide +kernel, uw11, gd 510 (by decide +kernel) rfl⟩
theorem lk_RX11_60 : FLk RX11 60 11 6 2 := ⟨_, _, _, rc11, by decide, by decide +kernel, uw11, gd 511 (by decide +kernel) rfl⟩
theorem lk_RX11_69 : FLk RX11 69 11 7 2 := ⟨_, _, _, rc11, by decide, by decide +kernel, uw11, gd 512 (by decide +kernel) rfl⟩
theorem lk_RX11_78 : FLk RX11 78 11 8 2 := ⟨_, _, _, rc11, by decide, by decide +kernel, uw11, gd 513 (by decide +kernel) rfl⟩
theorem lk_RX11_85 : FLk RX11 85 11 9 2 := ⟨_, _, _, rc11, by decide, by decide +kernel, uw11, gd 514 (by decide +kernel) rfl⟩
theorem lk_RX11_92 : FLk RX11 92 11 10 2 := ⟨_, _, _, rc11, by decide, by decide +kernel, uw11, gd 515 (by decide +kernel) rfl⟩
theorem lk_RX11_96 : FLk RX11 96 11 11 2 := ⟨_, _, _, rc11, by decide, by decide +kernel, uw11, gd 516 (by decide +kernel) rfl⟩
theorem lk_RX11_108 : FLk RX11 108 2 1 0 := ⟨_, _, _, rc2, by decide, by decide +kernel, uw2, gd 165 (by decide +kernel) rfl⟩
theorem lk_RX11_127 : FLk RX11 127 4 0 2 := ⟨_, _, _, rc4, by decide, by decide +kernel, uw4, gd 344 (by decide +kernel) rfl⟩
theorem lk_RX11_131 : FLk RX11 131 4 1 2 := ⟨_, _, _, rc4, by decide, by decide +kernel, uw4, gd 346 (by decide +kernel) rfl⟩
theorem lk_RX11_145 : FLk RX11 145 4 2 0 := ⟨_, _, _, rc4, by decide, by decide +kernel, uw4, gd 348 (by decide +kernel) rfl⟩
theorem lk_RX11_148 : FLk RX11 148 4 3 0 := ⟨_, _, _, rc4, by decide, by decide +kernel, uw4, gd 350 (by decide +kernel) rfl⟩
theorem lk_RX11_151 : FLk RX11 151 0 0 0 := ⟨_, _, _, rc0, by decide, by decide +kernel, uw0, gd 201 (by decide +kernel) rfl⟩
theorem lk_RX11_154 : FLk RX11 154 0 1 0 := ⟨_, _, _, rc0, by decide, by decide +kernel, uw0, gd 205 (by decide +kernel) rfl⟩
theorem lk_RX11_157 : FLk RX11 157 7 4 0 := ⟨_, _, _, rc7, by decide, by decide +kernel, uw7, gd 275 (by decide +kernel) rfl⟩
theorem lk_RX11_163 : FLk RX11 163 7 3 0 := ⟨_, _, _, rc7, by decide, by decide +kernel, uw7, gd 268 (by decide +kernel) rfl⟩
theorem lk_RX11_169 : FLk RX11 169 0 2 2 := ⟨_, _, _, rc0, by decide, by decide +kernel, uw0, gd 213 (by decide +kernel) rfl⟩
theorem lk_RX11_176 : FLk RX11 176 0 3 2 := ⟨_, _, _, rc0, by decide, by decide +kernel, uw0, gd 218 (by decide +kernel) rfl⟩
theorem lk_RX11_192 : FLk RX11 192 7 0 2 := ⟨_, _, _, rc7, by decide, by decide +kernel, uw7, gd 255 (by decide +kernel) rfl⟩
theorem lk_RX11_199 : FLk RX11 199 7 2 2 := ⟨_, _, _, rc7, by decide, by decide +kernel, uw7, gd 263 (by decide +kernel) rfl⟩
theorem lk_RX11_274 : FLk RX11 274 5 10 2 := ⟨_, _, _, rc5, by decide, by decide +kernel, uw5, gd 428 (by decide +kernel) rfl⟩
theorem lk_RX11_293 : FLk RX11 293 7 5 0 := ⟨_, _, _, rc7, by decide, by decide +kernel, uw7, gd 278 (by decide +kernel) rfl⟩
theorem lk_RX11_299 : FLk RX11 299 7 6 0 := ⟨_, _, _, rc7, by decide, by decide +kernel, uw7, gd 280 (by decide +kernel) rfl⟩
theorem lk_RX11_302 : FLk RX11 302 7 7 2 := ⟨_, _, _, rc7, by decide, by decide +kernel, uw7, gd 282 (by decide +kernel) rfl⟩
theorem lk_RX11_305 : FLk RX11 305 7 8 2 := ⟨_, _, _, rc7, by decide, by decide +kernel, uw7, gd 284 (by decide +kernel) rfl⟩
theorem lk_RX11_311 : FLk RX11 311 10 1 0 := ⟨_, _, _, rc10, by decide, by decide +kernel, uw10, gd 476 (by decide +kernel) rfl⟩
theorem lk_RX11_316 : FLk RX11 316 6 1 0 := ⟨_, _, _, rc6, by decide, by decide +kernel, uw6, gd 499 (by decide +kernel) rfl⟩
theorem lk_RX11_325 : FLk RX11 325 6 0 2 := ⟨_, _, _, rc6, by decide, by decide +kernel, uw6, gd 497 (by decide +kernel) rfl⟩
theorem lk_RX11_342 : FLk RX11 342 7 1 2 := ⟨_, _, _, rc7, by decide, by decide +kernel, uw7, gd 258 (by decide +kernel) rfl⟩
theorem lk_RX11_347 : FLk RX11 347 10 2 0 := ⟨_, _, _, rc10, by decide, by decide +kernel, uw10, gd 478 (by decide +kernel) rfl⟩
theorem lk_RX11_354 : FLk RX11 354 10 3 0 := ⟨_, _, _, rc10, by decide, by decide +kernel, uw10, gd 480 (by decide +kernel) rfl⟩
theorem lk_RX11_357 : FLk RX11 357 3 0 0 := ⟨_, _, _, rc3, by decide, by decide +kernel, uw3, gd 379 (by decide +kernel) rfl⟩
theorem lk_RX12_7 : FLk RX12 7 12 2 2 := ⟨_, _, _, rc12, by decide, by decide +kernel, uw12, gd 1595 (by decide +kernel) rfl⟩
theorem lk_RX12_13 : FLk RX12 13 12 3 2 := ⟨_, _, _, rc12, by decide, by decide +kernel, uw12, gd 1596 (by decide +kernel) rfl⟩
theorem lk_RX12_16 : FLk RX12 16 12 5 2 := ⟨_, _, _, rc12, by decide, by decide +kernel, uw12, gd 1598 (by decide +kernel) rfl⟩
theorem lk_RX12_20 : FLk RX12 20 12 6 2 := ⟨_, _, _, rc12, by decide, by decide +kernel, uw12, gd 1599 (by decide +kernel) rfl⟩
theorem lk_RX12_23 : FLk RX12 23 12 7 2 := ⟨_, _, _, rc12, by decide, by decide +kernel, uw12, gd 1600 (by decide +kernel) rfl⟩
theorem lk_RX12_26 : FLk RX12 26 12 8 2 := ⟨_, _, _, rc12, by decide, by decide +kernel, uw12, gd 1601 (by decide +kernel) rfl⟩
theorem lk_RX12_29 : FLk RX12 29 12 11 0 := ⟨_, _, _, rc12, by decide, by decide +kernel, uw12, gd 1604 (by decide +kernel) rfl⟩
theorem lk_RX12_33 : FLk RX12 33 12 16 2 := ⟨_, _, _, rc12, by decide, by decide +kernel, uw12, gd 1609 (by decide +kernel) rfl⟩
theorem lk_RX12_36 : FLk RX12 36 12 21 2 := ⟨_, _, _, rc12, by decide, by decide +kernel, uw12, gd 1614 (by decide +kernel) rfl⟩
theorem lk_RX12_40 : FLk RX12 40 12 22 2 := ⟨_, _, _, rc12, by decide, by decide +kernel, uw12, gd 1615 (by decide +kernel) rfl⟩
theorem lk_RX12_43 : FLk RX12 43 12 23 2 := ⟨_, _, _, rc12, by decide, by decide +kernel, uw12, gd 1616 (by decide +kernel) rfl⟩
theorem lk_RX12_46 : FLk RX12 46 12 24 2 := ⟨_, _, _, rc12, by decide, by decide +kernel, uw12, gd 1617 (by decide +kernel) rfl⟩
theorem lk_RX12_49 : FLk RX12 49 12 25 2 := ⟨_, _, _, rc12, by decide, by decide +kernel, uw12, gd 1618 (by decide +kernel) rfl⟩
theorem lk_RX12_52 : FLk RX12 52 12 26 2 := ⟨_, _, _, rc12, by decide, by decide +kernel, uw12, gd 1619 (by decide +kernel) rfl⟩
theorem lk_RX12_55 : FLk RX12 55 12 27 2 := ⟨_, _, _, rc12, by decide, by decide +kernel, uw12, gd 1620 (by decide +kernel) rfl⟩
theorem lk_RX12_58 : FLk RX12 58 12 30 2 := ⟨_, _, _, rc12, by decide, by decide +kernel, uw12, gd 1623 (by decide +kernel) rfl⟩
theorem lk_RX12_61 : FLk RX12 61 12 0 0 := ⟨_, _, _, rc12, by decide, by decide +kernel, uw12, gd 1593 (by decide +kernel) rfl⟩
theorem lk_RX12_64 : FLk RX12 64 12 1 0 := ⟨_, _, _, rc12, by decide, by decide +kernel, uw12, gd 1594 (by decide +kernel) rfl⟩
theorem lk_RX12_72 : FLk RX12 72 12 9 0 := ⟨_, _, _, rc12, by decide, by decide +kernel, uw12, gd 1602 (by decide +kernel) rfl⟩
theorem lk_RX12_75 : FLk RX12 75 12 10 0 := ⟨_, _, _, rc12, by decide, by decide +kernel, uw12, gd 1603 (by decide +kernel) rfl⟩
theorem lk_RX12_78 : FLk RX12 78 12 12 0 := ⟨_, _, _, rc12, by decide, by decide +kernel, uw12, gd 1605 (by decide +kernel) rfl⟩
theorem lk_RX12_81 : FLk RX12 81 12 13 0 := ⟨_, _, _, rc12, by decide, by decide +kernel, uw12, gd 1606 (by decide +kernel) rfl⟩
theorem lk_RX12_88 : FLk RX12 88 12 14 0 := ⟨_, _, _, rc12, by decide, by decide +kernel, uw12, gd 1607 (by decide +kernel) rfl⟩
theorem lk_RX12_91 : FLk RX12 91 12 15 0 := ⟨_, _, _, rc12, by decide, by decide +kernel, uw12, gd 1608 (by decide +kernel) rfl⟩
theorem lk_RX12_98 : FLk RX12 98 12 17 0 := ⟨_, _, _, rc12, by decide, by decide +kernel, uw12, gd 1610 (by decide +kernel) rfl⟩
theorem lk_RX12_104 : FLk RX12 104 12 18 0 := ⟨_, _, _, rc12, by decide, by decide +kernel, uw12, gd 1611 (by decide +kernel) rfl⟩
theorem lk_RX12_107 : FLk RX12 107 12 19 0 := ⟨_, _, _, rc12, by decide, by decide +kernel, uw12, gd 1612 (by decide +kernel) rfl⟩
theorem lk_RX12_110 : FLk RX12 110 12 20 0 := ⟨_, _, _, rc12, by decide, by decide +kernel, uw12, gd 1613 (by decide +kernel) rfl⟩
theorem lk_RX12_213 : FLk RX12 213 12 4 0 := ⟨_, _, _, rc12, by decide, by decide +kernel, uw12, gd 1597 (by decide +kernel) rfl⟩
theorem lk_RX12_333 : FLk RX12 333 12 28 0 := ⟨_, _, _, rc12, by decide, by decide +kernel, uw12, gd 1621 (by decide +kernel) rfl⟩
theorem lk_RX12_338 : FLk RX12 338 12 29 1 := ⟨_, _, _, rc12, by decide, by decide +kernel, uw12, gd 1622 (by decide +kernel) rfl⟩
theorem lk_RX12_385 : FLk RX12 385 12 31 0 := ⟨_, _, _, rc12, by decide, by decide +kernel, uw12, gd 1624 (by decide +kernel) rfl⟩
theorem lk_RX2_9 : FLk RX2 9 2 0 2 := ⟨_, _, _, rc2, by decide, by decide +kernel, uw2, gd 163 (by decide +kernel) rfl⟩
theorem lk_RX2_15 : FLk RX2 15 2 1 0 := ⟨_, _, _, rc2, by decide, by decide +kernel, uw2, gd 164 (by decide +kernel) rfl⟩
theorem lk_RX2_25 : FLk RX2 25 2 2 0 := ⟨_, _, _, rc2, by decide, by decide +kernel, uw2, gd 166 (by decide +kernel) rfl⟩
theorem lk_RX2_28 : FLk RX2 28 2 5 0 := ⟨_, _, _, rc2, by decide, by decide +kernel, uw2, gd 171 (by decide +kernel) rfl⟩
theorem lk_RX2_34 : FLk RX2 34 2 4 0 := ⟨_, _, _, rc2, by decide, by decide +kernel, uw2, gd 170 (by decide +kernel) rfl⟩
theorem lk_RX2_37 : FLk RX2 37 2 3 0 := ⟨_, _, _, rc2, by decide, by decide +kernel, uw2, gd 168 (by decide +kernel) rfl⟩
theorem lk_RX2_47 : FLk RX2 47 2 6 0 := ⟨_, _, _, rc2, by decide, by decide +kernel, uw2, gd 173 (by decide +kernel) rfl⟩
theorem lk_RX3_11 : FLk RX3 11 3 1 2 := ⟨_, _, _, rc3, by decide, by decide +kernel, uw3, gd 380 (by decide +kernel) rfl⟩
theorem lk_RX3_17 : FLk RX3 17 3 2 2 := ⟨_, _, _, rc3, by decide, by decide +kernel, uw3, gd 381 (by decide +kernel) rfl⟩
theorem lk_RX3_21 : FLk RX3 21 3 0 0 := ⟨_, _, _, rc3, by decide, by decide +kernel, uw3, gd 378 (by decide +kernel) rfl⟩
theorem lk_RX3_25 : FLk RX3 25 3 3 0 := ⟨_, _, _, rc3, by decide, by decide +kernel, uw3, gd 382 (by decide +kernel) rfl⟩
theorem lk_RX4_12 : FLk RX4 12 4 0 2 := ⟨_, _, _, rc4, by decide, by decide +kernel, uw4, gd 343 (by decide +kernel) rfl⟩
theorem lk_RX4_21 : FLk RX4 21 4 1 2 := ⟨_, _, _, rc4, by decide, by decide +kernel, uw4, gd 345 (by decide +kernel) rfl⟩
theorem lk_RX4_29 : FLk RX4 29 4 4 2 := ⟨_, _, _, rc4, by decide, by decide +kernel, uw4, gd 351 (by decide +kernel) rfl⟩
theorem lk_RX4_36 : FLk RX4 36 4 6 0 := ⟨_, _, _, rc4, by decide, by decide +kernel, uw4, gd 353 (by decide +kernel) rfl⟩
theorem lk_RX4_53 : FLk RX4 53 2 3 0 := ⟨_, _, _, rc2, by decide, by decide +kernel, uw2, gd 167 (by decide +kernel) rfl⟩
theorem lk_RX4_69 : FLk RX4 69 2 4 0 := ⟨_, _, _, rc2, by decide, by decide +kernel, uw2, gd 169 (by decide +kernel) rfl⟩
theorem lk_RX4_76 : FLk RX4 76 2 6 0 := ⟨_, _, _, rc2, by decide, by decide +kernel, uw2, gd 172 (by decide +kernel) rfl⟩
theorem lk_RX4_79 : FLk RX4 79 4 5 0 := ⟨_, _, _, rc4, by decide, by decide +kernel, uw4, gd 352 (by decide +kernel) rfl⟩
theorem lk_RX4_86 : FLk RX4 86 0 0 0 := ⟨_, _, _, rc0, by decide, by decide +kernel, uw0, gd 202 (by decide +kernel) rfl⟩
theorem lk_RX4_123 : FLk RX4 123 0 1 0 := ⟨_, _, _, rc0, by decide, by decide +kernel, uw0, gd 206 (by decide +kernel) rfl⟩
theorem lk_RX4_126 : FLk RX4 126 7 2 2 := ⟨_, _, _, rc7, by decide, by decide +kernel, uw7, gd 261 (by decide +kernel) rfl⟩
theorem lk_RX4_137 : FLk RX4 137 0 2 2 := ⟨_, _, _, rc0, by decide, by decide +kernel, uw0, gd 214 (by decide +kernel) rfl⟩
theorem lk_RX4_153 : FLk RX4 153 0 3 2 := ⟨_, _, _, rc0, by decide, by decide +kernel, uw0, gd 219 (by decide +kernel) rfl⟩
theorem lk_RX4_161 : FLk RX4 161 0 4 2 := ⟨_, _, _, rc0, by decide, by decide +kernel, uw0, gd 222 (by decide +kernel) rfl⟩
theorem lk_RX4_179 : FLk RX4 179 7 0 2 := ⟨_, _, _, rc7, by decide, by decide +kernel, uw7, gd 256 (by decide +kernel) rfl⟩
theorem lk_RX5_9 : FLk RX5 9 5 3 2 := ⟨_, _, _, rc5, by decide, by decide +kernel, uw5, gd 420 (by decide +kernel) rfl⟩
theorem lk_RX5_15 : FLk RX5 15 5 4 2 := ⟨_, _, _, rc5, by decide, by decide +kernel, uw5, gd 421 (by decide +kernel) rfl⟩
theorem lk_RX5_18 : FLk RX5 18 5 5 0 := ⟨_, _, _, rc5, by decide, by decide +kernel, uw5, gd 422 (by decide +kernel) rfl⟩
theorem lk_RX5_22 : FLk RX5 22 5 6 0 := ⟨_, _, _, rc5, by decide, by decide +kernel, uw5, gd 423 (by decide +kernel) rfl⟩
theorem lk_RX5_25 : FLk RX5 25 5 8 2 := ⟨_, _, _, rc5, by decide, by decide +kernel, uw5, gd 425 (by decide +kernel) rfl⟩
theorem lk_RX5_29 : FLk RX5 29 5 9 2 := ⟨_, _, _, rc5, by decide, by decide +kernel, uw5, gd 426 (by decide +kernel) rfl⟩
theorem lk_RX5_32 : FLk RX5 32 5 10 2 := ⟨_, _, _, rc5, by decide, by decide +kernel, uw5, gd 427 (by decide +kernel) rfl⟩
theorem lk_RX5_35 : FLk RX5 35 5 0 2 := ⟨_, _, _, rc5, by decide, by decide +kernel, uw5, gd 417 (by decide +kernel) rfl⟩
theorem lk_RX5_39 : FLk RX5 39 5 1 2 := ⟨_, _, _, rc5, by decide, by decide +kernel, uw5, gd 418 (by decide +kernel) rfl⟩
theorem lk_RX5_43 : FLk RX5 43 5 2 2 := ⟨_, _, _, rc5, by decide, by decide +kernel, uw5, gd 419 (by decide +kernel) rfl⟩
theorem lk_RX5_63 : FLk RX5 63 5 7 0 := ⟨_, _, _, rc5, by decide, by decide +kernel, uw5, gd 424 (by decide +kernel) rfl⟩
theorem lk_RX5_83 : FLk RX5 83 0 0 0 := ⟨_, _, _, rc0, by decide, by decide +kernel, uw0, gd 200 (by decide +kernel) rfl⟩
theorem lk_RX5_95 : FLk RX5 95 7 3 0 := ⟨_, _, _, rc7, by decide, by decide +kernel, uw7, gd 267 (by decide +kernel) rfl⟩
theorem lk_RX5_100 : FLk RX5 100 7 4 0 := ⟨_, _, _, rc7, by decide, by decide +kernel, uw7, gd 273 (by decide +kernel) rfl⟩
theorem lk_RX5_116 : FLk RX5 116 0 1 0 := ⟨_, _, _, rc0, by decide, by decide +kernel, uw0, gd 204 (by decide +kernel) rfl⟩
theorem lk_RX5_128 : FLk RX5 128 0 2 2 := ⟨_, _, _, rc0, by decide, by decide +kernel, uw0, gd 212 (by decide +kernel) rfl⟩
theorem lk_RX5_138 : FLk RX5 138 7 2 2 := ⟨_, _, _, rc7, by decide, by decide +kernel, uw7, gd 262 (by decide +kernel) rfl⟩
theorem lk_RX6_11 : FLk RX6 11 6 0 2 := ⟨_, _, _, rc6, by decide, by decide +kernel, uw6, gd 496 (by decide +kernel) rfl⟩
theorem lk_RX6_15 : FLk RX6 15 6 1 0 := ⟨_, _, _, rc6, by decide, by decide +kernel, uw6, gd 498 (by decide +kernel) rfl⟩
theorem lk_RX7_9 : FLk RX7 9 7 0 2 := ⟨_, _, _, rc7, by decide, by decide +kernel, uw7, gd 252 (by decide +kernel) rfl⟩
theorem lk_RX7_15 : FLk RX7 15 7 1 2 := ⟨_, _, _, rc7, by decide, by decide +kernel, uw7, gd 257 (by decide +kernel) rfl⟩
theorem lk_RX7_18 : FLk RX7 18 7 2 2 := ⟨_, _, _, rc7, by decide, by decide +kernel, uw7, gd 259 (by decide +kernel) rfl⟩
theorem lk_RX7_21 : FLk RX7 21 7 6 0 := ⟨_, _, _, rc7, by decide, by decide +kernel, uw7, gd 279 (by decide +kernel) rfl⟩
theorem lk_RX7_25 : FLk RX7 25 7 7 2 := ⟨_, _, _, rc7, by decide, by decide +kernel, uw7, gd 281 (by decide +kernel) rfl⟩
theorem lk_RX7_28 : FLk RX7 28 7 8 2 := ⟨_, _, _, rc7, by decide, by decide +kernel, uw7, gd 283 (by decide +kernel) rfl⟩
theorem lk_RX7_41 : FLk RX7 41 7 3 0 := ⟨_, _, _, rc7, by decide, by decide +kernel, uw7, gd 265 (by decide +kernel) rfl⟩
theorem lk_RX7_44 : FLk RX7 44 7 4 0 := ⟨_, _, _, rc7, by decide, by decide +kernel, uw7, gd 271 (by decide +kernel) rfl⟩
theorem lk_RX7_47 : FLk RX7 47 7 5 0 := ⟨_, _, _, rc7, by decide, by decide +kernel, uw7, gd 276 (by decide +kernel) rfl⟩
theorem lk_RX8_11 : FLk RX8 11 8 1 2 := ⟨_, _, _, rc8, by decide, by decide +kernel, uw8, gd 399 (by decide +kernel) rfl⟩
theorem lk_RX8_15 : FLk RX8 15 8 2 2 := ⟨_, _, _, rc8, by decide, by decide +kernel, uw8, gd 400 (by decide +kernel) rfl⟩
theorem lk_RX8_18 : FLk RX8 18 8 3 2 := ⟨_, _, _, rc8, by decide, by decide +kernel, uw8, gd 401 (by decide +kernel) rfl⟩
theorem lk_RX8_22 : FLk RX8 22 8 0 2 := ⟨_, _, _, rc8, by decide, by decide +kernel, uw8, gd 398 (by decide +kernel) rfl⟩
theorem lk_RX8_26 : FLk RX8 26 7 2 2 := ⟨_, _, _, rc7, by decide, by decide +kernel, uw7, gd 260 (by decide +kernel) rfl⟩
theorem lk_RX8_43 : FLk RX8 43 7 3 0 := ⟨_, _, _, rc7, by decide, by decide +kernel, uw7, gd 264 (by decide +kernel) rfl⟩
theorem lk_RX8_47 : FLk RX8 47 7 4 0 := ⟨_, _, _, rc7, by decide, by decide +kernel, uw7, gd 270 (by decide +kernel) rfl⟩
theorem lk_RX8_50 : FLk RX8 50 7 0 2 := ⟨_, _, _, rc7, by decide, by decide +kernel, uw7, gd 253 (by decide +kernel) rfl⟩
theorem lk_RX8_57 : FLk RX8 57 0 0 0 := ⟨_, _, _, rc0, by decide, by decide +kernel, uw0, gd 198 (by decide +kernel) rfl⟩
theorem lk_RX8_62 : FLk RX8 62 0 2 2 := ⟨_, _, _, rc0, by decide, by decide +kernel, uw0, gd 209 (by decide +kernel) rfl⟩
theorem lk_RX9_9 : FLk RX9 9 9 2 2 := ⟨_, _, _, rc9, by decide, by decide +kernel, uw9, gd 460 (by decide +kernel) rfl⟩
theorem lk_RX9_15 : FLk RX9 15 9 0 2 := ⟨_, _, _, rc9, by decide, by decide +kernel, uw9, gd 458 (by decide +kernel) rfl⟩
theorem lk_RX9_19 : FLk RX9 19 9 1 2 := ⟨_, _, _, rc9, by decide, by decide +kernel, uw9, gd 459 (by decide +kernel) rfl⟩
theorem lk_RX9_29 : FLk RX9 29 0 0 0 := ⟨_, _, _, rc0, by decide, by decide +kernel, uw0, gd 197 (by decide +kernel) rfl⟩
theorem lk_RX9_48 : FLk RX9 48 0 2 2 := ⟨_, _, _, rc0, by decide, by decide +kernel, uw0, gd 210 (by decide +kernel) rfl⟩
theorem lk_RX9_63 : FLk RX9 63 0 3 2 := ⟨_, _, _, rc0, by decide, by decide +kernel, uw0, gd 217 (by decide +kernel) rfl⟩
theorem pk_RX0_30 : FPk RX0 30 0 0 0 false (fun v => ∃ x, v = .int x) := ⟨_, _, _, tyX0, rc0, by decide, by decide +kernel, uw0, gd 196 (by decide +kernel) rfl, rfl, (fun h => nomatch h), tyX0_ok, nmX0, (fun v h => by obtain ⟨x, rfl⟩ := h; exact ⟨rfl, rfl⟩)⟩
theorem pk_RX0_34 : FPk RX0 34 0 1 0 false (fun v => ∃ x, v = .int x) := ⟨_, _, _, tyX0, rc0, by decide, by decide +kernel, uw0, gd 203 (by decide +kernel) rfl, rfl, (fun h => nomatch h), tyX0_ok, nmX0, (fun v h => by obtain ⟨x, rfl⟩ := h; exact ⟨rfl, rfl⟩)⟩
theorem pk_RX1_28 : FPk RX1 28 1 1 0 false (fun v => ∃ x, v = .int x) := ⟨_, _, _, tyX1, rc1, by decide, by decide +kernel, uw1, gd 311 (by decide +kernel) rfl, rfl, (fun h => nomatch h), tyX1_ok, nmX1, (fun v h => by obtain ⟨x, rfl⟩ := h; exact ⟨rfl, rfl⟩)⟩
theorem pk_RX1_32 : FPk RX1 32 1 2 0 false (fun v => ∃ x, v = .int x) := ⟨_, _, _, tyX1, rc1, by decide, by decide +kernel, uw1, gd 312 (by decide +kernel) rfl, rfl, (fun h => nomatch h), tyX1_ok, nmX1, (fun v h => by obtain ⟨x, rfl⟩ := h; exact ⟨rfl, rfl⟩)⟩
theorem pk_RX10_23 : FPk RX10 23 10 3 0 false (fun v => ∃ x, v = .int x) := ⟨_, _, _, tyX10, rc10, by decide, by decide +kernel, uw10, gd 479 (by decide +kernel) rfl, rfl, (fun h => nomatch h), tyX10_ok, nmX10, (fun v h => by obtain ⟨x, rfl⟩ := h; exact ⟨rfl, rfl⟩)⟩
theorem pk_RX10_27 : FPk RX10 27 10 2 0 false (fun v => ∃ x, v = .int x) := ⟨_, _, _, tyX10, rc10, by decide, by decide +kernel, uw10, gd 477 (by decide +kernel) rfl, rfl, (fun h => nomatch h), tyX10_ok, nmX10, (fun v h => by obtain ⟨x, rfl⟩ := h; exact ⟨rfl, rfl⟩)⟩
theorem pk_RX10_58 : FPk RX10 58 10 1 0 false (fun v => ∃ x, v = .int x) := ⟨_, _, _, tyX10, rc10, by decide, by decide +kernel, uw10, gd 475 (by decide +kernel) rfl, rfl, (fun h => nomatch h), tyX10_ok, nmX10, (fun v h => by obtain ⟨x, rfl⟩ := h; exact ⟨rfl, rfl⟩)⟩
theorem pk_RX11_108 : FPk RX11 108 2 1 0 false (fun v => ∃ x, v = .int x) := ⟨_, _, _, tyX2, rc2, by decide, by decide +kernel, uw2, gd 165 (by decide +kernel) rfl, rfl, (fun h => nomatch h), tyX2_ok, nmX2, (fun v h => by obtain ⟨x, rfl⟩ := h; exact ⟨rfl, rfl⟩)⟩
theorem pk_RX11_157 : FPk RX11 157 7 4 0 false (fun v => ∃ x, v = .int x) := ⟨_, _, _, tyX7, rc7, by decide, by decide +kernel, uw7, gd 275 (by decide +kernel) rfl, rfl, (fun h => nomatch h), tyX7_ok, nmX7, (fun v h => by obtain ⟨x, rfl⟩ := h; exact ⟨rfl, rfl⟩)⟩
theorem pk_RX11_163 : FPk RX11 163 7 3 0 false (fun v => ∃ x, v = .int x) := ⟨_, _, _, tyX7, rc7, by decide, by decide +kernel, uw7, gd 268 (by decide +kernel) rfl, rfl, (fun h => nomatch h), tyX7_ok, nmX7, (fun v h => by obtain ⟨x, rfl⟩ := h; exact ⟨rfl, rfl⟩)⟩
theorem pk_RX11_293 : FPk RX11 293 7 5 0 false (fun v => ∃ x, v = .int x) := ⟨_, _, _, tyX7, rc7, by decide, by decide +kernel, uw7, gd 278 (by decide +kernel) rfl, rfl, (fun h => nomatch h), tyX7_ok, nmX7, (fun v h => by obtain ⟨x, rfl⟩ := h; exact ⟨rfl, rfl⟩)⟩
theorem pk_RX11_299 : FPk RX11 299 7 6 0 false (fun v => ∃ x, v = .int x) := ⟨_, _, _, tyX7, rc7, by decide, by decide +kernel, uw7, gd 280 (by decide +kernel) rfl, rfl, (fun h => nomatch h), tyX7_ok, nmX7, (fun v h => by obtain ⟨x, rfl⟩ := h; exact ⟨rfl, rfl⟩)⟩
theorem pk_RX11_311 : FPk RX11 311 10 1 0 false (fun v => ∃ x, v = .int x) := ⟨_, _, _, tyX10, rc10, by decide, by decide +kernel, uw10, gd 476 (by decide +kernel) rfl, rfl, (fun h => nomatch h), tyX10_ok, nmX10, (fun v h => by obtain ⟨x, rfl⟩ := h; exact ⟨rfl, rfl⟩)⟩
theorem pk_RX11_316 : FPk RX11 316 6 1 0 false (fun v => ∃ x, v = .int x) := ⟨_, _, _, tyX6, rc6, by decide, by decide +kernel, uw6, gd 499 (by decide +kernel) rfl, rfl, (fun h => nomatch h), tyX6_ok, nmX6, (fun v h => by obtain ⟨x, rfl⟩ := h; exact ⟨rfl, rfl⟩)⟩
theorem pk_RX11_347 : FPk RX11 347 10 2 0 false (fun v => ∃ x, v = .int x) := ⟨_, _, _, tyX10, rc10, by decide, by decide +kernel, uw10, gd 478 (by decide +kernel) rfl, rfl, (fun h => nomatch h), tyX10_ok, nmX10, (fun v h => by obtain ⟨x, rfl⟩ := h; exact ⟨rfl, rfl⟩)⟩
theorem pk_RX12_29 : FPk RX12 29 12 11 0 false (fun v => ∃ x, v = .int x) := ⟨_, _, _, tyX12, rc12, by decide, by decide +kernel, uw12, gd 1604 (by decide +kernel) rfl, rfl, (fun h => nomatch h), tyX12_ok, nmX12, (fun v h => by obtain ⟨x, rfl⟩ := h; exact ⟨rfl, rfl⟩)⟩
theorem pk_RX12_61 : FPk RX12 61 12 0 0 false (fun v => ∃ x, v = .int x) := ⟨_, _, _, tyX12, rc12, by decide, by decide +kernel, uw12, gd 1593 (by decide +kernel) rfl, rfl, (fun h => nomatch h), tyX12_ok, nmX12, (fun v h => by obtain ⟨x, rfl⟩ := h; exact ⟨rfl, rfl⟩)⟩
theorem pk_RX12_64 : FPk RX12 64 12 1 0 false (fun v => v = .int 1) := ⟨_, _, _, tyX12, rc12, by decide, by decide +kernel, uw12, gd 1594 (by decide +kernel) rfl, rfl, (fun h => nomatch h), tyX12_ok, nmX12, (fun v h => by subst h; exact ⟨rfl, rfl⟩)⟩
theorem pk_RX12_72 : FPk RX12 72 12 9 0 false (fun v => ∃ x, v = .int x) := ⟨_, _, _, tyX12, rc12, by decide, by decide +kernel, uw12, gd 1602 (by decide +kernel) rfl, rfl, (fun h => nomatch h), tyX12_ok, nmX12, (fun v h => by obtain ⟨x, rfl⟩ := h; exact ⟨rfl, rfl⟩)⟩
theorem pk_RX12_75 : FPk RX12 75 12 10 0 false (fun v => ∃ x, v = .int x) := ⟨_, _, _, tyX12, rc12, by decide, by decide +kernel, uw12, gd 1603 (by decide +kernel) rfl, rfl, (fun h => nomatch h), tyX12_ok, nmX12, (fun v h => by obtain ⟨x, rfl⟩ := h; exact ⟨rfl, rfl⟩)⟩
theorem pk_RX12_78 : FPk RX12 78 12 12 0 false (fun v => ∃ x, v = .int x) := ⟨_, _, _, tyX12, rc12, by decide, by decide +kernel, uw12, gd 1605 (by decide +kernel) rfl, rfl, (fun h => nomatch h), tyX12_ok, nmX12, (fun v h => by obtain ⟨x, rfl⟩ := h; exact ⟨rfl, rfl⟩)⟩
theorem pk_RX12_81 : FPk RX12 81 12 13 0 false (fun v => ∃ x, v = .int x) := ⟨_, _, _, tyX12, rc12, by decide, by decide +kernel, uw12, gd 1606 (by decide +kernel) rfl, rfl, (fun h => nomatch h), tyX12_ok, nmX12, (fun v h => by obtain ⟨x, rfl⟩ := h; exact ⟨rfl, rfl⟩)⟩
theorem pk_RX12_88 : FPk RX12 88 12 14 0 false (fun v => ∃ x, v = .int x) := ⟨_, _, _, tyX12, rc12, by decide, by decide +kernel, uw12, gd 1607 (by decide +kernel) rfl, rfl, (fun h => nomatch h), tyX12_ok, nmX12, (fun v h => by obtain ⟨x, rfl⟩ := h; exact ⟨rfl, rfl⟩)⟩
theorem pk_RX12_91 : FPk RX12 91 12 15 0 false (fun v => ∃ x, v = .int x) := ⟨_, _, _, tyX12, rc12, by decide, by decide +kernel, uw12, gd 1608 (by decide +kernel) rfl, rfl, (fun h => nomatch h), tyX12_ok, nmX12, (fun v h => by obtain ⟨x, rfl⟩ := h; exact ⟨rfl, rfl⟩)⟩
theorem pk_RX12_98 : FPk RX12 98 12 17 0 false (fun v => ∃ x, v = .int x) := ⟨_, _, _, tyX12, rc12, by decide, by decide +kernel, uw12, gd 1610 (by decide +kernel) rfl, rfl, (fun h => nomatch h), tyX12_ok, nmX12, (fun v h => by obtain ⟨x, rfl⟩ := h; exact ⟨rfl, rfl⟩)⟩
theorem pk_RX12_104 : FPk RX12 104 12 18 0 false (fun v => ∃ x, v = .int x) := ⟨_, _, _, tyX12, rc12, by decide, by decide +kernel, uw12, gd 1611 (by decide +kernel) rfl, rfl, (fun h => nomatch h), tyX12_ok, nmX12, (fun v h => by obtain ⟨x, rfl⟩ := h; exact ⟨rfl, rfl⟩)⟩
theorem pk_RX12_107 : FPk RX12 107 12 19 0 false (fun v => ∃ x, v = .int x) := ⟨_, _, _, tyX12, rc12, by decide, by decide +kernel, uw12, gd 1612 (by decide +kernel) rfl, rfl, (fun h => nomatch h), tyX12_ok, nmX12, (fun v h => by obtain ⟨x, rfl⟩ := h; exact ⟨rfl, rfl⟩)⟩
theorem pk_RX12_110 : FPk RX12 110 12 20 0 false (fun v => ∃ x, v = .int x) := ⟨_, _, _, tyX12, rc12, by decide, by decide +kernel, uw12, gd 1613 (by decide +kernel) rfl, rfl, (fun h => nomatch h), tyX12_ok, nmX12, (fun v h => by obtain ⟨x, rfl⟩ := h; exact ⟨rfl, rfl⟩)⟩
theorem pk_RX12_213 : FPk RX12 213 12 4 0 false (fun v => ∃ x, v = .int x) := ⟨_, _, _, tyX12, rc12, by decide, by decide +kernel, uw12, gd 1597 (by decide +kernel) rfl, rfl, (fun h => nomatch h), tyX12_ok, nmX12, (fun v h => by obtain ⟨x, rfl⟩ := h; exact ⟨rfl, rfl⟩)⟩
theorem pk_RX12_333 : FPk RX12 333 12 28 0 false (fun v => ∃ x, v = .int x) := ⟨_, _, _, tyX12, rc12, by decide, by decide +kernel, uw12, gd 1621 (by decide +kernel) rfl, rfl, (fun h => nomatch h), tyX12_ok, nmX12, (fun v h => by obtain ⟨x, rfl⟩ := h; exact ⟨rfl, rfl⟩)⟩
theorem pk_RX12_338 : FPk RX12 338 12 29 1 false (fun v => ∃ x, v = .long x) := ⟨_, _, _, tyX12, rc12, by decide, by decide +kernel, uw12, gd 1622 (by decide +kernel) rfl, rfl, (fun h => nomatch h), tyX12_ok, nmX12, (fun v h => by obtain ⟨x, rfl⟩ := h; exact ⟨rfl, rfl⟩)⟩
theorem pk_RX12_385 : FPk RX12 385 12 31 0 false (fun v => ∃ x, v = .int x) := ⟨_, _, _, tyX12, rc12, by decide, by decide +kernel, uw12, gd 1624 (by decide +kernel) rfl, rfl, (fun h => nomatch h), tyX12_ok, nmX12, (fun v h => by obtain ⟨x, rfl⟩ := h; exact ⟨rfl, rfl⟩)⟩
theorem pk_RX2_15 : FPk RX2 15 2 1 0 false (fun v => ∃ x, v = .int x) := ⟨_, _, _, tyX2, rc2, by decide, by decide +kernel, uw2, gd 164 (by decide +kernel) rfl, rfl, (fun h => nomatch h), tyX2_ok, nmX2, (fun v h => by obtain ⟨x, rfl⟩ := h; exact ⟨rfl, rfl⟩)⟩
theorem pk_RX2_25 : FPk RX2 25 2 2 0 false (fun v => ∃ x, v = .int x) := ⟨_, _, _, tyX2, rc2, by decide, by decide +kernel, uw2, gd 166 (by decide +kernel) rfl, rfl, (fun h => nomatch h), tyX2_ok, nmX2, (fun v h => by obtain ⟨x, rfl⟩ := h; exact ⟨rfl, rfl⟩)⟩
theorem pk_RX2_28 : FPk RX2 28 2 5 0 false (fun v => ∃ x, v = .int x) := ⟨_, _, _, tyX2, rc2, by decide, by decide +kernel, uw2, gd 171 (by decide +kernel) rfl, rfl, (fun h => nomatch h), tyX2_ok, nmX2, (fun v h => by obtain ⟨x, rfl⟩ := h; exact ⟨rfl, rfl⟩)⟩
theorem pk_RX2_34 : FPk RX2 34 2 4 0 false (fun v => ∃ x, v = .int x) := ⟨_, _, _, tyX2, rc2, by decide, by decide +kernel, uw2, gd 170 (by decide +kernel) rfl, rfl, (fun h => nomatch h), tyX2_ok, nmX2, (fun v h => by obtain ⟨x, rfl⟩ := h; exact ⟨rfl, rfl⟩)⟩
theorem pk_RX2_37 : FPk RX2 37 2 3 0 false (fun v => ∃ x, v = .int x) := ⟨_, _, _, tyX2, rc2, by decide, by decide +kernel, uw2, gd 168 (by decide +kernel) rfl, rfl, (fun h => nomatch h), tyX2_ok, nmX2, (fun v h => by obtain ⟨x, rfl⟩ := h; exact ⟨rfl, rfl⟩)⟩
theorem pk_RX2_47 : FPk RX2 47 2 6 0 false (fun v => ∃ x, v = .int x) := ⟨_, _, _, tyX2, rc2, by decide, by decide +kernel, uw2, gd 173 (by decide +kernel) rfl, rfl, (fun h => nomatch h), tyX2_ok, nmX2, (fun v h => by obtain ⟨x, rfl⟩ := h; exact ⟨rfl, rfl⟩)⟩
theorem pk_RX3_21 : FPk RX3 21 3 0 0 false (fun v => ∃ x, v = .int x) := ⟨_, _, _, tyX3, rc3, by decide, by decide +kernel, uw3, gd 378 (by decide +kernel) rfl, rfl, (fun h => nomatch h), tyX3_ok, nmX3, (fun v h => by obtain ⟨x, rfl⟩ := h; exact ⟨rfl, rfl⟩)⟩
theorem pk_RX3_25 : FPk RX3 25 3 3 0 false (fun v => ∃ x, v = .int x) := ⟨_, _, _, tyX3, rc3, by decide, by decide +kernel, uw3, gd 382 (by decide +kernel) rfl, rfl, (fun h => nomatch h), tyX3_ok, nmX3, (fun v h => by obtain ⟨x, rfl⟩ := h; exact ⟨rfl, rfl⟩)⟩
theorem pk_RX4_25 : FPk RX4 25 4 3 0 false (fun v => ∃ x, v = .int x) := ⟨_, _, _, tyX4, rc4, by decide, by decide +kernel, uw4, gd 349 (by decide +kernel) rfl, rfl, (fun h => nomatch h), tyX4_ok, nmX4, (fun v h => by obtain ⟨x, rfl⟩ := h; exact ⟨rfl, rfl⟩)⟩
theorem pk_RX4_33 : FPk RX4 33 4 2 0 false (fun v => ∃ x, v = .int x) := ⟨_, _, _, tyX4, rc4, by decide, by decide +kernel, uw4, gd 347 (by decide +kernel) rfl, rfl, (fun h => nomatch h), tyX4_ok, nmX4, (fun v h => by obtain ⟨x, rfl⟩ := h; exact ⟨rfl, rfl⟩)⟩
theorem pk_RX4_36 : FPk RX4 36 4 6 0 false (fun v => ∃ x, v = .int x) := ⟨_, _, _, tyX4, rc4, by decide, by decide +kernel, uw4, gd 353 (by decide +kernel) rfl, rfl, (fun h => nomatch h), tyX4_ok, nmX4, (fun v h => by obtain ⟨x, rfl⟩ := h; exact ⟨rfl, rfl⟩)⟩
theorem pk_RX4_79 : FPk RX4 79 4 5 0 false (fun v => ∃ x, v = .int x) := ⟨_, _, _, tyX4, rc4, by decide, by decide +kernel, uw4, gd 352 (by decide +kernel) rfl, rfl, (fun h => nomatch h), tyX4_ok, nmX4, (fun v h => by obtain ⟨x, rfl⟩ := h; exact ⟨rfl, rfl⟩)⟩
theorem pk_RX4_86 : FPk RX4 86 0 0 0 false (fun v => ∃ x, v = .int x) := ⟨_, _, _, tyX0, rc0, by decide, by decide +kernel, uw0, gd 202 (by decide +kernel) rfl, rfl, (fun h => nomatch h), tyX0_ok, nmX0, (fun v h => by obtain ⟨x, rfl⟩ := h; exact ⟨rfl, rfl⟩)⟩
theorem pk_RX4_99 : FPk RX4 99 7 4 0 false (fun v => ∃ x, v = .int x) := ⟨_, _, _, tyX7, rc7, by decide, by decide +kernel, uw7, gd 274 (by decide +kernel) rfl, rfl, (fun h => nomatch h), tyX7_ok, nmX7, (fun v h => by obtain ⟨x, rfl⟩ := h; exact ⟨rfl, rfl⟩)⟩
theorem pk_RX4_103 : FPk RX4 103 7 5 0 false (fun v => ∃ x, v = .int x) := ⟨_, _, _, tyX7, rc7, by decide, by decide +kernel, uw7, gd 277 (by decide +kernel) rfl, rfl, (fun h => nomatch h), tyX7_ok, nmX7, (fun v h => by obtain ⟨x, rfl⟩ := h; exact ⟨rfl, rfl⟩)⟩
theorem pk_RX4_123 : FPk RX4 123 0 1 0 false (fun v => ∃ x, v = .int x) := ⟨_, _, _, tyX0, rc0, by decide, by decide +kernel, uw0, gd 206 (by decide +kernel) rfl, rfl, (fun h => nomatch h), tyX0_ok, nmX0, (fun v h => by obtain ⟨x, rfl⟩ := h; exact ⟨rfl, rfl⟩)⟩
theorem pk_RX4_135 : FPk RX4 135 7 3 0 false (fun v => ∃ x, v = .int x) := ⟨_, _, _, tyX7, rc7, by decide, by decide +kernel, uw7, gd 269 (by decide +kernel) rfl, rfl, (fun h => nomatch h), tyX7_ok, nmX7, (fun v h => by obtain ⟨x, rfl⟩ := h; exact ⟨rfl, rfl⟩)⟩
theorem pk_RX5_18 : FPk RX5 18 5 5 0 false (fun v => ∃ x, v = .int x) := ⟨_, _, _, tyX5, rc5, by decide, by decide +kernel, uw5, gd 422 (by decide +kernel) rfl, rfl, (fun h => nomatch h), tyX5_ok, nmX5, (fun v h => by obtain ⟨x, rfl⟩ := h; exact ⟨rfl, rfl⟩)⟩
theorem pk_RX5_22 : FPk RX5 22 5 6 0 false (fun v => ∃ x, v = .int x) := ⟨_, _, _, tyX5, rc5, by decide, by decide +kernel, uw5, gd 423 (by decide +kernel) rfl, rfl, (fun h => nomatch h), tyX5_ok, nmX5, (fun v h => by obtain ⟨x, rfl⟩ := h; exact ⟨rfl, rfl⟩)⟩
theorem pk_RX5_63 : FPk RX5 63 5 7 0 false (fun v => ∃ x, v = .int x) := ⟨_, _, _, tyX5, rc5, by decide, by decide +kernel, uw5, gd 424 (by decide +kernel) rfl, rfl, (fun h => nomatch h), tyX5_ok, nmX5, (fun v h => by obtain ⟨x, rfl⟩ := h; exact ⟨rfl, rfl⟩)⟩
theorem pk_RX6_15 : FPk RX6 15 6 1 0 false (fun v => ∃ x, v = .int x) := ⟨_, _, _, tyX6, rc6, by decide, by decide +kernel, uw6, gd 498 (by decide +kernel) rfl, rfl, (fun h => nomatch h), tyX6_ok, nmX6, (fun v h => by obtain ⟨x, rfl⟩ := h; exact ⟨rfl, rfl⟩)⟩
theorem pk_RX7_21 : FPk RX7 21 7 6 0 false (fun v => ∃ x, v = .int x) := ⟨_, _, _, tyX7, rc7, by decide, by decide +kernel, uw7, gd 279 (by decide +kernel) rfl, rfl, (fun h => nomatch h), tyX7_ok, nmX7, (fun v h => by obtain ⟨x, rfl⟩ := h; exact ⟨rfl, rfl⟩)⟩
theorem pk_RX7_41 : FPk RX7 41 7 3 0 false (fun v => ∃ x, v = .int x) := ⟨_, _, _, tyX7, rc7, by decide, by decide +kernel, uw7, gd 265 (by decide +kernel) rfl, rfl, (fun h => nomatch h), tyX7_ok, nmX7, (fun v h => by obtain ⟨x, rfl⟩ := h; exact ⟨rfl, rfl⟩)⟩
theorem pk_RX7_44 : FPk RX7 44 7 4 0 false (fun v => ∃ x, v = .int x) := ⟨_, _, _, tyX7, rc7, by decide, by decide +kernel, uw7, gd 271 (by decide +kernel) rfl, rfl, (fun h => nomatch h), tyX7_ok, nmX7, (fun v h => by obtain ⟨x, rfl⟩ := h; exact ⟨rfl, rfl⟩)⟩
theorem pk_RX7_47 : FPk RX7 47 7 5 0 false (fun v => ∃ x, v = .int x) := ⟨_, _, _, tyX7, rc7, by decide, by decide +kernel, uw7, gd 276 (by decide +kernel) rfl, rfl, (fun h => nomatch h), tyX7_ok, nmX7, (fun v h => by obtain ⟨x, rfl⟩ := h; exact ⟨rfl, rfl⟩)⟩
theorem pk_RX8_11 : FPk RX8 11 8 1 2 false (fun v => ∃ a, v = .ref a) := ⟨_, _, _, tyX8, rc8, by decide, by decide +kernel, uw8, gd 399 (by decide +kernel) rfl, rfl, (fun h => nomatch h), tyX8_ok, nmX8, (fun v h => by obtain ⟨x, rfl⟩ := h; exact ⟨rfl, rfl⟩)⟩
theorem pk_RX8_15 : FPk RX8 15 8 2 2 false (fun v => ∃ a, v = .ref a) := ⟨_, _, _, tyX8, rc8, by decide, by decide +kernel, uw8, gd 400 (by decide +kernel) rfl, rfl, (fun h => nomatch h), tyX8_ok, nmX8, (fun v h => by obtain ⟨x, rfl⟩ := h; exact ⟨rfl, rfl⟩)⟩
theorem ln_RX0_37 : Gd (.methodLink RX0 37 yJ7_fill_53178) := gd 666 (by decide +kernel) rfl
theorem ln_RX0_43 : Gd (.methodLinkNest RX0 43 yX11_copyRow "DecisionChain") := gd 861 (by decide +kernel) rfl
theorem ln_RX1_35 : Gd (.methodLink RX1 35 yX1_fillParts) := gd 1006 (by decide +kernel) rfl
theorem ln_RX1_39 : Gd (.methodLink RX1 39 yJ7_fill_d0a16) := gd 1010 (by decide +kernel) rfl
theorem ln_RX1_45 : Gd (.methodLink RX1 45 yX1_spread) := gd 1019 (by decide +kernel) rfl
theorem ln_RX1_58 : Gd (.methodLinkNest RX1 58 yX11_rowOf "DecisionChain") := gd 1013 (by decide +kernel) rfl
theorem ln_RX1_62 : Gd (.methodLink RX1 62 yX1_addParts) := gd 1014 (by decide +kernel) rfl
theorem ln_RX1_66 : Gd (.methodLink RX1 66 yX0_percentTo) := gd 1018 (by decide +kernel) rfl
theorem ln_RX1_69 : Gd (.methodLink RX1 69 yX1_partsTo) := gd 1023 (by decide +kernel) rfl
theorem ln_RX1_73 : Gd (.methodLink RX1 73 yX1_sumOf) := gd 1067 (by decide +kernel) rfl
theorem ln_RX1_78 : Gd (.methodLink RX1 78 yX1_at) := gd 1072 (by decide +kernel) rfl
theorem ln_RX1_81 : Gd (.methodLink RX1 81 yX1_visitsOf) := gd 1198 (by decide +kernel) rfl
theorem ln_RX1_88 : Gd (.methodLink RX1 88 yX0_amountOf) := gd 1118 (by decide +kernel) rfl
theorem ln_RX1_91 : Gd (.methodLink RX1 91 yX1_fillChances) := gd 1217 (by decide +kernel) rfl
theorem ln_RX1_94 : Gd (.methodLink RX1 94 yX1_likeliestNext) := gd 1239 (by decide +kernel) rfl
theorem ln_RX1_97 : Gd (.methodLink RX1 97 yX1_chanceOver) := gd 1221 (by decide +kernel) rfl
theorem ln_RX1_101 : Gd (.methodLink RX1 101 yJ9_max_f86c9) := gd 1225 (by decide +kernel) rfl
theorem ln_RX10_15 : Gd (.methodLink RX10 15 yX10_draw) := gd 1439 (by decide +kernel) rfl
theorem ln_RX10_19 : Gd (.methodLink RX10 19 yX10_drawAction) := gd 1443 (by decide +kernel) rfl
theorem ln_RX10_30 : Gd (.methodLinkNest RX10 30 yX11_rowOf "DecisionChain") := gd 1447 (by decide +kernel) rfl
theorem ln_RX10_34 : Gd (.methodLink RX10 34 yX10_drawNext) := gd 1448 (by decide +kernel) rfl
theorem ln_RX10_49 : Gd (.methodLink RX10 49 yX10_step) := gd 1435 (by decide +kernel) rfl
theorem ln_RX10_70 : Gd (.methodLink RX10 70 yX0_percentTo) := gd 1452 (by decide +kernel) rfl
theorem ln_RX11_100 : Gd (.methodLink RX11 100 yX2_hasRoom) := gd 546 (by decide +kernel) rfl
theorem ln_RX11_104 : Gd (.methodLink RX11 104 yX2_put) := gd 550 (by decide +kernel) rfl
theorem ln_RX11_119 : Gd (.methodLink RX11 119 yX4_parse) := gd 658 (by decide +kernel) rfl
theorem ln_RX11_128 : Gd (.methodLink RX11 128 yX0_copyFrom) := gd 857 (by decide +kernel) rfl
theorem ln_RX11_134 : Gd (.methodLink RX11 134 yX7_copyFrom) := gd 868 (by decide +kernel) rfl
theorem ln_RX11_137 : Gd (.methodLink RX11 137 yX3_forget) := gd 873 (by decide +kernel) rfl
theorem ln_RX11_140 : Gd (.methodLink RX11 140 yX5_forget) := gd 877 (by decide +kernel) rfl
theorem ln_RX11_141 : Gd (.methodLink RX11 141 yX0_countActions) := gd 881 (by decide +kernel) rfl
theorem ln_RX11_160 : Gd (.methodLink RX11 160 yX11_needChain) := gd 893 (by decide +kernel) rfl
theorem ln_RX11_166 : Gd (.methodLink RX11 166 yX11_needState) := gd 920 (by decide +kernel) rfl
theorem ln_RX11_172 : Gd (.methodLink RX11 172 yX11_needAction) := gd 932 (by decide +kernel) rfl
theorem ln_RX11_179 : Gd (.methodLink RX11 179 yX11_rowOf) := gd 676 (by decide +kernel) rfl
theorem ln_RX11_183 : Gd (.methodLink RX11 183 yX11_needBudget) := gd 944 (by decide +kernel) rfl
theorem ln_RX11_186 : Gd (.methodLink RX11 186 yX0_amountOf) := gd 949 (by decide +kernel) rfl
theorem ln_RX11_189 : Gd (.methodLink RX11 189 yX0_percentTo) := gd 957 (by decide +kernel) rfl
theorem ln_RX11_195 : Gd (.methodLink RX11 195 yX7_permits) := gd 972 (by decide +kernel) rfl
theorem ln_RX11_202 : Gd (.methodLink RX11 202 yX11_needTime) := gd 990 (by decide +kernel) rfl
theorem ln_RX11_205 : Gd (.methodLink RX11 205 yX11_followRules) := gd 998 (by decide +kernel) rfl
theorem ln_RX11_208 : Gd (.methodLink RX11 208 yX1_at) := gd 1027 (by decide +kernel) rfl
theorem ln_RX11_212 : Gd (.methodLink RX11 212 yX11_needRange) := gd 994 (by decide +kernel) rfl
theorem ln_RX11_216 : Gd (.methodLink RX11 216 yX1_nextStates) := gd 1038 (by decide +kernel) rfl
theorem ln_RX11_220 : Gd (.methodLink RX11 220 yX1_visitsOf) := gd 1063 (by decide +kernel) rfl
theorem ln_RX11_224 : Gd (.methodLink RX11 224 yX1_hitOf) := gd 1080 (by decide +kernel) rfl
theorem ln_RX11_227 : Gd (.methodLink RX11 227 yX11_unitOf) := gd 1091 (by decide +kernel) rfl
theorem ln_RX11_230 : Gd (.methodLink RX11 230 yX1_gainOf) := gd 1103 (by decide +kernel) rfl
theorem ln_RX11_234 : Gd (.methodLink RX11 234 yX1_usedOf) := gd 1114 (by decide +kernel) rfl
theorem ln_RX11_238 : Gd (.methodLink RX11 238 yX11_brokenWith) := gd 1133 (by decide +kernel) rfl
theorem ln_RX11_242 : Gd (.methodLink RX11 242 yX8_chanceWithin) := gd 1144 (by decide +kernel) rfl
theorem ln_RX11_246 : Gd (.methodLink RX11 246 yX8_greatest) := gd 1168 (by decide +kernel) rfl
theorem ln_RX11_250 : Gd (.methodLink RX11 250 yX1_rankOf) := gd 1194 (by decide +kernel) rfl
theorem ln_RX11_253 : Gd (.methodLink RX11 253 yX1_greatestChance) := gd 1213 (by decide +kernel) rfl
theorem ln_RX11_257 : Gd (.methodLink RX11 257 yX1_stateOfLikeliest) := gd 1235 (by decide +kernel) rfl
theorem ln_RX11_260 : Gd (.methodLink RX11 260 yX9_fill) := gd 1250 (by decide +kernel) rfl
theorem ln_RX11_263 : Gd (.methodLink RX11 263 yX9_of) := gd 1273 (by decide +kernel) rfl
theorem ln_RX11_266 : Gd (.methodLink RX11 266 yX9_firstAction) := gd 1281 (by decide +kernel) rfl
theorem ln_RX11_269 : Gd (.methodLink RX11 269 yX5_findBest) := gd 1289 (by decide +kernel) rfl
theorem ln_RX11_277 : Gd (.methodLink RX11 277 yX5_countHolding) := gd 1342 (by decide +kernel) rfl
theorem ln_RX11_280 : Gd (.methodLink RX11 280 yX5_smallestLimit) := gd 1360 (by decide +kernel) rfl
theorem ln_RX11_285 : Gd (.methodLink RX11 285 yX11_copyRow) := gd 1377 (by decide +kernel) rfl
theorem ln_RX11_289 : Gd (.methodLink RX11 289 yX11_setWeights) := gd 1378 (by decide +kernel) rfl
theorem ln_RX11_296 : Gd (.methodLink RX11 296 yX11_needWalk) := gd 1393 (by decide +kernel) rfl
theorem ln_RX11_308 : Gd (.methodLink RX11 308 yX7_walkRow) := gd 1412 (by decide +kernel) rfl
theorem ln_RX11_312 : Gd (.methodLink RX11 312 yX10_gainOfNext) := gd 1431 (by decide +kernel) rfl
theorem ln_RX11_319 : Gd (.methodLink RX11 319 yX6_addPart) := gd 1460 (by decide +kernel) rfl
theorem ln_RX11_331 : Gd (.methodLink RX11 331 yX3_keep) := gd 1489 (by decide +kernel) rfl
theorem ln_RX11_339 : Gd (.methodLink RX11 339 yX5_writeWeights) := gd 1506 (by decide +kernel) rfl
theorem ln_RX11_350 : Gd (.methodLink RX11 350 yX10_step) := gd 1543 (by decide +kernel) rfl
theorem ln_RX11_362 : Gd (.methodLink RX11 362 yX3_giveBack) := gd 1552 (by decide +kernel) rfl
theorem ln_RX11_365 : Gd (.methodLink RX11 365 yX11_needSlot) := gd 1563 (by decide +kernel) rfl
theorem ln_RX11_368 : Gd (.methodLink RX11 368 yX3_put) := gd 1567 (by decide +kernel) rfl
theorem ln_RX11_371 : Gd (.methodLink RX11 371 yX3_isFull) := gd 1578 (by decide +kernel) rfl
theorem ln_RX11_376 : Gd (.methodLink RX11 376 yX3_take) := gd 1583 (by decide +kernel) rfl
theorem ln_RX11_393 : Gd (.methodLink RX11 393 yJ9_min_7cf53) := gd 864 (by decide +kernel) rfl
theorem ln_RX11_398 : Gd (.methodLink RX11 398 arraycopyName) := gd 865 (by decide +kernel) rfl
theorem ln_RX11_408 : Gd (.methodLink RX11 408 yX1_follow) := gd 1002 (by decide +kernel) rfl
theorem ln_RX12_68 : Gd (.methodLink RX12 68 yX12_refuse) := gd 1718 (by decide +kernel) rfl
theorem ln_RX12_84 : Gd (.methodLink RX12 84 yX12_seen) := gd 1730 (by decide +kernel) rfl
theorem ln_RX12_94 : Gd (.methodLink RX12 94 yX12_isLetter) := gd 1734 (by decide +kernel) rfl
theorem ln_RX12_101 : Gd (.methodLink RX12 101 yX12_isDigit) := gd 1737 (by decide +kernel) rfl
theorem ln_RX12_113 : Gd (.methodLink RX12 113 yX12_token) := gd 1726 (by decide +kernel) rfl
theorem ln_RX12_116 : Gd (.methodLink RX12 116 yJ0_length_8abf5) := gd 1753 (by decide +kernel) rfl
theorem ln_RX12_122 : Gd (.methodLink RX12 122 yJ0_charAt_5068e) := gd 1754 (by decide +kernel) rfl
theorem ln_RX12_126 : Gd (.methodLink RX12 126 yX12_isWord) := gd 1749 (by decide +kernel) rfl
theorem ln_RX12_130 : Gd (.methodLink RX12 130 yX12_passes) := gd 1745 (by decide +kernel) rfl
theorem ln_RX12_133 : Gd (.methodLink RX12 133 yX12_fails) := gd 1755 (by decide +kernel) rfl
theorem ln_RX12_137 : Gd (.methodLink RX12 137 yX12_in) := gd 1715 (by decide +kernel) rfl
theorem ln_RX12_141 : Gd (.methodLink RX12 141 yX12_numberHere) := gd 1768 (by decide +kernel) rfl
theorem ln_RX12_145 : Gd (.methodLink RX12 145 yX12_goesOn) := gd 1772 (by decide +kernel) rfl
theorem ln_RX12_148 : Gd (.methodLink RX12 148 yX12_expects) := gd 1741 (by decide +kernel) rfl
theorem ln_RX12_152 : Gd (.methodLink RX12 152 yX12_takes) := gd 1764 (by decide +kernel) rfl
theorem ln_RX12_155 : Gd (.methodLink RX12 155 yX12_puts) := gd 1776 (by decide +kernel) rfl
theorem ln_RX12_159 : Gd (.methodLink RX12 159 yX12_stateHere) := gd 1796 (by decide +kernel) rfl
theorem ln_RX12_164 : Gd (.methodLink RX12 164 yX12_usesRead) := gd 1801 (by decide +kernel) rfl
theorem ln_RX12_169 : Gd (.methodLink RX12 169 yX12_toRead) := gd 1806 (by decide +kernel) rfl
theorem ln_RX12_172 : Gd (.methodLink RX12 172 yX12_endsAt) := gd 1810 (by decide +kernel) rfl
theorem ln_RX12_178 : Gd (.methodLink RX12 178 yX12_budgetLine) := gd 1787 (by decide +kernel) rfl
theorem ln_RX12_183 : Gd (.methodLink RX12 183 yX12_actLine) := gd 1792 (by decide +kernel) rfl
theorem ln_RX12_188 : Gd (.methodLink RX12 188 yX12_ruleLine) := gd 1815 (by decide +kernel) rfl
theorem ln_RX12_193 : Gd (.methodLink RX12 193 yX12_startLine) := gd 1820 (by decide +kernel) rfl
theorem ln_RX12_200 : Gd (.methodLink RX12 200 yX12_takes_) := gd 1760 (by decide +kernel) rfl
theorem ln_RX12_207 : Gd (.methodLink RX12 207 yX12_line) := gd 1782 (by decide +kernel) rfl
theorem ln_RX12_210 : Gd (.methodLink RX12 210 yX12_reads) := gd 1722 (by decide +kernel) rfl
theorem ln_RX12_216 : Gd (.methodLink RX12 216 yX12_starts) := gd 1824 (by decide +kernel) rfl
theorem ln_RX12_219 : Gd (.methodLink RX12 219 yX12_isState) := gd 1864 (by decide +kernel) rfl
theorem ln_RX12_222 : Gd (.methodLink RX12 222 yX12_noChain) := gd 1852 (by decide +kernel) rfl
theorem ln_RX12_226 : Gd (.methodLink RX12 226 yX12_isAction) := gd 1876 (by decide +kernel) rfl
theorem ln_RX12_230 : Gd (.methodLink RX12 230 yX12_isBudget) := gd 1888 (by decide +kernel) rfl
theorem ln_RX12_233 : Gd (.methodLink RX12 233 yX12_told) := gd 1832 (by decide +kernel) rfl
theorem ln_RX12_236 : Gd (.methodLink RX12 236 yX12_noState) := gd 1860 (by decide +kernel) rfl
theorem ln_RX12_239 : Gd (.methodLink RX12 239 yX12_noAction) := gd 1872 (by decide +kernel) rfl
theorem ln_RX12_242 : Gd (.methodLink RX12 242 yX12_gainBy) := gd 1880 (by decide +kernel) rfl
theorem ln_RX12_245 : Gd (.methodLink RX12 245 yX12_usesBy) := gd 1892 (by decide +kernel) rfl
theorem ln_RX12_249 : Gd (.methodLink RX12 249 yX12_percentBy) := gd 1900 (by decide +kernel) rfl
theorem ln_RX12_252 : Gd (.methodLink RX12 252 yX12_weightOf) := gd 1908 (by decide +kernel) rfl
theorem ln_RX12_255 : Gd (.methodLink RX12 255 yX12_isPermittedNow) := gd 1916 (by decide +kernel) rfl
theorem ln_RX12_258 : Gd (.methodLink RX12 258 yX12_noBudget) := gd 1924 (by decide +kernel) rfl
theorem ln_RX12_261 : Gd (.methodLink RX12 261 yX12_stepOf) := gd 1944 (by decide +kernel) rfl
theorem ln_RX12_264 : Gd (.methodLink RX12 264 yX12_lays) := gd 1940 (by decide +kernel) rfl
theorem ln_RX12_267 : Gd (.methodLink RX12 267 yX12_isTime) := gd 1932 (by decide +kernel) rfl
theorem ln_RX12_270 : Gd (.methodLink RX12 270 yX12_reachAt) := gd 1936 (by decide +kernel) rfl
theorem ln_RX12_273 : Gd (.methodLink RX12 273 yX12_power) := gd 1968 (by decide +kernel) rfl
theorem ln_RX12_277 : Gd (.methodLink RX12 277 yX12_together) := gd 1964 (by decide +kernel) rfl
theorem ln_RX12_283 : Gd (.methodLink RX12 283 yX12_unitNow) := gd 1979 (by decide +kernel) rfl
theorem ln_RX12_287 : Gd (.methodLink RX12 287 yX12_ofRun) := gd 1988 (by decide +kernel) rfl
theorem ln_RX12_290 : Gd (.methodLink RX12 290 yX12_leftOf) := gd 2000 (by decide +kernel) rfl
theorem ln_RX12_293 : Gd (.methodLink RX12 293 yX12_brokenNow) := gd 2008 (by decide +kernel) rfl
theorem ln_RX12_296 : Gd (.methodLink RX12 296 yX12_stepsMass) := gd 2032 (by decide +kernel) rfl
theorem ln_RX12_299 : Gd (.methodLink RX12 299 yX12_goesBy) := gd 2036 (by decide +kernel) rfl
theorem ln_RX12_303 : Gd (.methodLink RX12 303 yX12_laysMass) := gd 2028 (by decide +kernel) rfl
theorem ln_RX12_306 : Gd (.methodLink RX12 306 yX12_massOf) := gd 2040 (by decide +kernel) rfl
theorem ln_RX12_309 : Gd (.methodLink RX12 309 yX12_laysAhead) := gd 2052 (by decide +kernel) rfl
theorem ln_RX12_312 : Gd (.methodLink RX12 312 yX12_worthOf) := gd 2073 (by decide +kernel) rfl
theorem ln_RX12_316 : Gd (.methodLink RX12 316 yX12_worthiest) := gd 2069 (by decide +kernel) rfl
theorem ln_RX12_321 : Gd (.methodLink RX12 321 yX12_laysWorths) := gd 2065 (by decide +kernel) rfl
theorem ln_RX12_324 : Gd (.methodLink RX12 324 yX12_keeps) := gd 2093 (by decide +kernel) rfl
theorem ln_RX12_327 : Gd (.methodLink RX12 327 yX12_givesAll) := gd 2102 (by decide +kernel) rfl
theorem ln_RX12_330 : Gd (.methodLink RX12 330 yX12_beginsPure) := gd 2089 (by decide +kernel) rfl
theorem ln_RX12_342 : Gd (.methodLink RX12 342 yX12_takesPure) := gd 2098 (by decide +kernel) rfl
theorem ln_RX12_345 : Gd (.methodLink RX12 345 yX12_isAllowed) := gd 2106 (by decide +kernel) rfl
theorem ln_RX12_348 : Gd (.methodLink RX12 348 yX12_keepsBest) := gd 2110 (by decide +kernel) rfl
theorem ln_RX12_352 : Gd (.methodLink RX12 352 yX12_turns) := gd 2114 (by decide +kernel) rfl
theorem ln_RX12_355 : Gd (.methodLink RX12 355 yX12_fetches) := gd 2118 (by decide +kernel) rfl
theorem ln_RX12_358 : Gd (.methodLink RX12 358 yX12_findsBest) := gd 2085 (by decide +kernel) rfl
theorem ln_RX12_365 : Gd (.methodLink RX12 365 yX12_draws) := gd 2185 (by decide +kernel) rfl
theorem ln_RX12_368 : Gd (.methodLink RX12 368 yX12_drawsAction) := gd 2181 (by decide +kernel) rfl
theorem ln_RX12_371 : Gd (.methodLink RX12 371 yX12_drawsState) := gd 2189 (by decide +kernel) rfl
theorem ln_RX12_374 : Gd (.methodLink RX12 374 yX12_noWalk) := gd 2152 (by decide +kernel) rfl
theorem ln_RX12_377 : Gd (.methodLink RX12 377 yX12_ofWalk) := gd 2164 (by decide +kernel) rfl
theorem ln_RX12_382 : Gd (.methodLink RX12 382 yX12_walks) := gd 2177 (by decide +kernel) rfl
theorem ln_RX12_390 : Gd (.methodLink RX12 390 yX12_saysNumber) := gd 2201 (by decide +kernel) rfl
theorem ln_RX12_393 : Gd (.methodLink RX12 393 yX12_says) := gd 2197 (by decide +kernel) rfl
theorem ln_RX12_396 : Gd (.methodLink RX12 396 yX12_isWeight) := gd 2214 (by decide +kernel) rfl
theorem ln_RX12_400 : Gd (.methodLink RX12 400 yX12_keepsAll) := gd 2217 (by decide +kernel) rfl
theorem ln_RX12_403 : Gd (.methodLink RX12 403 yX12_permitted) := gd 2229 (by decide +kernel) rfl
theorem ln_RX2_19 : Gd (.methodLink RX2 19 yJ9_min_7cf53) := gd 684 (by decide +kernel) rfl
theorem ln_RX2_31 : Gd (.methodLink RX2 31 yX2_advance) := gd 687 (by decide +kernel) rfl
theorem ln_RX2_40 : Gd (.methodLink RX2 40 yX2_isLetter) := gd 691 (by decide +kernel) rfl
theorem ln_RX2_44 : Gd (.methodLink RX2 44 yX2_isDigit) := gd 694 (by decide +kernel) rfl
theorem ln_RX2_50 : Gd (.methodLink RX2 50 yJ0_length_8abf5) := gd 710 (by decide +kernel) rfl
theorem ln_RX2_56 : Gd (.methodLink RX2 56 yJ0_charAt_5068e) := gd 720 (by decide +kernel) rfl
theorem ln_RX3_28 : Gd (.methodLink RX3 28 yX3_dropOldest) := gd 1493 (by decide +kernel) rfl
theorem ln_RX3_31 : Gd (.methodLink RX3 31 yX7_copyFrom) := gd 1497 (by decide +kernel) rfl
theorem ln_RX4_39 : Gd (.methodLink RX4 39 yX0_clear) := gd 662 (by decide +kernel) rfl
theorem ln_RX4_42 : Gd (.methodLink RX4 42 yX7_clear) := gd 669 (by decide +kernel) rfl
theorem ln_RX4_43 : Gd (.methodLink RX4 43 yX2_begin) := gd 680 (by decide +kernel) rfl
theorem ln_RX4_49 : Gd (.methodLink RX4 49 yX4_parseHead) := gd 697 (by decide +kernel) rfl
theorem ln_RX4_56 : Gd (.methodLink RX4 56 yX2_advance) := gd 762 (by decide +kernel) rfl
theorem ln_RX4_59 : Gd (.methodLink RX4 59 yX4_parseLine) := gd 774 (by decide +kernel) rfl
theorem ln_RX4_62 : Gd (.methodLink RX4 62 yX4_checkStates) := gd 837 (by decide +kernel) rfl
theorem ln_RX4_65 : Gd (.methodLink RX4 65 yX4_fail) := gd 758 (by decide +kernel) rfl
theorem ln_RX4_72 : Gd (.methodLink RX4 72 yX2_isWord) := gd 706 (by decide +kernel) rfl
theorem ln_RX4_82 : Gd (.methodLink RX4 82 yX4_seeNumber) := gd 768 (by decide +kernel) rfl
theorem ln_RX4_90 : Gd (.methodLink RX4 90 yX4_takeWord) := gd 702 (by decide +kernel) rfl
theorem ln_RX4_94 : Gd (.methodLink RX4 94 yX4_takeNumber) := gd 764 (by decide +kernel) rfl
theorem ln_RX4_107 : Gd (.methodLink RX4 107 yX4_parseBudget) := gd 779 (by decide +kernel) rfl
theorem ln_RX4_112 : Gd (.methodLink RX4 112 yX4_parseAct) := gd 784 (by decide +kernel) rfl
theorem ln_RX4_117 : Gd (.methodLink RX4 117 yX4_parseRule) := gd 824 (by decide +kernel) rfl
theorem ln_RX4_120 : Gd (.methodLink RX4 120 yX4_parseStart) := gd 832 (by decide +kernel) rfl
theorem ln_RX4_132 : Gd (.methodLink RX4 132 yX4_seeState) := gd 788 (by decide +kernel) rfl
theorem ln_RX4_140 : Gd (.methodLinkNest RX4 140 yX11_rowOf "DecisionChain") := gd 792 (by decide +kernel) rfl
theorem ln_RX4_144 : Gd (.methodLink RX4 144 yX4_parseGain) := gd 793 (by decide +kernel) rfl
theorem ln_RX4_147 : Gd (.methodLink RX4 147 yX4_parseUses) := gd 797 (by decide +kernel) rfl
theorem ln_RX4_150 : Gd (.methodLink RX4 150 yX4_parsePercents) := gd 806 (by decide +kernel) rfl
theorem ln_RX4_158 : Gd (.methodLink RX4 158 yX0_amountOf) := gd 802 (by decide +kernel) rfl
theorem ln_RX4_166 : Gd (.methodLink RX4 166 yX0_percentTo) := gd 811 (by decide +kernel) rfl
theorem ln_RX4_169 : Gd (.methodLink RX4 169 yX0_tell) := gd 815 (by decide +kernel) rfl
theorem ln_RX4_173 : Gd (.methodLink RX4 173 yX4_endLine) := gd 819 (by decide +kernel) rfl
theorem ln_RX4_176 : Gd (.methodLink RX4 176 yX4_parseWeights) := gd 828 (by decide +kernel) rfl
theorem ln_RX5_47 : Gd (.methodLink RX5 47 yX5_fill) := gd 1293 (by decide +kernel) rfl
theorem ln_RX5_52 : Gd (.methodLink RX5 52 yX5_begin) := gd 1297 (by decide +kernel) rfl
theorem ln_RX5_56 : Gd (.methodLink RX5 56 yX5_isPermittedSet) := gd 1316 (by decide +kernel) rfl
theorem ln_RX5_59 : Gd (.methodLink RX5 59 yX5_holds) := gd 1321 (by decide +kernel) rfl
theorem ln_RX5_66 : Gd (.methodLinkNest RX5 66 yX11_copyRow "DecisionChain") := gd 1326 (by decide +kernel) rfl
theorem ln_RX5_70 : Gd (.methodLink RX5 70 yX5_moveOn) := gd 1311 (by decide +kernel) rfl
theorem ln_RX5_73 : Gd (.methodLink RX5 73 yX5_limitFor) := gd 1364 (by decide +kernel) rfl
theorem ln_RX5_77 : Gd (.methodLink RX5 77 yJ9_min_7cf53) := gd 1368 (by decide +kernel) rfl
theorem ln_RX5_88 : Gd (.methodLinkNest RX5 88 yX11_setWeights "DecisionChain") := gd 1306 (by decide +kernel) rfl
theorem ln_RX5_92 : Gd (.methodLinkNest RX5 92 yX11_rowOf "DecisionChain") := gd 1307 (by decide +kernel) rfl
theorem ln_RX5_103 : Gd (.methodLink RX5 103 yX5_writeWeights) := gd 1302 (by decide +kernel) rfl
theorem ln_RX5_106 : Gd (.methodLink RX5 106 yX1_follow) := gd 1308 (by decide +kernel) rfl
theorem ln_RX5_112 : Gd (.methodLink RX5 112 yX1_gainOf) := gd 1309 (by decide +kernel) rfl
theorem ln_RX5_119 : Gd (.methodLink RX5 119 yX1_usedOf) := gd 1310 (by decide +kernel) rfl
theorem ln_RX5_123 : Gd (.methodLink RX5 123 yJ7_fill_53178) := gd 1301 (by decide +kernel) rfl
theorem ln_RX5_131 : Gd (.methodLink RX5 131 yX7_permits) := gd 1320 (by decide +kernel) rfl
theorem ln_RX5_134 : Gd (.methodLinkNest RX5 134 yX11_unitOf "DecisionChain") := gd 1325 (by decide +kernel) rfl
theorem ln_RX6_19 : Gd (.methodLink RX6 19 yX6_addByte) := gd 1464 (by decide +kernel) rfl
theorem ln_RX6_23 : Gd (.methodLink RX6 23 yX6_addNumber) := gd 1468 (by decide +kernel) rfl
theorem ln_RX7_31 : Gd (.methodLinkNest RX7 31 yX11_setWeights "DecisionChain") := gd 673 (by decide +kernel) rfl
theorem ln_RX7_35 : Gd (.methodLink RX7 35 yJ7_fill_53178) := gd 679 (by decide +kernel) rfl
theorem ln_RX7_50 : Gd (.methodLinkNest RX7 50 yX11_copyRow "DecisionChain") := gd 872 (by decide +kernel) rfl
theorem ln_RX7_54 : Gd (.methodLinkNest RX7 54 yX11_rowOf "DecisionChain") := gd 1416 (by decide +kernel) rfl
theorem ln_RX8_31 : Gd (.methodLink RX8 31 yJ9_min_7cf53) := gd 1148 (by decide +kernel) rfl
theorem ln_RX8_37 : Gd (.methodLink RX8 37 yJ7_fill_d0a16) := gd 1149 (by decide +kernel) rfl
theorem ln_RX8_53 : Gd (.methodLink RX8 53 yX8_spendFrom) := gd 1150 (by decide +kernel) rfl
theorem ln_RX8_65 : Gd (.methodLinkNest RX8 65 yX11_rowOf "DecisionChain") := gd 1154 (by decide +kernel) rfl
theorem ln_RX8_68 : Gd (.methodLink RX8 68 yX0_amountOf) := gd 1155 (by decide +kernel) rfl
theorem ln_RX8_71 : Gd (.methodLink RX8 71 yX8_spendTo) := gd 1156 (by decide +kernel) rfl
theorem ln_RX8_75 : Gd (.methodLink RX8 75 yX0_percentTo) := gd 1160 (by decide +kernel) rfl
theorem ln_RX8_78 : Gd (.methodLink RX8 78 yJ7_fill_53178) := gd 1172 (by decide +kernel) rfl
theorem ln_RX8_81 : Gd (.methodLink RX8 81 yX8_greatestFrom) := gd 1173 (by decide +kernel) rfl
theorem ln_RX8_85 : Gd (.methodLink RX8 85 yJ9_max_7cf53) := gd 1177 (by decide +kernel) rfl
theorem ln_RX9_23 : Gd (.methodLink RX9 23 yJ7_fill_d0a16) := gd 1254 (by decide +kernel) rfl
theorem ln_RX9_35 : Gd (.methodLink RX9 35 yX9_firstAction) := gd 1255 (by decide +kernel) rfl
theorem ln_RX9_39 : Gd (.methodLinkNest RX9 39 yX11_rowOf "DecisionChain") := gd 1260 (by decide +kernel) rfl
theorem ln_RX9_42 : Gd (.methodLink RX9 42 yX9_valueOver) := gd 1261 (by decide +kernel) rfl
theorem ln_RX9_52 : Gd (.methodLink RX9 52 yX7_permits) := gd 1271 (by decide +kernel) rfl
theorem ln_RX9_58 : Gd (.methodLink RX9 58 yJ9_max_7cf53) := gd 1272 (by decide +kernel) rfl
theorem ln_RX9_68 : Gd (.methodLink RX9 68 yX0_percentTo) := gd 1266 (by decide +kernel) rfl
theorem ln_RX9_71 : Gd (.methodLink RX9 71 yX9_of) := gd 1267 (by decide +kernel) rfl
theorem mw_J7_fill_53178 : MW yJ7_fill_53178 cJ7_fill_53178 4 none 2 := ⟨gd 140 (by decide +kernel) rfl, gd 668 (by decide +kernel) rfl, ⟨by decide, by decide⟩, by decide +kernel⟩
theorem mw_J7_fill_d0a16 : MW yJ7_fill_d0a16 cJ7_fill_d0a16 5 none 2 := ⟨gd 140 (by decide +kernel) rfl, gd 1012 (by decide +kernel) rfl, ⟨by decide, by decide⟩, by decide +kernel⟩
theorem mw_X0_amountOf : MW yX0_amountOf cX0_amountOf 3 (some .int) 2 := ⟨gd 125 (by decide +kernel) rfl, gd 805 (by decide +kernel) rfl, ⟨by decide, by decide⟩, by decide +kernel⟩
theorem mw_X0_clear : MW yX0_clear cX0_clear 1 none 0 := ⟨gd 125 (by decide +kernel) rfl, gd 665 (by decide +kernel) rfl, ⟨by decide, by decide⟩, by decide +kernel⟩
theorem mw_X0_copyFrom : MW yX0_copyFrom cX0_copyFrom 2 none 1 := ⟨gd 125 (by decide +kernel) rfl, gd 860 (by decide +kernel) rfl, ⟨by decide, by decide⟩, by decide +kernel⟩
theorem mw_X0_countActions : MW yX0_countActions cX0_countActions 3 (some .int) 0 := ⟨gd 125 (by decide +kernel) rfl, gd 884 (by decide +kernel) rfl, ⟨by decide, by decide⟩, by decide +kernel⟩
theorem mw_X0_percentTo : MW yX0_percentTo cX0_percentTo 3 (some .int) 2 := ⟨gd 125 (by decide +kernel) rfl, gd 814 (by decide +kernel) rfl, ⟨by decide, by decide⟩, by decide +kernel⟩
theorem mw_X0_tell : MW yX0_tell cX0_tell 4 none 3 := ⟨gd 125 (by decide +kernel) rfl, gd 818 (by decide +kernel) rfl, ⟨by decide, by decide⟩, by decide +kernel⟩
theorem mw_X10_draw : MW yX10_draw cX10_draw 1 (some .int) 0 := ⟨gd 133 (by decide +kernel) rfl, gd 1442 (by decide +kernel) rfl, ⟨by decide, by decide⟩, by decide +kernel⟩
theorem mw_X10_drawAction : MW yX10_drawAction cX10_drawAction 5 (some .int) 2 := ⟨gd 133 (by decide +kernel) rfl, gd 1446 (by decide +kernel) rfl, ⟨by decide, by decide⟩, by decide +kernel⟩
theorem mw_X10_drawNext : MW yX10_drawNext cX10_drawNext 6 (some .int) 2 := ⟨gd 133 (by decide +kernel) rfl, gd 1451 (by decide +kernel) rfl, ⟨by decide, by decide⟩, by decide +kernel⟩
theorem mw_X10_gainOfNext : MW yX10_gainOfNext cX10_gainOfNext 5 (some .int) 1 := ⟨gd 133 (by decide +kernel) rfl, gd 1434 (by decide +kernel) rfl, ⟨by decide, by decide⟩, by decide +kernel⟩
theorem mw_X10_step : MW yX10_step cX10_step 2 none 1 := ⟨gd 133 (by decide +kernel) rfl, gd 1438 (by decide +kernel) rfl, ⟨by decide, by decide⟩, by decide +kernel⟩
theorem mw_X11_brokenWith : MW yX11_brokenWith cX11_brokenWith 4 (some .int) 1 := ⟨gd 123 (by decide +kernel) rfl, gd 1136 (by decide +kernel) rfl, ⟨by decide, by decide⟩, by decide +kernel⟩
theorem mw_X11_copyRow : MW yX11_copyRow cX11_copyRow 2 none 2 := ⟨gd 123 (by decide +kernel) rfl, gd 863 (by decide +kernel) rfl, ⟨by decide, by decide⟩, by decide +kernel⟩
theorem mw_X11_followRules : MW yX11_followRules cX11_followRules 1 none 0 := ⟨gd 123 (by decide +kernel) rfl, gd 1001 (by decide +kernel) rfl, ⟨by decide, by decide⟩, by decide +kernel⟩
theorem mw_X11_needAction : MW yX11_needAction cX11_needAction 3 none 2 := ⟨gd 123 (by decide +kernel) rfl, gd 935 (by decide +kernel) rfl, ⟨by decide, by decide⟩, by decide +kernel⟩
theorem mw_X11_needBudget : MW yX11_needBudget cX11_needBudget 2 none 1 := ⟨gd 123 (by decide +kernel) rfl, gd 947 (by decide +kernel) rfl, ⟨by decide, by decide⟩, by decide +kernel⟩
theorem mw_X11_needChain : MW yX11_needChain cX11_needChain 1 none 0 := ⟨gd 123 (by decide +kernel) rfl, gd 896 (by decide +kernel) rfl, ⟨by decide, by decide⟩, by decide +kernel⟩
theorem mw_X11_needRange : MW yX11_needRange cX11_needRange 3 none 3 := ⟨gd 123 (by decide +kernel) rfl, gd 996 (by decide +kernel) rfl, ⟨by decide, by decide⟩, by decide +kernel⟩
theorem mw_X11_needSlot : MW yX11_needSlot cX11_needSlot 1 none 1 := ⟨gd 123 (by decide +kernel) rfl, gd 1565 (by decide +kernel) rfl, ⟨by decide, by decide⟩, by decide +kernel⟩
theorem mw_X11_needState : MW yX11_needState cX11_needState 2 none 1 := ⟨gd 123 (by decide +kernel) rfl, gd 923 (by decide +kernel) rfl, ⟨by decide, by decide⟩, by decide +kernel⟩
theorem mw_X11_needTime : MW yX11_needTime cX11_needTime 2 none 1 := ⟨gd 123 (by decide +kernel) rfl, gd 993 (by decide +kernel) rfl, ⟨by decide, by decide⟩, by decide +kernel⟩
theorem mw_X11_needWalk : MW yX11_needWalk cX11_needWalk 1 none 0 := ⟨gd 123 (by decide +kernel) rfl, gd 1396 (by decide +kernel) rfl, ⟨by decide, by decide⟩, by decide +kernel⟩
theorem mw_X11_rowOf : MW yX11_rowOf cX11_rowOf 2 (some .int) 2 := ⟨gd 123 (by decide +kernel) rfl, gd 678 (by decide +kernel) rfl, ⟨by decide, by decide⟩, by decide +kernel⟩
theorem mw_X11_setWeights : MW yX11_setWeights cX11_setWeights 5 none 5 := ⟨gd 123 (by decide +kernel) rfl, gd 675 (by decide +kernel) rfl, ⟨by decide, by decide⟩, by decide +kernel⟩
theorem mw_X11_unitOf : MW yX11_unitOf cX11_unitOf 4 (some .long) 1 := ⟨gd 123 (by decide +kernel) rfl, gd 1093 (by decide +kernel) rfl, ⟨by decide, by decide⟩, by decide +kernel⟩
theorem mw_X12_actLine : MW yX12_actLine cX12_actLine 6 none 0 := ⟨gd 135 (by decide +kernel) rfl, gd 1795 (by decide +kernel) rfl, ⟨by decide, by decide⟩, by decide +kernel⟩
theorem mw_X12_beginsPure : MW yX12_beginsPure cX12_beginsPure 2 none 0 := ⟨gd 135 (by decide +kernel) rfl, gd 2092 (by decide +kernel) rfl, ⟨by decide, by decide⟩, by decide +kernel⟩
theorem mw_X12_brokenNow : MW yX12_brokenNow cX12_brokenNow 3 (some .int) 0 := ⟨gd 135 (by decide +kernel) rfl, gd 2011 (by decide +kernel) rfl, ⟨by decide, by decide⟩, by decide +kernel⟩
theorem mw_X12_budgetLine : MW yX12_budgetLine cX12_budgetLine 2 none 0 := ⟨gd 135 (by decide +kernel) rfl, gd 1790 (by decide +kernel) rfl, ⟨by decide, by decide⟩, by decide +kernel⟩
theorem mw_X12_draws : MW yX12_draws cX12_draws 2 (some .int) 1 := ⟨gd 135 (by decide +kernel) rfl, gd 2188 (by decide +kernel) rfl, ⟨by decide, by decide⟩, by decide +kernel⟩
theorem mw_X12_drawsAction : MW yX12_drawsAction cX12_drawsAction 5 (some .int) 1 := ⟨gd 135 (by decide +kernel) rfl, gd 2184 (by decide +kernel) rfl, ⟨by decide, by decide⟩, by decide +kernel⟩
theorem mw_X12_drawsState : MW yX12_drawsState cX12_drawsState 6 (some .int) 2 := ⟨gd 135 (by decide +kernel) rfl, gd 2192 (by decide +kernel) rfl, ⟨by decide, by decide⟩, by decide +kernel⟩
theorem mw_X12_endsAt : MW yX12_endsAt cX12_endsAt 2 none 1 := ⟨gd 135 (by decide +kernel) rfl, gd 1813 (by decide +kernel) rfl, ⟨by decide, by decide⟩, by decide +kernel⟩
theorem mw_X12_expects : MW yX12_expects cX12_expects 2 none 1 := ⟨gd 135 (by decide +kernel) rfl, gd 1744 (by decide +kernel) rfl, ⟨by decide, by decide⟩, by decide +kernel⟩
theorem mw_X12_fails : MW yX12_fails cX12_fails 2 none 1 := ⟨gd 135 (by decide +kernel) rfl, gd 1758 (by decide +kernel) rfl, ⟨by decide, by decide⟩, by decide +kernel⟩
theorem mw_X12_fetches : MW yX12_fetches cX12_fetches 3 none 1 := ⟨gd 135 (by decide +kernel) rfl, gd 2121 (by decide +kernel) rfl, ⟨by decide, by decide⟩, by decide +kernel⟩
theorem mw_X12_findsBest : MW yX12_findsBest cX12_findsBest 2 (some .long) 0 := ⟨gd 135 (by decide +kernel) rfl, gd 2088 (by decide +kernel) rfl, ⟨by decide, by decide⟩, by decide +kernel⟩
theorem mw_X12_gainBy : MW yX12_gainBy cX12_gainBy 3 (some .int) 2 := ⟨gd 135 (by decide +kernel) rfl, gd 1883 (by decide +kernel) rfl, ⟨by decide, by decide⟩, by decide +kernel⟩
theorem mw_X12_givesAll : MW yX12_givesAll cX12_givesAll 4 none 2 := ⟨gd 135 (by decide +kernel) rfl, gd 2105 (by decide +kernel) rfl, ⟨by decide, by decide⟩, by decide +kernel⟩
theorem mw_X12_goesBy : MW yX12_goesBy cX12_goesBy 8 none 3 := ⟨gd 135 (by decide +kernel) rfl, gd 2039 (by decide +kernel) rfl, ⟨by decide, by decide⟩, by decide +kernel⟩
theorem mw_X12_goesOn : MW yX12_goesOn cX12_goesOn 1 none 0 := ⟨gd 135 (by decide +kernel) rfl, gd 1775 (by decide +kernel) rfl, ⟨by decide, by decide⟩, by decide +kernel⟩
theorem mw_X12_in : MW yX12_in cX12_in 6 (some .boolean) 3 := ⟨gd 135 (by decide +kernel) rfl, gd 1717 (by decide +kernel) rfl, ⟨by decide, by decide⟩, by decide +kernel⟩
theorem mw_X12_isAction : MW yX12_isAction cX12_isAction 3 (some .boolean) 2 := ⟨gd 135 (by decide +kernel) rfl, gd 1879 (by decide +kernel) rfl, ⟨by decide, by decide⟩, by decide +kernel⟩
theorem mw_X12_isAllowed : MW yX12_isAllowed cX12_isAllowed 2 (some .boolean) 0 := ⟨gd 135 (by decide +kernel) rfl, gd 2109 (by decide +kernel) rfl, ⟨by decide, by decide⟩, by decide +kernel⟩
theorem mw_X12_isBudget : MW yX12_isBudget cX12_isBudget 2 (some .boolean) 1 := ⟨gd 135 (by decide +kernel) rfl, gd 1891 (by decide +kernel) rfl, ⟨by decide, by decide⟩, by decide +kernel⟩
theorem mw_X12_isDigit : MW yX12_isDigit cX12_isDigit 1 (some .boolean) 1 := ⟨gd 135 (by decide +kernel) rfl, gd 1739 (by decide +kernel) rfl, ⟨by decide, by decide⟩, by decide +kernel⟩
theorem mw_X12_isLetter : MW yX12_isLetter cX12_isLetter 1 (some .boolean) 1 := ⟨gd 135 (by decide +kernel) rfl, gd 1736 (by decide +kernel) rfl, ⟨by decide, by decide⟩, by decide +kernel⟩
theorem mw_X12_isPermittedNow : MW yX12_isPermittedNow cX12_isPermittedNow 3 (some .boolean) 2 := ⟨gd 135 (by decide +kernel) rfl, gd 1919 (by decide +kernel) rfl, ⟨by decide, by decide⟩, by decide +kernel⟩
theorem mw_X12_isState : MW yX12_isState cX12_isState 2 (some .boolean) 1 := ⟨gd 135 (by decide +kernel) rfl, gd 1867 (by decide +kernel) rfl, ⟨by decide, by decide⟩, by decide +kernel⟩
theorem mw_X12_isTime : MW yX12_isTime cX12_isTime 2 (some .boolean) 1 := ⟨gd 135 (by decide +kernel) rfl, gd 1935 (by decide +kernel) rfl, ⟨by decide, by decide⟩, by decide +kernel⟩
theorem mw_X12_isWeight : MW yX12_isWeight cX12_isWeight 2 (some .boolean) 2 := ⟨gd 135 (by decide +kernel) rfl, gd 2216 (by decide +kernel) rfl, ⟨by decide, by decide⟩, by decide +kernel⟩
theorem mw_X12_isWord : MW yX12_isWord cX12_isWord 3 (some .boolean) 1 := ⟨gd 135 (by decide +kernel) rfl, gd 1752 (by decide +kernel) rfl, ⟨by decide, by decide⟩, by decide +kernel⟩
theorem mw_X12_keeps : MW yX12_keeps cX12_keeps 3 none 1 := ⟨gd 135 (by decide +kernel) rfl, gd 2096 (by decide +kernel) rfl, ⟨by decide, by decide⟩, by decide +kernel⟩
theorem mw_X12_keepsAll : MW yX12_keepsAll cX12_keepsAll 2 none 0 := ⟨gd 135 (by decide +kernel) rfl, gd 2220 (by decide +kernel) rfl, ⟨by decide, by decide⟩, by decide +kernel⟩
theorem mw_X12_keepsBest : MW yX12_keepsBest cX12_keepsBest 4 none 1 := ⟨gd 135 (by decide +kernel) rfl, gd 2113 (by decide +kernel) rfl, ⟨by decide, by decide⟩, by decide +kernel⟩
theorem mw_X12_lays : MW yX12_lays cX12_lays 5 none 1 := ⟨gd 135 (by decide +kernel) rfl, gd 1943 (by decide +kernel) rfl, ⟨by decide, by decide⟩, by decide +kernel⟩
theorem mw_X12_laysAhead : MW yX12_laysAhead cX12_laysAhead 8 (some .long) 0 := ⟨gd 135 (by decide +kernel) rfl, gd 2055 (by decide +kernel) rfl, ⟨by decide, by decide⟩, by decide +kernel⟩
theorem mw_X12_laysMass : MW yX12_laysMass cX12_laysMass 3 none 1 := ⟨gd 135 (by decide +kernel) rfl, gd 2031 (by decide +kernel) rfl, ⟨by decide, by decide⟩, by decide +kernel⟩
theorem mw_X12_laysWorths : MW yX12_laysWorths cX12_laysWorths 4 none 1 := ⟨gd 135 (by decide +kernel) rfl, gd 2068 (by decide +kernel) rfl, ⟨by decide, by decide⟩, by decide +kernel⟩
theorem mw_X12_leftOf : MW yX12_leftOf cX12_leftOf 2 (some .long) 1 := ⟨gd 135 (by decide +kernel) rfl, gd 2003 (by decide +kernel) rfl, ⟨by decide, by decide⟩, by decide +kernel⟩
theorem mw_X12_line : MW yX12_line cX12_line 1 none 0 := ⟨gd 135 (by decide +kernel) rfl, gd 1785 (by decide +kernel) rfl, ⟨by decide, by decide⟩, by decide +kernel⟩
theorem mw_X12_massOf : MW yX12_massOf cX12_massOf 5 (some .long) 1 := ⟨gd 135 (by decide +kernel) rfl, gd 2043 (by decide +kernel) rfl, ⟨by decide, by decide⟩, by decide +kernel⟩
theorem mw_X12_noAction : MW yX12_noAction cX12_noAction 3 (some .boolean) 2 := ⟨gd 135 (by decide +kernel) rfl, gd 1875 (by decide +kernel) rfl, ⟨by decide, by decide⟩, by decide +kernel⟩
theorem mw_X12_noBudget : MW yX12_noBudget cX12_noBudget 2 (some .boolean) 1 := ⟨gd 135 (by decide +kernel) rfl, gd 1927 (by decide +kernel) rfl, ⟨by decide, by decide⟩, by decide +kernel⟩
theorem mw_X12_noChain : MW yX12_noChain cX12_noChain 1 (some .boolean) 0 := ⟨gd 135 (by decide +kernel) rfl, gd 1855 (by decide +kernel) rfl, ⟨by decide, by decide⟩, by decide +kernel⟩
theorem mw_X12_noState : MW yX12_noState cX12_noState 2 (some .boolean) 1 := ⟨gd 135 (by decide +kernel) rfl, gd 1863 (by decide +kernel) rfl, ⟨by decide, by decide⟩, by decide +kernel⟩
theorem mw_X12_noWalk : MW yX12_noWalk cX12_noWalk 1 (some .boolean) 0 := ⟨gd 135 (by decide +kernel) rfl, gd 2155 (by decide +kernel) rfl, ⟨by decide, by decide⟩, by decide +kernel⟩
theorem mw_X12_numberHere : MW yX12_numberHere cX12_numberHere 3 (some .int) 2 := ⟨gd 135 (by decide +kernel) rfl, gd 1771 (by decide +kernel) rfl, ⟨by decide, by decide⟩, by decide +kernel⟩
theorem mw_X12_ofRun : MW yX12_ofRun cX12_ofRun 10 (some .long) 1 := ⟨gd 135 (by decide +kernel) rfl, gd 1991 (by decide +kernel) rfl, ⟨by decide, by decide⟩, by decide +kernel⟩
theorem mw_X12_ofWalk : MW yX12_ofWalk cX12_ofWalk 4 (some .int) 1 := ⟨gd 135 (by decide +kernel) rfl, gd 2167 (by decide +kernel) rfl, ⟨by decide, by decide⟩, by decide +kernel⟩
theorem mw_X12_passes : MW yX12_passes cX12_passes 3 (some .boolean) 1 := ⟨gd 135 (by decide +kernel) rfl, gd 1748 (by decide +kernel) rfl, ⟨by decide, by decide⟩, by decide +kernel⟩
theorem mw_X12_percentBy : MW yX12_percentBy cX12_percentBy 4 (some .int) 3 := ⟨gd 135 (by decide +kernel) rfl, gd 1903 (by decide +kernel) rfl, ⟨by decide, by decide⟩, by decide +kernel⟩
theorem mw_X12_permitted : MW yX12_permitted cX12_permitted 4 (some .int) 1 := ⟨gd 135 (by decide +kernel) rfl, gd 2232 (by decide +kernel) rfl, ⟨by decide, by decide⟩, by decide +kernel⟩
theorem mw_X12_power : MW yX12_power cX12_power 5 (some .long) 2 := ⟨gd 135 (by decide +kernel) rfl, gd 1970 (by decide +kernel) rfl, ⟨by decide, by decide⟩, by decide +kernel⟩
theorem mw_X12_puts : MW yX12_puts cX12_puts 3 none 2 := ⟨gd 135 (by decide +kernel) rfl, gd 1779 (by decide +kernel) rfl, ⟨by decide, by decide⟩, by decide +kernel⟩
theorem mw_X12_reachAt : MW yX12_reachAt cX12_reachAt 4 (some .int) 1 := ⟨gd 135 (by decide +kernel) rfl, gd 1939 (by decide +kernel) rfl, ⟨by decide, by decide⟩, by decide +kernel⟩
theorem mw_X12_reads : MW yX12_reads cX12_reads 3 none 1 := ⟨gd 135 (by decide +kernel) rfl, gd 1725 (by decide +kernel) rfl, ⟨by decide, by decide⟩, by decide +kernel⟩
theorem mw_X12_refuse : MW yX12_refuse cX12_refuse 3 (some .boolean) 2 := ⟨gd 135 (by decide +kernel) rfl, gd 1721 (by decide +kernel) rfl, ⟨by decide, by decide⟩, by decide +kernel⟩
theorem mw_X12_ruleLine : MW yX12_ruleLine cX12_ruleLine 5 none 0 := ⟨gd 135 (by decide +kernel) rfl, gd 1818 (by decide +kernel) rfl, ⟨by decide, by decide⟩, by decide +kernel⟩
theorem mw_X12_says : MW yX12_says cX12_says 2 none 1 := ⟨gd 135 (by decide +kernel) rfl, gd 2200 (by decide +kernel) rfl, ⟨by decide, by decide⟩, by decide +kernel⟩
theorem mw_X12_saysNumber : MW yX12_saysNumber cX12_saysNumber 3 none 1 := ⟨gd 135 (by decide +kernel) rfl, gd 2204 (by decide +kernel) rfl, ⟨by decide, by decide⟩, by decide +kernel⟩
theorem mw_X12_seen : MW yX12_seen cX12_seen 2 (some .int) 1 := ⟨gd 135 (by decide +kernel) rfl, gd 1733 (by decide +kernel) rfl, ⟨by decide, by decide⟩, by decide +kernel⟩
theorem mw_X12_startLine : MW yX12_startLine cX12_startLine 2 none 0 := ⟨gd 135 (by decide +kernel) rfl, gd 1823 (by decide +kernel) rfl, ⟨by decide, by decide⟩, by decide +kernel⟩
theorem mw_X12_starts : MW yX12_starts cX12_starts 4 (some .int) 0 := ⟨gd 135 (by decide +kernel) rfl, gd 1827 (by decide +kernel) rfl, ⟨by decide, by decide⟩, by decide +kernel⟩
theorem mw_X12_stateHere : MW yX12_stateHere cX12_stateHere 1 (some .int) 0 := ⟨gd 135 (by decide +kernel) rfl, gd 1799 (by decide +kernel) rfl, ⟨by decide, by decide⟩, by decide +kernel⟩
theorem mw_X12_stepOf : MW yX12_stepOf cX12_stepOf 5 (some .int) 2 := ⟨gd 135 (by decide +kernel) rfl, gd 1947 (by decide +kernel) rfl, ⟨by decide, by decide⟩, by decide +kernel⟩
theorem mw_X12_stepsMass : MW yX12_stepsMass cX12_stepsMass 4 none 1 := ⟨gd 135 (by decide +kernel) rfl, gd 2035 (by decide +kernel) rfl, ⟨by decide, by decide⟩, by decide +kernel⟩
theorem mw_X12_takes : MW yX12_takes cX12_takes 4 (some .int) 2 := ⟨gd 135 (by decide +kernel) rfl, gd 1767 (by decide +kernel) rfl, ⟨by decide, by decide⟩, by decide +kernel⟩
theorem mw_X12_takesPure : MW yX12_takesPure cX12_takesPure 2 none 0 := ⟨gd 135 (by decide +kernel) rfl, gd 2101 (by decide +kernel) rfl, ⟨by decide, by decide⟩, by decide +kernel⟩
theorem mw_X12_takes_ : MW yX12_takes_ cX12_takes_ 4 (some .int) 3 := ⟨gd 135 (by decide +kernel) rfl, gd 1763 (by decide +kernel) rfl, ⟨by decide, by decide⟩, by decide +kernel⟩
theorem mw_X12_toRead : MW yX12_toRead cX12_toRead 6 (some .int) 2 := ⟨gd 135 (by decide +kernel) rfl, gd 1809 (by decide +kernel) rfl, ⟨by decide, by decide⟩, by decide +kernel⟩
theorem mw_X12_together : MW yX12_together cX12_together 5 (some .long) 1 := ⟨gd 135 (by decide +kernel) rfl, gd 1967 (by decide +kernel) rfl, ⟨by decide, by decide⟩, by decide +kernel⟩
theorem mw_X12_token : MW yX12_token cX12_token 3 none 0 := ⟨gd 135 (by decide +kernel) rfl, gd 1729 (by decide +kernel) rfl, ⟨by decide, by decide⟩, by decide +kernel⟩
theorem mw_X12_told : MW yX12_told cX12_told 2 (some .int) 1 := ⟨gd 135 (by decide +kernel) rfl, gd 1835 (by decide +kernel) rfl, ⟨by decide, by decide⟩, by decide +kernel⟩
theorem mw_X12_turns : MW yX12_turns cX12_turns 2 (some .boolean) 0 := ⟨gd 135 (by decide +kernel) rfl, gd 2117 (by decide +kernel) rfl, ⟨by decide, by decide⟩, by decide +kernel⟩
theorem mw_X12_unitNow : MW yX12_unitNow cX12_unitNow 1 (some .long) 0 := ⟨gd 135 (by decide +kernel) rfl, gd 1982 (by decide +kernel) rfl, ⟨by decide, by decide⟩, by decide +kernel⟩
theorem mw_X12_usesBy : MW yX12_usesBy cX12_usesBy 4 (some .int) 3 := ⟨gd 135 (by decide +kernel) rfl, gd 1895 (by decide +kernel) rfl, ⟨by decide, by decide⟩, by decide +kernel⟩
theorem mw_X12_usesRead : MW yX12_usesRead cX12_usesRead 5 none 1 := ⟨gd 135 (by decide +kernel) rfl, gd 1804 (by decide +kernel) rfl, ⟨by decide, by decide⟩, by decide +kernel⟩
theorem mw_X12_walks : MW yX12_walks cX12_walks 2 none 0 := ⟨gd 135 (by decide +kernel) rfl, gd 2180 (by decide +kernel) rfl, ⟨by decide, by decide⟩, by decide +kernel⟩
theorem mw_X12_weightOf : MW yX12_weightOf cX12_weightOf 3 (some .int) 2 := ⟨gd 135 (by decide +kernel) rfl, gd 1911 (by decide +kernel) rfl, ⟨by decide, by decide⟩, by decide +kernel⟩
theorem mw_X12_worthOf : MW yX12_worthOf cX12_worthOf 7 (some .long) 3 := ⟨gd 135 (by decide +kernel) rfl, gd 2076 (by decide +kernel) rfl, ⟨by decide, by decide⟩, by decide +kernel⟩
theorem mw_X12_worthiest : MW yX12_worthiest cX12_worthiest 5 (some .int) 2 := ⟨gd 135 (by decide +kernel) rfl, gd 2072 (by decide +kernel) rfl, ⟨by decide, by decide⟩, by decide +kernel⟩
theorem mw_X1_addParts : MW yX1_addParts cX1_addParts 5 none 3 := ⟨gd 127 (by decide +kernel) rfl, gd 1017 (by decide +kernel) rfl, ⟨by decide, by decide⟩, by decide +kernel⟩
theorem mw_X1_at : MW yX1_at cX1_at 3 (some .long) 2 := ⟨gd 127 (by decide +kernel) rfl, gd 1030 (by decide +kernel) rfl, ⟨by decide, by decide⟩, by decide +kernel⟩
theorem mw_X1_chanceOver : MW yX1_chanceOver cX1_chanceOver 4 (some .long) 3 := ⟨gd 127 (by decide +kernel) rfl, gd 1224 (by decide +kernel) rfl, ⟨by decide, by decide⟩, by decide +kernel⟩
theorem mw_X1_fillChances : MW yX1_fillChances cX1_fillChances 6 none 0 := ⟨gd 127 (by decide +kernel) rfl, gd 1220 (by decide +kernel) rfl, ⟨by decide, by decide⟩, by decide +kernel⟩
theorem mw_X1_fillParts : MW yX1_fillParts cX1_fillParts 5 none 1 := ⟨gd 127 (by decide +kernel) rfl, gd 1009 (by decide +kernel) rfl, ⟨by decide, by decide⟩, by decide +kernel⟩
theorem mw_X1_follow : MW yX1_follow cX1_follow 5 none 3 := ⟨gd 127 (by decide +kernel) rfl, gd 1005 (by decide +kernel) rfl, ⟨by decide, by decide⟩, by decide +kernel⟩
theorem mw_X1_gainOf : MW yX1_gainOf cX1_gainOf 9 (some .long) 1 := ⟨gd 127 (by decide +kernel) rfl, gd 1106 (by decide +kernel) rfl, ⟨by decide, by decide⟩, by decide +kernel⟩
theorem mw_X1_greatestChance : MW yX1_greatestChance cX1_greatestChance 1 (some .long) 0 := ⟨gd 127 (by decide +kernel) rfl, gd 1216 (by decide +kernel) rfl, ⟨by decide, by decide⟩, by decide +kernel⟩
theorem mw_X1_hitOf : MW yX1_hitOf cX1_hitOf 6 (some .long) 1 := ⟨gd 127 (by decide +kernel) rfl, gd 1083 (by decide +kernel) rfl, ⟨by decide, by decide⟩, by decide +kernel⟩
theorem mw_X1_likeliestNext : MW yX1_likeliestNext cX1_likeliestNext 4 (some .int) 2 := ⟨gd 127 (by decide +kernel) rfl, gd 1242 (by decide +kernel) rfl, ⟨by decide, by decide⟩, by decide +kernel⟩
theorem mw_X1_nextStates : MW yX1_nextStates cX1_nextStates 4 (some .int) 1 := ⟨gd 127 (by decide +kernel) rfl, gd 1041 (by decide +kernel) rfl, ⟨by decide, by decide⟩, by decide +kernel⟩
theorem mw_X1_partsTo : MW yX1_partsTo cX1_partsTo 3 (some .long) 2 := ⟨gd 127 (by decide +kernel) rfl, gd 1026 (by decide +kernel) rfl, ⟨by decide, by decide⟩, by decide +kernel⟩
theorem mw_X1_rankOf : MW yX1_rankOf cX1_rankOf 8 (some .int) 1 := ⟨gd 127 (by decide +kernel) rfl, gd 1197 (by decide +kernel) rfl, ⟨by decide, by decide⟩, by decide +kernel⟩
theorem mw_X1_spread : MW yX1_spread cX1_spread 7 none 2 := ⟨gd 127 (by decide +kernel) rfl, gd 1022 (by decide +kernel) rfl, ⟨by decide, by decide⟩, by decide +kernel⟩
theorem mw_X1_stateOfLikeliest : MW yX1_stateOfLikeliest cX1_stateOfLikeliest 4 (some .int) 1 := ⟨gd 127 (by decide +kernel) rfl, gd 1238 (by decide +kernel) rfl, ⟨by decide, by decide⟩, by decide +kernel⟩
theorem mw_X1_sumOf : MW yX1_sumOf cX1_sumOf 6 (some .long) 2 := ⟨gd 127 (by decide +kernel) rfl, gd 1070 (by decide +kernel) rfl, ⟨by decide, by decide⟩, by decide +kernel⟩
theorem mw_X1_usedOf : MW yX1_usedOf cX1_usedOf 10 (some .long) 2 := ⟨gd 127 (by decide +kernel) rfl, gd 1117 (by decide +kernel) rfl, ⟨by decide, by decide⟩, by decide +kernel⟩
theorem mw_X1_visitsOf : MW yX1_visitsOf cX1_visitsOf 2 (some .long) 1 := ⟨gd 127 (by decide +kernel) rfl, gd 1066 (by decide +kernel) rfl, ⟨by decide, by decide⟩, by decide +kernel⟩
theorem mw_X2_advance : MW yX2_advance cX2_advance 1 none 0 := ⟨gd 124 (by decide +kernel) rfl, gd 690 (by decide +kernel) rfl, ⟨by decide, by decide⟩, by decide +kernel⟩
theorem mw_X2_begin : MW yX2_begin cX2_begin 2 none 1 := ⟨gd 124 (by decide +kernel) rfl, gd 683 (by decide +kernel) rfl, ⟨by decide, by decide⟩, by decide +kernel⟩
theorem mw_X2_hasRoom : MW yX2_hasRoom cX2_hasRoom 2 (some .boolean) 1 := ⟨gd 124 (by decide +kernel) rfl, gd 549 (by decide +kernel) rfl, ⟨by decide, by decide⟩, by decide +kernel⟩
theorem mw_X2_isDigit : MW yX2_isDigit cX2_isDigit 1 (some .boolean) 1 := ⟨gd 124 (by decide +kernel) rfl, gd 696 (by decide +kernel) rfl, ⟨by decide, by decide⟩, by decide +kernel⟩
theorem mw_X2_isLetter : MW yX2_isLetter cX2_isLetter 1 (some .boolean) 1 := ⟨gd 124 (by decide +kernel) rfl, gd 693 (by decide +kernel) rfl, ⟨by decide, by decide⟩, by decide +kernel⟩
theorem mw_X2_isWord : MW yX2_isWord cX2_isWord 3 (some .boolean) 1 := ⟨gd 124 (by decide +kernel) rfl, gd 709 (by decide +kernel) rfl, ⟨by decide, by decide⟩, by decide +kernel⟩
theorem mw_X2_put : MW yX2_put cX2_put 3 none 1 := ⟨gd 124 (by decide +kernel) rfl, gd 553 (by decide +kernel) rfl, ⟨by decide, by decide⟩, by decide +kernel⟩
theorem mw_X3_dropOldest : MW yX3_dropOldest cX3_dropOldest 3 none 0 := ⟨gd 129 (by decide +kernel) rfl, gd 1496 (by decide +kernel) rfl, ⟨by decide, by decide⟩, by decide +kernel⟩
theorem mw_X3_forget : MW yX3_forget cX3_forget 1 none 0 := ⟨gd 129 (by decide +kernel) rfl, gd 876 (by decide +kernel) rfl, ⟨by decide, by decide⟩, by decide +kernel⟩
theorem mw_X3_giveBack : MW yX3_giveBack cX3_giveBack 2 none 1 := ⟨gd 129 (by decide +kernel) rfl, gd 1555 (by decide +kernel) rfl, ⟨by decide, by decide⟩, by decide +kernel⟩
theorem mw_X3_isFull : MW yX3_isFull cX3_isFull 2 (some .boolean) 1 := ⟨gd 129 (by decide +kernel) rfl, gd 1581 (by decide +kernel) rfl, ⟨by decide, by decide⟩, by decide +kernel⟩
theorem mw_X3_keep : MW yX3_keep cX3_keep 2 none 1 := ⟨gd 129 (by decide +kernel) rfl, gd 1492 (by decide +kernel) rfl, ⟨by decide, by decide⟩, by decide +kernel⟩
theorem mw_X3_put : MW yX3_put cX3_put 3 none 2 := ⟨gd 129 (by decide +kernel) rfl, gd 1570 (by decide +kernel) rfl, ⟨by decide, by decide⟩, by decide +kernel⟩
theorem mw_X3_take : MW yX3_take cX3_take 3 none 2 := ⟨gd 129 (by decide +kernel) rfl, gd 1586 (by decide +kernel) rfl, ⟨by decide, by decide⟩, by decide +kernel⟩
theorem mw_X4_checkStates : MW yX4_checkStates cX4_checkStates 2 (some .boolean) 0 := ⟨gd 128 (by decide +kernel) rfl, gd 840 (by decide +kernel) rfl, ⟨by decide, by decide⟩, by decide +kernel⟩
theorem mw_X4_endLine : MW yX4_endLine cX4_endLine 2 (some .boolean) 1 := ⟨gd 128 (by decide +kernel) rfl, gd 822 (by decide +kernel) rfl, ⟨by decide, by decide⟩, by decide +kernel⟩
theorem mw_X4_fail : MW yX4_fail cX4_fail 2 (some .boolean) 1 := ⟨gd 128 (by decide +kernel) rfl, gd 761 (by decide +kernel) rfl, ⟨by decide, by decide⟩, by decide +kernel⟩
theorem mw_X4_parse : MW yX4_parse cX4_parse 3 (some .boolean) 1 := ⟨gd 128 (by decide +kernel) rfl, gd 661 (by decide +kernel) rfl, ⟨by decide, by decide⟩, by decide +kernel⟩
theorem mw_X4_parseAct : MW yX4_parseAct cX4_parseAct 3 (some .boolean) 0 := ⟨gd 128 (by decide +kernel) rfl, gd 787 (by decide +kernel) rfl, ⟨by decide, by decide⟩, by decide +kernel⟩
theorem mw_X4_parseBudget : MW yX4_parseBudget cX4_parseBudget 1 (some .boolean) 0 := ⟨gd 128 (by decide +kernel) rfl, gd 782 (by decide +kernel) rfl, ⟨by decide, by decide⟩, by decide +kernel⟩
theorem mw_X4_parseGain : MW yX4_parseGain cX4_parseGain 3 (some .boolean) 1 := ⟨gd 128 (by decide +kernel) rfl, gd 796 (by decide +kernel) rfl, ⟨by decide, by decide⟩, by decide +kernel⟩
theorem mw_X4_parseHead : MW yX4_parseHead cX4_parseHead 1 (some .boolean) 0 := ⟨gd 128 (by decide +kernel) rfl, gd 700 (by decide +kernel) rfl, ⟨by decide, by decide⟩, by decide +kernel⟩
theorem mw_X4_parseLine : MW yX4_parseLine cX4_parseLine 1 (some .boolean) 0 := ⟨gd 128 (by decide +kernel) rfl, gd 777 (by decide +kernel) rfl, ⟨by decide, by decide⟩, by decide +kernel⟩
theorem mw_X4_parsePercents : MW yX4_parsePercents cX4_parsePercents 5 (some .boolean) 1 := ⟨gd 128 (by decide +kernel) rfl, gd 809 (by decide +kernel) rfl, ⟨by decide, by decide⟩, by decide +kernel⟩
theorem mw_X4_parseRule : MW yX4_parseRule cX4_parseRule 2 (some .boolean) 0 := ⟨gd 128 (by decide +kernel) rfl, gd 827 (by decide +kernel) rfl, ⟨by decide, by decide⟩, by decide +kernel⟩
theorem mw_X4_parseStart : MW yX4_parseStart cX4_parseStart 1 (some .boolean) 0 := ⟨gd 128 (by decide +kernel) rfl, gd 835 (by decide +kernel) rfl, ⟨by decide, by decide⟩, by decide +kernel⟩
theorem mw_X4_parseUses : MW yX4_parseUses cX4_parseUses 4 (some .boolean) 1 := ⟨gd 128 (by decide +kernel) rfl, gd 800 (by decide +kernel) rfl, ⟨by decide, by decide⟩, by decide +kernel⟩
theorem mw_X4_parseWeights : MW yX4_parseWeights cX4_parseWeights 4 (some .boolean) 1 := ⟨gd 128 (by decide +kernel) rfl, gd 831 (by decide +kernel) rfl, ⟨by decide, by decide⟩, by decide +kernel⟩
theorem mw_X4_seeNumber : MW yX4_seeNumber cX4_seeNumber 3 (some .boolean) 2 := ⟨gd 128 (by decide +kernel) rfl, gd 771 (by decide +kernel) rfl, ⟨by decide, by decide⟩, by decide +kernel⟩
theorem mw_X4_seeState : MW yX4_seeState cX4_seeState 1 (some .boolean) 0 := ⟨gd 128 (by decide +kernel) rfl, gd 791 (by decide +kernel) rfl, ⟨by decide, by decide⟩, by decide +kernel⟩
theorem mw_X4_takeNumber : MW yX4_takeNumber cX4_takeNumber 3 (some .boolean) 2 := ⟨gd 128 (by decide +kernel) rfl, gd 767 (by decide +kernel) rfl, ⟨by decide, by decide⟩, by decide +kernel⟩
theorem mw_X4_takeWord : MW yX4_takeWord cX4_takeWord 2 (some .boolean) 1 := ⟨gd 128 (by decide +kernel) rfl, gd 705 (by decide +kernel) rfl, ⟨by decide, by decide⟩, by decide +kernel⟩
theorem mw_X5_begin : MW yX5_begin cX5_begin 1 (some .boolean) 0 := ⟨gd 131 (by decide +kernel) rfl, gd 1300 (by decide +kernel) rfl, ⟨by decide, by decide⟩, by decide +kernel⟩
theorem mw_X5_countHolding : MW yX5_countHolding cX5_countHolding 4 (some .int) 0 := ⟨gd 131 (by decide +kernel) rfl, gd 1345 (by decide +kernel) rfl, ⟨by decide, by decide⟩, by decide +kernel⟩
theorem mw_X5_fill : MW yX5_fill cX5_fill 4 none 0 := ⟨gd 131 (by decide +kernel) rfl, gd 1296 (by decide +kernel) rfl, ⟨by decide, by decide⟩, by decide +kernel⟩
theorem mw_X5_findBest : MW yX5_findBest cX5_findBest 7 (some .long) 2 := ⟨gd 131 (by decide +kernel) rfl, gd 1292 (by decide +kernel) rfl, ⟨by decide, by decide⟩, by decide +kernel⟩
theorem mw_X5_forget : MW yX5_forget cX5_forget 1 none 0 := ⟨gd 131 (by decide +kernel) rfl, gd 880 (by decide +kernel) rfl, ⟨by decide, by decide⟩, by decide +kernel⟩
theorem mw_X5_holds : MW yX5_holds cX5_holds 7 (some .boolean) 2 := ⟨gd 131 (by decide +kernel) rfl, gd 1324 (by decide +kernel) rfl, ⟨by decide, by decide⟩, by decide +kernel⟩
theorem mw_X5_isPermittedSet : MW yX5_isPermittedSet cX5_isPermittedSet 2 (some .boolean) 0 := ⟨gd 131 (by decide +kernel) rfl, gd 1319 (by decide +kernel) rfl, ⟨by decide, by decide⟩, by decide +kernel⟩
theorem mw_X5_limitFor : MW yX5_limitFor cX5_limitFor 6 (some .int) 1 := ⟨gd 131 (by decide +kernel) rfl, gd 1367 (by decide +kernel) rfl, ⟨by decide, by decide⟩, by decide +kernel⟩
theorem mw_X5_moveOn : MW yX5_moveOn cX5_moveOn 2 (some .boolean) 0 := ⟨gd 131 (by decide +kernel) rfl, gd 1314 (by decide +kernel) rfl, ⟨by decide, by decide⟩, by decide +kernel⟩
theorem mw_X5_smallestLimit : MW yX5_smallestLimit cX5_smallestLimit 6 (some .int) 1 := ⟨gd 131 (by decide +kernel) rfl, gd 1363 (by decide +kernel) rfl, ⟨by decide, by decide⟩, by decide +kernel⟩
theorem mw_X5_writeWeights : MW yX5_writeWeights cX5_writeWeights 4 none 2 := ⟨gd 131 (by decide +kernel) rfl, gd 1305 (by decide +kernel) rfl, ⟨by decide, by decide⟩, by decide +kernel⟩
theorem mw_X6_addByte : MW yX6_addByte cX6_addByte 2 none 1 := ⟨gd 134 (by decide +kernel) rfl, gd 1467 (by decide +kernel) rfl, ⟨by decide, by decide⟩, by decide +kernel⟩
theorem mw_X6_addNumber : MW yX6_addNumber cX6_addNumber 7 none 1 := ⟨gd 134 (by decide +kernel) rfl, gd 1471 (by decide +kernel) rfl, ⟨by decide, by decide⟩, by decide +kernel⟩
theorem mw_X6_addPart : MW yX6_addPart cX6_addPart 4 none 2 := ⟨gd 134 (by decide +kernel) rfl, gd 1463 (by decide +kernel) rfl, ⟨by decide, by decide⟩, by decide +kernel⟩
theorem mw_X7_clear : MW yX7_clear cX7_clear 2 none 0 := ⟨gd 126 (by decide +kernel) rfl, gd 672 (by decide +kernel) rfl, ⟨by decide, by decide⟩, by decide +kernel⟩
theorem mw_X7_copyFrom : MW yX7_copyFrom cX7_copyFrom 2 none 1 := ⟨gd 126 (by decide +kernel) rfl, gd 871 (by decide +kernel) rfl, ⟨by decide, by decide⟩, by decide +kernel⟩
theorem mw_X7_permits : MW yX7_permits cX7_permits 3 (some .boolean) 2 := ⟨gd 126 (by decide +kernel) rfl, gd 975 (by decide +kernel) rfl, ⟨by decide, by decide⟩, by decide +kernel⟩
theorem mw_X7_walkRow : MW yX7_walkRow cX7_walkRow 2 (some .int) 1 := ⟨gd 126 (by decide +kernel) rfl, gd 1415 (by decide +kernel) rfl, ⟨by decide, by decide⟩, by decide +kernel⟩
theorem mw_X8_chanceWithin : MW yX8_chanceWithin cX8_chanceWithin 7 (some .long) 2 := ⟨gd 130 (by decide +kernel) rfl, gd 1147 (by decide +kernel) rfl, ⟨by decide, by decide⟩, by decide +kernel⟩
theorem mw_X8_greatest : MW yX8_greatest cX8_greatest 5 (some .int) 2 := ⟨gd 130 (by decide +kernel) rfl, gd 1171 (by decide +kernel) rfl, ⟨by decide, by decide⟩, by decide +kernel⟩
theorem mw_X8_greatestFrom : MW yX8_greatestFrom cX8_greatestFrom 10 (some .int) 4 := ⟨gd 130 (by decide +kernel) rfl, gd 1176 (by decide +kernel) rfl, ⟨by decide, by decide⟩, by decide +kernel⟩
theorem mw_X8_spendFrom : MW yX8_spendFrom cX8_spendFrom 11 none 4 := ⟨gd 130 (by decide +kernel) rfl, gd 1153 (by decide +kernel) rfl, ⟨by decide, by decide⟩, by decide +kernel⟩
theorem mw_X8_spendTo : MW yX8_spendTo cX8_spendTo 6 none 3 := ⟨gd 130 (by decide +kernel) rfl, gd 1159 (by decide +kernel) rfl, ⟨by decide, by decide⟩, by decide +kernel⟩
theorem mw_X9_fill : MW yX9_fill cX9_fill 4 none 0 := ⟨gd 132 (by decide +kernel) rfl, gd 1253 (by decide +kernel) rfl, ⟨by decide, by decide⟩, by decide +kernel⟩
theorem mw_X9_firstAction : MW yX9_firstAction cX9_firstAction 9 (some .int) 2 := ⟨gd 132 (by decide +kernel) rfl, gd 1258 (by decide +kernel) rfl, ⟨by decide, by decide⟩, by decide +kernel⟩
theorem mw_X9_of : MW yX9_of cX9_of 3 (some .long) 2 := ⟨gd 132 (by decide +kernel) rfl, gd 1270 (by decide +kernel) rfl, ⟨by decide, by decide⟩, by decide +kernel⟩
theorem mw_X9_valueOver : MW yX9_valueOver cX9_valueOver 6 (some .long) 2 := ⟨gd 132 (by decide +kernel) rfl, gd 1264 (by decide +kernel) rfl, ⟨by decide, by decide⟩, by decide +kernel⟩
theorem mi_X0_amountOf : (Gd (.instanceMethod yX0_amountOf) ∧ Gd (.selects yX0_amountOf.cls yX0_amountOf yX0_amountOf)) := ⟨gd 803 (by decide +kernel) rfl, gd 804 (by decide +kernel) rfl⟩
theorem mi_X0_clear : (Gd (.instanceMethod yX0_clear) ∧ Gd (.selects yX0_clear.cls yX0_clear yX0_clear)) := ⟨gd 663 (by decide +kernel) rfl, gd 664 (by decide +kernel) rfl⟩
theorem mi_X0_copyFrom : (Gd (.instanceMethod yX0_copyFrom) ∧ Gd (.selects yX0_copyFrom.cls yX0_copyFrom yX0_copyFrom)) := ⟨gd 858 (by decide +kernel) rfl, gd 859 (by decide +kernel) rfl⟩
theorem mi_X0_countActions : (Gd (.instanceMethod yX0_countActions) ∧ Gd (.selects yX0_countActions.cls yX0_countActions yX0_countActions)) := ⟨gd 882 (by decide +kernel) rfl, gd 883 (by decide +kernel) rfl⟩
theorem mi_X0_percentTo : (Gd (.instanceMethod yX0_percentTo) ∧ Gd (.selects yX0_percentTo.cls yX0_percentTo yX0_percentTo)) := ⟨gd 812 (by decide +kernel) rfl, gd 813 (by decide +kernel) rfl⟩
theorem mi_X0_tell : (Gd (.instanceMethod yX0_tell) ∧ Gd (.selects yX0_tell.cls yX0_tell yX0_tell)) := ⟨gd 816 (by decide +kernel) rfl, gd 817 (by decide +kernel) rfl⟩
theorem mi_X10_draw : (Gd (.instanceMethod yX10_draw) ∧ Gd (.selects yX10_draw.cls yX10_draw yX10_draw)) := ⟨gd 1441 (by decide +kernel) rfl, gd 44 (by decide +kernel) rfl⟩
theorem mi_X10_drawAction : (Gd (.instanceMethod yX10_drawAction) ∧ Gd (.selects yX10_drawAction.cls yX10_drawAction yX10_drawAction)) := ⟨gd 1445 (by decide +kernel) rfl, gd 45 (by decide +kernel) rfl⟩
theorem mi_X10_drawNext : (Gd (.instanceMethod yX10_drawNext) ∧ Gd (.selects yX10_drawNext.cls yX10_drawNext yX10_drawNext)) := ⟨gd 1450 (by decide +kernel) rfl, gd 46 (by decide +kernel) rfl⟩
theorem mi_X10_gainOfNext : (Gd (.instanceMethod yX10_gainOfNext) ∧ Gd (.selects yX10_gainOfNext.cls yX10_gainOfNext yX10_gainOfNext)) := ⟨gd 1432 (by decide +kernel) rfl, gd 1433 (by decide +kernel) rfl⟩
theorem mi_X10_step : (Gd (.instanceMethod yX10_step) ∧ Gd (.selects yX10_step.cls yX10_step yX10_step)) := ⟨gd 1436 (by decide +kernel) rfl, gd 1437 (by decide +kernel) rfl⟩
theorem mi_X11_brokenWith : (Gd (.instanceMethod yX11_brokenWith) ∧ Gd (.selects yX11_brokenWith.cls yX11_brokenWith yX11_brokenWith)) := ⟨gd 1135 (by decide +kernel) rfl, gd 29 (by decide +kernel) rfl⟩
theorem mi_X11_followRules : (Gd (.instanceMethod yX11_followRules) ∧ Gd (.selects yX11_followRules.cls yX11_followRules yX11_followRules)) := ⟨gd 1000 (by decide +kernel) rfl, gd 23 (by decide +kernel) rfl⟩
theorem mi_X11_needAction : (Gd (.instanceMethod yX11_needAction) ∧ Gd (.selects yX11_needAction.cls yX11_needAction yX11_needAction)) := ⟨gd 934 (by decide +kernel) rfl, gd 20 (by decide +kernel) rfl⟩
theorem mi_X11_needBudget : (Gd (.instanceMethod yX11_needBudget) ∧ Gd (.selects yX11_needBudget.cls yX11_needBudget yX11_needBudget)) := ⟨gd 946 (by decide +kernel) rfl, gd 21 (by decide +kernel) rfl⟩
theorem mi_X11_needChain : (Gd (.instanceMethod yX11_needChain) ∧ Gd (.selects yX11_needChain.cls yX11_needChain yX11_needChain)) := ⟨gd 895 (by decide +kernel) rfl, gd 18 (by decide +kernel) rfl⟩
theorem mi_X11_needState : (Gd (.instanceMethod yX11_needState) ∧ Gd (.selects yX11_needState.cls yX11_needState yX11_needState)) := ⟨gd 922 (by decide +kernel) rfl, gd 19 (by decide +kernel) rfl⟩
theorem mi_X11_needTime : (Gd (.instanceMethod yX11_needTime) ∧ Gd (.selects yX11_needTime.cls yX11_needTime yX11_needTime)) := ⟨gd 992 (by decide +kernel) rfl, gd 22 (by decide +kernel) rfl⟩
theorem mi_X11_needWalk : (Gd (.instanceMethod yX11_needWalk) ∧ Gd (.selects yX11_needWalk.cls yX11_needWalk yX11_needWalk)) := ⟨gd 1395 (by decide +kernel) rfl, gd 43 (by decide +kernel) rfl⟩
theorem mi_X12_actLine : (Gd (.instanceMethod yX12_actLine) ∧ Gd (.selects yX12_actLine.cls yX12_actLine yX12_actLine)) := ⟨gd 1794 (by decide +kernel) rfl, gd 65 (by decide +kernel) rfl⟩
theorem mi_X12_beginsPure : (Gd (.instanceMethod yX12_beginsPure) ∧ Gd (.selects yX12_beginsPure.cls yX12_beginsPure yX12_beginsPure)) := ⟨gd 2091 (by decide +kernel) rfl, gd 104 (by decide +kernel) rfl⟩
theorem mi_X12_brokenNow : (Gd (.instanceMethod yX12_brokenNow) ∧ Gd (.selects yX12_brokenNow.cls yX12_brokenNow yX12_brokenNow)) := ⟨gd 2010 (by decide +kernel) rfl, gd 94 (by decide +kernel) rfl⟩
theorem mi_X12_budgetLine : (Gd (.instanceMethod yX12_budgetLine) ∧ Gd (.selects yX12_budgetLine.cls yX12_budgetLine yX12_budgetLine)) := ⟨gd 1789 (by decide +kernel) rfl, gd 64 (by decide +kernel) rfl⟩
theorem mi_X12_draws : (Gd (.instanceMethod yX12_draws) ∧ Gd (.selects yX12_draws.cls yX12_draws yX12_draws)) := ⟨gd 2187 (by decide +kernel) rfl, gd 116 (by decide +kernel) rfl⟩
theorem mi_X12_drawsAction : (Gd (.instanceMethod yX12_drawsAction) ∧ Gd (.selects yX12_drawsAction.cls yX12_drawsAction yX12_drawsAction)) := ⟨gd 2183 (by decide +kernel) rfl, gd 115 (by decide +kernel) rfl⟩
theorem mi_X12_drawsState : (Gd (.instanceMethod yX12_drawsState) ∧ Gd (.selects yX12_drawsState.cls yX12_drawsState yX12_drawsState)) := ⟨gd 2191 (by decide +kernel) rfl, gd 117 (by decide +kernel) rfl⟩
theorem mi_X12_endsAt : (Gd (.instanceMethod yX12_endsAt) ∧ Gd (.selects yX12_endsAt.cls yX12_endsAt yX12_endsAt)) := ⟨gd 1812 (by decide +kernel) rfl, gd 69 (by decide +kernel) rfl⟩
theorem mi_X12_expects : (Gd (.instanceMethod yX12_expects) ∧ Gd (.selects yX12_expects.cls yX12_expects yX12_expects)) := ⟨gd 1743 (by decide +kernel) rfl, gd 54 (by decide +kernel) rfl⟩
theorem mi_X12_fails : (Gd (.instanceMethod yX12_fails) ∧ Gd (.selects yX12_fails.cls yX12_fails yX12_fails)) := ⟨gd 1757 (by decide +kernel) rfl, gd 57 (by decide +kernel) rfl⟩
theorem mi_X12_fetches : (Gd (.instanceMethod yX12_fetches) ∧ Gd (.selects yX12_fetches.cls yX12_fetches yX12_fetches)) := ⟨gd 2120 (by decide +kernel) rfl, gd 111 (by decide +kernel) rfl⟩
theorem mi_X12_findsBest : (Gd (.instanceMethod yX12_findsBest) ∧ Gd (.selects yX12_findsBest.cls yX12_findsBest yX12_findsBest)) := ⟨gd 2087 (by decide +kernel) rfl, gd 103 (by decide +kernel) rfl⟩
theorem mi_X12_gainBy : (Gd (.instanceMethod yX12_gainBy) ∧ Gd (.selects yX12_gainBy.cls yX12_gainBy yX12_gainBy)) := ⟨gd 1882 (by decide +kernel) rfl, gd 79 (by decide +kernel) rfl⟩
theorem mi_X12_givesAll : (Gd (.instanceMethod yX12_givesAll) ∧ Gd (.selects yX12_givesAll.cls yX12_givesAll yX12_givesAll)) := ⟨gd 2104 (by decide +kernel) rfl, gd 107 (by decide +kernel) rfl⟩
theorem mi_X12_goesBy : (Gd (.instanceMethod yX12_goesBy) ∧ Gd (.selects yX12_goesBy.cls yX12_goesBy yX12_goesBy)) := ⟨gd 2038 (by decide +kernel) rfl, gd 97 (by decide +kernel) rfl⟩
theorem mi_X12_goesOn : (Gd (.instanceMethod yX12_goesOn) ∧ Gd (.selects yX12_goesOn.cls yX12_goesOn yX12_goesOn)) := ⟨gd 1774 (by decide +kernel) rfl, gd 61 (by decide +kernel) rfl⟩
theorem mi_X12_isAction : (Gd (.instanceMethod yX12_isAction) ∧ Gd (.selects yX12_isAction.cls yX12_isAction yX12_isAction)) := ⟨gd 1878 (by decide +kernel) rfl, gd 78 (by decide +kernel) rfl⟩
theorem mi_X12_isAllowed : (Gd (.instanceMethod yX12_isAllowed) ∧ Gd (.selects yX12_isAllowed.cls yX12_isAllowed yX12_isAllowed)) := ⟨gd 2108 (by decide +kernel) rfl, gd 108 (by decide +kernel) rfl⟩
theorem mi_X12_isBudget : (Gd (.instanceMethod yX12_isBudget) ∧ Gd (.selects yX12_isBudget.cls yX12_isBudget yX12_isBudget)) := ⟨gd 1890 (by decide +kernel) rfl, gd 80 (by decide +kernel) rfl⟩
theorem mi_X12_isPermittedNow : (Gd (.instanceMethod yX12_isPermittedNow) ∧ Gd (.selects yX12_isPermittedNow.cls yX12_isPermittedNow yX12_isPermittedNow)) := ⟨gd 1918 (by decide +kernel) rfl, gd 84 (by decide +kernel) rfl⟩
theorem mi_X12_isState : (Gd (.instanceMethod yX12_isState) ∧ Gd (.selects yX12_isState.cls yX12_isState yX12_isState)) := ⟨gd 1866 (by decide +kernel) rfl, gd 76 (by decide +kernel) rfl⟩
theorem mi_X12_isTime : (Gd (.instanceMethod yX12_isTime) ∧ Gd (.selects yX12_isTime.cls yX12_isTime yX12_isTime)) := ⟨gd 1934 (by decide +kernel) rfl, gd 86 (by decide +kernel) rfl⟩
theorem mi_X12_isWord : (Gd (.instanceMethod yX12_isWord) ∧ Gd (.selects yX12_isWord.cls yX12_isWord yX12_isWord)) := ⟨gd 1751 (by decide +kernel) rfl, gd 56 (by decide +kernel) rfl⟩
theorem mi_X12_keeps : (Gd (.instanceMethod yX12_keeps) ∧ Gd (.selects yX12_keeps.cls yX12_keeps yX12_keeps)) := ⟨gd 2095 (by decide +kernel) rfl, gd 105 (by decide +kernel) rfl⟩
theorem mi_X12_keepsAll : (Gd (.instanceMethod yX12_keepsAll) ∧ Gd (.selects yX12_keepsAll.cls yX12_keepsAll yX12_keepsAll)) := ⟨gd 2219 (by decide +kernel) rfl, gd 120 (by decide +kernel) rfl⟩
theorem mi_X12_keepsBest : (Gd (.instanceMethod yX12_keepsBest) ∧ Gd (.selects yX12_keepsBest.cls yX12_keepsBest yX12_keepsBest)) := ⟨gd 2112 (by decide +kernel) rfl, gd 109 (by decide +kernel) rfl⟩
theorem mi_X12_lays : (Gd (.instanceMethod yX12_lays) ∧ Gd (.selects yX12_lays.cls yX12_lays yX12_lays)) := ⟨gd 1942 (by decide +kernel) rfl, gd 88 (by decide +kernel) rfl⟩
theorem mi_X12_laysAhead : (Gd (.instanceMethod yX12_laysAhead) ∧ Gd (.selects yX12_laysAhead.cls yX12_laysAhead yX12_laysAhead)) := ⟨gd 2054 (by decide +kernel) rfl, gd 99 (by decide +kernel) rfl⟩
theorem mi_X12_laysMass : (Gd (.instanceMethod yX12_laysMass) ∧ Gd (.selects yX12_laysMass.cls yX12_laysMass yX12_laysMass)) := ⟨gd 2030 (by decide +kernel) rfl, gd 95 (by decide +kernel) rfl⟩
theorem mi_X12_laysWorths : (Gd (.instanceMethod yX12_laysWorths) ∧ Gd (.selects yX12_laysWorths.cls yX12_laysWorths yX12_laysWorths)) := ⟨gd 2067 (by decide +kernel) rfl, gd 100 (by decide +kernel) rfl⟩
theorem mi_X12_leftOf : (Gd (.instanceMethod yX12_leftOf) ∧ Gd (.selects yX12_leftOf.cls yX12_leftOf yX12_leftOf)) := ⟨gd 2002 (by decide +kernel) rfl, gd 93 (by decide +kernel) rfl⟩
theorem mi_X12_line : (Gd (.instanceMethod yX12_line) ∧ Gd (.selects yX12_line.cls yX12_line yX12_line)) := ⟨gd 1784 (by decide +kernel) rfl, gd 63 (by decide +kernel) rfl⟩
theorem mi_X12_massOf : (Gd (.instanceMethod yX12_massOf) ∧ Gd (.selects yX12_massOf.cls yX12_massOf yX12_massOf)) := ⟨gd 2042 (by decide +kernel) rfl, gd 98 (by decide +kernel) rfl⟩
theorem mi_X12_noAction : (Gd (.instanceMethod yX12_noAction) ∧ Gd (.selects yX12_noAction.cls yX12_noAction yX12_noAction)) := ⟨gd 1874 (by decide +kernel) rfl, gd 77 (by decide +kernel) rfl⟩
theorem mi_X12_noBudget : (Gd (.instanceMethod yX12_noBudget) ∧ Gd (.selects yX12_noBudget.cls yX12_noBudget yX12_noBudget)) := ⟨gd 1926 (by decide +kernel) rfl, gd 85 (by decide +kernel) rfl⟩
theorem mi_X12_noChain : (Gd (.instanceMethod yX12_noChain) ∧ Gd (.selects yX12_noChain.cls yX12_noChain yX12_noChain)) := ⟨gd 1854 (by decide +kernel) rfl, gd 74 (by decide +kernel) rfl⟩
theorem mi_X12_noState : (Gd (.instanceMethod yX12_noState) ∧ Gd (.selects yX12_noState.cls yX12_noState yX12_noState)) := ⟨gd 1862 (by decide +kernel) rfl, gd 75 (by decide +kernel) rfl⟩
theorem mi_X12_noWalk : (Gd (.instanceMethod yX12_noWalk) ∧ Gd (.selects yX12_noWalk.cls yX12_noWalk yX12_noWalk)) := ⟨gd 2154 (by decide +kernel) rfl, gd 112 (by decide +kernel) rfl⟩
theorem mi_X12_numberHere : (Gd (.instanceMethod yX12_numberHere) ∧ Gd (.selects yX12_numberHere.cls yX12_numberHere yX12_numberHere)) := ⟨gd 1770 (by decide +kernel) rfl, gd 60 (by decide +kernel) rfl⟩
theorem mi_X12_ofRun : (Gd (.instanceMethod yX12_ofRun) ∧ Gd (.selects yX12_ofRun.cls yX12_ofRun yX12_ofRun)) := ⟨gd 1990 (by decide +kernel) rfl, gd 92 (by decide +kernel) rfl⟩
theorem mi_X12_ofWalk : (Gd (.instanceMethod yX12_ofWalk) ∧ Gd (.selects yX12_ofWalk.cls yX12_ofWalk yX12_ofWalk)) := ⟨gd 2166 (by decide +kernel) rfl, gd 113 (by decide +kernel) rfl⟩
theorem mi_X12_passes : (Gd (.instanceMethod yX12_passes) ∧ Gd (.selects yX12_passes.cls yX12_passes yX12_passes)) := ⟨gd 1747 (by decide +kernel) rfl, gd 55 (by decide +kernel) rfl⟩
theorem mi_X12_percentBy : (Gd (.instanceMethod yX12_percentBy) ∧ Gd (.selects yX12_percentBy.cls yX12_percentBy yX12_percentBy)) := ⟨gd 1902 (by decide +kernel) rfl, gd 82 (by decide +kernel) rfl⟩
theorem mi_X12_permitted : (Gd (.instanceMethod yX12_permitted) ∧ Gd (.selects yX12_permitted.cls yX12_permitted yX12_permitted)) := ⟨gd 2231 (by decide +kernel) rfl, gd 121 (by decide +kernel) rfl⟩
theorem mi_X12_puts : (Gd (.instanceMethod yX12_puts) ∧ Gd (.selects yX12_puts.cls yX12_puts yX12_puts)) := ⟨gd 1778 (by decide +kernel) rfl, gd 62 (by decide +kernel) rfl⟩
theorem mi_X12_reachAt : (Gd (.instanceMethod yX12_reachAt) ∧ Gd (.selects yX12_reachAt.cls yX12_reachAt yX12_reachAt)) := ⟨gd 1938 (by decide +kernel) rfl, gd 87 (by decide +kernel) rfl⟩
theorem mi_X12_reads : (Gd (.instanceMethod yX12_reads) ∧ Gd (.selects yX12_reads.cls yX12_reads yX12_reads)) := ⟨gd 1724 (by decide +kernel) rfl, gd 51 (by decide +kernel) rfl⟩
theorem mi_X12_refuse : (Gd (.instanceMethod yX12_refuse) ∧ Gd (.selects yX12_refuse.cls yX12_refuse yX12_refuse)) := ⟨gd 1720 (by decide +kernel) rfl, gd 50 (by decide +kernel) rfl⟩
theorem mi_X12_ruleLine : (Gd (.instanceMethod yX12_ruleLine) ∧ Gd (.selects yX12_ruleLine.cls yX12_ruleLine yX12_ruleLine)) := ⟨gd 1817 (by decide +kernel) rfl, gd 70 (by decide +kernel) rfl⟩
theorem mi_X12_says : (Gd (.instanceMethod yX12_says) ∧ Gd (.selects yX12_says.cls yX12_says yX12_says)) := ⟨gd 2199 (by decide +kernel) rfl, gd 118 (by decide +kernel) rfl⟩
theorem mi_X12_saysNumber : (Gd (.instanceMethod yX12_saysNumber) ∧ Gd (.selects yX12_saysNumber.cls yX12_saysNumber yX12_saysNumber)) := ⟨gd 2203 (by decide +kernel) rfl, gd 119 (by decide +kernel) rfl⟩
theorem mi_X12_seen : (Gd (.instanceMethod yX12_seen) ∧ Gd (.selects yX12_seen.cls yX12_seen yX12_seen)) := ⟨gd 1732 (by decide +kernel) rfl, gd 53 (by decide +kernel) rfl⟩
theorem mi_X12_startLine : (Gd (.instanceMethod yX12_startLine) ∧ Gd (.selects yX12_startLine.cls yX12_startLine yX12_startLine)) := ⟨gd 1822 (by decide +kernel) rfl, gd 71 (by decide +kernel) rfl⟩
theorem mi_X12_starts : (Gd (.instanceMethod yX12_starts) ∧ Gd (.selects yX12_starts.cls yX12_starts yX12_starts)) := ⟨gd 1826 (by decide +kernel) rfl, gd 72 (by decide +kernel) rfl⟩
theorem mi_X12_stateHere : (Gd (.instanceMethod yX12_stateHere) ∧ Gd (.selects yX12_stateHere.cls yX12_stateHere yX12_stateHere)) := ⟨gd 1798 (by decide +kernel) rfl, gd 66 (by decide +kernel) rfl⟩
theorem mi_X12_stepOf : (Gd (.instanceMethod yX12_stepOf) ∧ Gd (.selects yX12_stepOf.cls yX12_stepOf yX12_stepOf)) := ⟨gd 1946 (by decide +kernel) rfl, gd 89 (by decide +kernel) rfl⟩
theorem mi_X12_stepsMass : (Gd (.instanceMethod yX12_stepsMass) ∧ Gd (.selects yX12_stepsMass.cls yX12_stepsMass yX12_stepsMass)) := ⟨gd 2034 (by decide +kernel) rfl, gd 96 (by decide +kernel) rfl⟩
theorem mi_X12_takes : (Gd (.instanceMethod yX12_takes) ∧ Gd (.selects yX12_takes.cls yX12_takes yX12_takes)) := ⟨gd 1766 (by decide +kernel) rfl, gd 59 (by decide +kernel) rfl⟩
theorem mi_X12_takesPure : (Gd (.instanceMethod yX12_takesPure) ∧ Gd (.selects yX12_takesPure.cls yX12_takesPure yX12_takesPure)) := ⟨gd 2100 (by decide +kernel) rfl, gd 106 (by decide +kernel) rfl⟩
theorem mi_X12_takes_ : (Gd (.instanceMethod yX12_takes_) ∧ Gd (.selects yX12_takes_.cls yX12_takes_ yX12_takes_)) := ⟨gd 1762 (by decide +kernel) rfl, gd 58 (by decide +kernel) rfl⟩
theorem mi_X12_toRead : (Gd (.instanceMethod yX12_toRead) ∧ Gd (.selects yX12_toRead.cls yX12_toRead yX12_toRead)) := ⟨gd 1808 (by decide +kernel) rfl, gd 68 (by decide +kernel) rfl⟩
theorem mi_X12_together : (Gd (.instanceMethod yX12_together) ∧ Gd (.selects yX12_together.cls yX12_together yX12_together)) := ⟨gd 1966 (by decide +kernel) rfl, gd 90 (by decide +kernel) rfl⟩
theorem mi_X12_token : (Gd (.instanceMethod yX12_token) ∧ Gd (.selects yX12_token.cls yX12_token yX12_token)) := ⟨gd 1728 (by decide +kernel) rfl, gd 52 (by decide +kernel) rfl⟩
theorem mi_X12_told : (Gd (.instanceMethod yX12_told) ∧ Gd (.selects yX12_told.cls yX12_told yX12_told)) := ⟨gd 1834 (by decide +kernel) rfl, gd 73 (by decide +kernel) rfl⟩
theorem mi_X12_turns : (Gd (.instanceMethod yX12_turns) ∧ Gd (.selects yX12_turns.cls yX12_turns yX12_turns)) := ⟨gd 2116 (by decide +kernel) rfl, gd 110 (by decide +kernel) rfl⟩
theorem mi_X12_unitNow : (Gd (.instanceMethod yX12_unitNow) ∧ Gd (.selects yX12_unitNow.cls yX12_unitNow yX12_unitNow)) := ⟨gd 1981 (by decide +kernel) rfl, gd 91 (by decide +kernel) rfl⟩
theorem mi_X12_usesBy : (Gd (.instanceMethod yX12_usesBy) ∧ Gd (.selects yX12_usesBy.cls yX12_usesBy yX12_usesBy)) := ⟨gd 1894 (by decide +kernel) rfl, gd 81 (by decide +kernel) rfl⟩
theorem mi_X12_usesRead : (Gd (.instanceMethod yX12_usesRead) ∧ Gd (.selects yX12_usesRead.cls yX12_usesRead yX12_usesRead)) := ⟨gd 1803 (by decide +kernel) rfl, gd 67 (by decide +kernel) rfl⟩
theorem mi_X12_walks : (Gd (.instanceMethod yX12_walks) ∧ Gd (.selects yX12_walks.cls yX12_walks yX12_walks)) := ⟨gd 2179 (by decide +kernel) rfl, gd 114 (by decide +kernel) rfl⟩
theorem mi_X12_weightOf : (Gd (.instanceMethod yX12_weightOf) ∧ Gd (.selects yX12_weightOf.cls yX12_weightOf yX12_weightOf)) := ⟨gd 1910 (by decide +kernel) rfl, gd 83 (by decide +kernel) rfl⟩
theorem mi_X12_worthOf : (Gd (.instanceMethod yX12_worthOf) ∧ Gd (.selects yX12_worthOf.cls yX12_worthOf yX12_worthOf)) := ⟨gd 2075 (by decide +kernel) rfl, gd 102 (by decide +kernel) rfl⟩
theorem mi_X12_worthiest : (Gd (.instanceMethod yX12_worthiest) ∧ Gd (.selects yX12_worthiest.cls yX12_worthiest yX12_worthiest)) := ⟨gd 2071 (by decide +kernel) rfl, gd 101 (by decide +kernel) rfl⟩
theorem mi_X1_addParts : (Gd (.instanceMethod yX1_addParts) ∧ Gd (.selects yX1_addParts.cls yX1_addParts yX1_addParts)) := ⟨gd 1016 (by decide +kernel) rfl, gd 25 (by decide +kernel) rfl⟩
theorem mi_X1_at : (Gd (.instanceMethod yX1_at) ∧ Gd (.selects yX1_at.cls yX1_at yX1_at)) := ⟨gd 1028 (by decide +kernel) rfl, gd 1029 (by decide +kernel) rfl⟩
theorem mi_X1_chanceOver : (Gd (.instanceMethod yX1_chanceOver) ∧ Gd (.selects yX1_chanceOver.cls yX1_chanceOver yX1_chanceOver)) := ⟨gd 1223 (by decide +kernel) rfl, gd 34 (by decide +kernel) rfl⟩
theorem mi_X1_fillChances : (Gd (.instanceMethod yX1_fillChances) ∧ Gd (.selects yX1_fillChances.cls yX1_fillChances yX1_fillChances)) := ⟨gd 1219 (by decide +kernel) rfl, gd 33 (by decide +kernel) rfl⟩
theorem mi_X1_fillParts : (Gd (.instanceMethod yX1_fillParts) ∧ Gd (.selects yX1_fillParts.cls yX1_fillParts yX1_fillParts)) := ⟨gd 1008 (by decide +kernel) rfl, gd 24 (by decide +kernel) rfl⟩
theorem mi_X1_follow : (Gd (.instanceMethod yX1_follow) ∧ Gd (.selects yX1_follow.cls yX1_follow yX1_follow)) := ⟨gd 1003 (by decide +kernel) rfl, gd 1004 (by decide +kernel) rfl⟩
theorem mi_X1_gainOf : (Gd (.instanceMethod yX1_gainOf) ∧ Gd (.selects yX1_gainOf.cls yX1_gainOf yX1_gainOf)) := ⟨gd 1104 (by decide +kernel) rfl, gd 1105 (by decide +kernel) rfl⟩
theorem mi_X1_greatestChance : (Gd (.instanceMethod yX1_greatestChance) ∧ Gd (.selects yX1_greatestChance.cls yX1_greatestChance yX1_greatestChance)) := ⟨gd 1214 (by decide +kernel) rfl, gd 1215 (by decide +kernel) rfl⟩
theorem mi_X1_hitOf : (Gd (.instanceMethod yX1_hitOf) ∧ Gd (.selects yX1_hitOf.cls yX1_hitOf yX1_hitOf)) := ⟨gd 1081 (by decide +kernel) rfl, gd 1082 (by decide +kernel) rfl⟩
theorem mi_X1_likeliestNext : (Gd (.instanceMethod yX1_likeliestNext) ∧ Gd (.selects yX1_likeliestNext.cls yX1_likeliestNext yX1_likeliestNext)) := ⟨gd 1241 (by decide +kernel) rfl, gd 35 (by decide +kernel) rfl⟩
theorem mi_X1_nextStates : (Gd (.instanceMethod yX1_nextStates) ∧ Gd (.selects yX1_nextStates.cls yX1_nextStates yX1_nextStates)) := ⟨gd 1039 (by decide +kernel) rfl, gd 1040 (by decide +kernel) rfl⟩
theorem mi_X1_partsTo : (Gd (.instanceMethod yX1_partsTo) ∧ Gd (.selects yX1_partsTo.cls yX1_partsTo yX1_partsTo)) := ⟨gd 1025 (by decide +kernel) rfl, gd 27 (by decide +kernel) rfl⟩
theorem mi_X1_rankOf : (Gd (.instanceMethod yX1_rankOf) ∧ Gd (.selects yX1_rankOf.cls yX1_rankOf yX1_rankOf)) := ⟨gd 1195 (by decide +kernel) rfl, gd 1196 (by decide +kernel) rfl⟩
theorem mi_X1_spread : (Gd (.instanceMethod yX1_spread) ∧ Gd (.selects yX1_spread.cls yX1_spread yX1_spread)) := ⟨gd 1021 (by decide +kernel) rfl, gd 26 (by decide +kernel) rfl⟩
theorem mi_X1_stateOfLikeliest : (Gd (.instanceMethod yX1_stateOfLikeliest) ∧ Gd (.selects yX1_stateOfLikeliest.cls yX1_stateOfLikeliest yX1_stateOfLikeliest)) := ⟨gd 1236 (by decide +kernel) rfl, gd 1237 (by decide +kernel) rfl⟩
theorem mi_X1_sumOf : (Gd (.instanceMethod yX1_sumOf) ∧ Gd (.selects yX1_sumOf.cls yX1_sumOf yX1_sumOf)) := ⟨gd 1069 (by decide +kernel) rfl, gd 28 (by decide +kernel) rfl⟩
theorem mi_X1_usedOf : (Gd (.instanceMethod yX1_usedOf) ∧ Gd (.selects yX1_usedOf.cls yX1_usedOf yX1_usedOf)) := ⟨gd 1115 (by decide +kernel) rfl, gd 1116 (by decide +kernel) rfl⟩
theorem mi_X1_visitsOf : (Gd (.instanceMethod yX1_visitsOf) ∧ Gd (.selects yX1_visitsOf.cls yX1_visitsOf yX1_visitsOf)) := ⟨gd 1064 (by decide +kernel) rfl, gd 1065 (by decide +kernel) rfl⟩
theorem mi_X2_advance : (Gd (.instanceMethod yX2_advance) ∧ Gd (.selects yX2_advance.cls yX2_advance yX2_advance)) := ⟨gd 688 (by decide +kernel) rfl, gd 689 (by decide +kernel) rfl⟩
theorem mi_X2_begin : (Gd (.instanceMethod yX2_begin) ∧ Gd (.selects yX2_begin.cls yX2_begin yX2_begin)) := ⟨gd 681 (by decide +kernel) rfl, gd 682 (by decide +kernel) rfl⟩
theorem mi_X2_hasRoom : (Gd (.instanceMethod yX2_hasRoom) ∧ Gd (.selects yX2_hasRoom.cls yX2_hasRoom yX2_hasRoom)) := ⟨gd 547 (by decide +kernel) rfl, gd 548 (by decide +kernel) rfl⟩
theorem mi_X2_isWord : (Gd (.instanceMethod yX2_isWord) ∧ Gd (.selects yX2_isWord.cls yX2_isWord yX2_isWord)) := ⟨gd 707 (by decide +kernel) rfl, gd 708 (by decide +kernel) rfl⟩
theorem mi_X2_put : (Gd (.instanceMethod yX2_put) ∧ Gd (.selects yX2_put.cls yX2_put yX2_put)) := ⟨gd 551 (by decide +kernel) rfl, gd 552 (by decide +kernel) rfl⟩
theorem mi_X3_dropOldest : (Gd (.instanceMethod yX3_dropOldest) ∧ Gd (.selects yX3_dropOldest.cls yX3_dropOldest yX3_dropOldest)) := ⟨gd 1495 (by decide +kernel) rfl, gd 49 (by decide +kernel) rfl⟩
theorem mi_X3_forget : (Gd (.instanceMethod yX3_forget) ∧ Gd (.selects yX3_forget.cls yX3_forget yX3_forget)) := ⟨gd 874 (by decide +kernel) rfl, gd 875 (by decide +kernel) rfl⟩
theorem mi_X3_giveBack : (Gd (.instanceMethod yX3_giveBack) ∧ Gd (.selects yX3_giveBack.cls yX3_giveBack yX3_giveBack)) := ⟨gd 1553 (by decide +kernel) rfl, gd 1554 (by decide +kernel) rfl⟩
theorem mi_X3_isFull : (Gd (.instanceMethod yX3_isFull) ∧ Gd (.selects yX3_isFull.cls yX3_isFull yX3_isFull)) := ⟨gd 1579 (by decide +kernel) rfl, gd 1580 (by decide +kernel) rfl⟩
theorem mi_X3_keep : (Gd (.instanceMethod yX3_keep) ∧ Gd (.selects yX3_keep.cls yX3_keep yX3_keep)) := ⟨gd 1490 (by decide +kernel) rfl, gd 1491 (by decide +kernel) rfl⟩
theorem mi_X3_put : (Gd (.instanceMethod yX3_put) ∧ Gd (.selects yX3_put.cls yX3_put yX3_put)) := ⟨gd 1568 (by decide +kernel) rfl, gd 1569 (by decide +kernel) rfl⟩
theorem mi_X3_take : (Gd (.instanceMethod yX3_take) ∧ Gd (.selects yX3_take.cls yX3_take yX3_take)) := ⟨gd 1584 (by decide +kernel) rfl, gd 1585 (by decide +kernel) rfl⟩
theorem mi_X4_checkStates : (Gd (.instanceMethod yX4_checkStates) ∧ Gd (.selects yX4_checkStates.cls yX4_checkStates yX4_checkStates)) := ⟨gd 839 (by decide +kernel) rfl, gd 17 (by decide +kernel) rfl⟩
theorem mi_X4_endLine : (Gd (.instanceMethod yX4_endLine) ∧ Gd (.selects yX4_endLine.cls yX4_endLine yX4_endLine)) := ⟨gd 821 (by decide +kernel) rfl, gd 13 (by decide +kernel) rfl⟩
theorem mi_X4_fail : (Gd (.instanceMethod yX4_fail) ∧ Gd (.selects yX4_fail.cls yX4_fail yX4_fail)) := ⟨gd 760 (by decide +kernel) rfl, gd 3 (by decide +kernel) rfl⟩
theorem mi_X4_parse : (Gd (.instanceMethod yX4_parse) ∧ Gd (.selects yX4_parse.cls yX4_parse yX4_parse)) := ⟨gd 659 (by decide +kernel) rfl, gd 660 (by decide +kernel) rfl⟩
theorem mi_X4_parseAct : (Gd (.instanceMethod yX4_parseAct) ∧ Gd (.selects yX4_parseAct.cls yX4_parseAct yX4_parseAct)) := ⟨gd 786 (by decide +kernel) rfl, gd 8 (by decide +kernel) rfl⟩
theorem mi_X4_parseBudget : (Gd (.instanceMethod yX4_parseBudget) ∧ Gd (.selects yX4_parseBudget.cls yX4_parseBudget yX4_parseBudget)) := ⟨gd 781 (by decide +kernel) rfl, gd 7 (by decide +kernel) rfl⟩
theorem mi_X4_parseGain : (Gd (.instanceMethod yX4_parseGain) ∧ Gd (.selects yX4_parseGain.cls yX4_parseGain yX4_parseGain)) := ⟨gd 795 (by decide +kernel) rfl, gd 10 (by decide +kernel) rfl⟩
theorem mi_X4_parseHead : (Gd (.instanceMethod yX4_parseHead) ∧ Gd (.selects yX4_parseHead.cls yX4_parseHead yX4_parseHead)) := ⟨gd 699 (by decide +kernel) rfl, gd 1 (by decide +kernel) rfl⟩
theorem mi_X4_parseLine : (Gd (.instanceMethod yX4_parseLine) ∧ Gd (.selects yX4_parseLine.cls yX4_parseLine yX4_parseLine)) := ⟨gd 776 (by decide +kernel) rfl, gd 6 (by decide +kernel) rfl⟩
theorem mi_X4_parsePercents : (Gd (.instanceMethod yX4_parsePercents) ∧ Gd (.selects yX4_parsePercents.cls yX4_parsePercents yX4_parsePercents)) := ⟨gd 808 (by decide +kernel) rfl, gd 12 (by decide +kernel) rfl⟩
theorem mi_X4_parseRule : (Gd (.instanceMethod yX4_parseRule) ∧ Gd (.selects yX4_parseRule.cls yX4_parseRule yX4_parseRule)) := ⟨gd 826 (by decide +kernel) rfl, gd 14 (by decide +kernel) rfl⟩
theorem mi_X4_parseStart : (Gd (.instanceMethod yX4_parseStart) ∧ Gd (.selects yX4_parseStart.cls yX4_parseStart yX4_parseStart)) := ⟨gd 834 (by decide +kernel) rfl, gd 16 (by decide +kernel) rfl⟩
theorem mi_X4_parseUses : (Gd (.instanceMethod yX4_parseUses) ∧ Gd (.selects yX4_parseUses.cls yX4_parseUses yX4_parseUses)) := ⟨gd 799 (by decide +kernel) rfl, gd 11 (by decide +kernel) rfl⟩
theorem mi_X4_parseWeights : (Gd (.instanceMethod yX4_parseWeights) ∧ Gd (.selects yX4_parseWeights.cls yX4_parseWeights yX4_parseWeights)) := ⟨gd 830 (by decide +kernel) rfl, gd 15 (by decide +kernel) rfl⟩
theorem mi_X4_seeNumber : (Gd (.instanceMethod yX4_seeNumber) ∧ Gd (.selects yX4_seeNumber.cls yX4_seeNumber yX4_seeNumber)) := ⟨gd 770 (by decide +kernel) rfl, gd 5 (by decide +kernel) rfl⟩
theorem mi_X4_seeState : (Gd (.instanceMethod yX4_seeState) ∧ Gd (.selects yX4_seeState.cls yX4_seeState yX4_seeState)) := ⟨gd 790 (by decide +kernel) rfl, gd 9 (by decide +kernel) rfl⟩
theorem mi_X4_takeNumber : (Gd (.instanceMethod yX4_takeNumber) ∧ Gd (.selects yX4_takeNumber.cls yX4_takeNumber yX4_takeNumber)) := ⟨gd 766 (by decide +kernel) rfl, gd 4 (by decide +kernel) rfl⟩
theorem mi_X4_takeWord : (Gd (.instanceMethod yX4_takeWord) ∧ Gd (.selects yX4_takeWord.cls yX4_takeWord yX4_takeWord)) := ⟨gd 704 (by decide +kernel) rfl, gd 2 (by decide +kernel) rfl⟩
theorem mi_X5_begin : (Gd (.instanceMethod yX5_begin) ∧ Gd (.selects yX5_begin.cls yX5_begin yX5_begin)) := ⟨gd 1299 (by decide +kernel) rfl, gd 38 (by decide +kernel) rfl⟩
theorem mi_X5_countHolding : (Gd (.instanceMethod yX5_countHolding) ∧ Gd (.selects yX5_countHolding.cls yX5_countHolding yX5_countHolding)) := ⟨gd 1343 (by decide +kernel) rfl, gd 1344 (by decide +kernel) rfl⟩
theorem mi_X5_fill : (Gd (.instanceMethod yX5_fill) ∧ Gd (.selects yX5_fill.cls yX5_fill yX5_fill)) := ⟨gd 1295 (by decide +kernel) rfl, gd 37 (by decide +kernel) rfl⟩
theorem mi_X5_findBest : (Gd (.instanceMethod yX5_findBest) ∧ Gd (.selects yX5_findBest.cls yX5_findBest yX5_findBest)) := ⟨gd 1290 (by decide +kernel) rfl, gd 1291 (by decide +kernel) rfl⟩
theorem mi_X5_forget : (Gd (.instanceMethod yX5_forget) ∧ Gd (.selects yX5_forget.cls yX5_forget yX5_forget)) := ⟨gd 878 (by decide +kernel) rfl, gd 879 (by decide +kernel) rfl⟩
theorem mi_X5_holds : (Gd (.instanceMethod yX5_holds) ∧ Gd (.selects yX5_holds.cls yX5_holds yX5_holds)) := ⟨gd 1323 (by decide +kernel) rfl, gd 41 (by decide +kernel) rfl⟩
theorem mi_X5_isPermittedSet : (Gd (.instanceMethod yX5_isPermittedSet) ∧ Gd (.selects yX5_isPermittedSet.cls yX5_isPermittedSet yX5_isPermittedSet)) := ⟨gd 1318 (by decide +kernel) rfl, gd 40 (by decide +kernel) rfl⟩
theorem mi_X5_limitFor : (Gd (.instanceMethod yX5_limitFor) ∧ Gd (.selects yX5_limitFor.cls yX5_limitFor yX5_limitFor)) := ⟨gd 1366 (by decide +kernel) rfl, gd 42 (by decide +kernel) rfl⟩
theorem mi_X5_moveOn : (Gd (.instanceMethod yX5_moveOn) ∧ Gd (.selects yX5_moveOn.cls yX5_moveOn yX5_moveOn)) := ⟨gd 1313 (by decide +kernel) rfl, gd 39 (by decide +kernel) rfl⟩
theorem mi_X5_smallestLimit : (Gd (.instanceMethod yX5_smallestLimit) ∧ Gd (.selects yX5_smallestLimit.cls yX5_smallestLimit yX5_smallestLimit)) := ⟨gd 1361 (by decide +kernel) rfl, gd 1362 (by decide +kernel) rfl⟩
theorem mi_X5_writeWeights : (Gd (.instanceMethod yX5_writeWeights) ∧ Gd (.selects yX5_writeWeights.cls yX5_writeWeights yX5_writeWeights)) := ⟨gd 1303 (by decide +kernel) rfl, gd 1304 (by decide +kernel) rfl⟩
theorem mi_X6_addByte : (Gd (.instanceMethod yX6_addByte) ∧ Gd (.selects yX6_addByte.cls yX6_addByte yX6_addByte)) := ⟨gd 1466 (by decide +kernel) rfl, gd 47 (by decide +kernel) rfl⟩
theorem mi_X6_addNumber : (Gd (.instanceMethod yX6_addNumber) ∧ Gd (.selects yX6_addNumber.cls yX6_addNumber yX6_addNumber)) := ⟨gd 1470 (by decide +kernel) rfl, gd 48 (by decide +kernel) rfl⟩
theorem mi_X6_addPart : (Gd (.instanceMethod yX6_addPart) ∧ Gd (.selects yX6_addPart.cls yX6_addPart yX6_addPart)) := ⟨gd 1461 (by decide +kernel) rfl, gd 1462 (by decide +kernel) rfl⟩
theorem mi_X7_clear : (Gd (.instanceMethod yX7_clear) ∧ Gd (.selects yX7_clear.cls yX7_clear yX7_clear)) := ⟨gd 670 (by decide +kernel) rfl, gd 671 (by decide +kernel) rfl⟩
theorem mi_X7_copyFrom : (Gd (.instanceMethod yX7_copyFrom) ∧ Gd (.selects yX7_copyFrom.cls yX7_copyFrom yX7_copyFrom)) := ⟨gd 869 (by decide +kernel) rfl, gd 870 (by decide +kernel) rfl⟩
theorem mi_X7_permits : (Gd (.instanceMethod yX7_permits) ∧ Gd (.selects yX7_permits.cls yX7_permits yX7_permits)) := ⟨gd 973 (by decide +kernel) rfl, gd 974 (by decide +kernel) rfl⟩
theorem mi_X7_walkRow : (Gd (.instanceMethod yX7_walkRow) ∧ Gd (.selects yX7_walkRow.cls yX7_walkRow yX7_walkRow)) := ⟨gd 1413 (by decide +kernel) rfl, gd 1414 (by decide +kernel) rfl⟩
theorem mi_X8_chanceWithin : (Gd (.instanceMethod yX8_chanceWithin) ∧ Gd (.selects yX8_chanceWithin.cls yX8_chanceWithin yX8_chanceWithin)) := ⟨gd 1145 (by decide +kernel) rfl, gd 1146 (by decide +kernel) rfl⟩
theorem mi_X8_greatest : (Gd (.instanceMethod yX8_greatest) ∧ Gd (.selects yX8_greatest.cls yX8_greatest yX8_greatest)) := ⟨gd 1169 (by decide +kernel) rfl, gd 1170 (by decide +kernel) rfl⟩
theorem mi_X8_greatestFrom : (Gd (.instanceMethod yX8_greatestFrom) ∧ Gd (.selects yX8_greatestFrom.cls yX8_greatestFrom yX8_greatestFrom)) := ⟨gd 1175 (by decide +kernel) rfl, gd 32 (by decide +kernel) rfl⟩
theorem mi_X8_spendFrom : (Gd (.instanceMethod yX8_spendFrom) ∧ Gd (.selects yX8_spendFrom.cls yX8_spendFrom yX8_spendFrom)) := ⟨gd 1152 (by decide +kernel) rfl, gd 30 (by decide +kernel) rfl⟩
theorem mi_X8_spendTo : (Gd (.instanceMethod yX8_spendTo) ∧ Gd (.selects yX8_spendTo.cls yX8_spendTo yX8_spendTo)) := ⟨gd 1158 (by decide +kernel) rfl, gd 31 (by decide +kernel) rfl⟩
theorem mi_X9_fill : (Gd (.instanceMethod yX9_fill) ∧ Gd (.selects yX9_fill.cls yX9_fill yX9_fill)) := ⟨gd 1251 (by decide +kernel) rfl, gd 1252 (by decide +kernel) rfl⟩
theorem mi_X9_firstAction : (Gd (.instanceMethod yX9_firstAction) ∧ Gd (.selects yX9_firstAction.cls yX9_firstAction yX9_firstAction)) := ⟨gd 1256 (by decide +kernel) rfl, gd 1257 (by decide +kernel) rfl⟩
theorem mi_X9_of : (Gd (.instanceMethod yX9_of) ∧ Gd (.selects yX9_of.cls yX9_of yX9_of)) := ⟨gd 1268 (by decide +kernel) rfl, gd 1269 (by decide +kernel) rfl⟩
theorem mi_X9_valueOver : (Gd (.instanceMethod yX9_valueOver) ∧ Gd (.selects yX9_valueOver.cls yX9_valueOver yX9_valueOver)) := ⟨gd 1263 (by decide +kernel) rfl, gd 36 (by decide +kernel) rfl⟩
theorem ms_J7_fill_53178 : Gd (.static yJ7_fill_53178) := gd 667 (by decide +kernel) rfl
theorem ms_J7_fill_d0a16 : Gd (.static yJ7_fill_d0a16) := gd 1011 (by decide +kernel) rfl
theorem ms_X11_copyRow : Gd (.static yX11_copyRow) := gd 862 (by decide +kernel) rfl
theorem ms_X11_needRange : Gd (.static yX11_needRange) := gd 995 (by decide +kernel) rfl
theorem ms_X11_needSlot : Gd (.static yX11_needSlot) := gd 1564 (by decide +kernel) rfl
theorem ms_X11_rowOf : Gd (.static yX11_rowOf) := gd 677 (by decide +kernel) rfl
theorem ms_X11_setWeights : Gd (.static yX11_setWeights) := gd 674 (by decide +kernel) rfl
theorem ms_X11_unitOf : Gd (.static yX11_unitOf) := gd 1092 (by decide +kernel) rfl
theorem ms_X12_in : Gd (.static yX12_in) := gd 1716 (by decide +kernel) rfl
theorem ms_X12_isDigit : Gd (.static yX12_isDigit) := gd 1738 (by decide +kernel) rfl
theorem ms_X12_isLetter : Gd (.static yX12_isLetter) := gd 1735 (by decide +kernel) rfl
theorem ms_X12_isWeight : Gd (.static yX12_isWeight) := gd 2215 (by decide +kernel) rfl
theorem ms_X12_power : Gd (.static yX12_power) := gd 1969 (by decide +kernel) rfl
theorem ms_X2_isDigit : Gd (.static yX2_isDigit) := gd 695 (by decide +kernel) rfl
theorem ms_X2_isLetter : Gd (.static yX2_isLetter) := gd 692 (by decide +kernel) rfl
theorem cl_RX11_272 : Gd (.constantLong RX11 272 (-9223372036854775808 : Int64)) := gd 1334 (by decide +kernel) rfl
theorem cl_RX11_404 : Gd (.constantLong RX11 404 (10 : Int64)) := gd 1094 (by decide +kernel) rfl
theorem cl_RX11_406 : Gd (.constantLong RX11 406 (1000 : Int64)) := gd 1095 (by decide +kernel) rfl
theorem cl_RX1_76 : Gd (.constantLong RX1 76 (1000 : Int64)) := gd 1071 (by decide +kernel) rfl
theorem cl_RX5_50 : Gd (.constantLong RX5 50 (-9223372036854775808 : Int64)) := gd 1315 (by decide +kernel) rfl
theorem cl_RX6_27 : Gd (.constantLong RX6 27 (10 : Int64)) := gd 1472 (by decide +kernel) rfl
theorem cl_RX9_46 : Gd (.constantLong RX9 46 (-9223372036854775808 : Int64)) := gd 1259 (by decide +kernel) rfl
theorem cl_RX9_66 : Gd (.constantLong RX9 66 (100 : Int64)) := gd 1265 (by decide +kernel) rfl
theorem cl_RX12_281 : Gd (.constantLong RX12 281 (10 : Int64)) := gd 1983 (by decide +kernel) rfl
theorem cl_RX12_319 : Gd (.constantLong RX12 319 (5 : Int64)) := gd 2064 (by decide +kernel) rfl
theorem cl_RX12_336 : Gd (.constantLong RX12 336 (-9223372036854775808 : Int64)) := gd 2097 (by decide +kernel) rfl
theorem cl_RX12_361 : Gd (.constantLong RX12 361 (9999 : Int64)) := gd 2134 (by decide +kernel) rfl
theorem cl_RX12_363 : Gd (.constantLong RX12 363 (10000 : Int64)) := gd 2139 (by decide +kernel) rfl
theorem cl_RX12_380 : Gd (.constantLong RX12 380 (200 : Int64)) := gd 2176 (by decide +kernel) rfl
theorem cl_RX12_388 : Gd (.constantLong RX12 388 (9 : Int64)) := gd 2205 (by decide +kernel) rfl
theorem th_RX11_112_116 : Gd (.classLink RX11 112 (xN 1)) ∧ Gd (.initialized (xN 1)) ∧ (∀ w ∈ vx_atS RX11 116 (xN 1) ["java/lang/RuntimeException", "java/lang/Exception"], Gd w) ∧ (∀ w ∈ Cond.classLink RX11 112 (xN 1) :: Cond.initialized (xN 1) :: vx_atS RX11 116 (xN 1) ["java/lang/RuntimeException", "java/lang/Exception"], vx_ot w = true) := by
  have h : ∀ w ∈ vx_atS RX11 116 (xN 1) ["java/lang/RuntimeException", "java/lang/Exception"], w ∈ lw_tbl ∧ okW w = true := by decide +kernel
  exact ⟨gd 591 (by decide +kernel) rfl, gd 139 (by decide +kernel) rfl, h, by decide +kernel⟩
theorem th_RX11_122_126 : Gd (.classLink RX11 122 (xN 2)) ∧ Gd (.initialized (xN 2)) ∧ (∀ w ∈ vx_atS RX11 126 (xN 2) ["java/lang/RuntimeException", "java/lang/Exception"], Gd w) ∧ (∀ w ∈ Cond.classLink RX11 122 (xN 2) :: Cond.initialized (xN 2) :: vx_atS RX11 126 (xN 2) ["java/lang/RuntimeException", "java/lang/Exception"], vx_ot w = true) := by
  have h : ∀ w ∈ vx_atS RX11 126 (xN 2) ["java/lang/RuntimeException", "java/lang/Exception"], w ∈ lw_tbl ∧ okW w = true := by decide +kernel
  exact ⟨gd 841 (by decide +kernel) rfl, gd 146 (by decide +kernel) rfl, h, by decide +kernel⟩
theorem th_RX11_334_338 : Gd (.classLink RX11 334 (xN 0)) ∧ Gd (.initialized (xN 0)) ∧ (∀ w ∈ vx_atS RX11 338 (xN 0) ["java/lang/RuntimeException", "java/lang/Exception"], Gd w) ∧ (∀ w ∈ Cond.classLink RX11 334 (xN 0) :: Cond.initialized (xN 0) :: vx_atS RX11 338 (xN 0) ["java/lang/RuntimeException", "java/lang/Exception"], vx_ot w = true) := by
  have h : ∀ w ∈ vx_atS RX11 338 (xN 0) ["java/lang/RuntimeException", "java/lang/Exception"], w ∈ lw_tbl ∧ okW w = true := by decide +kernel
  exact ⟨gd 897 (by decide +kernel) rfl, gd 148 (by decide +kernel) rfl, h, by decide +kernel⟩
