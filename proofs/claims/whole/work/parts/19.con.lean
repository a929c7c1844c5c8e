theorem ln_RL_187 : Gd (.methodLink RL 187 yX11_init) := gd 151 (by decide +kernel) rfl
theorem ln_RL_190 : Gd (.methodLink RL 190 yX12_init) := gd 1589 (by decide +kernel) rfl
theorem ln_RX11_13 : Gd (.methodLinkNest RX11 13 yX2_init "DecisionChain") := gd 159 (by decide +kernel) rfl
theorem ln_RX11_16 : Gd (.methodLinkNest RX11 16 yX0_init "DecisionChain") := gd 192 (by decide +kernel) rfl
theorem ln_RX11_19 : Gd (.methodLinkNest RX11 19 yX7_init "DecisionChain") := gd 248 (by decide +kernel) rfl
theorem ln_RX11_22 : Gd (.methodLink RX11 22 yX1_init) := gd 306 (by decide +kernel) rfl
theorem ln_RX11_31 : Gd (.methodLink RX11 31 yX4_init) := gd 335 (by decide +kernel) rfl
theorem ln_RX11_48 : Gd (.methodLink RX11 48 yX3_init) := gd 371 (by decide +kernel) rfl
theorem ln_RX11_59 : Gd (.methodLink RX11 59 yX8_init) := gd 394 (by decide +kernel) rfl
theorem ln_RX11_66 : Gd (.methodLink RX11 66 yX5_init) := gd 413 (by decide +kernel) rfl
theorem ln_RX11_75 : Gd (.methodLink RX11 75 yX9_init) := gd 454 (by decide +kernel) rfl
theorem ln_RX11_84 : Gd (.methodLink RX11 84 yX10_init) := gd 470 (by decide +kernel) rfl
theorem ln_RX11_91 : Gd (.methodLinkNest RX11 91 yX6_init "DecisionChain") := gd 492 (by decide +kernel) rfl
theorem ln_RX3_20 : Gd (.methodLinkNest RX3 20 yX7_init "DecisionChain") := gd 377 (by decide +kernel) rfl
theorem ln_RX4_11 : Gd (.methodLinkNest RX4 11 yX0_init "DecisionChain") := gd 340 (by decide +kernel) rfl
theorem ln_RX4_20 : Gd (.methodLinkNest RX4 20 yX7_init "DecisionChain") := gd 342 (by decide +kernel) rfl
theorem mw_X0_init : MW yX0_init cX0_init 1 none 0 := ⟨gd 125 (by decide +kernel) rfl, gd 194 (by decide +kernel) rfl, ⟨by decide, by decide⟩, by decide +kernel⟩
theorem mw_X10_init : MW yX10_init cX10_init 2 none 1 := ⟨gd 133 (by decide +kernel) rfl, gd 472 (by decide +kernel) rfl, ⟨by decide, by decide⟩, by decide +kernel⟩
theorem mw_X11_init : MW yX11_init cX11_init 5 none 0 := ⟨gd 123 (by decide +kernel) rfl, gd 153 (by decide +kernel) rfl, ⟨by decide, by decide⟩, by decide +kernel⟩
theorem mw_X12_init : MW yX12_init cX12_init 1 none 0 := ⟨gd 135 (by decide +kernel) rfl, gd 1591 (by decide +kernel) rfl, ⟨by decide, by decide⟩, by decide +kernel⟩
theorem mw_X1_init : MW yX1_init cX1_init 2 none 1 := ⟨gd 127 (by decide +kernel) rfl, gd 308 (by decide +kernel) rfl, ⟨by decide, by decide⟩, by decide +kernel⟩
theorem mw_X2_init : MW yX2_init cX2_init 1 none 0 := ⟨gd 124 (by decide +kernel) rfl, gd 161 (by decide +kernel) rfl, ⟨by decide, by decide⟩, by decide +kernel⟩
theorem mw_X3_init : MW yX3_init cX3_init 2 none 0 := ⟨gd 129 (by decide +kernel) rfl, gd 373 (by decide +kernel) rfl, ⟨by decide, by decide⟩, by decide +kernel⟩
theorem mw_X4_init : MW yX4_init cX4_init 2 none 1 := ⟨gd 128 (by decide +kernel) rfl, gd 337 (by decide +kernel) rfl, ⟨by decide, by decide⟩, by decide +kernel⟩
theorem mw_X5_init : MW yX5_init cX5_init 4 none 3 := ⟨gd 131 (by decide +kernel) rfl, gd 415 (by decide +kernel) rfl, ⟨by decide, by decide⟩, by decide +kernel⟩
theorem mw_X6_init : MW yX6_init cX6_init 1 none 0 := ⟨gd 134 (by decide +kernel) rfl, gd 494 (by decide +kernel) rfl, ⟨by decide, by decide⟩, by decide +kernel⟩
theorem mw_X7_init : MW yX7_init cX7_init 1 none 0 := ⟨gd 126 (by decide +kernel) rfl, gd 250 (by decide +kernel) rfl, ⟨by decide, by decide⟩, by decide +kernel⟩
theorem mw_X8_init : MW yX8_init cX8_init 2 none 1 := ⟨gd 130 (by decide +kernel) rfl, gd 396 (by decide +kernel) rfl, ⟨by decide, by decide⟩, by decide +kernel⟩
theorem mw_X9_init : MW yX9_init cX9_init 3 none 2 := ⟨gd 132 (by decide +kernel) rfl, gd 456 (by decide +kernel) rfl, ⟨by decide, by decide⟩, by decide +kernel⟩
theorem kl_RL_8 : Gd (.classLink RL 8 RX11) := gd 149 (by decide +kernel) rfl
theorem ki_11 : Gd (.instantiable RX11 12) := gd 150 (by decide +kernel) rfl
theorem kn_11 : Gd (.initialized RX11) := gd 123 (by decide +kernel) rfl
theorem kd_11 : ∀ k, k < 12 → defaultValue (tyX11 k) = zV (kFd 11 k) := by decide +kernel
theorem lo_RX11_5 : Gd (.methodLink RX11 5 objectInit) := gd 154 (by decide +kernel) rfl
theorem mi_obj : Gd (.instanceMethod objectInit) := gd 155 (by decide +kernel) rfl
theorem cw_obj : Gd (.code objectInit ⟨#[0xb1]⟩ 1 none) := gd 156 (by decide +kernel) rfl
theorem kl_RX11_11 : Gd (.classLink RX11 11 RX2) := gd 157 (by decide +kernel) rfl
theorem ki_2 : Gd (.instantiable RX2 7) := gd 158 (by decide +kernel) rfl
theorem kn_2 : Gd (.initialized RX2) := gd 124 (by decide +kernel) rfl
theorem kd_2 : ∀ k, k < 7 → defaultValue (tyX2 k) = zV (kFd 2 k) := by decide +kernel
theorem lo_RX2_3 : Gd (.methodLink RX2 3 objectInit) := gd 162 (by decide +kernel) rfl
theorem ka_byte : Gd (.arrayClass .byte) := gd 189 (by decide +kernel) rfl
theorem pkf_RX2_9 : FPk RX2 9 2 0 2 true (fun v => ∃ a, v = .ref a) := ⟨_, _, _, tyX2, rc2, by decide, by decide +kernel, uw2, gd 163 (by decide +kernel) rfl, rfl, (fun _ => rfl), tyX2_ok, nmX2, (fun v h => by obtain ⟨x, rfl⟩ := h; exact ⟨rfl, rfl⟩)⟩
theorem mii_X2_init : Gd (.instanceMethod yX2_init) ∧ yX2_init.name = "<init>" := ⟨gd 160 (by decide +kernel) rfl, rfl⟩
theorem kl_RX11_14 : Gd (.classLink RX11 14 RX0) := gd 190 (by decide +kernel) rfl
theorem ki_0 : Gd (.instantiable RX0 8) := gd 191 (by decide +kernel) rfl
theorem kn_0 : Gd (.initialized RX0) := gd 125 (by decide +kernel) rfl
theorem kd_0 : ∀ k, k < 8 → defaultValue (tyX0 k) = zV (kFd 0 k) := by decide +kernel
theorem lo_RX0_3 : Gd (.methodLink RX0 3 objectInit) := gd 195 (by decide +kernel) rfl
theorem ka_int : Gd (.arrayClass .int) := gd 245 (by decide +kernel) rfl
theorem pkf_RX0_9 : FPk RX0 9 0 2 2 true (fun v => ∃ a, v = .ref a) := ⟨_, _, _, tyX0, rc0, by decide, by decide +kernel, uw0, gd 207 (by decide +kernel) rfl, rfl, (fun _ => rfl), tyX0_ok, nmX0, (fun v h => by obtain ⟨x, rfl⟩ := h; exact ⟨rfl, rfl⟩)⟩
theorem pkf_RX0_15 : FPk RX0 15 0 3 2 true (fun v => ∃ a, v = .ref a) := ⟨_, _, _, tyX0, rc0, by decide, by decide +kernel, uw0, gd 215 (by decide +kernel) rfl, rfl, (fun _ => rfl), tyX0_ok, nmX0, (fun v h => by obtain ⟨x, rfl⟩ := h; exact ⟨rfl, rfl⟩)⟩
theorem pkf_RX0_18 : FPk RX0 18 0 4 2 true (fun v => ∃ a, v = .ref a) := ⟨_, _, _, tyX0, rc0, by decide, by decide +kernel, uw0, gd 221 (by decide +kernel) rfl, rfl, (fun _ => rfl), tyX0_ok, nmX0, (fun v h => by obtain ⟨x, rfl⟩ := h; exact ⟨rfl, rfl⟩)⟩
theorem pkf_RX0_21 : FPk RX0 21 0 5 2 true (fun v => ∃ a, v = .ref a) := ⟨_, _, _, tyX0, rc0, by decide, by decide +kernel, uw0, gd 223 (by decide +kernel) rfl, rfl, (fun _ => rfl), tyX0_ok, nmX0, (fun v h => by obtain ⟨x, rfl⟩ := h; exact ⟨rfl, rfl⟩)⟩
theorem pkf_RX0_24 : FPk RX0 24 0 6 2 true (fun v => ∃ a, v = .ref a) := ⟨_, _, _, tyX0, rc0, by decide, by decide +kernel, uw0, gd 224 (by decide +kernel) rfl, rfl, (fun _ => rfl), tyX0_ok, nmX0, (fun v h => by obtain ⟨x, rfl⟩ := h; exact ⟨rfl, rfl⟩)⟩
theorem pkf_RX0_27 : FPk RX0 27 0 7 2 true (fun v => ∃ a, v = .ref a) := ⟨_, _, _, tyX0, rc0, by decide, by decide +kernel, uw0, gd 226 (by decide +kernel) rfl, rfl, (fun _ => rfl), tyX0_ok, nmX0, (fun v h => by obtain ⟨x, rfl⟩ := h; exact ⟨rfl, rfl⟩)⟩
theorem mii_X0_init : Gd (.instanceMethod yX0_init) ∧ yX0_init.name = "<init>" := ⟨gd 193 (by decide +kernel) rfl, rfl⟩
theorem kl_RX11_17 : Gd (.classLink RX11 17 RX7) := gd 246 (by decide +kernel) rfl
theorem ki_7 : Gd (.instantiable RX7 9) := gd 247 (by decide +kernel) rfl
theorem kn_7 : Gd (.initialized RX7) := gd 126 (by decide +kernel) rfl
theorem kd_7 : ∀ k, k < 9 → defaultValue (tyX7 k) = zV (kFd 7 k) := by decide +kernel
theorem lo_RX7_3 : Gd (.methodLink RX7 3 objectInit) := gd 251 (by decide +kernel) rfl
theorem pkf_RX7_9 : FPk RX7 9 7 0 2 true (fun v => ∃ a, v = .ref a) := ⟨_, _, _, tyX7, rc7, by decide, by decide +kernel, uw7, gd 252 (by decide +kernel) rfl, rfl, (fun _ => rfl), tyX7_ok, nmX7, (fun v h => by obtain ⟨x, rfl⟩ := h; exact ⟨rfl, rfl⟩)⟩
theorem pkf_RX7_15 : FPk RX7 15 7 1 2 true (fun v => ∃ a, v = .ref a) := ⟨_, _, _, tyX7, rc7, by decide, by decide +kernel, uw7, gd 257 (by decide +kernel) rfl, rfl, (fun _ => rfl), tyX7_ok, nmX7, (fun v h => by obtain ⟨x, rfl⟩ := h; exact ⟨rfl, rfl⟩)⟩
theorem pkf_RX7_18 : FPk RX7 18 7 2 2 true (fun v => ∃ a, v = .ref a) := ⟨_, _, _, tyX7, rc7, by decide, by decide +kernel, uw7, gd 259 (by decide +kernel) rfl, rfl, (fun _ => rfl), tyX7_ok, nmX7, (fun v h => by obtain ⟨x, rfl⟩ := h; exact ⟨rfl, rfl⟩)⟩
theorem pkf_RX7_25 : FPk RX7 25 7 7 2 true (fun v => ∃ a, v = .ref a) := ⟨_, _, _, tyX7, rc7, by decide, by decide +kernel, uw7, gd 281 (by decide +kernel) rfl, rfl, (fun _ => rfl), tyX7_ok, nmX7, (fun v h => by obtain ⟨x, rfl⟩ := h; exact ⟨rfl, rfl⟩)⟩
theorem pkf_RX7_28 : FPk RX7 28 7 8 2 true (fun v => ∃ a, v = .ref a) := ⟨_, _, _, tyX7, rc7, by decide, by decide +kernel, uw7, gd 283 (by decide +kernel) rfl, rfl, (fun _ => rfl), tyX7_ok, nmX7, (fun v h => by obtain ⟨x, rfl⟩ := h; exact ⟨rfl, rfl⟩)⟩
theorem mii_X7_init : Gd (.instanceMethod yX7_init) ∧ yX7_init.name = "<init>" := ⟨gd 249 (by decide +kernel) rfl, rfl⟩
theorem kl_RX11_20 : Gd (.classLink RX11 20 RX1) := gd 304 (by decide +kernel) rfl
theorem ki_1 : Gd (.instantiable RX1 7) := gd 305 (by decide +kernel) rfl
theorem kn_1 : Gd (.initialized RX1) := gd 127 (by decide +kernel) rfl
theorem kd_1 : ∀ k, k < 7 → defaultValue (tyX1 k) = zV (kFd 1 k) := by decide +kernel
theorem lo_RX1_3 : Gd (.methodLink RX1 3 objectInit) := gd 309 (by decide +kernel) rfl
theorem ka_long : Gd (.arrayClass .long) := gd 332 (by decide +kernel) rfl
theorem pkf_RX1_9 : FPk RX1 9 1 3 2 true (fun v => ∃ a, v = .ref a) := ⟨_, _, _, tyX1, rc1, by decide, by decide +kernel, uw1, gd 313 (by decide +kernel) rfl, rfl, (fun _ => rfl), tyX1_ok, nmX1, (fun v h => by obtain ⟨x, rfl⟩ := h; exact ⟨rfl, rfl⟩)⟩
theorem pkf_RX1_15 : FPk RX1 15 1 4 2 true (fun v => ∃ a, v = .ref a) := ⟨_, _, _, tyX1, rc1, by decide, by decide +kernel, uw1, gd 314 (by decide +kernel) rfl, rfl, (fun _ => rfl), tyX1_ok, nmX1, (fun v h => by obtain ⟨x, rfl⟩ := h; exact ⟨rfl, rfl⟩)⟩
theorem pkf_RX1_18 : FPk RX1 18 1 5 2 true (fun v => ∃ a, v = .ref a) := ⟨_, _, _, tyX1, rc1, by decide, by decide +kernel, uw1, gd 315 (by decide +kernel) rfl, rfl, (fun _ => rfl), tyX1_ok, nmX1, (fun v h => by obtain ⟨x, rfl⟩ := h; exact ⟨rfl, rfl⟩)⟩
theorem pkf_RX1_21 : FPk RX1 21 1 6 2 true (fun v => ∃ a, v = .ref a) := ⟨_, _, _, tyX1, rc1, by decide, by decide +kernel, uw1, gd 316 (by decide +kernel) rfl, rfl, (fun _ => rfl), tyX1_ok, nmX1, (fun v h => by obtain ⟨x, rfl⟩ := h; exact ⟨rfl, rfl⟩)⟩
theorem pkf_RX1_24 : FPk RX1 24 1 0 2 true (fun v => ∃ a, v = .ref a) := ⟨_, _, _, tyX1, rc1, by decide, by decide +kernel, uw1, gd 310 (by decide +kernel) rfl, rfl, (fun _ => rfl), tyX1_ok, nmX1, (fun v h => by obtain ⟨x, rfl⟩ := h; exact ⟨rfl, rfl⟩)⟩
theorem mii_X1_init : Gd (.instanceMethod yX1_init) ∧ yX1_init.name = "<init>" := ⟨gd 307 (by decide +kernel) rfl, rfl⟩
theorem pkf_RX11_25 : FPk RX11 25 11 0 2 true (fun v => ∃ a, v = .ref a) := ⟨_, _, _, tyX11, rc11, by decide, by decide +kernel, uw11, gd 505 (by decide +kernel) rfl, rfl, (fun _ => rfl), tyX11_ok, nmX11, (fun v h => by obtain ⟨x, rfl⟩ := h; exact ⟨rfl, rfl⟩)⟩
theorem kl_RX11_29 : Gd (.classLink RX11 29 RX4) := gd 333 (by decide +kernel) rfl
theorem ki_4 : Gd (.instantiable RX4 7) := gd 334 (by decide +kernel) rfl
theorem kn_4 : Gd (.initialized RX4) := gd 128 (by decide +kernel) rfl
theorem kd_4 : ∀ k, k < 7 → defaultValue (tyX4 k) = zV (kFd 4 k) := by decide +kernel
theorem lo_RX4_3 : Gd (.methodLink RX4 3 objectInit) := gd 338 (by decide +kernel) rfl
theorem kl_RX4_9 : Gd (.classLink RX4 9 RX0) := gd 339 (by decide +kernel) rfl
theorem pkf_RX4_12 : FPk RX4 12 4 0 2 true (fun v => ∃ a, v = .ref a) := ⟨_, _, _, tyX4, rc4, by decide, by decide +kernel, uw4, gd 343 (by decide +kernel) rfl, rfl, (fun _ => rfl), tyX4_ok, nmX4, (fun v h => by obtain ⟨x, rfl⟩ := h; exact ⟨rfl, rfl⟩)⟩
theorem kl_RX4_18 : Gd (.classLink RX4 18 RX7) := gd 341 (by decide +kernel) rfl
theorem pkf_RX4_21 : FPk RX4 21 4 1 2 true (fun v => ∃ a, v = .ref a) := ⟨_, _, _, tyX4, rc4, by decide, by decide +kernel, uw4, gd 345 (by decide +kernel) rfl, rfl, (fun _ => rfl), tyX4_ok, nmX4, (fun v h => by obtain ⟨x, rfl⟩ := h; exact ⟨rfl, rfl⟩)⟩
theorem pkf_RX4_29 : FPk RX4 29 4 4 2 true (fun v => ∃ a, v = .ref a) := ⟨_, _, _, tyX4, rc4, by decide, by decide +kernel, uw4, gd 351 (by decide +kernel) rfl, rfl, (fun _ => rfl), tyX4_ok, nmX4, (fun v h => by obtain ⟨x, rfl⟩ := h; exact ⟨rfl, rfl⟩)⟩
theorem mii_X4_init : Gd (.instanceMethod yX4_init) ∧ yX4_init.name = "<init>" := ⟨gd 336 (by decide +kernel) rfl, rfl⟩
theorem pkf_RX11_34 : FPk RX11 34 11 1 2 true (fun v => ∃ a, v = .ref a) := ⟨_, _, _, tyX11, rc11, by decide, by decide +kernel, uw11, gd 506 (by decide +kernel) rfl, rfl, (fun _ => rfl), tyX11_ok, nmX11, (fun v h => by obtain ⟨x, rfl⟩ := h; exact ⟨rfl, rfl⟩)⟩
theorem pkf_RX11_38 : FPk RX11 38 11 2 2 true (fun v => ∃ a, v = .ref a) := ⟨_, _, _, tyX11, rc11, by decide, by decide +kernel, uw11, gd 507 (by decide +kernel) rfl, rfl, (fun _ => rfl), tyX11_ok, nmX11, (fun v h => by obtain ⟨x, rfl⟩ := h; exact ⟨rfl, rfl⟩)⟩
theorem pkf_RX11_42 : FPk RX11 42 11 3 2 true (fun v => ∃ a, v = .ref a) := ⟨_, _, _, tyX11, rc11, by decide, by decide +kernel, uw11, gd 508 (by decide +kernel) rfl, rfl, (fun _ => rfl), tyX11_ok, nmX11, (fun v h => by obtain ⟨x, rfl⟩ := h; exact ⟨rfl, rfl⟩)⟩
theorem kl_RX11_46 : Gd (.classLink RX11 46 RX3) := gd 369 (by decide +kernel) rfl
theorem ki_3 : Gd (.instantiable RX3 4) := gd 370 (by decide +kernel) rfl
theorem kn_3 : Gd (.initialized RX3) := gd 129 (by decide +kernel) rfl
theorem kd_3 : ∀ k, k < 4 → defaultValue (tyX3 k) = zV (kFd 3 k) := by decide +kernel
theorem lo_RX3_3 : Gd (.methodLink RX3 3 objectInit) := gd 374 (by decide +kernel) rfl
theorem kl_RX3_9 : Gd (.classLink RX3 9 RX7) := gd 375 (by decide +kernel) rfl
theorem pkf_RX3_11 : FPk RX3 11 3 1 2 true (fun v => ∃ a, v = .ref a) := ⟨_, _, _, tyX3, rc3, by decide, by decide +kernel, uw3, gd 380 (by decide +kernel) rfl, rfl, (fun _ => rfl), tyX3_ok, nmX3, (fun v h => by obtain ⟨x, rfl⟩ := h; exact ⟨rfl, rfl⟩)⟩
theorem pkf_RX3_17 : FPk RX3 17 3 2 2 true (fun v => ∃ a, v = .ref a) := ⟨_, _, _, tyX3, rc3, by decide, by decide +kernel, uw3, gd 381 (by decide +kernel) rfl, rfl, (fun _ => rfl), tyX3_ok, nmX3, (fun v h => by obtain ⟨x, rfl⟩ := h; exact ⟨rfl, rfl⟩)⟩
theorem mii_X3_init : Gd (.instanceMethod yX3_init) ∧ yX3_init.name = "<init>" := ⟨gd 372 (by decide +kernel) rfl, rfl⟩
theorem pkf_RX11_49 : FPk RX11 49 11 4 2 true (fun v => ∃ a, v = .ref a) := ⟨_, _, _, tyX11, rc11, by decide, by decide +kernel, uw11, gd 509 (by decide +kernel) rfl, rfl, (fun _ => rfl), tyX11_ok, nmX11, (fun v h => by obtain ⟨x, rfl⟩ := h; exact ⟨rfl, rfl⟩)⟩
theorem pkf_RX11_53 : FPk RX11 53 11 5 2 true (fun v => ∃ a, v = .ref a) := ⟨_, _, _, tyX11, rc11, by decide, by decide +kernel, uw11, gd 510 (by decide +kernel) rfl, rfl, (fun _ => rfl), tyX11_ok, nmX11, (fun v h => by obtain ⟨x, rfl⟩ := h; exact ⟨rfl, rfl⟩)⟩
theorem kl_RX11_57 : Gd (.classLink RX11 57 RX8) := gd 392 (by decide +kernel) rfl
theorem ki_8 : Gd (.instantiable RX8 4) := gd 393 (by decide +kernel) rfl
theorem kn_8 : Gd (.initialized RX8) := gd 130 (by decide +kernel) rfl
theorem kd_8 : ∀ k, k < 4 → defaultValue (tyX8 k) = zV (kFd 8 k) := by decide +kernel
theorem lo_RX8_3 : Gd (.methodLink RX8 3 objectInit) := gd 397 (by decide +kernel) rfl
theorem pkf_RX8_18 : FPk RX8 18 8 3 2 true (fun v => ∃ a, v = .ref a) := ⟨_, _, _, tyX8, rc8, by decide, by decide +kernel, uw8, gd 401 (by decide +kernel) rfl, rfl, (fun _ => rfl), tyX8_ok, nmX8, (fun v h => by obtain ⟨x, rfl⟩ := h; exact ⟨rfl, rfl⟩)⟩
theorem pkf_RX8_22 : FPk RX8 22 8 0 2 true (fun v => ∃ a, v = .ref a) := ⟨_, _, _, tyX8, rc8, by decide, by decide +kernel, uw8, gd 398 (by decide +kernel) rfl, rfl, (fun _ => rfl), tyX8_ok, nmX8, (fun v h => by obtain ⟨x, rfl⟩ := h; exact ⟨rfl, rfl⟩)⟩
theorem mii_X8_init : Gd (.instanceMethod yX8_init) ∧ yX8_init.name = "<init>" := ⟨gd 395 (by decide +kernel) rfl, rfl⟩
theorem pkf_RX11_60 : FPk RX11 60 11 6 2 true (fun v => ∃ a, v = .ref a) := ⟨_, _, _, tyX11, rc11, by decide, by decide +kernel, uw11, gd 511 (by decide +kernel) rfl, rfl, (fun _ => rfl), tyX11_ok, nmX11, (fun v h => by obtain ⟨x, rfl⟩ := h; exact ⟨rfl, rfl⟩)⟩
theorem kl_RX11_64 : Gd (.classLink RX11 64 RX5) := gd 411 (by decide +kernel) rfl
theorem ki_5 : Gd (.instantiable RX5 11) := gd 412 (by decide +kernel) rfl
theorem kn_5 : Gd (.initialized RX5) := gd 131 (by decide +kernel) rfl
theorem kd_5 : ∀ k, k < 11 → defaultValue (tyX5 k) = zV (kFd 5 k) := by decide +kernel
theorem lo_RX5_3 : Gd (.methodLink RX5 3 objectInit) := gd 416 (by decide +kernel) rfl
theorem pkf_RX5_9 : FPk RX5 9 5 3 2 true (fun v => ∃ a, v = .ref a) := ⟨_, _, _, tyX5, rc5, by decide, by decide +kernel, uw5, gd 420 (by decide +kernel) rfl, rfl, (fun _ => rfl), tyX5_ok, nmX5, (fun v h => by obtain ⟨x, rfl⟩ := h; exact ⟨rfl, rfl⟩)⟩
theorem pkf_RX5_15 : FPk RX5 15 5 4 2 true (fun v => ∃ a, v = .ref a) := ⟨_, _, _, tyX5, rc5, by decide, by decide +kernel, uw5, gd 421 (by decide +kernel) rfl, rfl, (fun _ => rfl), tyX5_ok, nmX5, (fun v h => by obtain ⟨x, rfl⟩ := h; exact ⟨rfl, rfl⟩)⟩
theorem pkf_RX5_25 : FPk RX5 25 5 8 2 true (fun v => ∃ a, v = .ref a) := ⟨_, _, _, tyX5, rc5, by decide, by decide +kernel, uw5, gd 425 (by decide +kernel) rfl, rfl, (fun _ => rfl), tyX5_ok, nmX5, (fun v h => by obtain ⟨x, rfl⟩ := h; exact ⟨rfl, rfl⟩)⟩
theorem pkf_RX5_29 : FPk RX5 29 5 9 2 true (fun v => ∃ a, v = .ref a) := ⟨_, _, _, tyX5, rc5, by decide, by decide +kernel, uw5, gd 426 (by decide +kernel) rfl, rfl, (fun _ => rfl), tyX5_ok, nmX5, (fun v h => by obtain ⟨x, rfl⟩ := h; exact ⟨rfl, rfl⟩)⟩
theorem pkf_RX5_32 : FPk RX5 32 5 10 2 true (fun v => ∃ a, v = .ref a) := ⟨_, _, _, tyX5, rc5, by decide, by decide +kernel, uw5, gd 427 (by decide +kernel) rfl, rfl, (fun _ => rfl), tyX5_ok, nmX5, (fun v h => by obtain ⟨x, rfl⟩ := h; exact ⟨rfl, rfl⟩)⟩
theorem pkf_RX5_35 : FPk RX5 35 5 0 2 true (fun v => ∃ a, v = .ref a) := ⟨_, _, _, tyX5, rc5, by decide, by decide +kernel, uw5, gd 417 (by decide +kernel) rfl, rfl, (fun _ => rfl), tyX5_ok, nmX5, (fun v h => by obtain ⟨x, rfl⟩ := h; exact ⟨rfl, rfl⟩)⟩
theorem pkf_RX5_39 : FPk RX5 39 5 1 2 true (fun v => ∃ a, v = .ref a) := ⟨_, _, _, tyX5, rc5, by decide, by decide +kernel, uw5, gd 418 (by decide +kernel) rfl, rfl, (fun _ => rfl), tyX5_ok, nmX5, (fun v h => by obtain ⟨x, rfl⟩ := h; exact ⟨rfl, rfl⟩)⟩
theorem pkf_RX5_43 : FPk RX5 43 5 2 2 true (fun v => ∃ a, v = .ref a) := ⟨_, _, _, tyX5, rc5, by decide, by decide +kernel, uw5, gd 419 (by decide +kernel) rfl, rfl, (fun _ => rfl), tyX5_ok, nmX5, (fun v h => by obtain ⟨x, rfl⟩ := h; exact ⟨rfl, rfl⟩)⟩
theorem mii_X5_init : Gd (.instanceMethod yX5_init) ∧ yX5_init.name = "<init>" := ⟨gd 414 (by decide +kernel) rfl, rfl⟩
theorem pkf_RX11_69 : FPk RX11 69 11 7 2 true (fun v => ∃ a, v = .ref a) := ⟨_, _, _, tyX11, rc11, by decide, by decide +kernel, uw11, gd 512 (by decide +kernel) rfl, rfl, (fun _ => rfl), tyX11_ok, nmX11, (fun v h => by obtain ⟨x, rfl⟩ := h; exact ⟨rfl, rfl⟩)⟩
theorem kl_RX11_73 : Gd (.classLink RX11 73 RX9) := gd 452 (by decide +kernel) rfl
theorem ki_9 : Gd (.instantiable RX9 3) := gd 453 (by decide +kernel) rfl
theorem kn_9 : Gd (.initialized RX9) := gd 132 (by decide +kernel) rfl
theorem kd_9 : ∀ k, k < 3 → defaultValue (tyX9 k) = zV (kFd 9 k) := by decide +kernel
theorem lo_RX9_3 : Gd (.methodLink RX9 3 objectInit) := gd 457 (by decide +kernel) rfl
theorem pkf_RX9_9 : FPk RX9 9 9 2 2 true (fun v => ∃ a, v = .ref a) := ⟨_, _, _, tyX9, rc9, by decide, by decide +kernel, uw9, gd 460 (by decide +kernel) rfl, rfl, (fun _ => rfl), tyX9_ok, nmX9, (fun v h => by obtain ⟨x, rfl⟩ := h; exact ⟨rfl, rfl⟩)⟩
theorem pkf_RX9_15 : FPk RX9 15 9 0 2 true (fun v => ∃ a, v = .ref a) := ⟨_, _, _, tyX9, rc9, by decide, by decide +kernel, uw9, gd 458 (by decide +kernel) rfl, rfl, (fun _ => rfl), tyX9_ok, nmX9, (fun v h => by obtain ⟨x, rfl⟩ := h; exact ⟨rfl, rfl⟩)⟩
theorem pkf_RX9_19 : FPk RX9 19 9 1 2 true (fun v => ∃ a, v = .ref a) := ⟨_, _, _, tyX9, rc9, by decide, by decide +kernel, uw9, gd 459 (by decide +kernel) rfl, rfl, (fun _ => rfl), tyX9_ok, nmX9, (fun v h => by obtain ⟨x, rfl⟩ := h; exact ⟨rfl, rfl⟩)⟩
theorem mii_X9_init : Gd (.instanceMethod yX9_init) ∧ yX9_init.name = "<init>" := ⟨gd 455 (by decide +kernel) rfl, rfl⟩
theorem pkf_RX11_78 : FPk RX11 78 11 8 2 true (fun v => ∃ a, v = .ref a) := ⟨_, _, _, tyX11, rc11, by decide, by decide +kernel, uw11, gd 513 (by decide +kernel) rfl, rfl, (fun _ => rfl), tyX11_ok, nmX11, (fun v h => by obtain ⟨x, rfl⟩ := h; exact ⟨rfl, rfl⟩)⟩
theorem kl_RX11_82 : Gd (.classLink RX11 82 RX10) := gd 468 (by decide +kernel) rfl
theorem ki_10 : Gd (.instantiable RX10 4) := gd 469 (by decide +kernel) rfl
theorem kn_10 : Gd (.initialized RX10) := gd 133 (by decide +kernel) rfl
theorem kd_10 : ∀ k, k < 4 → defaultValue (tyX10 k) = zV (kFd 10 k) := by decide +kernel
theorem lo_RX10_3 : Gd (.methodLink RX10 3 objectInit) := gd 473 (by decide +kernel) rfl
theorem pkf_RX10_9 : FPk RX10 9 10 0 2 true (fun v => ∃ a, v = .ref a) := ⟨_, _, _, tyX10, rc10, by decide, by decide +kernel, uw10, gd 474 (by decide +kernel) rfl, rfl, (fun _ => rfl), tyX10_ok, nmX10, (fun v h => by obtain ⟨x, rfl⟩ := h; exact ⟨rfl, rfl⟩)⟩
theorem mii_X10_init : Gd (.instanceMethod yX10_init) ∧ yX10_init.name = "<init>" := ⟨gd 471 (by decide +kernel) rfl, rfl⟩
theorem pkf_RX11_85 : FPk RX11 85 11 9 2 true (fun v => ∃ a, v = .ref a) := ⟨_, _, _, tyX11, rc11, by decide, by decide +kernel, uw11, gd 514 (by decide +kernel) rfl, rfl, (fun _ => rfl), tyX11_ok, nmX11, (fun v h => by obtain ⟨x, rfl⟩ := h; exact ⟨rfl, rfl⟩)⟩
theorem kl_RX11_89 : Gd (.classLink RX11 89 RX6) := gd 490 (by decide +kernel) rfl
theorem ki_6 : Gd (.instantiable RX6 2) := gd 491 (by decide +kernel) rfl
theorem kn_6 : Gd (.initialized RX6) := gd 134 (by decide +kernel) rfl
theorem kd_6 : ∀ k, k < 2 → defaultValue (tyX6 k) = zV (kFd 6 k) := by decide +kernel
theorem lo_RX6_3 : Gd (.methodLink RX6 3 objectInit) := gd 495 (by decide +kernel) rfl
theorem pkf_RX6_11 : FPk RX6 11 6 0 2 true (fun v => ∃ a, v = .ref a) := ⟨_, _, _, tyX6, rc6, by decide, by decide +kernel, uw6, gd 496 (by decide +kernel) rfl, rfl, (fun _ => rfl), tyX6_ok, nmX6, (fun v h => by obtain ⟨x, rfl⟩ := h; exact ⟨rfl, rfl⟩)⟩
theorem mii_X6_init : Gd (.instanceMethod yX6_init) ∧ yX6_init.name = "<init>" := ⟨gd 493 (by decide +kernel) rfl, rfl⟩
theorem pkf_RX11_92 : FPk RX11 92 11 10 2 true (fun v => ∃ a, v = .ref a) := ⟨_, _, _, tyX11, rc11, by decide, by decide +kernel, uw11, gd 515 (by decide +kernel) rfl, rfl, (fun _ => rfl), tyX11_ok, nmX11, (fun v h => by obtain ⟨x, rfl⟩ := h; exact ⟨rfl, rfl⟩)⟩
theorem pkf_RX11_96 : FPk RX11 96 11 11 2 true (fun v => ∃ a, v = .ref a) := ⟨_, _, _, tyX11, rc11, by decide, by decide +kernel, uw11, gd 516 (by decide +kernel) rfl, rfl, (fun _ => rfl), tyX11_ok, nmX11, (fun v h => by obtain ⟨x, rfl⟩ := h; exact ⟨rfl, rfl⟩)⟩
theorem mii_X11_init : Gd (.instanceMethod yX11_init) ∧ yX11_init.name = "<init>" := ⟨gd 152 (by decide +kernel) rfl, rfl⟩
theorem kl_RL_188 : Gd (.classLink RL 188 RX12) := gd 1587 (by decide +kernel) rfl
theorem ki_12 : Gd (.instantiable RX12 32) := gd 1588 (by decide +kernel) rfl
theorem kn_12 : Gd (.initialized RX12) := gd 135 (by decide +kernel) rfl
theorem kd_12 : ∀ k, k < 32 → defaultValue (tyX12 k) = zV (kFd 12 k) := by decide +kernel
theorem lo_RX12_1 : Gd (.methodLink RX12 1 objectInit) := gd 1592 (by decide +kernel) rfl
theorem pkf_RX12_7 : FPk RX12 7 12 2 2 true (fun v => ∃ a, v = .ref a) := ⟨_, _, _, tyX12, rc12, by decide, by decide +kernel, uw12, gd 1595 (by decide +kernel) rfl, rfl, (fun _ => rfl), tyX12_ok, nmX12, (fun v h => by obtain ⟨x, rfl⟩ := h; exact ⟨rfl, rfl⟩)⟩
theorem pkf_RX12_13 : FPk RX12 13 12 3 2 true (fun v => ∃ a, v = .ref a) := ⟨_, _, _, tyX12, rc12, by decide, by decide +kernel, uw12, gd 1596 (by decide +kernel) rfl, rfl, (fun _ => rfl), tyX12_ok, nmX12, (fun v h => by obtain ⟨x, rfl⟩ := h; exact ⟨rfl, rfl⟩)⟩
theorem ka_boolean : Gd (.arrayClass .boolean) := gd 1690 (by decide +kernel) rfl
theorem pkf_RX12_16 : FPk RX12 16 12 5 2 true (fun v => ∃ a, v = .ref a) := ⟨_, _, _, tyX12, rc12, by decide, by decide +kernel, uw12, gd 1598 (by decide +kernel) rfl, rfl, (fun _ => rfl), tyX12_ok, nmX12, (fun v h => by obtain ⟨x, rfl⟩ := h; exact ⟨rfl, rfl⟩)⟩
theorem pkf_RX12_20 : FPk RX12 20 12 6 2 true (fun v => ∃ a, v = .ref a) := ⟨_, _, _, tyX12, rc12, by decide, by decide +kernel, uw12, gd 1599 (by decide +kernel) rfl, rfl, (fun _ => rfl), tyX12_ok, nmX12, (fun v h => by obtain ⟨x, rfl⟩ := h; exact ⟨rfl, rfl⟩)⟩
theorem pkf_RX12_23 : FPk RX12 23 12 7 2 true (fun v => ∃ a, v = .ref a) := ⟨_, _, _, tyX12, rc12, by decide, by decide +kernel, uw12, gd 1600 (by decide +kernel) rfl, rfl, (fun _ => rfl), tyX12_ok, nmX12, (fun v h => by obtain ⟨x, rfl⟩ := h; exact ⟨rfl, rfl⟩)⟩
theorem pkf_RX12_26 : FPk RX12 26 12 8 2 true (fun v => ∃ a, v = .ref a) := ⟨_, _, _, tyX12, rc12, by decide, by decide +kernel, uw12, gd 1601 (by decide +kernel) rfl, rfl, (fun _ => rfl), tyX12_ok, nmX12, (fun v h => by obtain ⟨x, rfl⟩ := h; exact ⟨rfl, rfl⟩)⟩
theorem pkf_RX12_33 : FPk RX12 33 12 16 2 true (fun v => ∃ a, v = .ref a) := ⟨_, _, _, tyX12, rc12, by decide, by decide +kernel, uw12, gd 1609 (by decide +kernel) rfl, rfl, (fun _ => rfl), tyX12_ok, nmX12, (fun v h => by obtain ⟨x, rfl⟩ := h; exact ⟨rfl, rfl⟩)⟩
theorem pkf_RX12_36 : FPk RX12 36 12 21 2 true (fun v => ∃ a, v = .ref a) := ⟨_, _, _, tyX12, rc12, by decide, by decide +kernel, uw12, gd 1614 (by decide +kernel) rfl, rfl, (fun _ => rfl), tyX12_ok, nmX12, (fun v h => by obtain ⟨x, rfl⟩ := h; exact ⟨rfl, rfl⟩)⟩
theorem pkf_RX12_40 : FPk RX12 40 12 22 2 true (fun v => ∃ a, v = .ref a) := ⟨_, _, _, tyX12, rc12, by decide, by decide +kernel, uw12, gd 1615 (by decide +kernel) rfl, rfl, (fun _ => rfl), tyX12_ok, nmX12, (fun v h => by obtain ⟨x, rfl⟩ := h; exact ⟨rfl, rfl⟩)⟩
theorem pkf_RX12_43 : FPk RX12 43 12 23 2 true (fun v => ∃ a, v = .ref a) := ⟨_, _, _, tyX12, rc12, by decide, by decide +kernel, uw12, gd 1616 (by decide +kernel) rfl, rfl, (fun _ => rfl), tyX12_ok, nmX12, (fun v h => by obtain ⟨x, rfl⟩ := h; exact ⟨rfl, rfl⟩)⟩
theorem pkf_RX12_46 : FPk RX12 46 12 24 2 true (fun v => ∃ a, v = .ref a) := ⟨_, _, _, tyX12, rc12, by decide, by decide +kernel, uw12, gd 1617 (by decide +kernel) rfl, rfl, (fun _ => rfl), tyX12_ok, nmX12, (fun v h => by obtain ⟨x, rfl⟩ := h; exact ⟨rfl, rfl⟩)⟩
theorem pkf_RX12_49 : FPk RX12 49 12 25 2 true (fun v => ∃ a, v = .ref a) := ⟨_, _, _, tyX12, rc12, by decide, by decide +kernel, uw12, gd 1618 (by decide +kernel) rfl, rfl, (fun _ => rfl), tyX12_ok, nmX12, (fun v h => by obtain ⟨x, rfl⟩ := h; exact ⟨rfl, rfl⟩)⟩
theorem pkf_RX12_52 : FPk RX12 52 12 26 2 true (fun v => ∃ a, v = .ref a) := ⟨_, _, _, tyX12, rc12, by decide, by decide +kernel, uw12, gd 1619 (by decide +kernel) rfl, rfl, (fun _ => rfl), tyX12_ok, nmX12, (fun v h => by obtain ⟨x, rfl⟩ := h; exact ⟨rfl, rfl⟩)⟩
theorem pkf_RX12_55 : FPk RX12 55 12 27 2 true (fun v => ∃ a, v = .ref a) := ⟨_, _, _, tyX12, rc12, by decide, by decide +kernel, uw12, gd 1620 (by decide +kernel) rfl, rfl, (fun _ => rfl), tyX12_ok, nmX12, (fun v h => by obtain ⟨x, rfl⟩ := h; exact ⟨rfl, rfl⟩)⟩
theorem pkf_RX12_58 : FPk RX12 58 12 30 2 true (fun v => ∃ a, v = .ref a) := ⟨_, _, _, tyX12, rc12, by decide, by decide +kernel, uw12, gd 1623 (by decide +kernel) rfl, rfl, (fun _ => rfl), tyX12_ok, nmX12, (fun v h => by obtain ⟨x, rfl⟩ := h; exact ⟨rfl, rfl⟩)⟩
theorem mii_X12_init : Gd (.instanceMethod yX12_init) ∧ yX12_init.name = "<init>" := ⟨gd 1590 (by decide +kernel) rfl, rfl⟩
theorem ka_double : Gd (.arrayClass .double) := gd 2261 (by decide +kernel) rfl
def mm1 : Mem := sR M00 1 0 (some 2)
theorem zr1 : Zr 3 mm1 := (Zr_00.mono (by decide)).sR (by decide) (by decide)
def mm2 : Mem := sR mm1 3 2 (some 4)
theorem zr2 : Zr 5 mm2 := (zr1.mono (by decide)).sR (by decide) (by decide)
def mm3 : Mem := sR mm2 3 3 (some 5)
theorem zr3 : Zr 6 mm3 := (zr2.mono (by decide)).sR (by decide) (by decide)
def mm4 : Mem := sR mm3 3 4 (some 6)
theorem zr4 : Zr 7 mm4 := (zr3.mono (by decide)).sR (by decide) (by decide)
def mm5 : Mem := sR mm4 3 5 (some 7)
theorem zr5 : Zr 8 mm5 := (zr4.mono (by decide)).sR (by decide) (by decide)
def mm6 : Mem := sR mm5 3 6 (some 8)
theorem zr6 : Zr 9 mm6 := (zr5.mono (by decide)).sR (by decide) (by decide)
def mm7 : Mem := sR mm6 3 7 (some 9)
theorem zr7 : Zr 10 mm7 := (zr6.mono (by decide)).sR (by decide) (by decide)
def mm8 : Mem := sR mm7 10 0 (some 11)
theorem zr8 : Zr 12 mm8 := (zr7.mono (by decide)).sR (by decide) (by decide)
def mm9 : Mem := sR mm8 10 1 (some 12)
theorem zr9 : Zr 13 mm9 := (zr8.mono (by decide)).sR (by decide) (by decide)
def mm10 : Mem := sR mm9 10 2 (some 13)
theorem zr10 : Zr 14 mm10 := (zr9.mono (by decide)).sR (by decide) (by decide)
def mm11 : Mem := sI mm10 10 6 (-1 : Int32)
theorem zr11 : Zr 14 mm11 := (zr10.mono (by decide)).sI (by decide)
def mm12 : Mem := sR mm11 10 7 (some 14)
theorem zr12 : Zr 15 mm12 := (zr11.mono (by decide)).sR (by decide) (by decide)
def mm13 : Mem := sR mm12 10 8 (some 15)
theorem zr13 : Zr 16 mm13 := (zr12.mono (by decide)).sR (by decide) (by decide)
def mm14 : Mem := sR mm13 16 3 (some 17)
theorem zr14 : Zr 18 mm14 := (zr13.mono (by decide)).sR (by decide) (by decide)
def mm15 : Mem := sR mm14 16 4 (some 18)
theorem zr15 : Zr 19 mm15 := (zr14.mono (by decide)).sR (by decide) (by decide)
def mm16 : Mem := sR mm15 16 5 (some 19)
theorem zr16 : Zr 20 mm16 := (zr15.mono (by decide)).sR (by decide) (by decide)
def mm17 : Mem := sR mm16 16 6 (some 20)
theorem zr17 : Zr 21 mm17 := (zr16.mono (by decide)).sR (by decide) (by decide)
def mm18 : Mem := sR mm17 16 0 (some 3)
theorem zr18 : Zr 21 mm18 := (zr17.mono (by decide)).sR (by decide) (by decide)
def mm19 : Mem := sR mm18 0 0 (some 1)
theorem zr19 : Zr 21 mm19 := (zr18.mono (by decide)).sR (by decide) (by decide)
def mm20 : Mem := sR mm19 22 2 (some 23)
theorem zr20 : Zr 24 mm20 := (zr19.mono (by decide)).sR (by decide) (by decide)
def mm21 : Mem := sR mm20 22 3 (some 24)
theorem zr21 : Zr 25 mm21 := (zr20.mono (by decide)).sR (by decide) (by decide)
def mm22 : Mem := sR mm21 22 4 (some 25)
theorem zr22 : Zr 26 mm22 := (zr21.mono (by decide)).sR (by decide) (by decide)
def mm23 : Mem := sR mm22 22 5 (some 26)
theorem zr23 : Zr 27 mm23 := (zr22.mono (by decide)).sR (by decide) (by decide)
def mm24 : Mem := sR mm23 22 6 (some 27)
theorem zr24 : Zr 28 mm24 := (zr23.mono (by decide)).sR (by decide) (by decide)
def mm25 : Mem := sR mm24 22 7 (some 28)
theorem zr25 : Zr 29 mm25 := (zr24.mono (by decide)).sR (by decide) (by decide)
def mm26 : Mem := sR mm25 21 0 (some 22)
theorem zr26 : Zr 29 mm26 := (zr25.mono (by decide)).sR (by decide) (by decide)
def mm27 : Mem := sR mm26 29 0 (some 30)
theorem zr27 : Zr 31 mm27 := (zr26.mono (by decide)).sR (by decide) (by decide)
def mm28 : Mem := sR mm27 29 1 (some 31)
theorem zr28 : Zr 32 mm28 := (zr27.mono (by decide)).sR (by decide) (by decide)
def mm29 : Mem := sR mm28 29 2 (some 32)
theorem zr29 : Zr 33 mm29 := (zr28.mono (by decide)).sR (by decide) (by decide)
def mm30 : Mem := sI mm29 29 6 (-1 : Int32)
theorem zr30 : Zr 33 mm30 := (zr29.mono (by decide)).sI (by decide)
def mm31 : Mem := sR mm30 29 7 (some 33)
theorem zr31 : Zr 34 mm31 := (zr30.mono (by decide)).sR (by decide) (by decide)
def mm32 : Mem := sR mm31 29 8 (some 34)
theorem zr32 : Zr 35 mm32 := (zr31.mono (by decide)).sR (by decide) (by decide)
def mm33 : Mem := sR mm32 21 1 (some 29)
theorem zr33 : Zr 35 mm33 := (zr32.mono (by decide)).sR (by decide) (by decide)
def mm34 : Mem := sI mm33 21 3 (-1 : Int32)
theorem zr34 : Zr 35 mm34 := (zr33.mono (by decide)).sI (by decide)
def mm35 : Mem := sR mm34 21 4 (some 1)
theorem zr35 : Zr 35 mm35 := (zr34.mono (by decide)).sR (by decide) (by decide)
def mm36 : Mem := sR mm35 0 1 (some 21)
theorem zr36 : Zr 35 mm36 := (zr35.mono (by decide)).sR (by decide) (by decide)
def mm37 : Mem := sR mm36 0 2 (some 3)
theorem zr37 : Zr 35 mm37 := (zr36.mono (by decide)).sR (by decide) (by decide)
def mm38 : Mem := sR mm37 0 3 (some 10)
theorem zr38 : Zr 35 mm38 := (zr37.mono (by decide)).sR (by decide) (by decide)
def mm39 : Mem := sR mm38 35 1 (some 36)
theorem zr39 : Zr 37 mm39 := (zr38.mono (by decide)).sR (by decide) (by decide)
def mm40 : Mem := sR mm39 35 2 (some 37)
theorem zr40 : Zr 38 mm40 := (zr39.mono (by decide)).sR (by decide) (by decide)
def mm41 : Mem := sR mm40 38 0 (some 39)
theorem zr41 : Zr 40 mm41 := (zr40.mono (by decide)).sR (by decide) (by decide)
def mm42 : Mem := sR mm41 38 1 (some 40)
theorem zr42 : Zr 41 mm42 := (zr41.mono (by decide)).sR (by decide) (by decide)
def mm43 : Mem := sR mm42 38 2 (some 41)
theorem zr43 : Zr 42 mm43 := (zr42.mono (by decide)).sR (by decide) (by decide)
def mm44 : Mem := sI mm43 38 6 (-1 : Int32)
theorem zr44 : Zr 42 mm44 := (zr43.mono (by decide)).sI (by decide)
def mm45 : Mem := sR mm44 38 7 (some 42)
theorem zr45 : Zr 43 mm45 := (zr44.mono (by decide)).sR (by decide) (by decide)
def mm46 : Mem := sR mm45 38 8 (some 43)
theorem zr46 : Zr 44 mm46 := (zr45.mono (by decide)).sR (by decide) (by decide)
def mm47 : Mem := sR mm46 36 0 (some 38)
theorem zr47 : Zr 44 mm47 := (zr46.mono (by decide)).sR (by decide) (by decide)
def mm48 : Mem := sR mm47 44 0 (some 45)
theorem zr48 : Zr 46 mm48 := (zr47.mono (by decide)).sR (by decide) (by decide)
def mm49 : Mem := sR mm48 44 1 (some 46)
theorem zr49 : Zr 47 mm49 := (zr48.mono (by decide)).sR (by decide) (by decide)
def mm50 : Mem := sR mm49 44 2 (some 47)
theorem zr50 : Zr 48 mm50 := (zr49.mono (by decide)).sR (by decide) (by decide)
def mm51 : Mem := sI mm50 44 6 (-1 : Int32)
theorem zr51 : Zr 48 mm51 := (zr50.mono (by decide)).sI (by decide)
def mm52 : Mem := sR mm51 44 7 (some 48)
theorem zr52 : Zr 49 mm52 := (zr51.mono (by decide)).sR (by decide) (by decide)
def mm53 : Mem := sR mm52 44 8 (some 49)
theorem zr53 : Zr 50 mm53 := (zr52.mono (by decide)).sR (by decide) (by decide)
def mm54 : Mem := sR mm53 36 1 (some 44)
theorem zr54 : Zr 50 mm54 := (zr53.mono (by decide)).sR (by decide) (by decide)
def mm55 : Mem := sR mm54 50 0 (some 51)
theorem zr55 : Zr 52 mm55 := (zr54.mono (by decide)).sR (by decide) (by decide)
def mm56 : Mem := sR mm55 50 1 (some 52)
theorem zr56 : Zr 53 mm56 := (zr55.mono (by decide)).sR (by decide) (by decide)
def mm57 : Mem := sR mm56 50 2 (some 53)
theorem zr57 : Zr 54 mm57 := (zr56.mono (by decide)).sR (by decide) (by decide)
def mm58 : Mem := sI mm57 50 6 (-1 : Int32)
theorem zr58 : Zr 54 mm58 := (zr57.mono (by decide)).sI (by decide)
def mm59 : Mem := sR mm58 50 7 (some 54)
theorem zr59 : Zr 55 mm59 := (zr58.mono (by decide)).sR (by decide) (by decide)
def mm60 : Mem := sR mm59 50 8 (some 55)
theorem zr60 : Zr 56 mm60 := (zr59.mono (by decide)).sR (by decide) (by decide)
def mm61 : Mem := sR mm60 36 2 (some 50)
theorem zr61 : Zr 56 mm61 := (zr60.mono (by decide)).sR (by decide) (by decide)
def mm62 : Mem := sR mm61 56 0 (some 57)
theorem zr62 : Zr 58 mm62 := (zr61.mono (by decide)).sR (by decide) (by decide)
def mm63 : Mem := sR mm62 56 1 (some 58)
theorem zr63 : Zr 59 mm63 := (zr62.mono (by decide)).sR (by decide) (by decide)
def mm64 : Mem := sR mm63 56 2 (some 59)
theorem zr64 : Zr 60 mm64 := (zr63.mono (by decide)).sR (by decide) (by decide)
def mm65 : Mem := sI mm64 56 6 (-1 : Int32)
theorem zr65 : Zr 60 mm65 := (zr64.mono (by decide)).sI (by decide)
def mm66 : Mem := sR mm65 56 7 (some 60)
theorem zr66 : Zr 61 mm66 := (zr65.mono (by decide)).sR (by decide) (by decide)
def mm67 : Mem := sR mm66 56 8 (some 61)
theorem zr67 : Zr 62 mm67 := (zr66.mono (by decide)).sR (by decide) (by decide)
def mm68 : Mem := sR mm67 36 3 (some 56)
theorem zr68 : Zr 62 mm68 := (zr67.mono (by decide)).sR (by decide) (by decide)
def mm69 : Mem := sR mm68 62 0 (some 63)
theorem zr69 : Zr 64 mm69 := (zr68.mono (by decide)).sR (by decide) (by decide)
def mm70 : Mem := sR mm69 62 1 (some 64)
theorem zr70 : Zr 65 mm70 := (zr69.mono (by decide)).sR (by decide) (by decide)
def mm71 : Mem := sR mm70 62 2 (some 65)
theorem zr71 : Zr 66 mm71 := (zr70.mono (by decide)).sR (by decide) (by decide)
def mm72 : Mem := sI mm71 62 6 (-1 : Int32)
theorem zr72 : Zr 66 mm72 := (zr71.mono (by decide)).sI (by decide)
def mm73 : Mem := sR mm72 62 7 (some 66)
theorem zr73 : Zr 67 mm73 := (zr72.mono (by decide)).sR (by decide) (by decide)
def mm74 : Mem := sR mm73 62 8 (some 67)
theorem zr74 : Zr 68 mm74 := (zr73.mono (by decide)).sR (by decide) (by decide)
def mm75 : Mem := sR mm74 36 4 (some 62)
theorem zr75 : Zr 68 mm75 := (zr74.mono (by decide)).sR (by decide) (by decide)
def mm76 : Mem := sR mm75 68 0 (some 69)
theorem zr76 : Zr 70 mm76 := (zr75.mono (by decide)).sR (by decide) (by decide)
def mm77 : Mem := sR mm76 68 1 (some 70)
theorem zr77 : Zr 71 mm77 := (zr76.mono (by decide)).sR (by decide) (by decide)
def mm78 : Mem := sR mm77 68 2 (some 71)
theorem zr78 : Zr 72 mm78 := (zr77.mono (by decide)).sR (by decide) (by decide)
def mm79 : Mem := sI mm78 68 6 (-1 : Int32)
theorem zr79 : Zr 72 mm79 := (zr78.mono (by decide)).sI (by decide)
def mm80 : Mem := sR mm79 68 7 (some 72)
theorem zr80 : Zr 73 mm80 := (zr79.mono (by decide)).sR (by decide) (by decide)
def mm81 : Mem := sR mm80 68 8 (some 73)
theorem zr81 : Zr 74 mm81 := (zr80.mono (by decide)).sR (by decide) (by decide)
def mm82 : Mem := sR mm81 36 5 (some 68)
theorem zr82 : Zr 74 mm82 := (zr81.mono (by decide)).sR (by decide) (by decide)
def mm83 : Mem := sR mm82 74 0 (some 75)
theorem zr83 : Zr 76 mm83 := (zr82.mono (by decide)).sR (by decide) (by decide)
def mm84 : Mem := sR mm83 74 1 (some 76)
theorem zr84 : Zr 77 mm84 := (zr83.mono (by decide)).sR (by decide) (by decide)
def mm85 : Mem := sR mm84 74 2 (some 77)
theorem zr85 : Zr 78 mm85 := (zr84.mono (by decide)).sR (by decide) (by decide)
def mm86 : Mem := sI mm85 74 6 (-1 : Int32)
theorem zr86 : Zr 78 mm86 := (zr85.mono (by decide)).sI (by decide)
def mm87 : Mem := sR mm86 74 7 (some 78)
theorem zr87 : Zr 79 mm87 := (zr86.mono (by decide)).sR (by decide) (by decide)
def mm88 : Mem := sR mm87 74 8 (some 79)
theorem zr88 : Zr 80 mm88 := (zr87.mono (by decide)).sR (by decide) (by decide)
def mm89 : Mem := sR mm88 36 6 (some 74)
theorem zr89 : Zr 80 mm89 := (zr88.mono (by decide)).sR (by decide) (by decide)
def mm90 : Mem := sR mm89 80 0 (some 81)
theorem zr90 : Zr 82 mm90 := (zr89.mono (by decide)).sR (by decide) (by decide)
def mm91 : Mem := sR mm90 80 1 (some 82)
theorem zr91 : Zr 83 mm91 := (zr90.mono (by decide)).sR (by decide) (by decide)
def mm92 : Mem := sR mm91 80 2 (some 83)
theorem zr92 : Zr 84 mm92 := (zr91.mono (by decide)).sR (by decide) (by decide)
def mm93 : Mem := sI mm92 80 6 (-1 : Int32)
theorem zr93 : Zr 84 mm93 := (zr92.mono (by decide)).sI (by decide)
def mm94 : Mem := sR mm93 80 7 (some 84)
theorem zr94 : Zr 85 mm94 := (zr93.mono (by decide)).sR (by decide) (by decide)
def mm95 : Mem := sR mm94 80 8 (some 85)
theorem zr95 : Zr 86 mm95 := (zr94.mono (by decide)).sR (by decide) (by decide)
def mm96 : Mem := sR mm95 37 0 (some 80)
theorem zr96 : Zr 86 mm96 := (zr95.mono (by decide)).sR (by decide) (by decide)
def mm97 : Mem := sR mm96 86 0 (some 87)
theorem zr97 : Zr 88 mm97 := (zr96.mono (by decide)).sR (by decide) (by decide)
def mm98 : Mem := sR mm97 86 1 (some 88)
theorem zr98 : Zr 89 mm98 := (zr97.mono (by decide)).sR (by decide) (by decide)
def mm99 : Mem := sR mm98 86 2 (some 89)
theorem zr99 : Zr 90 mm99 := (zr98.mono (by decide)).sR (by decide) (by decide)
def mm100 : Mem := sI mm99 86 6 (-1 : Int32)
theorem zr100 : Zr 90 mm100 := (zr99.mono (by decide)).sI (by decide)
def mm101 : Mem := sR mm100 86 7 (some 90)
theorem zr101 : Zr 91 mm101 := (zr100.mono (by decide)).sR (by decide) (by decide)
def mm102 : Mem := sR mm101 86 8 (some 91)
theorem zr102 : Zr 92 mm102 := (zr101.mono (by decide)).sR (by decide) (by decide)
def mm103 : Mem := sR mm102 37 1 (some 86)
theorem zr103 : Zr 92 mm103 := (zr102.mono (by decide)).sR (by decide) (by decide)
def mm104 : Mem := sR mm103 0 4 (some 35)
theorem zr104 : Zr 92 mm104 := (zr103.mono (by decide)).sR (by decide) (by decide)
def mm105 : Mem := sR mm104 0 5 (some 16)
theorem zr105 : Zr 92 mm105 := (zr104.mono (by decide)).sR (by decide) (by decide)
def mm106 : Mem := sR mm105 92 1 (some 93)
theorem zr106 : Zr 94 mm106 := (zr105.mono (by decide)).sR (by decide) (by decide)
def mm107 : Mem := sR mm106 92 2 (some 94)
theorem zr107 : Zr 95 mm107 := (zr106.mono (by decide)).sR (by decide) (by decide)
def mm108 : Mem := sR mm107 92 3 (some 95)
theorem zr108 : Zr 96 mm108 := (zr107.mono (by decide)).sR (by decide) (by decide)
def mm109 : Mem := sR mm108 92 0 (some 3)
theorem zr109 : Zr 96 mm109 := (zr108.mono (by decide)).sR (by decide) (by decide)
def mm110 : Mem := sR mm109 0 6 (some 92)
theorem zr110 : Zr 96 mm110 := (zr109.mono (by decide)).sR (by decide) (by decide)
def mm111 : Mem := sR mm110 96 3 (some 97)
theorem zr111 : Zr 98 mm111 := (zr110.mono (by decide)).sR (by decide) (by decide)
def mm112 : Mem := sR mm111 96 4 (some 98)
theorem zr112 : Zr 99 mm112 := (zr111.mono (by decide)).sR (by decide) (by decide)
def mm113 : Mem := sI mm112 96 5 (-1 : Int32)
theorem zr113 : Zr 99 mm113 := (zr112.mono (by decide)).sI (by decide)
def mm114 : Mem := sI mm113 96 6 (-1 : Int32)
theorem zr114 : Zr 99 mm114 := (zr113.mono (by decide)).sI (by decide)
def mm115 : Mem := sR mm114 96 8 (some 99)
theorem zr115 : Zr 100 mm115 := (zr114.mono (by decide)).sR (by decide) (by decide)
def mm116 : Mem := sR mm115 96 9 (some 100)
theorem zr116 : Zr 101 mm116 := (zr115.mono (by decide)).sR (by decide) (by decide)
def mm117 : Mem := sR mm116 96 10 (some 101)
theorem zr117 : Zr 102 mm117 := (zr116.mono (by decide)).sR (by decide) (by decide)
def mm118 : Mem := sR mm117 96 0 (some 3)
theorem zr118 : Zr 102 mm118 := (zr117.mono (by decide)).sR (by decide) (by decide)
def mm119 : Mem := sR mm118 96 1 (some 10)
theorem zr119 : Zr 102 mm119 := (zr118.mono (by decide)).sR (by decide) (by decide)
def mm120 : Mem := sR mm119 96 2 (some 16)
theorem zr120 : Zr 102 mm120 := (zr119.mono (by decide)).sR (by decide) (by decide)
def mm121 : Mem := sR mm120 0 7 (some 96)
theorem zr121 : Zr 102 mm121 := (zr120.mono (by decide)).sR (by decide) (by decide)
def mm122 : Mem := sR mm121 102 2 (some 103)
theorem zr122 : Zr 104 mm122 := (zr121.mono (by decide)).sR (by decide) (by decide)
def mm123 : Mem := sR mm122 102 0 (some 3)
theorem zr123 : Zr 104 mm123 := (zr122.mono (by decide)).sR (by decide) (by decide)
def mm124 : Mem := sR mm123 102 1 (some 10)
theorem zr124 : Zr 104 mm124 := (zr123.mono (by decide)).sR (by decide) (by decide)
def mm125 : Mem := sR mm124 0 8 (some 102)
theorem zr125 : Zr 104 mm125 := (zr124.mono (by decide)).sR (by decide) (by decide)
def mm126 : Mem := sR mm125 104 0 (some 3)
theorem zr126 : Zr 105 mm126 := (zr125.mono (by decide)).sR (by decide) (by decide)
def mm127 : Mem := sR mm126 0 9 (some 104)
theorem zr127 : Zr 105 mm127 := (zr126.mono (by decide)).sR (by decide) (by decide)
def mm128 : Mem := sR mm127 105 0 (some 106)
theorem zr128 : Zr 107 mm128 := (zr127.mono (by decide)).sR (by decide) (by decide)
def mm129 : Mem := sR mm128 0 10 (some 105)
theorem zr129 : Zr 107 mm129 := (zr128.mono (by decide)).sR (by decide) (by decide)
def mm130 : Mem := sR mm129 0 11 (some 107)
theorem zr130 : Zr 108 mm130 := (zr129.mono (by decide)).sR (by decide) (by decide)
def mm131 : Mem := sR mm130 108 2 (some 109)
theorem zr131 : Zr 110 mm131 := (zr130.mono (by decide)).sR (by decide) (by decide)
def mm132 : Mem := sR mm131 108 3 (some 110)
theorem zr132 : Zr 111 mm132 := (zr131.mono (by decide)).sR (by decide) (by decide)
def mm133 : Mem := sR mm132 108 5 (some 111)
theorem zr133 : Zr 112 mm133 := (zr132.mono (by decide)).sR (by decide) (by decide)
def mm134 : Mem := sR mm133 108 6 (some 112)
theorem zr134 : Zr 113 mm134 := (zr133.mono (by decide)).sR (by decide) (by decide)
def mm135 : Mem := sR mm134 108 7 (some 113)
theorem zr135 : Zr 114 mm135 := (zr134.mono (by decide)).sR (by decide) (by decide)
def mm136 : Mem := sR mm135 108 8 (some 114)
theorem zr136 : Zr 115 mm136 := (zr135.mono (by decide)).sR (by decide) (by decide)
def mm137 : Mem := sI mm136 108 11 (-1 : Int32)
theorem zr137 : Zr 115 mm137 := (zr136.mono (by decide)).sI (by decide)
def mm138 : Mem := sR mm137 108 16 (some 115)
theorem zr138 : Zr 116 mm138 := (zr137.mono (by decide)).sR (by decide) (by decide)
def mm139 : Mem := sR mm138 108 21 (some 116)
theorem zr139 : Zr 117 mm139 := (zr138.mono (by decide)).sR (by decide) (by decide)
def mm140 : Mem := sR mm139 108 22 (some 117)
theorem zr140 : Zr 118 mm140 := (zr139.mono (by decide)).sR (by decide) (by decide)
def mm141 : Mem := sR mm140 108 23 (some 118)
theorem zr141 : Zr 119 mm141 := (zr140.mono (by decide)).sR (by decide) (by decide)
def mm142 : Mem := sR mm141 108 24 (some 119)
theorem zr142 : Zr 120 mm142 := (zr141.mono (by decide)).sR (by decide) (by decide)
def mm143 : Mem := sR mm142 108 25 (some 120)
theorem zr143 : Zr 121 mm143 := (zr142.mono (by decide)).sR (by decide) (by decide)
def mm144 : Mem := sR mm143 108 26 (some 121)
theorem zr144 : Zr 122 mm144 := (zr143.mono (by decide)).sR (by decide) (by decide)
def mm145 : Mem := sR mm144 108 27 (some 122)
theorem zr145 : Zr 123 mm145 := (zr144.mono (by decide)).sR (by decide) (by decide)
def mm146 : Mem := sR mm145 108 30 (some 123)
theorem zr146 : Zr 124 mm146 := (zr145.mono (by decide)).sR (by decide) (by decide)
set_option maxRecDepth 100000 in
theorem k_X2_init_1 {Γ : WC} (hG : HG Γ) (hov : va_AO "DecisionChain$Settings" (wU Γ)) : CtD Γ yX2_init cX2_init 1 (rmL 1 1 1200) 2 3 [1] M00 mm1 := by
  refine mkD hG (own := RX2) rfl (by decide) rfl (fun _ => Nat.le_of_ble_eq_true rfl) (fun ad0 X C hI E => ?_)
  have hag : agr 2 ad0 ad0 := fun _ _ => rfl
  change G (gn Γ ad0 2) X M00 0 0 [some (.ref (ad0 1))] [] 0
  refine x_aload_n (C.gn ad0 2) rfl rfl (dkAt dk_X2_init 0 rfl) 1 rfl ?_
  refine d_obj C lo_RX2_3 mi_obj cw_obj ⟨by decide, by decide⟩ (by decide) (dkAt dk_X2_init 1 rfl) 4 rfl ?_
  refine x_aload_n (C.gn ad0 2) rfl rfl (dkAt dk_X2_init 2 rfl) 5 rfl ?_
  refine x_sipush (C.gn ad0 2) (v := (1200 : Int32)) (by decide) (dkAt dk_X2_init 3 rfl) 8 rfl ?_
  refine d_newa C (ty := .byte) (L := [some (.inr 1)]) (st := [.inr 1]) sh2 (by decide) rfl ka_byte rfl (fun _ => rfl) ⟨by decide, by decide, by decide⟩ (Zr_00.mono (by decide)) ⟨by decide, by decide⟩ hag (by decide) rfl rfl (by decide) (by decide) (dkAt dk_X2_init 4 rfl) 10 rfl (cs1 := 1) (sl1 := 1200) rfl rfl (fun ad hag => ?_)
  change G (gn Γ ad 3) X M00 1 1200 [some (.ref (ad 1))] [.ref (ad 2), .ref (ad 1)] 10
  refine x_putFR (C.gn ad 3) hI (kk := some) (rM := mm1) (fun _ _ => trivial) pkf_RX2_9 ⟨_, rfl⟩ rfl (dkAt dk_X2_init 5 rfl) 13 rfl rfl (fun M1 hM => ?_)
  cases hM
  exact d_vret C E hag (by decide) (by decide) (dkAt dk_X2_init 6 rfl)
set_option maxRecDepth 100000 in
theorem k_X0_init_3 {Γ : WC} (hG : HG Γ) (hov : va_AO "DecisionChain$Settings" (wU Γ)) : CtD Γ yX0_init cX0_init 1 (rmL 1 6 312) 4 10 [3] mm1 mm7 := by
  refine mkD hG (own := RX0) rfl (by decide) rfl (fun _ => Nat.le_of_ble_eq_true rfl) (fun ad0 X C hI E => ?_)
  have hag : agr 4 ad0 ad0 := fun _ _ => rfl
  change G (gn Γ ad0 4) X mm1 0 0 [some (.ref (ad0 3))] [] 0
  refine x_aload_n (C.gn ad0 4) rfl rfl (dkAt dk_X0_init 0 rfl) 1 rfl ?_
  refine d_obj C lo_RX0_3 mi_obj cw_obj ⟨by decide, by decide⟩ (by decide) (dkAt dk_X0_init 1 rfl) 4 rfl ?_
  refine x_aload_n (C.gn ad0 4) rfl rfl (dkAt dk_X0_init 2 rfl) 5 rfl ?_
  refine x_bipush (C.gn ad0 4) (v := (6 : Int32)) (by decide) (dkAt dk_X0_init 3 rfl) 7 rfl ?_
  refine d_newa C (ty := .int) (L := [some (.inr 3)]) (st := [.inr 3]) sh4 (by decide) rfl ka_int rfl (fun _ => rfl) ⟨by decide, by decide, by decide⟩ (zr1.mono (by decide)) ⟨by decide, by decide⟩ hag (by decide) rfl rfl (by decide) (by decide) (dkAt dk_X0_init 4 rfl) 9 rfl (cs1 := 1) (sl1 := 6) rfl rfl (fun ad hag => ?_)
  change G (gn Γ ad 5) X mm1 1 6 [some (.ref (ad 3))] [.ref (ad 4), .ref (ad 3)] 9
  refine x_putFR (C.gn ad 5) hI (kk := some) (rM := mm2) (fun _ _ => trivial) pkf_RX0_9 ⟨_, rfl⟩ rfl (dkAt dk_X0_init 5 rfl) 12 rfl rfl (fun M1 hM => ?_)
  cases hM
  refine x_aload_n (C.gn ad 5) rfl rfl (dkAt dk_X0_init 6 rfl) 13 rfl ?_
  refine x_bipush (C.gn ad 5) (v := (18 : Int32)) (by decide) (dkAt dk_X0_init 7 rfl) 15 rfl ?_
  refine d_newa C (ty := .int) (L := [some (.inr 3)]) (st := [.inr 3]) sh5 (by decide) rfl ka_int rfl (fun _ => rfl) ⟨by decide, by decide, by decide⟩ (zr2.mono (by decide)) ⟨by decide, by decide⟩ hag (by decide) rfl rfl (by decide) (by decide) (dkAt dk_X0_init 8 rfl) 17 rfl (cs1 := 2) (sl1 := 24) rfl rfl (fun ad hag => ?_)
  change G (gn Γ ad 6) X mm2 2 24 [some (.ref (ad 3))] [.ref (ad 5), .ref (ad 3)] 17
  refine x_putFR (C.gn ad 6) hI (kk := some) (rM := mm3) (fun _ _ => trivial) pkf_RX0_15 ⟨_, rfl⟩ rfl (dkAt dk_X0_init 9 rfl) 20 rfl rfl (fun M1 hM => ?_)
  cases hM
  refine x_aload_n (C.gn ad 6) rfl rfl (dkAt dk_X0_init 10 rfl) 21 rfl ?_
  refine x_bipush (C.gn ad 6) (v := (54 : Int32)) (by decide) (dkAt dk_X0_init 11 rfl) 23 rfl ?_
  refine d_newa C (ty := .int) (L := [some (.inr 3)]) (st := [.inr 3]) sh6 (by decide) rfl ka_int rfl (fun _ => rfl) ⟨by decide, by decide, by decide⟩ (zr3.mono (by decide)) ⟨by decide, by decide⟩ hag (by decide) rfl rfl (by decide) (by decide) (dkAt dk_X0_init 12 rfl) 25 rfl (cs1 := 3) (sl1 := 78) rfl rfl (fun ad hag => ?_)
  change G (gn Γ ad 7) X mm3 3 78 [some (.ref (ad 3))] [.ref (ad 6), .ref (ad 3)] 25
  refine x_putFR (C.gn ad 7) hI (kk := some) (rM := mm4) (fun _ _ => trivial) pkf_RX0_18 ⟨_, rfl⟩ rfl (dkAt dk_X0_init 13 rfl) 28 rfl rfl (fun M1 hM => ?_)
  cases hM
  refine x_aload_n (C.gn ad 7) rfl rfl (dkAt dk_X0_init 14 rfl) 29 rfl ?_
  refine x_bipush (C.gn ad 7) (v := (108 : Int32)) (by decide) (dkAt dk_X0_init 15 rfl) 31 rfl ?_
  refine d_newa C (ty := .int) (L := [some (.inr 3)]) (st := [.inr 3]) sh7 (by decide) rfl ka_int rfl (fun _ => rfl) ⟨by decide, by decide, by decide⟩ (zr4.mono (by decide)) ⟨by decide, by decide⟩ hag (by decide) rfl rfl (by decide) (by decide) (dkAt dk_X0_init 16 rfl) 33 rfl (cs1 := 4) (sl1 := 186) rfl rfl (fun ad hag => ?_)
  change G (gn Γ ad 8) X mm4 4 186 [some (.ref (ad 3))] [.ref (ad 7), .ref (ad 3)] 33
  refine x_putFR (C.gn ad 8) hI (kk := some) (rM := mm5) (fun _ _ => trivial) pkf_RX0_21 ⟨_, rfl⟩ rfl (dkAt dk_X0_init 17 rfl) 36 rfl rfl (fun M1 hM => ?_)
  cases hM
  refine x_aload_n (C.gn ad 8) rfl rfl (dkAt dk_X0_init 18 rfl) 37 rfl ?_
  refine x_bipush (C.gn ad 8) (v := (108 : Int32)) (by decide) (dkAt dk_X0_init 19 rfl) 39 rfl ?_
  refine d_newa C (ty := .int) (L := [some (.inr 3)]) (st := [.inr 3]) sh8 (by decide) rfl ka_int rfl (fun _ => rfl) ⟨by decide, by decide, by decide⟩ (zr5.mono (by decide)) ⟨by decide, by decide⟩ hag (by decide) rfl rfl (by decide) (by decide) (dkAt dk_X0_init 20 rfl) 41 rfl (cs1 := 5) (sl1 := 294) rfl rfl (fun ad hag => ?_)
  change G (gn Γ ad 9) X mm5 5 294 [some (.ref (ad 3))] [.ref (ad 8), .ref (ad 3)] 41
  refine x_putFR (C.gn ad 9) hI (kk := some) (rM := mm6) (fun _ _ => trivial) pkf_RX0_24 ⟨_, rfl⟩ rfl (dkAt dk_X0_init 21 rfl) 44 rfl rfl (fun M1 hM => ?_)
  cases hM
  refine x_aload_n (C.gn ad 9) rfl rfl (dkAt dk_X0_init 22 rfl) 45 rfl ?_
  refine x_bipush (C.gn ad 9) (v := (18 : Int32)) (by decide) (dkAt dk_X0_init 23 rfl) 47 rfl ?_
  refine d_newa C (ty := .int) (L := [some (.inr 3)]) (st := [.inr 3]) sh9 (by decide) rfl ka_int rfl (fun _ => rfl) ⟨by decide, by decide, by decide⟩ (zr6.mono (by decide)) ⟨by decide, by decide⟩ hag (by decide) rfl rfl (by decide) (by decide) (dkAt dk_X0_init 24 rfl) 49 rfl (cs1 := 6) (sl1 := 312) rfl rfl (fun ad hag => ?_)
  change G (gn Γ ad 10) X mm6 6 312 [some (.ref (ad 3))] [.ref (ad 9), .ref (ad 3)] 49
  refine x_putFR (C.gn ad 10) hI (kk := some) (rM := mm7) (fun _ _ => trivial) pkf_RX0_27 ⟨_, rfl⟩ rfl (dkAt dk_X0_init 25 rfl) 52 rfl rfl (fun M1 hM => ?_)
  cases hM
  exact d_vret C E hag (by decide) (by decide) (dkAt dk_X0_init 26 rfl)
set_option maxRecDepth 100000 in
theorem k_X7_init_10 {Γ : WC} (hG : HG Γ) (hov : va_AO "DecisionChain$Settings" (wU Γ)) : CtD Γ yX7_init cX7_init 1 (rmL 1 5 38) 11 16 [10] mm7 mm13 := by
  refine mkD hG (own := RX7) rfl (by decide) rfl (fun _ => Nat.le_of_ble_eq_true rfl) (fun ad0 X C hI E => ?_)
  have hag : agr 11 ad0 ad0 := fun _ _ => rfl
  change G (gn Γ ad0 11) X mm7 0 0 [some (.ref (ad0 10))] [] 0
  refine x_aload_n (C.gn ad0 11) rfl rfl (dkAt dk_X7_init 0 rfl) 1 rfl ?_
  refine d_obj C lo_RX7_3 mi_obj cw_obj ⟨by decide, by decide⟩ (by decide) (dkAt dk_X7_init 1 rfl) 4 rfl ?_
  refine x_aload_n (C.gn ad0 11) rfl rfl (dkAt dk_X7_init 2 rfl) 5 rfl ?_
  refine x_bipush (C.gn ad0 11) (v := (18 : Int32)) (by decide) (dkAt dk_X7_init 3 rfl) 7 rfl ?_
  refine d_newa C (ty := .int) (L := [some (.inr 10)]) (st := [.inr 10]) sh11 (by decide) rfl ka_int rfl (fun _ => rfl) ⟨by decide, by decide, by decide⟩ (zr7.mono (by decide)) ⟨by decide, by decide⟩ hag (by decide) rfl rfl (by decide) (by decide) (dkAt dk_X7_init 4 rfl) 9 rfl (cs1 := 1) (sl1 := 18) rfl rfl (fun ad hag => ?_)
  change G (gn Γ ad 12) X mm7 1 18 [some (.ref (ad 10))] [.ref (ad 11), .ref (ad 10)] 9
  refine x_putFR (C.gn ad 12) hI (kk := some) (rM := mm8) (fun _ _ => trivial) pkf_RX7_9 ⟨_, rfl⟩ rfl (dkAt dk_X7_init 5 rfl) 12 rfl rfl (fun M1 hM => ?_)
  cases hM
  refine x_aload_n (C.gn ad 12) rfl rfl (dkAt dk_X7_init 6 rfl) 13 rfl ?_
  refine x_bipush (C.gn ad 12) (v := (6 : Int32)) (by decide) (dkAt dk_X7_init 7 rfl) 15 rfl ?_
  refine d_newa C (ty := .int) (L := [some (.inr 10)]) (st := [.inr 10]) sh12 (by decide) rfl ka_int rfl (fun _ => rfl) ⟨by decide, by decide, by decide⟩ (zr8.mono (by decide)) ⟨by decide, by decide⟩ hag (by decide) rfl rfl (by decide) (by decide) (dkAt dk_X7_init 8 rfl) 17 rfl (cs1 := 2) (sl1 := 24) rfl rfl (fun ad hag => ?_)
  change G (gn Γ ad 13) X mm8 2 24 [some (.ref (ad 10))] [.ref (ad 12), .ref (ad 10)] 17
  refine x_putFR (C.gn ad 13) hI (kk := some) (rM := mm9) (fun _ _ => trivial) pkf_RX7_15 ⟨_, rfl⟩ rfl (dkAt dk_X7_init 9 rfl) 20 rfl rfl (fun M1 hM => ?_)
  cases hM
  refine x_aload_n (C.gn ad 13) rfl rfl (dkAt dk_X7_init 10 rfl) 21 rfl ?_
  refine x_iconst (C.gn ad 13) (v := (3 : Int32)) (by decide) (dkAt dk_X7_init 11 rfl) 22 rfl ?_
  refine d_newa C (ty := .int) (L := [some (.inr 10)]) (st := [.inr 10]) sh13 (by decide) rfl ka_int rfl (fun _ => rfl) ⟨by decide, by decide, by decide⟩ (zr9.mono (by decide)) ⟨by decide, by decide⟩ hag (by decide) rfl rfl (by decide) (by decide) (dkAt dk_X7_init 12 rfl) 24 rfl (cs1 := 3) (sl1 := 27) rfl rfl (fun ad hag => ?_)
  change G (gn Γ ad 14) X mm9 3 27 [some (.ref (ad 10))] [.ref (ad 13), .ref (ad 10)] 24
  refine x_putFR (C.gn ad 14) hI (kk := some) (rM := mm10) (fun _ _ => trivial) pkf_RX7_18 ⟨_, rfl⟩ rfl (dkAt dk_X7_init 13 rfl) 27 rfl rfl (fun M1 hM => ?_)
  cases hM
  refine x_aload_n (C.gn ad 14) rfl rfl (dkAt dk_X7_init 14 rfl) 28 rfl ?_
  refine x_iconst (C.gn ad 14) (v := (-1 : Int32)) (by decide) (dkAt dk_X7_init 15 rfl) 29 rfl ?_
  refine x_putI (C.gn ad 14) (kk := some) (rM := mm11) pk_RX7_21 ⟨_, rfl⟩ rfl (dkAt dk_X7_init 16 rfl) 32 rfl rfl (fun M1 hM => ?_)
  cases hM
  refine x_aload_n (C.gn ad 14) rfl rfl (dkAt dk_X7_init 17 rfl) 33 rfl ?_
  refine x_bipush (C.gn ad 14) (v := (6 : Int32)) (by decide) (dkAt dk_X7_init 18 rfl) 35 rfl ?_
  refine d_newa C (ty := .int) (L := [some (.inr 10)]) (st := [.inr 10]) sh14 (by decide) rfl ka_int rfl (fun _ => rfl) ⟨by decide, by decide, by decide⟩ (zr11.mono (by decide)) ⟨by decide, by decide⟩ hag (by decide) rfl rfl (by decide) (by decide) (dkAt dk_X7_init 19 rfl) 37 rfl (cs1 := 4) (sl1 := 33) rfl rfl (fun ad hag => ?_)
  change G (gn Γ ad 15) X mm11 4 33 [some (.ref (ad 10))] [.ref (ad 14), .ref (ad 10)] 37
  refine x_putFR (C.gn ad 15) hI (kk := some) (rM := mm12) (fun _ _ => trivial) pkf_RX7_25 ⟨_, rfl⟩ rfl (dkAt dk_X7_init 20 rfl) 40 rfl rfl (fun M1 hM => ?_)
  cases hM
  refine x_aload_n (C.gn ad 15) rfl rfl (dkAt dk_X7_init 21 rfl) 41 rfl ?_
  refine x_iconst (C.gn ad 15) (v := (5 : Int32)) (by decide) (dkAt dk_X7_init 22 rfl) 42 rfl ?_
  refine d_newa C (ty := .int) (L := [some (.inr 10)]) (st := [.inr 10]) sh15 (by decide) rfl ka_int rfl (fun _ => rfl) ⟨by decide, by decide, by decide⟩ (zr12.mono (by decide)) ⟨by decide, by decide⟩ hag (by decide) rfl rfl (by decide) (by decide) (dkAt dk_X7_init 23 rfl) 44 rfl (cs1 := 5) (sl1 := 38) rfl rfl (fun ad hag => ?_)
  change G (gn Γ ad 16) X mm12 5 38 [some (.ref (ad 10))] [.ref (ad 15), .ref (ad 10)] 44
  refine x_putFR (C.gn ad 16) hI (kk := some) (rM := mm13) (fun _ _ => trivial) pkf_RX7_28 ⟨_, rfl⟩ rfl (dkAt dk_X7_init 24 rfl) 47 rfl rfl (fun M1 hM => ?_)
  cases hM
  exact d_vret C E hag (by decide) (by decide) (dkAt dk_X7_init 25 rfl)
set_option maxRecDepth 100000 in
theorem k_X1_init_16 {Γ : WC} (hG : HG Γ) (hov : va_AO "DecisionChain$Settings" (wU Γ)) : CtD Γ yX1_init cX1_init 2 (rmL 1 4 144) 17 21 [16, 3] mm13 mm18 := by
  refine mkD hG (own := RX1) rfl (by decide) rfl (fun _ => Nat.le_of_ble_eq_true rfl) (fun ad0 X C hI E => ?_)
  have hag : agr 17 ad0 ad0 := fun _ _ => rfl
  change G (gn Γ ad0 17) X mm13 0 0 [some (.ref (ad0 16)), some (.ref (ad0 3))] [] 0
  refine x_aload_n (C.gn ad0 17) rfl rfl (dkAt dk_X1_init 0 rfl) 1 rfl ?_
  refine d_obj C lo_RX1_3 mi_obj cw_obj ⟨by decide, by decide⟩ (by decide) (dkAt dk_X1_init 1 rfl) 4 rfl ?_
  refine x_aload_n (C.gn ad0 17) rfl rfl (dkAt dk_X1_init 2 rfl) 5 rfl ?_
  refine x_bipush (C.gn ad0 17) (v := (36 : Int32)) (by decide) (dkAt dk_X1_init 3 rfl) 7 rfl ?_
  refine d_newa C (ty := .long) (L := [some (.inr 16), some (.inr 3)]) (st := [.inr 16]) sh17 (by decide) rfl ka_long rfl (fun _ => rfl) ⟨by decide, by decide, by decide⟩ (zr13.mono (by decide)) ⟨by decide, by decide⟩ hag (by decide) rfl rfl (by decide) (by decide) (dkAt dk_X1_init 4 rfl) 9 rfl (cs1 := 1) (sl1 := 36) rfl rfl (fun ad hag => ?_)
  change G (gn Γ ad 18) X mm13 1 36 [some (.ref (ad 16)), some (.ref (ad 3))] [.ref (ad 17), .ref (ad 16)] 9
  refine x_putFR (C.gn ad 18) hI (kk := some) (rM := mm14) (fun _ _ => trivial) pkf_RX1_9 ⟨_, rfl⟩ rfl (dkAt dk_X1_init 5 rfl) 12 rfl rfl (fun M1 hM => ?_)
  cases hM
  refine x_aload_n (C.gn ad 18) rfl rfl (dkAt dk_X1_init 6 rfl) 13 rfl ?_
  refine x_bipush (C.gn ad 18) (v := (36 : Int32)) (by decide) (dkAt dk_X1_init 7 rfl) 15 rfl ?_
  refine d_newa C (ty := .long) (L := [some (.inr 16), some (.inr 3)]) (st := [.inr 16]) sh18 (by decide) rfl ka_long rfl (fun _ => rfl) ⟨by decide, by decide, by decide⟩ (zr14.mono (by decide)) ⟨by decide, by decide⟩ hag (by decide) rfl rfl (by decide) (by decide) (dkAt dk_X1_init 8 rfl) 17 rfl (cs1 := 2) (sl1 := 72) rfl rfl (fun ad hag => ?_)
  change G (gn Γ ad 19) X mm14 2 72 [some (.ref (ad 16)), some (.ref (ad 3))] [.ref (ad 18), .ref (ad 16)] 17
  refine x_putFR (C.gn ad 19) hI (kk := some) (rM := mm15) (fun _ _ => trivial) pkf_RX1_15 ⟨_, rfl⟩ rfl (dkAt dk_X1_init 9 rfl) 20 rfl rfl (fun M1 hM => ?_)
  cases hM
  refine x_aload_n (C.gn ad 19) rfl rfl (dkAt dk_X1_init 10 rfl) 21 rfl ?_
  refine x_bipush (C.gn ad 19) (v := (36 : Int32)) (by decide) (dkAt dk_X1_init 11 rfl) 23 rfl ?_
  refine d_newa C (ty := .long) (L := [some (.inr 16), some (.inr 3)]) (st := [.inr 16]) sh19 (by decide) rfl ka_long rfl (fun _ => rfl) ⟨by decide, by decide, by decide⟩ (zr15.mono (by decide)) ⟨by decide, by decide⟩ hag (by decide) rfl rfl (by decide) (by decide) (dkAt dk_X1_init 12 rfl) 25 rfl (cs1 := 3) (sl1 := 108) rfl rfl (fun ad hag => ?_)
  change G (gn Γ ad 20) X mm15 3 108 [some (.ref (ad 16)), some (.ref (ad 3))] [.ref (ad 19), .ref (ad 16)] 25
  refine x_putFR (C.gn ad 20) hI (kk := some) (rM := mm16) (fun _ _ => trivial) pkf_RX1_18 ⟨_, rfl⟩ rfl (dkAt dk_X1_init 13 rfl) 28 rfl rfl (fun M1 hM => ?_)
  cases hM
  refine x_aload_n (C.gn ad 20) rfl rfl (dkAt dk_X1_init 14 rfl) 29 rfl ?_
  refine x_bipush (C.gn ad 20) (v := (36 : Int32)) (by decide) (dkAt dk_X1_init 15 rfl) 31 rfl ?_
  refine d_newa C (ty := .long) (L := [some (.inr 16), some (.inr 3)]) (st := [.inr 16]) sh20 (by decide) rfl ka_long rfl (fun _ => rfl) ⟨by decide, by decide, by decide⟩ (zr16.mono (by decide)) ⟨by decide, by decide⟩ hag (by decide) rfl rfl (by decide) (by decide) (dkAt dk_X1_init 16 rfl) 33 rfl (cs1 := 4) (sl1 := 144) rfl rfl (fun ad hag => ?_)
  change G (gn Γ ad 21) X mm16 4 144 [some (.ref (ad 16)), some (.ref (ad 3))] [.ref (ad 20), .ref (ad 16)] 33
  refine x_putFR (C.gn ad 21) hI (kk := some) (rM := mm17) (fun _ _ => trivial) pkf_RX1_21 ⟨_, rfl⟩ rfl (dkAt dk_X1_init 17 rfl) 36 rfl rfl (fun M1 hM => ?_)
  cases hM
  refine x_aload_n (C.gn ad 21) rfl rfl (dkAt dk_X1_init 18 rfl) 37 rfl ?_
  refine x_aload_n (C.gn ad 21) rfl rfl (dkAt dk_X1_init 19 rfl) 38 rfl ?_
  refine x_putFR (C.gn ad 21) hI (kk := some) (rM := mm18) (fun _ _ => trivial) pkf_RX1_24 ⟨_, rfl⟩ rfl (dkAt dk_X1_init 20 rfl) 41 rfl rfl (fun M1 hM => ?_)
  cases hM
  exact d_vret C E hag (by decide) (by decide) (dkAt dk_X1_init 21 rfl)
set_option maxRecDepth 100000 in
theorem k_X0_init_22 {Γ : WC} (hG : HG Γ) (hov : va_AO "DecisionChain$Settings" (wU Γ)) : CtD Γ yX0_init cX0_init 1 (rmL 1 6 312) 23 29 [22] mm19 mm25 := by
  refine mkD hG (own := RX0) rfl (by decide) rfl (fun _ => Nat.le_of_ble_eq_true rfl) (fun ad0 X C hI E => ?_)
  have hag : agr 23 ad0 ad0 := fun _ _ => rfl
  change G (gn Γ ad0 23) X mm19 0 0 [some (.ref (ad0 22))] [] 0
  refine x_aload_n (C.gn ad0 23) rfl rfl (dkAt dk_X0_init 0 rfl) 1 rfl ?_
  refine d_obj C lo_RX0_3 mi_obj cw_obj ⟨by decide, by decide⟩ (by decide) (dkAt dk_X0_init 1 rfl) 4 rfl ?_
  refine x_aload_n (C.gn ad0 23) rfl rfl (dkAt dk_X0_init 2 rfl) 5 rfl ?_
  refine x_bipush (C.gn ad0 23) (v := (6 : Int32)) (by decide) (dkAt dk_X0_init 3 rfl) 7 rfl ?_
  refine d_newa C (ty := .int) (L := [some (.inr 22)]) (st := [.inr 22]) sh23 (by decide) rfl ka_int rfl (fun _ => rfl) ⟨by decide, by decide, by decide⟩ (zr19.mono (by decide)) ⟨by decide, by decide⟩ hag (by decide) rfl rfl (by decide) (by decide) (dkAt dk_X0_init 4 rfl) 9 rfl (cs1 := 1) (sl1 := 6) rfl rfl (fun ad hag => ?_)
  change G (gn Γ ad 24) X mm19 1 6 [some (.ref (ad 22))] [.ref (ad 23), .ref (ad 22)] 9
  refine x_putFR (C.gn ad 24) hI (kk := some) (rM := mm20) (fun _ _ => trivial) pkf_RX0_9 ⟨_, rfl⟩ rfl (dkAt dk_X0_init 5 rfl) 12 rfl rfl (fun M1 hM => ?_)
  cases hM
  refine x_aload_n (C.gn ad 24) rfl rfl (dkAt dk_X0_init 6 rfl) 13 rfl ?_
  refine x_bipush (C.gn ad 24) (v := (18 : Int32)) (by decide) (dkAt dk_X0_init 7 rfl) 15 rfl ?_
  refine d_newa C (ty := .int) (L := [some (.inr 22)]) (st := [.inr 22]) sh24 (by decide) rfl ka_int rfl (fun _ => rfl) ⟨by decide, by decide, by decide⟩ (zr20.mono (by decide)) ⟨by decide, by decide⟩ hag (by decide) rfl rfl (by decide) (by decide) (dkAt dk_X0_init 8 rfl) 17 rfl (cs1 := 2) (sl1 := 24) rfl rfl (fun ad hag => ?_)
  change G (gn Γ ad 25) X mm20 2 24 [some (.ref (ad 22))] [.ref (ad 24), .ref (ad 22)] 17
  refine x_putFR (C.gn ad 25) hI (kk := some) (rM := mm21) (fun _ _ => trivial) pkf_RX0_15 ⟨_, rfl⟩ rfl (dkAt dk_X0_init 9 rfl) 20 rfl rfl (fun M1 hM => ?_)
  cases hM
  refine x_aload_n (C.gn ad 25) rfl rfl (dkAt dk_X0_init 10 rfl) 21 rfl ?_
  refine x_bipush (C.gn ad 25) (v := (54 : Int32)) (by decide) (dkAt dk_X0_init 11 rfl) 23 rfl ?_
  refine d_newa C (ty := .int) (L := [some (.inr 22)]) (st := [.inr 22]) sh25 (by decide) rfl ka_int rfl (fun _ => rfl) ⟨by decide, by decide, by decide⟩ (zr21.mono (by decide)) ⟨by decide, by decide⟩ hag (by decide) rfl rfl (by decide) (by decide) (dkAt dk_X0_init 12 rfl) 25 rfl (cs1 := 3) (sl1 := 78) rfl rfl (fun ad hag => ?_)
  change G (gn Γ ad 26) X mm21 3 78 [some (.ref (ad 22))] [.ref (ad 25), .ref (ad 22)] 25
  refine x_putFR (C.gn ad 26) hI (kk := some) (rM := mm22) (fun _ _ => trivial) pkf_RX0_18 ⟨_, rfl⟩ rfl (dkAt dk_X0_init 13 rfl) 28 rfl rfl (fun M1 hM => ?_)
  cases hM
  refine x_aload_n (C.gn ad 26) rfl rfl (dkAt dk_X0_init 14 rfl) 29 rfl ?_
  refine x_bipush (C.gn ad 26) (v := (108 : Int32)) (by decide) (dkAt dk_X0_init 15 rfl) 31 rfl ?_
  refine d_newa C (ty := .int) (L := [some (.inr 22)]) (st := [.inr 22]) sh26 (by decide) rfl ka_int rfl (fun _ => rfl) ⟨by decide, by decide, by decide⟩ (zr22.mono (by decide)) ⟨by decide, by decide⟩ hag (by decide) rfl rfl (by decide) (by decide) (dkAt dk_X0_init 16 rfl) 33 rfl (cs1 := 4) (sl1 := 186) rfl rfl (fun ad hag => ?_)
  change G (gn Γ ad 27) X mm22 4 186 [some (.ref (ad 22))] [.ref (ad 26), .ref (ad 22)] 33
  refine x_putFR (C.gn ad 27) hI (kk := some) (rM := mm23) (fun _ _ => trivial) pkf_RX0_21 ⟨_, rfl⟩ rfl (dkAt dk_X0_init 17 rfl) 36 rfl rfl (fun M1 hM => ?_)
  cases hM
  refine x_aload_n (C.gn ad 27) rfl rfl (dkAt dk_X0_init 18 rfl) 37 rfl ?_
  refine x_bipush (C.gn ad 27) (v := (108 : Int32)) (by decide) (dkAt dk_X0_init 19 rfl) 39 rfl ?_
  refine d_newa C (ty := .int) (L := [some (.inr 22)]) (st := [.inr 22]) sh27 (by decide) rfl ka_int rfl (fun _ => rfl) ⟨by decide, by decide, by decide⟩ (zr23.mono (by decide)) ⟨by decide, by decide⟩ hag (by decide) rfl rfl (by decide) (by decide) (dkAt dk_X0_init 20 rfl) 41 rfl (cs1 := 5) (sl1 := 294) rfl rfl (fun ad hag => ?_)
  change G (gn Γ ad 28) X mm23 5 294 [some (.ref (ad 22))] [.ref (ad 27), .ref (ad 22)] 41
  refine x_putFR (C.gn ad 28) hI (kk := some) (rM := mm24) (fun _ _ => trivial) pkf_RX0_24 ⟨_, rfl⟩ rfl (dkAt dk_X0_init 21 rfl) 44 rfl rfl (fun M1 hM => ?_)
  cases hM
  refine x_aload_n (C.gn ad 28) rfl rfl (dkAt dk_X0_init 22 rfl) 45 rfl ?_
  refine x_bipush (C.gn ad 28) (v := (18 : Int32)) (by decide) (dkAt dk_X0_init 23 rfl) 47 rfl ?_
  refine d_newa C (ty := .int) (L := [some (.inr 22)]) (st := [.inr 22]) sh28 (by decide) rfl ka_int rfl (fun _ => rfl) ⟨by decide, by decide, by decide⟩ (zr24.mono (by decide)) ⟨by decide, by decide⟩ hag (by decide) rfl rfl (by decide) (by decide) (dkAt dk_X0_init 24 rfl) 49 rfl (cs1 := 6) (sl1 := 312) rfl rfl (fun ad hag => ?_)
  change G (gn Γ ad 29) X mm24 6 312 [some (.ref (ad 22))] [.ref (ad 28), .ref (ad 22)] 49
  refine x_putFR (C.gn ad 29) hI (kk := some) (rM := mm25) (fun _ _ => trivial) pkf_RX0_27 ⟨_, rfl⟩ rfl (dkAt dk_X0_init 25 rfl) 52 rfl rfl (fun M1 hM => ?_)
  cases hM
  exact d_vret C E hag (by decide) (by decide) (dkAt dk_X0_init 26 rfl)
set_option maxRecDepth 100000 in
theorem k_X7_init_29 {Γ : WC} (hG : HG Γ) (hov : va_AO "DecisionChain$Settings" (wU Γ)) : CtD Γ yX7_init cX7_init 1 (rmL 1 5 38) 30 35 [29] mm26 mm32 := by
  refine mkD hG (own := RX7) rfl (by decide) rfl (fun _ => Nat.le_of_ble_eq_true rfl) (fun ad0 X C hI E => ?_)
  have hag : agr 30 ad0 ad0 := fun _ _ => rfl
  change G (gn Γ ad0 30) X mm26 0 0 [some (.ref (ad0 29))] [] 0
  refine x_aload_n (C.gn ad0 30) rfl rfl (dkAt dk_X7_init 0 rfl) 1 rfl ?_
  refine d_obj C lo_RX7_3 mi_obj cw_obj ⟨by decide, by decide⟩ (by decide) (dkAt dk_X7_init 1 rfl) 4 rfl ?_
  refine x_aload_n (C.gn ad0 30) rfl rfl (dkAt dk_X7_init 2 rfl) 5 rfl ?_
  refine x_bipush (C.gn ad0 30) (v := (18 : Int32)) (by decide) (dkAt dk_X7_init 3 rfl) 7 rfl ?_
  refine d_newa C (ty := .int) (L := [some (.inr 29)]) (st := [.inr 29]) sh30 (by decide) rfl ka_int rfl (fun _ => rfl) ⟨by decide, by decide, by decide⟩ (zr26.mono (by decide)) ⟨by decide, by decide⟩ hag (by decide) rfl rfl (by decide) (by decide) (dkAt dk_X7_init 4 rfl) 9 rfl (cs1 := 1) (sl1 := 18) rfl rfl (fun ad hag => ?_)
  change G (gn Γ ad 31) X mm26 1 18 [some (.ref (ad 29))] [.ref (ad 30), .ref (ad 29)] 9
  refine x_putFR (C.gn ad 31) hI (kk := some) (rM := mm27) (fun _ _ => trivial) pkf_RX7_9 ⟨_, rfl⟩ rfl (dkAt dk_X7_init 5 rfl) 12 rfl rfl (fun M1 hM => ?_)
  cases hM
  refine x_aload_n (C.gn ad 31) rfl rfl (dkAt dk_X7_init 6 rfl) 13 rfl ?_
  refine x_bipush (C.gn ad 31) (v := (6 : Int32)) (by decide) (dkAt dk_X7_init 7 rfl) 15 rfl ?_
  refine d_newa C (ty := .int) (L := [some (.inr 29)]) (st := [.inr 29]) sh31 (by decide) rfl ka_int rfl (fun _ => rfl) ⟨by decide, by decide, by decide⟩ (zr27.mono (by decide)) ⟨by decide, by decide⟩ hag (by decide) rfl rfl (by decide) (by decide) (dkAt dk_X7_init 8 rfl) 17 rfl (cs1 := 2) (sl1 := 24) rfl rfl (fun ad hag => ?_)
  change G (gn Γ ad 32) X mm27 2 24 [some (.ref (ad 29))] [.ref (ad 31), .ref (ad 29)] 17
  refine x_putFR (C.gn ad 32) hI (kk := some) (rM := mm28) (fun _ _ => trivial) pkf_RX7_15 ⟨_, rfl⟩ rfl (dkAt dk_X7_init 9 rfl) 20 rfl rfl (fun M1 hM => ?_)
  cases hM
  refine x_aload_n (C.gn ad 32) rfl rfl (dkAt dk_X7_init 10 rfl) 21 rfl ?_
  refine x_iconst (C.gn ad 32) (v := (3 : Int32)) (by decide) (dkAt dk_X7_init 11 rfl) 22 rfl ?_
  refine d_newa C (ty := .int) (L := [some (.inr 29)]) (st := [.inr 29]) sh32 (by decide) rfl ka_int rfl (fun _ => rfl) ⟨by decide, by decide, by decide⟩ (zr28.mono (by decide)) ⟨by decide, by decide⟩ hag (by decide) rfl rfl (by decide) (by decide) (dkAt dk_X7_init 12 rfl) 24 rfl (cs1 := 3) (sl1 := 27) rfl rfl (fun ad hag => ?_)
  change G (gn Γ ad 33) X mm28 3 27 [some (.ref (ad 29))] [.ref (ad 32), .ref (ad 29)] 24
  refine x_putFR (C.gn ad 33) hI (kk := some) (rM := mm29) (fun _ _ => trivial) pkf_RX7_18 ⟨_, rfl⟩ rfl (dkAt dk_X7_init 13 rfl) 27 rfl rfl (fun M1 hM => ?_)
  cases hM
  refine x_aload_n (C.gn ad 33) rfl rfl (dkAt dk_X7_init 14 rfl) 28 rfl ?_
  refine x_iconst (C.gn ad 33) (v := (-1 : Int32)) (by decide) (dkAt dk_X7_init 15 rfl) 29 rfl ?_
  refine x_putI (C.gn ad 33) (kk := some) (rM := mm30) pk_RX7_21 ⟨_, rfl⟩ rfl (dkAt dk_X7_init 16 rfl) 32 rfl rfl (fun M1 hM => ?_)
  cases hM
  refine x_aload_n (C.gn ad 33) rfl rfl (dkAt dk_X7_init 17 rfl) 33 rfl ?_
  refine x_bipush (C.gn ad 33) (v := (6 : Int32)) (by decide) (dkAt dk_X7_init 18 rfl) 35 rfl ?_
  refine d_newa C (ty := .int) (L := [some (.inr 29)]) (st := [.inr 29]) sh33 (by decide) rfl ka_int rfl (fun _ => rfl) ⟨by decide, by decide, by decide⟩ (zr30.mono (by decide)) ⟨by decide, by decide⟩ hag (by decide) rfl rfl (by decide) (by decide) (dkAt dk_X7_init 19 rfl) 37 rfl (cs1 := 4) (sl1 := 33) rfl rfl (fun ad hag => ?_)
  change G (gn Γ ad 34) X mm30 4 33 [some (.ref (ad 29))] [.ref (ad 33), .ref (ad 29)] 37
  refine x_putFR (C.gn ad 34) hI (kk := some) (rM := mm31) (fun _ _ => trivial) pkf_RX7_25 ⟨_, rfl⟩ rfl (dkAt dk_X7_init 20 rfl) 40 rfl rfl (fun M1 hM => ?_)
  cases hM
  refine x_aload_n (C.gn ad 34) rfl rfl (dkAt dk_X7_init 21 rfl) 41 rfl ?_
  refine x_iconst (C.gn ad 34) (v := (5 : Int32)) (by decide) (dkAt dk_X7_init 22 rfl) 42 rfl ?_
  refine d_newa C (ty := .int) (L := [some (.inr 29)]) (st := [.inr 29]) sh34 (by decide) rfl ka_int rfl (fun _ => rfl) ⟨by decide, by decide, by decide⟩ (zr31.mono (by decide)) ⟨by decide, by decide⟩ hag (by decide) rfl rfl (by decide) (by decide) (dkAt dk_X7_init 23 rfl) 44 rfl (cs1 := 5) (sl1 := 38) rfl rfl (fun ad hag => ?_)
  change G (gn Γ ad 35) X mm31 5 38 [some (.ref (ad 29))] [.ref (ad 34), .ref (ad 29)] 44
  refine x_putFR (C.gn ad 35) hI (kk := some) (rM := mm32) (fun _ _ => trivial) pkf_RX7_28 ⟨_, rfl⟩ rfl (dkAt dk_X7_init 24 rfl) 47 rfl rfl (fun M1 hM => ?_)
  cases hM
  exact d_vret C E hag (by decide) (by decide) (dkAt dk_X7_init 25 rfl)
set_option maxRecDepth 100000 in
theorem k_X4_init_21 {Γ : WC} (hG : HG Γ) (hov : va_AO "DecisionChain$Settings" (wU Γ)) : CtD Γ yX4_init cX4_init 2 (rmL 2 13 367) 22 35 [21, 1] mm19 mm35 := by
  refine mkD hG (own := RX4) rfl (by decide) rfl (fun _ => Nat.le_of_ble_eq_true rfl) (fun ad0 X C hI E => ?_)
  have hag : agr 22 ad0 ad0 := fun _ _ => rfl
  change G (gn Γ ad0 22) X mm19 0 0 [some (.ref (ad0 21)), some (.ref (ad0 1))] [] 0
  refine x_aload_n (C.gn ad0 22) rfl rfl (dkAt dk_X4_init 0 rfl) 1 rfl ?_
  refine d_obj C lo_RX4_3 mi_obj cw_obj ⟨by decide, by decide⟩ (by decide) (dkAt dk_X4_init 1 rfl) 4 rfl ?_
  refine x_aload_n (C.gn ad0 22) rfl rfl (dkAt dk_X4_init 2 rfl) 5 rfl ?_
  refine d_new C (L := [some (.inr 21), some (.inr 1)]) (st := [.inr 21]) sh22 rc0 uw0 tyX0_ok kd_0 kl_RX4_9 ki_0 kn_0 (zr19.mono (by decide)) ⟨by decide, by decide⟩ hag (by decide) rfl rfl (by decide) (by decide) (dkAt dk_X4_init 3 rfl) 8 rfl (cs1 := 1) (sl1 := 8) rfl rfl (fun ad hag => ?_)
  change G (gn Γ ad 23) X mm19 1 8 [some (.ref (ad 21)), some (.ref (ad 1))] [.ref (ad 22), .ref (ad 21)] 8
  refine x_dup (C.gn ad 23) rfl (dkAt dk_X4_init 4 rfl) 9 rfl ?_
  refine d_cJ C (k_X0_init_22 hG hov) mw_X0_init ln_RX4_11 mii_X0_init ⟨by decide, by decide, by decide, by decide⟩ rfl hag (by decide) (L := [some (.inr 21), some (.inr 1)]) (st := [.inr 22, .inr 21]) rfl rfl (by decide) (by decide) (Nat.le_of_ble_eq_true rfl) (dkAt dk_X4_init 5 rfl) 12 rfl (cs1 := 7) (sl1 := 320) rfl rfl (fun ad hag => ?_)
  change G (gn Γ ad 29) X mm25 7 320 [some (.ref (ad 21)), some (.ref (ad 1))] [.ref (ad 22), .ref (ad 21)] 12
  refine x_putFR (C.gn ad 29) hI (kk := some) (rM := mm26) (fun _ _ => trivial) pkf_RX4_12 ⟨_, rfl⟩ rfl (dkAt dk_X4_init 6 rfl) 15 rfl rfl (fun M1 hM => ?_)
  cases hM
  refine x_aload_n (C.gn ad 29) rfl rfl (dkAt dk_X4_init 7 rfl) 16 rfl ?_
  refine d_new C (L := [some (.inr 21), some (.inr 1)]) (st := [.inr 21]) sh29 rc7 uw7 tyX7_ok kd_7 kl_RX4_18 ki_7 kn_7 (zr26.mono (by decide)) ⟨by decide, by decide⟩ hag (by decide) rfl rfl (by decide) (by decide) (dkAt dk_X4_init 8 rfl) 19 rfl (cs1 := 8) (sl1 := 329) rfl rfl (fun ad hag => ?_)
  change G (gn Γ ad 30) X mm26 8 329 [some (.ref (ad 21)), some (.ref (ad 1))] [.ref (ad 29), .ref (ad 21)] 19
  refine x_dup (C.gn ad 30) rfl (dkAt dk_X4_init 9 rfl) 20 rfl ?_
  refine d_cJ C (k_X7_init_29 hG hov) mw_X7_init ln_RX4_20 mii_X7_init ⟨by decide, by decide, by decide, by decide⟩ rfl hag (by decide) (L := [some (.inr 21), some (.inr 1)]) (st := [.inr 29, .inr 21]) rfl rfl (by decide) (by decide) (Nat.le_of_ble_eq_true rfl) (dkAt dk_X4_init 10 rfl) 23 rfl (cs1 := 13) (sl1 := 367) rfl rfl (fun ad hag => ?_)
  change G (gn Γ ad 35) X mm32 13 367 [some (.ref (ad 21)), some (.ref (ad 1))] [.ref (ad 29), .ref (ad 21)] 23
  refine x_putFR (C.gn ad 35) hI (kk := some) (rM := mm33) (fun _ _ => trivial) pkf_RX4_21 ⟨_, rfl⟩ rfl (dkAt dk_X4_init 11 rfl) 26 rfl rfl (fun M1 hM => ?_)
  cases hM
  refine x_aload_n (C.gn ad 35) rfl rfl (dkAt dk_X4_init 12 rfl) 27 rfl ?_
  refine x_iconst (C.gn ad 35) (v := (-1 : Int32)) (by decide) (dkAt dk_X4_init 13 rfl) 28 rfl ?_
  refine x_putI (C.gn ad 35) (kk := some) (rM := mm34) pk_RX4_25 ⟨_, rfl⟩ rfl (dkAt dk_X4_init 14 rfl) 31 rfl rfl (fun M1 hM => ?_)
  cases hM
  refine x_aload_n (C.gn ad 35) rfl rfl (dkAt dk_X4_init 15 rfl) 32 rfl ?_
  refine x_aload_n (C.gn ad 35) rfl rfl (dkAt dk_X4_init 16 rfl) 33 rfl ?_
  refine x_putFR (C.gn ad 35) hI (kk := some) (rM := mm35) (fun _ _ => trivial) pkf_RX4_29 ⟨_, rfl⟩ rfl (dkAt dk_X4_init 17 rfl) 36 rfl rfl (fun M1 hM => ?_)
  cases hM
  exact d_vret C E hag (by decide) (by decide) (dkAt dk_X4_init 18 rfl)
set_option maxRecDepth 100000 in
theorem k_X7_init_38 {Γ : WC} (hG : HG Γ) (hov : va_AO "DecisionChain$Settings" (wU Γ)) : CtD Γ yX7_init cX7_init 1 (rmL 1 5 38) 39 44 [38] mm40 mm46 := by
  refine mkD hG (own := RX7) rfl (by decide) rfl (fun _ => Nat.le_of_ble_eq_true rfl) (fun ad0 X C hI E => ?_)
  have hag : agr 39 ad0 ad0 := fun _ _ => rfl
  change G (gn Γ ad0 39) X mm40 0 0 [some (.ref (ad0 38))] [] 0
  refine x_aload_n (C.gn ad0 39) rfl rfl (dkAt dk_X7_init 0 rfl) 1 rfl ?_
  refine d_obj C lo_RX7_3 mi_obj cw_obj ⟨by decide, by decide⟩ (by decide) (dkAt dk_X7_init 1 rfl) 4 rfl ?_
  refine x_aload_n (C.gn ad0 39) rfl rfl (dkAt dk_X7_init 2 rfl) 5 rfl ?_
  refine x_bipush (C.gn ad0 39) (v := (18 : Int32)) (by decide) (dkAt dk_X7_init 3 rfl) 7 rfl ?_
  refine d_newa C (ty := .int) (L := [some (.inr 38)]) (st := [.inr 38]) sh39 (by decide) rfl ka_int rfl (fun _ => rfl) ⟨by decide, by decide, by decide⟩ (zr40.mono (by decide)) ⟨by decide, by decide⟩ hag (by decide) rfl rfl (by decide) (by decide) (dkAt dk_X7_init 4 rfl) 9 rfl (cs1 := 1) (sl1 := 18) rfl rfl (fun ad hag => ?_)
  change G (gn Γ ad 40) X mm40 1 18 [some (.ref (ad 38))] [.ref (ad 39), .ref (ad 38)] 9
  refine x_putFR (C.gn ad 40) hI (kk := some) (rM := mm41) (fun _ _ => trivial) pkf_RX7_9 ⟨_, rfl⟩ rfl (dkAt dk_X7_init 5 rfl) 12 rfl rfl (fun M1 hM => ?_)
  cases hM
  refine x_aload_n (C.gn ad 40) rfl rfl (dkAt dk_X7_init 6 rfl) 13 rfl ?_
  refine x_bipush (C.gn ad 40) (v := (6 : Int32)) (by decide) (dkAt dk_X7_init 7 rfl) 15 rfl ?_
  refine d_newa C (ty := .int) (L := [some (.inr 38)]) (st := [.inr 38]) sh40 (by decide) rfl ka_int rfl (fun _ => rfl) ⟨by decide, by decide, by decide⟩ (zr41.mono (by decide)) ⟨by decide, by decide⟩ hag (by decide) rfl rfl (by decide) (by decide) (dkAt dk_X7_init 8 rfl) 17 rfl (cs1 := 2) (sl1 := 24) rfl rfl (fun ad hag => ?_)
  change G (gn Γ ad 41) X mm41 2 24 [some (.ref (ad 38))] [.ref (ad 40), .ref (ad 38)] 17
  refine x_putFR (C.gn ad 41) hI (kk := some) (rM := mm42) (fun _ _ => trivial) pkf_RX7_15 ⟨_, rfl⟩ rfl (dkAt dk_X7_init 9 rfl) 20 rfl rfl (fun M1 hM => ?_)
  cases hM
  refine x_aload_n (C.gn ad 41) rfl rfl (dkAt dk_X7_init 10 rfl) 21 rfl ?_
  refine x_iconst (C.gn ad 41) (v := (3 : Int32)) (by decide) (dkAt dk_X7_init 11 rfl) 22 rfl ?_
  refine d_newa C (ty := .int) (L := [some (.inr 38)]) (st := [.inr 38]) sh41 (by decide) rfl ka_int rfl (fun _ => rfl) ⟨by decide, by decide, by decide⟩ (zr42.mono (by decide)) ⟨by decide, by decide⟩ hag (by decide) rfl rfl (by decide) (by decide) (dkAt dk_X7_init 12 rfl) 24 rfl (cs1 := 3) (sl1 := 27) rfl rfl (fun ad hag => ?_)
  change G (gn Γ ad 42) X mm42 3 27 [some (.ref (ad 38))] [.ref (ad 41), .ref (ad 38)] 24
  refine x_putFR (C.gn ad 42) hI (kk := some) (rM := mm43) (fun _ _ => trivial) pkf_RX7_18 ⟨_, rfl⟩ rfl (dkAt dk_X7_init 13 rfl) 27 rfl rfl (fun M1 hM => ?_)
  cases hM
  refine x_aload_n (C.gn ad 42) rfl rfl (dkAt dk_X7_init 14 rfl) 28 rfl ?_
  refine x_iconst (C.gn ad 42) (v := (-1 : Int32)) (by decide) (dkAt dk_X7_init 15 rfl) 29 rfl ?_
  refine x_putI (C.gn ad 42) (kk := some) (rM := mm44) pk_RX7_21 ⟨_, rfl⟩ rfl (dkAt dk_X7_init 16 rfl) 32 rfl rfl (fun M1 hM => ?_)
  cases hM
  refine x_aload_n (C.gn ad 42) rfl rfl (dkAt dk_X7_init 17 rfl) 33 rfl ?_
  refine x_bipush (C.gn ad 42) (v := (6 : Int32)) (by decide) (dkAt dk_X7_init 18 rfl) 35 rfl ?_
  refine d_newa C (ty := .int) (L := [some (.inr 38)]) (st := [.inr 38]) sh42 (by decide) rfl ka_int rfl (fun _ => rfl) ⟨by decide, by decide, by decide⟩ (zr44.mono (by decide)) ⟨by decide, by decide⟩ hag (by decide) rfl rfl (by decide) (by decide) (dkAt dk_X7_init 19 rfl) 37 rfl (cs1 := 4) (sl1 := 33) rfl rfl (fun ad hag => ?_)
  change G (gn Γ ad 43) X mm44 4 33 [some (.ref (ad 38))] [.ref (ad 42), .ref (ad 38)] 37
  refine x_putFR (C.gn ad 43) hI (kk := some) (rM := mm45) (fun _ _ => trivial) pkf_RX7_25 ⟨_, rfl⟩ rfl (dkAt dk_X7_init 20 rfl) 40 rfl rfl (fun M1 hM => ?_)
  cases hM
  refine x_aload_n (C.gn ad 43) rfl rfl (dkAt dk_X7_init 21 rfl) 41 rfl ?_
  refine x_iconst (C.gn ad 43) (v := (5 : Int32)) (by decide) (dkAt dk_X7_init 22 rfl) 42 rfl ?_
  refine d_newa C (ty := .int) (L := [some (.inr 38)]) (st := [.inr 38]) sh43 (by decide) rfl ka_int rfl (fun _ => rfl) ⟨by decide, by decide, by decide⟩ (zr45.mono (by decide)) ⟨by decide, by decide⟩ hag (by decide) rfl rfl (by decide) (by decide) (dkAt dk_X7_init 23 rfl) 44 rfl (cs1 := 5) (sl1 := 38) rfl rfl (fun ad hag => ?_)
  change G (gn Γ ad 44) X mm45 5 38 [some (.ref (ad 38))] [.ref (ad 43), .ref (ad 38)] 44
  refine x_putFR (C.gn ad 44) hI (kk := some) (rM := mm46) (fun _ _ => trivial) pkf_RX7_28 ⟨_, rfl⟩ rfl (dkAt dk_X7_init 24 rfl) 47 rfl rfl (fun M1 hM => ?_)
  cases hM
  exact d_vret C E hag (by decide) (by decide) (dkAt dk_X7_init 25 rfl)
set_option maxRecDepth 100000 in
theorem k_X7_init_44 {Γ : WC} (hG : HG Γ) (hov : va_AO "DecisionChain$Settings" (wU Γ)) : CtD Γ yX7_init cX7_init 1 (rmL 1 5 38) 45 50 [44] mm47 mm53 := by
  refine mkD hG (own := RX7) rfl (by decide) rfl (fun _ => Nat.le_of_ble_eq_true rfl) (fun ad0 X C hI E => ?_)
  have hag : agr 45 ad0 ad0 := fun _ _ => rfl
  change G (gn Γ ad0 45) X mm47 0 0 [some (.ref (ad0 44))] [] 0
  refine x_aload_n (C.gn ad0 45) rfl rfl (dkAt dk_X7_init 0 rfl) 1 rfl ?_
  refine d_obj C lo_RX7_3 mi_obj cw_obj ⟨by decide, by decide⟩ (by decide) (dkAt dk_X7_init 1 rfl) 4 rfl ?_
  refine x_aload_n (C.gn ad0 45) rfl rfl (dkAt dk_X7_init 2 rfl) 5 rfl ?_
  refine x_bipush (C.gn ad0 45) (v := (18 : Int32)) (by decide) (dkAt dk_X7_init 3 rfl) 7 rfl ?_
  refine d_newa C (ty := .int) (L := [some (.inr 44)]) (st := [.inr 44]) sh45 (by decide) rfl ka_int rfl (fun _ => rfl) ⟨by decide, by decide, by decide⟩ (zr47.mono (by decide)) ⟨by decide, by decide⟩ hag (by decide) rfl rfl (by decide) (by decide) (dkAt dk_X7_init 4 rfl) 9 rfl (cs1 := 1) (sl1 := 18) rfl rfl (fun ad hag => ?_)
  change G (gn Γ ad 46) X mm47 1 18 [some (.ref (ad 44))] [.ref (ad 45), .ref (ad 44)] 9
  refine x_putFR (C.gn ad 46) hI (kk := some) (rM := mm48) (fun _ _ => trivial) pkf_RX7_9 ⟨_, rfl⟩ rfl (dkAt dk_X7_init 5 rfl) 12 rfl rfl (fun M1 hM => ?_)
  cases hM
  refine x_aload_n (C.gn ad 46) rfl rfl (dkAt dk_X7_init 6 rfl) 13 rfl ?_
  refine x_bipush (C.gn ad 46) (v := (6 : Int32)) (by decide) (dkAt dk_X7_init 7 rfl) 15 rfl ?_
  refine d_newa C (ty := .int) (L := [some (.inr 44)]) (st := [.inr 44]) sh46 (by decide) rfl ka_int rfl (fun _ => rfl) ⟨by decide, by decide, by decide⟩ (zr48.mono (by decide)) ⟨by decide, by decide⟩ hag (by decide) rfl rfl (by decide) (by decide) (dkAt dk_X7_init 8 rfl) 17 rfl (cs1 := 2) (sl1 := 24) rfl rfl (fun ad hag => ?_)
  change G (gn Γ ad 47) X mm48 2 24 [some (.ref (ad 44))] [.ref (ad 46), .ref (ad 44)] 17
  refine x_putFR (C.gn ad 47) hI (kk := some) (rM := mm49) (fun _ _ => trivial) pkf_RX7_15 ⟨_, rfl⟩ rfl (dkAt dk_X7_init 9 rfl) 20 rfl rfl (fun M1 hM => ?_)
  cases hM
  refine x_aload_n (C.gn ad 47) rfl rfl (dkAt dk_X7_init 10 rfl) 21 rfl ?_
  refine x_iconst (C.gn ad 47) (v := (3 : Int32)) (by decide) (dkAt dk_X7_init 11 rfl) 22 rfl ?_
  refine d_newa C (ty := .int) (L := [some (.inr 44)]) (st := [.inr 44]) sh47 (by decide) rfl ka_int rfl (fun _ => rfl) ⟨by decide, by decide, by decide⟩ (zr49.mono (by decide)) ⟨by decide, by decide⟩ hag (by decide) rfl rfl (by decide) (by decide) (dkAt dk_X7_init 12 rfl) 24 rfl (cs1 := 3) (sl1 := 27) rfl rfl (fun ad hag => ?_)
  change G (gn Γ ad 48) X mm49 3 27 [some (.ref (ad 44))] [.ref (ad 47), .ref (ad 44)] 24
  refine x_putFR (C.gn ad 48) hI (kk := some) (rM := mm50) (fun _ _ => trivial) pkf_RX7_18 ⟨_, rfl⟩ rfl (dkAt dk_X7_init 13 rfl) 27 rfl rfl (fun M1 hM => ?_)
  cases hM
  refine x_aload_n (C.gn ad 48) rfl rfl (dkAt dk_X7_init 14 rfl) 28 rfl ?_
  refine x_iconst (C.gn ad 48) (v := (-1 : Int32)) (by decide) (dkAt dk_X7_init 15 rfl) 29 rfl ?_
  refine x_putI (C.gn ad 48) (kk := some) (rM := mm51) pk_RX7_21 ⟨_, rfl⟩ rfl (dkAt dk_X7_init 16 rfl) 32 rfl rfl (fun M1 hM => ?_)
  cases hM
  refine x_aload_n (C.gn ad 48) rfl rfl (dkAt dk_X7_init 17 rfl) 33 rfl ?_
  refine x_bipush (C.gn ad 48) (v := (6 : Int32)) (by decide) (dkAt dk_X7_init 18 rfl) 35 rfl ?_
  refine d_newa C (ty := .int) (L := [some (.inr 44)]) (st := [.inr 44]) sh48 (by decide) rfl ka_int rfl (fun _ => rfl) ⟨by decide, by decide, by decide⟩ (zr51.mono (by decide)) ⟨by decide, by decide⟩ hag (by decide) rfl rfl (by decide) (by decide) (dkAt dk_X7_init 19 rfl) 37 rfl (cs1 := 4) (sl1 := 33) rfl rfl (fun ad hag => ?_)
  change G (gn Γ ad 49) X mm51 4 33 [some (.ref (ad 44))] [.ref (ad 48), .ref (ad 44)] 37
  refine x_putFR (C.gn ad 49) hI (kk := some) (rM := mm52) (fun _ _ => trivial) pkf_RX7_25 ⟨_, rfl⟩ rfl (dkAt dk_X7_init 20 rfl) 40 rfl rfl (fun M1 hM => ?_)
  cases hM
  refine x_aload_n (C.gn ad 49) rfl rfl (dkAt dk_X7_init 21 rfl) 41 rfl ?_
  refine x_iconst (C.gn ad 49) (v := (5 : Int32)) (by decide) (dkAt dk_X7_init 22 rfl) 42 rfl ?_
  refine d_newa C (ty := .int) (L := [some (.inr 44)]) (st := [.inr 44]) sh49 (by decide) rfl ka_int rfl (fun _ => rfl) ⟨by decide, by decide, by decide⟩ (zr52.mono (by decide)) ⟨by decide, by decide⟩ hag (by decide) rfl rfl (by decide) (by decide) (dkAt dk_X7_init 23 rfl) 44 rfl (cs1 := 5) (sl1 := 38) rfl rfl (fun ad hag => ?_)
  change G (gn Γ ad 50) X mm52 5 38 [some (.ref (ad 44))] [.ref (ad 49), .ref (ad 44)] 44
  refine x_putFR (C.gn ad 50) hI (kk := some) (rM := mm53) (fun _ _ => trivial) pkf_RX7_28 ⟨_, rfl⟩ rfl (dkAt dk_X7_init 24 rfl) 47 rfl rfl (fun M1 hM => ?_)
  cases hM
  exact d_vret C E hag (by decide) (by decide) (dkAt dk_X7_init 25 rfl)
set_option maxRecDepth 100000 in
theorem k_X7_init_50 {Γ : WC} (hG : HG Γ) (hov : va_AO "DecisionChain$Settings" (wU Γ)) : CtD Γ yX7_init cX7_init 1 (rmL 1 5 38) 51 56 [50] mm54 mm60 := by
  refine mkD hG (own := RX7) rfl (by decide) rfl (fun _ => Nat.le_of_ble_eq_true rfl) (fun ad0 X C hI E => ?_)
  have hag : agr 51 ad0 ad0 := fun _ _ => rfl
  change G (gn Γ ad0 51) X mm54 0 0 [some (.ref (ad0 50))] [] 0
  refine x_aload_n (C.gn ad0 51) rfl rfl (dkAt dk_X7_init 0 rfl) 1 rfl ?_
  refine d_obj C lo_RX7_3 mi_obj cw_obj ⟨by decide, by decide⟩ (by decide) (dkAt dk_X7_init 1 rfl) 4 rfl ?_
  refine x_aload_n (C.gn ad0 51) rfl rfl (dkAt dk_X7_init 2 rfl) 5 rfl ?_
  refine x_bipush (C.gn ad0 51) (v := (18 : Int32)) (by decide) (dkAt dk_X7_init 3 rfl) 7 rfl ?_
  refine d_newa C (ty := .int) (L := [some (.inr 50)]) (st := [.inr 50]) sh51 (by decide) rfl ka_int rfl (fun _ => rfl) ⟨by decide, by decide, by decide⟩ (zr54.mono (by decide)) ⟨by decide, by decide⟩ hag (by decide) rfl rfl (by decide) (by decide) (dkAt dk_X7_init 4 rfl) 9 rfl (cs1 := 1) (sl1 := 18) rfl rfl (fun ad hag => ?_)
  change G (gn Γ ad 52) X mm54 1 18 [some (.ref (ad 50))] [.ref (ad 51), .ref (ad 50)] 9
  refine x_putFR (C.gn ad 52) hI (kk := some) (rM := mm55) (fun _ _ => trivial) pkf_RX7_9 ⟨_, rfl⟩ rfl (dkAt dk_X7_init 5 rfl) 12 rfl rfl (fun M1 hM => ?_)
  cases hM
  refine x_aload_n (C.gn ad 52) rfl rfl (dkAt dk_X7_init 6 rfl) 13 rfl ?_
  refine x_bipush (C.gn ad 52) (v := (6 : Int32)) (by decide) (dkAt dk_X7_init 7 rfl) 15 rfl ?_
  refine d_newa C (ty := .int) (L := [some (.inr 50)]) (st := [.inr 50]) sh52 (by decide) rfl ka_int rfl (fun _ => rfl) ⟨by decide, by decide, by decide⟩ (zr55.mono (by decide)) ⟨by decide, by decide⟩ hag (by decide) rfl rfl (by decide) (by decide) (dkAt dk_X7_init 8 rfl) 17 rfl (cs1 := 2) (sl1 := 24) rfl rfl (fun ad hag => ?_)
  change G (gn Γ ad 53) X mm55 2 24 [some (.ref (ad 50))] [.ref (ad 52), .ref (ad 50)] 17
  refine x_putFR (C.gn ad 53) hI (kk := some) (rM := mm56) (fun _ _ => trivial) pkf_RX7_15 ⟨_, rfl⟩ rfl (dkAt dk_X7_init 9 rfl) 20 rfl rfl (fun M1 hM => ?_)
  cases hM
  refine x_aload_n (C.gn ad 53) rfl rfl (dkAt dk_X7_init 10 rfl) 21 rfl ?_
  refine x_iconst (C.gn ad 53) (v := (3 : Int32)) (by decide) (dkAt dk_X7_init 11 rfl) 22 rfl ?_
  refine d_newa C (ty := .int) (L := [some (.inr 50)]) (st := [.inr 50]) sh53 (by decide) rfl ka_int rfl (fun _ => rfl) ⟨by decide, by decide, by decide⟩ (zr56.mono (by decide)) ⟨by decide, by decide⟩ hag (by decide) rfl rfl (by decide) (by decide) (dkAt dk_X7_init 12 rfl) 24 rfl (cs1 := 3) (sl1 := 27) rfl rfl (fun ad hag => ?_)
  change G (gn Γ ad 54) X mm56 3 27 [some (.ref (ad 50))] [.ref (ad 53), .ref (ad 50)] 24
  refine x_putFR (C.gn ad 54) hI (kk := some) (rM := mm57) (fun _ _ => trivial) pkf_RX7_18 ⟨_, rfl⟩ rfl (dkAt dk_X7_init 13 rfl) 27 rfl rfl (fun M1 hM => ?_)
  cases hM
  refine x_aload_n (C.gn ad 54) rfl rfl (dkAt dk_X7_init 14 rfl) 28 rfl ?_
  refine x_iconst (C.gn ad 54) (v := (-1 : Int32)) (by decide) (dkAt dk_X7_init 15 rfl) 29 rfl ?_
  refine x_putI (C.gn ad 54) (kk := some) (rM := mm58) pk_RX7_21 ⟨_, rfl⟩ rfl (dkAt dk_X7_init 16 rfl) 32 rfl rfl (fun M1 hM => ?_)
  cases hM
  refine x_aload_n (C.gn ad 54) rfl rfl (dkAt dk_X7_init 17 rfl) 33 rfl ?_
  refine x_bipush (C.gn ad 54) (v := (6 : Int32)) (by decide) (dkAt dk_X7_init 18 rfl) 35 rfl ?_
  refine d_newa C (ty := .int) (L := [some (.inr 50)]) (st := [.inr 50]) sh54 (by decide) rfl ka_int rfl (fun _ => rfl) ⟨by decide, by decide, by decide⟩ (zr58.mono (by decide)) ⟨by decide, by decide⟩ hag (by decide) rfl rfl (by decide) (by decide) (dkAt dk_X7_init 19 rfl) 37 rfl (cs1 := 4) (sl1 := 33) rfl rfl (fun ad hag => ?_)
  change G (gn Γ ad 55) X mm58 4 33 [some (.ref (ad 50))] [.ref (ad 54), .ref (ad 50)] 37
  refine x_putFR (C.gn ad 55) hI (kk := some) (rM := mm59) (fun _ _ => trivial) pkf_RX7_25 ⟨_, rfl⟩ rfl (dkAt dk_X7_init 20 rfl) 40 rfl rfl (fun M1 hM => ?_)
  cases hM
  refine x_aload_n (C.gn ad 55) rfl rfl (dkAt dk_X7_init 21 rfl) 41 rfl ?_
  refine x_iconst (C.gn ad 55) (v := (5 : Int32)) (by decide) (dkAt dk_X7_init 22 rfl) 42 rfl ?_
  refine d_newa C (ty := .int) (L := [some (.inr 50)]) (st := [.inr 50]) sh55 (by decide) rfl ka_int rfl (fun _ => rfl) ⟨by decide, by decide, by decide⟩ (zr59.mono (by decide)) ⟨by decide, by decide⟩ hag (by decide) rfl rfl (by decide) (by decide) (dkAt dk_X7_init 23 rfl) 44 rfl (cs1 := 5) (sl1 := 38) rfl rfl (fun ad hag => ?_)
  change G (gn Γ ad 56) X mm59 5 38 [some (.ref (ad 50))] [.ref (ad 55), .ref (ad 50)] 44
  refine x_putFR (C.gn ad 56) hI (kk := some) (rM := mm60) (fun _ _ => trivial) pkf_RX7_28 ⟨_, rfl⟩ rfl (dkAt dk_X7_init 24 rfl) 47 rfl rfl (fun M1 hM => ?_)
  cases hM
  exact d_vret C E hag (by decide) (by decide) (dkAt dk_X7_init 25 rfl)
set_option maxRecDepth 100000 in
theorem k_X7_init_56 {Γ : WC} (hG : HG Γ) (hov : va_AO "DecisionChain$Settings" (wU Γ)) : CtD Γ yX7_init cX7_init 1 (rmL 1 5 38) 57 62 [56] mm61 mm67 := by
  refine mkD hG (own := RX7) rfl (by decide) rfl (fun _ => Nat.le_of_ble_eq_true rfl) (fun ad0 X C hI E => ?_)
  have hag : agr 57 ad0 ad0 := fun _ _ => rfl
  change G (gn Γ ad0 57) X mm61 0 0 [some (.ref (ad0 56))] [] 0
  refine x_aload_n (C.gn ad0 57) rfl rfl (dkAt dk_X7_init 0 rfl) 1 rfl ?_
  refine d_obj C lo_RX7_3 mi_obj cw_obj ⟨by decide, by decide⟩ (by decide) (dkAt dk_X7_init 1 rfl) 4 rfl ?_
  refine x_aload_n (C.gn ad0 57) rfl rfl (dkAt dk_X7_init 2 rfl) 5 rfl ?_
  refine x_bipush (C.gn ad0 57) (v := (18 : Int32)) (by decide) (dkAt dk_X7_init 3 rfl) 7 rfl ?_
  refine d_newa C (ty := .int) (L := [some (.inr 56)]) (st := [.inr 56]) sh57 (by decide) rfl ka_int rfl (fun _ => rfl) ⟨by decide, by decide, by decide⟩ (zr61.mono (by decide)) ⟨by decide, by decide⟩ hag (by decide) rfl rfl (by decide) (by decide) (dkAt dk_X7_init 4 rfl) 9 rfl (cs1 := 1) (sl1 := 18) rfl rfl (fun ad hag => ?_)
  change G (gn Γ ad 58) X mm61 1 18 [some (.ref (ad 56))] [.ref (ad 57), .ref (ad 56)] 9
  refine x_putFR (C.gn ad 58) hI (kk := some) (rM := mm62) (fun _ _ => trivial) pkf_RX7_9 ⟨_, rfl⟩ rfl (dkAt dk_X7_init 5 rfl) 12 rfl rfl (fun M1 hM => ?_)
  cases hM
  refine x_aload_n (C.gn ad 58) rfl rfl (dkAt dk_X7_init 6 rfl) 13 rfl ?_
  refine x_bipush (C.gn ad 58) (v := (6 : Int32)) (by decide) (dkAt dk_X7_init 7 rfl) 15 rfl ?_
  refine d_newa C (ty := .int) (L := [some (.inr 56)]) (st := [.inr 56]) sh58 (by decide) rfl ka_int rfl (fun _ => rfl) ⟨by decide, by decide, by decide⟩ (zr62.mono (by decide)) ⟨by decide, by decide⟩ hag (by decide) rfl rfl (by decide) (by decide) (dkAt dk_X7_init 8 rfl) 17 rfl (cs1 := 2) (sl1 := 24) rfl rfl (fun ad hag => ?_)
  change G (gn Γ ad 59) X mm62 2 24 [some (.ref (ad 56))] [.ref (ad 58), .ref (ad 56)] 17
  refine x_putFR (C.gn ad 59) hI (kk := some) (rM := mm63) (fun _ _ => trivial) pkf_RX7_15 ⟨_, rfl⟩ rfl (dkAt dk_X7_init 9 rfl) 20 rfl rfl (fun M1 hM => ?_)
  cases hM
  refine x_aload_n (C.gn ad 59) rfl rfl (dkAt dk_X7_init 10 rfl) 21 rfl ?_
  refine x_iconst (C.gn ad 59) (v := (3 : Int32)) (by decide) (dkAt dk_X7_init 11 rfl) 22 rfl ?_
  refine d_newa C (ty := .int) (L := [some (.inr 56)]) (st := [.inr 56]) sh59 (by decide) rfl ka_int rfl (fun _ => rfl) ⟨by decide, by decide, by decide⟩ (zr63.mono (by decide)) ⟨by decide, by decide⟩ hag (by decide) rfl rfl (by decide) (by decide) (dkAt dk_X7_init 12 rfl) 24 rfl (cs1 := 3) (sl1 := 27) rfl rfl (fun ad hag => ?_)
  change G (gn Γ ad 60) X mm63 3 27 [some (.ref (ad 56))] [.ref (ad 59), .ref (ad 56)] 24
  refine x_putFR (C.gn ad 60) hI (kk := some) (rM := mm64) (fun _ _ => trivial) pkf_RX7_18 ⟨_, rfl⟩ rfl (dkAt dk_X7_init 13 rfl) 27 rfl rfl (fun M1 hM => ?_)
  cases hM
  refine x_aload_n (C.gn ad 60) rfl rfl (dkAt dk_X7_init 14 rfl) 28 rfl ?_
  refine x_iconst (C.gn ad 60) (v := (-1 : Int32)) (by decide) (dkAt dk_X7_init 15 rfl) 29 rfl ?_
  refine x_putI (C.gn ad 60) (kk := some) (rM := mm65) pk_RX7_21 ⟨_, rfl⟩ rfl (dkAt dk_X7_init 16 rfl) 32 rfl rfl (fun M1 hM => ?_)
  cases hM
  refine x_aload_n (C.gn ad 60) rfl rfl (dkAt dk_X7_init 17 rfl) 33 rfl ?_
  refine x_bipush (C.gn ad 60) (v := (6 : Int32)) (by decide) (dkAt dk_X7_init 18 rfl) 35 rfl ?_
  refine d_newa C (ty := .int) (L := [some (.inr 56)]) (st := [.inr 56]) sh60 (by decide) rfl ka_int rfl (fun _ => rfl) ⟨by decide, by decide, by decide⟩ (zr65.mono (by decide)) ⟨by decide, by decide⟩ hag (by decide) rfl rfl (by decide) (by decide) (dkAt dk_X7_init 19 rfl) 37 rfl (cs1 := 4) (sl1 := 33) rfl rfl (fun ad hag => ?_)
  change G (gn Γ ad 61) X mm65 4 33 [some (.ref (ad 56))] [.ref (ad 60), .ref (ad 56)] 37
  refine x_putFR (C.gn ad 61) hI (kk := some) (rM := mm66) (fun _ _ => trivial) pkf_RX7_25 ⟨_, rfl⟩ rfl (dkAt dk_X7_init 20 rfl) 40 rfl rfl (fun M1 hM => ?_)
  cases hM
  refine x_aload_n (C.gn ad 61) rfl rfl (dkAt dk_X7_init 21 rfl) 41 rfl ?_
  refine x_iconst (C.gn ad 61) (v := (5 : Int32)) (by decide) (dkAt dk_X7_init 22 rfl) 42 rfl ?_
  refine d_newa C (ty := .int) (L := [some (.inr 56)]) (st := [.inr 56]) sh61 (by decide) rfl ka_int rfl (fun _ => rfl) ⟨by decide, by decide, by decide⟩ (zr66.mono (by decide)) ⟨by decide, by decide⟩ hag (by decide) rfl rfl (by decide) (by decide) (dkAt dk_X7_init 23 rfl) 44 rfl (cs1 := 5) (sl1 := 38) rfl rfl (fun ad hag => ?_)
  change G (gn Γ ad 62) X mm66 5 38 [some (.ref (ad 56))] [.ref (ad 61), .ref (ad 56)] 44
  refine x_putFR (C.gn ad 62) hI (kk := some) (rM := mm67) (fun _ _ => trivial) pkf_RX7_28 ⟨_, rfl⟩ rfl (dkAt dk_X7_init 24 rfl) 47 rfl rfl (fun M1 hM => ?_)
  cases hM
  exact d_vret C E hag (by decide) (by decide) (dkAt dk_X7_init 25 rfl)
set_option maxRecDepth 100000 in
theorem k_X7_init_62 {Γ : WC} (hG : HG Γ) (hov : va_AO "DecisionChain$Settings" (wU Γ)) : CtD Γ yX7_init cX7_init 1 (rmL 1 5 38) 63 68 [62] mm68 mm74 := by
  refine mkD hG (own := RX7) rfl (by decide) rfl (fun _ => Nat.le_of_ble_eq_true rfl) (fun ad0 X C hI E => ?_)
  have hag : agr 63 ad0 ad0 := fun _ _ => rfl
  change G (gn Γ ad0 63) X mm68 0 0 [some (.ref (ad0 62))] [] 0
  refine x_aload_n (C.gn ad0 63) rfl rfl (dkAt dk_X7_init 0 rfl) 1 rfl ?_
  refine d_obj C lo_RX7_3 mi_obj cw_obj ⟨by decide, by decide⟩ (by decide) (dkAt dk_X7_init 1 rfl) 4 rfl ?_
  refine x_aload_n (C.gn ad0 63) rfl rfl (dkAt dk_X7_init 2 rfl) 5 rfl ?_
  refine x_bipush (C.gn ad0 63) (v := (18 : Int32)) (by decide) (dkAt dk_X7_init 3 rfl) 7 rfl ?_
  refine d_newa C (ty := .int) (L := [some (.inr 62)]) (st := [.inr 62]) sh63 (by decide) rfl ka_int rfl (fun _ => rfl) ⟨by decide, by decide, by decide⟩ (zr68.mono (by decide)) ⟨by decide, by decide⟩ hag (by decide) rfl rfl (by decide) (by decide) (dkAt dk_X7_init 4 rfl) 9 rfl (cs1 := 1) (sl1 := 18) rfl rfl (fun ad hag => ?_)
  change G (gn Γ ad 64) X mm68 1 18 [some (.ref (ad 62))] [.ref (ad 63), .ref (ad 62)] 9
  refine x_putFR (C.gn ad 64) hI (kk := some) (rM := mm69) (fun _ _ => trivial) pkf_RX7_9 ⟨_, rfl⟩ rfl (dkAt dk_X7_init 5 rfl) 12 rfl rfl (fun M1 hM => ?_)
  cases hM
  refine x_aload_n (C.gn ad 64) rfl rfl (dkAt dk_X7_init 6 rfl) 13 rfl ?_
  refine x_bipush (C.gn ad 64) (v := (6 : Int32)) (by decide) (dkAt dk_X7_init 7 rfl) 15 rfl ?_
  refine d_newa C (ty := .int) (L := [some (.inr 62)]) (st := [.inr 62]) sh64 (by decide) rfl ka_int rfl (fun _ => rfl) ⟨by decide, by decide, by decide⟩ (zr69.mono (by decide)) ⟨by decide, by decide⟩ hag (by decide) rfl rfl (by decide) (by decide) (dkAt dk_X7_init 8 rfl) 17 rfl (cs1 := 2) (sl1 := 24) rfl rfl (fun ad hag => ?_)
  change G (gn Γ ad 65) X mm69 2 24 [some (.ref (ad 62))] [.ref (ad 64), .ref (ad 62)] 17
  refine x_putFR (C.gn ad 65) hI (kk := some) (rM := mm70) (fun _ _ => trivial) pkf_RX7_15 ⟨_, rfl⟩ rfl (dkAt dk_X7_init 9 rfl) 20 rfl rfl (fun M1 hM => ?_)
  cases hM
  refine x_aload_n (C.gn ad 65) rfl rfl (dkAt dk_X7_init 10 rfl) 21 rfl ?_
  refine x_iconst (C.gn ad 65) (v := (3 : Int32)) (by decide) (dkAt dk_X7_init 11 rfl) 22 rfl ?_
  refine d_newa C (ty := .int) (L := [some (.inr 62)]) (st := [.inr 62]) sh65 (by decide) rfl ka_int rfl (fun _ => rfl) ⟨by decide, by decide, by decide⟩ (zr70.mono (by decide)) ⟨by decide, by decide⟩ hag (by decide) rfl rfl (by decide) (by decide) (dkAt dk_X7_init 12 rfl) 24 rfl (cs1 := 3) (sl1 := 27) rfl rfl (fun ad hag => ?_)
  change G (gn Γ ad 66) X mm70 3 27 [some (.ref (ad 62))] [.ref (ad 65), .ref (ad 62)] 24
  refine x_putFR (C.gn ad 66) hI (kk := some) (rM := mm71) (fun _ _ => trivial) pkf_RX7_18 ⟨_, rfl⟩ rfl (dkAt dk_X7_init 13 rfl) 27 rfl rfl (fun M1 hM => ?_)
  cases hM
  refine x_aload_n (C.gn ad 66) rfl rfl (dkAt dk_X7_init 14 rfl) 28 rfl ?_
  refine x_iconst (C.gn ad 66) (v := (-1 : Int32)) (by decide) (dkAt dk_X7_init 15 rfl) 29 rfl ?_
  refine x_putI (C.gn ad 66) (kk := some) (rM := mm72) pk_RX7_21 ⟨_, rfl⟩ rfl (dkAt dk_X7_init 16 rfl) 32 rfl rfl (fun M1 hM => ?_)
  cases hM
  refine x_aload_n (C.gn ad 66) rfl rfl (dkAt dk_X7_init 17 rfl) 33 rfl ?_
  refine x_bipush (C.gn ad 66) (v := (6 : Int32)) (by decide) (dkAt dk_X7_init 18 rfl) 35 rfl ?_
  refine d_newa C (ty := .int) (L := [some (.inr 62)]) (st := [.inr 62]) sh66 (by decide) rfl ka_int rfl (fun _ => rfl) ⟨by decide, by decide, by decide⟩ (zr72.mono (by decide)) ⟨by decide, by decide⟩ hag (by decide) rfl rfl (by decide) (by decide) (dkAt dk_X7_init 19 rfl) 37 rfl (cs1 := 4) (sl1 := 33) rfl rfl (fun ad hag => ?_)
  change G (gn Γ ad 67) X mm72 4 33 [some (.ref (ad 62))] [.ref (ad 66), .ref (ad 62)] 37
  refine x_putFR (C.gn ad 67) hI (kk := some) (rM := mm73) (fun _ _ => trivial) pkf_RX7_25 ⟨_, rfl⟩ rfl (dkAt dk_X7_init 20 rfl) 40 rfl rfl (fun M1 hM => ?_)
  cases hM
  refine x_aload_n (C.gn ad 67) rfl rfl (dkAt dk_X7_init 21 rfl) 41 rfl ?_
  refine x_iconst (C.gn ad 67) (v := (5 : Int32)) (by decide) (dkAt dk_X7_init 22 rfl) 42 rfl ?_
  refine d_newa C (ty := .int) (L := [some (.inr 62)]) (st := [.inr 62]) sh67 (by decide) rfl ka_int rfl (fun _ => rfl) ⟨by decide, by decide, by decide⟩ (zr73.mono (by decide)) ⟨by decide, by decide⟩ hag (by decide) rfl rfl (by decide) (by decide) (dkAt dk_X7_init 23 rfl) 44 rfl (cs1 := 5) (sl1 := 38) rfl rfl (fun ad hag => ?_)
  change G (gn Γ ad 68) X mm73 5 38 [some (.ref (ad 62))] [.ref (ad 67), .ref (ad 62)] 44
  refine x_putFR (C.gn ad 68) hI (kk := some) (rM := mm74) (fun _ _ => trivial) pkf_RX7_28 ⟨_, rfl⟩ rfl (dkAt dk_X7_init 24 rfl) 47 rfl rfl (fun M1 hM => ?_)
  cases hM
  exact d_vret C E hag (by decide) (by decide) (dkAt dk_X7_init 25 rfl)
set_option maxRecDepth 100000 in
theorem k_X7_init_68 {Γ : WC} (hG : HG Γ) (hov : va_AO "DecisionChain$Settings" (wU Γ)) : CtD Γ yX7_init cX7_init 1 (rmL 1 5 38) 69 74 [68] mm75 mm81 := by
  refine mkD hG (own := RX7) rfl (by decide) rfl (fun _ => Nat.le_of_ble_eq_true rfl) (fun ad0 X C hI E => ?_)
  have hag : agr 69 ad0 ad0 := fun _ _ => rfl
  change G (gn Γ ad0 69) X mm75 0 0 [some (.ref (ad0 68))] [] 0
  refine x_aload_n (C.gn ad0 69) rfl rfl (dkAt dk_X7_init 0 rfl) 1 rfl ?_
  refine d_obj C lo_RX7_3 mi_obj cw_obj ⟨by decide, by decide⟩ (by decide) (dkAt dk_X7_init 1 rfl) 4 rfl ?_
  refine x_aload_n (C.gn ad0 69) rfl rfl (dkAt dk_X7_init 2 rfl) 5 rfl ?_
  refine x_bipush (C.gn ad0 69) (v := (18 : Int32)) (by decide) (dkAt dk_X7_init 3 rfl) 7 rfl ?_
  refine d_newa C (ty := .int) (L := [some (.inr 68)]) (st := [.inr 68]) sh69 (by decide) rfl ka_int rfl (fun _ => rfl) ⟨by decide, by decide, by decide⟩ (zr75.mono (by decide)) ⟨by decide, by decide⟩ hag (by decide) rfl rfl (by decide) (by decide) (dkAt dk_X7_init 4 rfl) 9 rfl (cs1 := 1) (sl1 := 18) rfl rfl (fun ad hag => ?_)
  change G (gn Γ ad 70) X mm75 1 18 [some (.ref (ad 68))] [.ref (ad 69), .ref (ad 68)] 9
  refine x_putFR (C.gn ad 70) hI (kk := some) (rM := mm76) (fun _ _ => trivial) pkf_RX7_9 ⟨_, rfl⟩ rfl (dkAt dk_X7_init 5 rfl) 12 rfl rfl (fun M1 hM => ?_)
  cases hM
  refine x_aload_n (C.gn ad 70) rfl rfl (dkAt dk_X7_init 6 rfl) 13 rfl ?_
  refine x_bipush (C.gn ad 70) (v := (6 : Int32)) (by decide) (dkAt dk_X7_init 7 rfl) 15 rfl ?_
  refine d_newa C (ty := .int) (L := [some (.inr 68)]) (st := [.inr 68]) sh70 (by decide) rfl ka_int rfl (fun _ => rfl) ⟨by decide, by decide, by decide⟩ (zr76.mono (by decide)) ⟨by decide, by decide⟩ hag (by decide) rfl rfl (by decide) (by decide) (dkAt dk_X7_init 8 rfl) 17 rfl (cs1 := 2) (sl1 := 24) rfl rfl (fun ad hag => ?_)
  change G (gn Γ ad 71) X mm76 2 24 [some (.ref (ad 68))] [.ref (ad 70), .ref (ad 68)] 17
  refine x_putFR (C.gn ad 71) hI (kk := some) (rM := mm77) (fun _ _ => trivial) pkf_RX7_15 ⟨_, rfl⟩ rfl (dkAt dk_X7_init 9 rfl) 20 rfl rfl (fun M1 hM => ?_)
  cases hM
  refine x_aload_n (C.gn ad 71) rfl rfl (dkAt dk_X7_init 10 rfl) 21 rfl ?_
  refine x_iconst (C.gn ad 71) (v := (3 : Int32)) (by decide) (dkAt dk_X7_init 11 rfl) 22 rfl ?_
  refine d_newa C (ty := .int) (L := [some (.inr 68)]) (st := [.inr 68]) sh71 (by decide) rfl ka_int rfl (fun _ => rfl) ⟨by decide, by decide, by decide⟩ (zr77.mono (by decide)) ⟨by decide, by decide⟩ hag (by decide) rfl rfl (by decide) (by decide) (dkAt dk_X7_init 12 rfl) 24 rfl (cs1 := 3) (sl1 := 27) rfl rfl (fun ad hag => ?_)
  change G (gn Γ ad 72) X mm77 3 27 [some (.ref (ad 68))] [.ref (ad 71), .ref (ad 68)] 24
  refine x_putFR (C.gn ad 72) hI (kk := some) (rM := mm78) (fun _ _ => trivial) pkf_RX7_18 ⟨_, rfl⟩ rfl (dkAt dk_X7_init 13 rfl) 27 rfl rfl (fun M1 hM => ?_)
  cases hM
  refine x_aload_n (C.gn ad 72) rfl rfl (dkAt dk_X7_init 14 rfl) 28 rfl ?_
  refine x_iconst (C.gn ad 72) (v := (-1 : Int32)) (by decide) (dkAt dk_X7_init 15 rfl) 29 rfl ?_
  refine x_putI (C.gn ad 72) (kk := some) (rM := mm79) pk_RX7_21 ⟨_, rfl⟩ rfl (dkAt dk_X7_init 16 rfl) 32 rfl rfl (fun M1 hM => ?_)
  cases hM
  refine x_aload_n (C.gn ad 72) rfl rfl (dkAt dk_X7_init 17 rfl) 33 rfl ?_
  refine x_bipush (C.gn ad 72) (v := (6 : Int32)) (by decide) (dkAt dk_X7_init 18 rfl) 35 rfl ?_
  refine d_newa C (ty := .int) (L := [some (.inr 68)]) (st := [.inr 68]) sh72 (by decide) rfl ka_int rfl (fun _ => rfl) ⟨by decide, by decide, by decide⟩ (zr79.mono (by decide)) ⟨by decide, by decide⟩ hag (by decide) rfl rfl (by decide) (by decide) (dkAt dk_X7_init 19 rfl) 37 rfl (cs1 := 4) (sl1 := 33) rfl rfl (fun ad hag => ?_)
  change G (gn Γ ad 73) X mm79 4 33 [some (.ref (ad 68))] [.ref (ad 72), .ref (ad 68)] 37
  refine x_putFR (C.gn ad 73) hI (kk := some) (rM := mm80) (fun _ _ => trivial) pkf_RX7_25 ⟨_, rfl⟩ rfl (dkAt dk_X7_init 20 rfl) 40 rfl rfl (fun M1 hM => ?_)
  cases hM
  refine x_aload_n (C.gn ad 73) rfl rfl (dkAt dk_X7_init 21 rfl) 41 rfl ?_
  refine x_iconst (C.gn ad 73) (v := (5 : Int32)) (by decide) (dkAt dk_X7_init 22 rfl) 42 rfl ?_
  refine d_newa C (ty := .int) (L := [some (.inr 68)]) (st := [.inr 68]) sh73 (by decide) rfl ka_int rfl (fun _ => rfl) ⟨by decide, by decide, by decide⟩ (zr80.mono (by decide)) ⟨by decide, by decide⟩ hag (by decide) rfl rfl (by decide) (by decide) (dkAt dk_X7_init 23 rfl) 44 rfl (cs1 := 5) (sl1 := 38) rfl rfl (fun ad hag => ?_)
  change G (gn Γ ad 74) X mm80 5 38 [some (.ref (ad 68))] [.ref (ad 73), .ref (ad 68)] 44
  refine x_putFR (C.gn ad 74) hI (kk := some) (rM := mm81) (fun _ _ => trivial) pkf_RX7_28 ⟨_, rfl⟩ rfl (dkAt dk_X7_init 24 rfl) 47 rfl rfl (fun M1 hM => ?_)
  cases hM
  exact d_vret C E hag (by decide) (by decide) (dkAt dk_X7_init 25 rfl)
set_option maxRecDepth 100000 in
theorem k_X7_init_74 {Γ : WC} (hG : HG Γ) (hov : va_AO "DecisionChain$Settings" (wU Γ)) : CtD Γ yX7_init cX7_init 1 (rmL 1 5 38) 75 80 [74] mm82 mm88 := by
  refine mkD hG (own := RX7) rfl (by decide) rfl (fun _ => Nat.le_of_ble_eq_true rfl) (fun ad0 X C hI E => ?_)
  have hag : agr 75 ad0 ad0 := fun _ _ => rfl
  change G (gn Γ ad0 75) X mm82 0 0 [some (.ref (ad0 74))] [] 0
  refine x_aload_n (C.gn ad0 75) rfl rfl (dkAt dk_X7_init 0 rfl) 1 rfl ?_
  refine d_obj C lo_RX7_3 mi_obj cw_obj ⟨by decide, by decide⟩ (by decide) (dkAt dk_X7_init 1 rfl) 4 rfl ?_
  refine x_aload_n (C.gn ad0 75) rfl rfl (dkAt dk_X7_init 2 rfl) 5 rfl ?_
  refine x_bipush (C.gn ad0 75) (v := (18 : Int32)) (by decide) (dkAt dk_X7_init 3 rfl) 7 rfl ?_
  refine d_newa C (ty := .int) (L := [some (.inr 74)]) (st := [.inr 74]) sh75 (by decide) rfl ka_int rfl (fun _ => rfl) ⟨by decide, by decide, by decide⟩ (zr82.mono (by decide)) ⟨by decide, by decide⟩ hag (by decide) rfl rfl (by decide) (by decide) (dkAt dk_X7_init 4 rfl) 9 rfl (cs1 := 1) (sl1 := 18) rfl rfl (fun ad hag => ?_)
  change G (gn Γ ad 76) X mm82 1 18 [some (.ref (ad 74))] [.ref (ad 75), .ref (ad 74)] 9
  refine x_putFR (C.gn ad 76) hI (kk := some) (rM := mm83) (fun _ _ => trivial) pkf_RX7_9 ⟨_, rfl⟩ rfl (dkAt dk_X7_init 5 rfl) 12 rfl rfl (fun M1 hM => ?_)
  cases hM
  refine x_aload_n (C.gn ad 76) rfl rfl (dkAt dk_X7_init 6 rfl) 13 rfl ?_
  refine x_bipush (C.gn ad 76) (v := (6 : Int32)) (by decide) (dkAt dk_X7_init 7 rfl) 15 rfl ?_
  refine d_newa C (ty := .int) (L := [some (.inr 74)]) (st := [.inr 74]) sh76 (by decide) rfl ka_int rfl (fun _ => rfl) ⟨by decide, by decide, by decide⟩ (zr83.mono (by decide)) ⟨by decide, by decide⟩ hag (by decide) rfl rfl (by decide) (by decide) (dkAt dk_X7_init 8 rfl) 17 rfl (cs1 := 2) (sl1 := 24) rfl rfl (fun ad hag => ?_)
  change G (gn Γ ad 77) X mm83 2 24 [some (.ref (ad 74))] [.ref (ad 76), .ref (ad 74)] 17
  refine x_putFR (C.gn ad 77) hI (kk := some) (rM := mm84) (fun _ _ => trivial) pkf_RX7_15 ⟨_, rfl⟩ rfl (dkAt dk_X7_init 9 rfl) 20 rfl rfl (fun M1 hM => ?_)
  cases hM
  refine x_aload_n (C.gn ad 77) rfl rfl (dkAt dk_X7_init 10 rfl) 21 rfl ?_
  refine x_iconst (C.gn ad 77) (v := (3 : Int32)) (by decide) (dkAt dk_X7_init 11 rfl) 22 rfl ?_
  refine d_newa C (ty := .int) (L := [some (.inr 74)]) (st := [.inr 74]) sh77 (by decide) rfl ka_int rfl (fun _ => rfl) ⟨by decide, by decide, by decide⟩ (zr84.mono (by decide)) ⟨by decide, by decide⟩ hag (by decide) rfl rfl (by decide) (by decide) (dkAt dk_X7_init 12 rfl) 24 rfl (cs1 := 3) (sl1 := 27) rfl rfl (fun ad hag => ?_)
  change G (gn Γ ad 78) X mm84 3 27 [some (.ref (ad 74))] [.ref (ad 77), .ref (ad 74)] 24
  refine x_putFR (C.gn ad 78) hI (kk := some) (rM := mm85) (fun _ _ => trivial) pkf_RX7_18 ⟨_, rfl⟩ rfl (dkAt dk_X7_init 13 rfl) 27 rfl rfl (fun M1 hM => ?_)
  cases hM
  refine x_aload_n (C.gn ad 78) rfl rfl (dkAt dk_X7_init 14 rfl) 28 rfl ?_
  refine x_iconst (C.gn ad 78) (v := (-1 : Int32)) (by decide) (dkAt dk_X7_init 15 rfl) 29 rfl ?_
  refine x_putI (C.gn ad 78) (kk := some) (rM := mm86) pk_RX7_21 ⟨_, rfl⟩ rfl (dkAt dk_X7_init 16 rfl) 32 rfl rfl (fun M1 hM => ?_)
  cases hM
  refine x_aload_n (C.gn ad 78) rfl rfl (dkAt dk_X7_init 17 rfl) 33 rfl ?_
  refine x_bipush (C.gn ad 78) (v := (6 : Int32)) (by decide) (dkAt dk_X7_init 18 rfl) 35 rfl ?_
  refine d_newa C (ty := .int) (L := [some (.inr 74)]) (st := [.inr 74]) sh78 (by decide) rfl ka_int rfl (fun _ => rfl) ⟨by decide, by decide, by decide⟩ (zr86.mono (by decide)) ⟨by decide, by decide⟩ hag (by decide) rfl rfl (by decide) (by decide) (dkAt dk_X7_init 19 rfl) 37 rfl (cs1 := 4) (sl1 := 33) rfl rfl (fun ad hag => ?_)
  change G (gn Γ ad 79) X mm86 4 33 [some (.ref (ad 74))] [.ref (ad 78), .ref (ad 74)] 37
  refine x_putFR (C.gn ad 79) hI (kk := some) (rM := mm87) (fun _ _ => trivial) pkf_RX7_25 ⟨_, rfl⟩ rfl (dkAt dk_X7_init 20 rfl) 40 rfl rfl (fun M1 hM => ?_)
  cases hM
  refine x_aload_n (C.gn ad 79) rfl rfl (dkAt dk_X7_init 21 rfl) 41 rfl ?_
  refine x_iconst (C.gn ad 79) (v := (5 : Int32)) (by decide) (dkAt dk_X7_init 22 rfl) 42 rfl ?_
  refine d_newa C (ty := .int) (L := [some (.inr 74)]) (st := [.inr 74]) sh79 (by decide) rfl ka_int rfl (fun _ => rfl) ⟨by decide, by decide, by decide⟩ (zr87.mono (by decide)) ⟨by decide, by decide⟩ hag (by decide) rfl rfl (by decide) (by decide) (dkAt dk_X7_init 23 rfl) 44 rfl (cs1 := 5) (sl1 := 38) rfl rfl (fun ad hag => ?_)
  change G (gn Γ ad 80) X mm87 5 38 [some (.ref (ad 74))] [.ref (ad 79), .ref (ad 74)] 44
  refine x_putFR (C.gn ad 80) hI (kk := some) (rM := mm88) (fun _ _ => trivial) pkf_RX7_28 ⟨_, rfl⟩ rfl (dkAt dk_X7_init 24 rfl) 47 rfl rfl (fun M1 hM => ?_)
  cases hM
  exact d_vret C E hag (by decide) (by decide) (dkAt dk_X7_init 25 rfl)
set_option maxRecDepth 100000 in
theorem k_X7_init_80 {Γ : WC} (hG : HG Γ) (hov : va_AO "DecisionChain$Settings" (wU Γ)) : CtD Γ yX7_init cX7_init 1 (rmL 1 5 38) 81 86 [80] mm89 mm95 := by
  refine mkD hG (own := RX7) rfl (by decide) rfl (fun _ => Nat.le_of_ble_eq_true rfl) (fun ad0 X C hI E => ?_)
  have hag : agr 81 ad0 ad0 := fun _ _ => rfl
  change G (gn Γ ad0 81) X mm89 0 0 [some (.ref (ad0 80))] [] 0
  refine x_aload_n (C.gn ad0 81) rfl rfl (dkAt dk_X7_init 0 rfl) 1 rfl ?_
  refine d_obj C lo_RX7_3 mi_obj cw_obj ⟨by decide, by decide⟩ (by decide) (dkAt dk_X7_init 1 rfl) 4 rfl ?_
  refine x_aload_n (C.gn ad0 81) rfl rfl (dkAt dk_X7_init 2 rfl) 5 rfl ?_
  refine x_bipush (C.gn ad0 81) (v := (18 : Int32)) (by decide) (dkAt dk_X7_init 3 rfl) 7 rfl ?_
  refine d_newa C (ty := .int) (L := [some (.inr 80)]) (st := [.inr 80]) sh81 (by decide) rfl ka_int rfl (fun _ => rfl) ⟨by decide, by decide, by decide⟩ (zr89.mono (by decide)) ⟨by decide, by decide⟩ hag (by decide) rfl rfl (by decide) (by decide) (dkAt dk_X7_init 4 rfl) 9 rfl (cs1 := 1) (sl1 := 18) rfl rfl (fun ad hag => ?_)
  change G (gn Γ ad 82) X mm89 1 18 [some (.ref (ad 80))] [.ref (ad 81), .ref (ad 80)] 9
  refine x_putFR (C.gn ad 82) hI (kk := some) (rM := mm90) (fun _ _ => trivial) pkf_RX7_9 ⟨_, rfl⟩ rfl (dkAt dk_X7_init 5 rfl) 12 rfl rfl (fun M1 hM => ?_)
  cases hM
  refine x_aload_n (C.gn ad 82) rfl rfl (dkAt dk_X7_init 6 rfl) 13 rfl ?_
  refine x_bipush (C.gn ad 82) (v := (6 : Int32)) (by decide) (dkAt dk_X7_init 7 rfl) 15 rfl ?_
  refine d_newa C (ty := .int) (L := [some (.inr 80)]) (st := [.inr 80]) sh82 (by decide) rfl ka_int rfl (fun _ => rfl) ⟨by decide, by decide, by decide⟩ (zr90.mono (by decide)) ⟨by decide, by decide⟩ hag (by decide) rfl rfl (by decide) (by decide) (dkAt dk_X7_init 8 rfl) 17 rfl (cs1 := 2) (sl1 := 24) rfl rfl (fun ad hag => ?_)
  change G (gn Γ ad 83) X mm90 2 24 [some (.ref (ad 80))] [.ref (ad 82), .ref (ad 80)] 17
  refine x_putFR (C.gn ad 83) hI (kk := some) (rM := mm91) (fun _ _ => trivial) pkf_RX7_15 ⟨_, rfl⟩ rfl (dkAt dk_X7_init 9 rfl) 20 rfl rfl (fun M1 hM => ?_)
  cases hM
  refine x_aload_n (C.gn ad 83) rfl rfl (dkAt dk_X7_init 10 rfl) 21 rfl ?_
  refine x_iconst (C.gn ad 83) (v := (3 : Int32)) (by decide) (dkAt dk_X7_init 11 rfl) 22 rfl ?_
  refine d_newa C (ty := .int) (L := [some (.inr 80)]) (st := [.inr 80]) sh83 (by decide) rfl ka_int rfl (fun _ => rfl) ⟨by decide, by decide, by decide⟩ (zr91.mono (by decide)) ⟨by decide, by decide⟩ hag (by decide) rfl rfl (by decide) (by decide) (dkAt dk_X7_init 12 rfl) 24 rfl (cs1 := 3) (sl1 := 27) rfl rfl (fun ad hag => ?_)
  change G (gn Γ ad 84) X mm91 3 27 [some (.ref (ad 80))] [.ref (ad 83), .ref (ad 80)] 24
  refine x_putFR (C.gn ad 84) hI (kk := some) (rM := mm92) (fun _ _ => trivial) pkf_RX7_18 ⟨_, rfl⟩ rfl (dkAt dk_X7_init 13 rfl) 27 rfl rfl (fun M1 hM => ?_)
  cases hM
  refine x_aload_n (C.gn ad 84) rfl rfl (dkAt dk_X7_init 14 rfl) 28 rfl ?_
  refine x_iconst (C.gn ad 84) (v := (-1 : Int32)) (by decide) (dkAt dk_X7_init 15 rfl) 29 rfl ?_
  refine x_putI (C.gn ad 84) (kk := some) (rM := mm93) pk_RX7_21 ⟨_, rfl⟩ rfl (dkAt dk_X7_init 16 rfl) 32 rfl rfl (fun M1 hM => ?_)
  cases hM
  refine x_aload_n (C.gn ad 84) rfl rfl (dkAt dk_X7_init 17 rfl) 33 rfl ?_
  refine x_bipush (C.gn ad 84) (v := (6 : Int32)) (by decide) (dkAt dk_X7_init 18 rfl) 35 rfl ?_
  refine d_newa C (ty := .int) (L := [some (.inr 80)]) (st := [.inr 80]) sh84 (by decide) rfl ka_int rfl (fun _ => rfl) ⟨by decide, by decide, by decide⟩ (zr93.mono (by decide)) ⟨by decide, by decide⟩ hag (by decide) rfl rfl (by decide) (by decide) (dkAt dk_X7_init 19 rfl) 37 rfl (cs1 := 4) (sl1 := 33) rfl rfl (fun ad hag => ?_)
  change G (gn Γ ad 85) X mm93 4 33 [some (.ref (ad 80))] [.ref (ad 84), .ref (ad 80)] 37
  refine x_putFR (C.gn ad 85) hI (kk := some) (rM := mm94) (fun _ _ => trivial) pkf_RX7_25 ⟨_, rfl⟩ rfl (dkAt dk_X7_init 20 rfl) 40 rfl rfl (fun M1 hM => ?_)
  cases hM
  refine x_aload_n (C.gn ad 85) rfl rfl (dkAt dk_X7_init 21 rfl) 41 rfl ?_
  refine x_iconst (C.gn ad 85) (v := (5 : Int32)) (by decide) (dkAt dk_X7_init 22 rfl) 42 rfl ?_
  refine d_newa C (ty := .int) (L := [some (.inr 80)]) (st := [.inr 80]) sh85 (by decide) rfl ka_int rfl (fun _ => rfl) ⟨by decide, by decide, by decide⟩ (zr94.mono (by decide)) ⟨by decide, by decide⟩ hag (by decide) rfl rfl (by decide) (by decide) (dkAt dk_X7_init 23 rfl) 44 rfl (cs1 := 5) (sl1 := 38) rfl rfl (fun ad hag => ?_)
  change G (gn Γ ad 86) X mm94 5 38 [some (.ref (ad 80))] [.ref (ad 85), .ref (ad 80)] 44
  refine x_putFR (C.gn ad 86) hI (kk := some) (rM := mm95) (fun _ _ => trivial) pkf_RX7_28 ⟨_, rfl⟩ rfl (dkAt dk_X7_init 24 rfl) 47 rfl rfl (fun M1 hM => ?_)
  cases hM
  exact d_vret C E hag (by decide) (by decide) (dkAt dk_X7_init 25 rfl)
set_option maxRecDepth 100000 in
theorem k_X7_init_86 {Γ : WC} (hG : HG Γ) (hov : va_AO "DecisionChain$Settings" (wU Γ)) : CtD Γ yX7_init cX7_init 1 (rmL 1 5 38) 87 92 [86] mm96 mm102 := by
  refine mkD hG (own := RX7) rfl (by decide) rfl (fun _ => Nat.le_of_ble_eq_true rfl) (fun ad0 X C hI E => ?_)
  have hag : agr 87 ad0 ad0 := fun _ _ => rfl
  change G (gn Γ ad0 87) X mm96 0 0 [some (.ref (ad0 86))] [] 0
  refine x_aload_n (C.gn ad0 87) rfl rfl (dkAt dk_X7_init 0 rfl) 1 rfl ?_
  refine d_obj C lo_RX7_3 mi_obj cw_obj ⟨by decide, by decide⟩ (by decide) (dkAt dk_X7_init 1 rfl) 4 rfl ?_
  refine x_aload_n (C.gn ad0 87) rfl rfl (dkAt dk_X7_init 2 rfl) 5 rfl ?_
  refine x_bipush (C.gn ad0 87) (v := (18 : Int32)) (by decide) (dkAt dk_X7_init 3 rfl) 7 rfl ?_
  refine d_newa C (ty := .int) (L := [some (.inr 86)]) (st := [.inr 86]) sh87 (by decide) rfl ka_int rfl (fun _ => rfl) ⟨by decide, by decide, by decide⟩ (zr96.mono (by decide)) ⟨by decide, by decide⟩ hag (by decide) rfl rfl (by decide) (by decide) (dkAt dk_X7_init 4 rfl) 9 rfl (cs1 := 1) (sl1 := 18) rfl rfl (fun ad hag => ?_)
  change G (gn Γ ad 88) X mm96 1 18 [some (.ref (ad 86))] [.ref (ad 87), .ref (ad 86)] 9
  refine x_putFR (C.gn ad 88) hI (kk := some) (rM := mm97) (fun _ _ => trivial) pkf_RX7_9 ⟨_, rfl⟩ rfl (dkAt dk_X7_init 5 rfl) 12 rfl rfl (fun M1 hM => ?_)
  cases hM
  refine x_aload_n (C.gn ad 88) rfl rfl (dkAt dk_X7_init 6 rfl) 13 rfl ?_
  refine x_bipush (C.gn ad 88) (v := (6 : Int32)) (by decide) (dkAt dk_X7_init 7 rfl) 15 rfl ?_
  refine d_newa C (ty := .int) (L := [some (.inr 86)]) (st := [.inr 86]) sh88 (by decide) rfl ka_int rfl (fun _ => rfl) ⟨by decide, by decide, by decide⟩ (zr97.mono (by decide)) ⟨by decide, by decide⟩ hag (by decide) rfl rfl (by decide) (by decide) (dkAt dk_X7_init 8 rfl) 17 rfl (cs1 := 2) (sl1 := 24) rfl rfl (fun ad hag => ?_)
  change G (gn Γ ad 89) X mm97 2 24 [some (.ref (ad 86))] [.ref (ad 88), .ref (ad 86)] 17
  refine x_putFR (C.gn ad 89) hI (kk := some) (rM := mm98) (fun _ _ => trivial) pkf_RX7_15 ⟨_, rfl⟩ rfl (dkAt dk_X7_init 9 rfl) 20 rfl rfl (fun M1 hM => ?_)
  cases hM
  refine x_aload_n (C.gn ad 89) rfl rfl (dkAt dk_X7_init 10 rfl) 21 rfl ?_
  refine x_iconst (C.gn ad 89) (v := (3 : Int32)) (by decide) (dkAt dk_X7_init 11 rfl) 22 rfl ?_
  refine d_newa C (ty := .int) (L := [some (.inr 86)]) (st := [.inr 86]) sh89 (by decide) rfl ka_int rfl (fun _ => rfl) ⟨by decide, by decide, by decide⟩ (zr98.mono (by decide)) ⟨by decide, by decide⟩ hag (by decide) rfl rfl (by decide) (by decide) (dkAt dk_X7_init 12 rfl) 24 rfl (cs1 := 3) (sl1 := 27) rfl rfl (fun ad hag => ?_)
  change G (gn Γ ad 90) X mm98 3 27 [some (.ref (ad 86))] [.ref (ad 89), .ref (ad 86)] 24
  refine x_putFR (C.gn ad 90) hI (kk := some) (rM := mm99) (fun _ _ => trivial) pkf_RX7_18 ⟨_, rfl⟩ rfl (dkAt dk_X7_init 13 rfl) 27 rfl rfl (fun M1 hM => ?_)
  cases hM
  refine x_aload_n (C.gn ad 90) rfl rfl (dkAt dk_X7_init 14 rfl) 28 rfl ?_
  refine x_iconst (C.gn ad 90) (v := (-1 : Int32)) (by decide) (dkAt dk_X7_init 15 rfl) 29 rfl ?_
  refine x_putI (C.gn ad 90) (kk := some) (rM := mm100) pk_RX7_21 ⟨_, rfl⟩ rfl (dkAt dk_X7_init 16 rfl) 32 rfl rfl (fun M1 hM => ?_)
  cases hM
  refine x_aload_n (C.gn ad 90) rfl rfl (dkAt dk_X7_init 17 rfl) 33 rfl ?_
  refine x_bipush (C.gn ad 90) (v := (6 : Int32)) (by decide) (dkAt dk_X7_init 18 rfl) 35 rfl ?_
  refine d_newa C (ty := .int) (L := [some (.inr 86)]) (st := [.inr 86]) sh90 (by decide) rfl ka_int rfl (fun _ => rfl) ⟨by decide, by decide, by decide⟩ (zr100.mono (by decide)) ⟨by decide, by decide⟩ hag (by decide) rfl rfl (by decide) (by decide) (dkAt dk_X7_init 19 rfl) 37 rfl (cs1 := 4) (sl1 := 33) rfl rfl (fun ad hag => ?_)
  change G (gn Γ ad 91) X mm100 4 33 [some (.ref (ad 86))] [.ref (ad 90), .ref (ad 86)] 37
  refine x_putFR (C.gn ad 91) hI (kk := some) (rM := mm101) (fun _ _ => trivial) pkf_RX7_25 ⟨_, rfl⟩ rfl (dkAt dk_X7_init 20 rfl) 40 rfl rfl (fun M1 hM => ?_)
  cases hM
  refine x_aload_n (C.gn ad 91) rfl rfl (dkAt dk_X7_init 21 rfl) 41 rfl ?_
  refine x_iconst (C.gn ad 91) (v := (5 : Int32)) (by decide) (dkAt dk_X7_init 22 rfl) 42 rfl ?_
  refine d_newa C (ty := .int) (L := [some (.inr 86)]) (st := [.inr 86]) sh91 (by decide) rfl ka_int rfl (fun _ => rfl) ⟨by decide, by decide, by decide⟩ (zr101.mono (by decide)) ⟨by decide, by decide⟩ hag (by decide) rfl rfl (by decide) (by decide) (dkAt dk_X7_init 23 rfl) 44 rfl (cs1 := 5) (sl1 := 38) rfl rfl (fun ad hag => ?_)
  change G (gn Γ ad 92) X mm101 5 38 [some (.ref (ad 86))] [.ref (ad 91), .ref (ad 86)] 44
  refine x_putFR (C.gn ad 92) hI (kk := some) (rM := mm102) (fun _ _ => trivial) pkf_RX7_28 ⟨_, rfl⟩ rfl (dkAt dk_X7_init 24 rfl) 47 rfl rfl (fun M1 hM => ?_)
  cases hM
  exact d_vret C E hag (by decide) (by decide) (dkAt dk_X7_init 25 rfl)
set_option maxRecDepth 100000 in
theorem k_X3_init_35 {Γ : WC} (hG : HG Γ) (hov : va_AO "DecisionChain$Settings" (wU Γ)) : CtD Γ yX3_init cX3_init 2 (rmL 2 56 432) 36 92 [35] mm38 mm103 := by
  refine mkD hG (own := RX3) rfl (by decide) rfl (fun _ => Nat.le_of_ble_eq_true rfl) (fun ad0 X C hI E => ?_)
  have hag : agr 36 ad0 ad0 := fun _ _ => rfl
  change G (gn Γ ad0 36) X mm38 0 0 [some (.ref (ad0 35))] [] 0
  refine x_aload_n (C.gn ad0 36) rfl rfl (dkAt dk_X3_init 0 rfl) 1 rfl ?_
  refine d_obj C lo_RX3_3 mi_obj cw_obj ⟨by decide, by decide⟩ (by decide) (dkAt dk_X3_init 1 rfl) 4 rfl ?_
  refine x_aload_n (C.gn ad0 36) rfl rfl (dkAt dk_X3_init 2 rfl) 5 rfl ?_
  refine x_bipush (C.gn ad0 36) (v := (7 : Int32)) (by decide) (dkAt dk_X3_init 3 rfl) 7 rfl ?_
  refine d_newq C (L := [some (.inr 35)]) (st := [.inr 35]) sh36 kl_RX3_9 hov ⟨by decide, by decide, by decide⟩ (zr38.mono (by decide)) ⟨by decide, by decide⟩ hag (by decide) rfl rfl (by decide) (by decide) (dkAt dk_X3_init 4 rfl) 10 rfl (cs1 := 1) (sl1 := 7) rfl rfl (fun ad hag => ?_)
  change G (gn Γ ad 37) X mm38 1 7 [some (.ref (ad 35))] [.ref (ad 36), .ref (ad 35)] 10
  refine x_putFR (C.gn ad 37) hI (kk := some) (rM := mm39) (fun _ _ => trivial) pkf_RX3_11 ⟨_, rfl⟩ rfl (dkAt dk_X3_init 5 rfl) 13 rfl rfl (fun M1 hM => ?_)
  cases hM
  refine x_aload_n (C.gn ad 37) rfl rfl (dkAt dk_X3_init 6 rfl) 14 rfl ?_
  refine x_iconst (C.gn ad 37) (v := (2 : Int32)) (by decide) (dkAt dk_X3_init 7 rfl) 15 rfl ?_
  refine d_newq C (L := [some (.inr 35)]) (st := [.inr 35]) sh37 kl_RX3_9 hov ⟨by decide, by decide, by decide⟩ (zr39.mono (by decide)) ⟨by decide, by decide⟩ hag (by decide) rfl rfl (by decide) (by decide) (dkAt dk_X3_init 8 rfl) 18 rfl (cs1 := 2) (sl1 := 9) rfl rfl (fun ad hag => ?_)
  change G (gn Γ ad 38) X mm39 2 9 [some (.ref (ad 35))] [.ref (ad 37), .ref (ad 35)] 18
  refine x_putFR (C.gn ad 38) hI (kk := some) (rM := mm40) (fun _ _ => trivial) pkf_RX3_17 ⟨_, rfl⟩ rfl (dkAt dk_X3_init 9 rfl) 21 rfl rfl (fun M1 hM => ?_)
  cases hM
  refine x_iconst (C.gn ad 38) (v := (0 : Int32)) (by decide) (dkAt dk_X3_init 10 rfl) 22 rfl ?_
  refine x_istore_n (C.gn ad 38) (L1 := [some (.ref (ad 35)), some (.int (0 : Int32))]) (dkAt dk_X3_init 11 rfl) 23 rfl rfl (by decide) rfl ?_
  refine x_iload_n (C.gn ad 38) rfl rfl (dkAt dk_X3_init 12 rfl) 24 rfl ?_
  refine x_bipush (C.gn ad 38) (v := (7 : Int32)) (by decide) (dkAt dk_X3_init 13 rfl) 26 rfl ?_
  refine x_icmp_ge (C.gn ad 38) (a := none) (b := some ()) (rM := ()) 48 (dkAt dk_X3_init 14 rfl) 29 rfl (by decide) (if_neg (by decide)) (fun h => nomatch h) (fun _ => ?_)
  refine x_aload_n (C.gn ad 38) rfl rfl (dkAt dk_X3_init 15 rfl) 30 rfl ?_
  refine d_getS C lk_RX3_11 (n := 38) (o := 35) (j := 36) rfl (by decide +kernel) (dkAt dk_X3_init 16 rfl) 33 rfl ?_
  refine x_iload_n (C.gn ad 38) rfl rfl (dkAt dk_X3_init 17 rfl) 34 rfl ?_
  refine d_new C (L := [some (.inr 35), some (.inl (.int (0 : Int32)))]) (st := [.inl (.int (0 : Int32)), .inr 36]) sh38 rc7 uw7 tyX7_ok kd_7 kl_RX3_9 ki_7 kn_7 (zr40.mono (by decide)) ⟨by decide, by decide⟩ hag (by decide) rfl rfl (by decide) (by decide) (dkAt dk_X3_init 18 rfl) 37 rfl (cs1 := 3) (sl1 := 18) rfl rfl (fun ad hag => ?_)
  change G (gn Γ ad 39) X mm40 3 18 [some (.ref (ad 35)), some (.int (0 : Int32))] [.ref (ad 38), .int (0 : Int32), .ref (ad 36)] 37
  refine x_dup (C.gn ad 39) rfl (dkAt dk_X3_init 19 rfl) 38 rfl ?_
  refine d_cJ C (k_X7_init_38 hG hov) mw_X7_init ln_RX3_20 mii_X7_init ⟨by decide, by decide, by decide, by decide⟩ rfl hag (by decide) (L := [some (.inr 35), some (.inl (.int (0 : Int32)))]) (st := [.inr 38, .inl (.int (0 : Int32)), .inr 36]) rfl rfl (by decide) (by decide) (Nat.le_of_ble_eq_true rfl) (dkAt dk_X3_init 20 rfl) 41 rfl (cs1 := 8) (sl1 := 56) rfl rfl (fun ad hag => ?_)
  change G (gn Γ ad 44) X mm46 8 56 [some (.ref (ad 35)), some (.int (0 : Int32))] [.ref (ad 38), .int (0 : Int32), .ref (ad 36)] 41
  refine x_aast (C.gn ad 44) (k := some) (rM := mm47) (fun _ _ => trivial) (n := 7) (n9 := 9) rfl rfl (dkAt dk_X3_init 21 rfl) 42 rfl (if_pos (by decide)) (fun M1 hM => ?_)
  cases hM
  refine x_iinc (C.gn ad 44) (v := (1 : Int32)) (L1 := [some (.ref (ad 35)), some (.int (1 : Int32))]) (dkAt dk_X3_init 22 rfl) 45 rfl rfl (by decide) (by decide) rfl ?_
  refine x_goto (C.gn ad 44) 23 (dkAt dk_X3_init 23 rfl) (by decide) ?_
  refine x_iload_n (C.gn ad 44) rfl rfl (dkAt dk_X3_init 12 rfl) 24 rfl ?_
  refine x_bipush (C.gn ad 44) (v := (7 : Int32)) (by decide) (dkAt dk_X3_init 13 rfl) 26 rfl ?_
  refine x_icmp_ge (C.gn ad 44) (a := none) (b := some ()) (rM := ()) 48 (dkAt dk_X3_init 14 rfl) 29 rfl (by decide) (if_neg (by decide)) (fun h => nomatch h) (fun _ => ?_)
  refine x_aload_n (C.gn ad 44) rfl rfl (dkAt dk_X3_init 15 rfl) 30 rfl ?_
  refine d_getS C lk_RX3_11 (n := 44) (o := 35) (j := 36) rfl (by decide +kernel) (dkAt dk_X3_init 16 rfl) 33 rfl ?_
  refine x_iload_n (C.gn ad 44) rfl rfl (dkAt dk_X3_init 17 rfl) 34 rfl ?_
  refine d_new C (L := [some (.inr 35), some (.inl (.int (1 : Int32)))]) (st := [.inl (.int (1 : Int32)), .inr 36]) sh44 rc7 uw7 tyX7_ok kd_7 kl_RX3_9 ki_7 kn_7 (zr47.mono (by decide)) ⟨by decide, by decide⟩ hag (by decide) rfl rfl (by decide) (by decide) (dkAt dk_X3_init 18 rfl) 37 rfl (cs1 := 9) (sl1 := 65) rfl rfl (fun ad hag => ?_)
  change G (gn Γ ad 45) X mm47 9 65 [some (.ref (ad 35)), some (.int (1 : Int32))] [.ref (ad 44), .int (1 : Int32), .ref (ad 36)] 37
  refine x_dup (C.gn ad 45) rfl (dkAt dk_X3_init 19 rfl) 38 rfl ?_
  refine d_cJ C (k_X7_init_44 hG hov) mw_X7_init ln_RX3_20 mii_X7_init ⟨by decide, by decide, by decide, by decide⟩ rfl hag (by decide) (L := [some (.inr 35), some (.inl (.int (1 : Int32)))]) (st := [.inr 44, .inl (.int (1 : Int32)), .inr 36]) rfl rfl (by decide) (by decide) (Nat.le_of_ble_eq_true rfl) (dkAt dk_X3_init 20 rfl) 41 rfl (cs1 := 14) (sl1 := 103) rfl rfl (fun ad hag => ?_)
  change G (gn Γ ad 50) X mm53 14 103 [some (.ref (ad 35)), some (.int (1 : Int32))] [.ref (ad 44), .int (1 : Int32), .ref (ad 36)] 41
  refine x_aast (C.gn ad 50) (k := some) (rM := mm54) (fun _ _ => trivial) (n := 7) (n9 := 9) rfl rfl (dkAt dk_X3_init 21 rfl) 42 rfl (if_pos (by decide)) (fun M1 hM => ?_)
  cases hM
  refine x_iinc (C.gn ad 50) (v := (2 : Int32)) (L1 := [some (.ref (ad 35)), some (.int (2 : Int32))]) (dkAt dk_X3_init 22 rfl) 45 rfl rfl (by decide) (by decide) rfl ?_
  refine x_goto (C.gn ad 50) 23 (dkAt dk_X3_init 23 rfl) (by decide) ?_
  refine x_iload_n (C.gn ad 50) rfl rfl (dkAt dk_X3_init 12 rfl) 24 rfl ?_
  refine x_bipush (C.gn ad 50) (v := (7 : Int32)) (by decide) (dkAt dk_X3_init 13 rfl) 26 rfl ?_
  refine x_icmp_ge (C.gn ad 50) (a := none) (b := some ()) (rM := ()) 48 (dkAt dk_X3_init 14 rfl) 29 rfl (by decide) (if_neg (by decide)) (fun h => nomatch h) (fun _ => ?_)
  refine x_aload_n (C.gn ad 50) rfl rfl (dkAt dk_X3_init 15 rfl) 30 rfl ?_
  refine d_getS C lk_RX3_11 (n := 50) (o := 35) (j := 36) rfl (by decide +kernel) (dkAt dk_X3_init 16 rfl) 33 rfl ?_
  refine x_iload_n (C.gn ad 50) rfl rfl (dkAt dk_X3_init 17 rfl) 34 rfl ?_
  refine d_new C (L := [some (.inr 35), some (.inl (.int (2 : Int32)))]) (st := [.inl (.int (2 : Int32)), .inr 36]) sh50 rc7 uw7 tyX7_ok kd_7 kl_RX3_9 ki_7 kn_7 (zr54.mono (by decide)) ⟨by decide, by decide⟩ hag (by decide) rfl rfl (by decide) (by decide) (dkAt dk_X3_init 18 rfl) 37 rfl (cs1 := 15) (sl1 := 112) rfl rfl (fun ad hag => ?_)
  change G (gn Γ ad 51) X mm54 15 112 [some (.ref (ad 35)), some (.int (2 : Int32))] [.ref (ad 50), .int (2 : Int32), .ref (ad 36)] 37
  refine x_dup (C.gn ad 51) rfl (dkAt dk_X3_init 19 rfl) 38 rfl ?_
  refine d_cJ C (k_X7_init_50 hG hov) mw_X7_init ln_RX3_20 mii_X7_init ⟨by decide, by decide, by decide, by decide⟩ rfl hag (by decide) (L := [some (.inr 35), some (.inl (.int (2 : Int32)))]) (st := [.inr 50, .inl (.int (2 : Int32)), .inr 36]) rfl rfl (by decide) (by decide) (Nat.le_of_ble_eq_true rfl) (dkAt dk_X3_init 20 rfl) 41 rfl (cs1 := 20) (sl1 := 150) rfl rfl (fun ad hag => ?_)
  change G (gn Γ ad 56) X mm60 20 150 [some (.ref (ad 35)), some (.int (2 : Int32))] [.ref (ad 50), .int (2 : Int32), .ref (ad 36)] 41
  refine x_aast (C.gn ad 56) (k := some) (rM := mm61) (fun _ _ => trivial) (n := 7) (n9 := 9) rfl rfl (dkAt dk_X3_init 21 rfl) 42 rfl (if_pos (by decide)) (fun M1 hM => ?_)
  cases hM
  refine x_iinc (C.gn ad 56) (v := (3 : Int32)) (L1 := [some (.ref (ad 35)), some (.int (3 : Int32))]) (dkAt dk_X3_init 22 rfl) 45 rfl rfl (by decide) (by decide) rfl ?_
  refine x_goto (C.gn ad 56) 23 (dkAt dk_X3_init 23 rfl) (by decide) ?_
  refine x_iload_n (C.gn ad 56) rfl rfl (dkAt dk_X3_init 12 rfl) 24 rfl ?_
  refine x_bipush (C.gn ad 56) (v := (7 : Int32)) (by decide) (dkAt dk_X3_init 13 rfl) 26 rfl ?_
  refine x_icmp_ge (C.gn ad 56) (a := none) (b := some ()) (rM := ()) 48 (dkAt dk_X3_init 14 rfl) 29 rfl (by decide) (if_neg (by decide)) (fun h => nomatch h) (fun _ => ?_)
  refine x_aload_n (C.gn ad 56) rfl rfl (dkAt dk_X3_init 15 rfl) 30 rfl ?_
  refine d_getS C lk_RX3_11 (n := 56) (o := 35) (j := 36) rfl (by decide +kernel) (dkAt dk_X3_init 16 rfl) 33 rfl ?_
  refine x_iload_n (C.gn ad 56) rfl rfl (dkAt dk_X3_init 17 rfl) 34 rfl ?_
  refine d_new C (L := [some (.inr 35), some (.inl (.int (3 : Int32)))]) (st := [.inl (.int (3 : Int32)), .inr 36]) sh56 rc7 uw7 tyX7_ok kd_7 kl_RX3_9 ki_7 kn_7 (zr61.mono (by decide)) ⟨by decide, by decide⟩ hag (by decide) rfl rfl (by decide) (by decide) (dkAt dk_X3_init 18 rfl) 37 rfl (cs1 := 21) (sl1 := 159) rfl rfl (fun ad hag => ?_)
  change G (gn Γ ad 57) X mm61 21 159 [some (.ref (ad 35)), some (.int (3 : Int32))] [.ref (ad 56), .int (3 : Int32), .ref (ad 36)] 37
  refine x_dup (C.gn ad 57) rfl (dkAt dk_X3_init 19 rfl) 38 rfl ?_
  refine d_cJ C (k_X7_init_56 hG hov) mw_X7_init ln_RX3_20 mii_X7_init ⟨by decide, by decide, by decide, by decide⟩ rfl hag (by decide) (L := [some (.inr 35), some (.inl (.int (3 : Int32)))]) (st := [.inr 56, .inl (.int (3 : Int32)), .inr 36]) rfl rfl (by decide) (by decide) (Nat.le_of_ble_eq_true rfl) (dkAt dk_X3_init 20 rfl) 41 rfl (cs1 := 26) (sl1 := 197) rfl rfl (fun ad hag => ?_)
  change G (gn Γ ad 62) X mm67 26 197 [some (.ref (ad 35)), some (.int (3 : Int32))] [.ref (ad 56), .int (3 : Int32), .ref (ad 36)] 41
  refine x_aast (C.gn ad 62) (k := some) (rM := mm68) (fun _ _ => trivial) (n := 7) (n9 := 9) rfl rfl (dkAt dk_X3_init 21 rfl) 42 rfl (if_pos (by decide)) (fun M1 hM => ?_)
  cases hM
  refine x_iinc (C.gn ad 62) (v := (4 : Int32)) (L1 := [some (.ref (ad 35)), some (.int (4 : Int32))]) (dkAt dk_X3_init 22 rfl) 45 rfl rfl (by decide) (by decide) rfl ?_
  refine x_goto (C.gn ad 62) 23 (dkAt dk_X3_init 23 rfl) (by decide) ?_
  refine x_iload_n (C.gn ad 62) rfl rfl (dkAt dk_X3_init 12 rfl) 24 rfl ?_
  refine x_bipush (C.gn ad 62) (v := (7 : Int32)) (by decide) (dkAt dk_X3_init 13 rfl) 26 rfl ?_
  refine x_icmp_ge (C.gn ad 62) (a := none) (b := some ()) (rM := ()) 48 (dkAt dk_X3_init 14 rfl) 29 rfl (by decide) (if_neg (by decide)) (fun h => nomatch h) (fun _ => ?_)
  refine x_aload_n (C.gn ad 62) rfl rfl (dkAt dk_X3_init 15 rfl) 30 rfl ?_
  refine d_getS C lk_RX3_11 (n := 62) (o := 35) (j := 36) rfl (by decide +kernel) (dkAt dk_X3_init 16 rfl) 33 rfl ?_
  refine x_iload_n (C.gn ad 62) rfl rfl (dkAt dk_X3_init 17 rfl) 34 rfl ?_
  refine d_new C (L := [some (.inr 35), some (.inl (.int (4 : Int32)))]) (st := [.inl (.int (4 : Int32)), .inr 36]) sh62 rc7 uw7 tyX7_ok kd_7 kl_RX3_9 ki_7 kn_7 (zr68.mono (by decide)) ⟨by decide, by decide⟩ hag (by decide) rfl rfl (by decide) (by decide) (dkAt dk_X3_init 18 rfl) 37 rfl (cs1 := 27) (sl1 := 206) rfl rfl (fun ad hag => ?_)
  change G (gn Γ ad 63) X mm68 27 206 [some (.ref (ad 35)), some (.int (4 : Int32))] [.ref (ad 62), .int (4 : Int32), .ref (ad 36)] 37
  refine x_dup (C.gn ad 63) rfl (dkAt dk_X3_init 19 rfl) 38 rfl ?_
  refine d_cJ C (k_X7_init_62 hG hov) mw_X7_init ln_RX3_20 mii_X7_init ⟨by decide, by decide, by decide, by decide⟩ rfl hag (by decide) (L := [some (.inr 35), some (.inl (.int (4 : Int32)))]) (st := [.inr 62, .inl (.int (4 : Int32)), .inr 36]) rfl rfl (by decide) (by decide) (Nat.le_of_ble_eq_true rfl) (dkAt dk_X3_init 20 rfl) 41 rfl (cs1 := 32) (sl1 := 244) rfl rfl (fun ad hag => ?_)
  change G (gn Γ ad 68) X mm74 32 244 [some (.ref (ad 35)), some (.int (4 : Int32))] [.ref (ad 62), .int (4 : Int32), .ref (ad 36)] 41
  refine x_aast (C.gn ad 68) (k := some) (rM := mm75) (fun _ _ => trivial) (n := 7) (n9 := 9) rfl rfl (dkAt dk_X3_init 21 rfl) 42 rfl (if_pos (by decide)) (fun M1 hM => ?_)
  cases hM
  refine x_iinc (C.gn ad 68) (v := (5 : Int32)) (L1 := [some (.ref (ad 35)), some (.int (5 : Int32))]) (dkAt dk_X3_init 22 rfl) 45 rfl rfl (by decide) (by decide) rfl ?_
  refine x_goto (C.gn ad 68) 23 (dkAt dk_X3_init 23 rfl) (by decide) ?_
  refine x_iload_n (C.gn ad 68) rfl rfl (dkAt dk_X3_init 12 rfl) 24 rfl ?_
  refine x_bipush (C.gn ad 68) (v := (7 : Int32)) (by decide) (dkAt dk_X3_init 13 rfl) 26 rfl ?_
  refine x_icmp_ge (C.gn ad 68) (a := none) (b := some ()) (rM := ()) 48 (dkAt dk_X3_init 14 rfl) 29 rfl (by decide) (if_neg (by decide)) (fun h => nomatch h) (fun _ => ?_)
  refine x_aload_n (C.gn ad 68) rfl rfl (dkAt dk_X3_init 15 rfl) 30 rfl ?_
  refine d_getS C lk_RX3_11 (n := 68) (o := 35) (j := 36) rfl (by decide +kernel) (dkAt dk_X3_init 16 rfl) 33 rfl ?_
  refine x_iload_n (C.gn ad 68) rfl rfl (dkAt dk_X3_init 17 rfl) 34 rfl ?_
  refine d_new C (L := [some (.inr 35), some (.inl (.int (5 : Int32)))]) (st := [.inl (.int (5 : Int32)), .inr 36]) sh68 rc7 uw7 tyX7_ok kd_7 kl_RX3_9 ki_7 kn_7 (zr75.mono (by decide)) ⟨by decide, by decide⟩ hag (by decide) rfl rfl (by decide) (by decide) (dkAt dk_X3_init 18 rfl) 37 rfl (cs1 := 33) (sl1 := 253) rfl rfl (fun ad hag => ?_)
  change G (gn Γ ad 69) X mm75 33 253 [some (.ref (ad 35)), some (.int (5 : Int32))] [.ref (ad 68), .int (5 : Int32), .ref (ad 36)] 37
  refine x_dup (C.gn ad 69) rfl (dkAt dk_X3_init 19 rfl) 38 rfl ?_
  refine d_cJ C (k_X7_init_68 hG hov) mw_X7_init ln_RX3_20 mii_X7_init ⟨by decide, by decide, by decide, by decide⟩ rfl hag (by decide) (L := [some (.inr 35), some (.inl (.int (5 : Int32)))]) (st := [.inr 68, .inl (.int (5 : Int32)), .inr 36]) rfl rfl (by decide) (by decide) (Nat.le_of_ble_eq_true rfl) (dkAt dk_X3_init 20 rfl) 41 rfl (cs1 := 38) (sl1 := 291) rfl rfl (fun ad hag => ?_)
  change G (gn Γ ad 74) X mm81 38 291 [some (.ref (ad 35)), some (.int (5 : Int32))] [.ref (ad 68), .int (5 : Int32), .ref (ad 36)] 41
  refine x_aast (C.gn ad 74) (k := some) (rM := mm82) (fun _ _ => trivial) (n := 7) (n9 := 9) rfl rfl (dkAt dk_X3_init 21 rfl) 42 rfl (if_pos (by decide)) (fun M1 hM => ?_)
  cases hM
  refine x_iinc (C.gn ad 74) (v := (6 : Int32)) (L1 := [some (.ref (ad 35)), some (.int (6 : Int32))]) (dkAt dk_X3_init 22 rfl) 45 rfl rfl (by decide) (by decide) rfl ?_
  refine x_goto (C.gn ad 74) 23 (dkAt dk_X3_init 23 rfl) (by decide) ?_
  refine x_iload_n (C.gn ad 74) rfl rfl (dkAt dk_X3_init 12 rfl) 24 rfl ?_
  refine x_bipush (C.gn ad 74) (v := (7 : Int32)) (by decide) (dkAt dk_X3_init 13 rfl) 26 rfl ?_
  refine x_icmp_ge (C.gn ad 74) (a := none) (b := some ()) (rM := ()) 48 (dkAt dk_X3_init 14 rfl) 29 rfl (by decide) (if_neg (by decide)) (fun h => nomatch h) (fun _ => ?_)
  refine x_aload_n (C.gn ad 74) rfl rfl (dkAt dk_X3_init 15 rfl) 30 rfl ?_
  refine d_getS C lk_RX3_11 (n := 74) (o := 35) (j := 36) rfl (by decide +kernel) (dkAt dk_X3_init 16 rfl) 33 rfl ?_
  refine x_iload_n (C.gn ad 74) rfl rfl (dkAt dk_X3_init 17 rfl) 34 rfl ?_
  refine d_new C (L := [some (.inr 35), some (.inl (.int (6 : Int32)))]) (st := [.inl (.int (6 : Int32)), .inr 36]) sh74 rc7 uw7 tyX7_ok kd_7 kl_RX3_9 ki_7 kn_7 (zr82.mono (by decide)) ⟨by decide, by decide⟩ hag (by decide) rfl rfl (by decide) (by decide) (dkAt dk_X3_init 18 rfl) 37 rfl (cs1 := 39) (sl1 := 300) rfl rfl (fun ad hag => ?_)
  change G (gn Γ ad 75) X mm82 39 300 [some (.ref (ad 35)), some (.int (6 : Int32))] [.ref (ad 74), .int (6 : Int32), .ref (ad 36)] 37
  refine x_dup (C.gn ad 75) rfl (dkAt dk_X3_init 19 rfl) 38 rfl ?_
  refine d_cJ C (k_X7_init_74 hG hov) mw_X7_init ln_RX3_20 mii_X7_init ⟨by decide, by decide, by decide, by decide⟩ rfl hag (by decide) (L := [some (.inr 35), some (.inl (.int (6 : Int32)))]) (st := [.inr 74, .inl (.int (6 : Int32)), .inr 36]) rfl rfl (by decide) (by decide) (Nat.le_of_ble_eq_true rfl) (dkAt dk_X3_init 20 rfl) 41 rfl (cs1 := 44) (sl1 := 338) rfl rfl (fun ad hag => ?_)
  change G (gn Γ ad 80) X mm88 44 338 [some (.ref (ad 35)), some (.int (6 : Int32))] [.ref (ad 74), .int (6 : Int32), .ref (ad 36)] 41
  refine x_aast (C.gn ad 80) (k := some) (rM := mm89) (fun _ _ => trivial) (n := 7) (n9 := 9) rfl rfl (dkAt dk_X3_init 21 rfl) 42 rfl (if_pos (by decide)) (fun M1 hM => ?_)
  cases hM
  refine x_iinc (C.gn ad 80) (v := (7 : Int32)) (L1 := [some (.ref (ad 35)), some (.int (7 : Int32))]) (dkAt dk_X3_init 22 rfl) 45 rfl rfl (by decide) (by decide) rfl ?_
  refine x_goto (C.gn ad 80) 23 (dkAt dk_X3_init 23 rfl) (by decide) ?_
  refine x_iload_n (C.gn ad 80) rfl rfl (dkAt dk_X3_init 12 rfl) 24 rfl ?_
  refine x_bipush (C.gn ad 80) (v := (7 : Int32)) (by decide) (dkAt dk_X3_init 13 rfl) 26 rfl ?_
  refine x_icmp_ge (C.gn ad 80) (a := some ()) (b := none) (rM := ()) 48 (dkAt dk_X3_init 14 rfl) 29 rfl (by decide) (if_pos (by decide)) (fun _ => ?_) (fun h => nomatch h)
  refine x_iconst (C.gn ad 80) (v := (0 : Int32)) (by decide) (dkAt dk_X3_init 24 rfl) 49 rfl ?_
  refine x_istore_n (C.gn ad 80) (L1 := [some (.ref (ad 35)), some (.int (0 : Int32))]) (dkAt dk_X3_init 25 rfl) 50 rfl rfl (by decide) rfl ?_
  refine x_iload_n (C.gn ad 80) rfl rfl (dkAt dk_X3_init 26 rfl) 51 rfl ?_
  refine x_iconst (C.gn ad 80) (v := (2 : Int32)) (by decide) (dkAt dk_X3_init 27 rfl) 52 rfl ?_
  refine x_icmp_ge (C.gn ad 80) (a := none) (b := some ()) (rM := ()) 74 (dkAt dk_X3_init 28 rfl) 55 rfl (by decide) (if_neg (by decide)) (fun h => nomatch h) (fun _ => ?_)
  refine x_aload_n (C.gn ad 80) rfl rfl (dkAt dk_X3_init 29 rfl) 56 rfl ?_
  refine d_getS C lk_RX3_17 (n := 80) (o := 35) (j := 37) rfl (by decide +kernel) (dkAt dk_X3_init 30 rfl) 59 rfl ?_
  refine x_iload_n (C.gn ad 80) rfl rfl (dkAt dk_X3_init 31 rfl) 60 rfl ?_
  refine d_new C (L := [some (.inr 35), some (.inl (.int (0 : Int32)))]) (st := [.inl (.int (0 : Int32)), .inr 37]) sh80 rc7 uw7 tyX7_ok kd_7 kl_RX3_9 ki_7 kn_7 (zr89.mono (by decide)) ⟨by decide, by decide⟩ hag (by decide) rfl rfl (by decide) (by decide) (dkAt dk_X3_init 32 rfl) 63 rfl (cs1 := 45) (sl1 := 347) rfl rfl (fun ad hag => ?_)
  change G (gn Γ ad 81) X mm89 45 347 [some (.ref (ad 35)), some (.int (0 : Int32))] [.ref (ad 80), .int (0 : Int32), .ref (ad 37)] 63
  refine x_dup (C.gn ad 81) rfl (dkAt dk_X3_init 33 rfl) 64 rfl ?_
  refine d_cJ C (k_X7_init_80 hG hov) mw_X7_init ln_RX3_20 mii_X7_init ⟨by decide, by decide, by decide, by decide⟩ rfl hag (by decide) (L := [some (.inr 35), some (.inl (.int (0 : Int32)))]) (st := [.inr 80, .inl (.int (0 : Int32)), .inr 37]) rfl rfl (by decide) (by decide) (Nat.le_of_ble_eq_true rfl) (dkAt dk_X3_init 34 rfl) 67 rfl (cs1 := 50) (sl1 := 385) rfl rfl (fun ad hag => ?_)
  change G (gn Γ ad 86) X mm95 50 385 [some (.ref (ad 35)), some (.int (0 : Int32))] [.ref (ad 80), .int (0 : Int32), .ref (ad 37)] 67
  refine x_aast (C.gn ad 86) (k := some) (rM := mm96) (fun _ _ => trivial) (n := 2) (n9 := 9) rfl rfl (dkAt dk_X3_init 35 rfl) 68 rfl (if_pos (by decide)) (fun M1 hM => ?_)
  cases hM
  refine x_iinc (C.gn ad 86) (v := (1 : Int32)) (L1 := [some (.ref (ad 35)), some (.int (1 : Int32))]) (dkAt dk_X3_init 36 rfl) 71 rfl rfl (by decide) (by decide) rfl ?_
  refine x_goto (C.gn ad 86) 50 (dkAt dk_X3_init 37 rfl) (by decide) ?_
  refine x_iload_n (C.gn ad 86) rfl rfl (dkAt dk_X3_init 26 rfl) 51 rfl ?_
  refine x_iconst (C.gn ad 86) (v := (2 : Int32)) (by decide) (dkAt dk_X3_init 27 rfl) 52 rfl ?_
  refine x_icmp_ge (C.gn ad 86) (a := none) (b := some ()) (rM := ()) 74 (dkAt dk_X3_init 28 rfl) 55 rfl (by decide) (if_neg (by decide)) (fun h => nomatch h) (fun _ => ?_)
  refine x_aload_n (C.gn ad 86) rfl rfl (dkAt dk_X3_init 29 rfl) 56 rfl ?_
  refine d_getS C lk_RX3_17 (n := 86) (o := 35) (j := 37) rfl (by decide +kernel) (dkAt dk_X3_init 30 rfl) 59 rfl ?_
  refine x_iload_n (C.gn ad 86) rfl rfl (dkAt dk_X3_init 31 rfl) 60 rfl ?_
  refine d_new C (L := [some (.inr 35), some (.inl (.int (1 : Int32)))]) (st := [.inl (.int (1 : Int32)), .inr 37]) sh86 rc7 uw7 tyX7_ok kd_7 kl_RX3_9 ki_7 kn_7 (zr96.mono (by decide)) ⟨by decide, by decide⟩ hag (by decide) rfl rfl (by decide) (by decide) (dkAt dk_X3_init 32 rfl) 63 rfl (cs1 := 51) (sl1 := 394) rfl rfl (fun ad hag => ?_)
  change G (gn Γ ad 87) X mm96 51 394 [some (.ref (ad 35)), some (.int (1 : Int32))] [.ref (ad 86), .int (1 : Int32), .ref (ad 37)] 63
  refine x_dup (C.gn ad 87) rfl (dkAt dk_X3_init 33 rfl) 64 rfl ?_
  refine d_cJ C (k_X7_init_86 hG hov) mw_X7_init ln_RX3_20 mii_X7_init ⟨by decide, by decide, by decide, by decide⟩ rfl hag (by decide) (L := [some (.inr 35), some (.inl (.int (1 : Int32)))]) (st := [.inr 86, .inl (.int (1 : Int32)), .inr 37]) rfl rfl (by decide) (by decide) (Nat.le_of_ble_eq_true rfl) (dkAt dk_X3_init 34 rfl) 67 rfl (cs1 := 56) (sl1 := 432) rfl rfl (fun ad hag => ?_)
  change G (gn Γ ad 92) X mm102 56 432 [some (.ref (ad 35)), some (.int (1 : Int32))] [.ref (ad 86), .int (1 : Int32), .ref (ad 37)] 67
  refine x_aast (C.gn ad 92) (k := some) (rM := mm103) (fun _ _ => trivial) (n := 2) (n9 := 9) rfl rfl (dkAt dk_X3_init 35 rfl) 68 rfl (if_pos (by decide)) (fun M1 hM => ?_)
  cases hM
  refine x_iinc (C.gn ad 92) (v := (2 : Int32)) (L1 := [some (.ref (ad 35)), some (.int (2 : Int32))]) (dkAt dk_X3_init 36 rfl) 71 rfl rfl (by decide) (by decide) rfl ?_
  refine x_goto (C.gn ad 92) 50 (dkAt dk_X3_init 37 rfl) (by decide) ?_
  refine x_iload_n (C.gn ad 92) rfl rfl (dkAt dk_X3_init 26 rfl) 51 rfl ?_
  refine x_iconst (C.gn ad 92) (v := (2 : Int32)) (by decide) (dkAt dk_X3_init 27 rfl) 52 rfl ?_
  refine x_icmp_ge (C.gn ad 92) (a := some ()) (b := none) (rM := ()) 74 (dkAt dk_X3_init 28 rfl) 55 rfl (by decide) (if_pos (by decide)) (fun _ => ?_) (fun h => nomatch h)
  exact d_vret C E hag (by decide) (by decide) (dkAt dk_X3_init 38 rfl)
set_option maxRecDepth 100000 in
theorem k_X8_init_92 {Γ : WC} (hG : HG Γ) (hov : va_AO "DecisionChain$Settings" (wU Γ)) : CtD Γ yX8_init cX8_init 2 (rmL 1 3 5988) 93 96 [92, 3] mm105 mm109 := by
  refine mkD hG (own := RX8) rfl (by decide) rfl (fun _ => Nat.le_of_ble_eq_true rfl) (fun ad0 X C hI E => ?_)
  have hag : agr 93 ad0 ad0 := fun _ _ => rfl
  change G (gn Γ ad0 93) X mm105 0 0 [some (.ref (ad0 92)), some (.ref (ad0 3))] [] 0
  refine x_aload_n (C.gn ad0 93) rfl rfl (dkAt dk_X8_init 0 rfl) 1 rfl ?_
  refine d_obj C lo_RX8_3 mi_obj cw_obj ⟨by decide, by decide⟩ (by decide) (dkAt dk_X8_init 1 rfl) 4 rfl ?_
  refine x_aload_n (C.gn ad0 93) rfl rfl (dkAt dk_X8_init 2 rfl) 5 rfl ?_
  refine x_sipush (C.gn ad0 93) (v := (2976 : Int32)) (by decide) (dkAt dk_X8_init 3 rfl) 8 rfl ?_
  refine d_newa C (ty := .long) (L := [some (.inr 92), some (.inr 3)]) (st := [.inr 92]) sh93 (by decide) rfl ka_long rfl (fun _ => rfl) ⟨by decide, by decide, by decide⟩ (zr105.mono (by decide)) ⟨by decide, by decide⟩ hag (by decide) rfl rfl (by decide) (by decide) (dkAt dk_X8_init 4 rfl) 10 rfl (cs1 := 1) (sl1 := 2976) rfl rfl (fun ad hag => ?_)
  change G (gn Γ ad 94) X mm105 1 2976 [some (.ref (ad 92)), some (.ref (ad 3))] [.ref (ad 93), .ref (ad 92)] 10
  refine x_putR (C.gn ad 94) (kk := some) (rM := mm106) (fun _ _ => trivial) pk_RX8_11 ⟨_, rfl⟩ rfl (dkAt dk_X8_init 5 rfl) 13 rfl rfl (fun M1 hM => ?_)
  cases hM
  refine x_aload_n (C.gn ad 94) rfl rfl (dkAt dk_X8_init 6 rfl) 14 rfl ?_
  refine x_sipush (C.gn ad 94) (v := (2976 : Int32)) (by decide) (dkAt dk_X8_init 7 rfl) 17 rfl ?_
  refine d_newa C (ty := .long) (L := [some (.inr 92), some (.inr 3)]) (st := [.inr 92]) sh94 (by decide) rfl ka_long rfl (fun _ => rfl) ⟨by decide, by decide, by decide⟩ (zr106.mono (by decide)) ⟨by decide, by decide⟩ hag (by decide) rfl rfl (by decide) (by decide) (dkAt dk_X8_init 8 rfl) 19 rfl (cs1 := 2) (sl1 := 5952) rfl rfl (fun ad hag => ?_)
  change G (gn Γ ad 95) X mm106 2 5952 [some (.ref (ad 92)), some (.ref (ad 3))] [.ref (ad 94), .ref (ad 92)] 19
  refine x_putR (C.gn ad 95) (kk := some) (rM := mm107) (fun _ _ => trivial) pk_RX8_15 ⟨_, rfl⟩ rfl (dkAt dk_X8_init 9 rfl) 22 rfl rfl (fun M1 hM => ?_)
  cases hM
  refine x_aload_n (C.gn ad 95) rfl rfl (dkAt dk_X8_init 10 rfl) 23 rfl ?_
  refine x_bipush (C.gn ad 95) (v := (36 : Int32)) (by decide) (dkAt dk_X8_init 11 rfl) 25 rfl ?_
  refine d_newa C (ty := .int) (L := [some (.inr 92), some (.inr 3)]) (st := [.inr 92]) sh95 (by decide) rfl ka_int rfl (fun _ => rfl) ⟨by decide, by decide, by decide⟩ (zr107.mono (by decide)) ⟨by decide, by decide⟩ hag (by decide) rfl rfl (by decide) (by decide) (dkAt dk_X8_init 12 rfl) 27 rfl (cs1 := 3) (sl1 := 5988) rfl rfl (fun ad hag => ?_)
  change G (gn Γ ad 96) X mm107 3 5988 [some (.ref (ad 92)), some (.ref (ad 3))] [.ref (ad 95), .ref (ad 92)] 27
  refine x_putFR (C.gn ad 96) hI (kk := some) (rM := mm108) (fun _ _ => trivial) pkf_RX8_18 ⟨_, rfl⟩ rfl (dkAt dk_X8_init 13 rfl) 30 rfl rfl (fun M1 hM => ?_)
  cases hM
  refine x_aload_n (C.gn ad 96) rfl rfl (dkAt dk_X8_init 14 rfl) 31 rfl ?_
  refine x_aload_n (C.gn ad 96) rfl rfl (dkAt dk_X8_init 15 rfl) 32 rfl ?_
  refine x_putFR (C.gn ad 96) hI (kk := some) (rM := mm109) (fun _ _ => trivial) pkf_RX8_22 ⟨_, rfl⟩ rfl (dkAt dk_X8_init 16 rfl) 35 rfl rfl (fun M1 hM => ?_)
  cases hM
  exact d_vret C E hag (by decide) (by decide) (dkAt dk_X8_init 17 rfl)
set_option maxRecDepth 100000 in
theorem k_X5_init_96 {Γ : WC} (hG : HG Γ) (hov : va_AO "DecisionChain$Settings" (wU Γ)) : CtD Γ yX5_init cX5_init 4 (rmL 1 5 2946) 97 102 [96, 3, 10, 16] mm110 mm120 := by
  refine mkD hG (own := RX5) rfl (by decide) rfl (fun _ => Nat.le_of_ble_eq_true rfl) (fun ad0 X C hI E => ?_)
  have hag : agr 97 ad0 ad0 := fun _ _ => rfl
  change G (gn Γ ad0 97) X mm110 0 0 [some (.ref (ad0 96)), some (.ref (ad0 3)), some (.ref (ad0 10)), some (.ref (ad0 16))] [] 0
  refine x_aload_n (C.gn ad0 97) rfl rfl (dkAt dk_X5_init 0 rfl) 1 rfl ?_
  refine d_obj C lo_RX5_3 mi_obj cw_obj ⟨by decide, by decide⟩ (by decide) (dkAt dk_X5_init 1 rfl) 4 rfl ?_
  refine x_aload_n (C.gn ad0 97) rfl rfl (dkAt dk_X5_init 2 rfl) 5 rfl ?_
  refine x_sipush (C.gn ad0 97) (v := (729 : Int32)) (by decide) (dkAt dk_X5_init 3 rfl) 8 rfl ?_
  refine d_newa C (ty := .long) (L := [some (.inr 96), some (.inr 3), some (.inr 10), some (.inr 16)]) (st := [.inr 96]) sh97 (by decide) rfl ka_long rfl (fun _ => rfl) ⟨by decide, by decide, by decide⟩ (zr110.mono (by decide)) ⟨by decide, by decide⟩ hag (by decide) rfl rfl (by decide) (by decide) (dkAt dk_X5_init 4 rfl) 10 rfl (cs1 := 1) (sl1 := 729) rfl rfl (fun ad hag => ?_)
  change G (gn Γ ad 98) X mm110 1 729 [some (.ref (ad 96)), some (.ref (ad 3)), some (.ref (ad 10)), some (.ref (ad 16))] [.ref (ad 97), .ref (ad 96)] 10
  refine x_putFR (C.gn ad 98) hI (kk := some) (rM := mm111) (fun _ _ => trivial) pkf_RX5_9 ⟨_, rfl⟩ rfl (dkAt dk_X5_init 5 rfl) 13 rfl rfl (fun M1 hM => ?_)
  cases hM
  refine x_aload_n (C.gn ad 98) rfl rfl (dkAt dk_X5_init 6 rfl) 14 rfl ?_
  refine x_sipush (C.gn ad 98) (v := (2187 : Int32)) (by decide) (dkAt dk_X5_init 7 rfl) 17 rfl ?_
  refine d_newa C (ty := .long) (L := [some (.inr 96), some (.inr 3), some (.inr 10), some (.inr 16)]) (st := [.inr 96]) sh98 (by decide) rfl ka_long rfl (fun _ => rfl) ⟨by decide, by decide, by decide⟩ (zr111.mono (by decide)) ⟨by decide, by decide⟩ hag (by decide) rfl rfl (by decide) (by decide) (dkAt dk_X5_init 8 rfl) 19 rfl (cs1 := 2) (sl1 := 2916) rfl rfl (fun ad hag => ?_)
  change G (gn Γ ad 99) X mm111 2 2916 [some (.ref (ad 96)), some (.ref (ad 3)), some (.ref (ad 10)), some (.ref (ad 16))] [.ref (ad 98), .ref (ad 96)] 19
  refine x_putFR (C.gn ad 99) hI (kk := some) (rM := mm112) (fun _ _ => trivial) pkf_RX5_15 ⟨_, rfl⟩ rfl (dkAt dk_X5_init 9 rfl) 22 rfl rfl (fun M1 hM => ?_)
  cases hM
  refine x_aload_n (C.gn ad 99) rfl rfl (dkAt dk_X5_init 10 rfl) 23 rfl ?_
  refine x_iconst (C.gn ad 99) (v := (-1 : Int32)) (by decide) (dkAt dk_X5_init 11 rfl) 24 rfl ?_
  refine x_putI (C.gn ad 99) (kk := some) (rM := mm113) pk_RX5_18 ⟨_, rfl⟩ rfl (dkAt dk_X5_init 12 rfl) 27 rfl rfl (fun M1 hM => ?_)
  cases hM
  refine x_aload_n (C.gn ad 99) rfl rfl (dkAt dk_X5_init 13 rfl) 28 rfl ?_
  refine x_iconst (C.gn ad 99) (v := (-1 : Int32)) (by decide) (dkAt dk_X5_init 14 rfl) 29 rfl ?_
  refine x_putI (C.gn ad 99) (kk := some) (rM := mm114) pk_RX5_22 ⟨_, rfl⟩ rfl (dkAt dk_X5_init 15 rfl) 32 rfl rfl (fun M1 hM => ?_)
  cases hM
  refine x_aload_n (C.gn ad 99) rfl rfl (dkAt dk_X5_init 16 rfl) 33 rfl ?_
  refine x_bipush (C.gn ad 99) (v := (6 : Int32)) (by decide) (dkAt dk_X5_init 17 rfl) 35 rfl ?_
  refine d_newa C (ty := .int) (L := [some (.inr 96), some (.inr 3), some (.inr 10), some (.inr 16)]) (st := [.inr 96]) sh99 (by decide) rfl ka_int rfl (fun _ => rfl) ⟨by decide, by decide, by decide⟩ (zr114.mono (by decide)) ⟨by decide, by decide⟩ hag (by decide) rfl rfl (by decide) (by decide) (dkAt dk_X5_init 18 rfl) 37 rfl (cs1 := 3) (sl1 := 2922) rfl rfl (fun ad hag => ?_)
  change G (gn Γ ad 100) X mm114 3 2922 [some (.ref (ad 96)), some (.ref (ad 3)), some (.ref (ad 10)), some (.ref (ad 16))] [.ref (ad 99), .ref (ad 96)] 37
  refine x_putFR (C.gn ad 100) hI (kk := some) (rM := mm115) (fun _ _ => trivial) pkf_RX5_25 ⟨_, rfl⟩ rfl (dkAt dk_X5_init 19 rfl) 40 rfl rfl (fun M1 hM => ?_)
  cases hM
  refine x_aload_n (C.gn ad 100) rfl rfl (dkAt dk_X5_init 20 rfl) 41 rfl ?_
  refine x_bipush (C.gn ad 100) (v := (18 : Int32)) (by decide) (dkAt dk_X5_init 21 rfl) 43 rfl ?_
  refine d_newa C (ty := .int) (L := [some (.inr 96), some (.inr 3), some (.inr 10), some (.inr 16)]) (st := [.inr 96]) sh100 (by decide) rfl ka_int rfl (fun _ => rfl) ⟨by decide, by decide, by decide⟩ (zr115.mono (by decide)) ⟨by decide, by decide⟩ hag (by decide) rfl rfl (by decide) (by decide) (dkAt dk_X5_init 22 rfl) 45 rfl (cs1 := 4) (sl1 := 2940) rfl rfl (fun ad hag => ?_)
  change G (gn Γ ad 101) X mm115 4 2940 [some (.ref (ad 96)), some (.ref (ad 3)), some (.ref (ad 10)), some (.ref (ad 16))] [.ref (ad 100), .ref (ad 96)] 45
  refine x_putFR (C.gn ad 101) hI (kk := some) (rM := mm116) (fun _ _ => trivial) pkf_RX5_29 ⟨_, rfl⟩ rfl (dkAt dk_X5_init 23 rfl) 48 rfl rfl (fun M1 hM => ?_)
  cases hM
  refine x_aload_n (C.gn ad 101) rfl rfl (dkAt dk_X5_init 24 rfl) 49 rfl ?_
  refine x_bipush (C.gn ad 101) (v := (6 : Int32)) (by decide) (dkAt dk_X5_init 25 rfl) 51 rfl ?_
  refine d_newa C (ty := .int) (L := [some (.inr 96), some (.inr 3), some (.inr 10), some (.inr 16)]) (st := [.inr 96]) sh101 (by decide) rfl ka_int rfl (fun _ => rfl) ⟨by decide, by decide, by decide⟩ (zr116.mono (by decide)) ⟨by decide, by decide⟩ hag (by decide) rfl rfl (by decide) (by decide) (dkAt dk_X5_init 26 rfl) 53 rfl (cs1 := 5) (sl1 := 2946) rfl rfl (fun ad hag => ?_)
  change G (gn Γ ad 102) X mm116 5 2946 [some (.ref (ad 96)), some (.ref (ad 3)), some (.ref (ad 10)), some (.ref (ad 16))] [.ref (ad 101), .ref (ad 96)] 53
  refine x_putFR (C.gn ad 102) hI (kk := some) (rM := mm117) (fun _ _ => trivial) pkf_RX5_32 ⟨_, rfl⟩ rfl (dkAt dk_X5_init 27 rfl) 56 rfl rfl (fun M1 hM => ?_)
  cases hM
  refine x_aload_n (C.gn ad 102) rfl rfl (dkAt dk_X5_init 28 rfl) 57 rfl ?_
  refine x_aload_n (C.gn ad 102) rfl rfl (dkAt dk_X5_init 29 rfl) 58 rfl ?_
  refine x_putFR (C.gn ad 102) hI (kk := some) (rM := mm118) (fun _ _ => trivial) pkf_RX5_35 ⟨_, rfl⟩ rfl (dkAt dk_X5_init 30 rfl) 61 rfl rfl (fun M1 hM => ?_)
  cases hM
  refine x_aload_n (C.gn ad 102) rfl rfl (dkAt dk_X5_init 31 rfl) 62 rfl ?_
  refine x_aload_n (C.gn ad 102) rfl rfl (dkAt dk_X5_init 32 rfl) 63 rfl ?_
  refine x_putFR (C.gn ad 102) hI (kk := some) (rM := mm119) (fun _ _ => trivial) pkf_RX5_39 ⟨_, rfl⟩ rfl (dkAt dk_X5_init 33 rfl) 66 rfl rfl (fun M1 hM => ?_)
  cases hM
  refine x_aload_n (C.gn ad 102) rfl rfl (dkAt dk_X5_init 34 rfl) 67 rfl ?_
  refine x_aload_n (C.gn ad 102) rfl rfl (dkAt dk_X5_init 35 rfl) 68 rfl ?_
  refine x_putFR (C.gn ad 102) hI (kk := some) (rM := mm120) (fun _ _ => trivial) pkf_RX5_43 ⟨_, rfl⟩ rfl (dkAt dk_X5_init 36 rfl) 71 rfl rfl (fun M1 hM => ?_)
  cases hM
  exact d_vret C E hag (by decide) (by decide) (dkAt dk_X5_init 37 rfl)
set_option maxRecDepth 100000 in
theorem k_X9_init_102 {Γ : WC} (hG : HG Γ) (hov : va_AO "DecisionChain$Settings" (wU Γ)) : CtD Γ yX9_init cX9_init 3 (rmL 1 1 36) 103 104 [102, 3, 10] mm121 mm124 := by
  refine mkD hG (own := RX9) rfl (by decide) rfl (fun _ => Nat.le_of_ble_eq_true rfl) (fun ad0 X C hI E => ?_)
  have hag : agr 103 ad0 ad0 := fun _ _ => rfl
  change G (gn Γ ad0 103) X mm121 0 0 [some (.ref (ad0 102)), some (.ref (ad0 3)), some (.ref (ad0 10))] [] 0
  refine x_aload_n (C.gn ad0 103) rfl rfl (dkAt dk_X9_init 0 rfl) 1 rfl ?_
  refine d_obj C lo_RX9_3 mi_obj cw_obj ⟨by decide, by decide⟩ (by decide) (dkAt dk_X9_init 1 rfl) 4 rfl ?_
  refine x_aload_n (C.gn ad0 103) rfl rfl (dkAt dk_X9_init 2 rfl) 5 rfl ?_
  refine x_bipush (C.gn ad0 103) (v := (36 : Int32)) (by decide) (dkAt dk_X9_init 3 rfl) 7 rfl ?_
  refine d_newa C (ty := .long) (L := [some (.inr 102), some (.inr 3), some (.inr 10)]) (st := [.inr 102]) sh103 (by decide) rfl ka_long rfl (fun _ => rfl) ⟨by decide, by decide, by decide⟩ (zr121.mono (by decide)) ⟨by decide, by decide⟩ hag (by decide) rfl rfl (by decide) (by decide) (dkAt dk_X9_init 4 rfl) 9 rfl (cs1 := 1) (sl1 := 36) rfl rfl (fun ad hag => ?_)
  change G (gn Γ ad 104) X mm121 1 36 [some (.ref (ad 102)), some (.ref (ad 3)), some (.ref (ad 10))] [.ref (ad 103), .ref (ad 102)] 9
  refine x_putFR (C.gn ad 104) hI (kk := some) (rM := mm122) (fun _ _ => trivial) pkf_RX9_9 ⟨_, rfl⟩ rfl (dkAt dk_X9_init 5 rfl) 12 rfl rfl (fun M1 hM => ?_)
  cases hM
  refine x_aload_n (C.gn ad 104) rfl rfl (dkAt dk_X9_init 6 rfl) 13 rfl ?_
  refine x_aload_n (C.gn ad 104) rfl rfl (dkAt dk_X9_init 7 rfl) 14 rfl ?_
  refine x_putFR (C.gn ad 104) hI (kk := some) (rM := mm123) (fun _ _ => trivial) pkf_RX9_15 ⟨_, rfl⟩ rfl (dkAt dk_X9_init 8 rfl) 17 rfl rfl (fun M1 hM => ?_)
  cases hM
  refine x_aload_n (C.gn ad 104) rfl rfl (dkAt dk_X9_init 9 rfl) 18 rfl ?_
  refine x_aload_n (C.gn ad 104) rfl rfl (dkAt dk_X9_init 10 rfl) 19 rfl ?_
  refine x_putFR (C.gn ad 104) hI (kk := some) (rM := mm124) (fun _ _ => trivial) pkf_RX9_19 ⟨_, rfl⟩ rfl (dkAt dk_X9_init 11 rfl) 22 rfl rfl (fun M1 hM => ?_)
  cases hM
  exact d_vret C E hag (by decide) (by decide) (dkAt dk_X9_init 12 rfl)
set_option maxRecDepth 100000 in
theorem k_X10_init_104 {Γ : WC} (hG : HG Γ) (hov : va_AO "DecisionChain$Settings" (wU Γ)) : CtD Γ yX10_init cX10_init 2 (rmL 1 0 0) 105 105 [104, 3] mm125 mm126 := by
  refine mkD hG (own := RX10) rfl (by decide) rfl (fun _ => Nat.le_of_ble_eq_true rfl) (fun ad0 X C hI E => ?_)
  have hag : agr 105 ad0 ad0 := fun _ _ => rfl
  change G (gn Γ ad0 105) X mm125 0 0 [some (.ref (ad0 104)), some (.ref (ad0 3))] [] 0
  refine x_aload_n (C.gn ad0 105) rfl rfl (dkAt dk_X10_init 0 rfl) 1 rfl ?_
  refine d_obj C lo_RX10_3 mi_obj cw_obj ⟨by decide, by decide⟩ (by decide) (dkAt dk_X10_init 1 rfl) 4 rfl ?_
  refine x_aload_n (C.gn ad0 105) rfl rfl (dkAt dk_X10_init 2 rfl) 5 rfl ?_
  refine x_aload_n (C.gn ad0 105) rfl rfl (dkAt dk_X10_init 3 rfl) 6 rfl ?_
  refine x_putFR (C.gn ad0 105) hI (kk := some) (rM := mm126) (fun _ _ => trivial) pkf_RX10_9 ⟨_, rfl⟩ rfl (dkAt dk_X10_init 4 rfl) 9 rfl rfl (fun M1 hM => ?_)
  cases hM
  exact d_vret C E hag (by decide) (by decide) (dkAt dk_X10_init 5 rfl)
set_option maxRecDepth 100000 in
theorem k_X6_init_105 {Γ : WC} (hG : HG Γ) (hov : va_AO "DecisionChain$Settings" (wU Γ)) : CtD Γ yX6_init cX6_init 1 (rmL 1 1 114) 106 107 [105] mm127 mm128 := by
  refine mkD hG (own := RX6) rfl (by decide) rfl (fun _ => Nat.le_of_ble_eq_true rfl) (fun ad0 X C hI E => ?_)
  have hag : agr 106 ad0 ad0 := fun _ _ => rfl
  change G (gn Γ ad0 106) X mm127 0 0 [some (.ref (ad0 105))] [] 0
  refine x_aload_n (C.gn ad0 106) rfl rfl (dkAt dk_X6_init 0 rfl) 1 rfl ?_
  refine d_obj C lo_RX6_3 mi_obj cw_obj ⟨by decide, by decide⟩ (by decide) (dkAt dk_X6_init 1 rfl) 4 rfl ?_
  refine x_aload_n (C.gn ad0 106) rfl rfl (dkAt dk_X6_init 2 rfl) 5 rfl ?_
  refine x_bipush (C.gn ad0 106) (v := (114 : Int32)) (by decide) (dkAt dk_X6_init 3 rfl) 7 rfl ?_
  refine d_newa C (ty := .byte) (L := [some (.inr 105)]) (st := [.inr 105]) sh106 (by decide) rfl ka_byte rfl (fun _ => rfl) ⟨by decide, by decide, by decide⟩ (zr127.mono (by decide)) ⟨by decide, by decide⟩ hag (by decide) rfl rfl (by decide) (by decide) (dkAt dk_X6_init 4 rfl) 9 rfl (cs1 := 1) (sl1 := 114) rfl rfl (fun ad hag => ?_)
  change G (gn Γ ad 107) X mm127 1 114 [some (.ref (ad 105))] [.ref (ad 106), .ref (ad 105)] 9
  refine x_putFR (C.gn ad 107) hI (kk := some) (rM := mm128) (fun _ _ => trivial) pkf_RX6_11 ⟨_, rfl⟩ rfl (dkAt dk_X6_init 5 rfl) 12 rfl rfl (fun M1 hM => ?_)
  cases hM
  exact d_vret C E hag (by decide) (by decide) (dkAt dk_X6_init 6 rfl)
set_option maxRecDepth 100000 in
theorem k_X11_init_0 {Γ : WC} (hG : HG Γ) (hov : va_AO "DecisionChain$Settings" (wU Γ)) : CtD Γ yX11_init cX11_init 5 (rmL 3 107 11661) 1 108 [0] M00 mm130 := by
  refine mkD hG (own := RX11) rfl (by decide) rfl (fun _ => Nat.le_of_ble_eq_true rfl) (fun ad0 X C hI E => ?_)
  have hag : agr 1 ad0 ad0 := fun _ _ => rfl
  change G (gn Γ ad0 1) X M00 0 0 [some (.ref (ad0 0))] [] 0
  refine x_aload_n (C.gn ad0 1) rfl rfl (dkAt dk_X11_init 0 rfl) 1 rfl ?_
  refine d_obj C lo_RX11_5 mi_obj cw_obj ⟨by decide, by decide⟩ (by decide) (dkAt dk_X11_init 1 rfl) 4 rfl ?_
  refine d_new C (L := [some (.inr 0)]) (st := []) sh1 rc2 uw2 tyX2_ok kd_2 kl_RX11_11 ki_2 kn_2 (Zr_00.mono (by decide)) ⟨by decide, by decide⟩ hag (by decide) rfl rfl (by decide) (by decide) (dkAt dk_X11_init 2 rfl) 7 rfl (cs1 := 1) (sl1 := 7) rfl rfl (fun ad hag => ?_)
  change G (gn Γ ad 2) X M00 1 7 [some (.ref (ad 0))] [.ref (ad 1)] 7
  refine x_dup (C.gn ad 2) rfl (dkAt dk_X11_init 3 rfl) 8 rfl ?_
  refine d_cJ C (k_X2_init_1 hG hov) mw_X2_init ln_RX11_13 mii_X2_init ⟨by decide, by decide, by decide, by decide⟩ rfl hag (by decide) (L := [some (.inr 0)]) (st := [.inr 1]) rfl rfl (by decide) (by decide) (Nat.le_of_ble_eq_true rfl) (dkAt dk_X11_init 4 rfl) 11 rfl (cs1 := 2) (sl1 := 1207) rfl rfl (fun ad hag => ?_)
  change G (gn Γ ad 3) X mm1 2 1207 [some (.ref (ad 0))] [.ref (ad 1)] 11
  refine x_astore_n (C.gn ad 3) (L1 := [some (.ref (ad 0)), some (.ref (ad 1))]) (dkAt dk_X11_init 5 rfl) 12 rfl rfl (by decide) rfl ?_
  refine d_new C (L := [some (.inr 0), some (.inr 1)]) (st := []) sh3 rc0 uw0 tyX0_ok kd_0 kl_RX11_14 ki_0 kn_0 (zr1.mono (by decide)) ⟨by decide, by decide⟩ hag (by decide) rfl rfl (by decide) (by decide) (dkAt dk_X11_init 6 rfl) 15 rfl (cs1 := 3) (sl1 := 1215) rfl rfl (fun ad hag => ?_)
  change G (gn Γ ad 4) X mm1 3 1215 [some (.ref (ad 0)), some (.ref (ad 1))] [.ref (ad 3)] 15
  refine x_dup (C.gn ad 4) rfl (dkAt dk_X11_init 7 rfl) 16 rfl ?_
  refine d_cJ C (k_X0_init_3 hG hov) mw_X0_init ln_RX11_16 mii_X0_init ⟨by decide, by decide, by decide, by decide⟩ rfl hag (by decide) (L := [some (.inr 0), some (.inr 1)]) (st := [.inr 3]) rfl rfl (by decide) (by decide) (Nat.le_of_ble_eq_true rfl) (dkAt dk_X11_init 8 rfl) 19 rfl (cs1 := 9) (sl1 := 1527) rfl rfl (fun ad hag => ?_)
  change G (gn Γ ad 10) X mm7 9 1527 [some (.ref (ad 0)), some (.ref (ad 1))] [.ref (ad 3)] 19
  refine x_astore_n (C.gn ad 10) (L1 := [some (.ref (ad 0)), some (.ref (ad 1)), some (.ref (ad 3))]) (dkAt dk_X11_init 9 rfl) 20 rfl rfl (by decide) rfl ?_
  refine d_new C (L := [some (.inr 0), some (.inr 1), some (.inr 3)]) (st := []) sh10 rc7 uw7 tyX7_ok kd_7 kl_RX11_17 ki_7 kn_7 (zr7.mono (by decide)) ⟨by decide, by decide⟩ hag (by decide) rfl rfl (by decide) (by decide) (dkAt dk_X11_init 10 rfl) 23 rfl (cs1 := 10) (sl1 := 1536) rfl rfl (fun ad hag => ?_)
  change G (gn Γ ad 11) X mm7 10 1536 [some (.ref (ad 0)), some (.ref (ad 1)), some (.ref (ad 3))] [.ref (ad 10)] 23
  refine x_dup (C.gn ad 11) rfl (dkAt dk_X11_init 11 rfl) 24 rfl ?_
  refine d_cJ C (k_X7_init_10 hG hov) mw_X7_init ln_RX11_19 mii_X7_init ⟨by decide, by decide, by decide, by decide⟩ rfl hag (by decide) (L := [some (.inr 0), some (.inr 1), some (.inr 3)]) (st := [.inr 10]) rfl rfl (by decide) (by decide) (Nat.le_of_ble_eq_true rfl) (dkAt dk_X11_init 12 rfl) 27 rfl (cs1 := 15) (sl1 := 1574) rfl rfl (fun ad hag => ?_)
  change G (gn Γ ad 16) X mm13 15 1574 [some (.ref (ad 0)), some (.ref (ad 1)), some (.ref (ad 3))] [.ref (ad 10)] 27
  refine x_astore_n (C.gn ad 16) (L1 := [some (.ref (ad 0)), some (.ref (ad 1)), some (.ref (ad 3)), some (.ref (ad 10))]) (dkAt dk_X11_init 13 rfl) 28 rfl rfl (by decide) rfl ?_
  refine d_new C (L := [some (.inr 0), some (.inr 1), some (.inr 3), some (.inr 10)]) (st := []) sh16 rc1 uw1 tyX1_ok kd_1 kl_RX11_20 ki_1 kn_1 (zr13.mono (by decide)) ⟨by decide, by decide⟩ hag (by decide) rfl rfl (by decide) (by decide) (dkAt dk_X11_init 14 rfl) 31 rfl (cs1 := 16) (sl1 := 1581) rfl rfl (fun ad hag => ?_)
  change G (gn Γ ad 17) X mm13 16 1581 [some (.ref (ad 0)), some (.ref (ad 1)), some (.ref (ad 3)), some (.ref (ad 10))] [.ref (ad 16)] 31
  refine x_dup (C.gn ad 17) rfl (dkAt dk_X11_init 15 rfl) 32 rfl ?_
  refine x_aload_n (C.gn ad 17) rfl rfl (dkAt dk_X11_init 16 rfl) 33 rfl ?_
  refine d_cI C (k_X1_init_16 hG hov) mw_X1_init ln_RX11_22 mii_X1_init ⟨by decide, by decide, by decide, by decide⟩ rfl hag (by decide) (L := [some (.inr 0), some (.inr 1), some (.inr 3), some (.inr 10)]) (st := [.inr 16]) rfl rfl (by decide) (by decide) (Nat.le_of_ble_eq_true rfl) (dkAt dk_X11_init 17 rfl) 36 rfl (cs1 := 20) (sl1 := 1725) rfl rfl (fun ad hag => ?_)
  change G (gn Γ ad 21) X mm18 20 1725 [some (.ref (ad 0)), some (.ref (ad 1)), some (.ref (ad 3)), some (.ref (ad 10))] [.ref (ad 16)] 36
  refine x_astore (C.gn ad 21) (L1 := [some (.ref (ad 0)), some (.ref (ad 1)), some (.ref (ad 3)), some (.ref (ad 10)), some (.ref (ad 16))]) (dkAt dk_X11_init 18 rfl) 38 rfl (by decide) rfl ?_
  refine x_aload_n (C.gn ad 21) rfl rfl (dkAt dk_X11_init 19 rfl) 39 rfl ?_
  refine x_aload_n (C.gn ad 21) rfl rfl (dkAt dk_X11_init 20 rfl) 40 rfl ?_
  refine x_putFR (C.gn ad 21) hI (kk := some) (rM := mm19) (fun _ _ => trivial) pkf_RX11_25 ⟨_, rfl⟩ rfl (dkAt dk_X11_init 21 rfl) 43 rfl rfl (fun M1 hM => ?_)
  cases hM
  refine x_aload_n (C.gn ad 21) rfl rfl (dkAt dk_X11_init 22 rfl) 44 rfl ?_
  refine d_new C (L := [some (.inr 0), some (.inr 1), some (.inr 3), some (.inr 10), some (.inr 16)]) (st := [.inr 0]) sh21 rc4 uw4 tyX4_ok kd_4 kl_RX11_29 ki_4 kn_4 (zr19.mono (by decide)) ⟨by decide, by decide⟩ hag (by decide) rfl rfl (by decide) (by decide) (dkAt dk_X11_init 23 rfl) 47 rfl (cs1 := 21) (sl1 := 1732) rfl rfl (fun ad hag => ?_)
  change G (gn Γ ad 22) X mm19 21 1732 [some (.ref (ad 0)), some (.ref (ad 1)), some (.ref (ad 3)), some (.ref (ad 10)), some (.ref (ad 16))] [.ref (ad 21), .ref (ad 0)] 47
  refine x_dup (C.gn ad 22) rfl (dkAt dk_X11_init 24 rfl) 48 rfl ?_
  refine x_aload_n (C.gn ad 22) rfl rfl (dkAt dk_X11_init 25 rfl) 49 rfl ?_
  refine d_cI C (k_X4_init_21 hG hov) mw_X4_init ln_RX11_31 mii_X4_init ⟨by decide, by decide, by decide, by decide⟩ rfl hag (by decide) (L := [some (.inr 0), some (.inr 1), some (.inr 3), some (.inr 10), some (.inr 16)]) (st := [.inr 21, .inr 0]) rfl rfl (by decide) (by decide) (Nat.le_of_ble_eq_true rfl) (dkAt dk_X11_init 26 rfl) 52 rfl (cs1 := 34) (sl1 := 2099) rfl rfl (fun ad hag => ?_)
  change G (gn Γ ad 35) X mm35 34 2099 [some (.ref (ad 0)), some (.ref (ad 1)), some (.ref (ad 3)), some (.ref (ad 10)), some (.ref (ad 16))] [.ref (ad 21), .ref (ad 0)] 52
  refine x_putFR (C.gn ad 35) hI (kk := some) (rM := mm36) (fun _ _ => trivial) pkf_RX11_34 ⟨_, rfl⟩ rfl (dkAt dk_X11_init 27 rfl) 55 rfl rfl (fun M1 hM => ?_)
  cases hM
  refine x_aload_n (C.gn ad 35) rfl rfl (dkAt dk_X11_init 28 rfl) 56 rfl ?_
  refine x_aload_n (C.gn ad 35) rfl rfl (dkAt dk_X11_init 29 rfl) 57 rfl ?_
  refine x_putFR (C.gn ad 35) hI (kk := some) (rM := mm37) (fun _ _ => trivial) pkf_RX11_38 ⟨_, rfl⟩ rfl (dkAt dk_X11_init 30 rfl) 60 rfl rfl (fun M1 hM => ?_)
  cases hM
  refine x_aload_n (C.gn ad 35) rfl rfl (dkAt dk_X11_init 31 rfl) 61 rfl ?_
  refine x_aload_n (C.gn ad 35) rfl rfl (dkAt dk_X11_init 32 rfl) 62 rfl ?_
  refine x_putFR (C.gn ad 35) hI (kk := some) (rM := mm38) (fun _ _ => trivial) pkf_RX11_42 ⟨_, rfl⟩ rfl (dkAt dk_X11_init 33 rfl) 65 rfl rfl (fun M1 hM => ?_)
  cases hM
  refine x_aload_n (C.gn ad 35) rfl rfl (dkAt dk_X11_init 34 rfl) 66 rfl ?_
  refine d_new C (L := [some (.inr 0), some (.inr 1), some (.inr 3), some (.inr 10), some (.inr 16)]) (st := [.inr 0]) sh35 rc3 uw3 tyX3_ok kd_3 kl_RX11_46 ki_3 kn_3 (zr38.mono (by decide)) ⟨by decide, by decide⟩ hag (by decide) rfl rfl (by decide) (by decide) (dkAt dk_X11_init 35 rfl) 69 rfl (cs1 := 35) (sl1 := 2103) rfl rfl (fun ad hag => ?_)
  change G (gn Γ ad 36) X mm38 35 2103 [some (.ref (ad 0)), some (.ref (ad 1)), some (.ref (ad 3)), some (.ref (ad 10)), some (.ref (ad 16))] [.ref (ad 35), .ref (ad 0)] 69
  refine x_dup (C.gn ad 36) rfl (dkAt dk_X11_init 36 rfl) 70 rfl ?_
  refine d_cI C (k_X3_init_35 hG hov) mw_X3_init ln_RX11_48 mii_X3_init ⟨by decide, by decide, by decide, by decide⟩ rfl hag (by decide) (L := [some (.inr 0), some (.inr 1), some (.inr 3), some (.inr 10), some (.inr 16)]) (st := [.inr 35, .inr 0]) rfl rfl (by decide) (by decide) (Nat.le_of_ble_eq_true rfl) (dkAt dk_X11_init 37 rfl) 73 rfl (cs1 := 91) (sl1 := 2535) rfl rfl (fun ad hag => ?_)
  change G (gn Γ ad 92) X mm103 91 2535 [some (.ref (ad 0)), some (.ref (ad 1)), some (.ref (ad 3)), some (.ref (ad 10)), some (.ref (ad 16))] [.ref (ad 35), .ref (ad 0)] 73
  refine x_putFR (C.gn ad 92) hI (kk := some) (rM := mm104) (fun _ _ => trivial) pkf_RX11_49 ⟨_, rfl⟩ rfl (dkAt dk_X11_init 38 rfl) 76 rfl rfl (fun M1 hM => ?_)
  cases hM
  refine x_aload_n (C.gn ad 92) rfl rfl (dkAt dk_X11_init 39 rfl) 77 rfl ?_
  refine x_aload (C.gn ad 92) rfl (dkAt dk_X11_init 40 rfl) 79 rfl ?_
  refine x_putFR (C.gn ad 92) hI (kk := some) (rM := mm105) (fun _ _ => trivial) pkf_RX11_53 ⟨_, rfl⟩ rfl (dkAt dk_X11_init 41 rfl) 82 rfl rfl (fun M1 hM => ?_)
  cases hM
  refine x_aload_n (C.gn ad 92) rfl rfl (dkAt dk_X11_init 42 rfl) 83 rfl ?_
  refine d_new C (L := [some (.inr 0), some (.inr 1), some (.inr 3), some (.inr 10), some (.inr 16)]) (st := [.inr 0]) sh92 rc8 uw8 tyX8_ok kd_8 kl_RX11_57 ki_8 kn_8 (zr105.mono (by decide)) ⟨by decide, by decide⟩ hag (by decide) rfl rfl (by decide) (by decide) (dkAt dk_X11_init 43 rfl) 86 rfl (cs1 := 92) (sl1 := 2539) rfl rfl (fun ad hag => ?_)
  change G (gn Γ ad 93) X mm105 92 2539 [some (.ref (ad 0)), some (.ref (ad 1)), some (.ref (ad 3)), some (.ref (ad 10)), some (.ref (ad 16))] [.ref (ad 92), .ref (ad 0)] 86
  refine x_dup (C.gn ad 93) rfl (dkAt dk_X11_init 44 rfl) 87 rfl ?_
  refine x_aload_n (C.gn ad 93) rfl rfl (dkAt dk_X11_init 45 rfl) 88 rfl ?_
  refine d_cI C (k_X8_init_92 hG hov) mw_X8_init ln_RX11_59 mii_X8_init ⟨by decide, by decide, by decide, by decide⟩ rfl hag (by decide) (L := [some (.inr 0), some (.inr 1), some (.inr 3), some (.inr 10), some (.inr 16)]) (st := [.inr 92, .inr 0]) rfl rfl (by decide) (by decide) (Nat.le_of_ble_eq_true rfl) (dkAt dk_X11_init 46 rfl) 91 rfl (cs1 := 95) (sl1 := 8527) rfl rfl (fun ad hag => ?_)
  change G (gn Γ ad 96) X mm109 95 8527 [some (.ref (ad 0)), some (.ref (ad 1)), some (.ref (ad 3)), some (.ref (ad 10)), some (.ref (ad 16))] [.ref (ad 92), .ref (ad 0)] 91
  refine x_putFR (C.gn ad 96) hI (kk := some) (rM := mm110) (fun _ _ => trivial) pkf_RX11_60 ⟨_, rfl⟩ rfl (dkAt dk_X11_init 47 rfl) 94 rfl rfl (fun M1 hM => ?_)
  cases hM
  refine x_aload_n (C.gn ad 96) rfl rfl (dkAt dk_X11_init 48 rfl) 95 rfl ?_
  refine d_new C (L := [some (.inr 0), some (.inr 1), some (.inr 3), some (.inr 10), some (.inr 16)]) (st := [.inr 0]) sh96 rc5 uw5 tyX5_ok kd_5 kl_RX11_64 ki_5 kn_5 (zr110.mono (by decide)) ⟨by decide, by decide⟩ hag (by decide) rfl rfl (by decide) (by decide) (dkAt dk_X11_init 49 rfl) 98 rfl (cs1 := 96) (sl1 := 8538) rfl rfl (fun ad hag => ?_)
  change G (gn Γ ad 97) X mm110 96 8538 [some (.ref (ad 0)), some (.ref (ad 1)), some (.ref (ad 3)), some (.ref (ad 10)), some (.ref (ad 16))] [.ref (ad 96), .ref (ad 0)] 98
  refine x_dup (C.gn ad 97) rfl (dkAt dk_X11_init 50 rfl) 99 rfl ?_
  refine x_aload_n (C.gn ad 97) rfl rfl (dkAt dk_X11_init 51 rfl) 100 rfl ?_
  refine x_aload_n (C.gn ad 97) rfl rfl (dkAt dk_X11_init 52 rfl) 101 rfl ?_
  refine x_aload (C.gn ad 97) rfl (dkAt dk_X11_init 53 rfl) 103 rfl ?_
  refine d_cI C (k_X5_init_96 hG hov) mw_X5_init ln_RX11_66 mii_X5_init ⟨by decide, by decide, by decide, by decide⟩ rfl hag (by decide) (L := [some (.inr 0), some (.inr 1), some (.inr 3), some (.inr 10), some (.inr 16)]) (st := [.inr 96, .inr 0]) rfl rfl (by decide) (by decide) (Nat.le_of_ble_eq_true rfl) (dkAt dk_X11_init 54 rfl) 106 rfl (cs1 := 101) (sl1 := 11484) rfl rfl (fun ad hag => ?_)
  change G (gn Γ ad 102) X mm120 101 11484 [some (.ref (ad 0)), some (.ref (ad 1)), some (.ref (ad 3)), some (.ref (ad 10)), some (.ref (ad 16))] [.ref (ad 96), .ref (ad 0)] 106
  refine x_putFR (C.gn ad 102) hI (kk := some) (rM := mm121) (fun _ _ => trivial) pkf_RX11_69 ⟨_, rfl⟩ rfl (dkAt dk_X11_init 55 rfl) 109 rfl rfl (fun M1 hM => ?_)
  cases hM
  refine x_aload_n (C.gn ad 102) rfl rfl (dkAt dk_X11_init 56 rfl) 110 rfl ?_
  refine d_new C (L := [some (.inr 0), some (.inr 1), some (.inr 3), some (.inr 10), some (.inr 16)]) (st := [.inr 0]) sh102 rc9 uw9 tyX9_ok kd_9 kl_RX11_73 ki_9 kn_9 (zr121.mono (by decide)) ⟨by decide, by decide⟩ hag (by decide) rfl rfl (by decide) (by decide) (dkAt dk_X11_init 57 rfl) 113 rfl (cs1 := 102) (sl1 := 11487) rfl rfl (fun ad hag => ?_)
  change G (gn Γ ad 103) X mm121 102 11487 [some (.ref (ad 0)), some (.ref (ad 1)), some (.ref (ad 3)), some (.ref (ad 10)), some (.ref (ad 16))] [.ref (ad 102), .ref (ad 0)] 113
  refine x_dup (C.gn ad 103) rfl (dkAt dk_X11_init 58 rfl) 114 rfl ?_
  refine x_aload_n (C.gn ad 103) rfl rfl (dkAt dk_X11_init 59 rfl) 115 rfl ?_
  refine x_aload_n (C.gn ad 103) rfl rfl (dkAt dk_X11_init 60 rfl) 116 rfl ?_
  refine d_cI C (k_X9_init_102 hG hov) mw_X9_init ln_RX11_75 mii_X9_init ⟨by decide, by decide, by decide, by decide⟩ rfl hag (by decide) (L := [some (.inr 0), some (.inr 1), some (.inr 3), some (.inr 10), some (.inr 16)]) (st := [.inr 102, .inr 0]) rfl rfl (by decide) (by decide) (Nat.le_of_ble_eq_true rfl) (dkAt dk_X11_init 61 rfl) 119 rfl (cs1 := 103) (sl1 := 11523) rfl rfl (fun ad hag => ?_)
  change G (gn Γ ad 104) X mm124 103 11523 [some (.ref (ad 0)), some (.ref (ad 1)), some (.ref (ad 3)), some (.ref (ad 10)), some (.ref (ad 16))] [.ref (ad 102), .ref (ad 0)] 119
  refine x_putFR (C.gn ad 104) hI (kk := some) (rM := mm125) (fun _ _ => trivial) pkf_RX11_78 ⟨_, rfl⟩ rfl (dkAt dk_X11_init 62 rfl) 122 rfl rfl (fun M1 hM => ?_)
  cases hM
  refine x_aload_n (C.gn ad 104) rfl rfl (dkAt dk_X11_init 63 rfl) 123 rfl ?_
  refine d_new C (L := [some (.inr 0), some (.inr 1), some (.inr 3), some (.inr 10), some (.inr 16)]) (st := [.inr 0]) sh104 rc10 uw10 tyX10_ok kd_10 kl_RX11_82 ki_10 kn_10 (zr125.mono (by decide)) ⟨by decide, by decide⟩ hag (by decide) rfl rfl (by decide) (by decide) (dkAt dk_X11_init 64 rfl) 126 rfl (cs1 := 104) (sl1 := 11527) rfl rfl (fun ad hag => ?_)
  change G (gn Γ ad 105) X mm125 104 11527 [some (.ref (ad 0)), some (.ref (ad 1)), some (.ref (ad 3)), some (.ref (ad 10)), some (.ref (ad 16))] [.ref (ad 104), .ref (ad 0)] 126
  refine x_dup (C.gn ad 105) rfl (dkAt dk_X11_init 65 rfl) 127 rfl ?_
  refine x_aload_n (C.gn ad 105) rfl rfl (dkAt dk_X11_init 66 rfl) 128 rfl ?_
  refine d_cI C (k_X10_init_104 hG hov) mw_X10_init ln_RX11_84 mii_X10_init ⟨by decide, by decide, by decide, by decide⟩ rfl hag (by decide) (L := [some (.inr 0), some (.inr 1), some (.inr 3), some (.inr 10), some (.inr 16)]) (st := [.inr 104, .inr 0]) rfl rfl (by decide) (by decide) (Nat.le_of_ble_eq_true rfl) (dkAt dk_X11_init 67 rfl) 131 rfl (cs1 := 104) (sl1 := 11527) rfl rfl (fun ad hag => ?_)
  change G (gn Γ ad 105) X mm126 104 11527 [some (.ref (ad 0)), some (.ref (ad 1)), some (.ref (ad 3)), some (.ref (ad 10)), some (.ref (ad 16))] [.ref (ad 104), .ref (ad 0)] 131
  refine x_putFR (C.gn ad 105) hI (kk := some) (rM := mm127) (fun _ _ => trivial) pkf_RX11_85 ⟨_, rfl⟩ rfl (dkAt dk_X11_init 68 rfl) 134 rfl rfl (fun M1 hM => ?_)
  cases hM
  refine x_aload_n (C.gn ad 105) rfl rfl (dkAt dk_X11_init 69 rfl) 135 rfl ?_
  refine d_new C (L := [some (.inr 0), some (.inr 1), some (.inr 3), some (.inr 10), some (.inr 16)]) (st := [.inr 0]) sh105 rc6 uw6 tyX6_ok kd_6 kl_RX11_89 ki_6 kn_6 (zr127.mono (by decide)) ⟨by decide, by decide⟩ hag (by decide) rfl rfl (by decide) (by decide) (dkAt dk_X11_init 70 rfl) 138 rfl (cs1 := 105) (sl1 := 11529) rfl rfl (fun ad hag => ?_)
  change G (gn Γ ad 106) X mm127 105 11529 [some (.ref (ad 0)), some (.ref (ad 1)), some (.ref (ad 3)), some (.ref (ad 10)), some (.ref (ad 16))] [.ref (ad 105), .ref (ad 0)] 138
  refine x_dup (C.gn ad 106) rfl (dkAt dk_X11_init 71 rfl) 139 rfl ?_
  refine d_cJ C (k_X6_init_105 hG hov) mw_X6_init ln_RX11_91 mii_X6_init ⟨by decide, by decide, by decide, by decide⟩ rfl hag (by decide) (L := [some (.inr 0), some (.inr 1), some (.inr 3), some (.inr 10), some (.inr 16)]) (st := [.inr 105, .inr 0]) rfl rfl (by decide) (by decide) (Nat.le_of_ble_eq_true rfl) (dkAt dk_X11_init 72 rfl) 142 rfl (cs1 := 106) (sl1 := 11643) rfl rfl (fun ad hag => ?_)
  change G (gn Γ ad 107) X mm128 106 11643 [some (.ref (ad 0)), some (.ref (ad 1)), some (.ref (ad 3)), some (.ref (ad 10)), some (.ref (ad 16))] [.ref (ad 105), .ref (ad 0)] 142
  refine x_putFR (C.gn ad 107) hI (kk := some) (rM := mm129) (fun _ _ => trivial) pkf_RX11_92 ⟨_, rfl⟩ rfl (dkAt dk_X11_init 73 rfl) 145 rfl rfl (fun M1 hM => ?_)
  cases hM
  refine x_aload_n (C.gn ad 107) rfl rfl (dkAt dk_X11_init 74 rfl) 146 rfl ?_
  refine x_bipush (C.gn ad 107) (v := (18 : Int32)) (by decide) (dkAt dk_X11_init 75 rfl) 148 rfl ?_
  refine d_newa C (ty := .int) (L := [some (.inr 0), some (.inr 1), some (.inr 3), some (.inr 10), some (.inr 16)]) (st := [.inr 0]) sh107 (by decide) rfl ka_int rfl (fun _ => rfl) ⟨by decide, by decide, by decide⟩ (zr129.mono (by decide)) ⟨by decide, by decide⟩ hag (by decide) rfl rfl (by decide) (by decide) (dkAt dk_X11_init 76 rfl) 150 rfl (cs1 := 107) (sl1 := 11661) rfl rfl (fun ad hag => ?_)
  change G (gn Γ ad 108) X mm129 107 11661 [some (.ref (ad 0)), some (.ref (ad 1)), some (.ref (ad 3)), some (.ref (ad 10)), some (.ref (ad 16))] [.ref (ad 107), .ref (ad 0)] 150
  refine x_putFR (C.gn ad 108) hI (kk := some) (rM := mm130) (fun _ _ => trivial) pkf_RX11_96 ⟨_, rfl⟩ rfl (dkAt dk_X11_init 77 rfl) 153 rfl rfl (fun M1 hM => ?_)
  cases hM
  exact d_vret C E hag (by decide) (by decide) (dkAt dk_X11_init 78 rfl)
set_option maxRecDepth 100000 in
theorem k_X12_init_108 {Γ : WC} (hG : HG Γ) (hov : va_AO "DecisionChain$Settings" (wU Γ)) : CtD Γ yX12_init cX12_init 1 (rmL 1 15 8764) 109 124 [108] mm130 mm146 := by
  refine mkD hG (own := RX12) rfl (by decide) rfl (fun _ => Nat.le_of_ble_eq_true rfl) (fun ad0 X C hI E => ?_)
  have hag : agr 109 ad0 ad0 := fun _ _ => rfl
  change G (gn Γ ad0 109) X mm130 0 0 [some (.ref (ad0 108))] [] 0
  refine x_aload_n (C.gn ad0 109) rfl rfl (dkAt dk_X12_init 0 rfl) 1 rfl ?_
  refine d_obj C lo_RX12_1 mi_obj cw_obj ⟨by decide, by decide⟩ (by decide) (dkAt dk_X12_init 1 rfl) 4 rfl ?_
  refine x_aload_n (C.gn ad0 109) rfl rfl (dkAt dk_X12_init 2 rfl) 5 rfl ?_
  refine x_bipush (C.gn ad0 109) (v := (54 : Int32)) (by decide) (dkAt dk_X12_init 3 rfl) 7 rfl ?_
  refine d_newa C (ty := .int) (L := [some (.inr 108)]) (st := [.inr 108]) sh109 (by decide) rfl ka_int rfl (fun _ => rfl) ⟨by decide, by decide, by decide⟩ (zr130.mono (by decide)) ⟨by decide, by decide⟩ hag (by decide) rfl rfl (by decide) (by decide) (dkAt dk_X12_init 4 rfl) 9 rfl (cs1 := 1) (sl1 := 54) rfl rfl (fun ad hag => ?_)
  change G (gn Γ ad 110) X mm130 1 54 [some (.ref (ad 108))] [.ref (ad 109), .ref (ad 108)] 9
  refine x_putFR (C.gn ad 110) hI (kk := some) (rM := mm131) (fun _ _ => trivial) pkf_RX12_7 ⟨_, rfl⟩ rfl (dkAt dk_X12_init 5 rfl) 12 rfl rfl (fun M1 hM => ?_)
  cases hM
  refine x_aload_n (C.gn ad 110) rfl rfl (dkAt dk_X12_init 6 rfl) 13 rfl ?_
  refine x_sipush (C.gn ad 110) (v := (540 : Int32)) (by decide) (dkAt dk_X12_init 7 rfl) 16 rfl ?_
  refine d_newa C (ty := .int) (L := [some (.inr 108)]) (st := [.inr 108]) sh110 (by decide) rfl ka_int rfl (fun _ => rfl) ⟨by decide, by decide, by decide⟩ (zr131.mono (by decide)) ⟨by decide, by decide⟩ hag (by decide) rfl rfl (by decide) (by decide) (dkAt dk_X12_init 8 rfl) 18 rfl (cs1 := 2) (sl1 := 594) rfl rfl (fun ad hag => ?_)
  change G (gn Γ ad 111) X mm131 2 594 [some (.ref (ad 108))] [.ref (ad 110), .ref (ad 108)] 18
  refine x_putFR (C.gn ad 111) hI (kk := some) (rM := mm132) (fun _ _ => trivial) pkf_RX12_13 ⟨_, rfl⟩ rfl (dkAt dk_X12_init 9 rfl) 21 rfl rfl (fun M1 hM => ?_)
  cases hM
  refine x_aload_n (C.gn ad 111) rfl rfl (dkAt dk_X12_init 10 rfl) 22 rfl ?_
  refine x_iconst (C.gn ad 111) (v := (2 : Int32)) (by decide) (dkAt dk_X12_init 11 rfl) 23 rfl ?_
  refine d_newa C (ty := .boolean) (L := [some (.inr 108)]) (st := [.inr 108]) sh111 (by decide) rfl ka_boolean rfl (fun _ => rfl) ⟨by decide, by decide, by decide⟩ (zr132.mono (by decide)) ⟨by decide, by decide⟩ hag (by decide) rfl rfl (by decide) (by decide) (dkAt dk_X12_init 12 rfl) 25 rfl (cs1 := 3) (sl1 := 596) rfl rfl (fun ad hag => ?_)
  change G (gn Γ ad 112) X mm132 3 596 [some (.ref (ad 108))] [.ref (ad 111), .ref (ad 108)] 25
  refine x_putFR (C.gn ad 112) hI (kk := some) (rM := mm133) (fun _ _ => trivial) pkf_RX12_16 ⟨_, rfl⟩ rfl (dkAt dk_X12_init 13 rfl) 28 rfl rfl (fun M1 hM => ?_)
  cases hM
  refine x_aload_n (C.gn ad 112) rfl rfl (dkAt dk_X12_init 14 rfl) 29 rfl ?_
  refine x_sipush (C.gn ad 112) (v := (344 : Int32)) (by decide) (dkAt dk_X12_init 15 rfl) 32 rfl ?_
  refine d_newa C (ty := .int) (L := [some (.inr 108)]) (st := [.inr 108]) sh112 (by decide) rfl ka_int rfl (fun _ => rfl) ⟨by decide, by decide, by decide⟩ (zr133.mono (by decide)) ⟨by decide, by decide⟩ hag (by decide) rfl rfl (by decide) (by decide) (dkAt dk_X12_init 16 rfl) 34 rfl (cs1 := 4) (sl1 := 940) rfl rfl (fun ad hag => ?_)
  change G (gn Γ ad 113) X mm133 4 940 [some (.ref (ad 108))] [.ref (ad 112), .ref (ad 108)] 34
  refine x_putFR (C.gn ad 113) hI (kk := some) (rM := mm134) (fun _ _ => trivial) pkf_RX12_20 ⟨_, rfl⟩ rfl (dkAt dk_X12_init 17 rfl) 37 rfl rfl (fun M1 hM => ?_)
  cases hM
  refine x_aload_n (C.gn ad 113) rfl rfl (dkAt dk_X12_init 18 rfl) 38 rfl ?_
  refine x_sipush (C.gn ad 113) (v := (344 : Int32)) (by decide) (dkAt dk_X12_init 19 rfl) 41 rfl ?_
  refine d_newa C (ty := .int) (L := [some (.inr 108)]) (st := [.inr 108]) sh113 (by decide) rfl ka_int rfl (fun _ => rfl) ⟨by decide, by decide, by decide⟩ (zr134.mono (by decide)) ⟨by decide, by decide⟩ hag (by decide) rfl rfl (by decide) (by decide) (dkAt dk_X12_init 20 rfl) 43 rfl (cs1 := 5) (sl1 := 1284) rfl rfl (fun ad hag => ?_)
  change G (gn Γ ad 114) X mm134 5 1284 [some (.ref (ad 108))] [.ref (ad 113), .ref (ad 108)] 43
  refine x_putFR (C.gn ad 114) hI (kk := some) (rM := mm135) (fun _ _ => trivial) pkf_RX12_23 ⟨_, rfl⟩ rfl (dkAt dk_X12_init 21 rfl) 46 rfl rfl (fun M1 hM => ?_)
  cases hM
  refine x_aload_n (C.gn ad 114) rfl rfl (dkAt dk_X12_init 22 rfl) 47 rfl ?_
  refine x_sipush (C.gn ad 114) (v := (1200 : Int32)) (by decide) (dkAt dk_X12_init 23 rfl) 50 rfl ?_
  refine d_newa C (ty := .int) (L := [some (.inr 108)]) (st := [.inr 108]) sh114 (by decide) rfl ka_int rfl (fun _ => rfl) ⟨by decide, by decide, by decide⟩ (zr135.mono (by decide)) ⟨by decide, by decide⟩ hag (by decide) rfl rfl (by decide) (by decide) (dkAt dk_X12_init 24 rfl) 52 rfl (cs1 := 6) (sl1 := 2484) rfl rfl (fun ad hag => ?_)
  change G (gn Γ ad 115) X mm135 6 2484 [some (.ref (ad 108))] [.ref (ad 114), .ref (ad 108)] 52
  refine x_putFR (C.gn ad 115) hI (kk := some) (rM := mm136) (fun _ _ => trivial) pkf_RX12_26 ⟨_, rfl⟩ rfl (dkAt dk_X12_init 25 rfl) 55 rfl rfl (fun M1 hM => ?_)
  cases hM
  refine x_aload_n (C.gn ad 115) rfl rfl (dkAt dk_X12_init 26 rfl) 56 rfl ?_
  refine x_iconst (C.gn ad 115) (v := (-1 : Int32)) (by decide) (dkAt dk_X12_init 27 rfl) 57 rfl ?_
  refine x_putI (C.gn ad 115) (kk := some) (rM := mm137) pk_RX12_29 ⟨_, rfl⟩ rfl (dkAt dk_X12_init 28 rfl) 60 rfl rfl (fun M1 hM => ?_)
  cases hM
  refine x_aload_n (C.gn ad 115) rfl rfl (dkAt dk_X12_init 29 rfl) 61 rfl ?_
  refine x_bipush (C.gn ad 115) (v := (8 : Int32)) (by decide) (dkAt dk_X12_init 30 rfl) 63 rfl ?_
  refine d_newa C (ty := .int) (L := [some (.inr 108)]) (st := [.inr 108]) sh115 (by decide) rfl ka_int rfl (fun _ => rfl) ⟨by decide, by decide, by decide⟩ (zr137.mono (by decide)) ⟨by decide, by decide⟩ hag (by decide) rfl rfl (by decide) (by decide) (dkAt dk_X12_init 31 rfl) 65 rfl (cs1 := 7) (sl1 := 2492) rfl rfl (fun ad hag => ?_)
  change G (gn Γ ad 116) X mm137 7 2492 [some (.ref (ad 108))] [.ref (ad 115), .ref (ad 108)] 65
  refine x_putFR (C.gn ad 116) hI (kk := some) (rM := mm138) (fun _ _ => trivial) pkf_RX12_33 ⟨_, rfl⟩ rfl (dkAt dk_X12_init 32 rfl) 68 rfl rfl (fun M1 hM => ?_)
  cases hM
  refine x_aload_n (C.gn ad 116) rfl rfl (dkAt dk_X12_init 33 rfl) 69 rfl ?_
  refine x_bipush (C.gn ad 116) (v := (36 : Int32)) (by decide) (dkAt dk_X12_init 34 rfl) 71 rfl ?_
  refine d_newa C (ty := .long) (L := [some (.inr 108)]) (st := [.inr 108]) sh116 (by decide) rfl ka_long rfl (fun _ => rfl) ⟨by decide, by decide, by decide⟩ (zr138.mono (by decide)) ⟨by decide, by decide⟩ hag (by decide) rfl rfl (by decide) (by decide) (dkAt dk_X12_init 35 rfl) 73 rfl (cs1 := 8) (sl1 := 2528) rfl rfl (fun ad hag => ?_)
  change G (gn Γ ad 117) X mm138 8 2528 [some (.ref (ad 108))] [.ref (ad 116), .ref (ad 108)] 73
  refine x_putFR (C.gn ad 117) hI (kk := some) (rM := mm139) (fun _ _ => trivial) pkf_RX12_36 ⟨_, rfl⟩ rfl (dkAt dk_X12_init 36 rfl) 76 rfl rfl (fun M1 hM => ?_)
  cases hM
  refine x_aload_n (C.gn ad 117) rfl rfl (dkAt dk_X12_init 37 rfl) 77 rfl ?_
  refine x_sipush (C.gn ad 117) (v := (2976 : Int32)) (by decide) (dkAt dk_X12_init 38 rfl) 80 rfl ?_
  refine d_newa C (ty := .long) (L := [some (.inr 108)]) (st := [.inr 108]) sh117 (by decide) rfl ka_long rfl (fun _ => rfl) ⟨by decide, by decide, by decide⟩ (zr139.mono (by decide)) ⟨by decide, by decide⟩ hag (by decide) rfl rfl (by decide) (by decide) (dkAt dk_X12_init 39 rfl) 82 rfl (cs1 := 9) (sl1 := 5504) rfl rfl (fun ad hag => ?_)
  change G (gn Γ ad 118) X mm139 9 5504 [some (.ref (ad 108))] [.ref (ad 117), .ref (ad 108)] 82
  refine x_putFR (C.gn ad 118) hI (kk := some) (rM := mm140) (fun _ _ => trivial) pkf_RX12_40 ⟨_, rfl⟩ rfl (dkAt dk_X12_init 40 rfl) 85 rfl rfl (fun M1 hM => ?_)
  cases hM
  refine x_aload_n (C.gn ad 118) rfl rfl (dkAt dk_X12_init 41 rfl) 86 rfl ?_
  refine x_sipush (C.gn ad 118) (v := (2976 : Int32)) (by decide) (dkAt dk_X12_init 42 rfl) 89 rfl ?_
  refine d_newa C (ty := .long) (L := [some (.inr 108)]) (st := [.inr 108]) sh118 (by decide) rfl ka_long rfl (fun _ => rfl) ⟨by decide, by decide, by decide⟩ (zr140.mono (by decide)) ⟨by decide, by decide⟩ hag (by decide) rfl rfl (by decide) (by decide) (dkAt dk_X12_init 43 rfl) 91 rfl (cs1 := 10) (sl1 := 8480) rfl rfl (fun ad hag => ?_)
  change G (gn Γ ad 119) X mm140 10 8480 [some (.ref (ad 108))] [.ref (ad 118), .ref (ad 108)] 91
  refine x_putFR (C.gn ad 119) hI (kk := some) (rM := mm141) (fun _ _ => trivial) pkf_RX12_43 ⟨_, rfl⟩ rfl (dkAt dk_X12_init 44 rfl) 94 rfl rfl (fun M1 hM => ?_)
  cases hM
  refine x_aload_n (C.gn ad 119) rfl rfl (dkAt dk_X12_init 45 rfl) 95 rfl ?_
  refine x_bipush (C.gn ad 119) (v := (36 : Int32)) (by decide) (dkAt dk_X12_init 46 rfl) 97 rfl ?_
  refine d_newa C (ty := .long) (L := [some (.inr 108)]) (st := [.inr 108]) sh119 (by decide) rfl ka_long rfl (fun _ => rfl) ⟨by decide, by decide, by decide⟩ (zr141.mono (by decide)) ⟨by decide, by decide⟩ hag (by decide) rfl rfl (by decide) (by decide) (dkAt dk_X12_init 47 rfl) 99 rfl (cs1 := 11) (sl1 := 8516) rfl rfl (fun ad hag => ?_)
  change G (gn Γ ad 120) X mm141 11 8516 [some (.ref (ad 108))] [.ref (ad 119), .ref (ad 108)] 99
  refine x_putFR (C.gn ad 120) hI (kk := some) (rM := mm142) (fun _ _ => trivial) pkf_RX12_46 ⟨_, rfl⟩ rfl (dkAt dk_X12_init 48 rfl) 102 rfl rfl (fun M1 hM => ?_)
  cases hM
  refine x_aload_n (C.gn ad 120) rfl rfl (dkAt dk_X12_init 49 rfl) 103 rfl ?_
  refine x_bipush (C.gn ad 120) (v := (36 : Int32)) (by decide) (dkAt dk_X12_init 50 rfl) 105 rfl ?_
  refine d_newa C (ty := .long) (L := [some (.inr 108)]) (st := [.inr 108]) sh120 (by decide) rfl ka_long rfl (fun _ => rfl) ⟨by decide, by decide, by decide⟩ (zr142.mono (by decide)) ⟨by decide, by decide⟩ hag (by decide) rfl rfl (by decide) (by decide) (dkAt dk_X12_init 51 rfl) 107 rfl (cs1 := 12) (sl1 := 8552) rfl rfl (fun ad hag => ?_)
  change G (gn Γ ad 121) X mm142 12 8552 [some (.ref (ad 108))] [.ref (ad 120), .ref (ad 108)] 107
  refine x_putFR (C.gn ad 121) hI (kk := some) (rM := mm143) (fun _ _ => trivial) pkf_RX12_49 ⟨_, rfl⟩ rfl (dkAt dk_X12_init 52 rfl) 110 rfl rfl (fun M1 hM => ?_)
  cases hM
  refine x_aload_n (C.gn ad 121) rfl rfl (dkAt dk_X12_init 53 rfl) 111 rfl ?_
  refine x_bipush (C.gn ad 121) (v := (6 : Int32)) (by decide) (dkAt dk_X12_init 54 rfl) 113 rfl ?_
  refine d_newa C (ty := .int) (L := [some (.inr 108)]) (st := [.inr 108]) sh121 (by decide) rfl ka_int rfl (fun _ => rfl) ⟨by decide, by decide, by decide⟩ (zr143.mono (by decide)) ⟨by decide, by decide⟩ hag (by decide) rfl rfl (by decide) (by decide) (dkAt dk_X12_init 55 rfl) 115 rfl (cs1 := 13) (sl1 := 8558) rfl rfl (fun ad hag => ?_)
  change G (gn Γ ad 122) X mm143 13 8558 [some (.ref (ad 108))] [.ref (ad 121), .ref (ad 108)] 115
  refine x_putFR (C.gn ad 122) hI (kk := some) (rM := mm144) (fun _ _ => trivial) pkf_RX12_52 ⟨_, rfl⟩ rfl (dkAt dk_X12_init 56 rfl) 118 rfl rfl (fun M1 hM => ?_)
  cases hM
  refine x_aload_n (C.gn ad 122) rfl rfl (dkAt dk_X12_init 57 rfl) 119 rfl ?_
  refine x_bipush (C.gn ad 122) (v := (6 : Int32)) (by decide) (dkAt dk_X12_init 58 rfl) 121 rfl ?_
  refine d_newa C (ty := .int) (L := [some (.inr 108)]) (st := [.inr 108]) sh122 (by decide) rfl ka_int rfl (fun _ => rfl) ⟨by decide, by decide, by decide⟩ (zr144.mono (by decide)) ⟨by decide, by decide⟩ hag (by decide) rfl rfl (by decide) (by decide) (dkAt dk_X12_init 59 rfl) 123 rfl (cs1 := 14) (sl1 := 8564) rfl rfl (fun ad hag => ?_)
  change G (gn Γ ad 123) X mm144 14 8564 [some (.ref (ad 108))] [.ref (ad 122), .ref (ad 108)] 123
  refine x_putFR (C.gn ad 123) hI (kk := some) (rM := mm145) (fun _ _ => trivial) pkf_RX12_55 ⟨_, rfl⟩ rfl (dkAt dk_X12_init 60 rfl) 126 rfl rfl (fun M1 hM => ?_)
  cases hM
  refine x_aload_n (C.gn ad 123) rfl rfl (dkAt dk_X12_init 61 rfl) 127 rfl ?_
  refine x_sipush (C.gn ad 123) (v := (200 : Int32)) (by decide) (dkAt dk_X12_init 62 rfl) 130 rfl ?_
  refine d_newa C (ty := .int) (L := [some (.inr 108)]) (st := [.inr 108]) sh123 (by decide) rfl ka_int rfl (fun _ => rfl) ⟨by decide, by decide, by decide⟩ (zr145.mono (by decide)) ⟨by decide, by decide⟩ hag (by decide) rfl rfl (by decide) (by decide) (dkAt dk_X12_init 63 rfl) 132 rfl (cs1 := 15) (sl1 := 8764) rfl rfl (fun ad hag => ?_)
  change G (gn Γ ad 124) X mm145 15 8764 [some (.ref (ad 108))] [.ref (ad 123), .ref (ad 108)] 132
  refine x_putFR (C.gn ad 124) hI (kk := some) (rM := mm146) (fun _ _ => trivial) pkf_RX12_58 ⟨_, rfl⟩ rfl (dkAt dk_X12_init 64 rfl) 135 rfl rfl (fun M1 hM => ?_)
  cases hM
  exact d_vret C E hag (by decide) (by decide) (dkAt dk_X12_init 65 rfl)
set_option maxRecDepth 100000 in
theorem c_head {Γ : WC} {X : MX} (hG : HG Γ) (hov : va_AO "DecisionChain$Settings" (wU Γ)) (C : CX Γ X cL_law 9 RL (some .boolean) room_1) {b : Nat} {ad0 : Nat → Nat} (K : GD Γ ad0 0 X 126 mm146 126 20471 [some (.inl (.ref b)), some (.inr 0), some (.inr 108), some (.inr 124), some (.inr 125), some (.inl (.int (0 : Int32)))] [] 28) : G (gn Γ ad0 0) X M00 0 0 [some (.ref b)] [] 0 := by
  have hag : agr 0 ad0 ad0 := fun _ _ => rfl
  refine d_new C (L := [some (.inl (.ref b))]) (st := []) sh0 rc11 uw11 tyX11_ok kd_11 kl_RL_8 ki_11 kn_11 (Zr_00.mono (by decide)) ⟨by decide, by decide⟩ hag (by decide) rfl rfl rfl rfl (dkAt dk_L_law_0 0 rfl) 3 rfl (cs1 := 1) (sl1 := 12) rfl rfl (fun ad hag => ?_)
  change G (gn Γ ad 1) X M00 1 12 [some (.ref b)] [.ref (ad 0)] 3
  refine x_dup (C.gn ad 1) rfl (dkAt dk_L_law_0 1 rfl) 4 rfl ?_
  refine d_cI C (k_X11_init_0 hG hov) mw_X11_init ln_RL_187 mii_X11_init ⟨by decide, by decide, by decide, by decide⟩ rfl hag (by decide) (L := [some (.inl (.ref b))]) (st := [.inr 0]) rfl rfl rfl rfl (Nat.le_of_ble_eq_true rfl) (dkAt dk_L_law_0 2 rfl) 7 rfl (cs1 := 108) (sl1 := 11673) rfl rfl (fun ad hag => ?_)
  change G (gn Γ ad 108) X mm130 108 11673 [some (.ref b)] [.ref (ad 0)] 7
  refine x_astore_n (C.gn ad 108) (L1 := [some (.ref b), some (.ref (ad 0))]) (dkAt dk_L_law_0 3 rfl) 8 rfl rfl (by decide) rfl ?_
  refine d_new C (L := [some (.inl (.ref b)), some (.inr 0)]) (st := []) sh108 rc12 uw12 tyX12_ok kd_12 kl_RL_188 ki_12 kn_12 (zr130.mono (by decide)) ⟨by decide, by decide⟩ hag (by decide) rfl rfl rfl rfl (dkAt dk_L_law_0 4 rfl) 11 rfl (cs1 := 109) (sl1 := 11705) rfl rfl (fun ad hag => ?_)
  change G (gn Γ ad 109) X mm130 109 11705 [some (.ref b), some (.ref (ad 0))] [.ref (ad 108)] 11
  refine x_dup (C.gn ad 109) rfl (dkAt dk_L_law_0 5 rfl) 12 rfl ?_
  refine d_cI C (k_X12_init_108 hG hov) mw_X12_init ln_RL_190 mii_X12_init ⟨by decide, by decide, by decide, by decide⟩ rfl hag (by decide) (L := [some (.inl (.ref b)), some (.inr 0)]) (st := [.inr 108]) rfl rfl rfl rfl (Nat.le_of_ble_eq_true rfl) (dkAt dk_L_law_0 6 rfl) 15 rfl (cs1 := 124) (sl1 := 20469) rfl rfl (fun ad hag => ?_)
  change G (gn Γ ad 124) X mm146 124 20469 [some (.ref b), some (.ref (ad 0))] [.ref (ad 108)] 15
  refine x_astore_n (C.gn ad 124) (L1 := [some (.ref b), some (.ref (ad 0)), some (.ref (ad 108))]) (dkAt dk_L_law_0 7 rfl) 16 rfl rfl (by decide) rfl ?_
  refine x_iconst (C.gn ad 124) (v := (1 : Int32)) (by decide) (dkAt dk_L_law_0 8 rfl) 17 rfl ?_
  refine d_newa C (ty := .long) (L := [some (.inl (.ref b)), some (.inr 0), some (.inr 108)]) (st := []) sh124 (by decide) rfl ka_long rfl (fun _ => rfl) ⟨by decide, by decide, by decide⟩ (zr146.mono (by decide)) ⟨by decide, by decide⟩ hag (by decide) rfl rfl rfl rfl (dkAt dk_L_law_0 9 rfl) 19 rfl (cs1 := 125) (sl1 := 20470) rfl rfl (fun ad hag => ?_)
  change G (gn Γ ad 125) X mm146 125 20470 [some (.ref b), some (.ref (ad 0)), some (.ref (ad 108))] [.ref (ad 124)] 19
  refine x_astore_n (C.gn ad 125) (L1 := [some (.ref b), some (.ref (ad 0)), some (.ref (ad 108)), some (.ref (ad 124))]) (dkAt dk_L_law_0 10 rfl) 20 rfl rfl (by decide) rfl ?_
  refine x_iconst (C.gn ad 125) (v := (1 : Int32)) (by decide) (dkAt dk_L_law_0 11 rfl) 21 rfl ?_
  refine d_newa C (ty := .double) (L := [some (.inl (.ref b)), some (.inr 0), some (.inr 108), some (.inr 124)]) (st := []) sh125 (by decide) rfl ka_double rfl (fun _ => rfl) ⟨by decide, by decide, by decide⟩ (zr146.mono (by decide)) ⟨by decide, by decide⟩ hag (by decide) rfl rfl rfl rfl (dkAt dk_L_law_0 12 rfl) 23 rfl (cs1 := 126) (sl1 := 20471) rfl rfl (fun ad hag => ?_)
  change G (gn Γ ad 126) X mm146 126 20471 [some (.ref b), some (.ref (ad 0)), some (.ref (ad 108)), some (.ref (ad 124))] [.ref (ad 125)] 23
  refine x_astore (C.gn ad 126) (L1 := [some (.ref b), some (.ref (ad 0)), some (.ref (ad 108)), some (.ref (ad 124)), some (.ref (ad 125))]) (dkAt dk_L_law_0 13 rfl) 25 rfl (by decide) rfl ?_
  refine x_iconst (C.gn ad 126) (v := (0 : Int32)) (by decide) (dkAt dk_L_law_0 14 rfl) 26 rfl ?_
  refine x_istore (C.gn ad 126) (L1 := [some (.ref b), some (.ref (ad 0)), some (.ref (ad 108)), some (.ref (ad 124)), some (.ref (ad 125)), some (.int (0 : Int32))]) (dkAt dk_L_law_0 15 rfl) 28 rfl (by decide) rfl ?_
  exact K ad hag
def MI : Mem := mm146
