/-! the law's own loop -/
def rdX {β : Type} (xs : Nat → Int32) (L : Nat) (i : Int32) (k : Int32 → Option β) : Option β := if inB i L = true then k (xs i.toNatClampNeg) else none
/-- the script in the law's frame -/
def SX (Γ : WC) (X : MX) (b L : Nat) (xs : Nat → Int32) : Prop := match X with
  | (_, _, _, s, _, _, _, _, _, _) => va_X b L xs s (wU Γ).heap ∧ b < (wU Γ).heap.size
/-- the law's end -/
def EndL (Γ : WC) (X : MX) : Prop := match X with
  | (p, e, R, s, m, args, below, meth, c, Q) => ∀ (H : Heap) (locs : List Loc) (ls : Array Slot) (pc : Nat), va_S (fAg Γ) (wU Γ).heap H locs → decode code pc = .ok (.ireturn, 1) → W p (wl Γ) e R s m args below meth c H locs 601024 7293034 Q (F0 m pc ls [.int 1])
section LawSteps
variable {Γ : WC} {X : MX} {M : Mem} {cs sl : Nat} {L : List (Option Value)} {st : List Value} {pc : Nat} {cc : ByteArray} {nL : Nat} {own : String} {ret : Option FieldType} {R0 : Room} {β : Type} {rM : β}
theorem G.wide {cs1 sl1 : Nat} (h1 : cs ≤ cs1) (h2 : sl ≤ sl1) (k : G Γ X M cs1 sl1 L st pc) : G Γ X M cs sl L st pc := by
  obtain ⟨p, e, R, s, m, args, below, meth, c, Q⟩ := X
  intro H locs ls a1 a2 a3 a4 a5
  exact W.widen h1 h2 (k H locs ls a1 a2 a3 a4 a5)
theorem x_sld {b LL : Nat} {xs : Nat → Int32} {i : Int32} {k : Int32 → Option β} (C : CX Γ X cc nL own ret R0) (hX : SX Γ X b LL xs) (d : decode cc pc = .ok (.iaload, 1)) (q : Nat) (hq : pc + 1 = q) (hf : rdX xs LL i k = some rM) (K : ∀ v, k v = some rM → G Γ X M cs sl L (.int v :: st) q) : G Γ X M cs sl L (.int i :: .ref b :: st) pc := by
  subst hq
  obtain ⟨p, e, R, s, m, args, below, meth, c, Q⟩ := X
  obtain ⟨hx, hb, hml, hown, hts, hW, hlk, hret, hR, hK, hSs, hG⟩ := C
  intro H locs ls a1 a2 a3 a4 a5
  obtain ⟨hi, hf⟩ := if_some hf
  exact va_sld hx hb hX.1 hX.2 (Nat.not_le_of_lt hX.2) a4 (inB_in hi) d (K _ hf H locs ls a1 a2 a3 a4 a5)
theorem x_slenX {b LL : Nat} {xs : Nat → Int32} (C : CX Γ X cc nL own ret R0) (hX : SX Γ X b LL xs) (d : decode cc pc = .ok (.arraylength, 1)) (q : Nat) (hq : pc + 1 = q) (K : G Γ X M cs sl L (.int (Int32.ofNat LL) :: st) q) : G Γ X M cs sl L (.ref b :: st) pc := by
  subst hq
  obtain ⟨p, e, R, s, m, args, below, meth, c, Q⟩ := X
  obtain ⟨hx, hb, hml, hown, hts, hW, hlk, hret, hR, hK, hSs, hG⟩ := C
  intro H locs ls a1 a2 a3 a4 a5
  exact va_slen hx hb hX.1 hX.2 (Nat.not_le_of_lt hX.2) a4 d (K H locs ls a1 a2 a3 a4 a5)
theorem x_tabIn (C : CX Γ X cc nL own ret R0) {dflt hi : Int} {offs : Array Int} {len n : Nat} {x : Int32} {off : Int} (tgt : Nat) (d : decode cc pc = .ok (.tableswitch dflt 0 hi offs, len)) (hx : x.toInt = (n : Int)) (h2 : (n : Int) ≤ hi) (ho : offs[n]? = some off) (ht : (pc : Int) + off = (tgt : Int)) (K : G Γ X M cs sl L st tgt) : G Γ X M cs sl L (.int x :: st) pc := by
  obtain ⟨p, e, R, s, m, args, below, meth, c, Q⟩ := X
  obtain ⟨hx1, hb, hml, hown, hts, hW, hlk, hret, hR, hK, hSs, hG⟩ := C
  intro H locs ls a1 a2 a3 a4 a5
  exact lv_tableIn hx1 hb d (by omega) (by omega) (by rw [hx, Int.sub_zero, Int.toNat_natCast]; exact ho) ht (K H locs ls a1 a2 a3 a4 a5)
theorem x_tabOut (C : CX Γ X cc nL own ret R0) {dflt lo hi : Int} {offs : Array Int} {len : Nat} {x : Int32} (tgt : Nat) (d : decode cc pc = .ok (.tableswitch dflt lo hi offs, len)) (h : x.toInt < lo ∨ hi < x.toInt) (ht : (pc : Int) + dflt = (tgt : Int)) (K : G Γ X M cs sl L st tgt) : G Γ X M cs sl L (.int x :: st) pc := by
  obtain ⟨p, e, R, s, m, args, below, meth, c, Q⟩ := X
  obtain ⟨hx1, hb, hml, hown, hts, hW, hlk, hret, hR, hK, hSs, hG⟩ := C
  intro H locs ls a1 a2 a3 a4 a5
  exact lv_tableOut hx1 hb d h ht (K H locs ls a1 a2 a3 a4 a5)
theorem ro_law {n' mc' ms' maxL cb sb k j : Nat} (hcb : cb + 8 ≤ 601024 ∧ sb + 48 ≤ 7293034) (h : n' ≤ 30) (hm : maxL ≤ 24) (hc : k + mc' ≤ 8) (hs : j + ms' ≤ 48) : RO (rmL n' mc' ms') room_1 maxL (cb + k) (sb + j) := by
  refine ⟨?_, ?_, ?_, ?_⟩
  · show n' + 1 + 1 ≤ 2048
    omega
  · show 8 + (maxL + 11) + 44 * (n' + 1) ≤ 84000
    omega
  · show cb + k + mc' ≤ 601024
    omega
  · show sb + j + ms' ≤ 7293034
    omega
end LawSteps
theorem ln_RL_191 : Gd (.methodLink RL 191 yX11_append) := gd 542 (by decide +kernel) rfl
theorem ln_RL_195 : Gd (.methodLink RL 195 yX12_append) := gd 1695 (by decide +kernel) rfl
theorem ln_RL_196 : Gd (.methodLink RL 196 yL_load) := gd 582 (by decide +kernel) rfl
theorem ln_RL_201 : Gd (.methodLink RL 201 yX12_load) := gd 1711 (by decide +kernel) rfl
theorem ln_RL_202 : Gd (.methodLink RL 202 yX12_thrown) := gd 1691 (by decide +kernel) rfl
theorem ln_RL_205 : Gd (.methodLink RL 205 yX11_parseError) := gd 554 (by decide +kernel) rfl
theorem ln_RL_208 : Gd (.methodLink RL 208 yX12_parseError) := gd 1703 (by decide +kernel) rfl
theorem ln_RL_209 : Gd (.methodLink RL 209 yX11_errorPosition) := gd 558 (by decide +kernel) rfl
theorem ln_RL_212 : Gd (.methodLink RL 212 yX12_errorPosition) := gd 1707 (by decide +kernel) rfl
theorem ln_RL_213 : Gd (.methodLink RL 213 yX11_buffered) := gd 562 (by decide +kernel) rfl
theorem ln_RL_216 : Gd (.methodLink RL 216 yX12_buffered) := gd 1699 (by decide +kernel) rfl
theorem ln_RL_217 : Gd (.methodLink RL 217 yX11_states) := gd 566 (by decide +kernel) rfl
theorem ln_RL_220 : Gd (.methodLink RL 220 yX12_states) := gd 1828 (by decide +kernel) rfl
theorem ln_RL_221 : Gd (.methodLink RL 221 yX11_budgets) := gd 570 (by decide +kernel) rfl
theorem ln_RL_224 : Gd (.methodLink RL 224 yX12_budgets) := gd 1836 (by decide +kernel) rfl
theorem ln_RL_225 : Gd (.methodLink RL 225 yX11_horizon) := gd 574 (by decide +kernel) rfl
theorem ln_RL_228 : Gd (.methodLink RL 228 yX12_horizon) := gd 1840 (by decide +kernel) rfl
theorem ln_RL_229 : Gd (.methodLink RL 229 yL_start) := gd 885 (by decide +kernel) rfl
theorem ln_RL_232 : Gd (.methodLink RL 232 yX12_start) := gd 1848 (by decide +kernel) rfl
theorem ln_RL_233 : Gd (.methodLink RL 233 yL_actions) := gd 913 (by decide +kernel) rfl
theorem ln_RL_235 : Gd (.methodLink RL 235 yX12_actions) := gd 1856 (by decide +kernel) rfl
theorem ln_RL_236 : Gd (.methodLink RL 236 yL_gain) := gd 925 (by decide +kernel) rfl
theorem ln_RL_239 : Gd (.methodLink RL 239 yX12_gain) := gd 1868 (by decide +kernel) rfl
theorem ln_RL_240 : Gd (.methodLink RL 240 yL_uses) := gd 937 (by decide +kernel) rfl
theorem ln_RL_243 : Gd (.methodLink RL 243 yX12_uses) := gd 1884 (by decide +kernel) rfl
theorem ln_RL_244 : Gd (.methodLink RL 244 yL_percent) := gd 950 (by decide +kernel) rfl
theorem ln_RL_246 : Gd (.methodLink RL 246 yX12_percent) := gd 1896 (by decide +kernel) rfl
theorem ln_RL_247 : Gd (.methodLink RL 247 yL_weight) := gd 958 (by decide +kernel) rfl
theorem ln_RL_249 : Gd (.methodLink RL 249 yX12_weight) := gd 1904 (by decide +kernel) rfl
theorem ln_RL_250 : Gd (.methodLink RL 250 yL_isPermitted) := gd 965 (by decide +kernel) rfl
theorem ln_RL_252 : Gd (.methodLink RL 252 yX12_isPermitted) := gd 1912 (by decide +kernel) rfl
theorem ln_RL_253 : Gd (.methodLink RL 253 yL_limit) := gd 976 (by decide +kernel) rfl
theorem ln_RL_255 : Gd (.methodLink RL 255 yX12_limit) := gd 1920 (by decide +kernel) rfl
theorem ln_RL_256 : Gd (.methodLink RL 256 yL_reach) := gd 983 (by decide +kernel) rfl
theorem ln_RL_258 : Gd (.methodLink RL 258 yX12_reach) := gd 1928 (by decide +kernel) rfl
theorem ln_RL_259 : Gd (.methodLink RL 259 yL_isClosed) := gd 1031 (by decide +kernel) rfl
theorem ln_RL_261 : Gd (.methodLink RL 261 yX12_isClosed) := gd 1948 (by decide +kernel) rfl
theorem ln_RL_262 : Gd (.methodLink RL 262 yL_flow) := gd 1042 (by decide +kernel) rfl
theorem ln_RL_264 : Gd (.methodLink RL 264 yX12_flow) := gd 1952 (by decide +kernel) rfl
theorem ln_RL_265 : Gd (.methodLink RL 265 yL_use) := gd 1049 (by decide +kernel) rfl
theorem ln_RL_267 : Gd (.methodLink RL 267 yX12_use) := gd 1956 (by decide +kernel) rfl
theorem ln_RL_268 : Gd (.methodLink RL 268 yL_visits) := gd 1056 (by decide +kernel) rfl
theorem ln_RL_270 : Gd (.methodLink RL 270 yX12_visits) := gd 1960 (by decide +kernel) rfl
theorem ln_RL_271 : Gd (.methodLink RL 271 yL_hit) := gd 1073 (by decide +kernel) rfl
theorem ln_RL_273 : Gd (.methodLink RL 273 yX12_hit) := gd 1971 (by decide +kernel) rfl
theorem ln_RL_274 : Gd (.methodLink RL 274 yL_unit) := gd 1084 (by decide +kernel) rfl
theorem ln_RL_276 : Gd (.methodLink RL 276 yX12_unit) := gd 1975 (by decide +kernel) rfl
theorem ln_RL_277 : Gd (.methodLink RL 277 yL_gainOfRun) := gd 1096 (by decide +kernel) rfl
theorem ln_RL_279 : Gd (.methodLink RL 279 yX12_gainOfRun) := gd 1984 (by decide +kernel) rfl
theorem ln_RL_280 : Gd (.methodLink RL 280 yL_usedOfRun) := gd 1107 (by decide +kernel) rfl
theorem ln_RL_282 : Gd (.methodLink RL 282 yX12_usedOfRun) := gd 1992 (by decide +kernel) rfl
theorem ln_RL_283 : Gd (.methodLink RL 283 yL_left) := gd 1119 (by decide +kernel) rfl
theorem ln_RL_285 : Gd (.methodLink RL 285 yX12_left) := gd 1996 (by decide +kernel) rfl
theorem ln_RL_286 : Gd (.methodLink RL 286 yL_broken) := gd 1126 (by decide +kernel) rfl
theorem ln_RL_288 : Gd (.methodLink RL 288 yX12_broken) := gd 2004 (by decide +kernel) rfl
theorem ln_RL_289 : Gd (.methodLink RL 289 yL_within) := gd 1137 (by decide +kernel) rfl
theorem ln_RL_291 : Gd (.methodLink RL 291 yX12_within) := gd 2024 (by decide +kernel) rfl
theorem ln_RL_292 : Gd (.methodLink RL 292 yL_mostUsed) := gd 1161 (by decide +kernel) rfl
theorem ln_RL_294 : Gd (.methodLink RL 294 yX12_mostUsed) := gd 2044 (by decide +kernel) rfl
theorem ln_RL_295 : Gd (.methodLink RL 295 yL_firstTime) := gd 1180 (by decide +kernel) rfl
theorem ln_RL_297 : Gd (.methodLink RL 297 yX12_firstTime) := gd 2020 (by decide +kernel) rfl
theorem ln_RL_298 : Gd (.methodLink RL 298 yL_busiest) := gd 1187 (by decide +kernel) rfl
theorem ln_RL_300 : Gd (.methodLink RL 300 yX12_busiest) := gd 2012 (by decide +kernel) rfl
theorem ln_RL_301 : Gd (.methodLink RL 301 yL_meanGain) := gd 1199 (by decide +kernel) rfl
theorem ln_RL_304 : Gd (.methodLink RL 304 yX12_meanGain) := gd 2016 (by decide +kernel) rfl
theorem ln_RL_305 : Gd (.methodLink RL 305 yL_likeliest) := gd 1206 (by decide +kernel) rfl
theorem ln_RL_307 : Gd (.methodLink RL 307 yX12_likeliest) := gd 2048 (by decide +kernel) rfl
theorem ln_RL_308 : Gd (.methodLink RL 308 yL_likeliestAt) := gd 1228 (by decide +kernel) rfl
theorem ln_RL_310 : Gd (.methodLink RL 310 yX12_likeliestAt) := gd 2056 (by decide +kernel) rfl
theorem ln_RL_311 : Gd (.methodLink RL 311 yL_value) := gd 1243 (by decide +kernel) rfl
theorem ln_RL_313 : Gd (.methodLink RL 313 yX12_value) := gd 2060 (by decide +kernel) rfl
theorem ln_RL_314 : Gd (.methodLink RL 314 yL_valueAction) := gd 1274 (by decide +kernel) rfl
theorem ln_RL_316 : Gd (.methodLink RL 316 yX12_valueAction) := gd 2077 (by decide +kernel) rfl
theorem ln_RL_317 : Gd (.methodLink RL 317 yL_bestGain) := gd 1282 (by decide +kernel) rfl
theorem ln_RL_319 : Gd (.methodLink RL 319 yX12_bestGain) := gd 2081 (by decide +kernel) rfl
theorem ln_RL_320 : Gd (.methodLink RL 320 yL_bestAction) := gd 1327 (by decide +kernel) rfl
theorem ln_RL_322 : Gd (.methodLink RL 322 yX12_bestAction) := gd 2122 (by decide +kernel) rfl
theorem ln_RL_323 : Gd (.methodLink RL 323 yL_pureSets) := gd 1335 (by decide +kernel) rfl
theorem ln_RL_325 : Gd (.methodLink RL 325 yX12_pureSets) := gd 2126 (by decide +kernel) rfl
theorem ln_RL_326 : Gd (.methodLink RL 326 yL_worth) := gd 1346 (by decide +kernel) rfl
theorem ln_RL_328 : Gd (.methodLink RL 328 yX12_worth) := gd 2130 (by decide +kernel) rfl
theorem ln_RL_329 : Gd (.methodLink RL 329 yL_leastLimit) := gd 1353 (by decide +kernel) rfl
theorem ln_RL_331 : Gd (.methodLink RL 331 yX12_leastLimit) := gd 2135 (by decide +kernel) rfl
theorem ln_RL_332 : Gd (.methodLink RL 332 yL_bestWeight) := gd 1369 (by decide +kernel) rfl
theorem ln_RL_334 : Gd (.methodLink RL 334 yX12_bestWeight) := gd 2140 (by decide +kernel) rfl
theorem ln_RL_335 : Gd (.methodLink RL 335 yL_seed) := gd 1379 (by decide +kernel) rfl
theorem ln_RL_337 : Gd (.methodLink RL 337 yX12_seed) := gd 2144 (by decide +kernel) rfl
theorem ln_RL_338 : Gd (.methodLink RL 338 yL_walked) := gd 1386 (by decide +kernel) rfl
theorem ln_RL_340 : Gd (.methodLink RL 340 yX12_walked) := gd 2148 (by decide +kernel) rfl
theorem ln_RL_341 : Gd (.methodLink RL 341 yL_walkedBy) := gd 1398 (by decide +kernel) rfl
theorem ln_RL_343 : Gd (.methodLink RL 343 yX12_walkedBy) := gd 2156 (by decide +kernel) rfl
theorem ln_RL_344 : Gd (.methodLink RL 344 yL_walkGain) := gd 1405 (by decide +kernel) rfl
theorem ln_RL_346 : Gd (.methodLink RL 346 yX12_walkGain) := gd 2160 (by decide +kernel) rfl
theorem ln_RL_347 : Gd (.methodLink RL 347 yL_walkUsed) := gd 1417 (by decide +kernel) rfl
theorem ln_RL_349 : Gd (.methodLink RL 349 yX12_walkUsed) := gd 2168 (by decide +kernel) rfl
theorem ln_RL_350 : Gd (.methodLink RL 350 yL_gainOfWalks) := gd 1424 (by decide +kernel) rfl
theorem ln_RL_352 : Gd (.methodLink RL 352 yX12_gainOfWalks) := gd 2172 (by decide +kernel) rfl
theorem ln_RL_353 : Gd (.methodLink RL 353 yL_report) := gd 1453 (by decide +kernel) rfl
theorem ln_RL_355 : Gd (.methodLink RL 355 yX12_report) := gd 2193 (by decide +kernel) rfl
theorem ln_RL_356 : Gd (.methodLink RL 356 yL_reportByte) := gd 1473 (by decide +kernel) rfl
theorem ln_RL_358 : Gd (.methodLink RL 358 yX12_reportByte) := gd 2206 (by decide +kernel) rfl
theorem ln_RL_359 : Gd (.methodLink RL 359 yL_setRule) := gd 1481 (by decide +kernel) rfl
theorem ln_RL_362 : Gd (.methodLink RL 362 yX12_setRule) := gd 2210 (by decide +kernel) rfl
theorem ln_RL_363 : Gd (.methodLink RL 363 yL_takeBest) := gd 1498 (by decide +kernel) rfl
theorem ln_RL_365 : Gd (.methodLink RL 365 yX12_takeBest) := gd 2221 (by decide +kernel) rfl
theorem ln_RL_366 : Gd (.methodLink RL 366 yL_permit) := gd 1507 (by decide +kernel) rfl
theorem ln_RL_369 : Gd (.methodLink RL 369 yX12_permit) := gd 2225 (by decide +kernel) rfl
theorem ln_RL_370 : Gd (.methodLink RL 370 yL_setLimit) := gd 1515 (by decide +kernel) rfl
theorem ln_RL_372 : Gd (.methodLink RL 372 yX12_setLimit) := gd 2233 (by decide +kernel) rfl
theorem ln_RL_373 : Gd (.methodLink RL 373 yL_setStart) := gd 1522 (by decide +kernel) rfl
theorem ln_RL_375 : Gd (.methodLink RL 375 yX12_setStart) := gd 2237 (by decide +kernel) rfl
theorem ln_RL_376 : Gd (.methodLink RL 376 yL_setHorizon) := gd 1529 (by decide +kernel) rfl
theorem ln_RL_378 : Gd (.methodLink RL 378 yX12_setHorizon) := gd 2241 (by decide +kernel) rfl
theorem ln_RL_379 : Gd (.methodLink RL 379 yL_walk) := gd 1536 (by decide +kernel) rfl
theorem ln_RL_381 : Gd (.methodLink RL 381 yX12_walk) := gd 2245 (by decide +kernel) rfl
theorem ln_RL_382 : Gd (.methodLink RL 382 yL_undo) := gd 1544 (by decide +kernel) rfl
theorem ln_RL_384 : Gd (.methodLink RL 384 yX12_undo) := gd 2249 (by decide +kernel) rfl
theorem ln_RL_385 : Gd (.methodLink RL 385 yX11_undoable) := gd 578 (by decide +kernel) rfl
theorem ln_RL_388 : Gd (.methodLink RL 388 yX12_undoable) := gd 1844 (by decide +kernel) rfl
theorem ln_RL_389 : Gd (.methodLink RL 389 yL_save) := gd 1556 (by decide +kernel) rfl
theorem ln_RL_391 : Gd (.methodLink RL 391 yX12_save) := gd 2253 (by decide +kernel) rfl
theorem ln_RL_392 : Gd (.methodLink RL 392 yL_restore) := gd 1571 (by decide +kernel) rfl
theorem ln_RL_394 : Gd (.methodLink RL 394 yX12_restore) := gd 2257 (by decide +kernel) rfl
theorem mw_X11_append : MW yX11_append cX11_append 6 (some .int) 5 := ⟨gd 123 (by decide +kernel) rfl, gd 545 (by decide +kernel) rfl, ⟨by decide, by decide⟩, by decide +kernel⟩
theorem mw_X11_budgets : MW yX11_budgets cX11_budgets 1 (some .int) 0 := ⟨gd 123 (by decide +kernel) rfl, gd 573 (by decide +kernel) rfl, ⟨by decide, by decide⟩, by decide +kernel⟩
theorem mw_X11_buffered : MW yX11_buffered cX11_buffered 1 (some .int) 0 := ⟨gd 123 (by decide +kernel) rfl, gd 565 (by decide +kernel) rfl, ⟨by decide, by decide⟩, by decide +kernel⟩
theorem mw_X11_errorPosition : MW yX11_errorPosition cX11_errorPosition 1 (some .int) 0 := ⟨gd 123 (by decide +kernel) rfl, gd 561 (by decide +kernel) rfl, ⟨by decide, by decide⟩, by decide +kernel⟩
theorem mw_X11_horizon : MW yX11_horizon cX11_horizon 1 (some .int) 0 := ⟨gd 123 (by decide +kernel) rfl, gd 577 (by decide +kernel) rfl, ⟨by decide, by decide⟩, by decide +kernel⟩
theorem mw_X11_parseError : MW yX11_parseError cX11_parseError 1 (some .int) 0 := ⟨gd 123 (by decide +kernel) rfl, gd 557 (by decide +kernel) rfl, ⟨by decide, by decide⟩, by decide +kernel⟩
theorem mw_X11_states : MW yX11_states cX11_states 1 (some .int) 0 := ⟨gd 123 (by decide +kernel) rfl, gd 569 (by decide +kernel) rfl, ⟨by decide, by decide⟩, by decide +kernel⟩
theorem mw_X11_undoable : MW yX11_undoable cX11_undoable 1 (some .int) 0 := ⟨gd 123 (by decide +kernel) rfl, gd 581 (by decide +kernel) rfl, ⟨by decide, by decide⟩, by decide +kernel⟩
theorem mw_X12_actions : MW yX12_actions cX12_actions 2 (some .int) 1 := ⟨gd 135 (by decide +kernel) rfl, gd 1859 (by decide +kernel) rfl, ⟨by decide, by decide⟩, by decide +kernel⟩
theorem mw_X12_append : MW yX12_append cX12_append 8 (some .int) 5 := ⟨gd 135 (by decide +kernel) rfl, gd 1698 (by decide +kernel) rfl, ⟨by decide, by decide⟩, by decide +kernel⟩
theorem mw_X12_bestAction : MW yX12_bestAction cX12_bestAction 2 (some .int) 1 := ⟨gd 135 (by decide +kernel) rfl, gd 2125 (by decide +kernel) rfl, ⟨by decide, by decide⟩, by decide +kernel⟩
theorem mw_X12_bestGain : MW yX12_bestGain cX12_bestGain 1 (some .long) 0 := ⟨gd 135 (by decide +kernel) rfl, gd 2084 (by decide +kernel) rfl, ⟨by decide, by decide⟩, by decide +kernel⟩
theorem mw_X12_bestWeight : MW yX12_bestWeight cX12_bestWeight 8 (some .int) 3 := ⟨gd 135 (by decide +kernel) rfl, gd 2143 (by decide +kernel) rfl, ⟨by decide, by decide⟩, by decide +kernel⟩
theorem mw_X12_broken : MW yX12_broken cX12_broken 1 (some .int) 0 := ⟨gd 135 (by decide +kernel) rfl, gd 2007 (by decide +kernel) rfl, ⟨by decide, by decide⟩, by decide +kernel⟩
theorem mw_X12_budgets : MW yX12_budgets cX12_budgets 1 (some .int) 0 := ⟨gd 135 (by decide +kernel) rfl, gd 1839 (by decide +kernel) rfl, ⟨by decide, by decide⟩, by decide +kernel⟩
theorem mw_X12_buffered : MW yX12_buffered cX12_buffered 1 (some .int) 0 := ⟨gd 135 (by decide +kernel) rfl, gd 1702 (by decide +kernel) rfl, ⟨by decide, by decide⟩, by decide +kernel⟩
theorem mw_X12_busiest : MW yX12_busiest cX12_busiest 6 (some .int) 1 := ⟨gd 135 (by decide +kernel) rfl, gd 2015 (by decide +kernel) rfl, ⟨by decide, by decide⟩, by decide +kernel⟩
theorem mw_X12_errorPosition : MW yX12_errorPosition cX12_errorPosition 1 (some .int) 0 := ⟨gd 135 (by decide +kernel) rfl, gd 1710 (by decide +kernel) rfl, ⟨by decide, by decide⟩, by decide +kernel⟩
theorem mw_X12_firstTime : MW yX12_firstTime cX12_firstTime 3 (some .int) 1 := ⟨gd 135 (by decide +kernel) rfl, gd 2023 (by decide +kernel) rfl, ⟨by decide, by decide⟩, by decide +kernel⟩
theorem mw_X12_flow : MW yX12_flow cX12_flow 3 (some .long) 2 := ⟨gd 135 (by decide +kernel) rfl, gd 1955 (by decide +kernel) rfl, ⟨by decide, by decide⟩, by decide +kernel⟩
theorem mw_X12_gain : MW yX12_gain cX12_gain 3 (some .int) 2 := ⟨gd 135 (by decide +kernel) rfl, gd 1871 (by decide +kernel) rfl, ⟨by decide, by decide⟩, by decide +kernel⟩
theorem mw_X12_gainOfRun : MW yX12_gainOfRun cX12_gainOfRun 1 (some .long) 0 := ⟨gd 135 (by decide +kernel) rfl, gd 1987 (by decide +kernel) rfl, ⟨by decide, by decide⟩, by decide +kernel⟩
theorem mw_X12_gainOfWalks : MW yX12_gainOfWalks cX12_gainOfWalks 4 (some .int) 1 := ⟨gd 135 (by decide +kernel) rfl, gd 2175 (by decide +kernel) rfl, ⟨by decide, by decide⟩, by decide +kernel⟩
theorem mw_X12_hit : MW yX12_hit cX12_hit 2 (some .long) 1 := ⟨gd 135 (by decide +kernel) rfl, gd 1974 (by decide +kernel) rfl, ⟨by decide, by decide⟩, by decide +kernel⟩
theorem mw_X12_horizon : MW yX12_horizon cX12_horizon 1 (some .int) 0 := ⟨gd 135 (by decide +kernel) rfl, gd 1843 (by decide +kernel) rfl, ⟨by decide, by decide⟩, by decide +kernel⟩
theorem mw_X12_isClosed : MW yX12_isClosed cX12_isClosed 4 (some .boolean) 1 := ⟨gd 135 (by decide +kernel) rfl, gd 1951 (by decide +kernel) rfl, ⟨by decide, by decide⟩, by decide +kernel⟩
theorem mw_X12_isPermitted : MW yX12_isPermitted cX12_isPermitted 3 (some .boolean) 2 := ⟨gd 135 (by decide +kernel) rfl, gd 1915 (by decide +kernel) rfl, ⟨by decide, by decide⟩, by decide +kernel⟩
theorem mw_X12_leastLimit : MW yX12_leastLimit cX12_leastLimit 9 (some .int) 1 := ⟨gd 135 (by decide +kernel) rfl, gd 2138 (by decide +kernel) rfl, ⟨by decide, by decide⟩, by decide +kernel⟩
theorem mw_X12_left : MW yX12_left cX12_left 2 (some .long) 1 := ⟨gd 135 (by decide +kernel) rfl, gd 1999 (by decide +kernel) rfl, ⟨by decide, by decide⟩, by decide +kernel⟩
theorem mw_X12_likeliest : MW yX12_likeliest cX12_likeliest 1 (some .long) 0 := ⟨gd 135 (by decide +kernel) rfl, gd 2051 (by decide +kernel) rfl, ⟨by decide, by decide⟩, by decide +kernel⟩
theorem mw_X12_likeliestAt : MW yX12_likeliestAt cX12_likeliestAt 5 (some .int) 1 := ⟨gd 135 (by decide +kernel) rfl, gd 2059 (by decide +kernel) rfl, ⟨by decide, by decide⟩, by decide +kernel⟩
theorem mw_X12_limit : MW yX12_limit cX12_limit 2 (some .int) 1 := ⟨gd 135 (by decide +kernel) rfl, gd 1923 (by decide +kernel) rfl, ⟨by decide, by decide⟩, by decide +kernel⟩
theorem mw_X12_load : MW yX12_load cX12_load 3 (some .int) 1 := ⟨gd 135 (by decide +kernel) rfl, gd 1714 (by decide +kernel) rfl, ⟨by decide, by decide⟩, by decide +kernel⟩
theorem mw_X12_meanGain : MW yX12_meanGain cX12_meanGain 1 (some .float) 0 := ⟨gd 135 (by decide +kernel) rfl, gd 2019 (by decide +kernel) rfl, ⟨by decide, by decide⟩, by decide +kernel⟩
theorem mw_X12_mostUsed : MW yX12_mostUsed cX12_mostUsed 3 (some .int) 1 := ⟨gd 135 (by decide +kernel) rfl, gd 2047 (by decide +kernel) rfl, ⟨by decide, by decide⟩, by decide +kernel⟩
theorem mw_X12_parseError : MW yX12_parseError cX12_parseError 1 (some .int) 0 := ⟨gd 135 (by decide +kernel) rfl, gd 1706 (by decide +kernel) rfl, ⟨by decide, by decide⟩, by decide +kernel⟩
theorem mw_X12_percent : MW yX12_percent cX12_percent 4 (some .int) 3 := ⟨gd 135 (by decide +kernel) rfl, gd 1899 (by decide +kernel) rfl, ⟨by decide, by decide⟩, by decide +kernel⟩
theorem mw_X12_permit : MW yX12_permit cX12_permit 5 (some .boolean) 3 := ⟨gd 135 (by decide +kernel) rfl, gd 2228 (by decide +kernel) rfl, ⟨by decide, by decide⟩, by decide +kernel⟩
theorem mw_X12_pureSets : MW yX12_pureSets cX12_pureSets 1 (some .int) 0 := ⟨gd 135 (by decide +kernel) rfl, gd 2129 (by decide +kernel) rfl, ⟨by decide, by decide⟩, by decide +kernel⟩
theorem mw_X12_reach : MW yX12_reach cX12_reach 2 (some .int) 1 := ⟨gd 135 (by decide +kernel) rfl, gd 1931 (by decide +kernel) rfl, ⟨by decide, by decide⟩, by decide +kernel⟩
theorem mw_X12_report : MW yX12_report cX12_report 4 (some .int) 1 := ⟨gd 135 (by decide +kernel) rfl, gd 2196 (by decide +kernel) rfl, ⟨by decide, by decide⟩, by decide +kernel⟩
theorem mw_X12_reportByte : MW yX12_reportByte cX12_reportByte 2 (some .int) 1 := ⟨gd 135 (by decide +kernel) rfl, gd 2209 (by decide +kernel) rfl, ⟨by decide, by decide⟩, by decide +kernel⟩
theorem mw_X12_restore : MW yX12_restore cX12_restore 2 (some .int) 1 := ⟨gd 135 (by decide +kernel) rfl, gd 2260 (by decide +kernel) rfl, ⟨by decide, by decide⟩, by decide +kernel⟩
theorem mw_X12_save : MW yX12_save cX12_save 2 (some .int) 1 := ⟨gd 135 (by decide +kernel) rfl, gd 2256 (by decide +kernel) rfl, ⟨by decide, by decide⟩, by decide +kernel⟩
theorem mw_X12_seed : MW yX12_seed cX12_seed 1 (some .int) 0 := ⟨gd 135 (by decide +kernel) rfl, gd 2147 (by decide +kernel) rfl, ⟨by decide, by decide⟩, by decide +kernel⟩
theorem mw_X12_setHorizon : MW yX12_setHorizon cX12_setHorizon 3 (some .int) 1 := ⟨gd 135 (by decide +kernel) rfl, gd 2244 (by decide +kernel) rfl, ⟨by decide, by decide⟩, by decide +kernel⟩
theorem mw_X12_setLimit : MW yX12_setLimit cX12_setLimit 4 (some .int) 2 := ⟨gd 135 (by decide +kernel) rfl, gd 2236 (by decide +kernel) rfl, ⟨by decide, by decide⟩, by decide +kernel⟩
theorem mw_X12_setRule : MW yX12_setRule cX12_setRule 6 (some .int) 4 := ⟨gd 135 (by decide +kernel) rfl, gd 2213 (by decide +kernel) rfl, ⟨by decide, by decide⟩, by decide +kernel⟩
theorem mw_X12_setStart : MW yX12_setStart cX12_setStart 3 (some .int) 1 := ⟨gd 135 (by decide +kernel) rfl, gd 2240 (by decide +kernel) rfl, ⟨by decide, by decide⟩, by decide +kernel⟩
theorem mw_X12_start : MW yX12_start cX12_start 1 (some .int) 0 := ⟨gd 135 (by decide +kernel) rfl, gd 1851 (by decide +kernel) rfl, ⟨by decide, by decide⟩, by decide +kernel⟩
theorem mw_X12_states : MW yX12_states cX12_states 1 (some .int) 0 := ⟨gd 135 (by decide +kernel) rfl, gd 1831 (by decide +kernel) rfl, ⟨by decide, by decide⟩, by decide +kernel⟩
theorem mw_X12_takeBest : MW yX12_takeBest cX12_takeBest 3 (some .int) 0 := ⟨gd 135 (by decide +kernel) rfl, gd 2224 (by decide +kernel) rfl, ⟨by decide, by decide⟩, by decide +kernel⟩
theorem mw_X12_thrown : MW yX12_thrown cX12_thrown 1 (some .int) 0 := ⟨gd 135 (by decide +kernel) rfl, gd 1694 (by decide +kernel) rfl, ⟨by decide, by decide⟩, by decide +kernel⟩
theorem mw_X12_undo : MW yX12_undo cX12_undo 1 (some .int) 0 := ⟨gd 135 (by decide +kernel) rfl, gd 2252 (by decide +kernel) rfl, ⟨by decide, by decide⟩, by decide +kernel⟩
theorem mw_X12_undoable : MW yX12_undoable cX12_undoable 1 (some .int) 0 := ⟨gd 135 (by decide +kernel) rfl, gd 1847 (by decide +kernel) rfl, ⟨by decide, by decide⟩, by decide +kernel⟩
theorem mw_X12_unit : MW yX12_unit cX12_unit 1 (some .long) 0 := ⟨gd 135 (by decide +kernel) rfl, gd 1978 (by decide +kernel) rfl, ⟨by decide, by decide⟩, by decide +kernel⟩
theorem mw_X12_use : MW yX12_use cX12_use 4 (some .long) 3 := ⟨gd 135 (by decide +kernel) rfl, gd 1959 (by decide +kernel) rfl, ⟨by decide, by decide⟩, by decide +kernel⟩
theorem mw_X12_usedOfRun : MW yX12_usedOfRun cX12_usedOfRun 2 (some .long) 1 := ⟨gd 135 (by decide +kernel) rfl, gd 1995 (by decide +kernel) rfl, ⟨by decide, by decide⟩, by decide +kernel⟩
theorem mw_X12_uses : MW yX12_uses cX12_uses 4 (some .int) 3 := ⟨gd 135 (by decide +kernel) rfl, gd 1887 (by decide +kernel) rfl, ⟨by decide, by decide⟩, by decide +kernel⟩
theorem mw_X12_value : MW yX12_value cX12_value 3 (some .long) 2 := ⟨gd 135 (by decide +kernel) rfl, gd 2063 (by decide +kernel) rfl, ⟨by decide, by decide⟩, by decide +kernel⟩
theorem mw_X12_valueAction : MW yX12_valueAction cX12_valueAction 3 (some .int) 2 := ⟨gd 135 (by decide +kernel) rfl, gd 2080 (by decide +kernel) rfl, ⟨by decide, by decide⟩, by decide +kernel⟩
theorem mw_X12_visits : MW yX12_visits cX12_visits 2 (some .long) 1 := ⟨gd 135 (by decide +kernel) rfl, gd 1963 (by decide +kernel) rfl, ⟨by decide, by decide⟩, by decide +kernel⟩
theorem mw_X12_walk : MW yX12_walk cX12_walk 1 (some .int) 0 := ⟨gd 135 (by decide +kernel) rfl, gd 2248 (by decide +kernel) rfl, ⟨by decide, by decide⟩, by decide +kernel⟩
theorem mw_X12_walkGain : MW yX12_walkGain cX12_walkGain 1 (some .int) 0 := ⟨gd 135 (by decide +kernel) rfl, gd 2163 (by decide +kernel) rfl, ⟨by decide, by decide⟩, by decide +kernel⟩
theorem mw_X12_walkUsed : MW yX12_walkUsed cX12_walkUsed 2 (some .int) 1 := ⟨gd 135 (by decide +kernel) rfl, gd 2171 (by decide +kernel) rfl, ⟨by decide, by decide⟩, by decide +kernel⟩
theorem mw_X12_walked : MW yX12_walked cX12_walked 2 (some .int) 1 := ⟨gd 135 (by decide +kernel) rfl, gd 2151 (by decide +kernel) rfl, ⟨by decide, by decide⟩, by decide +kernel⟩
theorem mw_X12_walkedBy : MW yX12_walkedBy cX12_walkedBy 2 (some .int) 1 := ⟨gd 135 (by decide +kernel) rfl, gd 2159 (by decide +kernel) rfl, ⟨by decide, by decide⟩, by decide +kernel⟩
theorem mw_X12_weight : MW yX12_weight cX12_weight 3 (some .int) 2 := ⟨gd 135 (by decide +kernel) rfl, gd 1907 (by decide +kernel) rfl, ⟨by decide, by decide⟩, by decide +kernel⟩
theorem mw_X12_within : MW yX12_within cX12_within 5 (some .long) 1 := ⟨gd 135 (by decide +kernel) rfl, gd 2027 (by decide +kernel) rfl, ⟨by decide, by decide⟩, by decide +kernel⟩
theorem mw_X12_worth : MW yX12_worth cX12_worth 7 (some .long) 2 := ⟨gd 135 (by decide +kernel) rfl, gd 2133 (by decide +kernel) rfl, ⟨by decide, by decide⟩, by decide +kernel⟩
theorem mi_X11_append : (Gd (.instanceMethod yX11_append) ∧ Gd (.selects yX11_append.cls yX11_append yX11_append)) := ⟨gd 543 (by decide +kernel) rfl, gd 544 (by decide +kernel) rfl⟩
theorem mi_X11_budgets : (Gd (.instanceMethod yX11_budgets) ∧ Gd (.selects yX11_budgets.cls yX11_budgets yX11_budgets)) := ⟨gd 571 (by decide +kernel) rfl, gd 572 (by decide +kernel) rfl⟩
theorem mi_X11_buffered : (Gd (.instanceMethod yX11_buffered) ∧ Gd (.selects yX11_buffered.cls yX11_buffered yX11_buffered)) := ⟨gd 563 (by decide +kernel) rfl, gd 564 (by decide +kernel) rfl⟩
theorem mi_X11_errorPosition : (Gd (.instanceMethod yX11_errorPosition) ∧ Gd (.selects yX11_errorPosition.cls yX11_errorPosition yX11_errorPosition)) := ⟨gd 559 (by decide +kernel) rfl, gd 560 (by decide +kernel) rfl⟩
theorem mi_X11_horizon : (Gd (.instanceMethod yX11_horizon) ∧ Gd (.selects yX11_horizon.cls yX11_horizon yX11_horizon)) := ⟨gd 575 (by decide +kernel) rfl, gd 576 (by decide +kernel) rfl⟩
theorem mi_X11_parseError : (Gd (.instanceMethod yX11_parseError) ∧ Gd (.selects yX11_parseError.cls yX11_parseError yX11_parseError)) := ⟨gd 555 (by decide +kernel) rfl, gd 556 (by decide +kernel) rfl⟩
theorem mi_X11_states : (Gd (.instanceMethod yX11_states) ∧ Gd (.selects yX11_states.cls yX11_states yX11_states)) := ⟨gd 567 (by decide +kernel) rfl, gd 568 (by decide +kernel) rfl⟩
theorem mi_X11_undoable : (Gd (.instanceMethod yX11_undoable) ∧ Gd (.selects yX11_undoable.cls yX11_undoable yX11_undoable)) := ⟨gd 579 (by decide +kernel) rfl, gd 580 (by decide +kernel) rfl⟩
theorem mi_X12_actions : (Gd (.instanceMethod yX12_actions) ∧ Gd (.selects yX12_actions.cls yX12_actions yX12_actions)) := ⟨gd 1857 (by decide +kernel) rfl, gd 1858 (by decide +kernel) rfl⟩
theorem mi_X12_append : (Gd (.instanceMethod yX12_append) ∧ Gd (.selects yX12_append.cls yX12_append yX12_append)) := ⟨gd 1696 (by decide +kernel) rfl, gd 1697 (by decide +kernel) rfl⟩
theorem mi_X12_bestAction : (Gd (.instanceMethod yX12_bestAction) ∧ Gd (.selects yX12_bestAction.cls yX12_bestAction yX12_bestAction)) := ⟨gd 2123 (by decide +kernel) rfl, gd 2124 (by decide +kernel) rfl⟩
theorem mi_X12_bestGain : (Gd (.instanceMethod yX12_bestGain) ∧ Gd (.selects yX12_bestGain.cls yX12_bestGain yX12_bestGain)) := ⟨gd 2082 (by decide +kernel) rfl, gd 2083 (by decide +kernel) rfl⟩
theorem mi_X12_bestWeight : (Gd (.instanceMethod yX12_bestWeight) ∧ Gd (.selects yX12_bestWeight.cls yX12_bestWeight yX12_bestWeight)) := ⟨gd 2141 (by decide +kernel) rfl, gd 2142 (by decide +kernel) rfl⟩
theorem mi_X12_broken : (Gd (.instanceMethod yX12_broken) ∧ Gd (.selects yX12_broken.cls yX12_broken yX12_broken)) := ⟨gd 2005 (by decide +kernel) rfl, gd 2006 (by decide +kernel) rfl⟩
theorem mi_X12_budgets : (Gd (.instanceMethod yX12_budgets) ∧ Gd (.selects yX12_budgets.cls yX12_budgets yX12_budgets)) := ⟨gd 1837 (by decide +kernel) rfl, gd 1838 (by decide +kernel) rfl⟩
theorem mi_X12_buffered : (Gd (.instanceMethod yX12_buffered) ∧ Gd (.selects yX12_buffered.cls yX12_buffered yX12_buffered)) := ⟨gd 1700 (by decide +kernel) rfl, gd 1701 (by decide +kernel) rfl⟩
theorem mi_X12_busiest : (Gd (.instanceMethod yX12_busiest) ∧ Gd (.selects yX12_busiest.cls yX12_busiest yX12_busiest)) := ⟨gd 2013 (by decide +kernel) rfl, gd 2014 (by decide +kernel) rfl⟩
theorem mi_X12_errorPosition : (Gd (.instanceMethod yX12_errorPosition) ∧ Gd (.selects yX12_errorPosition.cls yX12_errorPosition yX12_errorPosition)) := ⟨gd 1708 (by decide +kernel) rfl, gd 1709 (by decide +kernel) rfl⟩
theorem mi_X12_firstTime : (Gd (.instanceMethod yX12_firstTime) ∧ Gd (.selects yX12_firstTime.cls yX12_firstTime yX12_firstTime)) := ⟨gd 2021 (by decide +kernel) rfl, gd 2022 (by decide +kernel) rfl⟩
theorem mi_X12_flow : (Gd (.instanceMethod yX12_flow) ∧ Gd (.selects yX12_flow.cls yX12_flow yX12_flow)) := ⟨gd 1953 (by decide +kernel) rfl, gd 1954 (by decide +kernel) rfl⟩
theorem mi_X12_gain : (Gd (.instanceMethod yX12_gain) ∧ Gd (.selects yX12_gain.cls yX12_gain yX12_gain)) := ⟨gd 1869 (by decide +kernel) rfl, gd 1870 (by decide +kernel) rfl⟩
theorem mi_X12_gainOfRun : (Gd (.instanceMethod yX12_gainOfRun) ∧ Gd (.selects yX12_gainOfRun.cls yX12_gainOfRun yX12_gainOfRun)) := ⟨gd 1985 (by decide +kernel) rfl, gd 1986 (by decide +kernel) rfl⟩
theorem mi_X12_gainOfWalks : (Gd (.instanceMethod yX12_gainOfWalks) ∧ Gd (.selects yX12_gainOfWalks.cls yX12_gainOfWalks yX12_gainOfWalks)) := ⟨gd 2173 (by decide +kernel) rfl, gd 2174 (by decide +kernel) rfl⟩
theorem mi_X12_hit : (Gd (.instanceMethod yX12_hit) ∧ Gd (.selects yX12_hit.cls yX12_hit yX12_hit)) := ⟨gd 1972 (by decide +kernel) rfl, gd 1973 (by decide +kernel) rfl⟩
theorem mi_X12_horizon : (Gd (.instanceMethod yX12_horizon) ∧ Gd (.selects yX12_horizon.cls yX12_horizon yX12_horizon)) := ⟨gd 1841 (by decide +kernel) rfl, gd 1842 (by decide +kernel) rfl⟩
theorem mi_X12_isClosed : (Gd (.instanceMethod yX12_isClosed) ∧ Gd (.selects yX12_isClosed.cls yX12_isClosed yX12_isClosed)) := ⟨gd 1949 (by decide +kernel) rfl, gd 1950 (by decide +kernel) rfl⟩
theorem mi_X12_isPermitted : (Gd (.instanceMethod yX12_isPermitted) ∧ Gd (.selects yX12_isPermitted.cls yX12_isPermitted yX12_isPermitted)) := ⟨gd 1913 (by decide +kernel) rfl, gd 1914 (by decide +kernel) rfl⟩
theorem mi_X12_leastLimit : (Gd (.instanceMethod yX12_leastLimit) ∧ Gd (.selects yX12_leastLimit.cls yX12_leastLimit yX12_leastLimit)) := ⟨gd 2136 (by decide +kernel) rfl, gd 2137 (by decide +kernel) rfl⟩
theorem mi_X12_left : (Gd (.instanceMethod yX12_left) ∧ Gd (.selects yX12_left.cls yX12_left yX12_left)) := ⟨gd 1997 (by decide +kernel) rfl, gd 1998 (by decide +kernel) rfl⟩
theorem mi_X12_likeliest : (Gd (.instanceMethod yX12_likeliest) ∧ Gd (.selects yX12_likeliest.cls yX12_likeliest yX12_likeliest)) := ⟨gd 2049 (by decide +kernel) rfl, gd 2050 (by decide +kernel) rfl⟩
theorem mi_X12_likeliestAt : (Gd (.instanceMethod yX12_likeliestAt) ∧ Gd (.selects yX12_likeliestAt.cls yX12_likeliestAt yX12_likeliestAt)) := ⟨gd 2057 (by decide +kernel) rfl, gd 2058 (by decide +kernel) rfl⟩
theorem mi_X12_limit : (Gd (.instanceMethod yX12_limit) ∧ Gd (.selects yX12_limit.cls yX12_limit yX12_limit)) := ⟨gd 1921 (by decide +kernel) rfl, gd 1922 (by decide +kernel) rfl⟩
theorem mi_X12_load : (Gd (.instanceMethod yX12_load) ∧ Gd (.selects yX12_load.cls yX12_load yX12_load)) := ⟨gd 1712 (by decide +kernel) rfl, gd 1713 (by decide +kernel) rfl⟩
theorem mi_X12_meanGain : (Gd (.instanceMethod yX12_meanGain) ∧ Gd (.selects yX12_meanGain.cls yX12_meanGain yX12_meanGain)) := ⟨gd 2017 (by decide +kernel) rfl, gd 2018 (by decide +kernel) rfl⟩
theorem mi_X12_mostUsed : (Gd (.instanceMethod yX12_mostUsed) ∧ Gd (.selects yX12_mostUsed.cls yX12_mostUsed yX12_mostUsed)) := ⟨gd 2045 (by decide +kernel) rfl, gd 2046 (by decide +kernel) rfl⟩
theorem mi_X12_parseError : (Gd (.instanceMethod yX12_parseError) ∧ Gd (.selects yX12_parseError.cls yX12_parseError yX12_parseError)) := ⟨gd 1704 (by decide +kernel) rfl, gd 1705 (by decide +kernel) rfl⟩
theorem mi_X12_percent : (Gd (.instanceMethod yX12_percent) ∧ Gd (.selects yX12_percent.cls yX12_percent yX12_percent)) := ⟨gd 1897 (by decide +kernel) rfl, gd 1898 (by decide +kernel) rfl⟩
theorem mi_X12_permit : (Gd (.instanceMethod yX12_permit) ∧ Gd (.selects yX12_permit.cls yX12_permit yX12_permit)) := ⟨gd 2226 (by decide +kernel) rfl, gd 2227 (by decide +kernel) rfl⟩
theorem mi_X12_pureSets : (Gd (.instanceMethod yX12_pureSets) ∧ Gd (.selects yX12_pureSets.cls yX12_pureSets yX12_pureSets)) := ⟨gd 2127 (by decide +kernel) rfl, gd 2128 (by decide +kernel) rfl⟩
theorem mi_X12_reach : (Gd (.instanceMethod yX12_reach) ∧ Gd (.selects yX12_reach.cls yX12_reach yX12_reach)) := ⟨gd 1929 (by decide +kernel) rfl, gd 1930 (by decide +kernel) rfl⟩
theorem mi_X12_report : (Gd (.instanceMethod yX12_report) ∧ Gd (.selects yX12_report.cls yX12_report yX12_report)) := ⟨gd 2194 (by decide +kernel) rfl, gd 2195 (by decide +kernel) rfl⟩
theorem mi_X12_reportByte : (Gd (.instanceMethod yX12_reportByte) ∧ Gd (.selects yX12_reportByte.cls yX12_reportByte yX12_reportByte)) := ⟨gd 2207 (by decide +kernel) rfl, gd 2208 (by decide +kernel) rfl⟩
theorem mi_X12_restore : (Gd (.instanceMethod yX12_restore) ∧ Gd (.selects yX12_restore.cls yX12_restore yX12_restore)) := ⟨gd 2258 (by decide +kernel) rfl, gd 2259 (by decide +kernel) rfl⟩
theorem mi_X12_save : (Gd (.instanceMethod yX12_save) ∧ Gd (.selects yX12_save.cls yX12_save yX12_save)) := ⟨gd 2254 (by decide +kernel) rfl, gd 2255 (by decide +kernel) rfl⟩
theorem mi_X12_seed : (Gd (.instanceMethod yX12_seed) ∧ Gd (.selects yX12_seed.cls yX12_seed yX12_seed)) := ⟨gd 2145 (by decide +kernel) rfl, gd 2146 (by decide +kernel) rfl⟩
theorem mi_X12_setHorizon : (Gd (.instanceMethod yX12_setHorizon) ∧ Gd (.selects yX12_setHorizon.cls yX12_setHorizon yX12_setHorizon)) := ⟨gd 2242 (by decide +kernel) rfl, gd 2243 (by decide +kernel) rfl⟩
theorem mi_X12_setLimit : (Gd (.instanceMethod yX12_setLimit) ∧ Gd (.selects yX12_setLimit.cls yX12_setLimit yX12_setLimit)) := ⟨gd 2234 (by decide +kernel) rfl, gd 2235 (by decide +kernel) rfl⟩
theorem mi_X12_setRule : (Gd (.instanceMethod yX12_setRule) ∧ Gd (.selects yX12_setRule.cls yX12_setRule yX12_setRule)) := ⟨gd 2211 (by decide +kernel) rfl, gd 2212 (by decide +kernel) rfl⟩
theorem mi_X12_setStart : (Gd (.instanceMethod yX12_setStart) ∧ Gd (.selects yX12_setStart.cls yX12_setStart yX12_setStart)) := ⟨gd 2238 (by decide +kernel) rfl, gd 2239 (by decide +kernel) rfl⟩
theorem mi_X12_start : (Gd (.instanceMethod yX12_start) ∧ Gd (.selects yX12_start.cls yX12_start yX12_start)) := ⟨gd 1849 (by decide +kernel) rfl, gd 1850 (by decide +kernel) rfl⟩
theorem mi_X12_states : (Gd (.instanceMethod yX12_states) ∧ Gd (.selects yX12_states.cls yX12_states yX12_states)) := ⟨gd 1829 (by decide +kernel) rfl, gd 1830 (by decide +kernel) rfl⟩
theorem mi_X12_takeBest : (Gd (.instanceMethod yX12_takeBest) ∧ Gd (.selects yX12_takeBest.cls yX12_takeBest yX12_takeBest)) := ⟨gd 2222 (by decide +kernel) rfl, gd 2223 (by decide +kernel) rfl⟩
theorem mi_X12_thrown : (Gd (.instanceMethod yX12_thrown) ∧ Gd (.selects yX12_thrown.cls yX12_thrown yX12_thrown)) := ⟨gd 1692 (by decide +kernel) rfl, gd 1693 (by decide +kernel) rfl⟩
theorem mi_X12_undo : (Gd (.instanceMethod yX12_undo) ∧ Gd (.selects yX12_undo.cls yX12_undo yX12_undo)) := ⟨gd 2250 (by decide +kernel) rfl, gd 2251 (by decide +kernel) rfl⟩
theorem mi_X12_undoable : (Gd (.instanceMethod yX12_undoable) ∧ Gd (.selects yX12_undoable.cls yX12_undoable yX12_undoable)) := ⟨gd 1845 (by decide +kernel) rfl, gd 1846 (by decide +kernel) rfl⟩
theorem mi_X12_unit : (Gd (.instanceMethod yX12_unit) ∧ Gd (.selects yX12_unit.cls yX12_unit yX12_unit)) := ⟨gd 1976 (by decide +kernel) rfl, gd 1977 (by decide +kernel) rfl⟩
theorem mi_X12_use : (Gd (.instanceMethod yX12_use) ∧ Gd (.selects yX12_use.cls yX12_use yX12_use)) := ⟨gd 1957 (by decide +kernel) rfl, gd 1958 (by decide +kernel) rfl⟩
theorem mi_X12_usedOfRun : (Gd (.instanceMethod yX12_usedOfRun) ∧ Gd (.selects yX12_usedOfRun.cls yX12_usedOfRun yX12_usedOfRun)) := ⟨gd 1993 (by decide +kernel) rfl, gd 1994 (by decide +kernel) rfl⟩
theorem mi_X12_uses : (Gd (.instanceMethod yX12_uses) ∧ Gd (.selects yX12_uses.cls yX12_uses yX12_uses)) := ⟨gd 1885 (by decide +kernel) rfl, gd 1886 (by decide +kernel) rfl⟩
theorem mi_X12_value : (Gd (.instanceMethod yX12_value) ∧ Gd (.selects yX12_value.cls yX12_value yX12_value)) := ⟨gd 2061 (by decide +kernel) rfl, gd 2062 (by decide +kernel) rfl⟩
theorem mi_X12_valueAction : (Gd (.instanceMethod yX12_valueAction) ∧ Gd (.selects yX12_valueAction.cls yX12_valueAction yX12_valueAction)) := ⟨gd 2078 (by decide +kernel) rfl, gd 2079 (by decide +kernel) rfl⟩
theorem mi_X12_visits : (Gd (.instanceMethod yX12_visits) ∧ Gd (.selects yX12_visits.cls yX12_visits yX12_visits)) := ⟨gd 1961 (by decide +kernel) rfl, gd 1962 (by decide +kernel) rfl⟩
theorem mi_X12_walk : (Gd (.instanceMethod yX12_walk) ∧ Gd (.selects yX12_walk.cls yX12_walk yX12_walk)) := ⟨gd 2246 (by decide +kernel) rfl, gd 2247 (by decide +kernel) rfl⟩
theorem mi_X12_walkGain : (Gd (.instanceMethod yX12_walkGain) ∧ Gd (.selects yX12_walkGain.cls yX12_walkGain yX12_walkGain)) := ⟨gd 2161 (by decide +kernel) rfl, gd 2162 (by decide +kernel) rfl⟩
theorem mi_X12_walkUsed : (Gd (.instanceMethod yX12_walkUsed) ∧ Gd (.selects yX12_walkUsed.cls yX12_walkUsed yX12_walkUsed)) := ⟨gd 2169 (by decide +kernel) rfl, gd 2170 (by decide +kernel) rfl⟩
theorem mi_X12_walked : (Gd (.instanceMethod yX12_walked) ∧ Gd (.selects yX12_walked.cls yX12_walked yX12_walked)) := ⟨gd 2149 (by decide +kernel) rfl, gd 2150 (by decide +kernel) rfl⟩
theorem mi_X12_walkedBy : (Gd (.instanceMethod yX12_walkedBy) ∧ Gd (.selects yX12_walkedBy.cls yX12_walkedBy yX12_walkedBy)) := ⟨gd 2157 (by decide +kernel) rfl, gd 2158 (by decide +kernel) rfl⟩
theorem mi_X12_weight : (Gd (.instanceMethod yX12_weight) ∧ Gd (.selects yX12_weight.cls yX12_weight yX12_weight)) := ⟨gd 1905 (by decide +kernel) rfl, gd 1906 (by decide +kernel) rfl⟩
theorem mi_X12_within : (Gd (.instanceMethod yX12_within) ∧ Gd (.selects yX12_within.cls yX12_within yX12_within)) := ⟨gd 2025 (by decide +kernel) rfl, gd 2026 (by decide +kernel) rfl⟩
theorem mi_X12_worth : (Gd (.instanceMethod yX12_worth) ∧ Gd (.selects yX12_worth.cls yX12_worth yX12_worth)) := ⟨gd 2131 (by decide +kernel) rfl, gd 2132 (by decide +kernel) rfl⟩
def f_law_0 (Z L : Nat) (xs : Nat → Int32) (M : Mem) (i : Int32) (j : Mem → Option Unit) : Option Unit :=
  rdX xs L (i + (1 : Int32)) (fun v1 => rdX xs L (i + (2 : Int32)) (fun v2 => rdX xs L (i + (3 : Int32)) (fun v3 => rdX xs L (i + (4 : Int32)) (fun v4 => rdX xs L (i + (5 : Int32)) (fun v5 => cl (f_X11_append Z M v1 v2 v3 v4 v5) (fun v6 M7 => rdX xs L (i + (1 : Int32)) (fun v8 => rdX xs L (i + (2 : Int32)) (fun v9 => rdX xs L (i + (3 : Int32)) (fun v10 => rdX xs L (i + (4 : Int32)) (fun v11 => rdX xs L (i + (5 : Int32)) (fun v12 => cl (f_X12_append Z M7 v8 v9 v10 v11 v12) (fun v13 M14 => (if v6 = v13 then j M14 else none)))))))))))))
set_option maxRecDepth 100000 in
theorem c_law_0 {Γ : WC} {X : MX} (hN : HN Γ) (hC : NC Γ) (C : CX Γ X cL_law 9 RL (some .boolean) room_1) {Z b L cb sb : Nat} {xs : Nat → Int32} (hX : SX Γ X b L xs) (hcb : cb + 8 ≤ 601024 ∧ sb + 48 ≤ 7293034) {M : Mem} {i : Int32} {j : Mem → Option Unit} {rM : Unit} (hj : ∀ M1, j M1 = some rM → G Γ X M1 (cb + 8) (sb + 48) [some (.ref b), some (.ref (wad Γ 0)), some (.ref (wad Γ 108)), some (.ref (wad Γ 124)), some (.ref (wad Γ 125)), some (.int i)] [] 3578) (hf : f_law_0 Z L xs M i j = some rM) : G Γ X M cb sb [some (.ref b), some (.ref (wad Γ 0)), some (.ref (wad Γ 108)), some (.ref (wad Γ 124)), some (.ref (wad Γ 125)), some (.int i)] [] 304 := by
  change G Γ X M (cb + 0) (sb + 0) _ _ _
  unfold f_law_0 at hf
  refine x_aload_n C rfl rfl (dkAt dk_L_law_0 28 rfl) 305 rfl ?_
  refine x_aload_n C rfl rfl (dkAt dk_L_law_0 29 rfl) 306 rfl ?_
  refine x_iload C rfl (dkAt dk_L_law_0 30 rfl) 308 rfl ?_
  refine x_iconst C (v := (1 : Int32)) (by decide) (dkAt dk_L_law_0 31 rfl) 309 rfl ?_
  refine x_iadd C (dkAt dk_L_law_0 32 rfl) 310 rfl ?_
  refine x_sld C hX (dkAt dk_L_law_0 33 rfl) 311 rfl hf (fun v1 hf => ?_)
  refine x_aload_n C rfl rfl (dkAt dk_L_law_0 34 rfl) 312 rfl ?_
  refine x_iload C rfl (dkAt dk_L_law_0 35 rfl) 314 rfl ?_
  refine x_iconst C (v := (2 : Int32)) (by decide) (dkAt dk_L_law_0 36 rfl) 315 rfl ?_
  refine x_iadd C (dkAt dk_L_law_0 37 rfl) 316 rfl ?_
  refine x_sld C hX (dkAt dk_L_law_0 38 rfl) 317 rfl hf (fun v2 hf => ?_)
  refine x_aload_n C rfl rfl (dkAt dk_L_law_0 39 rfl) 318 rfl ?_
  refine x_iload C rfl (dkAt dk_L_law_0 40 rfl) 320 rfl ?_
  refine x_iconst C (v := (3 : Int32)) (by decide) (dkAt dk_L_law_0 41 rfl) 321 rfl ?_
  refine x_iadd C (dkAt dk_L_law_0 42 rfl) 322 rfl ?_
  refine x_sld C hX (dkAt dk_L_law_0 43 rfl) 323 rfl hf (fun v3 hf => ?_)
  refine x_aload_n C rfl rfl (dkAt dk_L_law_0 44 rfl) 324 rfl ?_
  refine x_iload C rfl (dkAt dk_L_law_0 45 rfl) 326 rfl ?_
  refine x_iconst C (v := (4 : Int32)) (by decide) (dkAt dk_L_law_0 46 rfl) 327 rfl ?_
  refine x_iadd C (dkAt dk_L_law_0 47 rfl) 328 rfl ?_
  refine x_sld C hX (dkAt dk_L_law_1 0 rfl) 329 rfl hf (fun v4 hf => ?_)
  refine x_aload_n C rfl rfl (dkAt dk_L_law_1 1 rfl) 330 rfl ?_
  refine x_iload C rfl (dkAt dk_L_law_1 2 rfl) 332 rfl ?_
  refine x_iconst C (v := (5 : Int32)) (by decide) (dkAt dk_L_law_1 3 rfl) 333 rfl ?_
  refine x_iadd C (dkAt dk_L_law_1 4 rfl) 334 rfl ?_
  refine x_sld C hX (dkAt dk_L_law_1 5 rfl) 335 rfl hf (fun v5 hf => ?_)
  obtain ⟨v6, M7, h16, hf⟩ := cl_inv hf
  refine x_cVi C (c_X11_append hN h16) mw_X11_append ln_RL_191 mi_X11_append (hN.rc (ci := 11) sh0 rc11) (ro_law hcb (by decide) (by decide) (by decide) (by decide)) rfl rfl (Nat.le_of_ble_eq_true rfl) (dkAt dk_L_law_1 6 rfl) 338 rfl (cb + 0) (sb + 0) rfl rfl ?_
  refine x_aload_n C rfl rfl (dkAt dk_L_law_1 7 rfl) 339 rfl ?_
  refine x_aload_n C rfl rfl (dkAt dk_L_law_1 8 rfl) 340 rfl ?_
  refine x_iload C rfl (dkAt dk_L_law_1 9 rfl) 342 rfl ?_
  refine x_iconst C (v := (1 : Int32)) (by decide) (dkAt dk_L_law_1 10 rfl) 343 rfl ?_
  refine x_iadd C (dkAt dk_L_law_1 11 rfl) 344 rfl ?_
  refine x_sld C hX (dkAt dk_L_law_1 12 rfl) 345 rfl hf (fun v8 hf => ?_)
  refine x_aload_n C rfl rfl (dkAt dk_L_law_1 13 rfl) 346 rfl ?_
  refine x_iload C rfl (dkAt dk_L_law_1 14 rfl) 348 rfl ?_
  refine x_iconst C (v := (2 : Int32)) (by decide) (dkAt dk_L_law_1 15 rfl) 349 rfl ?_
  refine x_iadd C (dkAt dk_L_law_1 16 rfl) 350 rfl ?_
  refine x_sld C hX (dkAt dk_L_law_1 17 rfl) 351 rfl hf (fun v9 hf => ?_)
  refine x_aload_n C rfl rfl (dkAt dk_L_law_1 18 rfl) 352 rfl ?_
  refine x_iload C rfl (dkAt dk_L_law_1 19 rfl) 354 rfl ?_
  refine x_iconst C (v := (3 : Int32)) (by decide) (dkAt dk_L_law_1 20 rfl) 355 rfl ?_
  refine x_iadd C (dkAt dk_L_law_1 21 rfl) 356 rfl ?_
  refine x_sld C hX (dkAt dk_L_law_1 22 rfl) 357 rfl hf (fun v10 hf => ?_)
  refine x_aload_n C rfl rfl (dkAt dk_L_law_1 23 rfl) 358 rfl ?_
  refine x_iload C rfl (dkAt dk_L_law_1 24 rfl) 360 rfl ?_
  refine x_iconst C (v := (4 : Int32)) (by decide) (dkAt dk_L_law_1 25 rfl) 361 rfl ?_
  refine x_iadd C (dkAt dk_L_law_1 26 rfl) 362 rfl ?_
  refine x_sld C hX (dkAt dk_L_law_1 27 rfl) 363 rfl hf (fun v11 hf => ?_)
  refine x_aload_n C rfl rfl (dkAt dk_L_law_1 28 rfl) 364 rfl ?_
  refine x_iload C rfl (dkAt dk_L_law_1 29 rfl) 366 rfl ?_
  refine x_iconst C (v := (5 : Int32)) (by decide) (dkAt dk_L_law_1 30 rfl) 367 rfl ?_
  refine x_iadd C (dkAt dk_L_law_1 31 rfl) 368 rfl ?_
  refine x_sld C hX (dkAt dk_L_law_1 32 rfl) 369 rfl hf (fun v12 hf => ?_)
  obtain ⟨v13, M14, h15, hf⟩ := cl_inv hf
  refine x_cVi C (c_X12_append hN h15) mw_X12_append ln_RL_195 mi_X12_append (hN.rc (ci := 12) sh108 rc12) (ro_law hcb (by decide) (by decide) (by decide) (by decide)) rfl rfl (Nat.le_of_ble_eq_true rfl) (dkAt dk_L_law_1 33 rfl) 372 rfl (cb + 0) (sb + 0) rfl rfl ?_
  refine x_icmp_eq C 3578 (dkAt dk_L_law_1 34 rfl) 375 rfl (by decide) hf (fun hf => ?_) (fun hf => ?_)
  · exact G.weak (L := [some (.ref b), some (.ref (wad Γ 0)), some (.ref (wad Γ 108)), some (.ref (wad Γ 124)), some (.ref (wad Γ 125)), some (.int i)]) ⟨rfl, rfl, rfl, rfl, rfl, rfl, trivial⟩ (G.wide (by omega) (by omega) (hj _ hf))
  · refine x_iconst C (v := (0 : Int32)) (by decide) (dkAt dk_L_law_1 35 rfl) 376 rfl ?_
    exact nomatch hf
def f_law_1 (Z L : Nat) (xs : Nat → Int32) (M : Mem) (i : Int32) (j : Mem → Option Unit) : Option Unit :=
  rdX xs L (i + (1 : Int32)) (fun v1 => cl (f_L_load Z M v1) (fun v2 M3 => rdX xs L (i + (1 : Int32)) (fun v4 => cl (f_X12_load Z M3 v4) (fun v5 M6 => cl (f_X12_thrown Z M6) (fun v7 M8 => (if v7 = v2 then (if v2 = 0 then rdL M8 124 1 (0 : Int32) (fun v9 => (if v9 = v5.toInt64 then j M8 else none)) else j M8) else none))))))
set_option maxRecDepth 100000 in
theorem c_law_1 {Γ : WC} {X : MX} (hN : HN Γ) (hC : NC Γ) (C : CX Γ X cL_law 9 RL (some .boolean) room_1) {Z b L cb sb : Nat} {xs : Nat → Int32} (hX : SX Γ X b L xs) (hcb : cb + 8 ≤ 601024 ∧ sb + 48 ≤ 7293034) {M : Mem} {i : Int32} {j : Mem → Option Unit} {rM : Unit} (hj : ∀ M1, j M1 = some rM → G Γ X M1 (cb + 8) (sb + 48) [some (.ref b), some (.ref (wad Γ 0)), some (.ref (wad Γ 108)), some (.ref (wad Γ 124)), some (.ref (wad Γ 125)), some (.int i)] [] 3578) (hf : f_law_1 Z L xs M i j = some rM) : G Γ X M cb sb [some (.ref b), some (.ref (wad Γ 0)), some (.ref (wad Γ 108)), some (.ref (wad Γ 124)), some (.ref (wad Γ 125)), some (.int i)] [] 377 := by
  change G Γ X M (cb + 0) (sb + 0) _ _ _
  unfold f_law_1 at hf
  refine x_aload_n C rfl rfl (dkAt dk_L_law_1 37 rfl) 378 rfl ?_
  refine x_aload_n C rfl rfl (dkAt dk_L_law_1 38 rfl) 379 rfl ?_
  refine x_iload C rfl (dkAt dk_L_law_1 39 rfl) 381 rfl ?_
  refine x_iconst C (v := (1 : Int32)) (by decide) (dkAt dk_L_law_1 40 rfl) 382 rfl ?_
  refine x_iadd C (dkAt dk_L_law_1 41 rfl) 383 rfl ?_
  refine x_sld C hX (dkAt dk_L_law_1 42 rfl) 384 rfl hf (fun v1 hf => ?_)
  refine x_aload_n C rfl rfl (dkAt dk_L_law_1 43 rfl) 385 rfl ?_
  obtain ⟨v2, M3, h12, hf⟩ := cl_inv hf
  refine x_cW C (c_L_load hN hC h12) mww_L_load ln_RL_196 (ro_law hcb (by decide) (by decide) (by decide) (by decide)) rfl rfl (Nat.le_of_ble_eq_true rfl) (dkAt dk_L_law_1 44 rfl) 388 rfl (cb + 1) (sb + 6) rfl rfl ?_
  refine x_istore C (L1 := [some (.ref b), some (.ref (wad Γ 0)), some (.ref (wad Γ 108)), some (.ref (wad Γ 124)), some (.ref (wad Γ 125)), some (.int i), some (.int v2)]) (dkAt dk_L_law_1 45 rfl) 390 rfl (by decide) rfl ?_
  refine x_aload_n C rfl rfl (dkAt dk_L_law_1 46 rfl) 391 rfl ?_
  refine x_aload_n C rfl rfl (dkAt dk_L_law_1 47 rfl) 392 rfl ?_
  refine x_iload C rfl (dkAt dk_L_law_2 0 rfl) 394 rfl ?_
  refine x_iconst C (v := (1 : Int32)) (by decide) (dkAt dk_L_law_2 1 rfl) 395 rfl ?_
  refine x_iadd C (dkAt dk_L_law_2 2 rfl) 396 rfl ?_
  refine x_sld C hX (dkAt dk_L_law_2 3 rfl) 397 rfl hf (fun v4 hf => ?_)
  obtain ⟨v5, M6, h11, hf⟩ := cl_inv hf
  refine x_cVi C (c_X12_load hN h11) mw_X12_load ln_RL_201 mi_X12_load (hN.rc (ci := 12) sh108 rc12) (ro_law hcb (by decide) (by decide) (by decide) (by decide)) rfl rfl (Nat.le_of_ble_eq_true rfl) (dkAt dk_L_law_2 4 rfl) 400 rfl (cb + 1) (sb + 6) rfl rfl ?_
  refine x_istore C (L1 := [some (.ref b), some (.ref (wad Γ 0)), some (.ref (wad Γ 108)), some (.ref (wad Γ 124)), some (.ref (wad Γ 125)), some (.int i), some (.int v2), some (.int v5)]) (dkAt dk_L_law_2 5 rfl) 402 rfl (by decide) rfl ?_
  refine x_aload_n C rfl rfl (dkAt dk_L_law_2 6 rfl) 403 rfl ?_
  obtain ⟨v7, M8, h10, hf⟩ := cl_inv hf
  refine x_cVi C (c_X12_thrown hN h10) mw_X12_thrown ln_RL_202 mi_X12_thrown (hN.rc (ci := 12) sh108 rc12) (ro_law hcb (by decide) (by decide) (by decide) (by decide)) rfl rfl (Nat.le_of_ble_eq_true rfl) (dkAt dk_L_law_2 7 rfl) 406 rfl (cb + 1) (sb + 6) rfl rfl ?_
  refine x_iload C rfl (dkAt dk_L_law_2 8 rfl) 408 rfl ?_
  refine x_icmp_eq C 413 (dkAt dk_L_law_2 9 rfl) 411 rfl (by decide) hf (fun hf => ?_) (fun hf => ?_)
  · refine x_iload C rfl (dkAt dk_L_law_2 12 rfl) 415 rfl ?_
    refine x_if_ne C 430 (dkAt dk_L_law_2 13 rfl) 418 rfl (by decide) hf (fun hf => ?_) (fun hf => ?_)
    · refine x_goto C 3578 (dkAt dk_L_law_2 23 rfl) (by decide) ?_
      exact G.weak (L := [some (.ref b), some (.ref (wad Γ 0)), some (.ref (wad Γ 108)), some (.ref (wad Γ 124)), some (.ref (wad Γ 125)), some (.int i)]) ⟨rfl, rfl, rfl, rfl, rfl, rfl, trivial⟩ (G.wide (by omega) (by omega) (hj _ hf))
    · refine x_aload_n C rfl rfl (dkAt dk_L_law_2 14 rfl) 419 rfl ?_
      refine x_iconst C (v := (0 : Int32)) (by decide) (dkAt dk_L_law_2 15 rfl) 420 rfl ?_
      refine x_lald C (hN.sh sh124) (dkAt dk_L_law_2 16 rfl) 421 rfl hf (fun v9 hf => ?_)
      refine x_iload C rfl (dkAt dk_L_law_2 17 rfl) 423 rfl ?_
      refine x_i2l C (dkAt dk_L_law_2 18 rfl) 424 rfl ?_
      refine x_lcmp_eq C 430 (dkAt dk_L_law_2 19 rfl) 428 rfl (dkAt dk_L_law_2 20 rfl) (by decide) hf (fun hf => ?_) (fun hf => ?_)
      · refine x_goto C 3578 (dkAt dk_L_law_2 23 rfl) (by decide) ?_
        exact G.weak (L := [some (.ref b), some (.ref (wad Γ 0)), some (.ref (wad Γ 108)), some (.ref (wad Γ 124)), some (.ref (wad Γ 125)), some (.int i)]) ⟨rfl, rfl, rfl, rfl, rfl, rfl, trivial⟩ (G.wide (by omega) (by omega) (hj _ hf))
      · refine x_iconst C (v := (0 : Int32)) (by decide) (dkAt dk_L_law_2 21 rfl) 429 rfl ?_
        exact nomatch hf
  · refine x_iconst C (v := (0 : Int32)) (by decide) (dkAt dk_L_law_2 10 rfl) 412 rfl ?_
    exact nomatch hf
def f_law_2 (Z L : Nat) (xs : Nat → Int32) (M : Mem) (i : Int32) (j : Mem → Option Unit) : Option Unit :=
  cl (f_X11_parseError Z M) (fun v1 M2 => cl (f_X12_parseError Z M2) (fun v3 M4 => (if v1 = v3 then j M4 else none)))
set_option maxRecDepth 100000 in
theorem c_law_2 {Γ : WC} {X : MX} (hN : HN Γ) (hC : NC Γ) (C : CX Γ X cL_law 9 RL (some .boolean) room_1) {Z b L cb sb : Nat} {xs : Nat → Int32} (hX : SX Γ X b L xs) (hcb : cb + 8 ≤ 601024 ∧ sb + 48 ≤ 7293034) {M : Mem} {i : Int32} {j : Mem → Option Unit} {rM : Unit} (hj : ∀ M1, j M1 = some rM → G Γ X M1 (cb + 8) (sb + 48) [some (.ref b), some (.ref (wad Γ 0)), some (.ref (wad Γ 108)), some (.ref (wad Γ 124)), some (.ref (wad Γ 125)), some (.int i)] [] 3578) (hf : f_law_2 Z L xs M i j = some rM) : G Γ X M cb sb [some (.ref b), some (.ref (wad Γ 0)), some (.ref (wad Γ 108)), some (.ref (wad Γ 124)), some (.ref (wad Γ 125)), some (.int i)] [] 433 := by
  change G Γ X M (cb + 0) (sb + 0) _ _ _
  unfold f_law_2 at hf
  refine x_aload_n C rfl rfl (dkAt dk_L_law_2 24 rfl) 434 rfl ?_
  obtain ⟨v1, M2, h6, hf⟩ := cl_inv hf
  refine x_cVi C (c_X11_parseError hN h6) mw_X11_parseError ln_RL_205 mi_X11_parseError (hN.rc (ci := 11) sh0 rc11) (ro_law hcb (by decide) (by decide) (by decide) (by decide)) rfl rfl (Nat.le_of_ble_eq_true rfl) (dkAt dk_L_law_2 25 rfl) 437 rfl (cb + 0) (sb + 0) rfl rfl ?_
  refine x_aload_n C rfl rfl (dkAt dk_L_law_2 26 rfl) 438 rfl ?_
  obtain ⟨v3, M4, h5, hf⟩ := cl_inv hf
  refine x_cVi C (c_X12_parseError hN h5) mw_X12_parseError ln_RL_208 mi_X12_parseError (hN.rc (ci := 12) sh108 rc12) (ro_law hcb (by decide) (by decide) (by decide) (by decide)) rfl rfl (Nat.le_of_ble_eq_true rfl) (dkAt dk_L_law_2 27 rfl) 441 rfl (cb + 0) (sb + 0) rfl rfl ?_
  refine x_icmp_eq C 3578 (dkAt dk_L_law_2 28 rfl) 444 rfl (by decide) hf (fun hf => ?_) (fun hf => ?_)
  · exact G.weak (L := [some (.ref b), some (.ref (wad Γ 0)), some (.ref (wad Γ 108)), some (.ref (wad Γ 124)), some (.ref (wad Γ 125)), some (.int i)]) ⟨rfl, rfl, rfl, rfl, rfl, rfl, trivial⟩ (G.wide (by omega) (by omega) (hj _ hf))
  · refine x_iconst C (v := (0 : Int32)) (by decide) (dkAt dk_L_law_2 29 rfl) 445 rfl ?_
    exact nomatch hf
def f_law_3 (Z L : Nat) (xs : Nat → Int32) (M : Mem) (i : Int32) (j : Mem → Option Unit) : Option Unit :=
  cl (f_X11_errorPosition Z M) (fun v1 M2 => cl (f_X12_errorPosition Z M2) (fun v3 M4 => (if v1 = v3 then j M4 else none)))
set_option maxRecDepth 100000 in
theorem c_law_3 {Γ : WC} {X : MX} (hN : HN Γ) (hC : NC Γ) (C : CX Γ X cL_law 9 RL (some .boolean) room_1) {Z b L cb sb : Nat} {xs : Nat → Int32} (hX : SX Γ X b L xs) (hcb : cb + 8 ≤ 601024 ∧ sb + 48 ≤ 7293034) {M : Mem} {i : Int32} {j : Mem → Option Unit} {rM : Unit} (hj : ∀ M1, j M1 = some rM → G Γ X M1 (cb + 8) (sb + 48) [some (.ref b), some (.ref (wad Γ 0)), some (.ref (wad Γ 108)), some (.ref (wad Γ 124)), some (.ref (wad Γ 125)), some (.int i)] [] 3578) (hf : f_law_3 Z L xs M i j = some rM) : G Γ X M cb sb [some (.ref b), some (.ref (wad Γ 0)), some (.ref (wad Γ 108)), some (.ref (wad Γ 124)), some (.ref (wad Γ 125)), some (.int i)] [] 446 := by
  change G Γ X M (cb + 0) (sb + 0) _ _ _
  unfold f_law_3 at hf
  refine x_aload_n C rfl rfl (dkAt dk_L_law_2 31 rfl) 447 rfl ?_
  obtain ⟨v1, M2, h6, hf⟩ := cl_inv hf
  refine x_cVi C (c_X11_errorPosition hN h6) mw_X11_errorPosition ln_RL_209 mi_X11_errorPosition (hN.rc (ci := 11) sh0 rc11) (ro_law hcb (by decide) (by decide) (by decide) (by decide)) rfl rfl (Nat.le_of_ble_eq_true rfl) (dkAt dk_L_law_2 32 rfl) 450 rfl (cb + 0) (sb + 0) rfl rfl ?_
  refine x_aload_n C rfl rfl (dkAt dk_L_law_2 33 rfl) 451 rfl ?_
  obtain ⟨v3, M4, h5, hf⟩ := cl_inv hf
  refine x_cVi C (c_X12_errorPosition hN h5) mw_X12_errorPosition ln_RL_212 mi_X12_errorPosition (hN.rc (ci := 12) sh108 rc12) (ro_law hcb (by decide) (by decide) (by decide) (by decide)) rfl rfl (Nat.le_of_ble_eq_true rfl) (dkAt dk_L_law_2 34 rfl) 454 rfl (cb + 0) (sb + 0) rfl rfl ?_
  refine x_icmp_eq C 3578 (dkAt dk_L_law_2 35 rfl) 457 rfl (by decide) hf (fun hf => ?_) (fun hf => ?_)
  · exact G.weak (L := [some (.ref b), some (.ref (wad Γ 0)), some (.ref (wad Γ 108)), some (.ref (wad Γ 124)), some (.ref (wad Γ 125)), some (.int i)]) ⟨rfl, rfl, rfl, rfl, rfl, rfl, trivial⟩ (G.wide (by omega) (by omega) (hj _ hf))
  · refine x_iconst C (v := (0 : Int32)) (by decide) (dkAt dk_L_law_2 36 rfl) 458 rfl ?_
    exact nomatch hf
def f_law_4 (Z L : Nat) (xs : Nat → Int32) (M : Mem) (i : Int32) (j : Mem → Option Unit) : Option Unit :=
  cl (f_X11_buffered Z M) (fun v1 M2 => cl (f_X12_buffered Z M2) (fun v3 M4 => (if v1 = v3 then j M4 else none)))
set_option maxRecDepth 100000 in
theorem c_law_4 {Γ : WC} {X : MX} (hN : HN Γ) (hC : NC Γ) (C : CX Γ X cL_law 9 RL (some .boolean) room_1) {Z b L cb sb : Nat} {xs : Nat → Int32} (hX : SX Γ X b L xs) (hcb : cb + 8 ≤ 601024 ∧ sb + 48 ≤ 7293034) {M : Mem} {i : Int32} {j : Mem → Option Unit} {rM : Unit} (hj : ∀ M1, j M1 = some rM → G Γ X M1 (cb + 8) (sb + 48) [some (.ref b), some (.ref (wad Γ 0)), some (.ref (wad Γ 108)), some (.ref (wad Γ 124)), some (.ref (wad Γ 125)), some (.int i)] [] 3578) (hf : f_law_4 Z L xs M i j = some rM) : G Γ X M cb sb [some (.ref b), some (.ref (wad Γ 0)), some (.ref (wad Γ 108)), some (.ref (wad Γ 124)), some (.ref (wad Γ 125)), some (.int i)] [] 459 := by
  change G Γ X M (cb + 0) (sb + 0) _ _ _
  unfold f_law_4 at hf
  refine x_aload_n C rfl rfl (dkAt dk_L_law_2 38 rfl) 460 rfl ?_
  obtain ⟨v1, M2, h6, hf⟩ := cl_inv hf
  refine x_cVi C (c_X11_buffered hN h6) mw_X11_buffered ln_RL_213 mi_X11_buffered (hN.rc (ci := 11) sh0 rc11) (ro_law hcb (by decide) (by decide) (by decide) (by decide)) rfl rfl (Nat.le_of_ble_eq_true rfl) (dkAt dk_L_law_2 39 rfl) 463 rfl (cb + 0) (sb + 0) rfl rfl ?_
  refine x_aload_n C rfl rfl (dkAt dk_L_law_2 40 rfl) 464 rfl ?_
  obtain ⟨v3, M4, h5, hf⟩ := cl_inv hf
  refine x_cVi C (c_X12_buffered hN h5) mw_X12_buffered ln_RL_216 mi_X12_buffered (hN.rc (ci := 12) sh108 rc12) (ro_law hcb (by decide) (by decide) (by decide) (by decide)) rfl rfl (Nat.le_of_ble_eq_true rfl) (dkAt dk_L_law_2 41 rfl) 467 rfl (cb + 0) (sb + 0) rfl rfl ?_
  refine x_icmp_eq C 3578 (dkAt dk_L_law_2 42 rfl) 470 rfl (by decide) hf (fun hf => ?_) (fun hf => ?_)
  · exact G.weak (L := [some (.ref b), some (.ref (wad Γ 0)), some (.ref (wad Γ 108)), some (.ref (wad Γ 124)), some (.ref (wad Γ 125)), some (.int i)]) ⟨rfl, rfl, rfl, rfl, rfl, rfl, trivial⟩ (G.wide (by omega) (by omega) (hj _ hf))
  · refine x_iconst C (v := (0 : Int32)) (by decide) (dkAt dk_L_law_2 43 rfl) 471 rfl ?_
    exact nomatch hf
def f_law_5 (Z L : Nat) (xs : Nat → Int32) (M : Mem) (i : Int32) (j : Mem → Option Unit) : Option Unit :=
  cl (f_X11_states Z M) (fun v1 M2 => cl (f_X12_states Z M2) (fun v3 M4 => (if v1 = v3 then j M4 else none)))
set_option maxRecDepth 100000 in
theorem c_law_5 {Γ : WC} {X : MX} (hN : HN Γ) (hC : NC Γ) (C : CX Γ X cL_law 9 RL (some .boolean) room_1) {Z b L cb sb : Nat} {xs : Nat → Int32} (hX : SX Γ X b L xs) (hcb : cb + 8 ≤ 601024 ∧ sb + 48 ≤ 7293034) {M : Mem} {i : Int32} {j : Mem → Option Unit} {rM : Unit} (hj : ∀ M1, j M1 = some rM → G Γ X M1 (cb + 8) (sb + 48) [some (.ref b), some (.ref (wad Γ 0)), some (.ref (wad Γ 108)), some (.ref (wad Γ 124)), some (.ref (wad Γ 125)), some (.int i)] [] 3578) (hf : f_law_5 Z L xs M i j = some rM) : G Γ X M cb sb [some (.ref b), some (.ref (wad Γ 0)), some (.ref (wad Γ 108)), some (.ref (wad Γ 124)), some (.ref (wad Γ 125)), some (.int i)] [] 472 := by
  change G Γ X M (cb + 0) (sb + 0) _ _ _
  unfold f_law_5 at hf
  refine x_aload_n C rfl rfl (dkAt dk_L_law_2 45 rfl) 473 rfl ?_
  obtain ⟨v1, M2, h6, hf⟩ := cl_inv hf
  refine x_cVi C (c_X11_states hN h6) mw_X11_states ln_RL_217 mi_X11_states (hN.rc (ci := 11) sh0 rc11) (ro_law hcb (by decide) (by decide) (by decide) (by decide)) rfl rfl (Nat.le_of_ble_eq_true rfl) (dkAt dk_L_law_2 46 rfl) 476 rfl (cb + 0) (sb + 0) rfl rfl ?_
  refine x_aload_n C rfl rfl (dkAt dk_L_law_2 47 rfl) 477 rfl ?_
  obtain ⟨v3, M4, h5, hf⟩ := cl_inv hf
  refine x_cVi C (c_X12_states hN h5) mw_X12_states ln_RL_220 mi_X12_states (hN.rc (ci := 12) sh108 rc12) (ro_law hcb (by decide) (by decide) (by decide) (by decide)) rfl rfl (Nat.le_of_ble_eq_true rfl) (dkAt dk_L_law_3 0 rfl) 480 rfl (cb + 0) (sb + 0) rfl rfl ?_
  refine x_icmp_eq C 3578 (dkAt dk_L_law_3 1 rfl) 483 rfl (by decide) hf (fun hf => ?_) (fun hf => ?_)
  · exact G.weak (L := [some (.ref b), some (.ref (wad Γ 0)), some (.ref (wad Γ 108)), some (.ref (wad Γ 124)), some (.ref (wad Γ 125)), some (.int i)]) ⟨rfl, rfl, rfl, rfl, rfl, rfl, trivial⟩ (G.wide (by omega) (by omega) (hj _ hf))
  · refine x_iconst C (v := (0 : Int32)) (by decide) (dkAt dk_L_law_3 2 rfl) 484 rfl ?_
    exact nomatch hf
def f_law_6 (Z L : Nat) (xs : Nat → Int32) (M : Mem) (i : Int32) (j : Mem → Option Unit) : Option Unit :=
  cl (f_X11_budgets Z M) (fun v1 M2 => cl (f_X12_budgets Z M2) (fun v3 M4 => (if v1 = v3 then j M4 else none)))
set_option maxRecDepth 100000 in
theorem c_law_6 {Γ : WC} {X : MX} (hN : HN Γ) (hC : NC Γ) (C : CX Γ X cL_law 9 RL (some .boolean) room_1) {Z b L cb sb : Nat} {xs : Nat → Int32} (hX : SX Γ X b L xs) (hcb : cb + 8 ≤ 601024 ∧ sb + 48 ≤ 7293034) {M : Mem} {i : Int32} {j : Mem → Option Unit} {rM : Unit} (hj : ∀ M1, j M1 = some rM → G Γ X M1 (cb + 8) (sb + 48) [some (.ref b), some (.ref (wad Γ 0)), some (.ref (wad Γ 108)), some (.ref (wad Γ 124)), some (.ref (wad Γ 125)), some (.int i)] [] 3578) (hf : f_law_6 Z L xs M i j = some rM) : G Γ X M cb sb [some (.ref b), some (.ref (wad Γ 0)), some (.ref (wad Γ 108)), some (.ref (wad Γ 124)), some (.ref (wad Γ 125)), some (.int i)] [] 485 := by
  change G Γ X M (cb + 0) (sb + 0) _ _ _
  unfold f_law_6 at hf
  refine x_aload_n C rfl rfl (dkAt dk_L_law_3 4 rfl) 486 rfl ?_
  obtain ⟨v1, M2, h6, hf⟩ := cl_inv hf
  refine x_cVi C (c_X11_budgets hN h6) mw_X11_budgets ln_RL_221 mi_X11_budgets (hN.rc (ci := 11) sh0 rc11) (ro_law hcb (by decide) (by decide) (by decide) (by decide)) rfl rfl (Nat.le_of_ble_eq_true rfl) (dkAt dk_L_law_3 5 rfl) 489 rfl (cb + 0) (sb + 0) rfl rfl ?_
  refine x_aload_n C rfl rfl (dkAt dk_L_law_3 6 rfl) 490 rfl ?_
  obtain ⟨v3, M4, h5, hf⟩ := cl_inv hf
  refine x_cVi C (c_X12_budgets hN h5) mw_X12_budgets ln_RL_224 mi_X12_budgets (hN.rc (ci := 12) sh108 rc12) (ro_law hcb (by decide) (by decide) (by decide) (by decide)) rfl rfl (Nat.le_of_ble_eq_true rfl) (dkAt dk_L_law_3 7 rfl) 493 rfl (cb + 0) (sb + 0) rfl rfl ?_
  refine x_icmp_eq C 3578 (dkAt dk_L_law_3 8 rfl) 496 rfl (by decide) hf (fun hf => ?_) (fun hf => ?_)
  · exact G.weak (L := [some (.ref b), some (.ref (wad Γ 0)), some (.ref (wad Γ 108)), some (.ref (wad Γ 124)), some (.ref (wad Γ 125)), some (.int i)]) ⟨rfl, rfl, rfl, rfl, rfl, rfl, trivial⟩ (G.wide (by omega) (by omega) (hj _ hf))
  · refine x_iconst C (v := (0 : Int32)) (by decide) (dkAt dk_L_law_3 9 rfl) 497 rfl ?_
    exact nomatch hf
def f_law_7 (Z L : Nat) (xs : Nat → Int32) (M : Mem) (i : Int32) (j : Mem → Option Unit) : Option Unit :=
  cl (f_X11_horizon Z M) (fun v1 M2 => cl (f_X12_horizon Z M2) (fun v3 M4 => (if v1 = v3 then j M4 else none)))
set_option maxRecDepth 100000 in
theorem c_law_7 {Γ : WC} {X : MX} (hN : HN Γ) (hC : NC Γ) (C : CX Γ X cL_law 9 RL (some .boolean) room_1) {Z b L cb sb : Nat} {xs : Nat → Int32} (hX : SX Γ X b L xs) (hcb : cb + 8 ≤ 601024 ∧ sb + 48 ≤ 7293034) {M : Mem} {i : Int32} {j : Mem → Option Unit} {rM : Unit} (hj : ∀ M1, j M1 = some rM → G Γ X M1 (cb + 8) (sb + 48) [some (.ref b), some (.ref (wad Γ 0)), some (.ref (wad Γ 108)), some (.ref (wad Γ 124)), some (.ref (wad Γ 125)), some (.int i)] [] 3578) (hf : f_law_7 Z L xs M i j = some rM) : G Γ X M cb sb [some (.ref b), some (.ref (wad Γ 0)), some (.ref (wad Γ 108)), some (.ref (wad Γ 124)), some (.ref (wad Γ 125)), some (.int i)] [] 498 := by
  change G Γ X M (cb + 0) (sb + 0) _ _ _
  unfold f_law_7 at hf
  refine x_aload_n C rfl rfl (dkAt dk_L_law_3 11 rfl) 499 rfl ?_
  obtain ⟨v1, M2, h6, hf⟩ := cl_inv hf
  refine x_cVi C (c_X11_horizon hN h6) mw_X11_horizon ln_RL_225 mi_X11_horizon (hN.rc (ci := 11) sh0 rc11) (ro_law hcb (by decide) (by decide) (by decide) (by decide)) rfl rfl (Nat.le_of_ble_eq_true rfl) (dkAt dk_L_law_3 12 rfl) 502 rfl (cb + 0) (sb + 0) rfl rfl ?_
  refine x_aload_n C rfl rfl (dkAt dk_L_law_3 13 rfl) 503 rfl ?_
  obtain ⟨v3, M4, h5, hf⟩ := cl_inv hf
  refine x_cVi C (c_X12_horizon hN h5) mw_X12_horizon ln_RL_228 mi_X12_horizon (hN.rc (ci := 12) sh108 rc12) (ro_law hcb (by decide) (by decide) (by decide) (by decide)) rfl rfl (Nat.le_of_ble_eq_true rfl) (dkAt dk_L_law_3 14 rfl) 506 rfl (cb + 0) (sb + 0) rfl rfl ?_
  refine x_icmp_eq C 3578 (dkAt dk_L_law_3 15 rfl) 509 rfl (by decide) hf (fun hf => ?_) (fun hf => ?_)
  · exact G.weak (L := [some (.ref b), some (.ref (wad Γ 0)), some (.ref (wad Γ 108)), some (.ref (wad Γ 124)), some (.ref (wad Γ 125)), some (.int i)]) ⟨rfl, rfl, rfl, rfl, rfl, rfl, trivial⟩ (G.wide (by omega) (by omega) (hj _ hf))
  · refine x_iconst C (v := (0 : Int32)) (by decide) (dkAt dk_L_law_3 16 rfl) 510 rfl ?_
    exact nomatch hf
def f_law_8 (Z L : Nat) (xs : Nat → Int32) (M : Mem) (i : Int32) (j : Mem → Option Unit) : Option Unit :=
  cl (f_L_start Z M) (fun v1 M2 => cl (f_X12_start Z M2) (fun v3 M4 => cl (f_X12_thrown Z M4) (fun v5 M6 => (if v5 = v1 then (if v1 = 0 then rdL M6 124 1 (0 : Int32) (fun v7 => (if v7 = v3.toInt64 then j M6 else none)) else j M6) else none))))
set_option maxRecDepth 100000 in
theorem c_law_8 {Γ : WC} {X : MX} (hN : HN Γ) (hC : NC Γ) (C : CX Γ X cL_law 9 RL (some .boolean) room_1) {Z b L cb sb : Nat} {xs : Nat → Int32} (hX : SX Γ X b L xs) (hcb : cb + 8 ≤ 601024 ∧ sb + 48 ≤ 7293034) {M : Mem} {i : Int32} {j : Mem → Option Unit} {rM : Unit} (hj : ∀ M1, j M1 = some rM → G Γ X M1 (cb + 8) (sb + 48) [some (.ref b), some (.ref (wad Γ 0)), some (.ref (wad Γ 108)), some (.ref (wad Γ 124)), some (.ref (wad Γ 125)), some (.int i)] [] 3578) (hf : f_law_8 Z L xs M i j = some rM) : G Γ X M cb sb [some (.ref b), some (.ref (wad Γ 0)), some (.ref (wad Γ 108)), some (.ref (wad Γ 124)), some (.ref (wad Γ 125)), some (.int i)] [] 511 := by
  change G Γ X M (cb + 0) (sb + 0) _ _ _
  unfold f_law_8 at hf
  refine x_aload_n C rfl rfl (dkAt dk_L_law_3 18 rfl) 512 rfl ?_
  refine x_aload_n C rfl rfl (dkAt dk_L_law_3 19 rfl) 513 rfl ?_
  obtain ⟨v1, M2, h10, hf⟩ := cl_inv hf
  refine x_cW C (c_L_start hN hC h10) mww_L_start ln_RL_229 (ro_law hcb (by decide) (by decide) (by decide) (by decide)) rfl rfl (Nat.le_of_ble_eq_true rfl) (dkAt dk_L_law_3 20 rfl) 516 rfl (cb + 1) (sb + 6) rfl rfl ?_
  refine x_istore C (L1 := [some (.ref b), some (.ref (wad Γ 0)), some (.ref (wad Γ 108)), some (.ref (wad Γ 124)), some (.ref (wad Γ 125)), some (.int i), some (.int v1)]) (dkAt dk_L_law_3 21 rfl) 518 rfl (by decide) rfl ?_
  refine x_aload_n C rfl rfl (dkAt dk_L_law_3 22 rfl) 519 rfl ?_
  obtain ⟨v3, M4, h9, hf⟩ := cl_inv hf
  refine x_cVi C (c_X12_start hN h9) mw_X12_start ln_RL_232 mi_X12_start (hN.rc (ci := 12) sh108 rc12) (ro_law hcb (by decide) (by decide) (by decide) (by decide)) rfl rfl (Nat.le_of_ble_eq_true rfl) (dkAt dk_L_law_3 23 rfl) 522 rfl (cb + 1) (sb + 6) rfl rfl ?_
  refine x_istore C (L1 := [some (.ref b), some (.ref (wad Γ 0)), some (.ref (wad Γ 108)), some (.ref (wad Γ 124)), some (.ref (wad Γ 125)), some (.int i), some (.int v1), some (.int v3)]) (dkAt dk_L_law_3 24 rfl) 524 rfl (by decide) rfl ?_
  refine x_aload_n C rfl rfl (dkAt dk_L_law_3 25 rfl) 525 rfl ?_
  obtain ⟨v5, M6, h8, hf⟩ := cl_inv hf
  refine x_cVi C (c_X12_thrown hN h8) mw_X12_thrown ln_RL_202 mi_X12_thrown (hN.rc (ci := 12) sh108 rc12) (ro_law hcb (by decide) (by decide) (by decide) (by decide)) rfl rfl (Nat.le_of_ble_eq_true rfl) (dkAt dk_L_law_3 26 rfl) 528 rfl (cb + 1) (sb + 6) rfl rfl ?_
  refine x_iload C rfl (dkAt dk_L_law_3 27 rfl) 530 rfl ?_
  refine x_icmp_eq C 535 (dkAt dk_L_law_3 28 rfl) 533 rfl (by decide) hf (fun hf => ?_) (fun hf => ?_)
  · refine x_iload C rfl (dkAt dk_L_law_3 31 rfl) 537 rfl ?_
    refine x_if_ne C 552 (dkAt dk_L_law_3 32 rfl) 540 rfl (by decide) hf (fun hf => ?_) (fun hf => ?_)
    · refine x_goto C 3578 (dkAt dk_L_law_3 42 rfl) (by decide) ?_
      exact G.weak (L := [some (.ref b), some (.ref (wad Γ 0)), some (.ref (wad Γ 108)), some (.ref (wad Γ 124)), some (.ref (wad Γ 125)), some (.int i)]) ⟨rfl, rfl, rfl, rfl, rfl, rfl, trivial⟩ (G.wide (by omega) (by omega) (hj _ hf))
    · refine x_aload_n C rfl rfl (dkAt dk_L_law_3 33 rfl) 541 rfl ?_
      refine x_iconst C (v := (0 : Int32)) (by decide) (dkAt dk_L_law_3 34 rfl) 542 rfl ?_
      refine x_lald C (hN.sh sh124) (dkAt dk_L_law_3 35 rfl) 543 rfl hf (fun v7 hf => ?_)
      refine x_iload C rfl (dkAt dk_L_law_3 36 rfl) 545 rfl ?_
      refine x_i2l C (dkAt dk_L_law_3 37 rfl) 546 rfl ?_
      refine x_lcmp_eq C 552 (dkAt dk_L_law_3 38 rfl) 550 rfl (dkAt dk_L_law_3 39 rfl) (by decide) hf (fun hf => ?_) (fun hf => ?_)
      · refine x_goto C 3578 (dkAt dk_L_law_3 42 rfl) (by decide) ?_
        exact G.weak (L := [some (.ref b), some (.ref (wad Γ 0)), some (.ref (wad Γ 108)), some (.ref (wad Γ 124)), some (.ref (wad Γ 125)), some (.int i)]) ⟨rfl, rfl, rfl, rfl, rfl, rfl, trivial⟩ (G.wide (by omega) (by omega) (hj _ hf))
      · refine x_iconst C (v := (0 : Int32)) (by decide) (dkAt dk_L_law_3 40 rfl) 551 rfl ?_
        exact nomatch hf
  · refine x_iconst C (v := (0 : Int32)) (by decide) (dkAt dk_L_law_3 29 rfl) 534 rfl ?_
    exact nomatch hf
def f_law_9 (Z L : Nat) (xs : Nat → Int32) (M : Mem) (i : Int32) (j : Mem → Option Unit) : Option Unit :=
  rdX xs L (i + (1 : Int32)) (fun v1 => cl (f_L_actions Z M v1) (fun v2 M3 => rdX xs L (i + (1 : Int32)) (fun v4 => cl (f_X12_actions Z M3 v4) (fun v5 M6 => cl (f_X12_thrown Z M6) (fun v7 M8 => (if v7 = v2 then (if v2 = 0 then rdL M8 124 1 (0 : Int32) (fun v9 => (if v9 = v5.toInt64 then j M8 else none)) else j M8) else none))))))
set_option maxRecDepth 100000 in
theorem c_law_9 {Γ : WC} {X : MX} (hN : HN Γ) (hC : NC Γ) (C : CX Γ X cL_law 9 RL (some .boolean) room_1) {Z b L cb sb : Nat} {xs : Nat → Int32} (hX : SX Γ X b L xs) (hcb : cb + 8 ≤ 601024 ∧ sb + 48 ≤ 7293034) {M : Mem} {i : Int32} {j : Mem → Option Unit} {rM : Unit} (hj : ∀ M1, j M1 = some rM → G Γ X M1 (cb + 8) (sb + 48) [some (.ref b), some (.ref (wad Γ 0)), some (.ref (wad Γ 108)), some (.ref (wad Γ 124)), some (.ref (wad Γ 125)), some (.int i)] [] 3578) (hf : f_law_9 Z L xs M i j = some rM) : G Γ X M cb sb [some (.ref b), some (.ref (wad Γ 0)), some (.ref (wad Γ 108)), some (.ref (wad Γ 124)), some (.ref (wad Γ 125)), some (.int i)] [] 555 := by
  change G Γ X M (cb + 0) (sb + 0) _ _ _
  unfold f_law_9 at hf
  refine x_aload_n C rfl rfl (dkAt dk_L_law_3 43 rfl) 556 rfl ?_
  refine x_aload_n C rfl rfl (dkAt dk_L_law_3 44 rfl) 557 rfl ?_
  refine x_iload C rfl (dkAt dk_L_law_3 45 rfl) 559 rfl ?_
  refine x_iconst C (v := (1 : Int32)) (by decide) (dkAt dk_L_law_3 46 rfl) 560 rfl ?_
  refine x_iadd C (dkAt dk_L_law_3 47 rfl) 561 rfl ?_
  refine x_sld C hX (dkAt dk_L_law_4 0 rfl) 562 rfl hf (fun v1 hf => ?_)
  refine x_aload_n C rfl rfl (dkAt dk_L_law_4 1 rfl) 563 rfl ?_
  obtain ⟨v2, M3, h12, hf⟩ := cl_inv hf
  refine x_cW C (c_L_actions hN hC h12) mww_L_actions ln_RL_233 (ro_law hcb (by decide) (by decide) (by decide) (by decide)) rfl rfl (Nat.le_of_ble_eq_true rfl) (dkAt dk_L_law_4 2 rfl) 566 rfl (cb + 2) (sb + 12) rfl rfl ?_
  refine x_istore C (L1 := [some (.ref b), some (.ref (wad Γ 0)), some (.ref (wad Γ 108)), some (.ref (wad Γ 124)), some (.ref (wad Γ 125)), some (.int i), some (.int v2)]) (dkAt dk_L_law_4 3 rfl) 568 rfl (by decide) rfl ?_
  refine x_aload_n C rfl rfl (dkAt dk_L_law_4 4 rfl) 569 rfl ?_
  refine x_aload_n C rfl rfl (dkAt dk_L_law_4 5 rfl) 570 rfl ?_
  refine x_iload C rfl (dkAt dk_L_law_4 6 rfl) 572 rfl ?_
  refine x_iconst C (v := (1 : Int32)) (by decide) (dkAt dk_L_law_4 7 rfl) 573 rfl ?_
  refine x_iadd C (dkAt dk_L_law_4 8 rfl) 574 rfl ?_
  refine x_sld C hX (dkAt dk_L_law_4 9 rfl) 575 rfl hf (fun v4 hf => ?_)
  obtain ⟨v5, M6, h11, hf⟩ := cl_inv hf
  refine x_cVi C (c_X12_actions hN h11) mw_X12_actions ln_RL_235 mi_X12_actions (hN.rc (ci := 12) sh108 rc12) (ro_law hcb (by decide) (by decide) (by decide) (by decide)) rfl rfl (Nat.le_of_ble_eq_true rfl) (dkAt dk_L_law_4 10 rfl) 578 rfl (cb + 2) (sb + 12) rfl rfl ?_
  refine x_istore C (L1 := [some (.ref b), some (.ref (wad Γ 0)), some (.ref (wad Γ 108)), some (.ref (wad Γ 124)), some (.ref (wad Γ 125)), some (.int i), some (.int v2), some (.int v5)]) (dkAt dk_L_law_4 11 rfl) 580 rfl (by decide) rfl ?_
  refine x_aload_n C rfl rfl (dkAt dk_L_law_4 12 rfl) 581 rfl ?_
  obtain ⟨v7, M8, h10, hf⟩ := cl_inv hf
  refine x_cVi C (c_X12_thrown hN h10) mw_X12_thrown ln_RL_202 mi_X12_thrown (hN.rc (ci := 12) sh108 rc12) (ro_law hcb (by decide) (by decide) (by decide) (by decide)) rfl rfl (Nat.le_of_ble_eq_true rfl) (dkAt dk_L_law_4 13 rfl) 584 rfl (cb + 2) (sb + 12) rfl rfl ?_
  refine x_iload C rfl (dkAt dk_L_law_4 14 rfl) 586 rfl ?_
  refine x_icmp_eq C 591 (dkAt dk_L_law_4 15 rfl) 589 rfl (by decide) hf (fun hf => ?_) (fun hf => ?_)
  · refine x_iload C rfl (dkAt dk_L_law_4 18 rfl) 593 rfl ?_
    refine x_if_ne C 608 (dkAt dk_L_law_4 19 rfl) 596 rfl (by decide) hf (fun hf => ?_) (fun hf => ?_)
    · refine x_goto C 3578 (dkAt dk_L_law_4 29 rfl) (by decide) ?_
      exact G.weak (L := [some (.ref b), some (.ref (wad Γ 0)), some (.ref (wad Γ 108)), some (.ref (wad Γ 124)), some (.ref (wad Γ 125)), some (.int i)]) ⟨rfl, rfl, rfl, rfl, rfl, rfl, trivial⟩ (G.wide (by omega) (by omega) (hj _ hf))
    · refine x_aload_n C rfl rfl (dkAt dk_L_law_4 20 rfl) 597 rfl ?_
      refine x_iconst C (v := (0 : Int32)) (by decide) (dkAt dk_L_law_4 21 rfl) 598 rfl ?_
      refine x_lald C (hN.sh sh124) (dkAt dk_L_law_4 22 rfl) 599 rfl hf (fun v9 hf => ?_)
      refine x_iload C rfl (dkAt dk_L_law_4 23 rfl) 601 rfl ?_
      refine x_i2l C (dkAt dk_L_law_4 24 rfl) 602 rfl ?_
      refine x_lcmp_eq C 608 (dkAt dk_L_law_4 25 rfl) 606 rfl (dkAt dk_L_law_4 26 rfl) (by decide) hf (fun hf => ?_) (fun hf => ?_)
      · refine x_goto C 3578 (dkAt dk_L_law_4 29 rfl) (by decide) ?_
        exact G.weak (L := [some (.ref b), some (.ref (wad Γ 0)), some (.ref (wad Γ 108)), some (.ref (wad Γ 124)), some (.ref (wad Γ 125)), some (.int i)]) ⟨rfl, rfl, rfl, rfl, rfl, rfl, trivial⟩ (G.wide (by omega) (by omega) (hj _ hf))
      · refine x_iconst C (v := (0 : Int32)) (by decide) (dkAt dk_L_law_4 27 rfl) 607 rfl ?_
        exact nomatch hf
  · refine x_iconst C (v := (0 : Int32)) (by decide) (dkAt dk_L_law_4 16 rfl) 590 rfl ?_
    exact nomatch hf
def f_law_10 (Z L : Nat) (xs : Nat → Int32) (M : Mem) (i : Int32) (j : Mem → Option Unit) : Option Unit :=
  rdX xs L (i + (1 : Int32)) (fun v1 => rdX xs L (i + (2 : Int32)) (fun v2 => cl (f_L_gain Z M v1 v2) (fun v3 M4 => rdX xs L (i + (1 : Int32)) (fun v5 => rdX xs L (i + (2 : Int32)) (fun v6 => cl (f_X12_gain Z M4 v5 v6) (fun v7 M8 => cl (f_X12_thrown Z M8) (fun v9 M10 => (if v9 = v3 then (if v3 = 0 then rdL M10 124 1 (0 : Int32) (fun v11 => (if v11 = v7.toInt64 then j M10 else none)) else j M10) else none))))))))
set_option maxRecDepth 100000 in
theorem c_law_10 {Γ : WC} {X : MX} (hN : HN Γ) (hC : NC Γ) (C : CX Γ X cL_law 9 RL (some .boolean) room_1) {Z b L cb sb : Nat} {xs : Nat → Int32} (hX : SX Γ X b L xs) (hcb : cb + 8 ≤ 601024 ∧ sb + 48 ≤ 7293034) {M : Mem} {i : Int32} {j : Mem → Option Unit} {rM : Unit} (hj : ∀ M1, j M1 = some rM → G Γ X M1 (cb + 8) (sb + 48) [some (.ref b), some (.ref (wad Γ 0)), some (.ref (wad Γ 108)), some (.ref (wad Γ 124)), some (.ref (wad Γ 125)), some (.int i)] [] 3578) (hf : f_law_10 Z L xs M i j = some rM) : G Γ X M cb sb [some (.ref b), some (.ref (wad Γ 0)), some (.ref (wad Γ 108)), some (.ref (wad Γ 124)), some (.ref (wad Γ 125)), some (.int i)] [] 611 := by
  change G Γ X M (cb + 0) (sb + 0) _ _ _
  unfold f_law_10 at hf
  refine x_aload_n C rfl rfl (dkAt dk_L_law_4 30 rfl) 612 rfl ?_
  refine x_aload_n C rfl rfl (dkAt dk_L_law_4 31 rfl) 613 rfl ?_
  refine x_iload C rfl (dkAt dk_L_law_4 32 rfl) 615 rfl ?_
  refine x_iconst C (v := (1 : Int32)) (by decide) (dkAt dk_L_law_4 33 rfl) 616 rfl ?_
  refine x_iadd C (dkAt dk_L_law_4 34 rfl) 617 rfl ?_
  refine x_sld C hX (dkAt dk_L_law_4 35 rfl) 618 rfl hf (fun v1 hf => ?_)
  refine x_aload_n C rfl rfl (dkAt dk_L_law_4 36 rfl) 619 rfl ?_
  refine x_iload C rfl (dkAt dk_L_law_4 37 rfl) 621 rfl ?_
  refine x_iconst C (v := (2 : Int32)) (by decide) (dkAt dk_L_law_4 38 rfl) 622 rfl ?_
  refine x_iadd C (dkAt dk_L_law_4 39 rfl) 623 rfl ?_
  refine x_sld C hX (dkAt dk_L_law_4 40 rfl) 624 rfl hf (fun v2 hf => ?_)
  refine x_aload_n C rfl rfl (dkAt dk_L_law_4 41 rfl) 625 rfl ?_
  obtain ⟨v3, M4, h14, hf⟩ := cl_inv hf
  refine x_cW C (c_L_gain hN hC h14) mww_L_gain ln_RL_236 (ro_law hcb (by decide) (by decide) (by decide) (by decide)) rfl rfl (Nat.le_of_ble_eq_true rfl) (dkAt dk_L_law_4 42 rfl) 628 rfl (cb + 3) (sb + 18) rfl rfl ?_
  refine x_istore C (L1 := [some (.ref b), some (.ref (wad Γ 0)), some (.ref (wad Γ 108)), some (.ref (wad Γ 124)), some (.ref (wad Γ 125)), some (.int i), some (.int v3)]) (dkAt dk_L_law_4 43 rfl) 630 rfl (by decide) rfl ?_
  refine x_aload_n C rfl rfl (dkAt dk_L_law_4 44 rfl) 631 rfl ?_
  refine x_aload_n C rfl rfl (dkAt dk_L_law_4 45 rfl) 632 rfl ?_
  refine x_iload C rfl (dkAt dk_L_law_4 46 rfl) 634 rfl ?_
  refine x_iconst C (v := (1 : Int32)) (by decide) (dkAt dk_L_law_4 47 rfl) 635 rfl ?_
  refine x_iadd C (dkAt dk_L_law_5 0 rfl) 636 rfl ?_
  refine x_sld C hX (dkAt dk_L_law_5 1 rfl) 637 rfl hf (fun v5 hf => ?_)
  refine x_aload_n C rfl rfl (dkAt dk_L_law_5 2 rfl) 638 rfl ?_
  refine x_iload C rfl (dkAt dk_L_law_5 3 rfl) 640 rfl ?_
  refine x_iconst C (v := (2 : Int32)) (by decide) (dkAt dk_L_law_5 4 rfl) 641 rfl ?_
  refine x_iadd C (dkAt dk_L_law_5 5 rfl) 642 rfl ?_
  refine x_sld C hX (dkAt dk_L_law_5 6 rfl) 643 rfl hf (fun v6 hf => ?_)
  obtain ⟨v7, M8, h13, hf⟩ := cl_inv hf
  refine x_cVi C (c_X12_gain hN h13) mw_X12_gain ln_RL_239 mi_X12_gain (hN.rc (ci := 12) sh108 rc12) (ro_law hcb (by decide) (by decide) (by decide) (by decide)) rfl rfl (Nat.le_of_ble_eq_true rfl) (dkAt dk_L_law_5 7 rfl) 646 rfl (cb + 3) (sb + 18) rfl rfl ?_
  refine x_istore C (L1 := [some (.ref b), some (.ref (wad Γ 0)), some (.ref (wad Γ 108)), some (.ref (wad Γ 124)), some (.ref (wad Γ 125)), some (.int i), some (.int v3), some (.int v7)]) (dkAt dk_L_law_5 8 rfl) 648 rfl (by decide) rfl ?_
  refine x_aload_n C rfl rfl (dkAt dk_L_law_5 9 rfl) 649 rfl ?_
  obtain ⟨v9, M10, h12, hf⟩ := cl_inv hf
  refine x_cVi C (c_X12_thrown hN h12) mw_X12_thrown ln_RL_202 mi_X12_thrown (hN.rc (ci := 12) sh108 rc12) (ro_law hcb (by decide) (by decide) (by decide) (by decide)) rfl rfl (Nat.le_of_ble_eq_true rfl) (dkAt dk_L_law_5 10 rfl) 652 rfl (cb + 3) (sb + 18) rfl rfl ?_
  refine x_iload C rfl (dkAt dk_L_law_5 11 rfl) 654 rfl ?_
  refine x_icmp_eq C 659 (dkAt dk_L_law_5 12 rfl) 657 rfl (by decide) hf (fun hf => ?_) (fun hf => ?_)
  · refine x_iload C rfl (dkAt dk_L_law_5 15 rfl) 661 rfl ?_
    refine x_if_ne C 676 (dkAt dk_L_law_5 16 rfl) 664 rfl (by decide) hf (fun hf => ?_) (fun hf => ?_)
    · refine x_goto C 3578 (dkAt dk_L_law_5 26 rfl) (by decide) ?_
      exact G.weak (L := [some (.ref b), some (.ref (wad Γ 0)), some (.ref (wad Γ 108)), some (.ref (wad Γ 124)), some (.ref (wad Γ 125)), some (.int i)]) ⟨rfl, rfl, rfl, rfl, rfl, rfl, trivial⟩ (G.wide (by omega) (by omega) (hj _ hf))
    · refine x_aload_n C rfl rfl (dkAt dk_L_law_5 17 rfl) 665 rfl ?_
      refine x_iconst C (v := (0 : Int32)) (by decide) (dkAt dk_L_law_5 18 rfl) 666 rfl ?_
      refine x_lald C (hN.sh sh124) (dkAt dk_L_law_5 19 rfl) 667 rfl hf (fun v11 hf => ?_)
      refine x_iload C rfl (dkAt dk_L_law_5 20 rfl) 669 rfl ?_
      refine x_i2l C (dkAt dk_L_law_5 21 rfl) 670 rfl ?_
      refine x_lcmp_eq C 676 (dkAt dk_L_law_5 22 rfl) 674 rfl (dkAt dk_L_law_5 23 rfl) (by decide) hf (fun hf => ?_) (fun hf => ?_)
      · refine x_goto C 3578 (dkAt dk_L_law_5 26 rfl) (by decide) ?_
        exact G.weak (L := [some (.ref b), some (.ref (wad Γ 0)), some (.ref (wad Γ 108)), some (.ref (wad Γ 124)), some (.ref (wad Γ 125)), some (.int i)]) ⟨rfl, rfl, rfl, rfl, rfl, rfl, trivial⟩ (G.wide (by omega) (by omega) (hj _ hf))
      · refine x_iconst C (v := (0 : Int32)) (by decide) (dkAt dk_L_law_5 24 rfl) 675 rfl ?_
        exact nomatch hf
  · refine x_iconst C (v := (0 : Int32)) (by decide) (dkAt dk_L_law_5 13 rfl) 658 rfl ?_
    exact nomatch hf
def f_law_11 (Z L : Nat) (xs : Nat → Int32) (M : Mem) (i : Int32) (j : Mem → Option Unit) : Option Unit :=
  rdX xs L (i + (1 : Int32)) (fun v1 => rdX xs L (i + (2 : Int32)) (fun v2 => rdX xs L (i + (3 : Int32)) (fun v3 => cl (f_L_uses Z M v1 v2 v3) (fun v4 M5 => rdX xs L (i + (1 : Int32)) (fun v6 => rdX xs L (i + (2 : Int32)) (fun v7 => rdX xs L (i + (3 : Int32)) (fun v8 => cl (f_X12_uses Z M5 v6 v7 v8) (fun v9 M10 => cl (f_X12_thrown Z M10) (fun v11 M12 => (if v11 = v4 then (if v4 = 0 then rdL M12 124 1 (0 : Int32) (fun v13 => (if v13 = v9.toInt64 then j M12 else none)) else j M12) else none))))))))))
set_option maxRecDepth 100000 in
theorem c_law_11 {Γ : WC} {X : MX} (hN : HN Γ) (hC : NC Γ) (C : CX Γ X cL_law 9 RL (some .boolean) room_1) {Z b L cb sb : Nat} {xs : Nat → Int32} (hX : SX Γ X b L xs) (hcb : cb + 8 ≤ 601024 ∧ sb + 48 ≤ 7293034) {M : Mem} {i : Int32} {j : Mem → Option Unit} {rM : Unit} (hj : ∀ M1, j M1 = some rM → G Γ X M1 (cb + 8) (sb + 48) [some (.ref b), some (.ref (wad Γ 0)), some (.ref (wad Γ 108)), some (.ref (wad Γ 124)), some (.ref (wad Γ 125)), some (.int i)] [] 3578) (hf : f_law_11 Z L xs M i j = some rM) : G Γ X M cb sb [some (.ref b), some (.ref (wad Γ 0)), some (.ref (wad Γ 108)), some (.ref (wad Γ 124)), some (.ref (wad Γ 125)), some (.int i)] [] 679 := by
  change G Γ X M (cb + 0) (sb + 0) _ _ _
  unfold f_law_11 at hf
  refine x_aload_n C rfl rfl (dkAt dk_L_law_5 27 rfl) 680 rfl ?_
  refine x_aload_n C rfl rfl (dkAt dk_L_law_5 28 rfl) 681 rfl ?_
  refine x_iload C rfl (dkAt dk_L_law_5 29 rfl) 683 rfl ?_
  refine x_iconst C (v := (1 : Int32)) (by decide) (dkAt dk_L_law_5 30 rfl) 684 rfl ?_
  refine x_iadd C (dkAt dk_L_law_5 31 rfl) 685 rfl ?_
  refine x_sld C hX (dkAt dk_L_law_5 32 rfl) 686 rfl hf (fun v1 hf => ?_)
  refine x_aload_n C rfl rfl (dkAt dk_L_law_5 33 rfl) 687 rfl ?_
  refine x_iload C rfl (dkAt dk_L_law_5 34 rfl) 689 rfl ?_
  refine x_iconst C (v := (2 : Int32)) (by decide) (dkAt dk_L_law_5 35 rfl) 690 rfl ?_
  refine x_iadd C (dkAt dk_L_law_5 36 rfl) 691 rfl ?_
  refine x_sld C hX (dkAt dk_L_law_5 37 rfl) 692 rfl hf (fun v2 hf => ?_)
  refine x_aload_n C rfl rfl (dkAt dk_L_law_5 38 rfl) 693 rfl ?_
  refine x_iload C rfl (dkAt dk_L_law_5 39 rfl) 695 rfl ?_
  refine x_iconst C (v := (3 : Int32)) (by decide) (dkAt dk_L_law_5 40 rfl) 696 rfl ?_
  refine x_iadd C (dkAt dk_L_law_5 41 rfl) 697 rfl ?_
  refine x_sld C hX (dkAt dk_L_law_5 42 rfl) 698 rfl hf (fun v3 hf => ?_)
  refine x_aload_n C rfl rfl (dkAt dk_L_law_5 43 rfl) 699 rfl ?_
  obtain ⟨v4, M5, h16, hf⟩ := cl_inv hf
  refine x_cW C (c_L_uses hN hC h16) mww_L_uses ln_RL_240 (ro_law hcb (by decide) (by decide) (by decide) (by decide)) rfl rfl (Nat.le_of_ble_eq_true rfl) (dkAt dk_L_law_5 44 rfl) 702 rfl (cb + 5) (sb + 30) rfl rfl ?_
  refine x_istore C (L1 := [some (.ref b), some (.ref (wad Γ 0)), some (.ref (wad Γ 108)), some (.ref (wad Γ 124)), some (.ref (wad Γ 125)), some (.int i), some (.int v4)]) (dkAt dk_L_law_5 45 rfl) 704 rfl (by decide) rfl ?_
  refine x_aload_n C rfl rfl (dkAt dk_L_law_5 46 rfl) 705 rfl ?_
  refine x_aload_n C rfl rfl (dkAt dk_L_law_5 47 rfl) 706 rfl ?_
  refine x_iload C rfl (dkAt dk_L_law_6 0 rfl) 708 rfl ?_
  refine x_iconst C (v := (1 : Int32)) (by decide) (dkAt dk_L_law_6 1 rfl) 709 rfl ?_
  refine x_iadd C (dkAt dk_L_law_6 2 rfl) 710 rfl ?_
  refine x_sld C hX (dkAt dk_L_law_6 3 rfl) 711 rfl hf (fun v6 hf => ?_)
  refine x_aload_n C rfl rfl (dkAt dk_L_law_6 4 rfl) 712 rfl ?_
  refine x_iload C rfl (dkAt dk_L_law_6 5 rfl) 714 rfl ?_
  refine x_iconst C (v := (2 : Int32)) (by decide) (dkAt dk_L_law_6 6 rfl) 715 rfl ?_
  refine x_iadd C (dkAt dk_L_law_6 7 rfl) 716 rfl ?_
  refine x_sld C hX (dkAt dk_L_law_6 8 rfl) 717 rfl hf (fun v7 hf => ?_)
  refine x_aload_n C rfl rfl (dkAt dk_L_law_6 9 rfl) 718 rfl ?_
  refine x_iload C rfl (dkAt dk_L_law_6 10 rfl) 720 rfl ?_
  refine x_iconst C (v := (3 : Int32)) (by decide) (dkAt dk_L_law_6 11 rfl) 721 rfl ?_
  refine x_iadd C (dkAt dk_L_law_6 12 rfl) 722 rfl ?_
  refine x_sld C hX (dkAt dk_L_law_6 13 rfl) 723 rfl hf (fun v8 hf => ?_)
  obtain ⟨v9, M10, h15, hf⟩ := cl_inv hf
  refine x_cVi C (c_X12_uses hN h15) mw_X12_uses ln_RL_243 mi_X12_uses (hN.rc (ci := 12) sh108 rc12) (ro_law hcb (by decide) (by decide) (by decide) (by decide)) rfl rfl (Nat.le_of_ble_eq_true rfl) (dkAt dk_L_law_6 14 rfl) 726 rfl (cb + 5) (sb + 30) rfl rfl ?_
  refine x_istore C (L1 := [some (.ref b), some (.ref (wad Γ 0)), some (.ref (wad Γ 108)), some (.ref (wad Γ 124)), some (.ref (wad Γ 125)), some (.int i), some (.int v4), some (.int v9)]) (dkAt dk_L_law_6 15 rfl) 728 rfl (by decide) rfl ?_
  refine x_aload_n C rfl rfl (dkAt dk_L_law_6 16 rfl) 729 rfl ?_
  obtain ⟨v11, M12, h14, hf⟩ := cl_inv hf
  refine x_cVi C (c_X12_thrown hN h14) mw_X12_thrown ln_RL_202 mi_X12_thrown (hN.rc (ci := 12) sh108 rc12) (ro_law hcb (by decide) (by decide) (by decide) (by decide)) rfl rfl (Nat.le_of_ble_eq_true rfl) (dkAt dk_L_law_6 17 rfl) 732 rfl (cb + 5) (sb + 30) rfl rfl ?_
  refine x_iload C rfl (dkAt dk_L_law_6 18 rfl) 734 rfl ?_
  refine x_icmp_eq C 739 (dkAt dk_L_law_6 19 rfl) 737 rfl (by decide) hf (fun hf => ?_) (fun hf => ?_)
  · refine x_iload C rfl (dkAt dk_L_law_6 22 rfl) 741 rfl ?_
    refine x_if_ne C 756 (dkAt dk_L_law_6 23 rfl) 744 rfl (by decide) hf (fun hf => ?_) (fun hf => ?_)
    · refine x_goto C 3578 (dkAt dk_L_law_6 33 rfl) (by decide) ?_
      exact G.weak (L := [some (.ref b), some (.ref (wad Γ 0)), some (.ref (wad Γ 108)), some (.ref (wad Γ 124)), some (.ref (wad Γ 125)), some (.int i)]) ⟨rfl, rfl, rfl, rfl, rfl, rfl, trivial⟩ (G.wide (by omega) (by omega) (hj _ hf))
    · refine x_aload_n C rfl rfl (dkAt dk_L_law_6 24 rfl) 745 rfl ?_
      refine x_iconst C (v := (0 : Int32)) (by decide) (dkAt dk_L_law_6 25 rfl) 746 rfl ?_
      refine x_lald C (hN.sh sh124) (dkAt dk_L_law_6 26 rfl) 747 rfl hf (fun v13 hf => ?_)
      refine x_iload C rfl (dkAt dk_L_law_6 27 rfl) 749 rfl ?_
      refine x_i2l C (dkAt dk_L_law_6 28 rfl) 750 rfl ?_
      refine x_lcmp_eq C 756 (dkAt dk_L_law_6 29 rfl) 754 rfl (dkAt dk_L_law_6 30 rfl) (by decide) hf (fun hf => ?_) (fun hf => ?_)
      · refine x_goto C 3578 (dkAt dk_L_law_6 33 rfl) (by decide) ?_
        exact G.weak (L := [some (.ref b), some (.ref (wad Γ 0)), some (.ref (wad Γ 108)), some (.ref (wad Γ 124)), some (.ref (wad Γ 125)), some (.int i)]) ⟨rfl, rfl, rfl, rfl, rfl, rfl, trivial⟩ (G.wide (by omega) (by omega) (hj _ hf))
      · refine x_iconst C (v := (0 : Int32)) (by decide) (dkAt dk_L_law_6 31 rfl) 755 rfl ?_
        exact nomatch hf
  · refine x_iconst C (v := (0 : Int32)) (by decide) (dkAt dk_L_law_6 20 rfl) 738 rfl ?_
    exact nomatch hf
def f_law_12 (Z L : Nat) (xs : Nat → Int32) (M : Mem) (i : Int32) (j : Mem → Option Unit) : Option Unit :=
  rdX xs L (i + (1 : Int32)) (fun v1 => rdX xs L (i + (2 : Int32)) (fun v2 => rdX xs L (i + (3 : Int32)) (fun v3 => cl (f_L_percent Z M v1 v2 v3) (fun v4 M5 => rdX xs L (i + (1 : Int32)) (fun v6 => rdX xs L (i + (2 : Int32)) (fun v7 => rdX xs L (i + (3 : Int32)) (fun v8 => cl (f_X12_percent Z M5 v6 v7 v8) (fun v9 M10 => cl (f_X12_thrown Z M10) (fun v11 M12 => (if v11 = v4 then (if v4 = 0 then rdL M12 124 1 (0 : Int32) (fun v13 => (if v13 = v9.toInt64 then j M12 else none)) else j M12) else none))))))))))
set_option maxRecDepth 100000 in
theorem c_law_12 {Γ : WC} {X : MX} (hN : HN Γ) (hC : NC Γ) (C : CX Γ X cL_law 9 RL (some .boolean) room_1) {Z b L cb sb : Nat} {xs : Nat → Int32} (hX : SX Γ X b L xs) (hcb : cb + 8 ≤ 601024 ∧ sb + 48 ≤ 7293034) {M : Mem} {i : Int32} {j : Mem → Option Unit} {rM : Unit} (hj : ∀ M1, j M1 = some rM → G Γ X M1 (cb + 8) (sb + 48) [some (.ref b), some (.ref (wad Γ 0)), some (.ref (wad Γ 108)), some (.ref (wad Γ 124)), some (.ref (wad Γ 125)), some (.int i)] [] 3578) (hf : f_law_12 Z L xs M i j = some rM) : G Γ X M cb sb [some (.ref b), some (.ref (wad Γ 0)), some (.ref (wad Γ 108)), some (.ref (wad Γ 124)), some (.ref (wad Γ 125)), some (.int i)] [] 759 := by
  change G Γ X M (cb + 0) (sb + 0) _ _ _
  unfold f_law_12 at hf
  refine x_aload_n C rfl rfl (dkAt dk_L_law_6 34 rfl) 760 rfl ?_
  refine x_aload_n C rfl rfl (dkAt dk_L_law_6 35 rfl) 761 rfl ?_
  refine x_iload C rfl (dkAt dk_L_law_6 36 rfl) 763 rfl ?_
  refine x_iconst C (v := (1 : Int32)) (by decide) (dkAt dk_L_law_6 37 rfl) 764 rfl ?_
  refine x_iadd C (dkAt dk_L_law_6 38 rfl) 765 rfl ?_
  refine x_sld C hX (dkAt dk_L_law_6 39 rfl) 766 rfl hf (fun v1 hf => ?_)
  refine x_aload_n C rfl rfl (dkAt dk_L_law_6 40 rfl) 767 rfl ?_
  refine x_iload C rfl (dkAt dk_L_law_6 41 rfl) 769 rfl ?_
  refine x_iconst C (v := (2 : Int32)) (by decide) (dkAt dk_L_law_6 42 rfl) 770 rfl ?_
  refine x_iadd C (dkAt dk_L_law_6 43 rfl) 771 rfl ?_
  refine x_sld C hX (dkAt dk_L_law_6 44 rfl) 772 rfl hf (fun v2 hf => ?_)
  refine x_aload_n C rfl rfl (dkAt dk_L_law_6 45 rfl) 773 rfl ?_
  refine x_iload C rfl (dkAt dk_L_law_6 46 rfl) 775 rfl ?_
  refine x_iconst C (v := (3 : Int32)) (by decide) (dkAt dk_L_law_6 47 rfl) 776 rfl ?_
  refine x_iadd C (dkAt dk_L_law_7 0 rfl) 777 rfl ?_
  refine x_sld C hX (dkAt dk_L_law_7 1 rfl) 778 rfl hf (fun v3 hf => ?_)
  refine x_aload_n C rfl rfl (dkAt dk_L_law_7 2 rfl) 779 rfl ?_
  obtain ⟨v4, M5, h16, hf⟩ := cl_inv hf
  refine x_cW C (c_L_percent hN hC h16) mww_L_percent ln_RL_244 (ro_law hcb (by decide) (by decide) (by decide) (by decide)) rfl rfl (Nat.le_of_ble_eq_true rfl) (dkAt dk_L_law_7 3 rfl) 782 rfl (cb + 5) (sb + 30) rfl rfl ?_
  refine x_istore C (L1 := [some (.ref b), some (.ref (wad Γ 0)), some (.ref (wad Γ 108)), some (.ref (wad Γ 124)), some (.ref (wad Γ 125)), some (.int i), some (.int v4)]) (dkAt dk_L_law_7 4 rfl) 784 rfl (by decide) rfl ?_
  refine x_aload_n C rfl rfl (dkAt dk_L_law_7 5 rfl) 785 rfl ?_
  refine x_aload_n C rfl rfl (dkAt dk_L_law_7 6 rfl) 786 rfl ?_
  refine x_iload C rfl (dkAt dk_L_law_7 7 rfl) 788 rfl ?_
  refine x_iconst C (v := (1 : Int32)) (by decide) (dkAt dk_L_law_7 8 rfl) 789 rfl ?_
  refine x_iadd C (dkAt dk_L_law_7 9 rfl) 790 rfl ?_
  refine x_sld C hX (dkAt dk_L_law_7 10 rfl) 791 rfl hf (fun v6 hf => ?_)
  refine x_aload_n C rfl rfl (dkAt dk_L_law_7 11 rfl) 792 rfl ?_
  refine x_iload C rfl (dkAt dk_L_law_7 12 rfl) 794 rfl ?_
  refine x_iconst C (v := (2 : Int32)) (by decide) (dkAt dk_L_law_7 13 rfl) 795 rfl ?_
  refine x_iadd C (dkAt dk_L_law_7 14 rfl) 796 rfl ?_
  refine x_sld C hX (dkAt dk_L_law_7 15 rfl) 797 rfl hf (fun v7 hf => ?_)
  refine x_aload_n C rfl rfl (dkAt dk_L_law_7 16 rfl) 798 rfl ?_
  refine x_iload C rfl (dkAt dk_L_law_7 17 rfl) 800 rfl ?_
  refine x_iconst C (v := (3 : Int32)) (by decide) (dkAt dk_L_law_7 18 rfl) 801 rfl ?_
  refine x_iadd C (dkAt dk_L_law_7 19 rfl) 802 rfl ?_
  refine x_sld C hX (dkAt dk_L_law_7 20 rfl) 803 rfl hf (fun v8 hf => ?_)
  obtain ⟨v9, M10, h15, hf⟩ := cl_inv hf
  refine x_cVi C (c_X12_percent hN h15) mw_X12_percent ln_RL_246 mi_X12_percent (hN.rc (ci := 12) sh108 rc12) (ro_law hcb (by decide) (by decide) (by decide) (by decide)) rfl rfl (Nat.le_of_ble_eq_true rfl) (dkAt dk_L_law_7 21 rfl) 806 rfl (cb + 5) (sb + 30) rfl rfl ?_
  refine x_istore C (L1 := [some (.ref b), some (.ref (wad Γ 0)), some (.ref (wad Γ 108)), some (.ref (wad Γ 124)), some (.ref (wad Γ 125)), some (.int i), some (.int v4), some (.int v9)]) (dkAt dk_L_law_7 22 rfl) 808 rfl (by decide) rfl ?_
  refine x_aload_n C rfl rfl (dkAt dk_L_law_7 23 rfl) 809 rfl ?_
  obtain ⟨v11, M12, h14, hf⟩ := cl_inv hf
  refine x_cVi C (c_X12_thrown hN h14) mw_X12_thrown ln_RL_202 mi_X12_thrown (hN.rc (ci := 12) sh108 rc12) (ro_law hcb (by decide) (by decide) (by decide) (by decide)) rfl rfl (Nat.le_of_ble_eq_true rfl) (dkAt dk_L_law_7 24 rfl) 812 rfl (cb + 5) (sb + 30) rfl rfl ?_
  refine x_iload C rfl (dkAt dk_L_law_7 25 rfl) 814 rfl ?_
  refine x_icmp_eq C 819 (dkAt dk_L_law_7 26 rfl) 817 rfl (by decide) hf (fun hf => ?_) (fun hf => ?_)
  · refine x_iload C rfl (dkAt dk_L_law_7 29 rfl) 821 rfl ?_
    refine x_if_ne C 836 (dkAt dk_L_law_7 30 rfl) 824 rfl (by decide) hf (fun hf => ?_) (fun hf => ?_)
    · refine x_goto C 3578 (dkAt dk_L_law_7 40 rfl) (by decide) ?_
      exact G.weak (L := [some (.ref b), some (.ref (wad Γ 0)), some (.ref (wad Γ 108)), some (.ref (wad Γ 124)), some (.ref (wad Γ 125)), some (.int i)]) ⟨rfl, rfl, rfl, rfl, rfl, rfl, trivial⟩ (G.wide (by omega) (by omega) (hj _ hf))
    · refine x_aload_n C rfl rfl (dkAt dk_L_law_7 31 rfl) 825 rfl ?_
      refine x_iconst C (v := (0 : Int32)) (by decide) (dkAt dk_L_law_7 32 rfl) 826 rfl ?_
      refine x_lald C (hN.sh sh124) (dkAt dk_L_law_7 33 rfl) 827 rfl hf (fun v13 hf => ?_)
      refine x_iload C rfl (dkAt dk_L_law_7 34 rfl) 829 rfl ?_
      refine x_i2l C (dkAt dk_L_law_7 35 rfl) 830 rfl ?_
      refine x_lcmp_eq C 836 (dkAt dk_L_law_7 36 rfl) 834 rfl (dkAt dk_L_law_7 37 rfl) (by decide) hf (fun hf => ?_) (fun hf => ?_)
      · refine x_goto C 3578 (dkAt dk_L_law_7 40 rfl) (by decide) ?_
        exact G.weak (L := [some (.ref b), some (.ref (wad Γ 0)), some (.ref (wad Γ 108)), some (.ref (wad Γ 124)), some (.ref (wad Γ 125)), some (.int i)]) ⟨rfl, rfl, rfl, rfl, rfl, rfl, trivial⟩ (G.wide (by omega) (by omega) (hj _ hf))
      · refine x_iconst C (v := (0 : Int32)) (by decide) (dkAt dk_L_law_7 38 rfl) 835 rfl ?_
        exact nomatch hf
  · refine x_iconst C (v := (0 : Int32)) (by decide) (dkAt dk_L_law_7 27 rfl) 818 rfl ?_
    exact nomatch hf
def f_law_13 (Z L : Nat) (xs : Nat → Int32) (M : Mem) (i : Int32) (j : Mem → Option Unit) : Option Unit :=
  rdX xs L (i + (1 : Int32)) (fun v1 => rdX xs L (i + (2 : Int32)) (fun v2 => cl (f_L_weight Z M v1 v2) (fun v3 M4 => rdX xs L (i + (1 : Int32)) (fun v5 => rdX xs L (i + (2 : Int32)) (fun v6 => cl (f_X12_weight Z M4 v5 v6) (fun v7 M8 => cl (f_X12_thrown Z M8) (fun v9 M10 => (if v9 = v3 then (if v3 = 0 then rdL M10 124 1 (0 : Int32) (fun v11 => (if v11 = v7.toInt64 then j M10 else none)) else j M10) else none))))))))
set_option maxRecDepth 100000 in
theorem c_law_13 {Γ : WC} {X : MX} (hN : HN Γ) (hC : NC Γ) (C : CX Γ X cL_law 9 RL (some .boolean) room_1) {Z b L cb sb : Nat} {xs : Nat → Int32} (hX : SX Γ X b L xs) (hcb : cb + 8 ≤ 601024 ∧ sb + 48 ≤ 7293034) {M : Mem} {i : Int32} {j : Mem → Option Unit} {rM : Unit} (hj : ∀ M1, j M1 = some rM → G Γ X M1 (cb + 8) (sb + 48) [some (.ref b), some (.ref (wad Γ 0)), some (.ref (wad Γ 108)), some (.ref (wad Γ 124)), some (.ref (wad Γ 125)), some (.int i)] [] 3578) (hf : f_law_13 Z L xs M i j = some rM) : G Γ X M cb sb [some (.ref b), some (.ref (wad Γ 0)), some (.ref (wad Γ 108)), some (.ref (wad Γ 124)), some (.ref (wad Γ 125)), some (.int i)] [] 839 := by
  change G Γ X M (cb + 0) (sb + 0) _ _ _
  unfold f_law_13 at hf
  refine x_aload_n C rfl rfl (dkAt dk_L_law_7 41 rfl) 840 rfl ?_
  refine x_aload_n C rfl rfl (dkAt dk_L_law_7 42 rfl) 841 rfl ?_
  refine x_iload C rfl (dkAt dk_L_law_7 43 rfl) 843 rfl ?_
  refine x_iconst C (v := (1 : Int32)) (by decide) (dkAt dk_L_law_7 44 rfl) 844 rfl ?_
  refine x_iadd C (dkAt dk_L_law_7 45 rfl) 845 rfl ?_
  refine x_sld C hX (dkAt dk_L_law_7 46 rfl) 846 rfl hf (fun v1 hf => ?_)
  refine x_aload_n C rfl rfl (dkAt dk_L_law_7 47 rfl) 847 rfl ?_
  refine x_iload C rfl (dkAt dk_L_law_8 0 rfl) 849 rfl ?_
  refine x_iconst C (v := (2 : Int32)) (by decide) (dkAt dk_L_law_8 1 rfl) 850 rfl ?_
  refine x_iadd C (dkAt dk_L_law_8 2 rfl) 851 rfl ?_
  refine x_sld C hX (dkAt dk_L_law_8 3 rfl) 852 rfl hf (fun v2 hf => ?_)
  refine x_aload_n C rfl rfl (dkAt dk_L_law_8 4 rfl) 853 rfl ?_
  obtain ⟨v3, M4, h14, hf⟩ := cl_inv hf
  refine x_cW C (c_L_weight hN hC h14) mww_L_weight ln_RL_247 (ro_law hcb (by decide) (by decide) (by decide) (by decide)) rfl rfl (Nat.le_of_ble_eq_true rfl) (dkAt dk_L_law_8 5 rfl) 856 rfl (cb + 3) (sb + 18) rfl rfl ?_
  refine x_istore C (L1 := [some (.ref b), some (.ref (wad Γ 0)), some (.ref (wad Γ 108)), some (.ref (wad Γ 124)), some (.ref (wad Γ 125)), some (.int i), some (.int v3)]) (dkAt dk_L_law_8 6 rfl) 858 rfl (by decide) rfl ?_
  refine x_aload_n C rfl rfl (dkAt dk_L_law_8 7 rfl) 859 rfl ?_
  refine x_aload_n C rfl rfl (dkAt dk_L_law_8 8 rfl) 860 rfl ?_
  refine x_iload C rfl (dkAt dk_L_law_8 9 rfl) 862 rfl ?_
  refine x_iconst C (v := (1 : Int32)) (by decide) (dkAt dk_L_law_8 10 rfl) 863 rfl ?_
  refine x_iadd C (dkAt dk_L_law_8 11 rfl) 864 rfl ?_
  refine x_sld C hX (dkAt dk_L_law_8 12 rfl) 865 rfl hf (fun v5 hf => ?_)
  refine x_aload_n C rfl rfl (dkAt dk_L_law_8 13 rfl) 866 rfl ?_
  refine x_iload C rfl (dkAt dk_L_law_8 14 rfl) 868 rfl ?_
  refine x_iconst C (v := (2 : Int32)) (by decide) (dkAt dk_L_law_8 15 rfl) 869 rfl ?_
  refine x_iadd C (dkAt dk_L_law_8 16 rfl) 870 rfl ?_
  refine x_sld C hX (dkAt dk_L_law_8 17 rfl) 871 rfl hf (fun v6 hf => ?_)
  obtain ⟨v7, M8, h13, hf⟩ := cl_inv hf
  refine x_cVi C (c_X12_weight hN h13) mw_X12_weight ln_RL_249 mi_X12_weight (hN.rc (ci := 12) sh108 rc12) (ro_law hcb (by decide) (by decide) (by decide) (by decide)) rfl rfl (Nat.le_of_ble_eq_true rfl) (dkAt dk_L_law_8 18 rfl) 874 rfl (cb + 3) (sb + 18) rfl rfl ?_
  refine x_istore C (L1 := [some (.ref b), some (.ref (wad Γ 0)), some (.ref (wad Γ 108)), some (.ref (wad Γ 124)), some (.ref (wad Γ 125)), some (.int i), some (.int v3), some (.int v7)]) (dkAt dk_L_law_8 19 rfl) 876 rfl (by decide) rfl ?_
  refine x_aload_n C rfl rfl (dkAt dk_L_law_8 20 rfl) 877 rfl ?_
  obtain ⟨v9, M10, h12, hf⟩ := cl_inv hf
  refine x_cVi C (c_X12_thrown hN h12) mw_X12_thrown ln_RL_202 mi_X12_thrown (hN.rc (ci := 12) sh108 rc12) (ro_law hcb (by decide) (by decide) (by decide) (by decide)) rfl rfl (Nat.le_of_ble_eq_true rfl) (dkAt dk_L_law_8 21 rfl) 880 rfl (cb + 3) (sb + 18) rfl rfl ?_
  refine x_iload C rfl (dkAt dk_L_law_8 22 rfl) 882 rfl ?_
  refine x_icmp_eq C 887 (dkAt dk_L_law_8 23 rfl) 885 rfl (by decide) hf (fun hf => ?_) (fun hf => ?_)
  · refine x_iload C rfl (dkAt dk_L_law_8 26 rfl) 889 rfl ?_
    refine x_if_ne C 904 (dkAt dk_L_law_8 27 rfl) 892 rfl (by decide) hf (fun hf => ?_) (fun hf => ?_)
    · refine x_goto C 3578 (dkAt dk_L_law_8 37 rfl) (by decide) ?_
      exact G.weak (L := [some (.ref b), some (.ref (wad Γ 0)), some (.ref (wad Γ 108)), some (.ref (wad Γ 124)), some (.ref (wad Γ 125)), some (.int i)]) ⟨rfl, rfl, rfl, rfl, rfl, rfl, trivial⟩ (G.wide (by omega) (by omega) (hj _ hf))
    · refine x_aload_n C rfl rfl (dkAt dk_L_law_8 28 rfl) 893 rfl ?_
      refine x_iconst C (v := (0 : Int32)) (by decide) (dkAt dk_L_law_8 29 rfl) 894 rfl ?_
      refine x_lald C (hN.sh sh124) (dkAt dk_L_law_8 30 rfl) 895 rfl hf (fun v11 hf => ?_)
      refine x_iload C rfl (dkAt dk_L_law_8 31 rfl) 897 rfl ?_
      refine x_i2l C (dkAt dk_L_law_8 32 rfl) 898 rfl ?_
      refine x_lcmp_eq C 904 (dkAt dk_L_law_8 33 rfl) 902 rfl (dkAt dk_L_law_8 34 rfl) (by decide) hf (fun hf => ?_) (fun hf => ?_)
      · refine x_goto C 3578 (dkAt dk_L_law_8 37 rfl) (by decide) ?_
        exact G.weak (L := [some (.ref b), some (.ref (wad Γ 0)), some (.ref (wad Γ 108)), some (.ref (wad Γ 124)), some (.ref (wad Γ 125)), some (.int i)]) ⟨rfl, rfl, rfl, rfl, rfl, rfl, trivial⟩ (G.wide (by omega) (by omega) (hj _ hf))
      · refine x_iconst C (v := (0 : Int32)) (by decide) (dkAt dk_L_law_8 35 rfl) 903 rfl ?_
        exact nomatch hf
  · refine x_iconst C (v := (0 : Int32)) (by decide) (dkAt dk_L_law_8 24 rfl) 886 rfl ?_
    exact nomatch hf
def f_law_14 (Z L : Nat) (xs : Nat → Int32) (M : Mem) (i : Int32) (j : Mem → Option Unit) : Option Unit :=
  rdX xs L (i + (1 : Int32)) (fun v1 => rdX xs L (i + (2 : Int32)) (fun v2 => cl (f_L_isPermitted Z M v1 v2) (fun v3 M4 => rdX xs L (i + (1 : Int32)) (fun v5 => rdX xs L (i + (2 : Int32)) (fun v6 => cl (f_X12_isPermitted Z M4 v5 v6) (fun v7 M8 => cl (f_X12_thrown Z M8) (fun v9 M10 => (if v9 = v3 then (if v3 = 0 then rdL M10 124 1 (0 : Int32) (fun v11 => jn (fun (t12 : Int64) => (if v11 = t12 then j M10 else none)) (fun j13 => (if v7 = 0 then j13 (0 : Int64) else j13 (1 : Int64)))) else j M10) else none))))))))
set_option maxRecDepth 100000 in
theorem c_law_14 {Γ : WC} {X : MX} (hN : HN Γ) (hC : NC Γ) (C : CX Γ X cL_law 9 RL (some .boolean) room_1) {Z b L cb sb : Nat} {xs : Nat → Int32} (hX : SX Γ X b L xs) (hcb : cb + 8 ≤ 601024 ∧ sb + 48 ≤ 7293034) {M : Mem} {i : Int32} {j : Mem → Option Unit} {rM : Unit} (hj : ∀ M1, j M1 = some rM → G Γ X M1 (cb + 8) (sb + 48) [some (.ref b), some (.ref (wad Γ 0)), some (.ref (wad Γ 108)), some (.ref (wad Γ 124)), some (.ref (wad Γ 125)), some (.int i)] [] 3578) (hf : f_law_14 Z L xs M i j = some rM) : G Γ X M cb sb [some (.ref b), some (.ref (wad Γ 0)), some (.ref (wad Γ 108)), some (.ref (wad Γ 124)), some (.ref (wad Γ 125)), some (.int i)] [] 907 := by
  change G Γ X M (cb + 0) (sb + 0) _ _ _
  unfold f_law_14 at hf
  refine x_aload_n C rfl rfl (dkAt dk_L_law_8 38 rfl) 908 rfl ?_
  refine x_aload_n C rfl rfl (dkAt dk_L_law_8 39 rfl) 909 rfl ?_
  refine x_iload C rfl (dkAt dk_L_law_8 40 rfl) 911 rfl ?_
  refine x_iconst C (v := (1 : Int32)) (by decide) (dkAt dk_L_law_8 41 rfl) 912 rfl ?_
  refine x_iadd C (dkAt dk_L_law_8 42 rfl) 913 rfl ?_
  refine x_sld C hX (dkAt dk_L_law_8 43 rfl) 914 rfl hf (fun v1 hf => ?_)
  refine x_aload_n C rfl rfl (dkAt dk_L_law_8 44 rfl) 915 rfl ?_
  refine x_iload C rfl (dkAt dk_L_law_8 45 rfl) 917 rfl ?_
  refine x_iconst C (v := (2 : Int32)) (by decide) (dkAt dk_L_law_8 46 rfl) 918 rfl ?_
  refine x_iadd C (dkAt dk_L_law_8 47 rfl) 919 rfl ?_
  refine x_sld C hX (dkAt dk_L_law_9 0 rfl) 920 rfl hf (fun v2 hf => ?_)
  refine x_aload_n C rfl rfl (dkAt dk_L_law_9 1 rfl) 921 rfl ?_
  obtain ⟨v3, M4, h16, hf⟩ := cl_inv hf
  refine x_cW C (c_L_isPermitted hN hC h16) mww_L_isPermitted ln_RL_250 (ro_law hcb (by decide) (by decide) (by decide) (by decide)) rfl rfl (Nat.le_of_ble_eq_true rfl) (dkAt dk_L_law_9 2 rfl) 924 rfl (cb + 3) (sb + 18) rfl rfl ?_
  refine x_istore C (L1 := [some (.ref b), some (.ref (wad Γ 0)), some (.ref (wad Γ 108)), some (.ref (wad Γ 124)), some (.ref (wad Γ 125)), some (.int i), some (.int v3)]) (dkAt dk_L_law_9 3 rfl) 926 rfl (by decide) rfl ?_
  refine x_aload_n C rfl rfl (dkAt dk_L_law_9 4 rfl) 927 rfl ?_
  refine x_aload_n C rfl rfl (dkAt dk_L_law_9 5 rfl) 928 rfl ?_
  refine x_iload C rfl (dkAt dk_L_law_9 6 rfl) 930 rfl ?_
  refine x_iconst C (v := (1 : Int32)) (by decide) (dkAt dk_L_law_9 7 rfl) 931 rfl ?_
  refine x_iadd C (dkAt dk_L_law_9 8 rfl) 932 rfl ?_
  refine x_sld C hX (dkAt dk_L_law_9 9 rfl) 933 rfl hf (fun v5 hf => ?_)
  refine x_aload_n C rfl rfl (dkAt dk_L_law_9 10 rfl) 934 rfl ?_
  refine x_iload C rfl (dkAt dk_L_law_9 11 rfl) 936 rfl ?_
  refine x_iconst C (v := (2 : Int32)) (by decide) (dkAt dk_L_law_9 12 rfl) 937 rfl ?_
  refine x_iadd C (dkAt dk_L_law_9 13 rfl) 938 rfl ?_
  refine x_sld C hX (dkAt dk_L_law_9 14 rfl) 939 rfl hf (fun v6 hf => ?_)
  obtain ⟨v7, M8, h15, hf⟩ := cl_inv hf
  refine x_cVi C (c_X12_isPermitted hN h15) mw_X12_isPermitted ln_RL_252 mi_X12_isPermitted (hN.rc (ci := 12) sh108 rc12) (ro_law hcb (by decide) (by decide) (by decide) (by decide)) rfl rfl (Nat.le_of_ble_eq_true rfl) (dkAt dk_L_law_9 15 rfl) 942 rfl (cb + 3) (sb + 18) rfl rfl ?_
  refine x_istore C (L1 := [some (.ref b), some (.ref (wad Γ 0)), some (.ref (wad Γ 108)), some (.ref (wad Γ 124)), some (.ref (wad Γ 125)), some (.int i), some (.int v3), some (.int v7)]) (dkAt dk_L_law_9 16 rfl) 944 rfl (by decide) rfl ?_
  refine x_aload_n C rfl rfl (dkAt dk_L_law_9 17 rfl) 945 rfl ?_
  obtain ⟨v9, M10, h14, hf⟩ := cl_inv hf
  refine x_cVi C (c_X12_thrown hN h14) mw_X12_thrown ln_RL_202 mi_X12_thrown (hN.rc (ci := 12) sh108 rc12) (ro_law hcb (by decide) (by decide) (by decide) (by decide)) rfl rfl (Nat.le_of_ble_eq_true rfl) (dkAt dk_L_law_9 18 rfl) 948 rfl (cb + 3) (sb + 18) rfl rfl ?_
  refine x_iload C rfl (dkAt dk_L_law_9 19 rfl) 950 rfl ?_
  refine x_icmp_eq C 955 (dkAt dk_L_law_9 20 rfl) 953 rfl (by decide) hf (fun hf => ?_) (fun hf => ?_)
  · refine x_iload C rfl (dkAt dk_L_law_9 23 rfl) 957 rfl ?_
    refine x_if_ne C 979 (dkAt dk_L_law_9 24 rfl) 960 rfl (by decide) hf (fun hf => ?_) (fun hf => ?_)
    · refine x_goto C 3578 (dkAt dk_L_law_9 37 rfl) (by decide) ?_
      exact G.weak (L := [some (.ref b), some (.ref (wad Γ 0)), some (.ref (wad Γ 108)), some (.ref (wad Γ 124)), some (.ref (wad Γ 125)), some (.int i)]) ⟨rfl, rfl, rfl, rfl, rfl, rfl, trivial⟩ (G.wide (by omega) (by omega) (hj _ hf))
    · refine x_aload_n C rfl rfl (dkAt dk_L_law_9 25 rfl) 961 rfl ?_
      refine x_iconst C (v := (0 : Int32)) (by decide) (dkAt dk_L_law_9 26 rfl) 962 rfl ?_
      refine x_lald C (hN.sh sh124) (dkAt dk_L_law_9 27 rfl) 963 rfl hf (fun v11 hf => ?_)
      refine x_iload C rfl (dkAt dk_L_law_9 28 rfl) 965 rfl ?_
      refine x_join hf (fun t12 => G Γ X M10 (cb + 3) (sb + 18) [some (.ref b), some (.ref (wad Γ 0)), some (.ref (wad Γ 108)), some (.ref (wad Γ 124)), some (.ref (wad Γ 125)), some (.int i)] [.long t12, .long v11] 973) (fun t12 hf => ?_) (fun j13 hj13 hf => ?_)
      · refine x_lcmp_eq C 979 (dkAt dk_L_law_9 33 rfl) 977 rfl (dkAt dk_L_law_9 34 rfl) (by decide) hf (fun hf => ?_) (fun hf => ?_)
        · refine x_goto C 3578 (dkAt dk_L_law_9 37 rfl) (by decide) ?_
          exact G.weak (L := [some (.ref b), some (.ref (wad Γ 0)), some (.ref (wad Γ 108)), some (.ref (wad Γ 124)), some (.ref (wad Γ 125)), some (.int i)]) ⟨rfl, rfl, rfl, rfl, rfl, rfl, trivial⟩ (G.wide (by omega) (by omega) (hj _ hf))
        · refine x_iconst C (v := (0 : Int32)) (by decide) (dkAt dk_L_law_9 35 rfl) 978 rfl ?_
          exact nomatch hf
      · refine x_if_eq C 972 (dkAt dk_L_law_9 29 rfl) 968 rfl (by decide) hf (fun hf => ?_) (fun hf => ?_)
        · refine x_lconst C (v := (0 : Int64)) (by decide) (dkAt dk_L_law_9 32 rfl) 973 rfl ?_
          exact G.weak (L := [some (.ref b), some (.ref (wad Γ 0)), some (.ref (wad Γ 108)), some (.ref (wad Γ 124)), some (.ref (wad Γ 125)), some (.int i)]) ⟨rfl, rfl, rfl, rfl, rfl, rfl, trivial⟩ (hj13 _ hf)
        · refine x_lconst C (v := (1 : Int64)) (by decide) (dkAt dk_L_law_9 30 rfl) 969 rfl ?_
          refine x_goto C 973 (dkAt dk_L_law_9 31 rfl) (by decide) ?_
          exact G.weak (L := [some (.ref b), some (.ref (wad Γ 0)), some (.ref (wad Γ 108)), some (.ref (wad Γ 124)), some (.ref (wad Γ 125)), some (.int i)]) ⟨rfl, rfl, rfl, rfl, rfl, rfl, trivial⟩ (hj13 _ hf)
  · refine x_iconst C (v := (0 : Int32)) (by decide) (dkAt dk_L_law_9 21 rfl) 954 rfl ?_
    exact nomatch hf
def f_law_15 (Z L : Nat) (xs : Nat → Int32) (M : Mem) (i : Int32) (j : Mem → Option Unit) : Option Unit :=
  rdX xs L (i + (1 : Int32)) (fun v1 => cl (f_L_limit Z M v1) (fun v2 M3 => rdX xs L (i + (1 : Int32)) (fun v4 => cl (f_X12_limit Z M3 v4) (fun v5 M6 => cl (f_X12_thrown Z M6) (fun v7 M8 => (if v7 = v2 then (if v2 = 0 then rdL M8 124 1 (0 : Int32) (fun v9 => (if v9 = v5.toInt64 then j M8 else none)) else j M8) else none))))))
set_option maxRecDepth 100000 in
theorem c_law_15 {Γ : WC} {X : MX} (hN : HN Γ) (hC : NC Γ) (C : CX Γ X cL_law 9 RL (some .boolean) room_1) {Z b L cb sb : Nat} {xs : Nat → Int32} (hX : SX Γ X b L xs) (hcb : cb + 8 ≤ 601024 ∧ sb + 48 ≤ 7293034) {M : Mem} {i : Int32} {j : Mem → Option Unit} {rM : Unit} (hj : ∀ M1, j M1 = some rM → G Γ X M1 (cb + 8) (sb + 48) [some (.ref b), some (.ref (wad Γ 0)), some (.ref (wad Γ 108)), some (.ref (wad Γ 124)), some (.ref (wad Γ 125)), some (.int i)] [] 3578) (hf : f_law_15 Z L xs M i j = some rM) : G Γ X M cb sb [some (.ref b), some (.ref (wad Γ 0)), some (.ref (wad Γ 108)), some (.ref (wad Γ 124)), some (.ref (wad Γ 125)), some (.int i)] [] 982 := by
  change G Γ X M (cb + 0) (sb + 0) _ _ _
  unfold f_law_15 at hf
  refine x_aload_n C rfl rfl (dkAt dk_L_law_9 38 rfl) 983 rfl ?_
  refine x_aload_n C rfl rfl (dkAt dk_L_law_9 39 rfl) 984 rfl ?_
  refine x_iload C rfl (dkAt dk_L_law_9 40 rfl) 986 rfl ?_
  refine x_iconst C (v := (1 : Int32)) (by decide) (dkAt dk_L_law_9 41 rfl) 987 rfl ?_
  refine x_iadd C (dkAt dk_L_law_9 42 rfl) 988 rfl ?_
  refine x_sld C hX (dkAt dk_L_law_9 43 rfl) 989 rfl hf (fun v1 hf => ?_)
  refine x_aload_n C rfl rfl (dkAt dk_L_law_9 44 rfl) 990 rfl ?_
  obtain ⟨v2, M3, h12, hf⟩ := cl_inv hf
  refine x_cW C (c_L_limit hN hC h12) mww_L_limit ln_RL_253 (ro_law hcb (by decide) (by decide) (by decide) (by decide)) rfl rfl (Nat.le_of_ble_eq_true rfl) (dkAt dk_L_law_9 45 rfl) 993 rfl (cb + 2) (sb + 12) rfl rfl ?_
  refine x_istore C (L1 := [some (.ref b), some (.ref (wad Γ 0)), some (.ref (wad Γ 108)), some (.ref (wad Γ 124)), some (.ref (wad Γ 125)), some (.int i), some (.int v2)]) (dkAt dk_L_law_9 46 rfl) 995 rfl (by decide) rfl ?_
  refine x_aload_n C rfl rfl (dkAt dk_L_law_9 47 rfl) 996 rfl ?_
  refine x_aload_n C rfl rfl (dkAt dk_L_law_10 0 rfl) 997 rfl ?_
  refine x_iload C rfl (dkAt dk_L_law_10 1 rfl) 999 rfl ?_
  refine x_iconst C (v := (1 : Int32)) (by decide) (dkAt dk_L_law_10 2 rfl) 1000 rfl ?_
  refine x_iadd C (dkAt dk_L_law_10 3 rfl) 1001 rfl ?_
  refine x_sld C hX (dkAt dk_L_law_10 4 rfl) 1002 rfl hf (fun v4 hf => ?_)
  obtain ⟨v5, M6, h11, hf⟩ := cl_inv hf
  refine x_cVi C (c_X12_limit hN h11) mw_X12_limit ln_RL_255 mi_X12_limit (hN.rc (ci := 12) sh108 rc12) (ro_law hcb (by decide) (by decide) (by decide) (by decide)) rfl rfl (Nat.le_of_ble_eq_true rfl) (dkAt dk_L_law_10 5 rfl) 1005 rfl (cb + 2) (sb + 12) rfl rfl ?_
  refine x_istore C (L1 := [some (.ref b), some (.ref (wad Γ 0)), some (.ref (wad Γ 108)), some (.ref (wad Γ 124)), some (.ref (wad Γ 125)), some (.int i), some (.int v2), some (.int v5)]) (dkAt dk_L_law_10 6 rfl) 1007 rfl (by decide) rfl ?_
  refine x_aload_n C rfl rfl (dkAt dk_L_law_10 7 rfl) 1008 rfl ?_
  obtain ⟨v7, M8, h10, hf⟩ := cl_inv hf
  refine x_cVi C (c_X12_thrown hN h10) mw_X12_thrown ln_RL_202 mi_X12_thrown (hN.rc (ci := 12) sh108 rc12) (ro_law hcb (by decide) (by decide) (by decide) (by decide)) rfl rfl (Nat.le_of_ble_eq_true rfl) (dkAt dk_L_law_10 8 rfl) 1011 rfl (cb + 2) (sb + 12) rfl rfl ?_
  refine x_iload C rfl (dkAt dk_L_law_10 9 rfl) 1013 rfl ?_
  refine x_icmp_eq C 1018 (dkAt dk_L_law_10 10 rfl) 1016 rfl (by decide) hf (fun hf => ?_) (fun hf => ?_)
  · refine x_iload C rfl (dkAt dk_L_law_10 13 rfl) 1020 rfl ?_
    refine x_if_ne C 1035 (dkAt dk_L_law_10 14 rfl) 1023 rfl (by decide) hf (fun hf => ?_) (fun hf => ?_)
    · refine x_goto C 3578 (dkAt dk_L_law_10 24 rfl) (by decide) ?_
      exact G.weak (L := [some (.ref b), some (.ref (wad Γ 0)), some (.ref (wad Γ 108)), some (.ref (wad Γ 124)), some (.ref (wad Γ 125)), some (.int i)]) ⟨rfl, rfl, rfl, rfl, rfl, rfl, trivial⟩ (G.wide (by omega) (by omega) (hj _ hf))
    · refine x_aload_n C rfl rfl (dkAt dk_L_law_10 15 rfl) 1024 rfl ?_
      refine x_iconst C (v := (0 : Int32)) (by decide) (dkAt dk_L_law_10 16 rfl) 1025 rfl ?_
      refine x_lald C (hN.sh sh124) (dkAt dk_L_law_10 17 rfl) 1026 rfl hf (fun v9 hf => ?_)
      refine x_iload C rfl (dkAt dk_L_law_10 18 rfl) 1028 rfl ?_
      refine x_i2l C (dkAt dk_L_law_10 19 rfl) 1029 rfl ?_
      refine x_lcmp_eq C 1035 (dkAt dk_L_law_10 20 rfl) 1033 rfl (dkAt dk_L_law_10 21 rfl) (by decide) hf (fun hf => ?_) (fun hf => ?_)
      · refine x_goto C 3578 (dkAt dk_L_law_10 24 rfl) (by decide) ?_
        exact G.weak (L := [some (.ref b), some (.ref (wad Γ 0)), some (.ref (wad Γ 108)), some (.ref (wad Γ 124)), some (.ref (wad Γ 125)), some (.int i)]) ⟨rfl, rfl, rfl, rfl, rfl, rfl, trivial⟩ (G.wide (by omega) (by omega) (hj _ hf))
      · refine x_iconst C (v := (0 : Int32)) (by decide) (dkAt dk_L_law_10 22 rfl) 1034 rfl ?_
        exact nomatch hf
  · refine x_iconst C (v := (0 : Int32)) (by decide) (dkAt dk_L_law_10 11 rfl) 1017 rfl ?_
    exact nomatch hf
def f_law_16 (Z L : Nat) (xs : Nat → Int32) (M : Mem) (i : Int32) (j : Mem → Option Unit) : Option Unit :=
  rdX xs L (i + (1 : Int32)) (fun v1 => cl (f_L_reach Z M v1) (fun v2 M3 => rdX xs L (i + (1 : Int32)) (fun v4 => cl (f_X12_reach Z M3 v4) (fun v5 M6 => cl (f_X12_thrown Z M6) (fun v7 M8 => (if v7 = v2 then (if v2 = 0 then rdL M8 124 1 (0 : Int32) (fun v9 => (if v9 = v5.toInt64 then j M8 else none)) else j M8) else none))))))
set_option maxRecDepth 100000 in
theorem c_law_16 {Γ : WC} {X : MX} (hN : HN Γ) (hC : NC Γ) (C : CX Γ X cL_law 9 RL (some .boolean) room_1) {Z b L cb sb : Nat} {xs : Nat → Int32} (hX : SX Γ X b L xs) (hcb : cb + 8 ≤ 601024 ∧ sb + 48 ≤ 7293034) {M : Mem} {i : Int32} {j : Mem → Option Unit} {rM : Unit} (hj : ∀ M1, j M1 = some rM → G Γ X M1 (cb + 8) (sb + 48) [some (.ref b), some (.ref (wad Γ 0)), some (.ref (wad Γ 108)), some (.ref (wad Γ 124)), some (.ref (wad Γ 125)), some (.int i)] [] 3578) (hf : f_law_16 Z L xs M i j = some rM) : G Γ X M cb sb [some (.ref b), some (.ref (wad Γ 0)), some (.ref (wad Γ 108)), some (.ref (wad Γ 124)), some (.ref (wad Γ 125)), some (.int i)] [] 1038 := by
  change G Γ X M (cb + 0) (sb + 0) _ _ _
  unfold f_law_16 at hf
  refine x_aload_n C rfl rfl (dkAt dk_L_law_10 25 rfl) 1039 rfl ?_
  refine x_aload_n C rfl rfl (dkAt dk_L_law_10 26 rfl) 1040 rfl ?_
  refine x_iload C rfl (dkAt dk_L_law_10 27 rfl) 1042 rfl ?_
  refine x_iconst C (v := (1 : Int32)) (by decide) (dkAt dk_L_law_10 28 rfl) 1043 rfl ?_
  refine x_iadd C (dkAt dk_L_law_10 29 rfl) 1044 rfl ?_
  refine x_sld C hX (dkAt dk_L_law_10 30 rfl) 1045 rfl hf (fun v1 hf => ?_)
  refine x_aload_n C rfl rfl (dkAt dk_L_law_10 31 rfl) 1046 rfl ?_
  obtain ⟨v2, M3, h12, hf⟩ := cl_inv hf
  refine x_cW C (c_L_reach hN hC h12) mww_L_reach ln_RL_256 (ro_law hcb (by decide) (by decide) (by decide) (by decide)) rfl rfl (Nat.le_of_ble_eq_true rfl) (dkAt dk_L_law_10 32 rfl) 1049 rfl (cb + 2) (sb + 12) rfl rfl ?_
  refine x_istore C (L1 := [some (.ref b), some (.ref (wad Γ 0)), some (.ref (wad Γ 108)), some (.ref (wad Γ 124)), some (.ref (wad Γ 125)), some (.int i), some (.int v2)]) (dkAt dk_L_law_10 33 rfl) 1051 rfl (by decide) rfl ?_
  refine x_aload_n C rfl rfl (dkAt dk_L_law_10 34 rfl) 1052 rfl ?_
  refine x_aload_n C rfl rfl (dkAt dk_L_law_10 35 rfl) 1053 rfl ?_
  refine x_iload C rfl (dkAt dk_L_law_10 36 rfl) 1055 rfl ?_
  refine x_iconst C (v := (1 : Int32)) (by decide) (dkAt dk_L_law_10 37 rfl) 1056 rfl ?_
  refine x_iadd C (dkAt dk_L_law_10 38 rfl) 1057 rfl ?_
  refine x_sld C hX (dkAt dk_L_law_10 39 rfl) 1058 rfl hf (fun v4 hf => ?_)
  obtain ⟨v5, M6, h11, hf⟩ := cl_inv hf
  refine x_cVi C (c_X12_reach hN h11) mw_X12_reach ln_RL_258 mi_X12_reach (hN.rc (ci := 12) sh108 rc12) (ro_law hcb (by decide) (by decide) (by decide) (by decide)) rfl rfl (Nat.le_of_ble_eq_true rfl) (dkAt dk_L_law_10 40 rfl) 1061 rfl (cb + 2) (sb + 12) rfl rfl ?_
  refine x_istore C (L1 := [some (.ref b), some (.ref (wad Γ 0)), some (.ref (wad Γ 108)), some (.ref (wad Γ 124)), some (.ref (wad Γ 125)), some (.int i), some (.int v2), some (.int v5)]) (dkAt dk_L_law_10 41 rfl) 1063 rfl (by decide) rfl ?_
  refine x_aload_n C rfl rfl (dkAt dk_L_law_10 42 rfl) 1064 rfl ?_
  obtain ⟨v7, M8, h10, hf⟩ := cl_inv hf
  refine x_cVi C (c_X12_thrown hN h10) mw_X12_thrown ln_RL_202 mi_X12_thrown (hN.rc (ci := 12) sh108 rc12) (ro_law hcb (by decide) (by decide) (by decide) (by decide)) rfl rfl (Nat.le_of_ble_eq_true rfl) (dkAt dk_L_law_10 43 rfl) 1067 rfl (cb + 2) (sb + 12) rfl rfl ?_
  refine x_iload C rfl (dkAt dk_L_law_10 44 rfl) 1069 rfl ?_
  refine x_icmp_eq C 1074 (dkAt dk_L_law_10 45 rfl) 1072 rfl (by decide) hf (fun hf => ?_) (fun hf => ?_)
  · refine x_iload C rfl (dkAt dk_L_law_11 0 rfl) 1076 rfl ?_
    refine x_if_ne C 1091 (dkAt dk_L_law_11 1 rfl) 1079 rfl (by decide) hf (fun hf => ?_) (fun hf => ?_)
    · refine x_goto C 3578 (dkAt dk_L_law_11 11 rfl) (by decide) ?_
      exact G.weak (L := [some (.ref b), some (.ref (wad Γ 0)), some (.ref (wad Γ 108)), some (.ref (wad Γ 124)), some (.ref (wad Γ 125)), some (.int i)]) ⟨rfl, rfl, rfl, rfl, rfl, rfl, trivial⟩ (G.wide (by omega) (by omega) (hj _ hf))
    · refine x_aload_n C rfl rfl (dkAt dk_L_law_11 2 rfl) 1080 rfl ?_
      refine x_iconst C (v := (0 : Int32)) (by decide) (dkAt dk_L_law_11 3 rfl) 1081 rfl ?_
      refine x_lald C (hN.sh sh124) (dkAt dk_L_law_11 4 rfl) 1082 rfl hf (fun v9 hf => ?_)
      refine x_iload C rfl (dkAt dk_L_law_11 5 rfl) 1084 rfl ?_
      refine x_i2l C (dkAt dk_L_law_11 6 rfl) 1085 rfl ?_
      refine x_lcmp_eq C 1091 (dkAt dk_L_law_11 7 rfl) 1089 rfl (dkAt dk_L_law_11 8 rfl) (by decide) hf (fun hf => ?_) (fun hf => ?_)
      · refine x_goto C 3578 (dkAt dk_L_law_11 11 rfl) (by decide) ?_
        exact G.weak (L := [some (.ref b), some (.ref (wad Γ 0)), some (.ref (wad Γ 108)), some (.ref (wad Γ 124)), some (.ref (wad Γ 125)), some (.int i)]) ⟨rfl, rfl, rfl, rfl, rfl, rfl, trivial⟩ (G.wide (by omega) (by omega) (hj _ hf))
      · refine x_iconst C (v := (0 : Int32)) (by decide) (dkAt dk_L_law_11 9 rfl) 1090 rfl ?_
        exact nomatch hf
  · refine x_iconst C (v := (0 : Int32)) (by decide) (dkAt dk_L_law_10 46 rfl) 1073 rfl ?_
    exact nomatch hf
def f_law_17 (Z L : Nat) (xs : Nat → Int32) (M : Mem) (i : Int32) (j : Mem → Option Unit) : Option Unit :=
  rdX xs L (i + (1 : Int32)) (fun v1 => cl (f_L_isClosed Z M v1) (fun v2 M3 => rdX xs L (i + (1 : Int32)) (fun v4 => cl (f_X12_isClosed Z M3 v4) (fun v5 M6 => cl (f_X12_thrown Z M6) (fun v7 M8 => (if v7 = v2 then (if v2 = 0 then rdL M8 124 1 (0 : Int32) (fun v9 => jn (fun (t10 : Int64) => (if v9 = t10 then j M8 else none)) (fun j11 => (if v5 = 0 then j11 (0 : Int64) else j11 (1 : Int64)))) else j M8) else none))))))
set_option maxRecDepth 100000 in
theorem c_law_17 {Γ : WC} {X : MX} (hN : HN Γ) (hC : NC Γ) (C : CX Γ X cL_law 9 RL (some .boolean) room_1) {Z b L cb sb : Nat} {xs : Nat → Int32} (hX : SX Γ X b L xs) (hcb : cb + 8 ≤ 601024 ∧ sb + 48 ≤ 7293034) {M : Mem} {i : Int32} {j : Mem → Option Unit} {rM : Unit} (hj : ∀ M1, j M1 = some rM → G Γ X M1 (cb + 8) (sb + 48) [some (.ref b), some (.ref (wad Γ 0)), some (.ref (wad Γ 108)), some (.ref (wad Γ 124)), some (.ref (wad Γ 125)), some (.int i)] [] 3578) (hf : f_law_17 Z L xs M i j = some rM) : G Γ X M cb sb [some (.ref b), some (.ref (wad Γ 0)), some (.ref (wad Γ 108)), some (.ref (wad Γ 124)), some (.ref (wad Γ 125)), some (.int i)] [] 1094 := by
  change G Γ X M (cb + 0) (sb + 0) _ _ _
  unfold f_law_17 at hf
  refine x_aload_n C rfl rfl (dkAt dk_L_law_11 12 rfl) 1095 rfl ?_
  refine x_aload_n C rfl rfl (dkAt dk_L_law_11 13 rfl) 1096 rfl ?_
  refine x_iload C rfl (dkAt dk_L_law_11 14 rfl) 1098 rfl ?_
  refine x_iconst C (v := (1 : Int32)) (by decide) (dkAt dk_L_law_11 15 rfl) 1099 rfl ?_
  refine x_iadd C (dkAt dk_L_law_11 16 rfl) 1100 rfl ?_
  refine x_sld C hX (dkAt dk_L_law_11 17 rfl) 1101 rfl hf (fun v1 hf => ?_)
  refine x_aload_n C rfl rfl (dkAt dk_L_law_11 18 rfl) 1102 rfl ?_
  obtain ⟨v2, M3, h14, hf⟩ := cl_inv hf
  refine x_cW C (c_L_isClosed hN hC h14) mww_L_isClosed ln_RL_259 (ro_law hcb (by decide) (by decide) (by decide) (by decide)) rfl rfl (Nat.le_of_ble_eq_true rfl) (dkAt dk_L_law_11 19 rfl) 1105 rfl (cb + 2) (sb + 12) rfl rfl ?_
  refine x_istore C (L1 := [some (.ref b), some (.ref (wad Γ 0)), some (.ref (wad Γ 108)), some (.ref (wad Γ 124)), some (.ref (wad Γ 125)), some (.int i), some (.int v2)]) (dkAt dk_L_law_11 20 rfl) 1107 rfl (by decide) rfl ?_
  refine x_aload_n C rfl rfl (dkAt dk_L_law_11 21 rfl) 1108 rfl ?_
  refine x_aload_n C rfl rfl (dkAt dk_L_law_11 22 rfl) 1109 rfl ?_
  refine x_iload C rfl (dkAt dk_L_law_11 23 rfl) 1111 rfl ?_
  refine x_iconst C (v := (1 : Int32)) (by decide) (dkAt dk_L_law_11 24 rfl) 1112 rfl ?_
  refine x_iadd C (dkAt dk_L_law_11 25 rfl) 1113 rfl ?_
  refine x_sld C hX (dkAt dk_L_law_11 26 rfl) 1114 rfl hf (fun v4 hf => ?_)
  obtain ⟨v5, M6, h13, hf⟩ := cl_inv hf
  refine x_cVi C (c_X12_isClosed hN h13) mw_X12_isClosed ln_RL_261 mi_X12_isClosed (hN.rc (ci := 12) sh108 rc12) (ro_law hcb (by decide) (by decide) (by decide) (by decide)) rfl rfl (Nat.le_of_ble_eq_true rfl) (dkAt dk_L_law_11 27 rfl) 1117 rfl (cb + 2) (sb + 12) rfl rfl ?_
  refine x_istore C (L1 := [some (.ref b), some (.ref (wad Γ 0)), some (.ref (wad Γ 108)), some (.ref (wad Γ 124)), some (.ref (wad Γ 125)), some (.int i), some (.int v2), some (.int v5)]) (dkAt dk_L_law_11 28 rfl) 1119 rfl (by decide) rfl ?_
  refine x_aload_n C rfl rfl (dkAt dk_L_law_11 29 rfl) 1120 rfl ?_
  obtain ⟨v7, M8, h12, hf⟩ := cl_inv hf
  refine x_cVi C (c_X12_thrown hN h12) mw_X12_thrown ln_RL_202 mi_X12_thrown (hN.rc (ci := 12) sh108 rc12) (ro_law hcb (by decide) (by decide) (by decide) (by decide)) rfl rfl (Nat.le_of_ble_eq_true rfl) (dkAt dk_L_law_11 30 rfl) 1123 rfl (cb + 2) (sb + 12) rfl rfl ?_
  refine x_iload C rfl (dkAt dk_L_law_11 31 rfl) 1125 rfl ?_
  refine x_icmp_eq C 1130 (dkAt dk_L_law_11 32 rfl) 1128 rfl (by decide) hf (fun hf => ?_) (fun hf => ?_)
  · refine x_iload C rfl (dkAt dk_L_law_11 35 rfl) 1132 rfl ?_
    refine x_if_ne C 1154 (dkAt dk_L_law_11 36 rfl) 1135 rfl (by decide) hf (fun hf => ?_) (fun hf => ?_)
    · refine x_goto C 3578 (dkAt dk_L_law_12 1 rfl) (by decide) ?_
      exact G.weak (L := [some (.ref b), some (.ref (wad Γ 0)), some (.ref (wad Γ 108)), some (.ref (wad Γ 124)), some (.ref (wad Γ 125)), some (.int i)]) ⟨rfl, rfl, rfl, rfl, rfl, rfl, trivial⟩ (G.wide (by omega) (by omega) (hj _ hf))
    · refine x_aload_n C rfl rfl (dkAt dk_L_law_11 37 rfl) 1136 rfl ?_
      refine x_iconst C (v := (0 : Int32)) (by decide) (dkAt dk_L_law_11 38 rfl) 1137 rfl ?_
      refine x_lald C (hN.sh sh124) (dkAt dk_L_law_11 39 rfl) 1138 rfl hf (fun v9 hf => ?_)
      refine x_iload C rfl (dkAt dk_L_law_11 40 rfl) 1140 rfl ?_
      refine x_join hf (fun t10 => G Γ X M8 (cb + 2) (sb + 12) [some (.ref b), some (.ref (wad Γ 0)), some (.ref (wad Γ 108)), some (.ref (wad Γ 124)), some (.ref (wad Γ 125)), some (.int i)] [.long t10, .long v9] 1148) (fun t10 hf => ?_) (fun j11 hj11 hf => ?_)
      · refine x_lcmp_eq C 1154 (dkAt dk_L_law_11 45 rfl) 1152 rfl (dkAt dk_L_law_11 46 rfl) (by decide) hf (fun hf => ?_) (fun hf => ?_)
        · refine x_goto C 3578 (dkAt dk_L_law_12 1 rfl) (by decide) ?_
          exact G.weak (L := [some (.ref b), some (.ref (wad Γ 0)), some (.ref (wad Γ 108)), some (.ref (wad Γ 124)), some (.ref (wad Γ 125)), some (.int i)]) ⟨rfl, rfl, rfl, rfl, rfl, rfl, trivial⟩ (G.wide (by omega) (by omega) (hj _ hf))
        · refine x_iconst C (v := (0 : Int32)) (by decide) (dkAt dk_L_law_11 47 rfl) 1153 rfl ?_
          exact nomatch hf
      · refine x_if_eq C 1147 (dkAt dk_L_law_11 41 rfl) 1143 rfl (by decide) hf (fun hf => ?_) (fun hf => ?_)
        · refine x_lconst C (v := (0 : Int64)) (by decide) (dkAt dk_L_law_11 44 rfl) 1148 rfl ?_
          exact G.weak (L := [some (.ref b), some (.ref (wad Γ 0)), some (.ref (wad Γ 108)), some (.ref (wad Γ 124)), some (.ref (wad Γ 125)), some (.int i)]) ⟨rfl, rfl, rfl, rfl, rfl, rfl, trivial⟩ (hj11 _ hf)
        · refine x_lconst C (v := (1 : Int64)) (by decide) (dkAt dk_L_law_11 42 rfl) 1144 rfl ?_
          refine x_goto C 1148 (dkAt dk_L_law_11 43 rfl) (by decide) ?_
          exact G.weak (L := [some (.ref b), some (.ref (wad Γ 0)), some (.ref (wad Γ 108)), some (.ref (wad Γ 124)), some (.ref (wad Γ 125)), some (.int i)]) ⟨rfl, rfl, rfl, rfl, rfl, rfl, trivial⟩ (hj11 _ hf)
  · refine x_iconst C (v := (0 : Int32)) (by decide) (dkAt dk_L_law_11 33 rfl) 1129 rfl ?_
    exact nomatch hf
def f_law_18 (Z L : Nat) (xs : Nat → Int32) (M : Mem) (i : Int32) (j : Mem → Option Unit) : Option Unit :=
  rdX xs L (i + (1 : Int32)) (fun v1 => rdX xs L (i + (2 : Int32)) (fun v2 => cl (f_L_flow Z M v1 v2) (fun v3 M4 => rdX xs L (i + (1 : Int32)) (fun v5 => rdX xs L (i + (2 : Int32)) (fun v6 => cl (f_X12_flow Z M4 v5 v6) (fun v7 M8 => cl (f_X12_thrown Z M8) (fun v9 M10 => (if v9 = v3 then (if v3 = 0 then rdL M10 124 1 (0 : Int32) (fun v11 => (if v11 = v7 then j M10 else none)) else j M10) else none))))))))
set_option maxRecDepth 100000 in
theorem c_law_18 {Γ : WC} {X : MX} (hN : HN Γ) (hC : NC Γ) (C : CX Γ X cL_law 9 RL (some .boolean) room_1) {Z b L cb sb : Nat} {xs : Nat → Int32} (hX : SX Γ X b L xs) (hcb : cb + 8 ≤ 601024 ∧ sb + 48 ≤ 7293034) {M : Mem} {i : Int32} {j : Mem → Option Unit} {rM : Unit} (hj : ∀ M1, j M1 = some rM → G Γ X M1 (cb + 8) (sb + 48) [some (.ref b), some (.ref (wad Γ 0)), some (.ref (wad Γ 108)), some (.ref (wad Γ 124)), some (.ref (wad Γ 125)), some (.int i)] [] 3578) (hf : f_law_18 Z L xs M i j = some rM) : G Γ X M cb sb [some (.ref b), some (.ref (wad Γ 0)), some (.ref (wad Γ 108)), some (.ref (wad Γ 124)), some (.ref (wad Γ 125)), some (.int i)] [] 1157 := by
  change G Γ X M (cb + 0) (sb + 0) _ _ _
  unfold f_law_18 at hf
  refine x_aload_n C rfl rfl (dkAt dk_L_law_12 2 rfl) 1158 rfl ?_
  refine x_aload_n C rfl rfl (dkAt dk_L_law_12 3 rfl) 1159 rfl ?_
  refine x_iload C rfl (dkAt dk_L_law_12 4 rfl) 1161 rfl ?_
  refine x_iconst C (v := (1 : Int32)) (by decide) (dkAt dk_L_law_12 5 rfl) 1162 rfl ?_
  refine x_iadd C (dkAt dk_L_law_12 6 rfl) 1163 rfl ?_
  refine x_sld C hX (dkAt dk_L_law_12 7 rfl) 1164 rfl hf (fun v1 hf => ?_)
  refine x_aload_n C rfl rfl (dkAt dk_L_law_12 8 rfl) 1165 rfl ?_
  refine x_iload C rfl (dkAt dk_L_law_12 9 rfl) 1167 rfl ?_
  refine x_iconst C (v := (2 : Int32)) (by decide) (dkAt dk_L_law_12 10 rfl) 1168 rfl ?_
  refine x_iadd C (dkAt dk_L_law_12 11 rfl) 1169 rfl ?_
  refine x_sld C hX (dkAt dk_L_law_12 12 rfl) 1170 rfl hf (fun v2 hf => ?_)
  refine x_aload_n C rfl rfl (dkAt dk_L_law_12 13 rfl) 1171 rfl ?_
  obtain ⟨v3, M4, h14, hf⟩ := cl_inv hf
  refine x_cW C (c_L_flow hN hC h14) mww_L_flow ln_RL_262 (ro_law hcb (by decide) (by decide) (by decide) (by decide)) rfl rfl (Nat.le_of_ble_eq_true rfl) (dkAt dk_L_law_12 14 rfl) 1174 rfl (cb + 4) (sb + 24) rfl rfl ?_
  refine x_istore C (L1 := [some (.ref b), some (.ref (wad Γ 0)), some (.ref (wad Γ 108)), some (.ref (wad Γ 124)), some (.ref (wad Γ 125)), some (.int i), some (.int v3)]) (dkAt dk_L_law_12 15 rfl) 1176 rfl (by decide) rfl ?_
  refine x_aload_n C rfl rfl (dkAt dk_L_law_12 16 rfl) 1177 rfl ?_
  refine x_aload_n C rfl rfl (dkAt dk_L_law_12 17 rfl) 1178 rfl ?_
  refine x_iload C rfl (dkAt dk_L_law_12 18 rfl) 1180 rfl ?_
  refine x_iconst C (v := (1 : Int32)) (by decide) (dkAt dk_L_law_12 19 rfl) 1181 rfl ?_
  refine x_iadd C (dkAt dk_L_law_12 20 rfl) 1182 rfl ?_
  refine x_sld C hX (dkAt dk_L_law_12 21 rfl) 1183 rfl hf (fun v5 hf => ?_)
  refine x_aload_n C rfl rfl (dkAt dk_L_law_12 22 rfl) 1184 rfl ?_
  refine x_iload C rfl (dkAt dk_L_law_12 23 rfl) 1186 rfl ?_
  refine x_iconst C (v := (2 : Int32)) (by decide) (dkAt dk_L_law_12 24 rfl) 1187 rfl ?_
  refine x_iadd C (dkAt dk_L_law_12 25 rfl) 1188 rfl ?_
  refine x_sld C hX (dkAt dk_L_law_12 26 rfl) 1189 rfl hf (fun v6 hf => ?_)
  obtain ⟨v7, M8, h13, hf⟩ := cl_inv hf
  refine x_cVl C (c_X12_flow hN h13) mw_X12_flow ln_RL_264 mi_X12_flow (hN.rc (ci := 12) sh108 rc12) (ro_law hcb (by decide) (by decide) (by decide) (by decide)) rfl rfl (Nat.le_of_ble_eq_true rfl) (dkAt dk_L_law_12 27 rfl) 1192 rfl (cb + 4) (sb + 24) rfl rfl ?_
  refine x_lstore C (L1 := [some (.ref b), some (.ref (wad Γ 0)), some (.ref (wad Γ 108)), some (.ref (wad Γ 124)), some (.ref (wad Γ 125)), some (.int i), some (.int v3), some (.long v7)]) (dkAt dk_L_law_12 28 rfl) 1194 rfl (by decide) rfl ?_
  refine x_aload_n C rfl rfl (dkAt dk_L_law_12 29 rfl) 1195 rfl ?_
  obtain ⟨v9, M10, h12, hf⟩ := cl_inv hf
  refine x_cVi C (c_X12_thrown hN h12) mw_X12_thrown ln_RL_202 mi_X12_thrown (hN.rc (ci := 12) sh108 rc12) (ro_law hcb (by decide) (by decide) (by decide) (by decide)) rfl rfl (Nat.le_of_ble_eq_true rfl) (dkAt dk_L_law_12 30 rfl) 1198 rfl (cb + 4) (sb + 24) rfl rfl ?_
  refine x_iload C rfl (dkAt dk_L_law_12 31 rfl) 1200 rfl ?_
  refine x_icmp_eq C 1205 (dkAt dk_L_law_12 32 rfl) 1203 rfl (by decide) hf (fun hf => ?_) (fun hf => ?_)
  · refine x_iload C rfl (dkAt dk_L_law_12 35 rfl) 1207 rfl ?_
    refine x_if_ne C 1221 (dkAt dk_L_law_12 36 rfl) 1210 rfl (by decide) hf (fun hf => ?_) (fun hf => ?_)
    · refine x_goto C 3578 (dkAt dk_L_law_12 45 rfl) (by decide) ?_
      exact G.weak (L := [some (.ref b), some (.ref (wad Γ 0)), some (.ref (wad Γ 108)), some (.ref (wad Γ 124)), some (.ref (wad Γ 125)), some (.int i)]) ⟨rfl, rfl, rfl, rfl, rfl, rfl, trivial⟩ (G.wide (by omega) (by omega) (hj _ hf))
    · refine x_aload_n C rfl rfl (dkAt dk_L_law_12 37 rfl) 1211 rfl ?_
      refine x_iconst C (v := (0 : Int32)) (by decide) (dkAt dk_L_law_12 38 rfl) 1212 rfl ?_
      refine x_lald C (hN.sh sh124) (dkAt dk_L_law_12 39 rfl) 1213 rfl hf (fun v11 hf => ?_)
      refine x_lload C rfl (dkAt dk_L_law_12 40 rfl) 1215 rfl ?_
      refine x_lcmp_eq C 1221 (dkAt dk_L_law_12 41 rfl) 1219 rfl (dkAt dk_L_law_12 42 rfl) (by decide) hf (fun hf => ?_) (fun hf => ?_)
      · refine x_goto C 3578 (dkAt dk_L_law_12 45 rfl) (by decide) ?_
        exact G.weak (L := [some (.ref b), some (.ref (wad Γ 0)), some (.ref (wad Γ 108)), some (.ref (wad Γ 124)), some (.ref (wad Γ 125)), some (.int i)]) ⟨rfl, rfl, rfl, rfl, rfl, rfl, trivial⟩ (G.wide (by omega) (by omega) (hj _ hf))
      · refine x_iconst C (v := (0 : Int32)) (by decide) (dkAt dk_L_law_12 43 rfl) 1220 rfl ?_
        exact nomatch hf
  · refine x_iconst C (v := (0 : Int32)) (by decide) (dkAt dk_L_law_12 33 rfl) 1204 rfl ?_
    exact nomatch hf
def f_law_19 (Z L : Nat) (xs : Nat → Int32) (M : Mem) (i : Int32) (j : Mem → Option Unit) : Option Unit :=
  rdX xs L (i + (1 : Int32)) (fun v1 => rdX xs L (i + (2 : Int32)) (fun v2 => rdX xs L (i + (3 : Int32)) (fun v3 => cl (f_L_use Z M v1 v2 v3) (fun v4 M5 => rdX xs L (i + (1 : Int32)) (fun v6 => rdX xs L (i + (2 : Int32)) (fun v7 => rdX xs L (i + (3 : Int32)) (fun v8 => cl (f_X12_use Z M5 v6 v7 v8) (fun v9 M10 => cl (f_X12_thrown Z M10) (fun v11 M12 => (if v11 = v4 then (if v4 = 0 then rdL M12 124 1 (0 : Int32) (fun v13 => (if v13 = v9 then j M12 else none)) else j M12) else none))))))))))
set_option maxRecDepth 100000 in
theorem c_law_19 {Γ : WC} {X : MX} (hN : HN Γ) (hC : NC Γ) (C : CX Γ X cL_law 9 RL (some .boolean) room_1) {Z b L cb sb : Nat} {xs : Nat → Int32} (hX : SX Γ X b L xs) (hcb : cb + 8 ≤ 601024 ∧ sb + 48 ≤ 7293034) {M : Mem} {i : Int32} {j : Mem → Option Unit} {rM : Unit} (hj : ∀ M1, j M1 = some rM → G Γ X M1 (cb + 8) (sb + 48) [some (.ref b), some (.ref (wad Γ 0)), some (.ref (wad Γ 108)), some (.ref (wad Γ 124)), some (.ref (wad Γ 125)), some (.int i)] [] 3578) (hf : f_law_19 Z L xs M i j = some rM) : G Γ X M cb sb [some (.ref b), some (.ref (wad Γ 0)), some (.ref (wad Γ 108)), some (.ref (wad Γ 124)), some (.ref (wad Γ 125)), some (.int i)] [] 1224 := by
  change G Γ X M (cb + 0) (sb + 0) _ _ _
  unfold f_law_19 at hf
  refine x_aload_n C rfl rfl (dkAt dk_L_law_12 46 rfl) 1225 rfl ?_
  refine x_aload_n C rfl rfl (dkAt dk_L_law_12 47 rfl) 1226 rfl ?_
  refine x_iload C rfl (dkAt dk_L_law_13 0 rfl) 1228 rfl ?_
  refine x_iconst C (v := (1 : Int32)) (by decide) (dkAt dk_L_law_13 1 rfl) 1229 rfl ?_
  refine x_iadd C (dkAt dk_L_law_13 2 rfl) 1230 rfl ?_
  refine x_sld C hX (dkAt dk_L_law_13 3 rfl) 1231 rfl hf (fun v1 hf => ?_)
  refine x_aload_n C rfl rfl (dkAt dk_L_law_13 4 rfl) 1232 rfl ?_
  refine x_iload C rfl (dkAt dk_L_law_13 5 rfl) 1234 rfl ?_
  refine x_iconst C (v := (2 : Int32)) (by decide) (dkAt dk_L_law_13 6 rfl) 1235 rfl ?_
  refine x_iadd C (dkAt dk_L_law_13 7 rfl) 1236 rfl ?_
  refine x_sld C hX (dkAt dk_L_law_13 8 rfl) 1237 rfl hf (fun v2 hf => ?_)
  refine x_aload_n C rfl rfl (dkAt dk_L_law_13 9 rfl) 1238 rfl ?_
  refine x_iload C rfl (dkAt dk_L_law_13 10 rfl) 1240 rfl ?_
  refine x_iconst C (v := (3 : Int32)) (by decide) (dkAt dk_L_law_13 11 rfl) 1241 rfl ?_
  refine x_iadd C (dkAt dk_L_law_13 12 rfl) 1242 rfl ?_
  refine x_sld C hX (dkAt dk_L_law_13 13 rfl) 1243 rfl hf (fun v3 hf => ?_)
  refine x_aload_n C rfl rfl (dkAt dk_L_law_13 14 rfl) 1244 rfl ?_
  obtain ⟨v4, M5, h16, hf⟩ := cl_inv hf
  refine x_cW C (c_L_use hN hC h16) mww_L_use ln_RL_265 (ro_law hcb (by decide) (by decide) (by decide) (by decide)) rfl rfl (Nat.le_of_ble_eq_true rfl) (dkAt dk_L_law_13 15 rfl) 1247 rfl (cb + 4) (sb + 24) rfl rfl ?_
  refine x_istore C (L1 := [some (.ref b), some (.ref (wad Γ 0)), some (.ref (wad Γ 108)), some (.ref (wad Γ 124)), some (.ref (wad Γ 125)), some (.int i), some (.int v4)]) (dkAt dk_L_law_13 16 rfl) 1249 rfl (by decide) rfl ?_
  refine x_aload_n C rfl rfl (dkAt dk_L_law_13 17 rfl) 1250 rfl ?_
  refine x_aload_n C rfl rfl (dkAt dk_L_law_13 18 rfl) 1251 rfl ?_
  refine x_iload C rfl (dkAt dk_L_law_13 19 rfl) 1253 rfl ?_
  refine x_iconst C (v := (1 : Int32)) (by decide) (dkAt dk_L_law_13 20 rfl) 1254 rfl ?_
  refine x_iadd C (dkAt dk_L_law_13 21 rfl) 1255 rfl ?_
  refine x_sld C hX (dkAt dk_L_law_13 22 rfl) 1256 rfl hf (fun v6 hf => ?_)
  refine x_aload_n C rfl rfl (dkAt dk_L_law_13 23 rfl) 1257 rfl ?_
  refine x_iload C rfl (dkAt dk_L_law_13 24 rfl) 1259 rfl ?_
  refine x_iconst C (v := (2 : Int32)) (by decide) (dkAt dk_L_law_13 25 rfl) 1260 rfl ?_
  refine x_iadd C (dkAt dk_L_law_13 26 rfl) 1261 rfl ?_
  refine x_sld C hX (dkAt dk_L_law_13 27 rfl) 1262 rfl hf (fun v7 hf => ?_)
  refine x_aload_n C rfl rfl (dkAt dk_L_law_13 28 rfl) 1263 rfl ?_
  refine x_iload C rfl (dkAt dk_L_law_13 29 rfl) 1265 rfl ?_
  refine x_iconst C (v := (3 : Int32)) (by decide) (dkAt dk_L_law_13 30 rfl) 1266 rfl ?_
  refine x_iadd C (dkAt dk_L_law_13 31 rfl) 1267 rfl ?_
  refine x_sld C hX (dkAt dk_L_law_13 32 rfl) 1268 rfl hf (fun v8 hf => ?_)
  obtain ⟨v9, M10, h15, hf⟩ := cl_inv hf
  refine x_cVl C (c_X12_use hN h15) mw_X12_use ln_RL_267 mi_X12_use (hN.rc (ci := 12) sh108 rc12) (ro_law hcb (by decide) (by decide) (by decide) (by decide)) rfl rfl (Nat.le_of_ble_eq_true rfl) (dkAt dk_L_law_13 33 rfl) 1271 rfl (cb + 4) (sb + 24) rfl rfl ?_
  refine x_lstore C (L1 := [some (.ref b), some (.ref (wad Γ 0)), some (.ref (wad Γ 108)), some (.ref (wad Γ 124)), some (.ref (wad Γ 125)), some (.int i), some (.int v4), some (.long v9)]) (dkAt dk_L_law_13 34 rfl) 1273 rfl (by decide) rfl ?_
  refine x_aload_n C rfl rfl (dkAt dk_L_law_13 35 rfl) 1274 rfl ?_
  obtain ⟨v11, M12, h14, hf⟩ := cl_inv hf
  refine x_cVi C (c_X12_thrown hN h14) mw_X12_thrown ln_RL_202 mi_X12_thrown (hN.rc (ci := 12) sh108 rc12) (ro_law hcb (by decide) (by decide) (by decide) (by decide)) rfl rfl (Nat.le_of_ble_eq_true rfl) (dkAt dk_L_law_13 36 rfl) 1277 rfl (cb + 4) (sb + 24) rfl rfl ?_
  refine x_iload C rfl (dkAt dk_L_law_13 37 rfl) 1279 rfl ?_
  refine x_icmp_eq C 1284 (dkAt dk_L_law_13 38 rfl) 1282 rfl (by decide) hf (fun hf => ?_) (fun hf => ?_)
  · refine x_iload C rfl (dkAt dk_L_law_13 41 rfl) 1286 rfl ?_
    refine x_if_ne C 1300 (dkAt dk_L_law_13 42 rfl) 1289 rfl (by decide) hf (fun hf => ?_) (fun hf => ?_)
    · refine x_goto C 3578 (dkAt dk_L_law_14 3 rfl) (by decide) ?_
      exact G.weak (L := [some (.ref b), some (.ref (wad Γ 0)), some (.ref (wad Γ 108)), some (.ref (wad Γ 124)), some (.ref (wad Γ 125)), some (.int i)]) ⟨rfl, rfl, rfl, rfl, rfl, rfl, trivial⟩ (G.wide (by omega) (by omega) (hj _ hf))
    · refine x_aload_n C rfl rfl (dkAt dk_L_law_13 43 rfl) 1290 rfl ?_
      refine x_iconst C (v := (0 : Int32)) (by decide) (dkAt dk_L_law_13 44 rfl) 1291 rfl ?_
      refine x_lald C (hN.sh sh124) (dkAt dk_L_law_13 45 rfl) 1292 rfl hf (fun v13 hf => ?_)
      refine x_lload C rfl (dkAt dk_L_law_13 46 rfl) 1294 rfl ?_
      refine x_lcmp_eq C 1300 (dkAt dk_L_law_13 47 rfl) 1298 rfl (dkAt dk_L_law_14 0 rfl) (by decide) hf (fun hf => ?_) (fun hf => ?_)
      · refine x_goto C 3578 (dkAt dk_L_law_14 3 rfl) (by decide) ?_
        exact G.weak (L := [some (.ref b), some (.ref (wad Γ 0)), some (.ref (wad Γ 108)), some (.ref (wad Γ 124)), some (.ref (wad Γ 125)), some (.int i)]) ⟨rfl, rfl, rfl, rfl, rfl, rfl, trivial⟩ (G.wide (by omega) (by omega) (hj _ hf))
      · refine x_iconst C (v := (0 : Int32)) (by decide) (dkAt dk_L_law_14 1 rfl) 1299 rfl ?_
        exact nomatch hf
  · refine x_iconst C (v := (0 : Int32)) (by decide) (dkAt dk_L_law_13 39 rfl) 1283 rfl ?_
    exact nomatch hf
def f_law_20 (Z L : Nat) (xs : Nat → Int32) (M : Mem) (i : Int32) (j : Mem → Option Unit) : Option Unit :=
  rdX xs L (i + (1 : Int32)) (fun v1 => cl (f_L_visits Z M v1) (fun v2 M3 => rdX xs L (i + (1 : Int32)) (fun v4 => cl (f_X12_visits Z M3 v4) (fun v5 M6 => cl (f_X12_thrown Z M6) (fun v7 M8 => (if v7 = v2 then (if v2 = 0 then rdL M8 124 1 (0 : Int32) (fun v9 => (if v9 = v5 then j M8 else none)) else j M8) else none))))))
set_option maxRecDepth 100000 in
theorem c_law_20 {Γ : WC} {X : MX} (hN : HN Γ) (hC : NC Γ) (C : CX Γ X cL_law 9 RL (some .boolean) room_1) {Z b L cb sb : Nat} {xs : Nat → Int32} (hX : SX Γ X b L xs) (hcb : cb + 8 ≤ 601024 ∧ sb + 48 ≤ 7293034) {M : Mem} {i : Int32} {j : Mem → Option Unit} {rM : Unit} (hj : ∀ M1, j M1 = some rM → G Γ X M1 (cb + 8) (sb + 48) [some (.ref b), some (.ref (wad Γ 0)), some (.ref (wad Γ 108)), some (.ref (wad Γ 124)), some (.ref (wad Γ 125)), some (.int i)] [] 3578) (hf : f_law_20 Z L xs M i j = some rM) : G Γ X M cb sb [some (.ref b), some (.ref (wad Γ 0)), some (.ref (wad Γ 108)), some (.ref (wad Γ 124)), some (.ref (wad Γ 125)), some (.int i)] [] 1303 := by
  change G Γ X M (cb + 0) (sb + 0) _ _ _
  unfold f_law_20 at hf
  refine x_aload_n C rfl rfl (dkAt dk_L_law_14 4 rfl) 1304 rfl ?_
  refine x_aload_n C rfl rfl (dkAt dk_L_law_14 5 rfl) 1305 rfl ?_
  refine x_iload C rfl (dkAt dk_L_law_14 6 rfl) 1307 rfl ?_
  refine x_iconst C (v := (1 : Int32)) (by decide) (dkAt dk_L_law_14 7 rfl) 1308 rfl ?_
  refine x_iadd C (dkAt dk_L_law_14 8 rfl) 1309 rfl ?_
  refine x_sld C hX (dkAt dk_L_law_14 9 rfl) 1310 rfl hf (fun v1 hf => ?_)
  refine x_aload_n C rfl rfl (dkAt dk_L_law_14 10 rfl) 1311 rfl ?_
  obtain ⟨v2, M3, h12, hf⟩ := cl_inv hf
  refine x_cW C (c_L_visits hN hC h12) mww_L_visits ln_RL_268 (ro_law hcb (by decide) (by decide) (by decide) (by decide)) rfl rfl (Nat.le_of_ble_eq_true rfl) (dkAt dk_L_law_14 11 rfl) 1314 rfl (cb + 2) (sb + 12) rfl rfl ?_
  refine x_istore C (L1 := [some (.ref b), some (.ref (wad Γ 0)), some (.ref (wad Γ 108)), some (.ref (wad Γ 124)), some (.ref (wad Γ 125)), some (.int i), some (.int v2)]) (dkAt dk_L_law_14 12 rfl) 1316 rfl (by decide) rfl ?_
  refine x_aload_n C rfl rfl (dkAt dk_L_law_14 13 rfl) 1317 rfl ?_
  refine x_aload_n C rfl rfl (dkAt dk_L_law_14 14 rfl) 1318 rfl ?_
  refine x_iload C rfl (dkAt dk_L_law_14 15 rfl) 1320 rfl ?_
  refine x_iconst C (v := (1 : Int32)) (by decide) (dkAt dk_L_law_14 16 rfl) 1321 rfl ?_
  refine x_iadd C (dkAt dk_L_law_14 17 rfl) 1322 rfl ?_
  refine x_sld C hX (dkAt dk_L_law_14 18 rfl) 1323 rfl hf (fun v4 hf => ?_)
  obtain ⟨v5, M6, h11, hf⟩ := cl_inv hf
  refine x_cVl C (c_X12_visits hN h11) mw_X12_visits ln_RL_270 mi_X12_visits (hN.rc (ci := 12) sh108 rc12) (ro_law hcb (by decide) (by decide) (by decide) (by decide)) rfl rfl (Nat.le_of_ble_eq_true rfl) (dkAt dk_L_law_14 19 rfl) 1326 rfl (cb + 2) (sb + 12) rfl rfl ?_
  refine x_lstore C (L1 := [some (.ref b), some (.ref (wad Γ 0)), some (.ref (wad Γ 108)), some (.ref (wad Γ 124)), some (.ref (wad Γ 125)), some (.int i), some (.int v2), some (.long v5)]) (dkAt dk_L_law_14 20 rfl) 1328 rfl (by decide) rfl ?_
  refine x_aload_n C rfl rfl (dkAt dk_L_law_14 21 rfl) 1329 rfl ?_
  obtain ⟨v7, M8, h10, hf⟩ := cl_inv hf
  refine x_cVi C (c_X12_thrown hN h10) mw_X12_thrown ln_RL_202 mi_X12_thrown (hN.rc (ci := 12) sh108 rc12) (ro_law hcb (by decide) (by decide) (by decide) (by decide)) rfl rfl (Nat.le_of_ble_eq_true rfl) (dkAt dk_L_law_14 22 rfl) 1332 rfl (cb + 2) (sb + 12) rfl rfl ?_
  refine x_iload C rfl (dkAt dk_L_law_14 23 rfl) 1334 rfl ?_
  refine x_icmp_eq C 1339 (dkAt dk_L_law_14 24 rfl) 1337 rfl (by decide) hf (fun hf => ?_) (fun hf => ?_)
  · refine x_iload C rfl (dkAt dk_L_law_14 27 rfl) 1341 rfl ?_
    refine x_if_ne C 1355 (dkAt dk_L_law_14 28 rfl) 1344 rfl (by decide) hf (fun hf => ?_) (fun hf => ?_)
    · refine x_goto C 3578 (dkAt dk_L_law_14 37 rfl) (by decide) ?_
      exact G.weak (L := [some (.ref b), some (.ref (wad Γ 0)), some (.ref (wad Γ 108)), some (.ref (wad Γ 124)), some (.ref (wad Γ 125)), some (.int i)]) ⟨rfl, rfl, rfl, rfl, rfl, rfl, trivial⟩ (G.wide (by omega) (by omega) (hj _ hf))
    · refine x_aload_n C rfl rfl (dkAt dk_L_law_14 29 rfl) 1345 rfl ?_
      refine x_iconst C (v := (0 : Int32)) (by decide) (dkAt dk_L_law_14 30 rfl) 1346 rfl ?_
      refine x_lald C (hN.sh sh124) (dkAt dk_L_law_14 31 rfl) 1347 rfl hf (fun v9 hf => ?_)
      refine x_lload C rfl (dkAt dk_L_law_14 32 rfl) 1349 rfl ?_
      refine x_lcmp_eq C 1355 (dkAt dk_L_law_14 33 rfl) 1353 rfl (dkAt dk_L_law_14 34 rfl) (by decide) hf (fun hf => ?_) (fun hf => ?_)
      · refine x_goto C 3578 (dkAt dk_L_law_14 37 rfl) (by decide) ?_
        exact G.weak (L := [some (.ref b), some (.ref (wad Γ 0)), some (.ref (wad Γ 108)), some (.ref (wad Γ 124)), some (.ref (wad Γ 125)), some (.int i)]) ⟨rfl, rfl, rfl, rfl, rfl, rfl, trivial⟩ (G.wide (by omega) (by omega) (hj _ hf))
      · refine x_iconst C (v := (0 : Int32)) (by decide) (dkAt dk_L_law_14 35 rfl) 1354 rfl ?_
        exact nomatch hf
  · refine x_iconst C (v := (0 : Int32)) (by decide) (dkAt dk_L_law_14 25 rfl) 1338 rfl ?_
    exact nomatch hf
def f_law_21 (Z L : Nat) (xs : Nat → Int32) (M : Mem) (i : Int32) (j : Mem → Option Unit) : Option Unit :=
  rdX xs L (i + (1 : Int32)) (fun v1 => cl (f_L_hit Z M v1) (fun v2 M3 => rdX xs L (i + (1 : Int32)) (fun v4 => cl (f_X12_hit Z M3 v4) (fun v5 M6 => cl (f_X12_thrown Z M6) (fun v7 M8 => (if v7 = v2 then (if v2 = 0 then rdL M8 124 1 (0 : Int32) (fun v9 => (if v9 = v5 then j M8 else none)) else j M8) else none))))))
set_option maxRecDepth 100000 in
theorem c_law_21 {Γ : WC} {X : MX} (hN : HN Γ) (hC : NC Γ) (C : CX Γ X cL_law 9 RL (some .boolean) room_1) {Z b L cb sb : Nat} {xs : Nat → Int32} (hX : SX Γ X b L xs) (hcb : cb + 8 ≤ 601024 ∧ sb + 48 ≤ 7293034) {M : Mem} {i : Int32} {j : Mem → Option Unit} {rM : Unit} (hj : ∀ M1, j M1 = some rM → G Γ X M1 (cb + 8) (sb + 48) [some (.ref b), some (.ref (wad Γ 0)), some (.ref (wad Γ 108)), some (.ref (wad Γ 124)), some (.ref (wad Γ 125)), some (.int i)] [] 3578) (hf : f_law_21 Z L xs M i j = some rM) : G Γ X M cb sb [some (.ref b), some (.ref (wad Γ 0)), some (.ref (wad Γ 108)), some (.ref (wad Γ 124)), some (.ref (wad Γ 125)), some (.int i)] [] 1358 := by
  change G Γ X M (cb + 0) (sb + 0) _ _ _
  unfold f_law_21 at hf
  refine x_aload_n C rfl rfl (dkAt dk_L_law_14 38 rfl) 1359 rfl ?_
  refine x_aload_n C rfl rfl (dkAt dk_L_law_14 39 rfl) 1360 rfl ?_
  refine x_iload C rfl (dkAt dk_L_law_14 40 rfl) 1362 rfl ?_
  refine x_iconst C (v := (1 : Int32)) (by decide) (dkAt dk_L_law_14 41 rfl) 1363 rfl ?_
  refine x_iadd C (dkAt dk_L_law_14 42 rfl) 1364 rfl ?_
  refine x_sld C hX (dkAt dk_L_law_14 43 rfl) 1365 rfl hf (fun v1 hf => ?_)
  refine x_aload_n C rfl rfl (dkAt dk_L_law_14 44 rfl) 1366 rfl ?_
  obtain ⟨v2, M3, h12, hf⟩ := cl_inv hf
  refine x_cW C (c_L_hit hN hC h12) mww_L_hit ln_RL_271 (ro_law hcb (by decide) (by decide) (by decide) (by decide)) rfl rfl (Nat.le_of_ble_eq_true rfl) (dkAt dk_L_law_14 45 rfl) 1369 rfl (cb + 2) (sb + 12) rfl rfl ?_
  refine x_istore C (L1 := [some (.ref b), some (.ref (wad Γ 0)), some (.ref (wad Γ 108)), some (.ref (wad Γ 124)), some (.ref (wad Γ 125)), some (.int i), some (.int v2)]) (dkAt dk_L_law_14 46 rfl) 1371 rfl (by decide) rfl ?_
  refine x_aload_n C rfl rfl (dkAt dk_L_law_14 47 rfl) 1372 rfl ?_
  refine x_aload_n C rfl rfl (dkAt dk_L_law_15 0 rfl) 1373 rfl ?_
  refine x_iload C rfl (dkAt dk_L_law_15 1 rfl) 1375 rfl ?_
  refine x_iconst C (v := (1 : Int32)) (by decide) (dkAt dk_L_law_15 2 rfl) 1376 rfl ?_
  refine x_iadd C (dkAt dk_L_law_15 3 rfl) 1377 rfl ?_
  refine x_sld C hX (dkAt dk_L_law_15 4 rfl) 1378 rfl hf (fun v4 hf => ?_)
  obtain ⟨v5, M6, h11, hf⟩ := cl_inv hf
  refine x_cVl C (c_X12_hit hN h11) mw_X12_hit ln_RL_273 mi_X12_hit (hN.rc (ci := 12) sh108 rc12) (ro_law hcb (by decide) (by decide) (by decide) (by decide)) rfl rfl (Nat.le_of_ble_eq_true rfl) (dkAt dk_L_law_15 5 rfl) 1381 rfl (cb + 2) (sb + 12) rfl rfl ?_
  refine x_lstore C (L1 := [some (.ref b), some (.ref (wad Γ 0)), some (.ref (wad Γ 108)), some (.ref (wad Γ 124)), some (.ref (wad Γ 125)), some (.int i), some (.int v2), some (.long v5)]) (dkAt dk_L_law_15 6 rfl) 1383 rfl (by decide) rfl ?_
  refine x_aload_n C rfl rfl (dkAt dk_L_law_15 7 rfl) 1384 rfl ?_
  obtain ⟨v7, M8, h10, hf⟩ := cl_inv hf
  refine x_cVi C (c_X12_thrown hN h10) mw_X12_thrown ln_RL_202 mi_X12_thrown (hN.rc (ci := 12) sh108 rc12) (ro_law hcb (by decide) (by decide) (by decide) (by decide)) rfl rfl (Nat.le_of_ble_eq_true rfl) (dkAt dk_L_law_15 8 rfl) 1387 rfl (cb + 2) (sb + 12) rfl rfl ?_
  refine x_iload C rfl (dkAt dk_L_law_15 9 rfl) 1389 rfl ?_
  refine x_icmp_eq C 1394 (dkAt dk_L_law_15 10 rfl) 1392 rfl (by decide) hf (fun hf => ?_) (fun hf => ?_)
  · refine x_iload C rfl (dkAt dk_L_law_15 13 rfl) 1396 rfl ?_
    refine x_if_ne C 1410 (dkAt dk_L_law_15 14 rfl) 1399 rfl (by decide) hf (fun hf => ?_) (fun hf => ?_)
    · refine x_goto C 3578 (dkAt dk_L_law_15 23 rfl) (by decide) ?_
      exact G.weak (L := [some (.ref b), some (.ref (wad Γ 0)), some (.ref (wad Γ 108)), some (.ref (wad Γ 124)), some (.ref (wad Γ 125)), some (.int i)]) ⟨rfl, rfl, rfl, rfl, rfl, rfl, trivial⟩ (G.wide (by omega) (by omega) (hj _ hf))
    · refine x_aload_n C rfl rfl (dkAt dk_L_law_15 15 rfl) 1400 rfl ?_
      refine x_iconst C (v := (0 : Int32)) (by decide) (dkAt dk_L_law_15 16 rfl) 1401 rfl ?_
      refine x_lald C (hN.sh sh124) (dkAt dk_L_law_15 17 rfl) 1402 rfl hf (fun v9 hf => ?_)
      refine x_lload C rfl (dkAt dk_L_law_15 18 rfl) 1404 rfl ?_
      refine x_lcmp_eq C 1410 (dkAt dk_L_law_15 19 rfl) 1408 rfl (dkAt dk_L_law_15 20 rfl) (by decide) hf (fun hf => ?_) (fun hf => ?_)
      · refine x_goto C 3578 (dkAt dk_L_law_15 23 rfl) (by decide) ?_
        exact G.weak (L := [some (.ref b), some (.ref (wad Γ 0)), some (.ref (wad Γ 108)), some (.ref (wad Γ 124)), some (.ref (wad Γ 125)), some (.int i)]) ⟨rfl, rfl, rfl, rfl, rfl, rfl, trivial⟩ (G.wide (by omega) (by omega) (hj _ hf))
      · refine x_iconst C (v := (0 : Int32)) (by decide) (dkAt dk_L_law_15 21 rfl) 1409 rfl ?_
        exact nomatch hf
  · refine x_iconst C (v := (0 : Int32)) (by decide) (dkAt dk_L_law_15 11 rfl) 1393 rfl ?_
    exact nomatch hf
def f_law_22 (Z L : Nat) (xs : Nat → Int32) (M : Mem) (i : Int32) (j : Mem → Option Unit) : Option Unit :=
  cl (f_L_unit Z M) (fun v1 M2 => cl (f_X12_unit Z M2) (fun v3 M4 => cl (f_X12_thrown Z M4) (fun v5 M6 => (if v5 = v1 then (if v1 = 0 then rdL M6 124 1 (0 : Int32) (fun v7 => (if v7 = v3 then j M6 else none)) else j M6) else none))))
set_option maxRecDepth 100000 in
theorem c_law_22 {Γ : WC} {X : MX} (hN : HN Γ) (hC : NC Γ) (C : CX Γ X cL_law 9 RL (some .boolean) room_1) {Z b L cb sb : Nat} {xs : Nat → Int32} (hX : SX Γ X b L xs) (hcb : cb + 8 ≤ 601024 ∧ sb + 48 ≤ 7293034) {M : Mem} {i : Int32} {j : Mem → Option Unit} {rM : Unit} (hj : ∀ M1, j M1 = some rM → G Γ X M1 (cb + 8) (sb + 48) [some (.ref b), some (.ref (wad Γ 0)), some (.ref (wad Γ 108)), some (.ref (wad Γ 124)), some (.ref (wad Γ 125)), some (.int i)] [] 3578) (hf : f_law_22 Z L xs M i j = some rM) : G Γ X M cb sb [some (.ref b), some (.ref (wad Γ 0)), some (.ref (wad Γ 108)), some (.ref (wad Γ 124)), some (.ref (wad Γ 125)), some (.int i)] [] 1413 := by
  change G Γ X M (cb + 0) (sb + 0) _ _ _
  unfold f_law_22 at hf
  refine x_aload_n C rfl rfl (dkAt dk_L_law_15 24 rfl) 1414 rfl ?_
  refine x_aload_n C rfl rfl (dkAt dk_L_law_15 25 rfl) 1415 rfl ?_
  obtain ⟨v1, M2, h10, hf⟩ := cl_inv hf
  refine x_cW C (c_L_unit hN hC h10) mww_L_unit ln_RL_274 (ro_law hcb (by decide) (by decide) (by decide) (by decide)) rfl rfl (Nat.le_of_ble_eq_true rfl) (dkAt dk_L_law_15 26 rfl) 1418 rfl (cb + 1) (sb + 6) rfl rfl ?_
  refine x_istore C (L1 := [some (.ref b), some (.ref (wad Γ 0)), some (.ref (wad Γ 108)), some (.ref (wad Γ 124)), some (.ref (wad Γ 125)), some (.int i), some (.int v1)]) (dkAt dk_L_law_15 27 rfl) 1420 rfl (by decide) rfl ?_
  refine x_aload_n C rfl rfl (dkAt dk_L_law_15 28 rfl) 1421 rfl ?_
  obtain ⟨v3, M4, h9, hf⟩ := cl_inv hf
  refine x_cVl C (c_X12_unit hN h9) mw_X12_unit ln_RL_276 mi_X12_unit (hN.rc (ci := 12) sh108 rc12) (ro_law hcb (by decide) (by decide) (by decide) (by decide)) rfl rfl (Nat.le_of_ble_eq_true rfl) (dkAt dk_L_law_15 29 rfl) 1424 rfl (cb + 1) (sb + 6) rfl rfl ?_
  refine x_lstore C (L1 := [some (.ref b), some (.ref (wad Γ 0)), some (.ref (wad Γ 108)), some (.ref (wad Γ 124)), some (.ref (wad Γ 125)), some (.int i), some (.int v1), some (.long v3)]) (dkAt dk_L_law_15 30 rfl) 1426 rfl (by decide) rfl ?_
  refine x_aload_n C rfl rfl (dkAt dk_L_law_15 31 rfl) 1427 rfl ?_
  obtain ⟨v5, M6, h8, hf⟩ := cl_inv hf
  refine x_cVi C (c_X12_thrown hN h8) mw_X12_thrown ln_RL_202 mi_X12_thrown (hN.rc (ci := 12) sh108 rc12) (ro_law hcb (by decide) (by decide) (by decide) (by decide)) rfl rfl (Nat.le_of_ble_eq_true rfl) (dkAt dk_L_law_15 32 rfl) 1430 rfl (cb + 1) (sb + 6) rfl rfl ?_
  refine x_iload C rfl (dkAt dk_L_law_15 33 rfl) 1432 rfl ?_
  refine x_icmp_eq C 1437 (dkAt dk_L_law_15 34 rfl) 1435 rfl (by decide) hf (fun hf => ?_) (fun hf => ?_)
  · refine x_iload C rfl (dkAt dk_L_law_15 37 rfl) 1439 rfl ?_
    refine x_if_ne C 1453 (dkAt dk_L_law_15 38 rfl) 1442 rfl (by decide) hf (fun hf => ?_) (fun hf => ?_)
    · refine x_goto C 3578 (dkAt dk_L_law_15 47 rfl) (by decide) ?_
      exact G.weak (L := [some (.ref b), some (.ref (wad Γ 0)), some (.ref (wad Γ 108)), some (.ref (wad Γ 124)), some (.ref (wad Γ 125)), some (.int i)]) ⟨rfl, rfl, rfl, rfl, rfl, rfl, trivial⟩ (G.wide (by omega) (by omega) (hj _ hf))
    · refine x_aload_n C rfl rfl (dkAt dk_L_law_15 39 rfl) 1443 rfl ?_
      refine x_iconst C (v := (0 : Int32)) (by decide) (dkAt dk_L_law_15 40 rfl) 1444 rfl ?_
      refine x_lald C (hN.sh sh124) (dkAt dk_L_law_15 41 rfl) 1445 rfl hf (fun v7 hf => ?_)
      refine x_lload C rfl (dkAt dk_L_law_15 42 rfl) 1447 rfl ?_
      refine x_lcmp_eq C 1453 (dkAt dk_L_law_15 43 rfl) 1451 rfl (dkAt dk_L_law_15 44 rfl) (by decide) hf (fun hf => ?_) (fun hf => ?_)
      · refine x_goto C 3578 (dkAt dk_L_law_15 47 rfl) (by decide) ?_
        exact G.weak (L := [some (.ref b), some (.ref (wad Γ 0)), some (.ref (wad Γ 108)), some (.ref (wad Γ 124)), some (.ref (wad Γ 125)), some (.int i)]) ⟨rfl, rfl, rfl, rfl, rfl, rfl, trivial⟩ (G.wide (by omega) (by omega) (hj _ hf))
      · refine x_iconst C (v := (0 : Int32)) (by decide) (dkAt dk_L_law_15 45 rfl) 1452 rfl ?_
        exact nomatch hf
  · refine x_iconst C (v := (0 : Int32)) (by decide) (dkAt dk_L_law_15 35 rfl) 1436 rfl ?_
    exact nomatch hf
def f_law_23 (Z L : Nat) (xs : Nat → Int32) (M : Mem) (i : Int32) (j : Mem → Option Unit) : Option Unit :=
  cl (f_L_gainOfRun Z M) (fun v1 M2 => cl (f_X12_gainOfRun Z M2) (fun v3 M4 => cl (f_X12_thrown Z M4) (fun v5 M6 => (if v5 = v1 then (if v1 = 0 then rdL M6 124 1 (0 : Int32) (fun v7 => (if v7 = v3 then j M6 else none)) else j M6) else none))))
set_option maxRecDepth 100000 in
theorem c_law_23 {Γ : WC} {X : MX} (hN : HN Γ) (hC : NC Γ) (C : CX Γ X cL_law 9 RL (some .boolean) room_1) {Z b L cb sb : Nat} {xs : Nat → Int32} (hX : SX Γ X b L xs) (hcb : cb + 8 ≤ 601024 ∧ sb + 48 ≤ 7293034) {M : Mem} {i : Int32} {j : Mem → Option Unit} {rM : Unit} (hj : ∀ M1, j M1 = some rM → G Γ X M1 (cb + 8) (sb + 48) [some (.ref b), some (.ref (wad Γ 0)), some (.ref (wad Γ 108)), some (.ref (wad Γ 124)), some (.ref (wad Γ 125)), some (.int i)] [] 3578) (hf : f_law_23 Z L xs M i j = some rM) : G Γ X M cb sb [some (.ref b), some (.ref (wad Γ 0)), some (.ref (wad Γ 108)), some (.ref (wad Γ 124)), some (.ref (wad Γ 125)), some (.int i)] [] 1456 := by
  change G Γ X M (cb + 0) (sb + 0) _ _ _
  unfold f_law_23 at hf
  refine x_aload_n C rfl rfl (dkAt dk_L_law_16 0 rfl) 1457 rfl ?_
  refine x_aload_n C rfl rfl (dkAt dk_L_law_16 1 rfl) 1458 rfl ?_
  obtain ⟨v1, M2, h10, hf⟩ := cl_inv hf
  refine x_cW C (c_L_gainOfRun hN hC h10) mww_L_gainOfRun ln_RL_277 (ro_law hcb (by decide) (by decide) (by decide) (by decide)) rfl rfl (Nat.le_of_ble_eq_true rfl) (dkAt dk_L_law_16 2 rfl) 1461 rfl (cb + 1) (sb + 6) rfl rfl ?_
  refine x_istore C (L1 := [some (.ref b), some (.ref (wad Γ 0)), some (.ref (wad Γ 108)), some (.ref (wad Γ 124)), some (.ref (wad Γ 125)), some (.int i), some (.int v1)]) (dkAt dk_L_law_16 3 rfl) 1463 rfl (by decide) rfl ?_
  refine x_aload_n C rfl rfl (dkAt dk_L_law_16 4 rfl) 1464 rfl ?_
  obtain ⟨v3, M4, h9, hf⟩ := cl_inv hf
  refine x_cVl C (c_X12_gainOfRun hN h9) mw_X12_gainOfRun ln_RL_279 mi_X12_gainOfRun (hN.rc (ci := 12) sh108 rc12) (ro_law hcb (by decide) (by decide) (by decide) (by decide)) rfl rfl (Nat.le_of_ble_eq_true rfl) (dkAt dk_L_law_16 5 rfl) 1467 rfl (cb + 1) (sb + 6) rfl rfl ?_
  refine x_lstore C (L1 := [some (.ref b), some (.ref (wad Γ 0)), some (.ref (wad Γ 108)), some (.ref (wad Γ 124)), some (.ref (wad Γ 125)), some (.int i), some (.int v1), some (.long v3)]) (dkAt dk_L_law_16 6 rfl) 1469 rfl (by decide) rfl ?_
  refine x_aload_n C rfl rfl (dkAt dk_L_law_16 7 rfl) 1470 rfl ?_
  obtain ⟨v5, M6, h8, hf⟩ := cl_inv hf
  refine x_cVi C (c_X12_thrown hN h8) mw_X12_thrown ln_RL_202 mi_X12_thrown (hN.rc (ci := 12) sh108 rc12) (ro_law hcb (by decide) (by decide) (by decide) (by decide)) rfl rfl (Nat.le_of_ble_eq_true rfl) (dkAt dk_L_law_16 8 rfl) 1473 rfl (cb + 1) (sb + 6) rfl rfl ?_
  refine x_iload C rfl (dkAt dk_L_law_16 9 rfl) 1475 rfl ?_
  refine x_icmp_eq C 1480 (dkAt dk_L_law_16 10 rfl) 1478 rfl (by decide) hf (fun hf => ?_) (fun hf => ?_)
  · refine x_iload C rfl (dkAt dk_L_law_16 13 rfl) 1482 rfl ?_
    refine x_if_ne C 1496 (dkAt dk_L_law_16 14 rfl) 1485 rfl (by decide) hf (fun hf => ?_) (fun hf => ?_)
    · refine x_goto C 3578 (dkAt dk_L_law_16 23 rfl) (by decide) ?_
      exact G.weak (L := [some (.ref b), some (.ref (wad Γ 0)), some (.ref (wad Γ 108)), some (.ref (wad Γ 124)), some (.ref (wad Γ 125)), some (.int i)]) ⟨rfl, rfl, rfl, rfl, rfl, rfl, trivial⟩ (G.wide (by omega) (by omega) (hj _ hf))
    · refine x_aload_n C rfl rfl (dkAt dk_L_law_16 15 rfl) 1486 rfl ?_
      refine x_iconst C (v := (0 : Int32)) (by decide) (dkAt dk_L_law_16 16 rfl) 1487 rfl ?_
      refine x_lald C (hN.sh sh124) (dkAt dk_L_law_16 17 rfl) 1488 rfl hf (fun v7 hf => ?_)
      refine x_lload C rfl (dkAt dk_L_law_16 18 rfl) 1490 rfl ?_
      refine x_lcmp_eq C 1496 (dkAt dk_L_law_16 19 rfl) 1494 rfl (dkAt dk_L_law_16 20 rfl) (by decide) hf (fun hf => ?_) (fun hf => ?_)
      · refine x_goto C 3578 (dkAt dk_L_law_16 23 rfl) (by decide) ?_
        exact G.weak (L := [some (.ref b), some (.ref (wad Γ 0)), some (.ref (wad Γ 108)), some (.ref (wad Γ 124)), some (.ref (wad Γ 125)), some (.int i)]) ⟨rfl, rfl, rfl, rfl, rfl, rfl, trivial⟩ (G.wide (by omega) (by omega) (hj _ hf))
      · refine x_iconst C (v := (0 : Int32)) (by decide) (dkAt dk_L_law_16 21 rfl) 1495 rfl ?_
        exact nomatch hf
  · refine x_iconst C (v := (0 : Int32)) (by decide) (dkAt dk_L_law_16 11 rfl) 1479 rfl ?_
    exact nomatch hf
def f_law_24 (Z L : Nat) (xs : Nat → Int32) (M : Mem) (i : Int32) (j : Mem → Option Unit) : Option Unit :=
  rdX xs L (i + (1 : Int32)) (fun v1 => cl (f_L_usedOfRun Z M v1) (fun v2 M3 => rdX xs L (i + (1 : Int32)) (fun v4 => cl (f_X12_usedOfRun Z M3 v4) (fun v5 M6 => cl (f_X12_thrown Z M6) (fun v7 M8 => (if v7 = v2 then (if v2 = 0 then rdL M8 124 1 (0 : Int32) (fun v9 => (if v9 = v5 then j M8 else none)) else j M8) else none))))))
set_option maxRecDepth 100000 in
theorem c_law_24 {Γ : WC} {X : MX} (hN : HN Γ) (hC : NC Γ) (C : CX Γ X cL_law 9 RL (some .boolean) room_1) {Z b L cb sb : Nat} {xs : Nat → Int32} (hX : SX Γ X b L xs) (hcb : cb + 8 ≤ 601024 ∧ sb + 48 ≤ 7293034) {M : Mem} {i : Int32} {j : Mem → Option Unit} {rM : Unit} (hj : ∀ M1, j M1 = some rM → G Γ X M1 (cb + 8) (sb + 48) [some (.ref b), some (.ref (wad Γ 0)), some (.ref (wad Γ 108)), some (.ref (wad Γ 124)), some (.ref (wad Γ 125)), some (.int i)] [] 3578) (hf : f_law_24 Z L xs M i j = some rM) : G Γ X M cb sb [some (.ref b), some (.ref (wad Γ 0)), some (.ref (wad Γ 108)), some (.ref (wad Γ 124)), some (.ref (wad Γ 125)), some (.int i)] [] 1499 := by
  change G Γ X M (cb + 0) (sb + 0) _ _ _
  unfold f_law_24 at hf
  refine x_aload_n C rfl rfl (dkAt dk_L_law_16 24 rfl) 1500 rfl ?_
  refine x_aload_n C rfl rfl (dkAt dk_L_law_16 25 rfl) 1501 rfl ?_
  refine x_iload C rfl (dkAt dk_L_law_16 26 rfl) 1503 rfl ?_
  refine x_iconst C (v := (1 : Int32)) (by decide) (dkAt dk_L_law_16 27 rfl) 1504 rfl ?_
  refine x_iadd C (dkAt dk_L_law_16 28 rfl) 1505 rfl ?_
  refine x_sld C hX (dkAt dk_L_law_16 29 rfl) 1506 rfl hf (fun v1 hf => ?_)
  refine x_aload_n C rfl rfl (dkAt dk_L_law_16 30 rfl) 1507 rfl ?_
  obtain ⟨v2, M3, h12, hf⟩ := cl_inv hf
  refine x_cW C (c_L_usedOfRun hN hC h12) mww_L_usedOfRun ln_RL_280 (ro_law hcb (by decide) (by decide) (by decide) (by decide)) rfl rfl (Nat.le_of_ble_eq_true rfl) (dkAt dk_L_law_16 31 rfl) 1510 rfl (cb + 2) (sb + 12) rfl rfl ?_
  refine x_istore C (L1 := [some (.ref b), some (.ref (wad Γ 0)), some (.ref (wad Γ 108)), some (.ref (wad Γ 124)), some (.ref (wad Γ 125)), some (.int i), some (.int v2)]) (dkAt dk_L_law_16 32 rfl) 1512 rfl (by decide) rfl ?_
  refine x_aload_n C rfl rfl (dkAt dk_L_law_16 33 rfl) 1513 rfl ?_
  refine x_aload_n C rfl rfl (dkAt dk_L_law_16 34 rfl) 1514 rfl ?_
  refine x_iload C rfl (dkAt dk_L_law_16 35 rfl) 1516 rfl ?_
  refine x_iconst C (v := (1 : Int32)) (by decide) (dkAt dk_L_law_16 36 rfl) 1517 rfl ?_
  refine x_iadd C (dkAt dk_L_law_16 37 rfl) 1518 rfl ?_
  refine x_sld C hX (dkAt dk_L_law_16 38 rfl) 1519 rfl hf (fun v4 hf => ?_)
  obtain ⟨v5, M6, h11, hf⟩ := cl_inv hf
  refine x_cVl C (c_X12_usedOfRun hN h11) mw_X12_usedOfRun ln_RL_282 mi_X12_usedOfRun (hN.rc (ci := 12) sh108 rc12) (ro_law hcb (by decide) (by decide) (by decide) (by decide)) rfl rfl (Nat.le_of_ble_eq_true rfl) (dkAt dk_L_law_16 39 rfl) 1522 rfl (cb + 2) (sb + 12) rfl rfl ?_
  refine x_lstore C (L1 := [some (.ref b), some (.ref (wad Γ 0)), some (.ref (wad Γ 108)), some (.ref (wad Γ 124)), some (.ref (wad Γ 125)), some (.int i), some (.int v2), some (.long v5)]) (dkAt dk_L_law_16 40 rfl) 1524 rfl (by decide) rfl ?_
  refine x_aload_n C rfl rfl (dkAt dk_L_law_16 41 rfl) 1525 rfl ?_
  obtain ⟨v7, M8, h10, hf⟩ := cl_inv hf
  refine x_cVi C (c_X12_thrown hN h10) mw_X12_thrown ln_RL_202 mi_X12_thrown (hN.rc (ci := 12) sh108 rc12) (ro_law hcb (by decide) (by decide) (by decide) (by decide)) rfl rfl (Nat.le_of_ble_eq_true rfl) (dkAt dk_L_law_16 42 rfl) 1528 rfl (cb + 2) (sb + 12) rfl rfl ?_
  refine x_iload C rfl (dkAt dk_L_law_16 43 rfl) 1530 rfl ?_
  refine x_icmp_eq C 1535 (dkAt dk_L_law_16 44 rfl) 1533 rfl (by decide) hf (fun hf => ?_) (fun hf => ?_)
  · refine x_iload C rfl (dkAt dk_L_law_16 47 rfl) 1537 rfl ?_
    refine x_if_ne C 1551 (dkAt dk_L_law_17 0 rfl) 1540 rfl (by decide) hf (fun hf => ?_) (fun hf => ?_)
    · refine x_goto C 3578 (dkAt dk_L_law_17 9 rfl) (by decide) ?_
      exact G.weak (L := [some (.ref b), some (.ref (wad Γ 0)), some (.ref (wad Γ 108)), some (.ref (wad Γ 124)), some (.ref (wad Γ 125)), some (.int i)]) ⟨rfl, rfl, rfl, rfl, rfl, rfl, trivial⟩ (G.wide (by omega) (by omega) (hj _ hf))
    · refine x_aload_n C rfl rfl (dkAt dk_L_law_17 1 rfl) 1541 rfl ?_
      refine x_iconst C (v := (0 : Int32)) (by decide) (dkAt dk_L_law_17 2 rfl) 1542 rfl ?_
      refine x_lald C (hN.sh sh124) (dkAt dk_L_law_17 3 rfl) 1543 rfl hf (fun v9 hf => ?_)
      refine x_lload C rfl (dkAt dk_L_law_17 4 rfl) 1545 rfl ?_
      refine x_lcmp_eq C 1551 (dkAt dk_L_law_17 5 rfl) 1549 rfl (dkAt dk_L_law_17 6 rfl) (by decide) hf (fun hf => ?_) (fun hf => ?_)
      · refine x_goto C 3578 (dkAt dk_L_law_17 9 rfl) (by decide) ?_
        exact G.weak (L := [some (.ref b), some (.ref (wad Γ 0)), some (.ref (wad Γ 108)), some (.ref (wad Γ 124)), some (.ref (wad Γ 125)), some (.int i)]) ⟨rfl, rfl, rfl, rfl, rfl, rfl, trivial⟩ (G.wide (by omega) (by omega) (hj _ hf))
      · refine x_iconst C (v := (0 : Int32)) (by decide) (dkAt dk_L_law_17 7 rfl) 1550 rfl ?_
        exact nomatch hf
  · refine x_iconst C (v := (0 : Int32)) (by decide) (dkAt dk_L_law_16 45 rfl) 1534 rfl ?_
    exact nomatch hf
def f_law_25 (Z L : Nat) (xs : Nat → Int32) (M : Mem) (i : Int32) (j : Mem → Option Unit) : Option Unit :=
  rdX xs L (i + (1 : Int32)) (fun v1 => cl (f_L_left Z M v1) (fun v2 M3 => rdX xs L (i + (1 : Int32)) (fun v4 => cl (f_X12_left Z M3 v4) (fun v5 M6 => cl (f_X12_thrown Z M6) (fun v7 M8 => (if v7 = v2 then (if v2 = 0 then rdL M8 124 1 (0 : Int32) (fun v9 => (if v9 = v5 then j M8 else none)) else j M8) else none))))))
set_option maxRecDepth 100000 in
theorem c_law_25 {Γ : WC} {X : MX} (hN : HN Γ) (hC : NC Γ) (C : CX Γ X cL_law 9 RL (some .boolean) room_1) {Z b L cb sb : Nat} {xs : Nat → Int32} (hX : SX Γ X b L xs) (hcb : cb + 8 ≤ 601024 ∧ sb + 48 ≤ 7293034) {M : Mem} {i : Int32} {j : Mem → Option Unit} {rM : Unit} (hj : ∀ M1, j M1 = some rM → G Γ X M1 (cb + 8) (sb + 48) [some (.ref b), some (.ref (wad Γ 0)), some (.ref (wad Γ 108)), some (.ref (wad Γ 124)), some (.ref (wad Γ 125)), some (.int i)] [] 3578) (hf : f_law_25 Z L xs M i j = some rM) : G Γ X M cb sb [some (.ref b), some (.ref (wad Γ 0)), some (.ref (wad Γ 108)), some (.ref (wad Γ 124)), some (.ref (wad Γ 125)), some (.int i)] [] 1554 := by
  change G Γ X M (cb + 0) (sb + 0) _ _ _
  unfold f_law_25 at hf
  refine x_aload_n C rfl rfl (dkAt dk_L_law_17 10 rfl) 1555 rfl ?_
  refine x_aload_n C rfl rfl (dkAt dk_L_law_17 11 rfl) 1556 rfl ?_
  refine x_iload C rfl (dkAt dk_L_law_17 12 rfl) 1558 rfl ?_
  refine x_iconst C (v := (1 : Int32)) (by decide) (dkAt dk_L_law_17 13 rfl) 1559 rfl ?_
  refine x_iadd C (dkAt dk_L_law_17 14 rfl) 1560 rfl ?_
  refine x_sld C hX (dkAt dk_L_law_17 15 rfl) 1561 rfl hf (fun v1 hf => ?_)
  refine x_aload_n C rfl rfl (dkAt dk_L_law_17 16 rfl) 1562 rfl ?_
  obtain ⟨v2, M3, h12, hf⟩ := cl_inv hf
  refine x_cW C (c_L_left hN hC h12) mww_L_left ln_RL_283 (ro_law hcb (by decide) (by decide) (by decide) (by decide)) rfl rfl (Nat.le_of_ble_eq_true rfl) (dkAt dk_L_law_17 17 rfl) 1565 rfl (cb + 2) (sb + 12) rfl rfl ?_
  refine x_istore C (L1 := [some (.ref b), some (.ref (wad Γ 0)), some (.ref (wad Γ 108)), some (.ref (wad Γ 124)), some (.ref (wad Γ 125)), some (.int i), some (.int v2)]) (dkAt dk_L_law_17 18 rfl) 1567 rfl (by decide) rfl ?_
  refine x_aload_n C rfl rfl (dkAt dk_L_law_17 19 rfl) 1568 rfl ?_
  refine x_aload_n C rfl rfl (dkAt dk_L_law_17 20 rfl) 1569 rfl ?_
  refine x_iload C rfl (dkAt dk_L_law_17 21 rfl) 1571 rfl ?_
  refine x_iconst C (v := (1 : Int32)) (by decide) (dkAt dk_L_law_17 22 rfl) 1572 rfl ?_
  refine x_iadd C (dkAt dk_L_law_17 23 rfl) 1573 rfl ?_
  refine x_sld C hX (dkAt dk_L_law_17 24 rfl) 1574 rfl hf (fun v4 hf => ?_)
  obtain ⟨v5, M6, h11, hf⟩ := cl_inv hf
  refine x_cVl C (c_X12_left hN h11) mw_X12_left ln_RL_285 mi_X12_left (hN.rc (ci := 12) sh108 rc12) (ro_law hcb (by decide) (by decide) (by decide) (by decide)) rfl rfl (Nat.le_of_ble_eq_true rfl) (dkAt dk_L_law_17 25 rfl) 1577 rfl (cb + 2) (sb + 12) rfl rfl ?_
  refine x_lstore C (L1 := [some (.ref b), some (.ref (wad Γ 0)), some (.ref (wad Γ 108)), some (.ref (wad Γ 124)), some (.ref (wad Γ 125)), some (.int i), some (.int v2), some (.long v5)]) (dkAt dk_L_law_17 26 rfl) 1579 rfl (by decide) rfl ?_
  refine x_aload_n C rfl rfl (dkAt dk_L_law_17 27 rfl) 1580 rfl ?_
  obtain ⟨v7, M8, h10, hf⟩ := cl_inv hf
  refine x_cVi C (c_X12_thrown hN h10) mw_X12_thrown ln_RL_202 mi_X12_thrown (hN.rc (ci := 12) sh108 rc12) (ro_law hcb (by decide) (by decide) (by decide) (by decide)) rfl rfl (Nat.le_of_ble_eq_true rfl) (dkAt dk_L_law_17 28 rfl) 1583 rfl (cb + 2) (sb + 12) rfl rfl ?_
  refine x_iload C rfl (dkAt dk_L_law_17 29 rfl) 1585 rfl ?_
  refine x_icmp_eq C 1590 (dkAt dk_L_law_17 30 rfl) 1588 rfl (by decide) hf (fun hf => ?_) (fun hf => ?_)
  · refine x_iload C rfl (dkAt dk_L_law_17 33 rfl) 1592 rfl ?_
    refine x_if_ne C 1606 (dkAt dk_L_law_17 34 rfl) 1595 rfl (by decide) hf (fun hf => ?_) (fun hf => ?_)
    · refine x_goto C 3578 (dkAt dk_L_law_17 43 rfl) (by decide) ?_
      exact G.weak (L := [some (.ref b), some (.ref (wad Γ 0)), some (.ref (wad Γ 108)), some (.ref (wad Γ 124)), some (.ref (wad Γ 125)), some (.int i)]) ⟨rfl, rfl, rfl, rfl, rfl, rfl, trivial⟩ (G.wide (by omega) (by omega) (hj _ hf))
    · refine x_aload_n C rfl rfl (dkAt dk_L_law_17 35 rfl) 1596 rfl ?_
      refine x_iconst C (v := (0 : Int32)) (by decide) (dkAt dk_L_law_17 36 rfl) 1597 rfl ?_
      refine x_lald C (hN.sh sh124) (dkAt dk_L_law_17 37 rfl) 1598 rfl hf (fun v9 hf => ?_)
      refine x_lload C rfl (dkAt dk_L_law_17 38 rfl) 1600 rfl ?_
      refine x_lcmp_eq C 1606 (dkAt dk_L_law_17 39 rfl) 1604 rfl (dkAt dk_L_law_17 40 rfl) (by decide) hf (fun hf => ?_) (fun hf => ?_)
      · refine x_goto C 3578 (dkAt dk_L_law_17 43 rfl) (by decide) ?_
        exact G.weak (L := [some (.ref b), some (.ref (wad Γ 0)), some (.ref (wad Γ 108)), some (.ref (wad Γ 124)), some (.ref (wad Γ 125)), some (.int i)]) ⟨rfl, rfl, rfl, rfl, rfl, rfl, trivial⟩ (G.wide (by omega) (by omega) (hj _ hf))
      · refine x_iconst C (v := (0 : Int32)) (by decide) (dkAt dk_L_law_17 41 rfl) 1605 rfl ?_
        exact nomatch hf
  · refine x_iconst C (v := (0 : Int32)) (by decide) (dkAt dk_L_law_17 31 rfl) 1589 rfl ?_
    exact nomatch hf
def f_law_26 (Z L : Nat) (xs : Nat → Int32) (M : Mem) (i : Int32) (j : Mem → Option Unit) : Option Unit :=
  cl (f_L_broken Z M) (fun v1 M2 => cl (f_X12_broken Z M2) (fun v3 M4 => cl (f_X12_thrown Z M4) (fun v5 M6 => (if v5 = v1 then (if v1 = 0 then rdL M6 124 1 (0 : Int32) (fun v7 => (if v7 = v3.toInt64 then j M6 else none)) else j M6) else none))))
set_option maxRecDepth 100000 in
theorem c_law_26 {Γ : WC} {X : MX} (hN : HN Γ) (hC : NC Γ) (C : CX Γ X cL_law 9 RL (some .boolean) room_1) {Z b L cb sb : Nat} {xs : Nat → Int32} (hX : SX Γ X b L xs) (hcb : cb + 8 ≤ 601024 ∧ sb + 48 ≤ 7293034) {M : Mem} {i : Int32} {j : Mem → Option Unit} {rM : Unit} (hj : ∀ M1, j M1 = some rM → G Γ X M1 (cb + 8) (sb + 48) [some (.ref b), some (.ref (wad Γ 0)), some (.ref (wad Γ 108)), some (.ref (wad Γ 124)), some (.ref (wad Γ 125)), some (.int i)] [] 3578) (hf : f_law_26 Z L xs M i j = some rM) : G Γ X M cb sb [some (.ref b), some (.ref (wad Γ 0)), some (.ref (wad Γ 108)), some (.ref (wad Γ 124)), some (.ref (wad Γ 125)), some (.int i)] [] 1609 := by
  change G Γ X M (cb + 0) (sb + 0) _ _ _
  unfold f_law_26 at hf
  refine x_aload_n C rfl rfl (dkAt dk_L_law_17 44 rfl) 1610 rfl ?_
  refine x_aload_n C rfl rfl (dkAt dk_L_law_17 45 rfl) 1611 rfl ?_
  obtain ⟨v1, M2, h10, hf⟩ := cl_inv hf
  refine x_cW C (c_L_broken hN hC h10) mww_L_broken ln_RL_286 (ro_law hcb (by decide) (by decide) (by decide) (by decide)) rfl rfl (Nat.le_of_ble_eq_true rfl) (dkAt dk_L_law_17 46 rfl) 1614 rfl (cb + 1) (sb + 6) rfl rfl ?_
  refine x_istore C (L1 := [some (.ref b), some (.ref (wad Γ 0)), some (.ref (wad Γ 108)), some (.ref (wad Γ 124)), some (.ref (wad Γ 125)), some (.int i), some (.int v1)]) (dkAt dk_L_law_17 47 rfl) 1616 rfl (by decide) rfl ?_
  refine x_aload_n C rfl rfl (dkAt dk_L_law_18 0 rfl) 1617 rfl ?_
  obtain ⟨v3, M4, h9, hf⟩ := cl_inv hf
  refine x_cVi C (c_X12_broken hN h9) mw_X12_broken ln_RL_288 mi_X12_broken (hN.rc (ci := 12) sh108 rc12) (ro_law hcb (by decide) (by decide) (by decide) (by decide)) rfl rfl (Nat.le_of_ble_eq_true rfl) (dkAt dk_L_law_18 1 rfl) 1620 rfl (cb + 1) (sb + 6) rfl rfl ?_
  refine x_istore C (L1 := [some (.ref b), some (.ref (wad Γ 0)), some (.ref (wad Γ 108)), some (.ref (wad Γ 124)), some (.ref (wad Γ 125)), some (.int i), some (.int v1), some (.int v3)]) (dkAt dk_L_law_18 2 rfl) 1622 rfl (by decide) rfl ?_
  refine x_aload_n C rfl rfl (dkAt dk_L_law_18 3 rfl) 1623 rfl ?_
  obtain ⟨v5, M6, h8, hf⟩ := cl_inv hf
  refine x_cVi C (c_X12_thrown hN h8) mw_X12_thrown ln_RL_202 mi_X12_thrown (hN.rc (ci := 12) sh108 rc12) (ro_law hcb (by decide) (by decide) (by decide) (by decide)) rfl rfl (Nat.le_of_ble_eq_true rfl) (dkAt dk_L_law_18 4 rfl) 1626 rfl (cb + 1) (sb + 6) rfl rfl ?_
  refine x_iload C rfl (dkAt dk_L_law_18 5 rfl) 1628 rfl ?_
  refine x_icmp_eq C 1633 (dkAt dk_L_law_18 6 rfl) 1631 rfl (by decide) hf (fun hf => ?_) (fun hf => ?_)
  · refine x_iload C rfl (dkAt dk_L_law_18 9 rfl) 1635 rfl ?_
    refine x_if_ne C 1650 (dkAt dk_L_law_18 10 rfl) 1638 rfl (by decide) hf (fun hf => ?_) (fun hf => ?_)
    · refine x_goto C 3578 (dkAt dk_L_law_18 20 rfl) (by decide) ?_
      exact G.weak (L := [some (.ref b), some (.ref (wad Γ 0)), some (.ref (wad Γ 108)), some (.ref (wad Γ 124)), some (.ref (wad Γ 125)), some (.int i)]) ⟨rfl, rfl, rfl, rfl, rfl, rfl, trivial⟩ (G.wide (by omega) (by omega) (hj _ hf))
    · refine x_aload_n C rfl rfl (dkAt dk_L_law_18 11 rfl) 1639 rfl ?_
      refine x_iconst C (v := (0 : Int32)) (by decide) (dkAt dk_L_law_18 12 rfl) 1640 rfl ?_
      refine x_lald C (hN.sh sh124) (dkAt dk_L_law_18 13 rfl) 1641 rfl hf (fun v7 hf => ?_)
      refine x_iload C rfl (dkAt dk_L_law_18 14 rfl) 1643 rfl ?_
      refine x_i2l C (dkAt dk_L_law_18 15 rfl) 1644 rfl ?_
      refine x_lcmp_eq C 1650 (dkAt dk_L_law_18 16 rfl) 1648 rfl (dkAt dk_L_law_18 17 rfl) (by decide) hf (fun hf => ?_) (fun hf => ?_)
      · refine x_goto C 3578 (dkAt dk_L_law_18 20 rfl) (by decide) ?_
        exact G.weak (L := [some (.ref b), some (.ref (wad Γ 0)), some (.ref (wad Γ 108)), some (.ref (wad Γ 124)), some (.ref (wad Γ 125)), some (.int i)]) ⟨rfl, rfl, rfl, rfl, rfl, rfl, trivial⟩ (G.wide (by omega) (by omega) (hj _ hf))
      · refine x_iconst C (v := (0 : Int32)) (by decide) (dkAt dk_L_law_18 18 rfl) 1649 rfl ?_
        exact nomatch hf
  · refine x_iconst C (v := (0 : Int32)) (by decide) (dkAt dk_L_law_18 7 rfl) 1632 rfl ?_
    exact nomatch hf
def f_law_27 (Z L : Nat) (xs : Nat → Int32) (M : Mem) (i : Int32) (j : Mem → Option Unit) : Option Unit :=
  rdX xs L (i + (1 : Int32)) (fun v1 => cl (f_L_within Z M v1) (fun v2 M3 => rdX xs L (i + (1 : Int32)) (fun v4 => cl (f_X12_within Z M3 v4) (fun v5 M6 => cl (f_X12_thrown Z M6) (fun v7 M8 => (if v7 = v2 then (if v2 = 0 then rdL M8 124 1 (0 : Int32) (fun v9 => (if v9 = v5 then j M8 else none)) else j M8) else none))))))
set_option maxRecDepth 100000 in
theorem c_law_27 {Γ : WC} {X : MX} (hN : HN Γ) (hC : NC Γ) (C : CX Γ X cL_law 9 RL (some .boolean) room_1) {Z b L cb sb : Nat} {xs : Nat → Int32} (hX : SX Γ X b L xs) (hcb : cb + 8 ≤ 601024 ∧ sb + 48 ≤ 7293034) {M : Mem} {i : Int32} {j : Mem → Option Unit} {rM : Unit} (hj : ∀ M1, j M1 = some rM → G Γ X M1 (cb + 8) (sb + 48) [some (.ref b), some (.ref (wad Γ 0)), some (.ref (wad Γ 108)), some (.ref (wad Γ 124)), some (.ref (wad Γ 125)), some (.int i)] [] 3578) (hf : f_law_27 Z L xs M i j = some rM) : G Γ X M cb sb [some (.ref b), some (.ref (wad Γ 0)), some (.ref (wad Γ 108)), some (.ref (wad Γ 124)), some (.ref (wad Γ 125)), some (.int i)] [] 1653 := by
  change G Γ X M (cb + 0) (sb + 0) _ _ _
  unfold f_law_27 at hf
  refine x_aload_n C rfl rfl (dkAt dk_L_law_18 21 rfl) 1654 rfl ?_
  refine x_aload_n C rfl rfl (dkAt dk_L_law_18 22 rfl) 1655 rfl ?_
  refine x_iload C rfl (dkAt dk_L_law_18 23 rfl) 1657 rfl ?_
  refine x_iconst C (v := (1 : Int32)) (by decide) (dkAt dk_L_law_18 24 rfl) 1658 rfl ?_
  refine x_iadd C (dkAt dk_L_law_18 25 rfl) 1659 rfl ?_
  refine x_sld C hX (dkAt dk_L_law_18 26 rfl) 1660 rfl hf (fun v1 hf => ?_)
  refine x_aload_n C rfl rfl (dkAt dk_L_law_18 27 rfl) 1661 rfl ?_
  obtain ⟨v2, M3, h12, hf⟩ := cl_inv hf
  refine x_cW C (c_L_within hN hC h12) mww_L_within ln_RL_289 (ro_law hcb (by decide) (by decide) (by decide) (by decide)) rfl rfl (Nat.le_of_ble_eq_true rfl) (dkAt dk_L_law_18 28 rfl) 1664 rfl (cb + 2) (sb + 12) rfl rfl ?_
  refine x_istore C (L1 := [some (.ref b), some (.ref (wad Γ 0)), some (.ref (wad Γ 108)), some (.ref (wad Γ 124)), some (.ref (wad Γ 125)), some (.int i), some (.int v2)]) (dkAt dk_L_law_18 29 rfl) 1666 rfl (by decide) rfl ?_
  refine x_aload_n C rfl rfl (dkAt dk_L_law_18 30 rfl) 1667 rfl ?_
  refine x_aload_n C rfl rfl (dkAt dk_L_law_18 31 rfl) 1668 rfl ?_
  refine x_iload C rfl (dkAt dk_L_law_18 32 rfl) 1670 rfl ?_
  refine x_iconst C (v := (1 : Int32)) (by decide) (dkAt dk_L_law_18 33 rfl) 1671 rfl ?_
  refine x_iadd C (dkAt dk_L_law_18 34 rfl) 1672 rfl ?_
  refine x_sld C hX (dkAt dk_L_law_18 35 rfl) 1673 rfl hf (fun v4 hf => ?_)
  obtain ⟨v5, M6, h11, hf⟩ := cl_inv hf
  refine x_cVl C (c_X12_within hN h11) mw_X12_within ln_RL_291 mi_X12_within (hN.rc (ci := 12) sh108 rc12) (ro_law hcb (by decide) (by decide) (by decide) (by decide)) rfl rfl (Nat.le_of_ble_eq_true rfl) (dkAt dk_L_law_18 36 rfl) 1676 rfl (cb + 2) (sb + 12) rfl rfl ?_
  refine x_lstore C (L1 := [some (.ref b), some (.ref (wad Γ 0)), some (.ref (wad Γ 108)), some (.ref (wad Γ 124)), some (.ref (wad Γ 125)), some (.int i), some (.int v2), some (.long v5)]) (dkAt dk_L_law_18 37 rfl) 1678 rfl (by decide) rfl ?_
  refine x_aload_n C rfl rfl (dkAt dk_L_law_18 38 rfl) 1679 rfl ?_
  obtain ⟨v7, M8, h10, hf⟩ := cl_inv hf
  refine x_cVi C (c_X12_thrown hN h10) mw_X12_thrown ln_RL_202 mi_X12_thrown (hN.rc (ci := 12) sh108 rc12) (ro_law hcb (by decide) (by decide) (by decide) (by decide)) rfl rfl (Nat.le_of_ble_eq_true rfl) (dkAt dk_L_law_18 39 rfl) 1682 rfl (cb + 2) (sb + 12) rfl rfl ?_
  refine x_iload C rfl (dkAt dk_L_law_18 40 rfl) 1684 rfl ?_
  refine x_icmp_eq C 1689 (dkAt dk_L_law_18 41 rfl) 1687 rfl (by decide) hf (fun hf => ?_) (fun hf => ?_)
  · refine x_iload C rfl (dkAt dk_L_law_18 44 rfl) 1691 rfl ?_
    refine x_if_ne C 1705 (dkAt dk_L_law_18 45 rfl) 1694 rfl (by decide) hf (fun hf => ?_) (fun hf => ?_)
    · refine x_goto C 3578 (dkAt dk_L_law_19 6 rfl) (by decide) ?_
      exact G.weak (L := [some (.ref b), some (.ref (wad Γ 0)), some (.ref (wad Γ 108)), some (.ref (wad Γ 124)), some (.ref (wad Γ 125)), some (.int i)]) ⟨rfl, rfl, rfl, rfl, rfl, rfl, trivial⟩ (G.wide (by omega) (by omega) (hj _ hf))
    · refine x_aload_n C rfl rfl (dkAt dk_L_law_18 46 rfl) 1695 rfl ?_
      refine x_iconst C (v := (0 : Int32)) (by decide) (dkAt dk_L_law_18 47 rfl) 1696 rfl ?_
      refine x_lald C (hN.sh sh124) (dkAt dk_L_law_19 0 rfl) 1697 rfl hf (fun v9 hf => ?_)
      refine x_lload C rfl (dkAt dk_L_law_19 1 rfl) 1699 rfl ?_
      refine x_lcmp_eq C 1705 (dkAt dk_L_law_19 2 rfl) 1703 rfl (dkAt dk_L_law_19 3 rfl) (by decide) hf (fun hf => ?_) (fun hf => ?_)
      · refine x_goto C 3578 (dkAt dk_L_law_19 6 rfl) (by decide) ?_
        exact G.weak (L := [some (.ref b), some (.ref (wad Γ 0)), some (.ref (wad Γ 108)), some (.ref (wad Γ 124)), some (.ref (wad Γ 125)), some (.int i)]) ⟨rfl, rfl, rfl, rfl, rfl, rfl, trivial⟩ (G.wide (by omega) (by omega) (hj _ hf))
      · refine x_iconst C (v := (0 : Int32)) (by decide) (dkAt dk_L_law_19 4 rfl) 1704 rfl ?_
        exact nomatch hf
  · refine x_iconst C (v := (0 : Int32)) (by decide) (dkAt dk_L_law_18 42 rfl) 1688 rfl ?_
    exact nomatch hf
def f_law_28 (Z L : Nat) (xs : Nat → Int32) (M : Mem) (i : Int32) (j : Mem → Option Unit) : Option Unit :=
  rdX xs L (i + (1 : Int32)) (fun v1 => cl (f_L_mostUsed Z M v1) (fun v2 M3 => rdX xs L (i + (1 : Int32)) (fun v4 => cl (f_X12_mostUsed Z M3 v4) (fun v5 M6 => cl (f_X12_thrown Z M6) (fun v7 M8 => (if v7 = v2 then (if v2 = 0 then rdL M8 124 1 (0 : Int32) (fun v9 => (if v9 = v5.toInt64 then j M8 else none)) else j M8) else none))))))
set_option maxRecDepth 100000 in
theorem c_law_28 {Γ : WC} {X : MX} (hN : HN Γ) (hC : NC Γ) (C : CX Γ X cL_law 9 RL (some .boolean) room_1) {Z b L cb sb : Nat} {xs : Nat → Int32} (hX : SX Γ X b L xs) (hcb : cb + 8 ≤ 601024 ∧ sb + 48 ≤ 7293034) {M : Mem} {i : Int32} {j : Mem → Option Unit} {rM : Unit} (hj : ∀ M1, j M1 = some rM → G Γ X M1 (cb + 8) (sb + 48) [some (.ref b), some (.ref (wad Γ 0)), some (.ref (wad Γ 108)), some (.ref (wad Γ 124)), some (.ref (wad Γ 125)), some (.int i)] [] 3578) (hf : f_law_28 Z L xs M i j = some rM) : G Γ X M cb sb [some (.ref b), some (.ref (wad Γ 0)), some (.ref (wad Γ 108)), some (.ref (wad Γ 124)), some (.ref (wad Γ 125)), some (.int i)] [] 1708 := by
  change G Γ X M (cb + 0) (sb + 0) _ _ _
  unfold f_law_28 at hf
  refine x_aload_n C rfl rfl (dkAt dk_L_law_19 7 rfl) 1709 rfl ?_
  refine x_aload_n C rfl rfl (dkAt dk_L_law_19 8 rfl) 1710 rfl ?_
  refine x_iload C rfl (dkAt dk_L_law_19 9 rfl) 1712 rfl ?_
  refine x_iconst C (v := (1 : Int32)) (by decide) (dkAt dk_L_law_19 10 rfl) 1713 rfl ?_
  refine x_iadd C (dkAt dk_L_law_19 11 rfl) 1714 rfl ?_
  refine x_sld C hX (dkAt dk_L_law_19 12 rfl) 1715 rfl hf (fun v1 hf => ?_)
  refine x_aload_n C rfl rfl (dkAt dk_L_law_19 13 rfl) 1716 rfl ?_
  obtain ⟨v2, M3, h12, hf⟩ := cl_inv hf
  refine x_cW C (c_L_mostUsed hN hC h12) mww_L_mostUsed ln_RL_292 (ro_law hcb (by decide) (by decide) (by decide) (by decide)) rfl rfl (Nat.le_of_ble_eq_true rfl) (dkAt dk_L_law_19 14 rfl) 1719 rfl (cb + 2) (sb + 12) rfl rfl ?_
  refine x_istore C (L1 := [some (.ref b), some (.ref (wad Γ 0)), some (.ref (wad Γ 108)), some (.ref (wad Γ 124)), some (.ref (wad Γ 125)), some (.int i), some (.int v2)]) (dkAt dk_L_law_19 15 rfl) 1721 rfl (by decide) rfl ?_
  refine x_aload_n C rfl rfl (dkAt dk_L_law_19 16 rfl) 1722 rfl ?_
  refine x_aload_n C rfl rfl (dkAt dk_L_law_19 17 rfl) 1723 rfl ?_
  refine x_iload C rfl (dkAt dk_L_law_19 18 rfl) 1725 rfl ?_
  refine x_iconst C (v := (1 : Int32)) (by decide) (dkAt dk_L_law_19 19 rfl) 1726 rfl ?_
  refine x_iadd C (dkAt dk_L_law_19 20 rfl) 1727 rfl ?_
  refine x_sld C hX (dkAt dk_L_law_19 21 rfl) 1728 rfl hf (fun v4 hf => ?_)
  obtain ⟨v5, M6, h11, hf⟩ := cl_inv hf
  refine x_cVi C (c_X12_mostUsed hN h11) mw_X12_mostUsed ln_RL_294 mi_X12_mostUsed (hN.rc (ci := 12) sh108 rc12) (ro_law hcb (by decide) (by decide) (by decide) (by decide)) rfl rfl (Nat.le_of_ble_eq_true rfl) (dkAt dk_L_law_19 22 rfl) 1731 rfl (cb + 2) (sb + 12) rfl rfl ?_
  refine x_istore C (L1 := [some (.ref b), some (.ref (wad Γ 0)), some (.ref (wad Γ 108)), some (.ref (wad Γ 124)), some (.ref (wad Γ 125)), some (.int i), some (.int v2), some (.int v5)]) (dkAt dk_L_law_19 23 rfl) 1733 rfl (by decide) rfl ?_
  refine x_aload_n C rfl rfl (dkAt dk_L_law_19 24 rfl) 1734 rfl ?_
  obtain ⟨v7, M8, h10, hf⟩ := cl_inv hf
  refine x_cVi C (c_X12_thrown hN h10) mw_X12_thrown ln_RL_202 mi_X12_thrown (hN.rc (ci := 12) sh108 rc12) (ro_law hcb (by decide) (by decide) (by decide) (by decide)) rfl rfl (Nat.le_of_ble_eq_true rfl) (dkAt dk_L_law_19 25 rfl) 1737 rfl (cb + 2) (sb + 12) rfl rfl ?_
  refine x_iload C rfl (dkAt dk_L_law_19 26 rfl) 1739 rfl ?_
  refine x_icmp_eq C 1744 (dkAt dk_L_law_19 27 rfl) 1742 rfl (by decide) hf (fun hf => ?_) (fun hf => ?_)
  · refine x_iload C rfl (dkAt dk_L_law_19 30 rfl) 1746 rfl ?_
    refine x_if_ne C 1761 (dkAt dk_L_law_19 31 rfl) 1749 rfl (by decide) hf (fun hf => ?_) (fun hf => ?_)
    · refine x_goto C 3578 (dkAt dk_L_law_19 41 rfl) (by decide) ?_
      exact G.weak (L := [some (.ref b), some (.ref (wad Γ 0)), some (.ref (wad Γ 108)), some (.ref (wad Γ 124)), some (.ref (wad Γ 125)), some (.int i)]) ⟨rfl, rfl, rfl, rfl, rfl, rfl, trivial⟩ (G.wide (by omega) (by omega) (hj _ hf))
    · refine x_aload_n C rfl rfl (dkAt dk_L_law_19 32 rfl) 1750 rfl ?_
      refine x_iconst C (v := (0 : Int32)) (by decide) (dkAt dk_L_law_19 33 rfl) 1751 rfl ?_
      refine x_lald C (hN.sh sh124) (dkAt dk_L_law_19 34 rfl) 1752 rfl hf (fun v9 hf => ?_)
      refine x_iload C rfl (dkAt dk_L_law_19 35 rfl) 1754 rfl ?_
      refine x_i2l C (dkAt dk_L_law_19 36 rfl) 1755 rfl ?_
      refine x_lcmp_eq C 1761 (dkAt dk_L_law_19 37 rfl) 1759 rfl (dkAt dk_L_law_19 38 rfl) (by decide) hf (fun hf => ?_) (fun hf => ?_)
      · refine x_goto C 3578 (dkAt dk_L_law_19 41 rfl) (by decide) ?_
        exact G.weak (L := [some (.ref b), some (.ref (wad Γ 0)), some (.ref (wad Γ 108)), some (.ref (wad Γ 124)), some (.ref (wad Γ 125)), some (.int i)]) ⟨rfl, rfl, rfl, rfl, rfl, rfl, trivial⟩ (G.wide (by omega) (by omega) (hj _ hf))
      · refine x_iconst C (v := (0 : Int32)) (by decide) (dkAt dk_L_law_19 39 rfl) 1760 rfl ?_
        exact nomatch hf
  · refine x_iconst C (v := (0 : Int32)) (by decide) (dkAt dk_L_law_19 28 rfl) 1743 rfl ?_
    exact nomatch hf
def f_law_29 (Z L : Nat) (xs : Nat → Int32) (M : Mem) (i : Int32) (j : Mem → Option Unit) : Option Unit :=
  rdX xs L (i + (1 : Int32)) (fun v1 => cl (f_L_firstTime Z M v1) (fun v2 M3 => rdX xs L (i + (1 : Int32)) (fun v4 => cl (f_X12_firstTime Z M3 v4) (fun v5 M6 => cl (f_X12_thrown Z M6) (fun v7 M8 => (if v7 = v2 then (if v2 = 0 then rdL M8 124 1 (0 : Int32) (fun v9 => (if v9 = v5.toInt64 then j M8 else none)) else j M8) else none))))))
set_option maxRecDepth 100000 in
theorem c_law_29 {Γ : WC} {X : MX} (hN : HN Γ) (hC : NC Γ) (C : CX Γ X cL_law 9 RL (some .boolean) room_1) {Z b L cb sb : Nat} {xs : Nat → Int32} (hX : SX Γ X b L xs) (hcb : cb + 8 ≤ 601024 ∧ sb + 48 ≤ 7293034) {M : Mem} {i : Int32} {j : Mem → Option Unit} {rM : Unit} (hj : ∀ M1, j M1 = some rM → G Γ X M1 (cb + 8) (sb + 48) [some (.ref b), some (.ref (wad Γ 0)), some (.ref (wad Γ 108)), some (.ref (wad Γ 124)), some (.ref (wad Γ 125)), some (.int i)] [] 3578) (hf : f_law_29 Z L xs M i j = some rM) : G Γ X M cb sb [some (.ref b), some (.ref (wad Γ 0)), some (.ref (wad Γ 108)), some (.ref (wad Γ 124)), some (.ref (wad Γ 125)), some (.int i)] [] 1764 := by
  change G Γ X M (cb + 0) (sb + 0) _ _ _
  unfold f_law_29 at hf
  refine x_aload_n C rfl rfl (dkAt dk_L_law_19 42 rfl) 1765 rfl ?_
  refine x_aload_n C rfl rfl (dkAt dk_L_law_19 43 rfl) 1766 rfl ?_
  refine x_iload C rfl (dkAt dk_L_law_19 44 rfl) 1768 rfl ?_
  refine x_iconst C (v := (1 : Int32)) (by decide) (dkAt dk_L_law_19 45 rfl) 1769 rfl ?_
  refine x_iadd C (dkAt dk_L_law_19 46 rfl) 1770 rfl ?_
  refine x_sld C hX (dkAt dk_L_law_19 47 rfl) 1771 rfl hf (fun v1 hf => ?_)
  refine x_aload_n C rfl rfl (dkAt dk_L_law_20 0 rfl) 1772 rfl ?_
  obtain ⟨v2, M3, h12, hf⟩ := cl_inv hf
  refine x_cW C (c_L_firstTime hN hC h12) mww_L_firstTime ln_RL_295 (ro_law hcb (by decide) (by decide) (by decide) (by decide)) rfl rfl (Nat.le_of_ble_eq_true rfl) (dkAt dk_L_law_20 1 rfl) 1775 rfl (cb + 2) (sb + 12) rfl rfl ?_
  refine x_istore C (L1 := [some (.ref b), some (.ref (wad Γ 0)), some (.ref (wad Γ 108)), some (.ref (wad Γ 124)), some (.ref (wad Γ 125)), some (.int i), some (.int v2)]) (dkAt dk_L_law_20 2 rfl) 1777 rfl (by decide) rfl ?_
  refine x_aload_n C rfl rfl (dkAt dk_L_law_20 3 rfl) 1778 rfl ?_
  refine x_aload_n C rfl rfl (dkAt dk_L_law_20 4 rfl) 1779 rfl ?_
  refine x_iload C rfl (dkAt dk_L_law_20 5 rfl) 1781 rfl ?_
  refine x_iconst C (v := (1 : Int32)) (by decide) (dkAt dk_L_law_20 6 rfl) 1782 rfl ?_
  refine x_iadd C (dkAt dk_L_law_20 7 rfl) 1783 rfl ?_
  refine x_sld C hX (dkAt dk_L_law_20 8 rfl) 1784 rfl hf (fun v4 hf => ?_)
  obtain ⟨v5, M6, h11, hf⟩ := cl_inv hf
  refine x_cVi C (c_X12_firstTime hN h11) mw_X12_firstTime ln_RL_297 mi_X12_firstTime (hN.rc (ci := 12) sh108 rc12) (ro_law hcb (by decide) (by decide) (by decide) (by decide)) rfl rfl (Nat.le_of_ble_eq_true rfl) (dkAt dk_L_law_20 9 rfl) 1787 rfl (cb + 2) (sb + 12) rfl rfl ?_
  refine x_istore C (L1 := [some (.ref b), some (.ref (wad Γ 0)), some (.ref (wad Γ 108)), some (.ref (wad Γ 124)), some (.ref (wad Γ 125)), some (.int i), some (.int v2), some (.int v5)]) (dkAt dk_L_law_20 10 rfl) 1789 rfl (by decide) rfl ?_
  refine x_aload_n C rfl rfl (dkAt dk_L_law_20 11 rfl) 1790 rfl ?_
  obtain ⟨v7, M8, h10, hf⟩ := cl_inv hf
  refine x_cVi C (c_X12_thrown hN h10) mw_X12_thrown ln_RL_202 mi_X12_thrown (hN.rc (ci := 12) sh108 rc12) (ro_law hcb (by decide) (by decide) (by decide) (by decide)) rfl rfl (Nat.le_of_ble_eq_true rfl) (dkAt dk_L_law_20 12 rfl) 1793 rfl (cb + 2) (sb + 12) rfl rfl ?_
  refine x_iload C rfl (dkAt dk_L_law_20 13 rfl) 1795 rfl ?_
  refine x_icmp_eq C 1800 (dkAt dk_L_law_20 14 rfl) 1798 rfl (by decide) hf (fun hf => ?_) (fun hf => ?_)
  · refine x_iload C rfl (dkAt dk_L_law_20 17 rfl) 1802 rfl ?_
    refine x_if_ne C 1817 (dkAt dk_L_law_20 18 rfl) 1805 rfl (by decide) hf (fun hf => ?_) (fun hf => ?_)
    · refine x_goto C 3578 (dkAt dk_L_law_20 28 rfl) (by decide) ?_
      exact G.weak (L := [some (.ref b), some (.ref (wad Γ 0)), some (.ref (wad Γ 108)), some (.ref (wad Γ 124)), some (.ref (wad Γ 125)), some (.int i)]) ⟨rfl, rfl, rfl, rfl, rfl, rfl, trivial⟩ (G.wide (by omega) (by omega) (hj _ hf))
    · refine x_aload_n C rfl rfl (dkAt dk_L_law_20 19 rfl) 1806 rfl ?_
      refine x_iconst C (v := (0 : Int32)) (by decide) (dkAt dk_L_law_20 20 rfl) 1807 rfl ?_
      refine x_lald C (hN.sh sh124) (dkAt dk_L_law_20 21 rfl) 1808 rfl hf (fun v9 hf => ?_)
      refine x_iload C rfl (dkAt dk_L_law_20 22 rfl) 1810 rfl ?_
      refine x_i2l C (dkAt dk_L_law_20 23 rfl) 1811 rfl ?_
      refine x_lcmp_eq C 1817 (dkAt dk_L_law_20 24 rfl) 1815 rfl (dkAt dk_L_law_20 25 rfl) (by decide) hf (fun hf => ?_) (fun hf => ?_)
      · refine x_goto C 3578 (dkAt dk_L_law_20 28 rfl) (by decide) ?_
        exact G.weak (L := [some (.ref b), some (.ref (wad Γ 0)), some (.ref (wad Γ 108)), some (.ref (wad Γ 124)), some (.ref (wad Γ 125)), some (.int i)]) ⟨rfl, rfl, rfl, rfl, rfl, rfl, trivial⟩ (G.wide (by omega) (by omega) (hj _ hf))
      · refine x_iconst C (v := (0 : Int32)) (by decide) (dkAt dk_L_law_20 26 rfl) 1816 rfl ?_
        exact nomatch hf
  · refine x_iconst C (v := (0 : Int32)) (by decide) (dkAt dk_L_law_20 15 rfl) 1799 rfl ?_
    exact nomatch hf
def f_law_30 (Z L : Nat) (xs : Nat → Int32) (M : Mem) (i : Int32) (j : Mem → Option Unit) : Option Unit :=
  rdX xs L (i + (1 : Int32)) (fun v1 => cl (f_L_busiest Z M v1) (fun v2 M3 => rdX xs L (i + (1 : Int32)) (fun v4 => cl (f_X12_busiest Z M3 v4) (fun v5 M6 => cl (f_X12_thrown Z M6) (fun v7 M8 => (if v7 = v2 then (if v2 = 0 then rdL M8 124 1 (0 : Int32) (fun v9 => (if v9 = v5.toInt64 then j M8 else none)) else j M8) else none))))))
set_option maxRecDepth 100000 in
theorem c_law_30 {Γ : WC} {X : MX} (hN : HN Γ) (hC : NC Γ) (C : CX Γ X cL_law 9 RL (some .boolean) room_1) {Z b L cb sb : Nat} {xs : Nat → Int32} (hX : SX Γ X b L xs) (hcb : cb + 8 ≤ 601024 ∧ sb + 48 ≤ 7293034) {M : Mem} {i : Int32} {j : Mem → Option Unit} {rM : Unit} (hj : ∀ M1, j M1 = some rM → G Γ X M1 (cb + 8) (sb + 48) [some (.ref b), some (.ref (wad Γ 0)), some (.ref (wad Γ 108)), some (.ref (wad Γ 124)), some (.ref (wad Γ 125)), some (.int i)] [] 3578) (hf : f_law_30 Z L xs M i j = some rM) : G Γ X M cb sb [some (.ref b), some (.ref (wad Γ 0)), some (.ref (wad Γ 108)), some (.ref (wad Γ 124)), some (.ref (wad Γ 125)), some (.int i)] [] 1820 := by
  change G Γ X M (cb + 0) (sb + 0) _ _ _
  unfold f_law_30 at hf
  refine x_aload_n C rfl rfl (dkAt dk_L_law_20 29 rfl) 1821 rfl ?_
  refine x_aload_n C rfl rfl (dkAt dk_L_law_20 30 rfl) 1822 rfl ?_
  refine x_iload C rfl (dkAt dk_L_law_20 31 rfl) 1824 rfl ?_
  refine x_iconst C (v := (1 : Int32)) (by decide) (dkAt dk_L_law_20 32 rfl) 1825 rfl ?_
  refine x_iadd C (dkAt dk_L_law_20 33 rfl) 1826 rfl ?_
  refine x_sld C hX (dkAt dk_L_law_20 34 rfl) 1827 rfl hf (fun v1 hf => ?_)
  refine x_aload_n C rfl rfl (dkAt dk_L_law_20 35 rfl) 1828 rfl ?_
  obtain ⟨v2, M3, h12, hf⟩ := cl_inv hf
  refine x_cW C (c_L_busiest hN hC h12) mww_L_busiest ln_RL_298 (ro_law hcb (by decide) (by decide) (by decide) (by decide)) rfl rfl (Nat.le_of_ble_eq_true rfl) (dkAt dk_L_law_20 36 rfl) 1831 rfl (cb + 2) (sb + 12) rfl rfl ?_
  refine x_istore C (L1 := [some (.ref b), some (.ref (wad Γ 0)), some (.ref (wad Γ 108)), some (.ref (wad Γ 124)), some (.ref (wad Γ 125)), some (.int i), some (.int v2)]) (dkAt dk_L_law_20 37 rfl) 1833 rfl (by decide) rfl ?_
  refine x_aload_n C rfl rfl (dkAt dk_L_law_20 38 rfl) 1834 rfl ?_
  refine x_aload_n C rfl rfl (dkAt dk_L_law_20 39 rfl) 1835 rfl ?_
  refine x_iload C rfl (dkAt dk_L_law_20 40 rfl) 1837 rfl ?_
  refine x_iconst C (v := (1 : Int32)) (by decide) (dkAt dk_L_law_20 41 rfl) 1838 rfl ?_
  refine x_iadd C (dkAt dk_L_law_20 42 rfl) 1839 rfl ?_
  refine x_sld C hX (dkAt dk_L_law_20 43 rfl) 1840 rfl hf (fun v4 hf => ?_)
  obtain ⟨v5, M6, h11, hf⟩ := cl_inv hf
  refine x_cVi C (c_X12_busiest hN h11) mw_X12_busiest ln_RL_300 mi_X12_busiest (hN.rc (ci := 12) sh108 rc12) (ro_law hcb (by decide) (by decide) (by decide) (by decide)) rfl rfl (Nat.le_of_ble_eq_true rfl) (dkAt dk_L_law_20 44 rfl) 1843 rfl (cb + 2) (sb + 12) rfl rfl ?_
  refine x_istore C (L1 := [some (.ref b), some (.ref (wad Γ 0)), some (.ref (wad Γ 108)), some (.ref (wad Γ 124)), some (.ref (wad Γ 125)), some (.int i), some (.int v2), some (.int v5)]) (dkAt dk_L_law_20 45 rfl) 1845 rfl (by decide) rfl ?_
  refine x_aload_n C rfl rfl (dkAt dk_L_law_20 46 rfl) 1846 rfl ?_
  obtain ⟨v7, M8, h10, hf⟩ := cl_inv hf
  refine x_cVi C (c_X12_thrown hN h10) mw_X12_thrown ln_RL_202 mi_X12_thrown (hN.rc (ci := 12) sh108 rc12) (ro_law hcb (by decide) (by decide) (by decide) (by decide)) rfl rfl (Nat.le_of_ble_eq_true rfl) (dkAt dk_L_law_20 47 rfl) 1849 rfl (cb + 2) (sb + 12) rfl rfl ?_
  refine x_iload C rfl (dkAt dk_L_law_21 0 rfl) 1851 rfl ?_
  refine x_icmp_eq C 1856 (dkAt dk_L_law_21 1 rfl) 1854 rfl (by decide) hf (fun hf => ?_) (fun hf => ?_)
  · refine x_iload C rfl (dkAt dk_L_law_21 4 rfl) 1858 rfl ?_
    refine x_if_ne C 1873 (dkAt dk_L_law_21 5 rfl) 1861 rfl (by decide) hf (fun hf => ?_) (fun hf => ?_)
    · refine x_goto C 3578 (dkAt dk_L_law_21 15 rfl) (by decide) ?_
      exact G.weak (L := [some (.ref b), some (.ref (wad Γ 0)), some (.ref (wad Γ 108)), some (.ref (wad Γ 124)), some (.ref (wad Γ 125)), some (.int i)]) ⟨rfl, rfl, rfl, rfl, rfl, rfl, trivial⟩ (G.wide (by omega) (by omega) (hj _ hf))
    · refine x_aload_n C rfl rfl (dkAt dk_L_law_21 6 rfl) 1862 rfl ?_
      refine x_iconst C (v := (0 : Int32)) (by decide) (dkAt dk_L_law_21 7 rfl) 1863 rfl ?_
      refine x_lald C (hN.sh sh124) (dkAt dk_L_law_21 8 rfl) 1864 rfl hf (fun v9 hf => ?_)
      refine x_iload C rfl (dkAt dk_L_law_21 9 rfl) 1866 rfl ?_
      refine x_i2l C (dkAt dk_L_law_21 10 rfl) 1867 rfl ?_
      refine x_lcmp_eq C 1873 (dkAt dk_L_law_21 11 rfl) 1871 rfl (dkAt dk_L_law_21 12 rfl) (by decide) hf (fun hf => ?_) (fun hf => ?_)
      · refine x_goto C 3578 (dkAt dk_L_law_21 15 rfl) (by decide) ?_
        exact G.weak (L := [some (.ref b), some (.ref (wad Γ 0)), some (.ref (wad Γ 108)), some (.ref (wad Γ 124)), some (.ref (wad Γ 125)), some (.int i)]) ⟨rfl, rfl, rfl, rfl, rfl, rfl, trivial⟩ (G.wide (by omega) (by omega) (hj _ hf))
      · refine x_iconst C (v := (0 : Int32)) (by decide) (dkAt dk_L_law_21 13 rfl) 1872 rfl ?_
        exact nomatch hf
  · refine x_iconst C (v := (0 : Int32)) (by decide) (dkAt dk_L_law_21 2 rfl) 1855 rfl ?_
    exact nomatch hf
def f_law_31 (Z L : Nat) (xs : Nat → Int32) (M : Mem) (i : Int32) (j : Mem → Option Unit) : Option Unit :=
  cl (f_L_meanGain Z M) (fun v1 M2 => cl (f_X12_meanGain Z M2) (fun v3 M4 => cl (f_X12_thrown Z M4) (fun v5 M6 => (if v5 = v1 then (if v1 = 0 then rdD M6 125 1 (0 : Int32) (fun v7 => okD (FP.f2d v3) ((if (Op.cmpValue (FP.dcmp v7 (FP.f2d v3)) .l) = 0 then j M6 else rdD M6 125 1 (0 : Int32) (fun v8 => rdD M6 125 1 (0 : Int32) (fun v9 => (if (Op.cmpValue (FP.dcmp v8 v9) .l) = 0 then none else (if (Op.cmpValue (FP.fcmp v3 v3) .l) = 0 then none else j M6))))))) else j M6) else none))))
set_option maxRecDepth 100000 in
theorem c_law_31 {Γ : WC} {X : MX} (hN : HN Γ) (hC : NC Γ) (C : CX Γ X cL_law 9 RL (some .boolean) room_1) {Z b L cb sb : Nat} {xs : Nat → Int32} (hX : SX Γ X b L xs) (hcb : cb + 8 ≤ 601024 ∧ sb + 48 ≤ 7293034) {M : Mem} {i : Int32} {j : Mem → Option Unit} {rM : Unit} (hj : ∀ M1, j M1 = some rM → G Γ X M1 (cb + 8) (sb + 48) [some (.ref b), some (.ref (wad Γ 0)), some (.ref (wad Γ 108)), some (.ref (wad Γ 124)), some (.ref (wad Γ 125)), some (.int i)] [] 3578) (hf : f_law_31 Z L xs M i j = some rM) : G Γ X M cb sb [some (.ref b), some (.ref (wad Γ 0)), some (.ref (wad Γ 108)), some (.ref (wad Γ 124)), some (.ref (wad Γ 125)), some (.int i)] [] 1876 := by
  change G Γ X M (cb + 0) (sb + 0) _ _ _
  unfold f_law_31 at hf
  refine x_aload_n C rfl rfl (dkAt dk_L_law_21 16 rfl) 1877 rfl ?_
  refine x_aload C rfl (dkAt dk_L_law_21 17 rfl) 1879 rfl ?_
  obtain ⟨v1, M2, h12, hf⟩ := cl_inv hf
  refine x_cW C (c_L_meanGain hN hC h12) mww_L_meanGain ln_RL_301 (ro_law hcb (by decide) (by decide) (by decide) (by decide)) rfl rfl (Nat.le_of_ble_eq_true rfl) (dkAt dk_L_law_21 18 rfl) 1882 rfl (cb + 1) (sb + 6) rfl rfl ?_
  refine x_istore C (L1 := [some (.ref b), some (.ref (wad Γ 0)), some (.ref (wad Γ 108)), some (.ref (wad Γ 124)), some (.ref (wad Γ 125)), some (.int i), some (.int v1)]) (dkAt dk_L_law_21 19 rfl) 1884 rfl (by decide) rfl ?_
  refine x_aload_n C rfl rfl (dkAt dk_L_law_21 20 rfl) 1885 rfl ?_
  obtain ⟨v3, M4, h11, hf⟩ := cl_inv hf
  refine x_cVf C (c_X12_meanGain hN h11) mw_X12_meanGain ln_RL_304 mi_X12_meanGain (hN.rc (ci := 12) sh108 rc12) (ro_law hcb (by decide) (by decide) (by decide) (by decide)) rfl rfl (Nat.le_of_ble_eq_true rfl) (dkAt dk_L_law_21 21 rfl) 1888 rfl (cb + 1) (sb + 6) rfl rfl ?_
  refine x_fstore C (L1 := [some (.ref b), some (.ref (wad Γ 0)), some (.ref (wad Γ 108)), some (.ref (wad Γ 124)), some (.ref (wad Γ 125)), some (.int i), some (.int v1), some (.float v3)]) (dkAt dk_L_law_21 22 rfl) 1890 rfl (by decide) rfl ?_
  refine x_aload_n C rfl rfl (dkAt dk_L_law_21 23 rfl) 1891 rfl ?_
  obtain ⟨v5, M6, h10, hf⟩ := cl_inv hf
  refine x_cVi C (c_X12_thrown hN h10) mw_X12_thrown ln_RL_202 mi_X12_thrown (hN.rc (ci := 12) sh108 rc12) (ro_law hcb (by decide) (by decide) (by decide) (by decide)) rfl rfl (Nat.le_of_ble_eq_true rfl) (dkAt dk_L_law_21 24 rfl) 1894 rfl (cb + 1) (sb + 6) rfl rfl ?_
  refine x_iload C rfl (dkAt dk_L_law_21 25 rfl) 1896 rfl ?_
  refine x_icmp_eq C 1901 (dkAt dk_L_law_21 26 rfl) 1899 rfl (by decide) hf (fun hf => ?_) (fun hf => ?_)
  · refine x_iload C rfl (dkAt dk_L_law_21 29 rfl) 1903 rfl ?_
    refine x_if_ne C 1939 (dkAt dk_L_law_21 30 rfl) 1906 rfl (by decide) hf (fun hf => ?_) (fun hf => ?_)
    · refine x_goto C 3578 (dkAt dk_L_law_22 4 rfl) (by decide) ?_
      exact G.weak (L := [some (.ref b), some (.ref (wad Γ 0)), some (.ref (wad Γ 108)), some (.ref (wad Γ 124)), some (.ref (wad Γ 125)), some (.int i)]) ⟨rfl, rfl, rfl, rfl, rfl, rfl, trivial⟩ (G.wide (by omega) (by omega) (hj _ hf))
    · refine x_aload C rfl (dkAt dk_L_law_21 31 rfl) 1908 rfl ?_
      refine x_iconst C (v := (0 : Int32)) (by decide) (dkAt dk_L_law_21 32 rfl) 1909 rfl ?_
      refine x_dald C (hN.sh sh125) (dkAt dk_L_law_21 33 rfl) 1910 rfl hf (fun v7 hf => ?_)
      refine x_fload C rfl (dkAt dk_L_law_21 34 rfl) 1912 rfl ?_
      refine x_f2dK C (dkAt dk_L_law_21 35 rfl) 1913 rfl hf (fun hf => ?_)
      refine x_dcmp C (dkAt dk_L_law_21 36 rfl) 1914 rfl ?_
      refine x_if_eq C 1939 (dkAt dk_L_law_21 37 rfl) 1917 rfl (by decide) hf (fun hf => ?_) (fun hf => ?_)
      · refine x_goto C 3578 (dkAt dk_L_law_22 4 rfl) (by decide) ?_
        exact G.weak (L := [some (.ref b), some (.ref (wad Γ 0)), some (.ref (wad Γ 108)), some (.ref (wad Γ 124)), some (.ref (wad Γ 125)), some (.int i)]) ⟨rfl, rfl, rfl, rfl, rfl, rfl, trivial⟩ (G.wide (by omega) (by omega) (hj _ hf))
      · refine x_aload C rfl (dkAt dk_L_law_21 38 rfl) 1919 rfl ?_
        refine x_iconst C (v := (0 : Int32)) (by decide) (dkAt dk_L_law_21 39 rfl) 1920 rfl ?_
        refine x_dald C (hN.sh sh125) (dkAt dk_L_law_21 40 rfl) 1921 rfl hf (fun v8 hf => ?_)
        refine x_aload C rfl (dkAt dk_L_law_21 41 rfl) 1923 rfl ?_
        refine x_iconst C (v := (0 : Int32)) (by decide) (dkAt dk_L_law_21 42 rfl) 1924 rfl ?_
        refine x_dald C (hN.sh sh125) (dkAt dk_L_law_21 43 rfl) 1925 rfl hf (fun v9 hf => ?_)
        refine x_dcmp C (dkAt dk_L_law_21 44 rfl) 1926 rfl ?_
        refine x_if_eq C 1937 (dkAt dk_L_law_21 45 rfl) 1929 rfl (by decide) hf (fun hf => ?_) (fun hf => ?_)
        · refine x_iconst C (v := (0 : Int32)) (by decide) (dkAt dk_L_law_22 2 rfl) 1938 rfl ?_
          exact nomatch hf
        · refine x_fload C rfl (dkAt dk_L_law_21 46 rfl) 1931 rfl ?_
          refine x_fload C rfl (dkAt dk_L_law_21 47 rfl) 1933 rfl ?_
          refine x_fcmp C (dkAt dk_L_law_22 0 rfl) 1934 rfl ?_
          refine x_if_ne C 1939 (dkAt dk_L_law_22 1 rfl) 1937 rfl (by decide) hf (fun hf => ?_) (fun hf => ?_)
          · refine x_goto C 3578 (dkAt dk_L_law_22 4 rfl) (by decide) ?_
            exact G.weak (L := [some (.ref b), some (.ref (wad Γ 0)), some (.ref (wad Γ 108)), some (.ref (wad Γ 124)), some (.ref (wad Γ 125)), some (.int i)]) ⟨rfl, rfl, rfl, rfl, rfl, rfl, trivial⟩ (G.wide (by omega) (by omega) (hj _ hf))
          · refine x_iconst C (v := (0 : Int32)) (by decide) (dkAt dk_L_law_22 2 rfl) 1938 rfl ?_
            exact nomatch hf
  · refine x_iconst C (v := (0 : Int32)) (by decide) (dkAt dk_L_law_21 27 rfl) 1900 rfl ?_
    exact nomatch hf
def f_law_32 (Z L : Nat) (xs : Nat → Int32) (M : Mem) (i : Int32) (j : Mem → Option Unit) : Option Unit :=
  cl (f_L_likeliest Z M) (fun v1 M2 => cl (f_X12_likeliest Z M2) (fun v3 M4 => cl (f_X12_thrown Z M4) (fun v5 M6 => (if v5 = v1 then (if v1 = 0 then rdL M6 124 1 (0 : Int32) (fun v7 => (if v7 = v3 then j M6 else none)) else j M6) else none))))
set_option maxRecDepth 100000 in
theorem c_law_32 {Γ : WC} {X : MX} (hN : HN Γ) (hC : NC Γ) (C : CX Γ X cL_law 9 RL (some .boolean) room_1) {Z b L cb sb : Nat} {xs : Nat → Int32} (hX : SX Γ X b L xs) (hcb : cb + 8 ≤ 601024 ∧ sb + 48 ≤ 7293034) {M : Mem} {i : Int32} {j : Mem → Option Unit} {rM : Unit} (hj : ∀ M1, j M1 = some rM → G Γ X M1 (cb + 8) (sb + 48) [some (.ref b), some (.ref (wad Γ 0)), some (.ref (wad Γ 108)), some (.ref (wad Γ 124)), some (.ref (wad Γ 125)), some (.int i)] [] 3578) (hf : f_law_32 Z L xs M i j = some rM) : G Γ X M cb sb [some (.ref b), some (.ref (wad Γ 0)), some (.ref (wad Γ 108)), some (.ref (wad Γ 124)), some (.ref (wad Γ 125)), some (.int i)] [] 1942 := by
  change G Γ X M (cb + 0) (sb + 0) _ _ _
  unfold f_law_32 at hf
  refine x_aload_n C rfl rfl (dkAt dk_L_law_22 5 rfl) 1943 rfl ?_
  refine x_aload_n C rfl rfl (dkAt dk_L_law_22 6 rfl) 1944 rfl ?_
  obtain ⟨v1, M2, h10, hf⟩ := cl_inv hf
  refine x_cW C (c_L_likeliest hN hC h10) mww_L_likeliest ln_RL_305 (ro_law hcb (by decide) (by decide) (by decide) (by decide)) rfl rfl (Nat.le_of_ble_eq_true rfl) (dkAt dk_L_law_22 7 rfl) 1947 rfl (cb + 1) (sb + 6) rfl rfl ?_
  refine x_istore C (L1 := [some (.ref b), some (.ref (wad Γ 0)), some (.ref (wad Γ 108)), some (.ref (wad Γ 124)), some (.ref (wad Γ 125)), some (.int i), some (.int v1)]) (dkAt dk_L_law_22 8 rfl) 1949 rfl (by decide) rfl ?_
  refine x_aload_n C rfl rfl (dkAt dk_L_law_22 9 rfl) 1950 rfl ?_
  obtain ⟨v3, M4, h9, hf⟩ := cl_inv hf
  refine x_cVl C (c_X12_likeliest hN h9) mw_X12_likeliest ln_RL_307 mi_X12_likeliest (hN.rc (ci := 12) sh108 rc12) (ro_law hcb (by decide) (by decide) (by decide) (by decide)) rfl rfl (Nat.le_of_ble_eq_true rfl) (dkAt dk_L_law_22 10 rfl) 1953 rfl (cb + 1) (sb + 6) rfl rfl ?_
  refine x_lstore C (L1 := [some (.ref b), some (.ref (wad Γ 0)), some (.ref (wad Γ 108)), some (.ref (wad Γ 124)), some (.ref (wad Γ 125)), some (.int i), some (.int v1), some (.long v3)]) (dkAt dk_L_law_22 11 rfl) 1955 rfl (by decide) rfl ?_
  refine x_aload_n C rfl rfl (dkAt dk_L_law_22 12 rfl) 1956 rfl ?_
  obtain ⟨v5, M6, h8, hf⟩ := cl_inv hf
  refine x_cVi C (c_X12_thrown hN h8) mw_X12_thrown ln_RL_202 mi_X12_thrown (hN.rc (ci := 12) sh108 rc12) (ro_law hcb (by decide) (by decide) (by decide) (by decide)) rfl rfl (Nat.le_of_ble_eq_true rfl) (dkAt dk_L_law_22 13 rfl) 1959 rfl (cb + 1) (sb + 6) rfl rfl ?_
  refine x_iload C rfl (dkAt dk_L_law_22 14 rfl) 1961 rfl ?_
  refine x_icmp_eq C 1966 (dkAt dk_L_law_22 15 rfl) 1964 rfl (by decide) hf (fun hf => ?_) (fun hf => ?_)
  · refine x_iload C rfl (dkAt dk_L_law_22 18 rfl) 1968 rfl ?_
    refine x_if_ne C 1982 (dkAt dk_L_law_22 19 rfl) 1971 rfl (by decide) hf (fun hf => ?_) (fun hf => ?_)
    · refine x_goto C 3578 (dkAt dk_L_law_22 28 rfl) (by decide) ?_
      exact G.weak (L := [some (.ref b), some (.ref (wad Γ 0)), some (.ref (wad Γ 108)), some (.ref (wad Γ 124)), some (.ref (wad Γ 125)), some (.int i)]) ⟨rfl, rfl, rfl, rfl, rfl, rfl, trivial⟩ (G.wide (by omega) (by omega) (hj _ hf))
    · refine x_aload_n C rfl rfl (dkAt dk_L_law_22 20 rfl) 1972 rfl ?_
      refine x_iconst C (v := (0 : Int32)) (by decide) (dkAt dk_L_law_22 21 rfl) 1973 rfl ?_
      refine x_lald C (hN.sh sh124) (dkAt dk_L_law_22 22 rfl) 1974 rfl hf (fun v7 hf => ?_)
      refine x_lload C rfl (dkAt dk_L_law_22 23 rfl) 1976 rfl ?_
      refine x_lcmp_eq C 1982 (dkAt dk_L_law_22 24 rfl) 1980 rfl (dkAt dk_L_law_22 25 rfl) (by decide) hf (fun hf => ?_) (fun hf => ?_)
      · refine x_goto C 3578 (dkAt dk_L_law_22 28 rfl) (by decide) ?_
        exact G.weak (L := [some (.ref b), some (.ref (wad Γ 0)), some (.ref (wad Γ 108)), some (.ref (wad Γ 124)), some (.ref (wad Γ 125)), some (.int i)]) ⟨rfl, rfl, rfl, rfl, rfl, rfl, trivial⟩ (G.wide (by omega) (by omega) (hj _ hf))
      · refine x_iconst C (v := (0 : Int32)) (by decide) (dkAt dk_L_law_22 26 rfl) 1981 rfl ?_
        exact nomatch hf
  · refine x_iconst C (v := (0 : Int32)) (by decide) (dkAt dk_L_law_22 16 rfl) 1965 rfl ?_
    exact nomatch hf
def f_law_33 (Z L : Nat) (xs : Nat → Int32) (M : Mem) (i : Int32) (j : Mem → Option Unit) : Option Unit :=
  rdX xs L (i + (1 : Int32)) (fun v1 => cl (f_L_likeliestAt Z M v1) (fun v2 M3 => rdX xs L (i + (1 : Int32)) (fun v4 => cl (f_X12_likeliestAt Z M3 v4) (fun v5 M6 => cl (f_X12_thrown Z M6) (fun v7 M8 => (if v7 = v2 then (if v2 = 0 then rdL M8 124 1 (0 : Int32) (fun v9 => (if v9 = v5.toInt64 then j M8 else none)) else j M8) else none))))))
set_option maxRecDepth 100000 in
theorem c_law_33 {Γ : WC} {X : MX} (hN : HN Γ) (hC : NC Γ) (C : CX Γ X cL_law 9 RL (some .boolean) room_1) {Z b L cb sb : Nat} {xs : Nat → Int32} (hX : SX Γ X b L xs) (hcb : cb + 8 ≤ 601024 ∧ sb + 48 ≤ 7293034) {M : Mem} {i : Int32} {j : Mem → Option Unit} {rM : Unit} (hj : ∀ M1, j M1 = some rM → G Γ X M1 (cb + 8) (sb + 48) [some (.ref b), some (.ref (wad Γ 0)), some (.ref (wad Γ 108)), some (.ref (wad Γ 124)), some (.ref (wad Γ 125)), some (.int i)] [] 3578) (hf : f_law_33 Z L xs M i j = some rM) : G Γ X M cb sb [some (.ref b), some (.ref (wad Γ 0)), some (.ref (wad Γ 108)), some (.ref (wad Γ 124)), some (.ref (wad Γ 125)), some (.int i)] [] 1985 := by
  change G Γ X M (cb + 0) (sb + 0) _ _ _
  unfold f_law_33 at hf
  refine x_aload_n C rfl rfl (dkAt dk_L_law_22 29 rfl) 1986 rfl ?_
  refine x_aload_n C rfl rfl (dkAt dk_L_law_22 30 rfl) 1987 rfl ?_
  refine x_iload C rfl (dkAt dk_L_law_22 31 rfl) 1989 rfl ?_
  refine x_iconst C (v := (1 : Int32)) (by decide) (dkAt dk_L_law_22 32 rfl) 1990 rfl ?_
  refine x_iadd C (dkAt dk_L_law_22 33 rfl) 1991 rfl ?_
  refine x_sld C hX (dkAt dk_L_law_22 34 rfl) 1992 rfl hf (fun v1 hf => ?_)
  refine x_aload_n C rfl rfl (dkAt dk_L_law_22 35 rfl) 1993 rfl ?_
  obtain ⟨v2, M3, h12, hf⟩ := cl_inv hf
  refine x_cW C (c_L_likeliestAt hN hC h12) mww_L_likeliestAt ln_RL_308 (ro_law hcb (by decide) (by decide) (by decide) (by decide)) rfl rfl (Nat.le_of_ble_eq_true rfl) (dkAt dk_L_law_22 36 rfl) 1996 rfl (cb + 2) (sb + 12) rfl rfl ?_
  refine x_istore C (L1 := [some (.ref b), some (.ref (wad Γ 0)), some (.ref (wad Γ 108)), some (.ref (wad Γ 124)), some (.ref (wad Γ 125)), some (.int i), some (.int v2)]) (dkAt dk_L_law_22 37 rfl) 1998 rfl (by decide) rfl ?_
  refine x_aload_n C rfl rfl (dkAt dk_L_law_22 38 rfl) 1999 rfl ?_
  refine x_aload_n C rfl rfl (dkAt dk_L_law_22 39 rfl) 2000 rfl ?_
  refine x_iload C rfl (dkAt dk_L_law_22 40 rfl) 2002 rfl ?_
  refine x_iconst C (v := (1 : Int32)) (by decide) (dkAt dk_L_law_22 41 rfl) 2003 rfl ?_
  refine x_iadd C (dkAt dk_L_law_22 42 rfl) 2004 rfl ?_
  refine x_sld C hX (dkAt dk_L_law_22 43 rfl) 2005 rfl hf (fun v4 hf => ?_)
  obtain ⟨v5, M6, h11, hf⟩ := cl_inv hf
  refine x_cVi C (c_X12_likeliestAt hN h11) mw_X12_likeliestAt ln_RL_310 mi_X12_likeliestAt (hN.rc (ci := 12) sh108 rc12) (ro_law hcb (by decide) (by decide) (by decide) (by decide)) rfl rfl (Nat.le_of_ble_eq_true rfl) (dkAt dk_L_law_22 44 rfl) 2008 rfl (cb + 2) (sb + 12) rfl rfl ?_
  refine x_istore C (L1 := [some (.ref b), some (.ref (wad Γ 0)), some (.ref (wad Γ 108)), some (.ref (wad Γ 124)), some (.ref (wad Γ 125)), some (.int i), some (.int v2), some (.int v5)]) (dkAt dk_L_law_22 45 rfl) 2010 rfl (by decide) rfl ?_
  refine x_aload_n C rfl rfl (dkAt dk_L_law_22 46 rfl) 2011 rfl ?_
  obtain ⟨v7, M8, h10, hf⟩ := cl_inv hf
  refine x_cVi C (c_X12_thrown hN h10) mw_X12_thrown ln_RL_202 mi_X12_thrown (hN.rc (ci := 12) sh108 rc12) (ro_law hcb (by decide) (by decide) (by decide) (by decide)) rfl rfl (Nat.le_of_ble_eq_true rfl) (dkAt dk_L_law_22 47 rfl) 2014 rfl (cb + 2) (sb + 12) rfl rfl ?_
  refine x_iload C rfl (dkAt dk_L_law_23 0 rfl) 2016 rfl ?_
  refine x_icmp_eq C 2021 (dkAt dk_L_law_23 1 rfl) 2019 rfl (by decide) hf (fun hf => ?_) (fun hf => ?_)
  · refine x_iload C rfl (dkAt dk_L_law_23 4 rfl) 2023 rfl ?_
    refine x_if_ne C 2038 (dkAt dk_L_law_23 5 rfl) 2026 rfl (by decide) hf (fun hf => ?_) (fun hf => ?_)
    · refine x_goto C 3578 (dkAt dk_L_law_23 15 rfl) (by decide) ?_
      exact G.weak (L := [some (.ref b), some (.ref (wad Γ 0)), some (.ref (wad Γ 108)), some (.ref (wad Γ 124)), some (.ref (wad Γ 125)), some (.int i)]) ⟨rfl, rfl, rfl, rfl, rfl, rfl, trivial⟩ (G.wide (by omega) (by omega) (hj _ hf))
    · refine x_aload_n C rfl rfl (dkAt dk_L_law_23 6 rfl) 2027 rfl ?_
      refine x_iconst C (v := (0 : Int32)) (by decide) (dkAt dk_L_law_23 7 rfl) 2028 rfl ?_
      refine x_lald C (hN.sh sh124) (dkAt dk_L_law_23 8 rfl) 2029 rfl hf (fun v9 hf => ?_)
      refine x_iload C rfl (dkAt dk_L_law_23 9 rfl) 2031 rfl ?_
      refine x_i2l C (dkAt dk_L_law_23 10 rfl) 2032 rfl ?_
      refine x_lcmp_eq C 2038 (dkAt dk_L_law_23 11 rfl) 2036 rfl (dkAt dk_L_law_23 12 rfl) (by decide) hf (fun hf => ?_) (fun hf => ?_)
      · refine x_goto C 3578 (dkAt dk_L_law_23 15 rfl) (by decide) ?_
        exact G.weak (L := [some (.ref b), some (.ref (wad Γ 0)), some (.ref (wad Γ 108)), some (.ref (wad Γ 124)), some (.ref (wad Γ 125)), some (.int i)]) ⟨rfl, rfl, rfl, rfl, rfl, rfl, trivial⟩ (G.wide (by omega) (by omega) (hj _ hf))
      · refine x_iconst C (v := (0 : Int32)) (by decide) (dkAt dk_L_law_23 13 rfl) 2037 rfl ?_
        exact nomatch hf
  · refine x_iconst C (v := (0 : Int32)) (by decide) (dkAt dk_L_law_23 2 rfl) 2020 rfl ?_
    exact nomatch hf
def f_law_34 (Z L : Nat) (xs : Nat → Int32) (M : Mem) (i : Int32) (j : Mem → Option Unit) : Option Unit :=
  rdX xs L (i + (1 : Int32)) (fun v1 => rdX xs L (i + (2 : Int32)) (fun v2 => cl (f_L_value Z M v1 v2) (fun v3 M4 => rdX xs L (i + (1 : Int32)) (fun v5 => rdX xs L (i + (2 : Int32)) (fun v6 => cl (f_X12_value Z M4 v5 v6) (fun v7 M8 => cl (f_X12_thrown Z M8) (fun v9 M10 => (if v9 = v3 then (if v3 = 0 then rdL M10 124 1 (0 : Int32) (fun v11 => (if v11 = v7 then j M10 else none)) else j M10) else none))))))))
set_option maxRecDepth 100000 in
theorem c_law_34 {Γ : WC} {X : MX} (hN : HN Γ) (hC : NC Γ) (C : CX Γ X cL_law 9 RL (some .boolean) room_1) {Z b L cb sb : Nat} {xs : Nat → Int32} (hX : SX Γ X b L xs) (hcb : cb + 8 ≤ 601024 ∧ sb + 48 ≤ 7293034) {M : Mem} {i : Int32} {j : Mem → Option Unit} {rM : Unit} (hj : ∀ M1, j M1 = some rM → G Γ X M1 (cb + 8) (sb + 48) [some (.ref b), some (.ref (wad Γ 0)), some (.ref (wad Γ 108)), some (.ref (wad Γ 124)), some (.ref (wad Γ 125)), some (.int i)] [] 3578) (hf : f_law_34 Z L xs M i j = some rM) : G Γ X M cb sb [some (.ref b), some (.ref (wad Γ 0)), some (.ref (wad Γ 108)), some (.ref (wad Γ 124)), some (.ref (wad Γ 125)), some (.int i)] [] 2041 := by
  change G Γ X M (cb + 0) (sb + 0) _ _ _
  unfold f_law_34 at hf
  refine x_aload_n C rfl rfl (dkAt dk_L_law_23 16 rfl) 2042 rfl ?_
  refine x_aload_n C rfl rfl (dkAt dk_L_law_23 17 rfl) 2043 rfl ?_
  refine x_iload C rfl (dkAt dk_L_law_23 18 rfl) 2045 rfl ?_
  refine x_iconst C (v := (1 : Int32)) (by decide) (dkAt dk_L_law_23 19 rfl) 2046 rfl ?_
  refine x_iadd C (dkAt dk_L_law_23 20 rfl) 2047 rfl ?_
  refine x_sld C hX (dkAt dk_L_law_23 21 rfl) 2048 rfl hf (fun v1 hf => ?_)
  refine x_aload_n C rfl rfl (dkAt dk_L_law_23 22 rfl) 2049 rfl ?_
  refine x_iload C rfl (dkAt dk_L_law_23 23 rfl) 2051 rfl ?_
  refine x_iconst C (v := (2 : Int32)) (by decide) (dkAt dk_L_law_23 24 rfl) 2052 rfl ?_
  refine x_iadd C (dkAt dk_L_law_23 25 rfl) 2053 rfl ?_
  refine x_sld C hX (dkAt dk_L_law_23 26 rfl) 2054 rfl hf (fun v2 hf => ?_)
  refine x_aload_n C rfl rfl (dkAt dk_L_law_23 27 rfl) 2055 rfl ?_
  obtain ⟨v3, M4, h14, hf⟩ := cl_inv hf
  refine x_cW C (c_L_value hN hC h14) mww_L_value ln_RL_311 (ro_law hcb (by decide) (by decide) (by decide) (by decide)) rfl rfl (Nat.le_of_ble_eq_true rfl) (dkAt dk_L_law_23 28 rfl) 2058 rfl (cb + 3) (sb + 18) rfl rfl ?_
  refine x_istore C (L1 := [some (.ref b), some (.ref (wad Γ 0)), some (.ref (wad Γ 108)), some (.ref (wad Γ 124)), some (.ref (wad Γ 125)), some (.int i), some (.int v3)]) (dkAt dk_L_law_23 29 rfl) 2060 rfl (by decide) rfl ?_
  refine x_aload_n C rfl rfl (dkAt dk_L_law_23 30 rfl) 2061 rfl ?_
  refine x_aload_n C rfl rfl (dkAt dk_L_law_23 31 rfl) 2062 rfl ?_
  refine x_iload C rfl (dkAt dk_L_law_23 32 rfl) 2064 rfl ?_
  refine x_iconst C (v := (1 : Int32)) (by decide) (dkAt dk_L_law_23 33 rfl) 2065 rfl ?_
  refine x_iadd C (dkAt dk_L_law_23 34 rfl) 2066 rfl ?_
  refine x_sld C hX (dkAt dk_L_law_23 35 rfl) 2067 rfl hf (fun v5 hf => ?_)
  refine x_aload_n C rfl rfl (dkAt dk_L_law_23 36 rfl) 2068 rfl ?_
  refine x_iload C rfl (dkAt dk_L_law_23 37 rfl) 2070 rfl ?_
  refine x_iconst C (v := (2 : Int32)) (by decide) (dkAt dk_L_law_23 38 rfl) 2071 rfl ?_
  refine x_iadd C (dkAt dk_L_law_23 39 rfl) 2072 rfl ?_
  refine x_sld C hX (dkAt dk_L_law_23 40 rfl) 2073 rfl hf (fun v6 hf => ?_)
  obtain ⟨v7, M8, h13, hf⟩ := cl_inv hf
  refine x_cVl C (c_X12_value hN h13) mw_X12_value ln_RL_313 mi_X12_value (hN.rc (ci := 12) sh108 rc12) (ro_law hcb (by decide) (by decide) (by decide) (by decide)) rfl rfl (Nat.le_of_ble_eq_true rfl) (dkAt dk_L_law_23 41 rfl) 2076 rfl (cb + 3) (sb + 18) rfl rfl ?_
  refine x_lstore C (L1 := [some (.ref b), some (.ref (wad Γ 0)), some (.ref (wad Γ 108)), some (.ref (wad Γ 124)), some (.ref (wad Γ 125)), some (.int i), some (.int v3), some (.long v7)]) (dkAt dk_L_law_23 42 rfl) 2078 rfl (by decide) rfl ?_
  refine x_aload_n C rfl rfl (dkAt dk_L_law_23 43 rfl) 2079 rfl ?_
  obtain ⟨v9, M10, h12, hf⟩ := cl_inv hf
  refine x_cVi C (c_X12_thrown hN h12) mw_X12_thrown ln_RL_202 mi_X12_thrown (hN.rc (ci := 12) sh108 rc12) (ro_law hcb (by decide) (by decide) (by decide) (by decide)) rfl rfl (Nat.le_of_ble_eq_true rfl) (dkAt dk_L_law_23 44 rfl) 2082 rfl (cb + 3) (sb + 18) rfl rfl ?_
  refine x_iload C rfl (dkAt dk_L_law_23 45 rfl) 2084 rfl ?_
  refine x_icmp_eq C 2089 (dkAt dk_L_law_23 46 rfl) 2087 rfl (by decide) hf (fun hf => ?_) (fun hf => ?_)
  · refine x_iload C rfl (dkAt dk_L_law_24 1 rfl) 2091 rfl ?_
    refine x_if_ne C 2105 (dkAt dk_L_law_24 2 rfl) 2094 rfl (by decide) hf (fun hf => ?_) (fun hf => ?_)
    · refine x_goto C 3578 (dkAt dk_L_law_24 11 rfl) (by decide) ?_
      exact G.weak (L := [some (.ref b), some (.ref (wad Γ 0)), some (.ref (wad Γ 108)), some (.ref (wad Γ 124)), some (.ref (wad Γ 125)), some (.int i)]) ⟨rfl, rfl, rfl, rfl, rfl, rfl, trivial⟩ (G.wide (by omega) (by omega) (hj _ hf))
    · refine x_aload_n C rfl rfl (dkAt dk_L_law_24 3 rfl) 2095 rfl ?_
      refine x_iconst C (v := (0 : Int32)) (by decide) (dkAt dk_L_law_24 4 rfl) 2096 rfl ?_
      refine x_lald C (hN.sh sh124) (dkAt dk_L_law_24 5 rfl) 2097 rfl hf (fun v11 hf => ?_)
      refine x_lload C rfl (dkAt dk_L_law_24 6 rfl) 2099 rfl ?_
      refine x_lcmp_eq C 2105 (dkAt dk_L_law_24 7 rfl) 2103 rfl (dkAt dk_L_law_24 8 rfl) (by decide) hf (fun hf => ?_) (fun hf => ?_)
      · refine x_goto C 3578 (dkAt dk_L_law_24 11 rfl) (by decide) ?_
        exact G.weak (L := [some (.ref b), some (.ref (wad Γ 0)), some (.ref (wad Γ 108)), some (.ref (wad Γ 124)), some (.ref (wad Γ 125)), some (.int i)]) ⟨rfl, rfl, rfl, rfl, rfl, rfl, trivial⟩ (G.wide (by omega) (by omega) (hj _ hf))
      · refine x_iconst C (v := (0 : Int32)) (by decide) (dkAt dk_L_law_24 9 rfl) 2104 rfl ?_
        exact nomatch hf
  · refine x_iconst C (v := (0 : Int32)) (by decide) (dkAt dk_L_law_23 47 rfl) 2088 rfl ?_
    exact nomatch hf
def f_law_35 (Z L : Nat) (xs : Nat → Int32) (M : Mem) (i : Int32) (j : Mem → Option Unit) : Option Unit :=
  rdX xs L (i + (1 : Int32)) (fun v1 => rdX xs L (i + (2 : Int32)) (fun v2 => cl (f_L_valueAction Z M v1 v2) (fun v3 M4 => rdX xs L (i + (1 : Int32)) (fun v5 => rdX xs L (i + (2 : Int32)) (fun v6 => cl (f_X12_valueAction Z M4 v5 v6) (fun v7 M8 => cl (f_X12_thrown Z M8) (fun v9 M10 => (if v9 = v3 then (if v3 = 0 then rdL M10 124 1 (0 : Int32) (fun v11 => (if v11 = v7.toInt64 then j M10 else none)) else j M10) else none))))))))
set_option maxRecDepth 100000 in
theorem c_law_35 {Γ : WC} {X : MX} (hN : HN Γ) (hC : NC Γ) (C : CX Γ X cL_law 9 RL (some .boolean) room_1) {Z b L cb sb : Nat} {xs : Nat → Int32} (hX : SX Γ X b L xs) (hcb : cb + 8 ≤ 601024 ∧ sb + 48 ≤ 7293034) {M : Mem} {i : Int32} {j : Mem → Option Unit} {rM : Unit} (hj : ∀ M1, j M1 = some rM → G Γ X M1 (cb + 8) (sb + 48) [some (.ref b), some (.ref (wad Γ 0)), some (.ref (wad Γ 108)), some (.ref (wad Γ 124)), some (.ref (wad Γ 125)), some (.int i)] [] 3578) (hf : f_law_35 Z L xs M i j = some rM) : G Γ X M cb sb [some (.ref b), some (.ref (wad Γ 0)), some (.ref (wad Γ 108)), some (.ref (wad Γ 124)), some (.ref (wad Γ 125)), some (.int i)] [] 2108 := by
  change G Γ X M (cb + 0) (sb + 0) _ _ _
  unfold f_law_35 at hf
  refine x_aload_n C rfl rfl (dkAt dk_L_law_24 12 rfl) 2109 rfl ?_
  refine x_aload_n C rfl rfl (dkAt dk_L_law_24 13 rfl) 2110 rfl ?_
  refine x_iload C rfl (dkAt dk_L_law_24 14 rfl) 2112 rfl ?_
  refine x_iconst C (v := (1 : Int32)) (by decide) (dkAt dk_L_law_24 15 rfl) 2113 rfl ?_
  refine x_iadd C (dkAt dk_L_law_24 16 rfl) 2114 rfl ?_
  refine x_sld C hX (dkAt dk_L_law_24 17 rfl) 2115 rfl hf (fun v1 hf => ?_)
  refine x_aload_n C rfl rfl (dkAt dk_L_law_24 18 rfl) 2116 rfl ?_
  refine x_iload C rfl (dkAt dk_L_law_24 19 rfl) 2118 rfl ?_
  refine x_iconst C (v := (2 : Int32)) (by decide) (dkAt dk_L_law_24 20 rfl) 2119 rfl ?_
  refine x_iadd C (dkAt dk_L_law_24 21 rfl) 2120 rfl ?_
  refine x_sld C hX (dkAt dk_L_law_24 22 rfl) 2121 rfl hf (fun v2 hf => ?_)
  refine x_aload_n C rfl rfl (dkAt dk_L_law_24 23 rfl) 2122 rfl ?_
  obtain ⟨v3, M4, h14, hf⟩ := cl_inv hf
  refine x_cW C (c_L_valueAction hN hC h14) mww_L_valueAction ln_RL_314 (ro_law hcb (by decide) (by decide) (by decide) (by decide)) rfl rfl (Nat.le_of_ble_eq_true rfl) (dkAt dk_L_law_24 24 rfl) 2125 rfl (cb + 3) (sb + 18) rfl rfl ?_
  refine x_istore C (L1 := [some (.ref b), some (.ref (wad Γ 0)), some (.ref (wad Γ 108)), some (.ref (wad Γ 124)), some (.ref (wad Γ 125)), some (.int i), some (.int v3)]) (dkAt dk_L_law_24 25 rfl) 2127 rfl (by decide) rfl ?_
  refine x_aload_n C rfl rfl (dkAt dk_L_law_24 26 rfl) 2128 rfl ?_
  refine x_aload_n C rfl rfl (dkAt dk_L_law_24 27 rfl) 2129 rfl ?_
  refine x_iload C rfl (dkAt dk_L_law_24 28 rfl) 2131 rfl ?_
  refine x_iconst C (v := (1 : Int32)) (by decide) (dkAt dk_L_law_24 29 rfl) 2132 rfl ?_
  refine x_iadd C (dkAt dk_L_law_24 30 rfl) 2133 rfl ?_
  refine x_sld C hX (dkAt dk_L_law_24 31 rfl) 2134 rfl hf (fun v5 hf => ?_)
  refine x_aload_n C rfl rfl (dkAt dk_L_law_24 32 rfl) 2135 rfl ?_
  refine x_iload C rfl (dkAt dk_L_law_24 33 rfl) 2137 rfl ?_
  refine x_iconst C (v := (2 : Int32)) (by decide) (dkAt dk_L_law_24 34 rfl) 2138 rfl ?_
  refine x_iadd C (dkAt dk_L_law_24 35 rfl) 2139 rfl ?_
  refine x_sld C hX (dkAt dk_L_law_24 36 rfl) 2140 rfl hf (fun v6 hf => ?_)
  obtain ⟨v7, M8, h13, hf⟩ := cl_inv hf
  refine x_cVi C (c_X12_valueAction hN h13) mw_X12_valueAction ln_RL_316 mi_X12_valueAction (hN.rc (ci := 12) sh108 rc12) (ro_law hcb (by decide) (by decide) (by decide) (by decide)) rfl rfl (Nat.le_of_ble_eq_true rfl) (dkAt dk_L_law_24 37 rfl) 2143 rfl (cb + 3) (sb + 18) rfl rfl ?_
  refine x_istore C (L1 := [some (.ref b), some (.ref (wad Γ 0)), some (.ref (wad Γ 108)), some (.ref (wad Γ 124)), some (.ref (wad Γ 125)), some (.int i), some (.int v3), some (.int v7)]) (dkAt dk_L_law_24 38 rfl) 2145 rfl (by decide) rfl ?_
  refine x_aload_n C rfl rfl (dkAt dk_L_law_24 39 rfl) 2146 rfl ?_
  obtain ⟨v9, M10, h12, hf⟩ := cl_inv hf
  refine x_cVi C (c_X12_thrown hN h12) mw_X12_thrown ln_RL_202 mi_X12_thrown (hN.rc (ci := 12) sh108 rc12) (ro_law hcb (by decide) (by decide) (by decide) (by decide)) rfl rfl (Nat.le_of_ble_eq_true rfl) (dkAt dk_L_law_24 40 rfl) 2149 rfl (cb + 3) (sb + 18) rfl rfl ?_
  refine x_iload C rfl (dkAt dk_L_law_24 41 rfl) 2151 rfl ?_
  refine x_icmp_eq C 2156 (dkAt dk_L_law_24 42 rfl) 2154 rfl (by decide) hf (fun hf => ?_) (fun hf => ?_)
  · refine x_iload C rfl (dkAt dk_L_law_24 45 rfl) 2158 rfl ?_
    refine x_if_ne C 2173 (dkAt dk_L_law_24 46 rfl) 2161 rfl (by decide) hf (fun hf => ?_) (fun hf => ?_)
    · refine x_goto C 3578 (dkAt dk_L_law_25 8 rfl) (by decide) ?_
      exact G.weak (L := [some (.ref b), some (.ref (wad Γ 0)), some (.ref (wad Γ 108)), some (.ref (wad Γ 124)), some (.ref (wad Γ 125)), some (.int i)]) ⟨rfl, rfl, rfl, rfl, rfl, rfl, trivial⟩ (G.wide (by omega) (by omega) (hj _ hf))
    · refine x_aload_n C rfl rfl (dkAt dk_L_law_24 47 rfl) 2162 rfl ?_
      refine x_iconst C (v := (0 : Int32)) (by decide) (dkAt dk_L_law_25 0 rfl) 2163 rfl ?_
      refine x_lald C (hN.sh sh124) (dkAt dk_L_law_25 1 rfl) 2164 rfl hf (fun v11 hf => ?_)
      refine x_iload C rfl (dkAt dk_L_law_25 2 rfl) 2166 rfl ?_
      refine x_i2l C (dkAt dk_L_law_25 3 rfl) 2167 rfl ?_
      refine x_lcmp_eq C 2173 (dkAt dk_L_law_25 4 rfl) 2171 rfl (dkAt dk_L_law_25 5 rfl) (by decide) hf (fun hf => ?_) (fun hf => ?_)
      · refine x_goto C 3578 (dkAt dk_L_law_25 8 rfl) (by decide) ?_
        exact G.weak (L := [some (.ref b), some (.ref (wad Γ 0)), some (.ref (wad Γ 108)), some (.ref (wad Γ 124)), some (.ref (wad Γ 125)), some (.int i)]) ⟨rfl, rfl, rfl, rfl, rfl, rfl, trivial⟩ (G.wide (by omega) (by omega) (hj _ hf))
      · refine x_iconst C (v := (0 : Int32)) (by decide) (dkAt dk_L_law_25 6 rfl) 2172 rfl ?_
        exact nomatch hf
  · refine x_iconst C (v := (0 : Int32)) (by decide) (dkAt dk_L_law_24 43 rfl) 2155 rfl ?_
    exact nomatch hf
def f_law_36 (Z L : Nat) (xs : Nat → Int32) (M : Mem) (i : Int32) (j : Mem → Option Unit) : Option Unit :=
  cl (f_L_bestGain Z M) (fun v1 M2 => cl (f_X12_bestGain Z M2) (fun v3 M4 => cl (f_X12_thrown Z M4) (fun v5 M6 => (if v5 = v1 then (if v1 = 0 then rdL M6 124 1 (0 : Int32) (fun v7 => (if v7 = v3 then j M6 else none)) else j M6) else none))))
set_option maxRecDepth 100000 in
theorem c_law_36 {Γ : WC} {X : MX} (hN : HN Γ) (hC : NC Γ) (C : CX Γ X cL_law 9 RL (some .boolean) room_1) {Z b L cb sb : Nat} {xs : Nat → Int32} (hX : SX Γ X b L xs) (hcb : cb + 8 ≤ 601024 ∧ sb + 48 ≤ 7293034) {M : Mem} {i : Int32} {j : Mem → Option Unit} {rM : Unit} (hj : ∀ M1, j M1 = some rM → G Γ X M1 (cb + 8) (sb + 48) [some (.ref b), some (.ref (wad Γ 0)), some (.ref (wad Γ 108)), some (.ref (wad Γ 124)), some (.ref (wad Γ 125)), some (.int i)] [] 3578) (hf : f_law_36 Z L xs M i j = some rM) : G Γ X M cb sb [some (.ref b), some (.ref (wad Γ 0)), some (.ref (wad Γ 108)), some (.ref (wad Γ 124)), some (.ref (wad Γ 125)), some (.int i)] [] 2176 := by
  change G Γ X M (cb + 0) (sb + 0) _ _ _
  unfold f_law_36 at hf
  refine x_aload_n C rfl rfl (dkAt dk_L_law_25 9 rfl) 2177 rfl ?_
  refine x_aload_n C rfl rfl (dkAt dk_L_law_25 10 rfl) 2178 rfl ?_
  obtain ⟨v1, M2, h10, hf⟩ := cl_inv hf
  refine x_cW C (c_L_bestGain hN hC h10) mww_L_bestGain ln_RL_317 (ro_law hcb (by decide) (by decide) (by decide) (by decide)) rfl rfl (Nat.le_of_ble_eq_true rfl) (dkAt dk_L_law_25 11 rfl) 2181 rfl (cb + 1) (sb + 6) rfl rfl ?_
  refine x_istore C (L1 := [some (.ref b), some (.ref (wad Γ 0)), some (.ref (wad Γ 108)), some (.ref (wad Γ 124)), some (.ref (wad Γ 125)), some (.int i), some (.int v1)]) (dkAt dk_L_law_25 12 rfl) 2183 rfl (by decide) rfl ?_
  refine x_aload_n C rfl rfl (dkAt dk_L_law_25 13 rfl) 2184 rfl ?_
  obtain ⟨v3, M4, h9, hf⟩ := cl_inv hf
  refine x_cVl C (c_X12_bestGain hN h9) mw_X12_bestGain ln_RL_319 mi_X12_bestGain (hN.rc (ci := 12) sh108 rc12) (ro_law hcb (by decide) (by decide) (by decide) (by decide)) rfl rfl (Nat.le_of_ble_eq_true rfl) (dkAt dk_L_law_25 14 rfl) 2187 rfl (cb + 1) (sb + 6) rfl rfl ?_
  refine x_lstore C (L1 := [some (.ref b), some (.ref (wad Γ 0)), some (.ref (wad Γ 108)), some (.ref (wad Γ 124)), some (.ref (wad Γ 125)), some (.int i), some (.int v1), some (.long v3)]) (dkAt dk_L_law_25 15 rfl) 2189 rfl (by decide) rfl ?_
  refine x_aload_n C rfl rfl (dkAt dk_L_law_25 16 rfl) 2190 rfl ?_
  obtain ⟨v5, M6, h8, hf⟩ := cl_inv hf
  refine x_cVi C (c_X12_thrown hN h8) mw_X12_thrown ln_RL_202 mi_X12_thrown (hN.rc (ci := 12) sh108 rc12) (ro_law hcb (by decide) (by decide) (by decide) (by decide)) rfl rfl (Nat.le_of_ble_eq_true rfl) (dkAt dk_L_law_25 17 rfl) 2193 rfl (cb + 1) (sb + 6) rfl rfl ?_
  refine x_iload C rfl (dkAt dk_L_law_25 18 rfl) 2195 rfl ?_
  refine x_icmp_eq C 2200 (dkAt dk_L_law_25 19 rfl) 2198 rfl (by decide) hf (fun hf => ?_) (fun hf => ?_)
  · refine x_iload C rfl (dkAt dk_L_law_25 22 rfl) 2202 rfl ?_
    refine x_if_ne C 2216 (dkAt dk_L_law_25 23 rfl) 2205 rfl (by decide) hf (fun hf => ?_) (fun hf => ?_)
    · refine x_goto C 3578 (dkAt dk_L_law_25 32 rfl) (by decide) ?_
      exact G.weak (L := [some (.ref b), some (.ref (wad Γ 0)), some (.ref (wad Γ 108)), some (.ref (wad Γ 124)), some (.ref (wad Γ 125)), some (.int i)]) ⟨rfl, rfl, rfl, rfl, rfl, rfl, trivial⟩ (G.wide (by omega) (by omega) (hj _ hf))
    · refine x_aload_n C rfl rfl (dkAt dk_L_law_25 24 rfl) 2206 rfl ?_
      refine x_iconst C (v := (0 : Int32)) (by decide) (dkAt dk_L_law_25 25 rfl) 2207 rfl ?_
      refine x_lald C (hN.sh sh124) (dkAt dk_L_law_25 26 rfl) 2208 rfl hf (fun v7 hf => ?_)
      refine x_lload C rfl (dkAt dk_L_law_25 27 rfl) 2210 rfl ?_
      refine x_lcmp_eq C 2216 (dkAt dk_L_law_25 28 rfl) 2214 rfl (dkAt dk_L_law_25 29 rfl) (by decide) hf (fun hf => ?_) (fun hf => ?_)
      · refine x_goto C 3578 (dkAt dk_L_law_25 32 rfl) (by decide) ?_
        exact G.weak (L := [some (.ref b), some (.ref (wad Γ 0)), some (.ref (wad Γ 108)), some (.ref (wad Γ 124)), some (.ref (wad Γ 125)), some (.int i)]) ⟨rfl, rfl, rfl, rfl, rfl, rfl, trivial⟩ (G.wide (by omega) (by omega) (hj _ hf))
      · refine x_iconst C (v := (0 : Int32)) (by decide) (dkAt dk_L_law_25 30 rfl) 2215 rfl ?_
        exact nomatch hf
  · refine x_iconst C (v := (0 : Int32)) (by decide) (dkAt dk_L_law_25 20 rfl) 2199 rfl ?_
    exact nomatch hf
def f_law_37 (Z L : Nat) (xs : Nat → Int32) (M : Mem) (i : Int32) (j : Mem → Option Unit) : Option Unit :=
  rdX xs L (i + (1 : Int32)) (fun v1 => cl (f_L_bestAction Z M v1) (fun v2 M3 => rdX xs L (i + (1 : Int32)) (fun v4 => cl (f_X12_bestAction Z M3 v4) (fun v5 M6 => cl (f_X12_thrown Z M6) (fun v7 M8 => (if v7 = v2 then (if v2 = 0 then rdL M8 124 1 (0 : Int32) (fun v9 => (if v9 = v5.toInt64 then j M8 else none)) else j M8) else none))))))
set_option maxRecDepth 100000 in
theorem c_law_37 {Γ : WC} {X : MX} (hN : HN Γ) (hC : NC Γ) (C : CX Γ X cL_law 9 RL (some .boolean) room_1) {Z b L cb sb : Nat} {xs : Nat → Int32} (hX : SX Γ X b L xs) (hcb : cb + 8 ≤ 601024 ∧ sb + 48 ≤ 7293034) {M : Mem} {i : Int32} {j : Mem → Option Unit} {rM : Unit} (hj : ∀ M1, j M1 = some rM → G Γ X M1 (cb + 8) (sb + 48) [some (.ref b), some (.ref (wad Γ 0)), some (.ref (wad Γ 108)), some (.ref (wad Γ 124)), some (.ref (wad Γ 125)), some (.int i)] [] 3578) (hf : f_law_37 Z L xs M i j = some rM) : G Γ X M cb sb [some (.ref b), some (.ref (wad Γ 0)), some (.ref (wad Γ 108)), some (.ref (wad Γ 124)), some (.ref (wad Γ 125)), some (.int i)] [] 2219 := by
  change G Γ X M (cb + 0) (sb + 0) _ _ _
  unfold f_law_37 at hf
  refine x_aload_n C rfl rfl (dkAt dk_L_law_25 33 rfl) 2220 rfl ?_
  refine x_aload_n C rfl rfl (dkAt dk_L_law_25 34 rfl) 2221 rfl ?_
  refine x_iload C rfl (dkAt dk_L_law_25 35 rfl) 2223 rfl ?_
  refine x_iconst C (v := (1 : Int32)) (by decide) (dkAt dk_L_law_25 36 rfl) 2224 rfl ?_
  refine x_iadd C (dkAt dk_L_law_25 37 rfl) 2225 rfl ?_
  refine x_sld C hX (dkAt dk_L_law_25 38 rfl) 2226 rfl hf (fun v1 hf => ?_)
  refine x_aload_n C rfl rfl (dkAt dk_L_law_25 39 rfl) 2227 rfl ?_
  obtain ⟨v2, M3, h12, hf⟩ := cl_inv hf
  refine x_cW C (c_L_bestAction hN hC h12) mww_L_bestAction ln_RL_320 (ro_law hcb (by decide) (by decide) (by decide) (by decide)) rfl rfl (Nat.le_of_ble_eq_true rfl) (dkAt dk_L_law_25 40 rfl) 2230 rfl (cb + 2) (sb + 12) rfl rfl ?_
  refine x_istore C (L1 := [some (.ref b), some (.ref (wad Γ 0)), some (.ref (wad Γ 108)), some (.ref (wad Γ 124)), some (.ref (wad Γ 125)), some (.int i), some (.int v2)]) (dkAt dk_L_law_25 41 rfl) 2232 rfl (by decide) rfl ?_
  refine x_aload_n C rfl rfl (dkAt dk_L_law_25 42 rfl) 2233 rfl ?_
  refine x_aload_n C rfl rfl (dkAt dk_L_law_25 43 rfl) 2234 rfl ?_
  refine x_iload C rfl (dkAt dk_L_law_25 44 rfl) 2236 rfl ?_
  refine x_iconst C (v := (1 : Int32)) (by decide) (dkAt dk_L_law_25 45 rfl) 2237 rfl ?_
  refine x_iadd C (dkAt dk_L_law_25 46 rfl) 2238 rfl ?_
  refine x_sld C hX (dkAt dk_L_law_25 47 rfl) 2239 rfl hf (fun v4 hf => ?_)
  obtain ⟨v5, M6, h11, hf⟩ := cl_inv hf
  refine x_cVi C (c_X12_bestAction hN h11) mw_X12_bestAction ln_RL_322 mi_X12_bestAction (hN.rc (ci := 12) sh108 rc12) (ro_law hcb (by decide) (by decide) (by decide) (by decide)) rfl rfl (Nat.le_of_ble_eq_true rfl) (dkAt dk_L_law_26 0 rfl) 2242 rfl (cb + 2) (sb + 12) rfl rfl ?_
  refine x_istore C (L1 := [some (.ref b), some (.ref (wad Γ 0)), some (.ref (wad Γ 108)), some (.ref (wad Γ 124)), some (.ref (wad Γ 125)), some (.int i), some (.int v2), some (.int v5)]) (dkAt dk_L_law_26 1 rfl) 2244 rfl (by decide) rfl ?_
  refine x_aload_n C rfl rfl (dkAt dk_L_law_26 2 rfl) 2245 rfl ?_
  obtain ⟨v7, M8, h10, hf⟩ := cl_inv hf
  refine x_cVi C (c_X12_thrown hN h10) mw_X12_thrown ln_RL_202 mi_X12_thrown (hN.rc (ci := 12) sh108 rc12) (ro_law hcb (by decide) (by decide) (by decide) (by decide)) rfl rfl (Nat.le_of_ble_eq_true rfl) (dkAt dk_L_law_26 3 rfl) 2248 rfl (cb + 2) (sb + 12) rfl rfl ?_
  refine x_iload C rfl (dkAt dk_L_law_26 4 rfl) 2250 rfl ?_
  refine x_icmp_eq C 2255 (dkAt dk_L_law_26 5 rfl) 2253 rfl (by decide) hf (fun hf => ?_) (fun hf => ?_)
  · refine x_iload C rfl (dkAt dk_L_law_26 8 rfl) 2257 rfl ?_
    refine x_if_ne C 2272 (dkAt dk_L_law_26 9 rfl) 2260 rfl (by decide) hf (fun hf => ?_) (fun hf => ?_)
    · refine x_goto C 3578 (dkAt dk_L_law_26 19 rfl) (by decide) ?_
      exact G.weak (L := [some (.ref b), some (.ref (wad Γ 0)), some (.ref (wad Γ 108)), some (.ref (wad Γ 124)), some (.ref (wad Γ 125)), some (.int i)]) ⟨rfl, rfl, rfl, rfl, rfl, rfl, trivial⟩ (G.wide (by omega) (by omega) (hj _ hf))
    · refine x_aload_n C rfl rfl (dkAt dk_L_law_26 10 rfl) 2261 rfl ?_
      refine x_iconst C (v := (0 : Int32)) (by decide) (dkAt dk_L_law_26 11 rfl) 2262 rfl ?_
      refine x_lald C (hN.sh sh124) (dkAt dk_L_law_26 12 rfl) 2263 rfl hf (fun v9 hf => ?_)
      refine x_iload C rfl (dkAt dk_L_law_26 13 rfl) 2265 rfl ?_
      refine x_i2l C (dkAt dk_L_law_26 14 rfl) 2266 rfl ?_
      refine x_lcmp_eq C 2272 (dkAt dk_L_law_26 15 rfl) 2270 rfl (dkAt dk_L_law_26 16 rfl) (by decide) hf (fun hf => ?_) (fun hf => ?_)
      · refine x_goto C 3578 (dkAt dk_L_law_26 19 rfl) (by decide) ?_
        exact G.weak (L := [some (.ref b), some (.ref (wad Γ 0)), some (.ref (wad Γ 108)), some (.ref (wad Γ 124)), some (.ref (wad Γ 125)), some (.int i)]) ⟨rfl, rfl, rfl, rfl, rfl, rfl, trivial⟩ (G.wide (by omega) (by omega) (hj _ hf))
      · refine x_iconst C (v := (0 : Int32)) (by decide) (dkAt dk_L_law_26 17 rfl) 2271 rfl ?_
        exact nomatch hf
  · refine x_iconst C (v := (0 : Int32)) (by decide) (dkAt dk_L_law_26 6 rfl) 2254 rfl ?_
    exact nomatch hf
def f_law_38 (Z L : Nat) (xs : Nat → Int32) (M : Mem) (i : Int32) (j : Mem → Option Unit) : Option Unit :=
  cl (f_L_pureSets Z M) (fun v1 M2 => cl (f_X12_pureSets Z M2) (fun v3 M4 => cl (f_X12_thrown Z M4) (fun v5 M6 => (if v5 = v1 then (if v1 = 0 then rdL M6 124 1 (0 : Int32) (fun v7 => (if v7 = v3.toInt64 then j M6 else none)) else j M6) else none))))
set_option maxRecDepth 100000 in
theorem c_law_38 {Γ : WC} {X : MX} (hN : HN Γ) (hC : NC Γ) (C : CX Γ X cL_law 9 RL (some .boolean) room_1) {Z b L cb sb : Nat} {xs : Nat → Int32} (hX : SX Γ X b L xs) (hcb : cb + 8 ≤ 601024 ∧ sb + 48 ≤ 7293034) {M : Mem} {i : Int32} {j : Mem → Option Unit} {rM : Unit} (hj : ∀ M1, j M1 = some rM → G Γ X M1 (cb + 8) (sb + 48) [some (.ref b), some (.ref (wad Γ 0)), some (.ref (wad Γ 108)), some (.ref (wad Γ 124)), some (.ref (wad Γ 125)), some (.int i)] [] 3578) (hf : f_law_38 Z L xs M i j = some rM) : G Γ X M cb sb [some (.ref b), some (.ref (wad Γ 0)), some (.ref (wad Γ 108)), some (.ref (wad Γ 124)), some (.ref (wad Γ 125)), some (.int i)] [] 2275 := by
  change G Γ X M (cb + 0) (sb + 0) _ _ _
  unfold f_law_38 at hf
  refine x_aload_n C rfl rfl (dkAt dk_L_law_26 20 rfl) 2276 rfl ?_
  refine x_aload_n C rfl rfl (dkAt dk_L_law_26 21 rfl) 2277 rfl ?_
  obtain ⟨v1, M2, h10, hf⟩ := cl_inv hf
  refine x_cW C (c_L_pureSets hN hC h10) mww_L_pureSets ln_RL_323 (ro_law hcb (by decide) (by decide) (by decide) (by decide)) rfl rfl (Nat.le_of_ble_eq_true rfl) (dkAt dk_L_law_26 22 rfl) 2280 rfl (cb + 1) (sb + 6) rfl rfl ?_
  refine x_istore C (L1 := [some (.ref b), some (.ref (wad Γ 0)), some (.ref (wad Γ 108)), some (.ref (wad Γ 124)), some (.ref (wad Γ 125)), some (.int i), some (.int v1)]) (dkAt dk_L_law_26 23 rfl) 2282 rfl (by decide) rfl ?_
  refine x_aload_n C rfl rfl (dkAt dk_L_law_26 24 rfl) 2283 rfl ?_
  obtain ⟨v3, M4, h9, hf⟩ := cl_inv hf
  refine x_cVi C (c_X12_pureSets hN h9) mw_X12_pureSets ln_RL_325 mi_X12_pureSets (hN.rc (ci := 12) sh108 rc12) (ro_law hcb (by decide) (by decide) (by decide) (by decide)) rfl rfl (Nat.le_of_ble_eq_true rfl) (dkAt dk_L_law_26 25 rfl) 2286 rfl (cb + 1) (sb + 6) rfl rfl ?_
  refine x_istore C (L1 := [some (.ref b), some (.ref (wad Γ 0)), some (.ref (wad Γ 108)), some (.ref (wad Γ 124)), some (.ref (wad Γ 125)), some (.int i), some (.int v1), some (.int v3)]) (dkAt dk_L_law_26 26 rfl) 2288 rfl (by decide) rfl ?_
  refine x_aload_n C rfl rfl (dkAt dk_L_law_26 27 rfl) 2289 rfl ?_
  obtain ⟨v5, M6, h8, hf⟩ := cl_inv hf
  refine x_cVi C (c_X12_thrown hN h8) mw_X12_thrown ln_RL_202 mi_X12_thrown (hN.rc (ci := 12) sh108 rc12) (ro_law hcb (by decide) (by decide) (by decide) (by decide)) rfl rfl (Nat.le_of_ble_eq_true rfl) (dkAt dk_L_law_26 28 rfl) 2292 rfl (cb + 1) (sb + 6) rfl rfl ?_
  refine x_iload C rfl (dkAt dk_L_law_26 29 rfl) 2294 rfl ?_
  refine x_icmp_eq C 2299 (dkAt dk_L_law_26 30 rfl) 2297 rfl (by decide) hf (fun hf => ?_) (fun hf => ?_)
  · refine x_iload C rfl (dkAt dk_L_law_26 33 rfl) 2301 rfl ?_
    refine x_if_ne C 2316 (dkAt dk_L_law_26 34 rfl) 2304 rfl (by decide) hf (fun hf => ?_) (fun hf => ?_)
    · refine x_goto C 3578 (dkAt dk_L_law_26 44 rfl) (by decide) ?_
      exact G.weak (L := [some (.ref b), some (.ref (wad Γ 0)), some (.ref (wad Γ 108)), some (.ref (wad Γ 124)), some (.ref (wad Γ 125)), some (.int i)]) ⟨rfl, rfl, rfl, rfl, rfl, rfl, trivial⟩ (G.wide (by omega) (by omega) (hj _ hf))
    · refine x_aload_n C rfl rfl (dkAt dk_L_law_26 35 rfl) 2305 rfl ?_
      refine x_iconst C (v := (0 : Int32)) (by decide) (dkAt dk_L_law_26 36 rfl) 2306 rfl ?_
      refine x_lald C (hN.sh sh124) (dkAt dk_L_law_26 37 rfl) 2307 rfl hf (fun v7 hf => ?_)
      refine x_iload C rfl (dkAt dk_L_law_26 38 rfl) 2309 rfl ?_
      refine x_i2l C (dkAt dk_L_law_26 39 rfl) 2310 rfl ?_
      refine x_lcmp_eq C 2316 (dkAt dk_L_law_26 40 rfl) 2314 rfl (dkAt dk_L_law_26 41 rfl) (by decide) hf (fun hf => ?_) (fun hf => ?_)
      · refine x_goto C 3578 (dkAt dk_L_law_26 44 rfl) (by decide) ?_
        exact G.weak (L := [some (.ref b), some (.ref (wad Γ 0)), some (.ref (wad Γ 108)), some (.ref (wad Γ 124)), some (.ref (wad Γ 125)), some (.int i)]) ⟨rfl, rfl, rfl, rfl, rfl, rfl, trivial⟩ (G.wide (by omega) (by omega) (hj _ hf))
      · refine x_iconst C (v := (0 : Int32)) (by decide) (dkAt dk_L_law_26 42 rfl) 2315 rfl ?_
        exact nomatch hf
  · refine x_iconst C (v := (0 : Int32)) (by decide) (dkAt dk_L_law_26 31 rfl) 2298 rfl ?_
    exact nomatch hf
def f_law_39 (Z L : Nat) (xs : Nat → Int32) (M : Mem) (i : Int32) (j : Mem → Option Unit) : Option Unit :=
  rdX xs L (i + (1 : Int32)) (fun v1 => rdX xs L (i + (2 : Int32)) (fun v2 => cl (f_L_worth Z M v1 v2) (fun v3 M4 => rdX xs L (i + (1 : Int32)) (fun v5 => rdX xs L (i + (2 : Int32)) (fun v6 => cl (f_X12_worth Z M4 v5 v6) (fun v7 M8 => cl (f_X12_thrown Z M8) (fun v9 M10 => (if v9 = v3 then (if v3 = 0 then rdL M10 124 1 (0 : Int32) (fun v11 => (if v11 = v7 then j M10 else none)) else j M10) else none))))))))
set_option maxRecDepth 100000 in
theorem c_law_39 {Γ : WC} {X : MX} (hN : HN Γ) (hC : NC Γ) (C : CX Γ X cL_law 9 RL (some .boolean) room_1) {Z b L cb sb : Nat} {xs : Nat → Int32} (hX : SX Γ X b L xs) (hcb : cb + 8 ≤ 601024 ∧ sb + 48 ≤ 7293034) {M : Mem} {i : Int32} {j : Mem → Option Unit} {rM : Unit} (hj : ∀ M1, j M1 = some rM → G Γ X M1 (cb + 8) (sb + 48) [some (.ref b), some (.ref (wad Γ 0)), some (.ref (wad Γ 108)), some (.ref (wad Γ 124)), some (.ref (wad Γ 125)), some (.int i)] [] 3578) (hf : f_law_39 Z L xs M i j = some rM) : G Γ X M cb sb [some (.ref b), some (.ref (wad Γ 0)), some (.ref (wad Γ 108)), some (.ref (wad Γ 124)), some (.ref (wad Γ 125)), some (.int i)] [] 2319 := by
  change G Γ X M (cb + 0) (sb + 0) _ _ _
  unfold f_law_39 at hf
  refine x_aload_n C rfl rfl (dkAt dk_L_law_26 45 rfl) 2320 rfl ?_
  refine x_aload_n C rfl rfl (dkAt dk_L_law_26 46 rfl) 2321 rfl ?_
  refine x_iload C rfl (dkAt dk_L_law_26 47 rfl) 2323 rfl ?_
  refine x_iconst C (v := (1 : Int32)) (by decide) (dkAt dk_L_law_27 0 rfl) 2324 rfl ?_
  refine x_iadd C (dkAt dk_L_law_27 1 rfl) 2325 rfl ?_
  refine x_sld C hX (dkAt dk_L_law_27 2 rfl) 2326 rfl hf (fun v1 hf => ?_)
  refine x_aload_n C rfl rfl (dkAt dk_L_law_27 3 rfl) 2327 rfl ?_
  refine x_iload C rfl (dkAt dk_L_law_27 4 rfl) 2329 rfl ?_
  refine x_iconst C (v := (2 : Int32)) (by decide) (dkAt dk_L_law_27 5 rfl) 2330 rfl ?_
  refine x_iadd C (dkAt dk_L_law_27 6 rfl) 2331 rfl ?_
  refine x_sld C hX (dkAt dk_L_law_27 7 rfl) 2332 rfl hf (fun v2 hf => ?_)
  refine x_aload_n C rfl rfl (dkAt dk_L_law_27 8 rfl) 2333 rfl ?_
  obtain ⟨v3, M4, h14, hf⟩ := cl_inv hf
  refine x_cW C (c_L_worth hN hC h14) mww_L_worth ln_RL_326 (ro_law hcb (by decide) (by decide) (by decide) (by decide)) rfl rfl (Nat.le_of_ble_eq_true rfl) (dkAt dk_L_law_27 9 rfl) 2336 rfl (cb + 3) (sb + 18) rfl rfl ?_
  refine x_istore C (L1 := [some (.ref b), some (.ref (wad Γ 0)), some (.ref (wad Γ 108)), some (.ref (wad Γ 124)), some (.ref (wad Γ 125)), some (.int i), some (.int v3)]) (dkAt dk_L_law_27 10 rfl) 2338 rfl (by decide) rfl ?_
  refine x_aload_n C rfl rfl (dkAt dk_L_law_27 11 rfl) 2339 rfl ?_
  refine x_aload_n C rfl rfl (dkAt dk_L_law_27 12 rfl) 2340 rfl ?_
  refine x_iload C rfl (dkAt dk_L_law_27 13 rfl) 2342 rfl ?_
  refine x_iconst C (v := (1 : Int32)) (by decide) (dkAt dk_L_law_27 14 rfl) 2343 rfl ?_
  refine x_iadd C (dkAt dk_L_law_27 15 rfl) 2344 rfl ?_
  refine x_sld C hX (dkAt dk_L_law_27 16 rfl) 2345 rfl hf (fun v5 hf => ?_)
  refine x_aload_n C rfl rfl (dkAt dk_L_law_27 17 rfl) 2346 rfl ?_
  refine x_iload C rfl (dkAt dk_L_law_27 18 rfl) 2348 rfl ?_
  refine x_iconst C (v := (2 : Int32)) (by decide) (dkAt dk_L_law_27 19 rfl) 2349 rfl ?_
  refine x_iadd C (dkAt dk_L_law_27 20 rfl) 2350 rfl ?_
  refine x_sld C hX (dkAt dk_L_law_27 21 rfl) 2351 rfl hf (fun v6 hf => ?_)
  obtain ⟨v7, M8, h13, hf⟩ := cl_inv hf
  refine x_cVl C (c_X12_worth hN h13) mw_X12_worth ln_RL_328 mi_X12_worth (hN.rc (ci := 12) sh108 rc12) (ro_law hcb (by decide) (by decide) (by decide) (by decide)) rfl rfl (Nat.le_of_ble_eq_true rfl) (dkAt dk_L_law_27 22 rfl) 2354 rfl (cb + 3) (sb + 18) rfl rfl ?_
  refine x_lstore C (L1 := [some (.ref b), some (.ref (wad Γ 0)), some (.ref (wad Γ 108)), some (.ref (wad Γ 124)), some (.ref (wad Γ 125)), some (.int i), some (.int v3), some (.long v7)]) (dkAt dk_L_law_27 23 rfl) 2356 rfl (by decide) rfl ?_
  refine x_aload_n C rfl rfl (dkAt dk_L_law_27 24 rfl) 2357 rfl ?_
  obtain ⟨v9, M10, h12, hf⟩ := cl_inv hf
  refine x_cVi C (c_X12_thrown hN h12) mw_X12_thrown ln_RL_202 mi_X12_thrown (hN.rc (ci := 12) sh108 rc12) (ro_law hcb (by decide) (by decide) (by decide) (by decide)) rfl rfl (Nat.le_of_ble_eq_true rfl) (dkAt dk_L_law_27 25 rfl) 2360 rfl (cb + 3) (sb + 18) rfl rfl ?_
  refine x_iload C rfl (dkAt dk_L_law_27 26 rfl) 2362 rfl ?_
  refine x_icmp_eq C 2367 (dkAt dk_L_law_27 27 rfl) 2365 rfl (by decide) hf (fun hf => ?_) (fun hf => ?_)
  · refine x_iload C rfl (dkAt dk_L_law_27 30 rfl) 2369 rfl ?_
    refine x_if_ne C 2383 (dkAt dk_L_law_27 31 rfl) 2372 rfl (by decide) hf (fun hf => ?_) (fun hf => ?_)
    · refine x_goto C 3578 (dkAt dk_L_law_27 40 rfl) (by decide) ?_
      exact G.weak (L := [some (.ref b), some (.ref (wad Γ 0)), some (.ref (wad Γ 108)), some (.ref (wad Γ 124)), some (.ref (wad Γ 125)), some (.int i)]) ⟨rfl, rfl, rfl, rfl, rfl, rfl, trivial⟩ (G.wide (by omega) (by omega) (hj _ hf))
    · refine x_aload_n C rfl rfl (dkAt dk_L_law_27 32 rfl) 2373 rfl ?_
      refine x_iconst C (v := (0 : Int32)) (by decide) (dkAt dk_L_law_27 33 rfl) 2374 rfl ?_
      refine x_lald C (hN.sh sh124) (dkAt dk_L_law_27 34 rfl) 2375 rfl hf (fun v11 hf => ?_)
      refine x_lload C rfl (dkAt dk_L_law_27 35 rfl) 2377 rfl ?_
      refine x_lcmp_eq C 2383 (dkAt dk_L_law_27 36 rfl) 2381 rfl (dkAt dk_L_law_27 37 rfl) (by decide) hf (fun hf => ?_) (fun hf => ?_)
      · refine x_goto C 3578 (dkAt dk_L_law_27 40 rfl) (by decide) ?_
        exact G.weak (L := [some (.ref b), some (.ref (wad Γ 0)), some (.ref (wad Γ 108)), some (.ref (wad Γ 124)), some (.ref (wad Γ 125)), some (.int i)]) ⟨rfl, rfl, rfl, rfl, rfl, rfl, trivial⟩ (G.wide (by omega) (by omega) (hj _ hf))
      · refine x_iconst C (v := (0 : Int32)) (by decide) (dkAt dk_L_law_27 38 rfl) 2382 rfl ?_
        exact nomatch hf
  · refine x_iconst C (v := (0 : Int32)) (by decide) (dkAt dk_L_law_27 28 rfl) 2366 rfl ?_
    exact nomatch hf
def f_law_40 (Z L : Nat) (xs : Nat → Int32) (M : Mem) (i : Int32) (j : Mem → Option Unit) : Option Unit :=
  rdX xs L (i + (1 : Int32)) (fun v1 => cl (f_L_leastLimit Z M v1) (fun v2 M3 => rdX xs L (i + (1 : Int32)) (fun v4 => cl (f_X12_leastLimit Z M3 v4) (fun v5 M6 => cl (f_X12_thrown Z M6) (fun v7 M8 => (if v7 = v2 then (if v2 = 0 then rdL M8 124 1 (0 : Int32) (fun v9 => (if v9 = v5.toInt64 then j M8 else none)) else j M8) else none))))))
set_option maxRecDepth 100000 in
theorem c_law_40 {Γ : WC} {X : MX} (hN : HN Γ) (hC : NC Γ) (C : CX Γ X cL_law 9 RL (some .boolean) room_1) {Z b L cb sb : Nat} {xs : Nat → Int32} (hX : SX Γ X b L xs) (hcb : cb + 8 ≤ 601024 ∧ sb + 48 ≤ 7293034) {M : Mem} {i : Int32} {j : Mem → Option Unit} {rM : Unit} (hj : ∀ M1, j M1 = some rM → G Γ X M1 (cb + 8) (sb + 48) [some (.ref b), some (.ref (wad Γ 0)), some (.ref (wad Γ 108)), some (.ref (wad Γ 124)), some (.ref (wad Γ 125)), some (.int i)] [] 3578) (hf : f_law_40 Z L xs M i j = some rM) : G Γ X M cb sb [some (.ref b), some (.ref (wad Γ 0)), some (.ref (wad Γ 108)), some (.ref (wad Γ 124)), some (.ref (wad Γ 125)), some (.int i)] [] 2386 := by
  change G Γ X M (cb + 0) (sb + 0) _ _ _
  unfold f_law_40 at hf
  refine x_aload_n C rfl rfl (dkAt dk_L_law_27 41 rfl) 2387 rfl ?_
  refine x_aload_n C rfl rfl (dkAt dk_L_law_27 42 rfl) 2388 rfl ?_
  refine x_iload C rfl (dkAt dk_L_law_27 43 rfl) 2390 rfl ?_
  refine x_iconst C (v := (1 : Int32)) (by decide) (dkAt dk_L_law_27 44 rfl) 2391 rfl ?_
  refine x_iadd C (dkAt dk_L_law_27 45 rfl) 2392 rfl ?_
  refine x_sld C hX (dkAt dk_L_law_27 46 rfl) 2393 rfl hf (fun v1 hf => ?_)
  refine x_aload_n C rfl rfl (dkAt dk_L_law_27 47 rfl) 2394 rfl ?_
  obtain ⟨v2, M3, h12, hf⟩ := cl_inv hf
  refine x_cW C (c_L_leastLimit hN hC h12) mww_L_leastLimit ln_RL_329 (ro_law hcb (by decide) (by decide) (by decide) (by decide)) rfl rfl (Nat.le_of_ble_eq_true rfl) (dkAt dk_L_law_28 0 rfl) 2397 rfl (cb + 2) (sb + 12) rfl rfl ?_
  refine x_istore C (L1 := [some (.ref b), some (.ref (wad Γ 0)), some (.ref (wad Γ 108)), some (.ref (wad Γ 124)), some (.ref (wad Γ 125)), some (.int i), some (.int v2)]) (dkAt dk_L_law_28 1 rfl) 2399 rfl (by decide) rfl ?_
  refine x_aload_n C rfl rfl (dkAt dk_L_law_28 2 rfl) 2400 rfl ?_
  refine x_aload_n C rfl rfl (dkAt dk_L_law_28 3 rfl) 2401 rfl ?_
  refine x_iload C rfl (dkAt dk_L_law_28 4 rfl) 2403 rfl ?_
  refine x_iconst C (v := (1 : Int32)) (by decide) (dkAt dk_L_law_28 5 rfl) 2404 rfl ?_
  refine x_iadd C (dkAt dk_L_law_28 6 rfl) 2405 rfl ?_
  refine x_sld C hX (dkAt dk_L_law_28 7 rfl) 2406 rfl hf (fun v4 hf => ?_)
  obtain ⟨v5, M6, h11, hf⟩ := cl_inv hf
  refine x_cVi C (c_X12_leastLimit hN h11) mw_X12_leastLimit ln_RL_331 mi_X12_leastLimit (hN.rc (ci := 12) sh108 rc12) (ro_law hcb (by decide) (by decide) (by decide) (by decide)) rfl rfl (Nat.le_of_ble_eq_true rfl) (dkAt dk_L_law_28 8 rfl) 2409 rfl (cb + 2) (sb + 12) rfl rfl ?_
  refine x_istore C (L1 := [some (.ref b), some (.ref (wad Γ 0)), some (.ref (wad Γ 108)), some (.ref (wad Γ 124)), some (.ref (wad Γ 125)), some (.int i), some (.int v2), some (.int v5)]) (dkAt dk_L_law_28 9 rfl) 2411 rfl (by decide) rfl ?_
  refine x_aload_n C rfl rfl (dkAt dk_L_law_28 10 rfl) 2412 rfl ?_
  obtain ⟨v7, M8, h10, hf⟩ := cl_inv hf
  refine x_cVi C (c_X12_thrown hN h10) mw_X12_thrown ln_RL_202 mi_X12_thrown (hN.rc (ci := 12) sh108 rc12) (ro_law hcb (by decide) (by decide) (by decide) (by decide)) rfl rfl (Nat.le_of_ble_eq_true rfl) (dkAt dk_L_law_28 11 rfl) 2415 rfl (cb + 2) (sb + 12) rfl rfl ?_
  refine x_iload C rfl (dkAt dk_L_law_28 12 rfl) 2417 rfl ?_
  refine x_icmp_eq C 2422 (dkAt dk_L_law_28 13 rfl) 2420 rfl (by decide) hf (fun hf => ?_) (fun hf => ?_)
  · refine x_iload C rfl (dkAt dk_L_law_28 16 rfl) 2424 rfl ?_
    refine x_if_ne C 2439 (dkAt dk_L_law_28 17 rfl) 2427 rfl (by decide) hf (fun hf => ?_) (fun hf => ?_)
    · refine x_goto C 3578 (dkAt dk_L_law_28 27 rfl) (by decide) ?_
      exact G.weak (L := [some (.ref b), some (.ref (wad Γ 0)), some (.ref (wad Γ 108)), some (.ref (wad Γ 124)), some (.ref (wad Γ 125)), some (.int i)]) ⟨rfl, rfl, rfl, rfl, rfl, rfl, trivial⟩ (G.wide (by omega) (by omega) (hj _ hf))
    · refine x_aload_n C rfl rfl (dkAt dk_L_law_28 18 rfl) 2428 rfl ?_
      refine x_iconst C (v := (0 : Int32)) (by decide) (dkAt dk_L_law_28 19 rfl) 2429 rfl ?_
      refine x_lald C (hN.sh sh124) (dkAt dk_L_law_28 20 rfl) 2430 rfl hf (fun v9 hf => ?_)
      refine x_iload C rfl (dkAt dk_L_law_28 21 rfl) 2432 rfl ?_
      refine x_i2l C (dkAt dk_L_law_28 22 rfl) 2433 rfl ?_
      refine x_lcmp_eq C 2439 (dkAt dk_L_law_28 23 rfl) 2437 rfl (dkAt dk_L_law_28 24 rfl) (by decide) hf (fun hf => ?_) (fun hf => ?_)
      · refine x_goto C 3578 (dkAt dk_L_law_28 27 rfl) (by decide) ?_
        exact G.weak (L := [some (.ref b), some (.ref (wad Γ 0)), some (.ref (wad Γ 108)), some (.ref (wad Γ 124)), some (.ref (wad Γ 125)), some (.int i)]) ⟨rfl, rfl, rfl, rfl, rfl, rfl, trivial⟩ (G.wide (by omega) (by omega) (hj _ hf))
      · refine x_iconst C (v := (0 : Int32)) (by decide) (dkAt dk_L_law_28 25 rfl) 2438 rfl ?_
        exact nomatch hf
  · refine x_iconst C (v := (0 : Int32)) (by decide) (dkAt dk_L_law_28 14 rfl) 2421 rfl ?_
    exact nomatch hf
def f_law_41 (Z L : Nat) (xs : Nat → Int32) (M : Mem) (i : Int32) (j : Mem → Option Unit) : Option Unit :=
  rdX xs L (i + (1 : Int32)) (fun v1 => rdX xs L (i + (2 : Int32)) (fun v2 => rdX xs L (i + (3 : Int32)) (fun v3 => cl (f_L_bestWeight Z M v1 v2 v3) (fun v4 M5 => rdX xs L (i + (1 : Int32)) (fun v6 => rdX xs L (i + (2 : Int32)) (fun v7 => rdX xs L (i + (3 : Int32)) (fun v8 => cl (f_X12_bestWeight Z M5 v6 v7 v8) (fun v9 M10 => cl (f_X12_thrown Z M10) (fun v11 M12 => (if v11 = v4 then (if v4 = 0 then rdL M12 124 1 (0 : Int32) (fun v13 => (if v13 = v9.toInt64 then j M12 else none)) else j M12) else none))))))))))
set_option maxRecDepth 100000 in
theorem c_law_41 {Γ : WC} {X : MX} (hN : HN Γ) (hC : NC Γ) (C : CX Γ X cL_law 9 RL (some .boolean) room_1) {Z b L cb sb : Nat} {xs : Nat → Int32} (hX : SX Γ X b L xs) (hcb : cb + 8 ≤ 601024 ∧ sb + 48 ≤ 7293034) {M : Mem} {i : Int32} {j : Mem → Option Unit} {rM : Unit} (hj : ∀ M1, j M1 = some rM → G Γ X M1 (cb + 8) (sb + 48) [some (.ref b), some (.ref (wad Γ 0)), some (.ref (wad Γ 108)), some (.ref (wad Γ 124)), some (.ref (wad Γ 125)), some (.int i)] [] 3578) (hf : f_law_41 Z L xs M i j = some rM) : G Γ X M cb sb [some (.ref b), some (.ref (wad Γ 0)), some (.ref (wad Γ 108)), some (.ref (wad Γ 124)), some (.ref (wad Γ 125)), some (.int i)] [] 2442 := by
  change G Γ X M (cb + 0) (sb + 0) _ _ _
  unfold f_law_41 at hf
  refine x_aload_n C rfl rfl (dkAt dk_L_law_28 28 rfl) 2443 rfl ?_
  refine x_aload_n C rfl rfl (dkAt dk_L_law_28 29 rfl) 2444 rfl ?_
  refine x_iload C rfl (dkAt dk_L_law_28 30 rfl) 2446 rfl ?_
  refine x_iconst C (v := (1 : Int32)) (by decide) (dkAt dk_L_law_28 31 rfl) 2447 rfl ?_
  refine x_iadd C (dkAt dk_L_law_28 32 rfl) 2448 rfl ?_
  refine x_sld C hX (dkAt dk_L_law_28 33 rfl) 2449 rfl hf (fun v1 hf => ?_)
  refine x_aload_n C rfl rfl (dkAt dk_L_law_28 34 rfl) 2450 rfl ?_
  refine x_iload C rfl (dkAt dk_L_law_28 35 rfl) 2452 rfl ?_
  refine x_iconst C (v := (2 : Int32)) (by decide) (dkAt dk_L_law_28 36 rfl) 2453 rfl ?_
  refine x_iadd C (dkAt dk_L_law_28 37 rfl) 2454 rfl ?_
  refine x_sld C hX (dkAt dk_L_law_28 38 rfl) 2455 rfl hf (fun v2 hf => ?_)
  refine x_aload_n C rfl rfl (dkAt dk_L_law_28 39 rfl) 2456 rfl ?_
  refine x_iload C rfl (dkAt dk_L_law_28 40 rfl) 2458 rfl ?_
  refine x_iconst C (v := (3 : Int32)) (by decide) (dkAt dk_L_law_28 41 rfl) 2459 rfl ?_
  refine x_iadd C (dkAt dk_L_law_28 42 rfl) 2460 rfl ?_
  refine x_sld C hX (dkAt dk_L_law_28 43 rfl) 2461 rfl hf (fun v3 hf => ?_)
  refine x_aload_n C rfl rfl (dkAt dk_L_law_28 44 rfl) 2462 rfl ?_
  obtain ⟨v4, M5, h16, hf⟩ := cl_inv hf
  refine x_cW C (c_L_bestWeight hN hC h16) mww_L_bestWeight ln_RL_332 (ro_law hcb (by decide) (by decide) (by decide) (by decide)) rfl rfl (Nat.le_of_ble_eq_true rfl) (dkAt dk_L_law_28 45 rfl) 2465 rfl (cb + 7) (sb + 42) rfl rfl ?_
  refine x_istore C (L1 := [some (.ref b), some (.ref (wad Γ 0)), some (.ref (wad Γ 108)), some (.ref (wad Γ 124)), some (.ref (wad Γ 125)), some (.int i), some (.int v4)]) (dkAt dk_L_law_28 46 rfl) 2467 rfl (by decide) rfl ?_
  refine x_aload_n C rfl rfl (dkAt dk_L_law_28 47 rfl) 2468 rfl ?_
  refine x_aload_n C rfl rfl (dkAt dk_L_law_29 0 rfl) 2469 rfl ?_
  refine x_iload C rfl (dkAt dk_L_law_29 1 rfl) 2471 rfl ?_
  refine x_iconst C (v := (1 : Int32)) (by decide) (dkAt dk_L_law_29 2 rfl) 2472 rfl ?_
  refine x_iadd C (dkAt dk_L_law_29 3 rfl) 2473 rfl ?_
  refine x_sld C hX (dkAt dk_L_law_29 4 rfl) 2474 rfl hf (fun v6 hf => ?_)
  refine x_aload_n C rfl rfl (dkAt dk_L_law_29 5 rfl) 2475 rfl ?_
  refine x_iload C rfl (dkAt dk_L_law_29 6 rfl) 2477 rfl ?_
  refine x_iconst C (v := (2 : Int32)) (by decide) (dkAt dk_L_law_29 7 rfl) 2478 rfl ?_
  refine x_iadd C (dkAt dk_L_law_29 8 rfl) 2479 rfl ?_
  refine x_sld C hX (dkAt dk_L_law_29 9 rfl) 2480 rfl hf (fun v7 hf => ?_)
  refine x_aload_n C rfl rfl (dkAt dk_L_law_29 10 rfl) 2481 rfl ?_
  refine x_iload C rfl (dkAt dk_L_law_29 11 rfl) 2483 rfl ?_
  refine x_iconst C (v := (3 : Int32)) (by decide) (dkAt dk_L_law_29 12 rfl) 2484 rfl ?_
  refine x_iadd C (dkAt dk_L_law_29 13 rfl) 2485 rfl ?_
  refine x_sld C hX (dkAt dk_L_law_29 14 rfl) 2486 rfl hf (fun v8 hf => ?_)
  obtain ⟨v9, M10, h15, hf⟩ := cl_inv hf
  refine x_cVi C (c_X12_bestWeight hN h15) mw_X12_bestWeight ln_RL_334 mi_X12_bestWeight (hN.rc (ci := 12) sh108 rc12) (ro_law hcb (by decide) (by decide) (by decide) (by decide)) rfl rfl (Nat.le_of_ble_eq_true rfl) (dkAt dk_L_law_29 15 rfl) 2489 rfl (cb + 7) (sb + 42) rfl rfl ?_
  refine x_istore C (L1 := [some (.ref b), some (.ref (wad Γ 0)), some (.ref (wad Γ 108)), some (.ref (wad Γ 124)), some (.ref (wad Γ 125)), some (.int i), some (.int v4), some (.int v9)]) (dkAt dk_L_law_29 16 rfl) 2491 rfl (by decide) rfl ?_
  refine x_aload_n C rfl rfl (dkAt dk_L_law_29 17 rfl) 2492 rfl ?_
  obtain ⟨v11, M12, h14, hf⟩ := cl_inv hf
  refine x_cVi C (c_X12_thrown hN h14) mw_X12_thrown ln_RL_202 mi_X12_thrown (hN.rc (ci := 12) sh108 rc12) (ro_law hcb (by decide) (by decide) (by decide) (by decide)) rfl rfl (Nat.le_of_ble_eq_true rfl) (dkAt dk_L_law_29 18 rfl) 2495 rfl (cb + 7) (sb + 42) rfl rfl ?_
  refine x_iload C rfl (dkAt dk_L_law_29 19 rfl) 2497 rfl ?_
  refine x_icmp_eq C 2502 (dkAt dk_L_law_29 20 rfl) 2500 rfl (by decide) hf (fun hf => ?_) (fun hf => ?_)
  · refine x_iload C rfl (dkAt dk_L_law_29 23 rfl) 2504 rfl ?_
    refine x_if_ne C 2519 (dkAt dk_L_law_29 24 rfl) 2507 rfl (by decide) hf (fun hf => ?_) (fun hf => ?_)
    · refine x_goto C 3578 (dkAt dk_L_law_29 34 rfl) (by decide) ?_
      exact G.weak (L := [some (.ref b), some (.ref (wad Γ 0)), some (.ref (wad Γ 108)), some (.ref (wad Γ 124)), some (.ref (wad Γ 125)), some (.int i)]) ⟨rfl, rfl, rfl, rfl, rfl, rfl, trivial⟩ (G.wide (by omega) (by omega) (hj _ hf))
    · refine x_aload_n C rfl rfl (dkAt dk_L_law_29 25 rfl) 2508 rfl ?_
      refine x_iconst C (v := (0 : Int32)) (by decide) (dkAt dk_L_law_29 26 rfl) 2509 rfl ?_
      refine x_lald C (hN.sh sh124) (dkAt dk_L_law_29 27 rfl) 2510 rfl hf (fun v13 hf => ?_)
      refine x_iload C rfl (dkAt dk_L_law_29 28 rfl) 2512 rfl ?_
      refine x_i2l C (dkAt dk_L_law_29 29 rfl) 2513 rfl ?_
      refine x_lcmp_eq C 2519 (dkAt dk_L_law_29 30 rfl) 2517 rfl (dkAt dk_L_law_29 31 rfl) (by decide) hf (fun hf => ?_) (fun hf => ?_)
      · refine x_goto C 3578 (dkAt dk_L_law_29 34 rfl) (by decide) ?_
        exact G.weak (L := [some (.ref b), some (.ref (wad Γ 0)), some (.ref (wad Γ 108)), some (.ref (wad Γ 124)), some (.ref (wad Γ 125)), some (.int i)]) ⟨rfl, rfl, rfl, rfl, rfl, rfl, trivial⟩ (G.wide (by omega) (by omega) (hj _ hf))
      · refine x_iconst C (v := (0 : Int32)) (by decide) (dkAt dk_L_law_29 32 rfl) 2518 rfl ?_
        exact nomatch hf
  · refine x_iconst C (v := (0 : Int32)) (by decide) (dkAt dk_L_law_29 21 rfl) 2501 rfl ?_
    exact nomatch hf
def f_law_42 (Z L : Nat) (xs : Nat → Int32) (M : Mem) (i : Int32) (j : Mem → Option Unit) : Option Unit :=
  cl (f_L_seed Z M) (fun v1 M2 => cl (f_X12_seed Z M2) (fun v3 M4 => cl (f_X12_thrown Z M4) (fun v5 M6 => (if v5 = v1 then (if v1 = 0 then rdL M6 124 1 (0 : Int32) (fun v7 => (if v7 = v3.toInt64 then j M6 else none)) else j M6) else none))))
set_option maxRecDepth 100000 in
theorem c_law_42 {Γ : WC} {X : MX} (hN : HN Γ) (hC : NC Γ) (C : CX Γ X cL_law 9 RL (some .boolean) room_1) {Z b L cb sb : Nat} {xs : Nat → Int32} (hX : SX Γ X b L xs) (hcb : cb + 8 ≤ 601024 ∧ sb + 48 ≤ 7293034) {M : Mem} {i : Int32} {j : Mem → Option Unit} {rM : Unit} (hj : ∀ M1, j M1 = some rM → G Γ X M1 (cb + 8) (sb + 48) [some (.ref b), some (.ref (wad Γ 0)), some (.ref (wad Γ 108)), some (.ref (wad Γ 124)), some (.ref (wad Γ 125)), some (.int i)] [] 3578) (hf : f_law_42 Z L xs M i j = some rM) : G Γ X M cb sb [some (.ref b), some (.ref (wad Γ 0)), some (.ref (wad Γ 108)), some (.ref (wad Γ 124)), some (.ref (wad Γ 125)), some (.int i)] [] 2522 := by
  change G Γ X M (cb + 0) (sb + 0) _ _ _
  unfold f_law_42 at hf
  refine x_aload_n C rfl rfl (dkAt dk_L_law_29 35 rfl) 2523 rfl ?_
  refine x_aload_n C rfl rfl (dkAt dk_L_law_29 36 rfl) 2524 rfl ?_
  obtain ⟨v1, M2, h10, hf⟩ := cl_inv hf
  refine x_cW C (c_L_seed hN hC h10) mww_L_seed ln_RL_335 (ro_law hcb (by decide) (by decide) (by decide) (by decide)) rfl rfl (Nat.le_of_ble_eq_true rfl) (dkAt dk_L_law_29 37 rfl) 2527 rfl (cb + 1) (sb + 6) rfl rfl ?_
  refine x_istore C (L1 := [some (.ref b), some (.ref (wad Γ 0)), some (.ref (wad Γ 108)), some (.ref (wad Γ 124)), some (.ref (wad Γ 125)), some (.int i), some (.int v1)]) (dkAt dk_L_law_29 38 rfl) 2529 rfl (by decide) rfl ?_
  refine x_aload_n C rfl rfl (dkAt dk_L_law_29 39 rfl) 2530 rfl ?_
  obtain ⟨v3, M4, h9, hf⟩ := cl_inv hf
  refine x_cVi C (c_X12_seed hN h9) mw_X12_seed ln_RL_337 mi_X12_seed (hN.rc (ci := 12) sh108 rc12) (ro_law hcb (by decide) (by decide) (by decide) (by decide)) rfl rfl (Nat.le_of_ble_eq_true rfl) (dkAt dk_L_law_29 40 rfl) 2533 rfl (cb + 1) (sb + 6) rfl rfl ?_
  refine x_istore C (L1 := [some (.ref b), some (.ref (wad Γ 0)), some (.ref (wad Γ 108)), some (.ref (wad Γ 124)), some (.ref (wad Γ 125)), some (.int i), some (.int v1), some (.int v3)]) (dkAt dk_L_law_29 41 rfl) 2535 rfl (by decide) rfl ?_
  refine x_aload_n C rfl rfl (dkAt dk_L_law_29 42 rfl) 2536 rfl ?_
  obtain ⟨v5, M6, h8, hf⟩ := cl_inv hf
  refine x_cVi C (c_X12_thrown hN h8) mw_X12_thrown ln_RL_202 mi_X12_thrown (hN.rc (ci := 12) sh108 rc12) (ro_law hcb (by decide) (by decide) (by decide) (by decide)) rfl rfl (Nat.le_of_ble_eq_true rfl) (dkAt dk_L_law_29 43 rfl) 2539 rfl (cb + 1) (sb + 6) rfl rfl ?_
  refine x_iload C rfl (dkAt dk_L_law_29 44 rfl) 2541 rfl ?_
  refine x_icmp_eq C 2546 (dkAt dk_L_law_29 45 rfl) 2544 rfl (by decide) hf (fun hf => ?_) (fun hf => ?_)
  · refine x_iload C rfl (dkAt dk_L_law_30 0 rfl) 2548 rfl ?_
    refine x_if_ne C 2563 (dkAt dk_L_law_30 1 rfl) 2551 rfl (by decide) hf (fun hf => ?_) (fun hf => ?_)
    · refine x_goto C 3578 (dkAt dk_L_law_30 11 rfl) (by decide) ?_
      exact G.weak (L := [some (.ref b), some (.ref (wad Γ 0)), some (.ref (wad Γ 108)), some (.ref (wad Γ 124)), some (.ref (wad Γ 125)), some (.int i)]) ⟨rfl, rfl, rfl, rfl, rfl, rfl, trivial⟩ (G.wide (by omega) (by omega) (hj _ hf))
    · refine x_aload_n C rfl rfl (dkAt dk_L_law_30 2 rfl) 2552 rfl ?_
      refine x_iconst C (v := (0 : Int32)) (by decide) (dkAt dk_L_law_30 3 rfl) 2553 rfl ?_
      refine x_lald C (hN.sh sh124) (dkAt dk_L_law_30 4 rfl) 2554 rfl hf (fun v7 hf => ?_)
      refine x_iload C rfl (dkAt dk_L_law_30 5 rfl) 2556 rfl ?_
      refine x_i2l C (dkAt dk_L_law_30 6 rfl) 2557 rfl ?_
      refine x_lcmp_eq C 2563 (dkAt dk_L_law_30 7 rfl) 2561 rfl (dkAt dk_L_law_30 8 rfl) (by decide) hf (fun hf => ?_) (fun hf => ?_)
      · refine x_goto C 3578 (dkAt dk_L_law_30 11 rfl) (by decide) ?_
        exact G.weak (L := [some (.ref b), some (.ref (wad Γ 0)), some (.ref (wad Γ 108)), some (.ref (wad Γ 124)), some (.ref (wad Γ 125)), some (.int i)]) ⟨rfl, rfl, rfl, rfl, rfl, rfl, trivial⟩ (G.wide (by omega) (by omega) (hj _ hf))
      · refine x_iconst C (v := (0 : Int32)) (by decide) (dkAt dk_L_law_30 9 rfl) 2562 rfl ?_
        exact nomatch hf
  · refine x_iconst C (v := (0 : Int32)) (by decide) (dkAt dk_L_law_29 46 rfl) 2545 rfl ?_
    exact nomatch hf
def f_law_43 (Z L : Nat) (xs : Nat → Int32) (M : Mem) (i : Int32) (j : Mem → Option Unit) : Option Unit :=
  rdX xs L (i + (1 : Int32)) (fun v1 => cl (f_L_walked Z M v1) (fun v2 M3 => rdX xs L (i + (1 : Int32)) (fun v4 => cl (f_X12_walked Z M3 v4) (fun v5 M6 => cl (f_X12_thrown Z M6) (fun v7 M8 => (if v7 = v2 then (if v2 = 0 then rdL M8 124 1 (0 : Int32) (fun v9 => (if v9 = v5.toInt64 then j M8 else none)) else j M8) else none))))))
set_option maxRecDepth 100000 in
theorem c_law_43 {Γ : WC} {X : MX} (hN : HN Γ) (hC : NC Γ) (C : CX Γ X cL_law 9 RL (some .boolean) room_1) {Z b L cb sb : Nat} {xs : Nat → Int32} (hX : SX Γ X b L xs) (hcb : cb + 8 ≤ 601024 ∧ sb + 48 ≤ 7293034) {M : Mem} {i : Int32} {j : Mem → Option Unit} {rM : Unit} (hj : ∀ M1, j M1 = some rM → G Γ X M1 (cb + 8) (sb + 48) [some (.ref b), some (.ref (wad Γ 0)), some (.ref (wad Γ 108)), some (.ref (wad Γ 124)), some (.ref (wad Γ 125)), some (.int i)] [] 3578) (hf : f_law_43 Z L xs M i j = some rM) : G Γ X M cb sb [some (.ref b), some (.ref (wad Γ 0)), some (.ref (wad Γ 108)), some (.ref (wad Γ 124)), some (.ref (wad Γ 125)), some (.int i)] [] 2566 := by
  change G Γ X M (cb + 0) (sb + 0) _ _ _
  unfold f_law_43 at hf
  refine x_aload_n C rfl rfl (dkAt dk_L_law_30 12 rfl) 2567 rfl ?_
  refine x_aload_n C rfl rfl (dkAt dk_L_law_30 13 rfl) 2568 rfl ?_
  refine x_iload C rfl (dkAt dk_L_law_30 14 rfl) 2570 rfl ?_
  refine x_iconst C (v := (1 : Int32)) (by decide) (dkAt dk_L_law_30 15 rfl) 2571 rfl ?_
  refine x_iadd C (dkAt dk_L_law_30 16 rfl) 2572 rfl ?_
  refine x_sld C hX (dkAt dk_L_law_30 17 rfl) 2573 rfl hf (fun v1 hf => ?_)
  refine x_aload_n C rfl rfl (dkAt dk_L_law_30 18 rfl) 2574 rfl ?_
  obtain ⟨v2, M3, h12, hf⟩ := cl_inv hf
  refine x_cW C (c_L_walked hN hC h12) mww_L_walked ln_RL_338 (ro_law hcb (by decide) (by decide) (by decide) (by decide)) rfl rfl (Nat.le_of_ble_eq_true rfl) (dkAt dk_L_law_30 19 rfl) 2577 rfl (cb + 3) (sb + 18) rfl rfl ?_
  refine x_istore C (L1 := [some (.ref b), some (.ref (wad Γ 0)), some (.ref (wad Γ 108)), some (.ref (wad Γ 124)), some (.ref (wad Γ 125)), some (.int i), some (.int v2)]) (dkAt dk_L_law_30 20 rfl) 2579 rfl (by decide) rfl ?_
  refine x_aload_n C rfl rfl (dkAt dk_L_law_30 21 rfl) 2580 rfl ?_
  refine x_aload_n C rfl rfl (dkAt dk_L_law_30 22 rfl) 2581 rfl ?_
  refine x_iload C rfl (dkAt dk_L_law_30 23 rfl) 2583 rfl ?_
  refine x_iconst C (v := (1 : Int32)) (by decide) (dkAt dk_L_law_30 24 rfl) 2584 rfl ?_
  refine x_iadd C (dkAt dk_L_law_30 25 rfl) 2585 rfl ?_
  refine x_sld C hX (dkAt dk_L_law_30 26 rfl) 2586 rfl hf (fun v4 hf => ?_)
  obtain ⟨v5, M6, h11, hf⟩ := cl_inv hf
  refine x_cVi C (c_X12_walked hN h11) mw_X12_walked ln_RL_340 mi_X12_walked (hN.rc (ci := 12) sh108 rc12) (ro_law hcb (by decide) (by decide) (by decide) (by decide)) rfl rfl (Nat.le_of_ble_eq_true rfl) (dkAt dk_L_law_30 27 rfl) 2589 rfl (cb + 3) (sb + 18) rfl rfl ?_
  refine x_istore C (L1 := [some (.ref b), some (.ref (wad Γ 0)), some (.ref (wad Γ 108)), some (.ref (wad Γ 124)), some (.ref (wad Γ 125)), some (.int i), some (.int v2), some (.int v5)]) (dkAt dk_L_law_30 28 rfl) 2591 rfl (by decide) rfl ?_
  refine x_aload_n C rfl rfl (dkAt dk_L_law_30 29 rfl) 2592 rfl ?_
  obtain ⟨v7, M8, h10, hf⟩ := cl_inv hf
  refine x_cVi C (c_X12_thrown hN h10) mw_X12_thrown ln_RL_202 mi_X12_thrown (hN.rc (ci := 12) sh108 rc12) (ro_law hcb (by decide) (by decide) (by decide) (by decide)) rfl rfl (Nat.le_of_ble_eq_true rfl) (dkAt dk_L_law_30 30 rfl) 2595 rfl (cb + 3) (sb + 18) rfl rfl ?_
  refine x_iload C rfl (dkAt dk_L_law_30 31 rfl) 2597 rfl ?_
  refine x_icmp_eq C 2602 (dkAt dk_L_law_30 32 rfl) 2600 rfl (by decide) hf (fun hf => ?_) (fun hf => ?_)
  · refine x_iload C rfl (dkAt dk_L_law_30 35 rfl) 2604 rfl ?_
    refine x_if_ne C 2619 (dkAt dk_L_law_30 36 rfl) 2607 rfl (by decide) hf (fun hf => ?_) (fun hf => ?_)
    · refine x_goto C 3578 (dkAt dk_L_law_30 46 rfl) (by decide) ?_
      exact G.weak (L := [some (.ref b), some (.ref (wad Γ 0)), some (.ref (wad Γ 108)), some (.ref (wad Γ 124)), some (.ref (wad Γ 125)), some (.int i)]) ⟨rfl, rfl, rfl, rfl, rfl, rfl, trivial⟩ (G.wide (by omega) (by omega) (hj _ hf))
    · refine x_aload_n C rfl rfl (dkAt dk_L_law_30 37 rfl) 2608 rfl ?_
      refine x_iconst C (v := (0 : Int32)) (by decide) (dkAt dk_L_law_30 38 rfl) 2609 rfl ?_
      refine x_lald C (hN.sh sh124) (dkAt dk_L_law_30 39 rfl) 2610 rfl hf (fun v9 hf => ?_)
      refine x_iload C rfl (dkAt dk_L_law_30 40 rfl) 2612 rfl ?_
      refine x_i2l C (dkAt dk_L_law_30 41 rfl) 2613 rfl ?_
      refine x_lcmp_eq C 2619 (dkAt dk_L_law_30 42 rfl) 2617 rfl (dkAt dk_L_law_30 43 rfl) (by decide) hf (fun hf => ?_) (fun hf => ?_)
      · refine x_goto C 3578 (dkAt dk_L_law_30 46 rfl) (by decide) ?_
        exact G.weak (L := [some (.ref b), some (.ref (wad Γ 0)), some (.ref (wad Γ 108)), some (.ref (wad Γ 124)), some (.ref (wad Γ 125)), some (.int i)]) ⟨rfl, rfl, rfl, rfl, rfl, rfl, trivial⟩ (G.wide (by omega) (by omega) (hj _ hf))
      · refine x_iconst C (v := (0 : Int32)) (by decide) (dkAt dk_L_law_30 44 rfl) 2618 rfl ?_
        exact nomatch hf
  · refine x_iconst C (v := (0 : Int32)) (by decide) (dkAt dk_L_law_30 33 rfl) 2601 rfl ?_
    exact nomatch hf
def f_law_44 (Z L : Nat) (xs : Nat → Int32) (M : Mem) (i : Int32) (j : Mem → Option Unit) : Option Unit :=
  rdX xs L (i + (1 : Int32)) (fun v1 => cl (f_L_walkedBy Z M v1) (fun v2 M3 => rdX xs L (i + (1 : Int32)) (fun v4 => cl (f_X12_walkedBy Z M3 v4) (fun v5 M6 => cl (f_X12_thrown Z M6) (fun v7 M8 => (if v7 = v2 then (if v2 = 0 then rdL M8 124 1 (0 : Int32) (fun v9 => (if v9 = v5.toInt64 then j M8 else none)) else j M8) else none))))))
set_option maxRecDepth 100000 in
theorem c_law_44 {Γ : WC} {X : MX} (hN : HN Γ) (hC : NC Γ) (C : CX Γ X cL_law 9 RL (some .boolean) room_1) {Z b L cb sb : Nat} {xs : Nat → Int32} (hX : SX Γ X b L xs) (hcb : cb + 8 ≤ 601024 ∧ sb + 48 ≤ 7293034) {M : Mem} {i : Int32} {j : Mem → Option Unit} {rM : Unit} (hj : ∀ M1, j M1 = some rM → G Γ X M1 (cb + 8) (sb + 48) [some (.ref b), some (.ref (wad Γ 0)), some (.ref (wad Γ 108)), some (.ref (wad Γ 124)), some (.ref (wad Γ 125)), some (.int i)] [] 3578) (hf : f_law_44 Z L xs M i j = some rM) : G Γ X M cb sb [some (.ref b), some (.ref (wad Γ 0)), some (.ref (wad Γ 108)), some (.ref (wad Γ 124)), some (.ref (wad Γ 125)), some (.int i)] [] 2622 := by
  change G Γ X M (cb + 0) (sb + 0) _ _ _
  unfold f_law_44 at hf
  refine x_aload_n C rfl rfl (dkAt dk_L_law_30 47 rfl) 2623 rfl ?_
  refine x_aload_n C rfl rfl (dkAt dk_L_law_31 0 rfl) 2624 rfl ?_
  refine x_iload C rfl (dkAt dk_L_law_31 1 rfl) 2626 rfl ?_
  refine x_iconst C (v := (1 : Int32)) (by decide) (dkAt dk_L_law_31 2 rfl) 2627 rfl ?_
  refine x_iadd C (dkAt dk_L_law_31 3 rfl) 2628 rfl ?_
  refine x_sld C hX (dkAt dk_L_law_31 4 rfl) 2629 rfl hf (fun v1 hf => ?_)
  refine x_aload_n C rfl rfl (dkAt dk_L_law_31 5 rfl) 2630 rfl ?_
  obtain ⟨v2, M3, h12, hf⟩ := cl_inv hf
  refine x_cW C (c_L_walkedBy hN hC h12) mww_L_walkedBy ln_RL_341 (ro_law hcb (by decide) (by decide) (by decide) (by decide)) rfl rfl (Nat.le_of_ble_eq_true rfl) (dkAt dk_L_law_31 6 rfl) 2633 rfl (cb + 3) (sb + 18) rfl rfl ?_
  refine x_istore C (L1 := [some (.ref b), some (.ref (wad Γ 0)), some (.ref (wad Γ 108)), some (.ref (wad Γ 124)), some (.ref (wad Γ 125)), some (.int i), some (.int v2)]) (dkAt dk_L_law_31 7 rfl) 2635 rfl (by decide) rfl ?_
  refine x_aload_n C rfl rfl (dkAt dk_L_law_31 8 rfl) 2636 rfl ?_
  refine x_aload_n C rfl rfl (dkAt dk_L_law_31 9 rfl) 2637 rfl ?_
  refine x_iload C rfl (dkAt dk_L_law_31 10 rfl) 2639 rfl ?_
  refine x_iconst C (v := (1 : Int32)) (by decide) (dkAt dk_L_law_31 11 rfl) 2640 rfl ?_
  refine x_iadd C (dkAt dk_L_law_31 12 rfl) 2641 rfl ?_
  refine x_sld C hX (dkAt dk_L_law_31 13 rfl) 2642 rfl hf (fun v4 hf => ?_)
  obtain ⟨v5, M6, h11, hf⟩ := cl_inv hf
  refine x_cVi C (c_X12_walkedBy hN h11) mw_X12_walkedBy ln_RL_343 mi_X12_walkedBy (hN.rc (ci := 12) sh108 rc12) (ro_law hcb (by decide) (by decide) (by decide) (by decide)) rfl rfl (Nat.le_of_ble_eq_true rfl) (dkAt dk_L_law_31 14 rfl) 2645 rfl (cb + 3) (sb + 18) rfl rfl ?_
  refine x_istore C (L1 := [some (.ref b), some (.ref (wad Γ 0)), some (.ref (wad Γ 108)), some (.ref (wad Γ 124)), some (.ref (wad Γ 125)), some (.int i), some (.int v2), some (.int v5)]) (dkAt dk_L_law_31 15 rfl) 2647 rfl (by decide) rfl ?_
  refine x_aload_n C rfl rfl (dkAt dk_L_law_31 16 rfl) 2648 rfl ?_
  obtain ⟨v7, M8, h10, hf⟩ := cl_inv hf
  refine x_cVi C (c_X12_thrown hN h10) mw_X12_thrown ln_RL_202 mi_X12_thrown (hN.rc (ci := 12) sh108 rc12) (ro_law hcb (by decide) (by decide) (by decide) (by decide)) rfl rfl (Nat.le_of_ble_eq_true rfl) (dkAt dk_L_law_31 17 rfl) 2651 rfl (cb + 3) (sb + 18) rfl rfl ?_
  refine x_iload C rfl (dkAt dk_L_law_31 18 rfl) 2653 rfl ?_
  refine x_icmp_eq C 2658 (dkAt dk_L_law_31 19 rfl) 2656 rfl (by decide) hf (fun hf => ?_) (fun hf => ?_)
  · refine x_iload C rfl (dkAt dk_L_law_31 22 rfl) 2660 rfl ?_
    refine x_if_ne C 2675 (dkAt dk_L_law_31 23 rfl) 2663 rfl (by decide) hf (fun hf => ?_) (fun hf => ?_)
    · refine x_goto C 3578 (dkAt dk_L_law_31 33 rfl) (by decide) ?_
      exact G.weak (L := [some (.ref b), some (.ref (wad Γ 0)), some (.ref (wad Γ 108)), some (.ref (wad Γ 124)), some (.ref (wad Γ 125)), some (.int i)]) ⟨rfl, rfl, rfl, rfl, rfl, rfl, trivial⟩ (G.wide (by omega) (by omega) (hj _ hf))
    · refine x_aload_n C rfl rfl (dkAt dk_L_law_31 24 rfl) 2664 rfl ?_
      refine x_iconst C (v := (0 : Int32)) (by decide) (dkAt dk_L_law_31 25 rfl) 2665 rfl ?_
      refine x_lald C (hN.sh sh124) (dkAt dk_L_law_31 26 rfl) 2666 rfl hf (fun v9 hf => ?_)
      refine x_iload C rfl (dkAt dk_L_law_31 27 rfl) 2668 rfl ?_
      refine x_i2l C (dkAt dk_L_law_31 28 rfl) 2669 rfl ?_
      refine x_lcmp_eq C 2675 (dkAt dk_L_law_31 29 rfl) 2673 rfl (dkAt dk_L_law_31 30 rfl) (by decide) hf (fun hf => ?_) (fun hf => ?_)
      · refine x_goto C 3578 (dkAt dk_L_law_31 33 rfl) (by decide) ?_
        exact G.weak (L := [some (.ref b), some (.ref (wad Γ 0)), some (.ref (wad Γ 108)), some (.ref (wad Γ 124)), some (.ref (wad Γ 125)), some (.int i)]) ⟨rfl, rfl, rfl, rfl, rfl, rfl, trivial⟩ (G.wide (by omega) (by omega) (hj _ hf))
      · refine x_iconst C (v := (0 : Int32)) (by decide) (dkAt dk_L_law_31 31 rfl) 2674 rfl ?_
        exact nomatch hf
  · refine x_iconst C (v := (0 : Int32)) (by decide) (dkAt dk_L_law_31 20 rfl) 2657 rfl ?_
    exact nomatch hf
def f_law_45 (Z L : Nat) (xs : Nat → Int32) (M : Mem) (i : Int32) (j : Mem → Option Unit) : Option Unit :=
  cl (f_L_walkGain Z M) (fun v1 M2 => cl (f_X12_walkGain Z M2) (fun v3 M4 => cl (f_X12_thrown Z M4) (fun v5 M6 => (if v5 = v1 then (if v1 = 0 then rdL M6 124 1 (0 : Int32) (fun v7 => (if v7 = v3.toInt64 then j M6 else none)) else j M6) else none))))
set_option maxRecDepth 100000 in
theorem c_law_45 {Γ : WC} {X : MX} (hN : HN Γ) (hC : NC Γ) (C : CX Γ X cL_law 9 RL (some .boolean) room_1) {Z b L cb sb : Nat} {xs : Nat → Int32} (hX : SX Γ X b L xs) (hcb : cb + 8 ≤ 601024 ∧ sb + 48 ≤ 7293034) {M : Mem} {i : Int32} {j : Mem → Option Unit} {rM : Unit} (hj : ∀ M1, j M1 = some rM → G Γ X M1 (cb + 8) (sb + 48) [some (.ref b), some (.ref (wad Γ 0)), some (.ref (wad Γ 108)), some (.ref (wad Γ 124)), some (.ref (wad Γ 125)), some (.int i)] [] 3578) (hf : f_law_45 Z L xs M i j = some rM) : G Γ X M cb sb [some (.ref b), some (.ref (wad Γ 0)), some (.ref (wad Γ 108)), some (.ref (wad Γ 124)), some (.ref (wad Γ 125)), some (.int i)] [] 2678 := by
  change G Γ X M (cb + 0) (sb + 0) _ _ _
  unfold f_law_45 at hf
  refine x_aload_n C rfl rfl (dkAt dk_L_law_31 34 rfl) 2679 rfl ?_
  refine x_aload_n C rfl rfl (dkAt dk_L_law_31 35 rfl) 2680 rfl ?_
  obtain ⟨v1, M2, h10, hf⟩ := cl_inv hf
  refine x_cW C (c_L_walkGain hN hC h10) mww_L_walkGain ln_RL_344 (ro_law hcb (by decide) (by decide) (by decide) (by decide)) rfl rfl (Nat.le_of_ble_eq_true rfl) (dkAt dk_L_law_31 36 rfl) 2683 rfl (cb + 2) (sb + 12) rfl rfl ?_
  refine x_istore C (L1 := [some (.ref b), some (.ref (wad Γ 0)), some (.ref (wad Γ 108)), some (.ref (wad Γ 124)), some (.ref (wad Γ 125)), some (.int i), some (.int v1)]) (dkAt dk_L_law_31 37 rfl) 2685 rfl (by decide) rfl ?_
  refine x_aload_n C rfl rfl (dkAt dk_L_law_31 38 rfl) 2686 rfl ?_
  obtain ⟨v3, M4, h9, hf⟩ := cl_inv hf
  refine x_cVi C (c_X12_walkGain hN h9) mw_X12_walkGain ln_RL_346 mi_X12_walkGain (hN.rc (ci := 12) sh108 rc12) (ro_law hcb (by decide) (by decide) (by decide) (by decide)) rfl rfl (Nat.le_of_ble_eq_true rfl) (dkAt dk_L_law_31 39 rfl) 2689 rfl (cb + 2) (sb + 12) rfl rfl ?_
  refine x_istore C (L1 := [some (.ref b), some (.ref (wad Γ 0)), some (.ref (wad Γ 108)), some (.ref (wad Γ 124)), some (.ref (wad Γ 125)), some (.int i), some (.int v1), some (.int v3)]) (dkAt dk_L_law_31 40 rfl) 2691 rfl (by decide) rfl ?_
  refine x_aload_n C rfl rfl (dkAt dk_L_law_31 41 rfl) 2692 rfl ?_
  obtain ⟨v5, M6, h8, hf⟩ := cl_inv hf
  refine x_cVi C (c_X12_thrown hN h8) mw_X12_thrown ln_RL_202 mi_X12_thrown (hN.rc (ci := 12) sh108 rc12) (ro_law hcb (by decide) (by decide) (by decide) (by decide)) rfl rfl (Nat.le_of_ble_eq_true rfl) (dkAt dk_L_law_31 42 rfl) 2695 rfl (cb + 2) (sb + 12) rfl rfl ?_
  refine x_iload C rfl (dkAt dk_L_law_31 43 rfl) 2697 rfl ?_
  refine x_icmp_eq C 2702 (dkAt dk_L_law_31 44 rfl) 2700 rfl (by decide) hf (fun hf => ?_) (fun hf => ?_)
  · refine x_iload C rfl (dkAt dk_L_law_31 47 rfl) 2704 rfl ?_
    refine x_if_ne C 2719 (dkAt dk_L_law_32 0 rfl) 2707 rfl (by decide) hf (fun hf => ?_) (fun hf => ?_)
    · refine x_goto C 3578 (dkAt dk_L_law_32 10 rfl) (by decide) ?_
      exact G.weak (L := [some (.ref b), some (.ref (wad Γ 0)), some (.ref (wad Γ 108)), some (.ref (wad Γ 124)), some (.ref (wad Γ 125)), some (.int i)]) ⟨rfl, rfl, rfl, rfl, rfl, rfl, trivial⟩ (G.wide (by omega) (by omega) (hj _ hf))
    · refine x_aload_n C rfl rfl (dkAt dk_L_law_32 1 rfl) 2708 rfl ?_
      refine x_iconst C (v := (0 : Int32)) (by decide) (dkAt dk_L_law_32 2 rfl) 2709 rfl ?_
      refine x_lald C (hN.sh sh124) (dkAt dk_L_law_32 3 rfl) 2710 rfl hf (fun v7 hf => ?_)
      refine x_iload C rfl (dkAt dk_L_law_32 4 rfl) 2712 rfl ?_
      refine x_i2l C (dkAt dk_L_law_32 5 rfl) 2713 rfl ?_
      refine x_lcmp_eq C 2719 (dkAt dk_L_law_32 6 rfl) 2717 rfl (dkAt dk_L_law_32 7 rfl) (by decide) hf (fun hf => ?_) (fun hf => ?_)
      · refine x_goto C 3578 (dkAt dk_L_law_32 10 rfl) (by decide) ?_
        exact G.weak (L := [some (.ref b), some (.ref (wad Γ 0)), some (.ref (wad Γ 108)), some (.ref (wad Γ 124)), some (.ref (wad Γ 125)), some (.int i)]) ⟨rfl, rfl, rfl, rfl, rfl, rfl, trivial⟩ (G.wide (by omega) (by omega) (hj _ hf))
      · refine x_iconst C (v := (0 : Int32)) (by decide) (dkAt dk_L_law_32 8 rfl) 2718 rfl ?_
        exact nomatch hf
  · refine x_iconst C (v := (0 : Int32)) (by decide) (dkAt dk_L_law_31 45 rfl) 2701 rfl ?_
    exact nomatch hf
def f_law_46 (Z L : Nat) (xs : Nat → Int32) (M : Mem) (i : Int32) (j : Mem → Option Unit) : Option Unit :=
  rdX xs L (i + (1 : Int32)) (fun v1 => cl (f_L_walkUsed Z M v1) (fun v2 M3 => rdX xs L (i + (1 : Int32)) (fun v4 => cl (f_X12_walkUsed Z M3 v4) (fun v5 M6 => cl (f_X12_thrown Z M6) (fun v7 M8 => (if v7 = v2 then (if v2 = 0 then rdL M8 124 1 (0 : Int32) (fun v9 => (if v9 = v5.toInt64 then j M8 else none)) else j M8) else none))))))
set_option maxRecDepth 100000 in
theorem c_law_46 {Γ : WC} {X : MX} (hN : HN Γ) (hC : NC Γ) (C : CX Γ X cL_law 9 RL (some .boolean) room_1) {Z b L cb sb : Nat} {xs : Nat → Int32} (hX : SX Γ X b L xs) (hcb : cb + 8 ≤ 601024 ∧ sb + 48 ≤ 7293034) {M : Mem} {i : Int32} {j : Mem → Option Unit} {rM : Unit} (hj : ∀ M1, j M1 = some rM → G Γ X M1 (cb + 8) (sb + 48) [some (.ref b), some (.ref (wad Γ 0)), some (.ref (wad Γ 108)), some (.ref (wad Γ 124)), some (.ref (wad Γ 125)), some (.int i)] [] 3578) (hf : f_law_46 Z L xs M i j = some rM) : G Γ X M cb sb [some (.ref b), some (.ref (wad Γ 0)), some (.ref (wad Γ 108)), some (.ref (wad Γ 124)), some (.ref (wad Γ 125)), some (.int i)] [] 2722 := by
  change G Γ X M (cb + 0) (sb + 0) _ _ _
  unfold f_law_46 at hf
  refine x_aload_n C rfl rfl (dkAt dk_L_law_32 11 rfl) 2723 rfl ?_
  refine x_aload_n C rfl rfl (dkAt dk_L_law_32 12 rfl) 2724 rfl ?_
  refine x_iload C rfl (dkAt dk_L_law_32 13 rfl) 2726 rfl ?_
  refine x_iconst C (v := (1 : Int32)) (by decide) (dkAt dk_L_law_32 14 rfl) 2727 rfl ?_
  refine x_iadd C (dkAt dk_L_law_32 15 rfl) 2728 rfl ?_
  refine x_sld C hX (dkAt dk_L_law_32 16 rfl) 2729 rfl hf (fun v1 hf => ?_)
  refine x_aload_n C rfl rfl (dkAt dk_L_law_32 17 rfl) 2730 rfl ?_
  obtain ⟨v2, M3, h12, hf⟩ := cl_inv hf
  refine x_cW C (c_L_walkUsed hN hC h12) mww_L_walkUsed ln_RL_347 (ro_law hcb (by decide) (by decide) (by decide) (by decide)) rfl rfl (Nat.le_of_ble_eq_true rfl) (dkAt dk_L_law_32 18 rfl) 2733 rfl (cb + 4) (sb + 24) rfl rfl ?_
  refine x_istore C (L1 := [some (.ref b), some (.ref (wad Γ 0)), some (.ref (wad Γ 108)), some (.ref (wad Γ 124)), some (.ref (wad Γ 125)), some (.int i), some (.int v2)]) (dkAt dk_L_law_32 19 rfl) 2735 rfl (by decide) rfl ?_
  refine x_aload_n C rfl rfl (dkAt dk_L_law_32 20 rfl) 2736 rfl ?_
  refine x_aload_n C rfl rfl (dkAt dk_L_law_32 21 rfl) 2737 rfl ?_
  refine x_iload C rfl (dkAt dk_L_law_32 22 rfl) 2739 rfl ?_
  refine x_iconst C (v := (1 : Int32)) (by decide) (dkAt dk_L_law_32 23 rfl) 2740 rfl ?_
  refine x_iadd C (dkAt dk_L_law_32 24 rfl) 2741 rfl ?_
  refine x_sld C hX (dkAt dk_L_law_32 25 rfl) 2742 rfl hf (fun v4 hf => ?_)
  obtain ⟨v5, M6, h11, hf⟩ := cl_inv hf
  refine x_cVi C (c_X12_walkUsed hN h11) mw_X12_walkUsed ln_RL_349 mi_X12_walkUsed (hN.rc (ci := 12) sh108 rc12) (ro_law hcb (by decide) (by decide) (by decide) (by decide)) rfl rfl (Nat.le_of_ble_eq_true rfl) (dkAt dk_L_law_32 26 rfl) 2745 rfl (cb + 4) (sb + 24) rfl rfl ?_
  refine x_istore C (L1 := [some (.ref b), some (.ref (wad Γ 0)), some (.ref (wad Γ 108)), some (.ref (wad Γ 124)), some (.ref (wad Γ 125)), some (.int i), some (.int v2), some (.int v5)]) (dkAt dk_L_law_32 27 rfl) 2747 rfl (by decide) rfl ?_
  refine x_aload_n C rfl rfl (dkAt dk_L_law_32 28 rfl) 2748 rfl ?_
  obtain ⟨v7, M8, h10, hf⟩ := cl_inv hf
  refine x_cVi C (c_X12_thrown hN h10) mw_X12_thrown ln_RL_202 mi_X12_thrown (hN.rc (ci := 12) sh108 rc12) (ro_law hcb (by decide) (by decide) (by decide) (by decide)) rfl rfl (Nat.le_of_ble_eq_true rfl) (dkAt dk_L_law_32 29 rfl) 2751 rfl (cb + 4) (sb + 24) rfl rfl ?_
  refine x_iload C rfl (dkAt dk_L_law_32 30 rfl) 2753 rfl ?_
  refine x_icmp_eq C 2758 (dkAt dk_L_law_32 31 rfl) 2756 rfl (by decide) hf (fun hf => ?_) (fun hf => ?_)
  · refine x_iload C rfl (dkAt dk_L_law_32 34 rfl) 2760 rfl ?_
    refine x_if_ne C 2775 (dkAt dk_L_law_32 35 rfl) 2763 rfl (by decide) hf (fun hf => ?_) (fun hf => ?_)
    · refine x_goto C 3578 (dkAt dk_L_law_32 45 rfl) (by decide) ?_
      exact G.weak (L := [some (.ref b), some (.ref (wad Γ 0)), some (.ref (wad Γ 108)), some (.ref (wad Γ 124)), some (.ref (wad Γ 125)), some (.int i)]) ⟨rfl, rfl, rfl, rfl, rfl, rfl, trivial⟩ (G.wide (by omega) (by omega) (hj _ hf))
    · refine x_aload_n C rfl rfl (dkAt dk_L_law_32 36 rfl) 2764 rfl ?_
      refine x_iconst C (v := (0 : Int32)) (by decide) (dkAt dk_L_law_32 37 rfl) 2765 rfl ?_
      refine x_lald C (hN.sh sh124) (dkAt dk_L_law_32 38 rfl) 2766 rfl hf (fun v9 hf => ?_)
      refine x_iload C rfl (dkAt dk_L_law_32 39 rfl) 2768 rfl ?_
      refine x_i2l C (dkAt dk_L_law_32 40 rfl) 2769 rfl ?_
      refine x_lcmp_eq C 2775 (dkAt dk_L_law_32 41 rfl) 2773 rfl (dkAt dk_L_law_32 42 rfl) (by decide) hf (fun hf => ?_) (fun hf => ?_)
      · refine x_goto C 3578 (dkAt dk_L_law_32 45 rfl) (by decide) ?_
        exact G.weak (L := [some (.ref b), some (.ref (wad Γ 0)), some (.ref (wad Γ 108)), some (.ref (wad Γ 124)), some (.ref (wad Γ 125)), some (.int i)]) ⟨rfl, rfl, rfl, rfl, rfl, rfl, trivial⟩ (G.wide (by omega) (by omega) (hj _ hf))
      · refine x_iconst C (v := (0 : Int32)) (by decide) (dkAt dk_L_law_32 43 rfl) 2774 rfl ?_
        exact nomatch hf
  · refine x_iconst C (v := (0 : Int32)) (by decide) (dkAt dk_L_law_32 32 rfl) 2757 rfl ?_
    exact nomatch hf
def f_law_47 (Z L : Nat) (xs : Nat → Int32) (M : Mem) (i : Int32) (j : Mem → Option Unit) : Option Unit :=
  rdX xs L (i + (1 : Int32)) (fun v1 => cl (f_L_gainOfWalks Z M v1) (fun v2 M3 => rdX xs L (i + (1 : Int32)) (fun v4 => cl (f_X12_gainOfWalks Z M3 v4) (fun v5 M6 => cl (f_X12_thrown Z M6) (fun v7 M8 => (if v7 = v2 then (if v2 = 0 then rdL M8 124 1 (0 : Int32) (fun v9 => (if v9 = v5.toInt64 then j M8 else none)) else j M8) else none))))))
set_option maxRecDepth 100000 in
theorem c_law_47 {Γ : WC} {X : MX} (hN : HN Γ) (hC : NC Γ) (C : CX Γ X cL_law 9 RL (some .boolean) room_1) {Z b L cb sb : Nat} {xs : Nat → Int32} (hX : SX Γ X b L xs) (hcb : cb + 8 ≤ 601024 ∧ sb + 48 ≤ 7293034) {M : Mem} {i : Int32} {j : Mem → Option Unit} {rM : Unit} (hj : ∀ M1, j M1 = some rM → G Γ X M1 (cb + 8) (sb + 48) [some (.ref b), some (.ref (wad Γ 0)), some (.ref (wad Γ 108)), some (.ref (wad Γ 124)), some (.ref (wad Γ 125)), some (.int i)] [] 3578) (hf : f_law_47 Z L xs M i j = some rM) : G Γ X M cb sb [some (.ref b), some (.ref (wad Γ 0)), some (.ref (wad Γ 108)), some (.ref (wad Γ 124)), some (.ref (wad Γ 125)), some (.int i)] [] 2778 := by
  change G Γ X M (cb + 0) (sb + 0) _ _ _
  unfold f_law_47 at hf
  refine x_aload_n C rfl rfl (dkAt dk_L_law_32 46 rfl) 2779 rfl ?_
  refine x_aload_n C rfl rfl (dkAt dk_L_law_32 47 rfl) 2780 rfl ?_
  refine x_iload C rfl (dkAt dk_L_law_33 0 rfl) 2782 rfl ?_
  refine x_iconst C (v := (1 : Int32)) (by decide) (dkAt dk_L_law_33 1 rfl) 2783 rfl ?_
  refine x_iadd C (dkAt dk_L_law_33 2 rfl) 2784 rfl ?_
  refine x_sld C hX (dkAt dk_L_law_33 3 rfl) 2785 rfl hf (fun v1 hf => ?_)
  refine x_aload_n C rfl rfl (dkAt dk_L_law_33 4 rfl) 2786 rfl ?_
  obtain ⟨v2, M3, h12, hf⟩ := cl_inv hf
  refine x_cW C (c_L_gainOfWalks hN hC h12) mww_L_gainOfWalks ln_RL_350 (ro_law hcb (by decide) (by decide) (by decide) (by decide)) rfl rfl (Nat.le_of_ble_eq_true rfl) (dkAt dk_L_law_33 5 rfl) 2789 rfl (cb + 2) (sb + 12) rfl rfl ?_
  refine x_istore C (L1 := [some (.ref b), some (.ref (wad Γ 0)), some (.ref (wad Γ 108)), some (.ref (wad Γ 124)), some (.ref (wad Γ 125)), some (.int i), some (.int v2)]) (dkAt dk_L_law_33 6 rfl) 2791 rfl (by decide) rfl ?_
  refine x_aload_n C rfl rfl (dkAt dk_L_law_33 7 rfl) 2792 rfl ?_
  refine x_aload_n C rfl rfl (dkAt dk_L_law_33 8 rfl) 2793 rfl ?_
  refine x_iload C rfl (dkAt dk_L_law_33 9 rfl) 2795 rfl ?_
  refine x_iconst C (v := (1 : Int32)) (by decide) (dkAt dk_L_law_33 10 rfl) 2796 rfl ?_
  refine x_iadd C (dkAt dk_L_law_33 11 rfl) 2797 rfl ?_
  refine x_sld C hX (dkAt dk_L_law_33 12 rfl) 2798 rfl hf (fun v4 hf => ?_)
  obtain ⟨v5, M6, h11, hf⟩ := cl_inv hf
  refine x_cVi C (c_X12_gainOfWalks hN h11) mw_X12_gainOfWalks ln_RL_352 mi_X12_gainOfWalks (hN.rc (ci := 12) sh108 rc12) (ro_law hcb (by decide) (by decide) (by decide) (by decide)) rfl rfl (Nat.le_of_ble_eq_true rfl) (dkAt dk_L_law_33 13 rfl) 2801 rfl (cb + 2) (sb + 12) rfl rfl ?_
  refine x_istore C (L1 := [some (.ref b), some (.ref (wad Γ 0)), some (.ref (wad Γ 108)), some (.ref (wad Γ 124)), some (.ref (wad Γ 125)), some (.int i), some (.int v2), some (.int v5)]) (dkAt dk_L_law_33 14 rfl) 2803 rfl (by decide) rfl ?_
  refine x_aload_n C rfl rfl (dkAt dk_L_law_33 15 rfl) 2804 rfl ?_
  obtain ⟨v7, M8, h10, hf⟩ := cl_inv hf
  refine x_cVi C (c_X12_thrown hN h10) mw_X12_thrown ln_RL_202 mi_X12_thrown (hN.rc (ci := 12) sh108 rc12) (ro_law hcb (by decide) (by decide) (by decide) (by decide)) rfl rfl (Nat.le_of_ble_eq_true rfl) (dkAt dk_L_law_33 16 rfl) 2807 rfl (cb + 2) (sb + 12) rfl rfl ?_
  refine x_iload C rfl (dkAt dk_L_law_33 17 rfl) 2809 rfl ?_
  refine x_icmp_eq C 2814 (dkAt dk_L_law_33 18 rfl) 2812 rfl (by decide) hf (fun hf => ?_) (fun hf => ?_)
  · refine x_iload C rfl (dkAt dk_L_law_33 21 rfl) 2816 rfl ?_
    refine x_if_ne C 2831 (dkAt dk_L_law_33 22 rfl) 2819 rfl (by decide) hf (fun hf => ?_) (fun hf => ?_)
    · refine x_goto C 3578 (dkAt dk_L_law_33 32 rfl) (by decide) ?_
      exact G.weak (L := [some (.ref b), some (.ref (wad Γ 0)), some (.ref (wad Γ 108)), some (.ref (wad Γ 124)), some (.ref (wad Γ 125)), some (.int i)]) ⟨rfl, rfl, rfl, rfl, rfl, rfl, trivial⟩ (G.wide (by omega) (by omega) (hj _ hf))
    · refine x_aload_n C rfl rfl (dkAt dk_L_law_33 23 rfl) 2820 rfl ?_
      refine x_iconst C (v := (0 : Int32)) (by decide) (dkAt dk_L_law_33 24 rfl) 2821 rfl ?_
      refine x_lald C (hN.sh sh124) (dkAt dk_L_law_33 25 rfl) 2822 rfl hf (fun v9 hf => ?_)
      refine x_iload C rfl (dkAt dk_L_law_33 26 rfl) 2824 rfl ?_
      refine x_i2l C (dkAt dk_L_law_33 27 rfl) 2825 rfl ?_
      refine x_lcmp_eq C 2831 (dkAt dk_L_law_33 28 rfl) 2829 rfl (dkAt dk_L_law_33 29 rfl) (by decide) hf (fun hf => ?_) (fun hf => ?_)
      · refine x_goto C 3578 (dkAt dk_L_law_33 32 rfl) (by decide) ?_
        exact G.weak (L := [some (.ref b), some (.ref (wad Γ 0)), some (.ref (wad Γ 108)), some (.ref (wad Γ 124)), some (.ref (wad Γ 125)), some (.int i)]) ⟨rfl, rfl, rfl, rfl, rfl, rfl, trivial⟩ (G.wide (by omega) (by omega) (hj _ hf))
      · refine x_iconst C (v := (0 : Int32)) (by decide) (dkAt dk_L_law_33 30 rfl) 2830 rfl ?_
        exact nomatch hf
  · refine x_iconst C (v := (0 : Int32)) (by decide) (dkAt dk_L_law_33 19 rfl) 2813 rfl ?_
    exact nomatch hf
def f_law_48 (Z L : Nat) (xs : Nat → Int32) (M : Mem) (i : Int32) (j : Mem → Option Unit) : Option Unit :=
  rdX xs L (i + (1 : Int32)) (fun v1 => cl (f_L_report Z M v1) (fun v2 M3 => rdX xs L (i + (1 : Int32)) (fun v4 => cl (f_X12_report Z M3 v4) (fun v5 M6 => cl (f_X12_thrown Z M6) (fun v7 M8 => (if v7 = v2 then (if v2 = 0 then rdL M8 124 1 (0 : Int32) (fun v9 => (if v9 = v5.toInt64 then j M8 else none)) else j M8) else none))))))
set_option maxRecDepth 100000 in
theorem c_law_48 {Γ : WC} {X : MX} (hN : HN Γ) (hC : NC Γ) (C : CX Γ X cL_law 9 RL (some .boolean) room_1) {Z b L cb sb : Nat} {xs : Nat → Int32} (hX : SX Γ X b L xs) (hcb : cb + 8 ≤ 601024 ∧ sb + 48 ≤ 7293034) {M : Mem} {i : Int32} {j : Mem → Option Unit} {rM : Unit} (hj : ∀ M1, j M1 = some rM → G Γ X M1 (cb + 8) (sb + 48) [some (.ref b), some (.ref (wad Γ 0)), some (.ref (wad Γ 108)), some (.ref (wad Γ 124)), some (.ref (wad Γ 125)), some (.int i)] [] 3578) (hf : f_law_48 Z L xs M i j = some rM) : G Γ X M cb sb [some (.ref b), some (.ref (wad Γ 0)), some (.ref (wad Γ 108)), some (.ref (wad Γ 124)), some (.ref (wad Γ 125)), some (.int i)] [] 2834 := by
  change G Γ X M (cb + 0) (sb + 0) _ _ _
  unfold f_law_48 at hf
  refine x_aload_n C rfl rfl (dkAt dk_L_law_33 33 rfl) 2835 rfl ?_
  refine x_aload_n C rfl rfl (dkAt dk_L_law_33 34 rfl) 2836 rfl ?_
  refine x_iload C rfl (dkAt dk_L_law_33 35 rfl) 2838 rfl ?_
  refine x_iconst C (v := (1 : Int32)) (by decide) (dkAt dk_L_law_33 36 rfl) 2839 rfl ?_
  refine x_iadd C (dkAt dk_L_law_33 37 rfl) 2840 rfl ?_
  refine x_sld C hX (dkAt dk_L_law_33 38 rfl) 2841 rfl hf (fun v1 hf => ?_)
  refine x_aload_n C rfl rfl (dkAt dk_L_law_33 39 rfl) 2842 rfl ?_
  obtain ⟨v2, M3, h12, hf⟩ := cl_inv hf
  refine x_cW C (c_L_report hN hC h12) mww_L_report ln_RL_353 (ro_law hcb (by decide) (by decide) (by decide) (by decide)) rfl rfl (Nat.le_of_ble_eq_true rfl) (dkAt dk_L_law_33 40 rfl) 2845 rfl (cb + 2) (sb + 12) rfl rfl ?_
  refine x_istore C (L1 := [some (.ref b), some (.ref (wad Γ 0)), some (.ref (wad Γ 108)), some (.ref (wad Γ 124)), some (.ref (wad Γ 125)), some (.int i), some (.int v2)]) (dkAt dk_L_law_33 41 rfl) 2847 rfl (by decide) rfl ?_
  refine x_aload_n C rfl rfl (dkAt dk_L_law_33 42 rfl) 2848 rfl ?_
  refine x_aload_n C rfl rfl (dkAt dk_L_law_33 43 rfl) 2849 rfl ?_
  refine x_iload C rfl (dkAt dk_L_law_33 44 rfl) 2851 rfl ?_
  refine x_iconst C (v := (1 : Int32)) (by decide) (dkAt dk_L_law_33 45 rfl) 2852 rfl ?_
  refine x_iadd C (dkAt dk_L_law_33 46 rfl) 2853 rfl ?_
  refine x_sld C hX (dkAt dk_L_law_33 47 rfl) 2854 rfl hf (fun v4 hf => ?_)
  obtain ⟨v5, M6, h11, hf⟩ := cl_inv hf
  refine x_cVi C (c_X12_report hN h11) mw_X12_report ln_RL_355 mi_X12_report (hN.rc (ci := 12) sh108 rc12) (ro_law hcb (by decide) (by decide) (by decide) (by decide)) rfl rfl (Nat.le_of_ble_eq_true rfl) (dkAt dk_L_law_34 0 rfl) 2857 rfl (cb + 2) (sb + 12) rfl rfl ?_
  refine x_istore C (L1 := [some (.ref b), some (.ref (wad Γ 0)), some (.ref (wad Γ 108)), some (.ref (wad Γ 124)), some (.ref (wad Γ 125)), some (.int i), some (.int v2), some (.int v5)]) (dkAt dk_L_law_34 1 rfl) 2859 rfl (by decide) rfl ?_
  refine x_aload_n C rfl rfl (dkAt dk_L_law_34 2 rfl) 2860 rfl ?_
  obtain ⟨v7, M8, h10, hf⟩ := cl_inv hf
  refine x_cVi C (c_X12_thrown hN h10) mw_X12_thrown ln_RL_202 mi_X12_thrown (hN.rc (ci := 12) sh108 rc12) (ro_law hcb (by decide) (by decide) (by decide) (by decide)) rfl rfl (Nat.le_of_ble_eq_true rfl) (dkAt dk_L_law_34 3 rfl) 2863 rfl (cb + 2) (sb + 12) rfl rfl ?_
  refine x_iload C rfl (dkAt dk_L_law_34 4 rfl) 2865 rfl ?_
  refine x_icmp_eq C 2870 (dkAt dk_L_law_34 5 rfl) 2868 rfl (by decide) hf (fun hf => ?_) (fun hf => ?_)
  · refine x_iload C rfl (dkAt dk_L_law_34 8 rfl) 2872 rfl ?_
    refine x_if_ne C 2887 (dkAt dk_L_law_34 9 rfl) 2875 rfl (by decide) hf (fun hf => ?_) (fun hf => ?_)
    · refine x_goto C 3578 (dkAt dk_L_law_34 19 rfl) (by decide) ?_
      exact G.weak (L := [some (.ref b), some (.ref (wad Γ 0)), some (.ref (wad Γ 108)), some (.ref (wad Γ 124)), some (.ref (wad Γ 125)), some (.int i)]) ⟨rfl, rfl, rfl, rfl, rfl, rfl, trivial⟩ (G.wide (by omega) (by omega) (hj _ hf))
    · refine x_aload_n C rfl rfl (dkAt dk_L_law_34 10 rfl) 2876 rfl ?_
      refine x_iconst C (v := (0 : Int32)) (by decide) (dkAt dk_L_law_34 11 rfl) 2877 rfl ?_
      refine x_lald C (hN.sh sh124) (dkAt dk_L_law_34 12 rfl) 2878 rfl hf (fun v9 hf => ?_)
      refine x_iload C rfl (dkAt dk_L_law_34 13 rfl) 2880 rfl ?_
      refine x_i2l C (dkAt dk_L_law_34 14 rfl) 2881 rfl ?_
      refine x_lcmp_eq C 2887 (dkAt dk_L_law_34 15 rfl) 2885 rfl (dkAt dk_L_law_34 16 rfl) (by decide) hf (fun hf => ?_) (fun hf => ?_)
      · refine x_goto C 3578 (dkAt dk_L_law_34 19 rfl) (by decide) ?_
        exact G.weak (L := [some (.ref b), some (.ref (wad Γ 0)), some (.ref (wad Γ 108)), some (.ref (wad Γ 124)), some (.ref (wad Γ 125)), some (.int i)]) ⟨rfl, rfl, rfl, rfl, rfl, rfl, trivial⟩ (G.wide (by omega) (by omega) (hj _ hf))
      · refine x_iconst C (v := (0 : Int32)) (by decide) (dkAt dk_L_law_34 17 rfl) 2886 rfl ?_
        exact nomatch hf
  · refine x_iconst C (v := (0 : Int32)) (by decide) (dkAt dk_L_law_34 6 rfl) 2869 rfl ?_
    exact nomatch hf
def f_law_49 (Z L : Nat) (xs : Nat → Int32) (M : Mem) (i : Int32) (j : Mem → Option Unit) : Option Unit :=
  rdX xs L (i + (1 : Int32)) (fun v1 => cl (f_L_reportByte Z M v1) (fun v2 M3 => rdX xs L (i + (1 : Int32)) (fun v4 => cl (f_X12_reportByte Z M3 v4) (fun v5 M6 => cl (f_X12_thrown Z M6) (fun v7 M8 => (if v7 = v2 then (if v2 = 0 then rdL M8 124 1 (0 : Int32) (fun v9 => (if v9 = v5.toInt64 then j M8 else none)) else j M8) else none))))))
set_option maxRecDepth 100000 in
theorem c_law_49 {Γ : WC} {X : MX} (hN : HN Γ) (hC : NC Γ) (C : CX Γ X cL_law 9 RL (some .boolean) room_1) {Z b L cb sb : Nat} {xs : Nat → Int32} (hX : SX Γ X b L xs) (hcb : cb + 8 ≤ 601024 ∧ sb + 48 ≤ 7293034) {M : Mem} {i : Int32} {j : Mem → Option Unit} {rM : Unit} (hj : ∀ M1, j M1 = some rM → G Γ X M1 (cb + 8) (sb + 48) [some (.ref b), some (.ref (wad Γ 0)), some (.ref (wad Γ 108)), some (.ref (wad Γ 124)), some (.ref (wad Γ 125)), some (.int i)] [] 3578) (hf : f_law_49 Z L xs M i j = some rM) : G Γ X M cb sb [some (.ref b), some (.ref (wad Γ 0)), some (.ref (wad Γ 108)), some (.ref (wad Γ 124)), some (.ref (wad Γ 125)), some (.int i)] [] 2890 := by
  change G Γ X M (cb + 0) (sb + 0) _ _ _
  unfold f_law_49 at hf
  refine x_aload_n C rfl rfl (dkAt dk_L_law_34 20 rfl) 2891 rfl ?_
  refine x_aload_n C rfl rfl (dkAt dk_L_law_34 21 rfl) 2892 rfl ?_
  refine x_iload C rfl (dkAt dk_L_law_34 22 rfl) 2894 rfl ?_
  refine x_iconst C (v := (1 : Int32)) (by decide) (dkAt dk_L_law_34 23 rfl) 2895 rfl ?_
  refine x_iadd C (dkAt dk_L_law_34 24 rfl) 2896 rfl ?_
  refine x_sld C hX (dkAt dk_L_law_34 25 rfl) 2897 rfl hf (fun v1 hf => ?_)
  refine x_aload_n C rfl rfl (dkAt dk_L_law_34 26 rfl) 2898 rfl ?_
  obtain ⟨v2, M3, h12, hf⟩ := cl_inv hf
  refine x_cW C (c_L_reportByte hN hC h12) mww_L_reportByte ln_RL_356 (ro_law hcb (by decide) (by decide) (by decide) (by decide)) rfl rfl (Nat.le_of_ble_eq_true rfl) (dkAt dk_L_law_34 27 rfl) 2901 rfl (cb + 1) (sb + 6) rfl rfl ?_
  refine x_istore C (L1 := [some (.ref b), some (.ref (wad Γ 0)), some (.ref (wad Γ 108)), some (.ref (wad Γ 124)), some (.ref (wad Γ 125)), some (.int i), some (.int v2)]) (dkAt dk_L_law_34 28 rfl) 2903 rfl (by decide) rfl ?_
  refine x_aload_n C rfl rfl (dkAt dk_L_law_34 29 rfl) 2904 rfl ?_
  refine x_aload_n C rfl rfl (dkAt dk_L_law_34 30 rfl) 2905 rfl ?_
  refine x_iload C rfl (dkAt dk_L_law_34 31 rfl) 2907 rfl ?_
  refine x_iconst C (v := (1 : Int32)) (by decide) (dkAt dk_L_law_34 32 rfl) 2908 rfl ?_
  refine x_iadd C (dkAt dk_L_law_34 33 rfl) 2909 rfl ?_
  refine x_sld C hX (dkAt dk_L_law_34 34 rfl) 2910 rfl hf (fun v4 hf => ?_)
  obtain ⟨v5, M6, h11, hf⟩ := cl_inv hf
  refine x_cVi C (c_X12_reportByte hN h11) mw_X12_reportByte ln_RL_358 mi_X12_reportByte (hN.rc (ci := 12) sh108 rc12) (ro_law hcb (by decide) (by decide) (by decide) (by decide)) rfl rfl (Nat.le_of_ble_eq_true rfl) (dkAt dk_L_law_34 35 rfl) 2913 rfl (cb + 1) (sb + 6) rfl rfl ?_
  refine x_istore C (L1 := [some (.ref b), some (.ref (wad Γ 0)), some (.ref (wad Γ 108)), some (.ref (wad Γ 124)), some (.ref (wad Γ 125)), some (.int i), some (.int v2), some (.int v5)]) (dkAt dk_L_law_34 36 rfl) 2915 rfl (by decide) rfl ?_
  refine x_aload_n C rfl rfl (dkAt dk_L_law_34 37 rfl) 2916 rfl ?_
  obtain ⟨v7, M8, h10, hf⟩ := cl_inv hf
  refine x_cVi C (c_X12_thrown hN h10) mw_X12_thrown ln_RL_202 mi_X12_thrown (hN.rc (ci := 12) sh108 rc12) (ro_law hcb (by decide) (by decide) (by decide) (by decide)) rfl rfl (Nat.le_of_ble_eq_true rfl) (dkAt dk_L_law_34 38 rfl) 2919 rfl (cb + 1) (sb + 6) rfl rfl ?_
  refine x_iload C rfl (dkAt dk_L_law_34 39 rfl) 2921 rfl ?_
  refine x_icmp_eq C 2926 (dkAt dk_L_law_34 40 rfl) 2924 rfl (by decide) hf (fun hf => ?_) (fun hf => ?_)
  · refine x_iload C rfl (dkAt dk_L_law_34 43 rfl) 2928 rfl ?_
    refine x_if_ne C 2943 (dkAt dk_L_law_34 44 rfl) 2931 rfl (by decide) hf (fun hf => ?_) (fun hf => ?_)
    · refine x_goto C 3578 (dkAt dk_L_law_35 6 rfl) (by decide) ?_
      exact G.weak (L := [some (.ref b), some (.ref (wad Γ 0)), some (.ref (wad Γ 108)), some (.ref (wad Γ 124)), some (.ref (wad Γ 125)), some (.int i)]) ⟨rfl, rfl, rfl, rfl, rfl, rfl, trivial⟩ (G.wide (by omega) (by omega) (hj _ hf))
    · refine x_aload_n C rfl rfl (dkAt dk_L_law_34 45 rfl) 2932 rfl ?_
      refine x_iconst C (v := (0 : Int32)) (by decide) (dkAt dk_L_law_34 46 rfl) 2933 rfl ?_
      refine x_lald C (hN.sh sh124) (dkAt dk_L_law_34 47 rfl) 2934 rfl hf (fun v9 hf => ?_)
      refine x_iload C rfl (dkAt dk_L_law_35 0 rfl) 2936 rfl ?_
      refine x_i2l C (dkAt dk_L_law_35 1 rfl) 2937 rfl ?_
      refine x_lcmp_eq C 2943 (dkAt dk_L_law_35 2 rfl) 2941 rfl (dkAt dk_L_law_35 3 rfl) (by decide) hf (fun hf => ?_) (fun hf => ?_)
      · refine x_goto C 3578 (dkAt dk_L_law_35 6 rfl) (by decide) ?_
        exact G.weak (L := [some (.ref b), some (.ref (wad Γ 0)), some (.ref (wad Γ 108)), some (.ref (wad Γ 124)), some (.ref (wad Γ 125)), some (.int i)]) ⟨rfl, rfl, rfl, rfl, rfl, rfl, trivial⟩ (G.wide (by omega) (by omega) (hj _ hf))
      · refine x_iconst C (v := (0 : Int32)) (by decide) (dkAt dk_L_law_35 4 rfl) 2942 rfl ?_
        exact nomatch hf
  · refine x_iconst C (v := (0 : Int32)) (by decide) (dkAt dk_L_law_34 41 rfl) 2925 rfl ?_
    exact nomatch hf
def f_law_50 (Z L : Nat) (xs : Nat → Int32) (M : Mem) (i : Int32) (j : Mem → Option Unit) : Option Unit :=
  rdX xs L (i + (1 : Int32)) (fun v1 => rdX xs L (i + (2 : Int32)) (fun v2 => rdX xs L (i + (3 : Int32)) (fun v3 => rdX xs L (i + (4 : Int32)) (fun v4 => cl (f_L_setRule Z M v1 v2 v3 v4) (fun v5 M6 => rdX xs L (i + (1 : Int32)) (fun v7 => rdX xs L (i + (2 : Int32)) (fun v8 => rdX xs L (i + (3 : Int32)) (fun v9 => rdX xs L (i + (4 : Int32)) (fun v10 => cl (f_X12_setRule Z M6 v7 v8 v9 v10) (fun v11 M12 => cl (f_X12_thrown Z M12) (fun v13 M14 => (if v13 = v5 then (if v5 = 0 then rdL M14 124 1 (0 : Int32) (fun v15 => (if v15 = v11.toInt64 then j M14 else none)) else j M14) else none))))))))))))
set_option maxRecDepth 100000 in
theorem c_law_50 {Γ : WC} {X : MX} (hN : HN Γ) (hC : NC Γ) (C : CX Γ X cL_law 9 RL (some .boolean) room_1) {Z b L cb sb : Nat} {xs : Nat → Int32} (hX : SX Γ X b L xs) (hcb : cb + 8 ≤ 601024 ∧ sb + 48 ≤ 7293034) {M : Mem} {i : Int32} {j : Mem → Option Unit} {rM : Unit} (hj : ∀ M1, j M1 = some rM → G Γ X M1 (cb + 8) (sb + 48) [some (.ref b), some (.ref (wad Γ 0)), some (.ref (wad Γ 108)), some (.ref (wad Γ 124)), some (.ref (wad Γ 125)), some (.int i)] [] 3578) (hf : f_law_50 Z L xs M i j = some rM) : G Γ X M cb sb [some (.ref b), some (.ref (wad Γ 0)), some (.ref (wad Γ 108)), some (.ref (wad Γ 124)), some (.ref (wad Γ 125)), some (.int i)] [] 2946 := by
  change G Γ X M (cb + 0) (sb + 0) _ _ _
  unfold f_law_50 at hf
  refine x_aload_n C rfl rfl (dkAt dk_L_law_35 7 rfl) 2947 rfl ?_
  refine x_aload_n C rfl rfl (dkAt dk_L_law_35 8 rfl) 2948 rfl ?_
  refine x_iload C rfl (dkAt dk_L_law_35 9 rfl) 2950 rfl ?_
  refine x_iconst C (v := (1 : Int32)) (by decide) (dkAt dk_L_law_35 10 rfl) 2951 rfl ?_
  refine x_iadd C (dkAt dk_L_law_35 11 rfl) 2952 rfl ?_
  refine x_sld C hX (dkAt dk_L_law_35 12 rfl) 2953 rfl hf (fun v1 hf => ?_)
  refine x_aload_n C rfl rfl (dkAt dk_L_law_35 13 rfl) 2954 rfl ?_
  refine x_iload C rfl (dkAt dk_L_law_35 14 rfl) 2956 rfl ?_
  refine x_iconst C (v := (2 : Int32)) (by decide) (dkAt dk_L_law_35 15 rfl) 2957 rfl ?_
  refine x_iadd C (dkAt dk_L_law_35 16 rfl) 2958 rfl ?_
  refine x_sld C hX (dkAt dk_L_law_35 17 rfl) 2959 rfl hf (fun v2 hf => ?_)
  refine x_aload_n C rfl rfl (dkAt dk_L_law_35 18 rfl) 2960 rfl ?_
  refine x_iload C rfl (dkAt dk_L_law_35 19 rfl) 2962 rfl ?_
  refine x_iconst C (v := (3 : Int32)) (by decide) (dkAt dk_L_law_35 20 rfl) 2963 rfl ?_
  refine x_iadd C (dkAt dk_L_law_35 21 rfl) 2964 rfl ?_
  refine x_sld C hX (dkAt dk_L_law_35 22 rfl) 2965 rfl hf (fun v3 hf => ?_)
  refine x_aload_n C rfl rfl (dkAt dk_L_law_35 23 rfl) 2966 rfl ?_
  refine x_iload C rfl (dkAt dk_L_law_35 24 rfl) 2968 rfl ?_
  refine x_iconst C (v := (4 : Int32)) (by decide) (dkAt dk_L_law_35 25 rfl) 2969 rfl ?_
  refine x_iadd C (dkAt dk_L_law_35 26 rfl) 2970 rfl ?_
  refine x_sld C hX (dkAt dk_L_law_35 27 rfl) 2971 rfl hf (fun v4 hf => ?_)
  refine x_aload_n C rfl rfl (dkAt dk_L_law_35 28 rfl) 2972 rfl ?_
  obtain ⟨v5, M6, h18, hf⟩ := cl_inv hf
  refine x_cW C (c_L_setRule hN hC h18) mww_L_setRule ln_RL_359 (ro_law hcb (by decide) (by decide) (by decide) (by decide)) rfl rfl (Nat.le_of_ble_eq_true rfl) (dkAt dk_L_law_35 29 rfl) 2975 rfl (cb + 6) (sb + 36) rfl rfl ?_
  refine x_istore C (L1 := [some (.ref b), some (.ref (wad Γ 0)), some (.ref (wad Γ 108)), some (.ref (wad Γ 124)), some (.ref (wad Γ 125)), some (.int i), some (.int v5)]) (dkAt dk_L_law_35 30 rfl) 2977 rfl (by decide) rfl ?_
  refine x_aload_n C rfl rfl (dkAt dk_L_law_35 31 rfl) 2978 rfl ?_
  refine x_aload_n C rfl rfl (dkAt dk_L_law_35 32 rfl) 2979 rfl ?_
  refine x_iload C rfl (dkAt dk_L_law_35 33 rfl) 2981 rfl ?_
  refine x_iconst C (v := (1 : Int32)) (by decide) (dkAt dk_L_law_35 34 rfl) 2982 rfl ?_
  refine x_iadd C (dkAt dk_L_law_35 35 rfl) 2983 rfl ?_
  refine x_sld C hX (dkAt dk_L_law_35 36 rfl) 2984 rfl hf (fun v7 hf => ?_)
  refine x_aload_n C rfl rfl (dkAt dk_L_law_35 37 rfl) 2985 rfl ?_
  refine x_iload C rfl (dkAt dk_L_law_35 38 rfl) 2987 rfl ?_
  refine x_iconst C (v := (2 : Int32)) (by decide) (dkAt dk_L_law_35 39 rfl) 2988 rfl ?_
  refine x_iadd C (dkAt dk_L_law_35 40 rfl) 2989 rfl ?_
  refine x_sld C hX (dkAt dk_L_law_35 41 rfl) 2990 rfl hf (fun v8 hf => ?_)
  refine x_aload_n C rfl rfl (dkAt dk_L_law_35 42 rfl) 2991 rfl ?_
  refine x_iload C rfl (dkAt dk_L_law_35 43 rfl) 2993 rfl ?_
  refine x_iconst C (v := (3 : Int32)) (by decide) (dkAt dk_L_law_35 44 rfl) 2994 rfl ?_
  refine x_iadd C (dkAt dk_L_law_35 45 rfl) 2995 rfl ?_
  refine x_sld C hX (dkAt dk_L_law_35 46 rfl) 2996 rfl hf (fun v9 hf => ?_)
  refine x_aload_n C rfl rfl (dkAt dk_L_law_35 47 rfl) 2997 rfl ?_
  refine x_iload C rfl (dkAt dk_L_law_36 0 rfl) 2999 rfl ?_
  refine x_iconst C (v := (4 : Int32)) (by decide) (dkAt dk_L_law_36 1 rfl) 3000 rfl ?_
  refine x_iadd C (dkAt dk_L_law_36 2 rfl) 3001 rfl ?_
  refine x_sld C hX (dkAt dk_L_law_36 3 rfl) 3002 rfl hf (fun v10 hf => ?_)
  obtain ⟨v11, M12, h17, hf⟩ := cl_inv hf
  refine x_cVi C (c_X12_setRule hN h17) mw_X12_setRule ln_RL_362 mi_X12_setRule (hN.rc (ci := 12) sh108 rc12) (ro_law hcb (by decide) (by decide) (by decide) (by decide)) rfl rfl (Nat.le_of_ble_eq_true rfl) (dkAt dk_L_law_36 4 rfl) 3005 rfl (cb + 6) (sb + 36) rfl rfl ?_
  refine x_istore C (L1 := [some (.ref b), some (.ref (wad Γ 0)), some (.ref (wad Γ 108)), some (.ref (wad Γ 124)), some (.ref (wad Γ 125)), some (.int i), some (.int v5), some (.int v11)]) (dkAt dk_L_law_36 5 rfl) 3007 rfl (by decide) rfl ?_
  refine x_aload_n C rfl rfl (dkAt dk_L_law_36 6 rfl) 3008 rfl ?_
  obtain ⟨v13, M14, h16, hf⟩ := cl_inv hf
  refine x_cVi C (c_X12_thrown hN h16) mw_X12_thrown ln_RL_202 mi_X12_thrown (hN.rc (ci := 12) sh108 rc12) (ro_law hcb (by decide) (by decide) (by decide) (by decide)) rfl rfl (Nat.le_of_ble_eq_true rfl) (dkAt dk_L_law_36 7 rfl) 3011 rfl (cb + 6) (sb + 36) rfl rfl ?_
  refine x_iload C rfl (dkAt dk_L_law_36 8 rfl) 3013 rfl ?_
  refine x_icmp_eq C 3018 (dkAt dk_L_law_36 9 rfl) 3016 rfl (by decide) hf (fun hf => ?_) (fun hf => ?_)
  · refine x_iload C rfl (dkAt dk_L_law_36 12 rfl) 3020 rfl ?_
    refine x_if_ne C 3035 (dkAt dk_L_law_36 13 rfl) 3023 rfl (by decide) hf (fun hf => ?_) (fun hf => ?_)
    · refine x_goto C 3578 (dkAt dk_L_law_36 23 rfl) (by decide) ?_
      exact G.weak (L := [some (.ref b), some (.ref (wad Γ 0)), some (.ref (wad Γ 108)), some (.ref (wad Γ 124)), some (.ref (wad Γ 125)), some (.int i)]) ⟨rfl, rfl, rfl, rfl, rfl, rfl, trivial⟩ (G.wide (by omega) (by omega) (hj _ hf))
    · refine x_aload_n C rfl rfl (dkAt dk_L_law_36 14 rfl) 3024 rfl ?_
      refine x_iconst C (v := (0 : Int32)) (by decide) (dkAt dk_L_law_36 15 rfl) 3025 rfl ?_
      refine x_lald C (hN.sh sh124) (dkAt dk_L_law_36 16 rfl) 3026 rfl hf (fun v15 hf => ?_)
      refine x_iload C rfl (dkAt dk_L_law_36 17 rfl) 3028 rfl ?_
      refine x_i2l C (dkAt dk_L_law_36 18 rfl) 3029 rfl ?_
      refine x_lcmp_eq C 3035 (dkAt dk_L_law_36 19 rfl) 3033 rfl (dkAt dk_L_law_36 20 rfl) (by decide) hf (fun hf => ?_) (fun hf => ?_)
      · refine x_goto C 3578 (dkAt dk_L_law_36 23 rfl) (by decide) ?_
        exact G.weak (L := [some (.ref b), some (.ref (wad Γ 0)), some (.ref (wad Γ 108)), some (.ref (wad Γ 124)), some (.ref (wad Γ 125)), some (.int i)]) ⟨rfl, rfl, rfl, rfl, rfl, rfl, trivial⟩ (G.wide (by omega) (by omega) (hj _ hf))
      · refine x_iconst C (v := (0 : Int32)) (by decide) (dkAt dk_L_law_36 21 rfl) 3034 rfl ?_
        exact nomatch hf
  · refine x_iconst C (v := (0 : Int32)) (by decide) (dkAt dk_L_law_36 10 rfl) 3017 rfl ?_
    exact nomatch hf
def f_law_51 (Z L : Nat) (xs : Nat → Int32) (M : Mem) (i : Int32) (j : Mem → Option Unit) : Option Unit :=
  cl (f_L_takeBest Z M) (fun v1 M2 => cl (f_X12_takeBest Z M2) (fun v3 M4 => cl (f_X12_thrown Z M4) (fun v5 M6 => (if v5 = v1 then (if v1 = 0 then rdL M6 124 1 (0 : Int32) (fun v7 => (if v7 = v3.toInt64 then j M6 else none)) else j M6) else none))))
set_option maxRecDepth 100000 in
theorem c_law_51 {Γ : WC} {X : MX} (hN : HN Γ) (hC : NC Γ) (C : CX Γ X cL_law 9 RL (some .boolean) room_1) {Z b L cb sb : Nat} {xs : Nat → Int32} (hX : SX Γ X b L xs) (hcb : cb + 8 ≤ 601024 ∧ sb + 48 ≤ 7293034) {M : Mem} {i : Int32} {j : Mem → Option Unit} {rM : Unit} (hj : ∀ M1, j M1 = some rM → G Γ X M1 (cb + 8) (sb + 48) [some (.ref b), some (.ref (wad Γ 0)), some (.ref (wad Γ 108)), some (.ref (wad Γ 124)), some (.ref (wad Γ 125)), some (.int i)] [] 3578) (hf : f_law_51 Z L xs M i j = some rM) : G Γ X M cb sb [some (.ref b), some (.ref (wad Γ 0)), some (.ref (wad Γ 108)), some (.ref (wad Γ 124)), some (.ref (wad Γ 125)), some (.int i)] [] 3038 := by
  change G Γ X M (cb + 0) (sb + 0) _ _ _
  unfold f_law_51 at hf
  refine x_aload_n C rfl rfl (dkAt dk_L_law_36 24 rfl) 3039 rfl ?_
  refine x_aload_n C rfl rfl (dkAt dk_L_law_36 25 rfl) 3040 rfl ?_
  obtain ⟨v1, M2, h10, hf⟩ := cl_inv hf
  refine x_cW C (c_L_takeBest hN hC h10) mww_L_takeBest ln_RL_363 (ro_law hcb (by decide) (by decide) (by decide) (by decide)) rfl rfl (Nat.le_of_ble_eq_true rfl) (dkAt dk_L_law_36 26 rfl) 3043 rfl (cb + 2) (sb + 12) rfl rfl ?_
  refine x_istore C (L1 := [some (.ref b), some (.ref (wad Γ 0)), some (.ref (wad Γ 108)), some (.ref (wad Γ 124)), some (.ref (wad Γ 125)), some (.int i), some (.int v1)]) (dkAt dk_L_law_36 27 rfl) 3045 rfl (by decide) rfl ?_
  refine x_aload_n C rfl rfl (dkAt dk_L_law_36 28 rfl) 3046 rfl ?_
  obtain ⟨v3, M4, h9, hf⟩ := cl_inv hf
  refine x_cVi C (c_X12_takeBest hN h9) mw_X12_takeBest ln_RL_365 mi_X12_takeBest (hN.rc (ci := 12) sh108 rc12) (ro_law hcb (by decide) (by decide) (by decide) (by decide)) rfl rfl (Nat.le_of_ble_eq_true rfl) (dkAt dk_L_law_36 29 rfl) 3049 rfl (cb + 2) (sb + 12) rfl rfl ?_
  refine x_istore C (L1 := [some (.ref b), some (.ref (wad Γ 0)), some (.ref (wad Γ 108)), some (.ref (wad Γ 124)), some (.ref (wad Γ 125)), some (.int i), some (.int v1), some (.int v3)]) (dkAt dk_L_law_36 30 rfl) 3051 rfl (by decide) rfl ?_
  refine x_aload_n C rfl rfl (dkAt dk_L_law_36 31 rfl) 3052 rfl ?_
  obtain ⟨v5, M6, h8, hf⟩ := cl_inv hf
  refine x_cVi C (c_X12_thrown hN h8) mw_X12_thrown ln_RL_202 mi_X12_thrown (hN.rc (ci := 12) sh108 rc12) (ro_law hcb (by decide) (by decide) (by decide) (by decide)) rfl rfl (Nat.le_of_ble_eq_true rfl) (dkAt dk_L_law_36 32 rfl) 3055 rfl (cb + 2) (sb + 12) rfl rfl ?_
  refine x_iload C rfl (dkAt dk_L_law_36 33 rfl) 3057 rfl ?_
  refine x_icmp_eq C 3062 (dkAt dk_L_law_36 34 rfl) 3060 rfl (by decide) hf (fun hf => ?_) (fun hf => ?_)
  · refine x_iload C rfl (dkAt dk_L_law_36 37 rfl) 3064 rfl ?_
    refine x_if_ne C 3079 (dkAt dk_L_law_36 38 rfl) 3067 rfl (by decide) hf (fun hf => ?_) (fun hf => ?_)
    · refine x_goto C 3578 (dkAt dk_L_law_37 0 rfl) (by decide) ?_
      exact G.weak (L := [some (.ref b), some (.ref (wad Γ 0)), some (.ref (wad Γ 108)), some (.ref (wad Γ 124)), some (.ref (wad Γ 125)), some (.int i)]) ⟨rfl, rfl, rfl, rfl, rfl, rfl, trivial⟩ (G.wide (by omega) (by omega) (hj _ hf))
    · refine x_aload_n C rfl rfl (dkAt dk_L_law_36 39 rfl) 3068 rfl ?_
      refine x_iconst C (v := (0 : Int32)) (by decide) (dkAt dk_L_law_36 40 rfl) 3069 rfl ?_
      refine x_lald C (hN.sh sh124) (dkAt dk_L_law_36 41 rfl) 3070 rfl hf (fun v7 hf => ?_)
      refine x_iload C rfl (dkAt dk_L_law_36 42 rfl) 3072 rfl ?_
      refine x_i2l C (dkAt dk_L_law_36 43 rfl) 3073 rfl ?_
      refine x_lcmp_eq C 3079 (dkAt dk_L_law_36 44 rfl) 3077 rfl (dkAt dk_L_law_36 45 rfl) (by decide) hf (fun hf => ?_) (fun hf => ?_)
      · refine x_goto C 3578 (dkAt dk_L_law_37 0 rfl) (by decide) ?_
        exact G.weak (L := [some (.ref b), some (.ref (wad Γ 0)), some (.ref (wad Γ 108)), some (.ref (wad Γ 124)), some (.ref (wad Γ 125)), some (.int i)]) ⟨rfl, rfl, rfl, rfl, rfl, rfl, trivial⟩ (G.wide (by omega) (by omega) (hj _ hf))
      · refine x_iconst C (v := (0 : Int32)) (by decide) (dkAt dk_L_law_36 46 rfl) 3078 rfl ?_
        exact nomatch hf
  · refine x_iconst C (v := (0 : Int32)) (by decide) (dkAt dk_L_law_36 35 rfl) 3061 rfl ?_
    exact nomatch hf
def f_law_52 (Z L : Nat) (xs : Nat → Int32) (M : Mem) (i : Int32) (j : Mem → Option Unit) : Option Unit :=
  rdX xs L (i + (1 : Int32)) (fun v1 => rdX xs L (i + (2 : Int32)) (fun v2 => rdX xs L (i + (3 : Int32)) (fun v3 => jn (fun (t4 : Int32) => cl (f_L_permit Z M v1 v2 t4) (fun v5 M6 => rdX xs L (i + (1 : Int32)) (fun v7 => rdX xs L (i + (2 : Int32)) (fun v8 => rdX xs L (i + (3 : Int32)) (fun v9 => jn (fun (t10 : Int32) => cl (f_X12_permit Z M6 v7 v8 t10) (fun v11 M12 => cl (f_X12_thrown Z M12) (fun v13 M14 => (if v13 = v5 then (if v5 = 0 then rdL M14 124 1 (0 : Int32) (fun v15 => jn (fun (t16 : Int64) => (if v15 = t16 then j M14 else none)) (fun j17 => (if v11 = 0 then j17 (0 : Int64) else j17 (1 : Int64)))) else j M14) else none)))) (fun j20 => (if v9 = 0 then j20 (0 : Int32) else j20 (1 : Int32)))))))) (fun j22 => (if v3 = 0 then j22 (0 : Int32) else j22 (1 : Int32))))))
set_option maxRecDepth 100000 in
theorem c_law_52 {Γ : WC} {X : MX} (hN : HN Γ) (hC : NC Γ) (C : CX Γ X cL_law 9 RL (some .boolean) room_1) {Z b L cb sb : Nat} {xs : Nat → Int32} (hX : SX Γ X b L xs) (hcb : cb + 8 ≤ 601024 ∧ sb + 48 ≤ 7293034) {M : Mem} {i : Int32} {j : Mem → Option Unit} {rM : Unit} (hj : ∀ M1, j M1 = some rM → G Γ X M1 (cb + 8) (sb + 48) [some (.ref b), some (.ref (wad Γ 0)), some (.ref (wad Γ 108)), some (.ref (wad Γ 124)), some (.ref (wad Γ 125)), some (.int i)] [] 3578) (hf : f_law_52 Z L xs M i j = some rM) : G Γ X M cb sb [some (.ref b), some (.ref (wad Γ 0)), some (.ref (wad Γ 108)), some (.ref (wad Γ 124)), some (.ref (wad Γ 125)), some (.int i)] [] 3082 := by
  change G Γ X M (cb + 0) (sb + 0) _ _ _
  unfold f_law_52 at hf
  refine x_aload_n C rfl rfl (dkAt dk_L_law_37 1 rfl) 3083 rfl ?_
  refine x_aload_n C rfl rfl (dkAt dk_L_law_37 2 rfl) 3084 rfl ?_
  refine x_iload C rfl (dkAt dk_L_law_37 3 rfl) 3086 rfl ?_
  refine x_iconst C (v := (1 : Int32)) (by decide) (dkAt dk_L_law_37 4 rfl) 3087 rfl ?_
  refine x_iadd C (dkAt dk_L_law_37 5 rfl) 3088 rfl ?_
  refine x_sld C hX (dkAt dk_L_law_37 6 rfl) 3089 rfl hf (fun v1 hf => ?_)
  refine x_aload_n C rfl rfl (dkAt dk_L_law_37 7 rfl) 3090 rfl ?_
  refine x_iload C rfl (dkAt dk_L_law_37 8 rfl) 3092 rfl ?_
  refine x_iconst C (v := (2 : Int32)) (by decide) (dkAt dk_L_law_37 9 rfl) 3093 rfl ?_
  refine x_iadd C (dkAt dk_L_law_37 10 rfl) 3094 rfl ?_
  refine x_sld C hX (dkAt dk_L_law_37 11 rfl) 3095 rfl hf (fun v2 hf => ?_)
  refine x_aload_n C rfl rfl (dkAt dk_L_law_37 12 rfl) 3096 rfl ?_
  refine x_iload C rfl (dkAt dk_L_law_37 13 rfl) 3098 rfl ?_
  refine x_iconst C (v := (3 : Int32)) (by decide) (dkAt dk_L_law_37 14 rfl) 3099 rfl ?_
  refine x_iadd C (dkAt dk_L_law_37 15 rfl) 3100 rfl ?_
  refine x_sld C hX (dkAt dk_L_law_37 16 rfl) 3101 rfl hf (fun v3 hf => ?_)
  refine x_join hf (fun t4 => G Γ X M (cb + 0) (sb + 0) [some (.ref b), some (.ref (wad Γ 0)), some (.ref (wad Γ 108)), some (.ref (wad Γ 124)), some (.ref (wad Γ 125)), some (.int i)] [.int t4, .int v2, .int v1, .ref (wad Γ 0)] 3109) (fun t4 hf => ?_) (fun j22 hj22 hf => ?_)
  · refine x_aload_n C rfl rfl (dkAt dk_L_law_37 21 rfl) 3110 rfl ?_
    obtain ⟨v5, M6, h21, hf⟩ := cl_inv hf
    refine x_cW C (c_L_permit hN hC h21) mww_L_permit ln_RL_366 (ro_law hcb (by decide) (by decide) (by decide) (by decide)) rfl rfl (Nat.le_of_ble_eq_true rfl) (dkAt dk_L_law_37 22 rfl) 3113 rfl (cb + 4) (sb + 24) rfl rfl ?_
    refine x_istore C (L1 := [some (.ref b), some (.ref (wad Γ 0)), some (.ref (wad Γ 108)), some (.ref (wad Γ 124)), some (.ref (wad Γ 125)), some (.int i), some (.int v5)]) (dkAt dk_L_law_37 23 rfl) 3115 rfl (by decide) rfl ?_
    refine x_aload_n C rfl rfl (dkAt dk_L_law_37 24 rfl) 3116 rfl ?_
    refine x_aload_n C rfl rfl (dkAt dk_L_law_37 25 rfl) 3117 rfl ?_
    refine x_iload C rfl (dkAt dk_L_law_37 26 rfl) 3119 rfl ?_
    refine x_iconst C (v := (1 : Int32)) (by decide) (dkAt dk_L_law_37 27 rfl) 3120 rfl ?_
    refine x_iadd C (dkAt dk_L_law_37 28 rfl) 3121 rfl ?_
    refine x_sld C hX (dkAt dk_L_law_37 29 rfl) 3122 rfl hf (fun v7 hf => ?_)
    refine x_aload_n C rfl rfl (dkAt dk_L_law_37 30 rfl) 3123 rfl ?_
    refine x_iload C rfl (dkAt dk_L_law_37 31 rfl) 3125 rfl ?_
    refine x_iconst C (v := (2 : Int32)) (by decide) (dkAt dk_L_law_37 32 rfl) 3126 rfl ?_
    refine x_iadd C (dkAt dk_L_law_37 33 rfl) 3127 rfl ?_
    refine x_sld C hX (dkAt dk_L_law_37 34 rfl) 3128 rfl hf (fun v8 hf => ?_)
    refine x_aload_n C rfl rfl (dkAt dk_L_law_37 35 rfl) 3129 rfl ?_
    refine x_iload C rfl (dkAt dk_L_law_37 36 rfl) 3131 rfl ?_
    refine x_iconst C (v := (3 : Int32)) (by decide) (dkAt dk_L_law_37 37 rfl) 3132 rfl ?_
    refine x_iadd C (dkAt dk_L_law_37 38 rfl) 3133 rfl ?_
    refine x_sld C hX (dkAt dk_L_law_37 39 rfl) 3134 rfl hf (fun v9 hf => ?_)
    refine x_join hf (fun t10 => G Γ X M6 (cb + 4) (sb + 24) [some (.ref b), some (.ref (wad Γ 0)), some (.ref (wad Γ 108)), some (.ref (wad Γ 124)), some (.ref (wad Γ 125)), some (.int i), some (.int v5)] [.int t10, .int v8, .int v7, .ref (wad Γ 108)] 3142) (fun t10 hf => ?_) (fun j20 hj20 hf => ?_)
    · obtain ⟨v11, M12, h19, hf⟩ := cl_inv hf
      refine x_cVi C (c_X12_permit hN h19) mw_X12_permit ln_RL_369 mi_X12_permit (hN.rc (ci := 12) sh108 rc12) (ro_law hcb (by decide) (by decide) (by decide) (by decide)) rfl rfl (Nat.le_of_ble_eq_true rfl) (dkAt dk_L_law_37 44 rfl) 3145 rfl (cb + 4) (sb + 24) rfl rfl ?_
      refine x_istore C (L1 := [some (.ref b), some (.ref (wad Γ 0)), some (.ref (wad Γ 108)), some (.ref (wad Γ 124)), some (.ref (wad Γ 125)), some (.int i), some (.int v5), some (.int v11)]) (dkAt dk_L_law_37 45 rfl) 3147 rfl (by decide) rfl ?_
      refine x_aload_n C rfl rfl (dkAt dk_L_law_37 46 rfl) 3148 rfl ?_
      obtain ⟨v13, M14, h18, hf⟩ := cl_inv hf
      refine x_cVi C (c_X12_thrown hN h18) mw_X12_thrown ln_RL_202 mi_X12_thrown (hN.rc (ci := 12) sh108 rc12) (ro_law hcb (by decide) (by decide) (by decide) (by decide)) rfl rfl (Nat.le_of_ble_eq_true rfl) (dkAt dk_L_law_37 47 rfl) 3151 rfl (cb + 4) (sb + 24) rfl rfl ?_
      refine x_iload C rfl (dkAt dk_L_law_38 0 rfl) 3153 rfl ?_
      refine x_icmp_eq C 3158 (dkAt dk_L_law_38 1 rfl) 3156 rfl (by decide) hf (fun hf => ?_) (fun hf => ?_)
      · refine x_iload C rfl (dkAt dk_L_law_38 4 rfl) 3160 rfl ?_
        refine x_if_ne C 3182 (dkAt dk_L_law_38 5 rfl) 3163 rfl (by decide) hf (fun hf => ?_) (fun hf => ?_)
        · refine x_goto C 3578 (dkAt dk_L_law_38 18 rfl) (by decide) ?_
          exact G.weak (L := [some (.ref b), some (.ref (wad Γ 0)), some (.ref (wad Γ 108)), some (.ref (wad Γ 124)), some (.ref (wad Γ 125)), some (.int i)]) ⟨rfl, rfl, rfl, rfl, rfl, rfl, trivial⟩ (G.wide (by omega) (by omega) (hj _ hf))
        · refine x_aload_n C rfl rfl (dkAt dk_L_law_38 6 rfl) 3164 rfl ?_
          refine x_iconst C (v := (0 : Int32)) (by decide) (dkAt dk_L_law_38 7 rfl) 3165 rfl ?_
          refine x_lald C (hN.sh sh124) (dkAt dk_L_law_38 8 rfl) 3166 rfl hf (fun v15 hf => ?_)
          refine x_iload C rfl (dkAt dk_L_law_38 9 rfl) 3168 rfl ?_
          refine x_join hf (fun t16 => G Γ X M14 (cb + 4) (sb + 24) [some (.ref b), some (.ref (wad Γ 0)), some (.ref (wad Γ 108)), some (.ref (wad Γ 124)), some (.ref (wad Γ 125)), some (.int i)] [.long t16, .long v15] 3176) (fun t16 hf => ?_) (fun j17 hj17 hf => ?_)
          · refine x_lcmp_eq C 3182 (dkAt dk_L_law_38 14 rfl) 3180 rfl (dkAt dk_L_law_38 15 rfl) (by decide) hf (fun hf => ?_) (fun hf => ?_)
            · refine x_goto C 3578 (dkAt dk_L_law_38 18 rfl) (by decide) ?_
              exact G.weak (L := [some (.ref b), some (.ref (wad Γ 0)), some (.ref (wad Γ 108)), some (.ref (wad Γ 124)), some (.ref (wad Γ 125)), some (.int i)]) ⟨rfl, rfl, rfl, rfl, rfl, rfl, trivial⟩ (G.wide (by omega) (by omega) (hj _ hf))
            · refine x_iconst C (v := (0 : Int32)) (by decide) (dkAt dk_L_law_38 16 rfl) 3181 rfl ?_
              exact nomatch hf
          · refine x_if_eq C 3175 (dkAt dk_L_law_38 10 rfl) 3171 rfl (by decide) hf (fun hf => ?_) (fun hf => ?_)
            · refine x_lconst C (v := (0 : Int64)) (by decide) (dkAt dk_L_law_38 13 rfl) 3176 rfl ?_
              exact G.weak (L := [some (.ref b), some (.ref (wad Γ 0)), some (.ref (wad Γ 108)), some (.ref (wad Γ 124)), some (.ref (wad Γ 125)), some (.int i)]) ⟨rfl, rfl, rfl, rfl, rfl, rfl, trivial⟩ (hj17 _ hf)
            · refine x_lconst C (v := (1 : Int64)) (by decide) (dkAt dk_L_law_38 11 rfl) 3172 rfl ?_
              refine x_goto C 3176 (dkAt dk_L_law_38 12 rfl) (by decide) ?_
              exact G.weak (L := [some (.ref b), some (.ref (wad Γ 0)), some (.ref (wad Γ 108)), some (.ref (wad Γ 124)), some (.ref (wad Γ 125)), some (.int i)]) ⟨rfl, rfl, rfl, rfl, rfl, rfl, trivial⟩ (hj17 _ hf)
      · refine x_iconst C (v := (0 : Int32)) (by decide) (dkAt dk_L_law_38 2 rfl) 3157 rfl ?_
        exact nomatch hf
    · refine x_if_eq C 3141 (dkAt dk_L_law_37 40 rfl) 3137 rfl (by decide) hf (fun hf => ?_) (fun hf => ?_)
      · refine x_iconst C (v := (0 : Int32)) (by decide) (dkAt dk_L_law_37 43 rfl) 3142 rfl ?_
        exact G.weak (L := [some (.ref b), some (.ref (wad Γ 0)), some (.ref (wad Γ 108)), some (.ref (wad Γ 124)), some (.ref (wad Γ 125)), some (.int i), some (.int v5)]) ⟨rfl, rfl, rfl, rfl, rfl, rfl, rfl, trivial⟩ (hj20 _ hf)
      · refine x_iconst C (v := (1 : Int32)) (by decide) (dkAt dk_L_law_37 41 rfl) 3138 rfl ?_
        refine x_goto C 3142 (dkAt dk_L_law_37 42 rfl) (by decide) ?_
        exact G.weak (L := [some (.ref b), some (.ref (wad Γ 0)), some (.ref (wad Γ 108)), some (.ref (wad Γ 124)), some (.ref (wad Γ 125)), some (.int i), some (.int v5)]) ⟨rfl, rfl, rfl, rfl, rfl, rfl, rfl, trivial⟩ (hj20 _ hf)
  · refine x_if_eq C 3108 (dkAt dk_L_law_37 17 rfl) 3104 rfl (by decide) hf (fun hf => ?_) (fun hf => ?_)
    · refine x_iconst C (v := (0 : Int32)) (by decide) (dkAt dk_L_law_37 20 rfl) 3109 rfl ?_
      exact G.weak (L := [some (.ref b), some (.ref (wad Γ 0)), some (.ref (wad Γ 108)), some (.ref (wad Γ 124)), some (.ref (wad Γ 125)), some (.int i)]) ⟨rfl, rfl, rfl, rfl, rfl, rfl, trivial⟩ (hj22 _ hf)
    · refine x_iconst C (v := (1 : Int32)) (by decide) (dkAt dk_L_law_37 18 rfl) 3105 rfl ?_
      refine x_goto C 3109 (dkAt dk_L_law_37 19 rfl) (by decide) ?_
      exact G.weak (L := [some (.ref b), some (.ref (wad Γ 0)), some (.ref (wad Γ 108)), some (.ref (wad Γ 124)), some (.ref (wad Γ 125)), some (.int i)]) ⟨rfl, rfl, rfl, rfl, rfl, rfl, trivial⟩ (hj22 _ hf)
def f_law_53 (Z L : Nat) (xs : Nat → Int32) (M : Mem) (i : Int32) (j : Mem → Option Unit) : Option Unit :=
  rdX xs L (i + (1 : Int32)) (fun v1 => rdX xs L (i + (2 : Int32)) (fun v2 => cl (f_L_setLimit Z M v1 v2) (fun v3 M4 => rdX xs L (i + (1 : Int32)) (fun v5 => rdX xs L (i + (2 : Int32)) (fun v6 => cl (f_X12_setLimit Z M4 v5 v6) (fun v7 M8 => cl (f_X12_thrown Z M8) (fun v9 M10 => (if v9 = v3 then (if v3 = 0 then rdL M10 124 1 (0 : Int32) (fun v11 => (if v11 = v7.toInt64 then j M10 else none)) else j M10) else none))))))))
set_option maxRecDepth 100000 in
theorem c_law_53 {Γ : WC} {X : MX} (hN : HN Γ) (hC : NC Γ) (C : CX Γ X cL_law 9 RL (some .boolean) room_1) {Z b L cb sb : Nat} {xs : Nat → Int32} (hX : SX Γ X b L xs) (hcb : cb + 8 ≤ 601024 ∧ sb + 48 ≤ 7293034) {M : Mem} {i : Int32} {j : Mem → Option Unit} {rM : Unit} (hj : ∀ M1, j M1 = some rM → G Γ X M1 (cb + 8) (sb + 48) [some (.ref b), some (.ref (wad Γ 0)), some (.ref (wad Γ 108)), some (.ref (wad Γ 124)), some (.ref (wad Γ 125)), some (.int i)] [] 3578) (hf : f_law_53 Z L xs M i j = some rM) : G Γ X M cb sb [some (.ref b), some (.ref (wad Γ 0)), some (.ref (wad Γ 108)), some (.ref (wad Γ 124)), some (.ref (wad Γ 125)), some (.int i)] [] 3185 := by
  change G Γ X M (cb + 0) (sb + 0) _ _ _
  unfold f_law_53 at hf
  refine x_aload_n C rfl rfl (dkAt dk_L_law_38 19 rfl) 3186 rfl ?_
  refine x_aload_n C rfl rfl (dkAt dk_L_law_38 20 rfl) 3187 rfl ?_
  refine x_iload C rfl (dkAt dk_L_law_38 21 rfl) 3189 rfl ?_
  refine x_iconst C (v := (1 : Int32)) (by decide) (dkAt dk_L_law_38 22 rfl) 3190 rfl ?_
  refine x_iadd C (dkAt dk_L_law_38 23 rfl) 3191 rfl ?_
  refine x_sld C hX (dkAt dk_L_law_38 24 rfl) 3192 rfl hf (fun v1 hf => ?_)
  refine x_aload_n C rfl rfl (dkAt dk_L_law_38 25 rfl) 3193 rfl ?_
  refine x_iload C rfl (dkAt dk_L_law_38 26 rfl) 3195 rfl ?_
  refine x_iconst C (v := (2 : Int32)) (by decide) (dkAt dk_L_law_38 27 rfl) 3196 rfl ?_
  refine x_iadd C (dkAt dk_L_law_38 28 rfl) 3197 rfl ?_
  refine x_sld C hX (dkAt dk_L_law_38 29 rfl) 3198 rfl hf (fun v2 hf => ?_)
  refine x_aload_n C rfl rfl (dkAt dk_L_law_38 30 rfl) 3199 rfl ?_
  obtain ⟨v3, M4, h14, hf⟩ := cl_inv hf
  refine x_cW C (c_L_setLimit hN hC h14) mww_L_setLimit ln_RL_370 (ro_law hcb (by decide) (by decide) (by decide) (by decide)) rfl rfl (Nat.le_of_ble_eq_true rfl) (dkAt dk_L_law_38 31 rfl) 3202 rfl (cb + 3) (sb + 18) rfl rfl ?_
  refine x_istore C (L1 := [some (.ref b), some (.ref (wad Γ 0)), some (.ref (wad Γ 108)), some (.ref (wad Γ 124)), some (.ref (wad Γ 125)), some (.int i), some (.int v3)]) (dkAt dk_L_law_38 32 rfl) 3204 rfl (by decide) rfl ?_
  refine x_aload_n C rfl rfl (dkAt dk_L_law_38 33 rfl) 3205 rfl ?_
  refine x_aload_n C rfl rfl (dkAt dk_L_law_38 34 rfl) 3206 rfl ?_
  refine x_iload C rfl (dkAt dk_L_law_38 35 rfl) 3208 rfl ?_
  refine x_iconst C (v := (1 : Int32)) (by decide) (dkAt dk_L_law_38 36 rfl) 3209 rfl ?_
  refine x_iadd C (dkAt dk_L_law_38 37 rfl) 3210 rfl ?_
  refine x_sld C hX (dkAt dk_L_law_38 38 rfl) 3211 rfl hf (fun v5 hf => ?_)
  refine x_aload_n C rfl rfl (dkAt dk_L_law_38 39 rfl) 3212 rfl ?_
  refine x_iload C rfl (dkAt dk_L_law_38 40 rfl) 3214 rfl ?_
  refine x_iconst C (v := (2 : Int32)) (by decide) (dkAt dk_L_law_38 41 rfl) 3215 rfl ?_
  refine x_iadd C (dkAt dk_L_law_38 42 rfl) 3216 rfl ?_
  refine x_sld C hX (dkAt dk_L_law_38 43 rfl) 3217 rfl hf (fun v6 hf => ?_)
  obtain ⟨v7, M8, h13, hf⟩ := cl_inv hf
  refine x_cVi C (c_X12_setLimit hN h13) mw_X12_setLimit ln_RL_372 mi_X12_setLimit (hN.rc (ci := 12) sh108 rc12) (ro_law hcb (by decide) (by decide) (by decide) (by decide)) rfl rfl (Nat.le_of_ble_eq_true rfl) (dkAt dk_L_law_38 44 rfl) 3220 rfl (cb + 3) (sb + 18) rfl rfl ?_
  refine x_istore C (L1 := [some (.ref b), some (.ref (wad Γ 0)), some (.ref (wad Γ 108)), some (.ref (wad Γ 124)), some (.ref (wad Γ 125)), some (.int i), some (.int v3), some (.int v7)]) (dkAt dk_L_law_38 45 rfl) 3222 rfl (by decide) rfl ?_
  refine x_aload_n C rfl rfl (dkAt dk_L_law_38 46 rfl) 3223 rfl ?_
  obtain ⟨v9, M10, h12, hf⟩ := cl_inv hf
  refine x_cVi C (c_X12_thrown hN h12) mw_X12_thrown ln_RL_202 mi_X12_thrown (hN.rc (ci := 12) sh108 rc12) (ro_law hcb (by decide) (by decide) (by decide) (by decide)) rfl rfl (Nat.le_of_ble_eq_true rfl) (dkAt dk_L_law_38 47 rfl) 3226 rfl (cb + 3) (sb + 18) rfl rfl ?_
  refine x_iload C rfl (dkAt dk_L_law_39 0 rfl) 3228 rfl ?_
  refine x_icmp_eq C 3233 (dkAt dk_L_law_39 1 rfl) 3231 rfl (by decide) hf (fun hf => ?_) (fun hf => ?_)
  · refine x_iload C rfl (dkAt dk_L_law_39 4 rfl) 3235 rfl ?_
    refine x_if_ne C 3250 (dkAt dk_L_law_39 5 rfl) 3238 rfl (by decide) hf (fun hf => ?_) (fun hf => ?_)
    · refine x_goto C 3578 (dkAt dk_L_law_39 15 rfl) (by decide) ?_
      exact G.weak (L := [some (.ref b), some (.ref (wad Γ 0)), some (.ref (wad Γ 108)), some (.ref (wad Γ 124)), some (.ref (wad Γ 125)), some (.int i)]) ⟨rfl, rfl, rfl, rfl, rfl, rfl, trivial⟩ (G.wide (by omega) (by omega) (hj _ hf))
    · refine x_aload_n C rfl rfl (dkAt dk_L_law_39 6 rfl) 3239 rfl ?_
      refine x_iconst C (v := (0 : Int32)) (by decide) (dkAt dk_L_law_39 7 rfl) 3240 rfl ?_
      refine x_lald C (hN.sh sh124) (dkAt dk_L_law_39 8 rfl) 3241 rfl hf (fun v11 hf => ?_)
      refine x_iload C rfl (dkAt dk_L_law_39 9 rfl) 3243 rfl ?_
      refine x_i2l C (dkAt dk_L_law_39 10 rfl) 3244 rfl ?_
      refine x_lcmp_eq C 3250 (dkAt dk_L_law_39 11 rfl) 3248 rfl (dkAt dk_L_law_39 12 rfl) (by decide) hf (fun hf => ?_) (fun hf => ?_)
      · refine x_goto C 3578 (dkAt dk_L_law_39 15 rfl) (by decide) ?_
        exact G.weak (L := [some (.ref b), some (.ref (wad Γ 0)), some (.ref (wad Γ 108)), some (.ref (wad Γ 124)), some (.ref (wad Γ 125)), some (.int i)]) ⟨rfl, rfl, rfl, rfl, rfl, rfl, trivial⟩ (G.wide (by omega) (by omega) (hj _ hf))
      · refine x_iconst C (v := (0 : Int32)) (by decide) (dkAt dk_L_law_39 13 rfl) 3249 rfl ?_
        exact nomatch hf
  · refine x_iconst C (v := (0 : Int32)) (by decide) (dkAt dk_L_law_39 2 rfl) 3232 rfl ?_
    exact nomatch hf
def f_law_54 (Z L : Nat) (xs : Nat → Int32) (M : Mem) (i : Int32) (j : Mem → Option Unit) : Option Unit :=
  rdX xs L (i + (1 : Int32)) (fun v1 => cl (f_L_setStart Z M v1) (fun v2 M3 => rdX xs L (i + (1 : Int32)) (fun v4 => cl (f_X12_setStart Z M3 v4) (fun v5 M6 => cl (f_X12_thrown Z M6) (fun v7 M8 => (if v7 = v2 then (if v2 = 0 then rdL M8 124 1 (0 : Int32) (fun v9 => (if v9 = v5.toInt64 then j M8 else none)) else j M8) else none))))))
set_option maxRecDepth 100000 in
theorem c_law_54 {Γ : WC} {X : MX} (hN : HN Γ) (hC : NC Γ) (C : CX Γ X cL_law 9 RL (some .boolean) room_1) {Z b L cb sb : Nat} {xs : Nat → Int32} (hX : SX Γ X b L xs) (hcb : cb + 8 ≤ 601024 ∧ sb + 48 ≤ 7293034) {M : Mem} {i : Int32} {j : Mem → Option Unit} {rM : Unit} (hj : ∀ M1, j M1 = some rM → G Γ X M1 (cb + 8) (sb + 48) [some (.ref b), some (.ref (wad Γ 0)), some (.ref (wad Γ 108)), some (.ref (wad Γ 124)), some (.ref (wad Γ 125)), some (.int i)] [] 3578) (hf : f_law_54 Z L xs M i j = some rM) : G Γ X M cb sb [some (.ref b), some (.ref (wad Γ 0)), some (.ref (wad Γ 108)), some (.ref (wad Γ 124)), some (.ref (wad Γ 125)), some (.int i)] [] 3253 := by
  change G Γ X M (cb + 0) (sb + 0) _ _ _
  unfold f_law_54 at hf
  refine x_aload_n C rfl rfl (dkAt dk_L_law_39 16 rfl) 3254 rfl ?_
  refine x_aload_n C rfl rfl (dkAt dk_L_law_39 17 rfl) 3255 rfl ?_
  refine x_iload C rfl (dkAt dk_L_law_39 18 rfl) 3257 rfl ?_
  refine x_iconst C (v := (1 : Int32)) (by decide) (dkAt dk_L_law_39 19 rfl) 3258 rfl ?_
  refine x_iadd C (dkAt dk_L_law_39 20 rfl) 3259 rfl ?_
  refine x_sld C hX (dkAt dk_L_law_39 21 rfl) 3260 rfl hf (fun v1 hf => ?_)
  refine x_aload_n C rfl rfl (dkAt dk_L_law_39 22 rfl) 3261 rfl ?_
  obtain ⟨v2, M3, h12, hf⟩ := cl_inv hf
  refine x_cW C (c_L_setStart hN hC h12) mww_L_setStart ln_RL_373 (ro_law hcb (by decide) (by decide) (by decide) (by decide)) rfl rfl (Nat.le_of_ble_eq_true rfl) (dkAt dk_L_law_39 23 rfl) 3264 rfl (cb + 2) (sb + 12) rfl rfl ?_
  refine x_istore C (L1 := [some (.ref b), some (.ref (wad Γ 0)), some (.ref (wad Γ 108)), some (.ref (wad Γ 124)), some (.ref (wad Γ 125)), some (.int i), some (.int v2)]) (dkAt dk_L_law_39 24 rfl) 3266 rfl (by decide) rfl ?_
  refine x_aload_n C rfl rfl (dkAt dk_L_law_39 25 rfl) 3267 rfl ?_
  refine x_aload_n C rfl rfl (dkAt dk_L_law_39 26 rfl) 3268 rfl ?_
  refine x_iload C rfl (dkAt dk_L_law_39 27 rfl) 3270 rfl ?_
  refine x_iconst C (v := (1 : Int32)) (by decide) (dkAt dk_L_law_39 28 rfl) 3271 rfl ?_
  refine x_iadd C (dkAt dk_L_law_39 29 rfl) 3272 rfl ?_
  refine x_sld C hX (dkAt dk_L_law_39 30 rfl) 3273 rfl hf (fun v4 hf => ?_)
  obtain ⟨v5, M6, h11, hf⟩ := cl_inv hf
  refine x_cVi C (c_X12_setStart hN h11) mw_X12_setStart ln_RL_375 mi_X12_setStart (hN.rc (ci := 12) sh108 rc12) (ro_law hcb (by decide) (by decide) (by decide) (by decide)) rfl rfl (Nat.le_of_ble_eq_true rfl) (dkAt dk_L_law_39 31 rfl) 3276 rfl (cb + 2) (sb + 12) rfl rfl ?_
  refine x_istore C (L1 := [some (.ref b), some (.ref (wad Γ 0)), some (.ref (wad Γ 108)), some (.ref (wad Γ 124)), some (.ref (wad Γ 125)), some (.int i), some (.int v2), some (.int v5)]) (dkAt dk_L_law_39 32 rfl) 3278 rfl (by decide) rfl ?_
  refine x_aload_n C rfl rfl (dkAt dk_L_law_39 33 rfl) 3279 rfl ?_
  obtain ⟨v7, M8, h10, hf⟩ := cl_inv hf
  refine x_cVi C (c_X12_thrown hN h10) mw_X12_thrown ln_RL_202 mi_X12_thrown (hN.rc (ci := 12) sh108 rc12) (ro_law hcb (by decide) (by decide) (by decide) (by decide)) rfl rfl (Nat.le_of_ble_eq_true rfl) (dkAt dk_L_law_39 34 rfl) 3282 rfl (cb + 2) (sb + 12) rfl rfl ?_
  refine x_iload C rfl (dkAt dk_L_law_39 35 rfl) 3284 rfl ?_
  refine x_icmp_eq C 3289 (dkAt dk_L_law_39 36 rfl) 3287 rfl (by decide) hf (fun hf => ?_) (fun hf => ?_)
  · refine x_iload C rfl (dkAt dk_L_law_39 39 rfl) 3291 rfl ?_
    refine x_if_ne C 3306 (dkAt dk_L_law_39 40 rfl) 3294 rfl (by decide) hf (fun hf => ?_) (fun hf => ?_)
    · refine x_goto C 3578 (dkAt dk_L_law_40 2 rfl) (by decide) ?_
      exact G.weak (L := [some (.ref b), some (.ref (wad Γ 0)), some (.ref (wad Γ 108)), some (.ref (wad Γ 124)), some (.ref (wad Γ 125)), some (.int i)]) ⟨rfl, rfl, rfl, rfl, rfl, rfl, trivial⟩ (G.wide (by omega) (by omega) (hj _ hf))
    · refine x_aload_n C rfl rfl (dkAt dk_L_law_39 41 rfl) 3295 rfl ?_
      refine x_iconst C (v := (0 : Int32)) (by decide) (dkAt dk_L_law_39 42 rfl) 3296 rfl ?_
      refine x_lald C (hN.sh sh124) (dkAt dk_L_law_39 43 rfl) 3297 rfl hf (fun v9 hf => ?_)
      refine x_iload C rfl (dkAt dk_L_law_39 44 rfl) 3299 rfl ?_
      refine x_i2l C (dkAt dk_L_law_39 45 rfl) 3300 rfl ?_
      refine x_lcmp_eq C 3306 (dkAt dk_L_law_39 46 rfl) 3304 rfl (dkAt dk_L_law_39 47 rfl) (by decide) hf (fun hf => ?_) (fun hf => ?_)
      · refine x_goto C 3578 (dkAt dk_L_law_40 2 rfl) (by decide) ?_
        exact G.weak (L := [some (.ref b), some (.ref (wad Γ 0)), some (.ref (wad Γ 108)), some (.ref (wad Γ 124)), some (.ref (wad Γ 125)), some (.int i)]) ⟨rfl, rfl, rfl, rfl, rfl, rfl, trivial⟩ (G.wide (by omega) (by omega) (hj _ hf))
      · refine x_iconst C (v := (0 : Int32)) (by decide) (dkAt dk_L_law_40 0 rfl) 3305 rfl ?_
        exact nomatch hf
  · refine x_iconst C (v := (0 : Int32)) (by decide) (dkAt dk_L_law_39 37 rfl) 3288 rfl ?_
    exact nomatch hf
def f_law_55 (Z L : Nat) (xs : Nat → Int32) (M : Mem) (i : Int32) (j : Mem → Option Unit) : Option Unit :=
  rdX xs L (i + (1 : Int32)) (fun v1 => cl (f_L_setHorizon Z M v1) (fun v2 M3 => rdX xs L (i + (1 : Int32)) (fun v4 => cl (f_X12_setHorizon Z M3 v4) (fun v5 M6 => cl (f_X12_thrown Z M6) (fun v7 M8 => (if v7 = v2 then (if v2 = 0 then rdL M8 124 1 (0 : Int32) (fun v9 => (if v9 = v5.toInt64 then j M8 else none)) else j M8) else none))))))
set_option maxRecDepth 100000 in
theorem c_law_55 {Γ : WC} {X : MX} (hN : HN Γ) (hC : NC Γ) (C : CX Γ X cL_law 9 RL (some .boolean) room_1) {Z b L cb sb : Nat} {xs : Nat → Int32} (hX : SX Γ X b L xs) (hcb : cb + 8 ≤ 601024 ∧ sb + 48 ≤ 7293034) {M : Mem} {i : Int32} {j : Mem → Option Unit} {rM : Unit} (hj : ∀ M1, j M1 = some rM → G Γ X M1 (cb + 8) (sb + 48) [some (.ref b), some (.ref (wad Γ 0)), some (.ref (wad Γ 108)), some (.ref (wad Γ 124)), some (.ref (wad Γ 125)), some (.int i)] [] 3578) (hf : f_law_55 Z L xs M i j = some rM) : G Γ X M cb sb [some (.ref b), some (.ref (wad Γ 0)), some (.ref (wad Γ 108)), some (.ref (wad Γ 124)), some (.ref (wad Γ 125)), some (.int i)] [] 3309 := by
  change G Γ X M (cb + 0) (sb + 0) _ _ _
  unfold f_law_55 at hf
  refine x_aload_n C rfl rfl (dkAt dk_L_law_40 3 rfl) 3310 rfl ?_
  refine x_aload_n C rfl rfl (dkAt dk_L_law_40 4 rfl) 3311 rfl ?_
  refine x_iload C rfl (dkAt dk_L_law_40 5 rfl) 3313 rfl ?_
  refine x_iconst C (v := (1 : Int32)) (by decide) (dkAt dk_L_law_40 6 rfl) 3314 rfl ?_
  refine x_iadd C (dkAt dk_L_law_40 7 rfl) 3315 rfl ?_
  refine x_sld C hX (dkAt dk_L_law_40 8 rfl) 3316 rfl hf (fun v1 hf => ?_)
  refine x_aload_n C rfl rfl (dkAt dk_L_law_40 9 rfl) 3317 rfl ?_
  obtain ⟨v2, M3, h12, hf⟩ := cl_inv hf
  refine x_cW C (c_L_setHorizon hN hC h12) mww_L_setHorizon ln_RL_376 (ro_law hcb (by decide) (by decide) (by decide) (by decide)) rfl rfl (Nat.le_of_ble_eq_true rfl) (dkAt dk_L_law_40 10 rfl) 3320 rfl (cb + 2) (sb + 12) rfl rfl ?_
  refine x_istore C (L1 := [some (.ref b), some (.ref (wad Γ 0)), some (.ref (wad Γ 108)), some (.ref (wad Γ 124)), some (.ref (wad Γ 125)), some (.int i), some (.int v2)]) (dkAt dk_L_law_40 11 rfl) 3322 rfl (by decide) rfl ?_
  refine x_aload_n C rfl rfl (dkAt dk_L_law_40 12 rfl) 3323 rfl ?_
  refine x_aload_n C rfl rfl (dkAt dk_L_law_40 13 rfl) 3324 rfl ?_
  refine x_iload C rfl (dkAt dk_L_law_40 14 rfl) 3326 rfl ?_
  refine x_iconst C (v := (1 : Int32)) (by decide) (dkAt dk_L_law_40 15 rfl) 3327 rfl ?_
  refine x_iadd C (dkAt dk_L_law_40 16 rfl) 3328 rfl ?_
  refine x_sld C hX (dkAt dk_L_law_40 17 rfl) 3329 rfl hf (fun v4 hf => ?_)
  obtain ⟨v5, M6, h11, hf⟩ := cl_inv hf
  refine x_cVi C (c_X12_setHorizon hN h11) mw_X12_setHorizon ln_RL_378 mi_X12_setHorizon (hN.rc (ci := 12) sh108 rc12) (ro_law hcb (by decide) (by decide) (by decide) (by decide)) rfl rfl (Nat.le_of_ble_eq_true rfl) (dkAt dk_L_law_40 18 rfl) 3332 rfl (cb + 2) (sb + 12) rfl rfl ?_
  refine x_istore C (L1 := [some (.ref b), some (.ref (wad Γ 0)), some (.ref (wad Γ 108)), some (.ref (wad Γ 124)), some (.ref (wad Γ 125)), some (.int i), some (.int v2), some (.int v5)]) (dkAt dk_L_law_40 19 rfl) 3334 rfl (by decide) rfl ?_
  refine x_aload_n C rfl rfl (dkAt dk_L_law_40 20 rfl) 3335 rfl ?_
  obtain ⟨v7, M8, h10, hf⟩ := cl_inv hf
  refine x_cVi C (c_X12_thrown hN h10) mw_X12_thrown ln_RL_202 mi_X12_thrown (hN.rc (ci := 12) sh108 rc12) (ro_law hcb (by decide) (by decide) (by decide) (by decide)) rfl rfl (Nat.le_of_ble_eq_true rfl) (dkAt dk_L_law_40 21 rfl) 3338 rfl (cb + 2) (sb + 12) rfl rfl ?_
  refine x_iload C rfl (dkAt dk_L_law_40 22 rfl) 3340 rfl ?_
  refine x_icmp_eq C 3345 (dkAt dk_L_law_40 23 rfl) 3343 rfl (by decide) hf (fun hf => ?_) (fun hf => ?_)
  · refine x_iload C rfl (dkAt dk_L_law_40 26 rfl) 3347 rfl ?_
    refine x_if_ne C 3362 (dkAt dk_L_law_40 27 rfl) 3350 rfl (by decide) hf (fun hf => ?_) (fun hf => ?_)
    · refine x_goto C 3578 (dkAt dk_L_law_40 37 rfl) (by decide) ?_
      exact G.weak (L := [some (.ref b), some (.ref (wad Γ 0)), some (.ref (wad Γ 108)), some (.ref (wad Γ 124)), some (.ref (wad Γ 125)), some (.int i)]) ⟨rfl, rfl, rfl, rfl, rfl, rfl, trivial⟩ (G.wide (by omega) (by omega) (hj _ hf))
    · refine x_aload_n C rfl rfl (dkAt dk_L_law_40 28 rfl) 3351 rfl ?_
      refine x_iconst C (v := (0 : Int32)) (by decide) (dkAt dk_L_law_40 29 rfl) 3352 rfl ?_
      refine x_lald C (hN.sh sh124) (dkAt dk_L_law_40 30 rfl) 3353 rfl hf (fun v9 hf => ?_)
      refine x_iload C rfl (dkAt dk_L_law_40 31 rfl) 3355 rfl ?_
      refine x_i2l C (dkAt dk_L_law_40 32 rfl) 3356 rfl ?_
      refine x_lcmp_eq C 3362 (dkAt dk_L_law_40 33 rfl) 3360 rfl (dkAt dk_L_law_40 34 rfl) (by decide) hf (fun hf => ?_) (fun hf => ?_)
      · refine x_goto C 3578 (dkAt dk_L_law_40 37 rfl) (by decide) ?_
        exact G.weak (L := [some (.ref b), some (.ref (wad Γ 0)), some (.ref (wad Γ 108)), some (.ref (wad Γ 124)), some (.ref (wad Γ 125)), some (.int i)]) ⟨rfl, rfl, rfl, rfl, rfl, rfl, trivial⟩ (G.wide (by omega) (by omega) (hj _ hf))
      · refine x_iconst C (v := (0 : Int32)) (by decide) (dkAt dk_L_law_40 35 rfl) 3361 rfl ?_
        exact nomatch hf
  · refine x_iconst C (v := (0 : Int32)) (by decide) (dkAt dk_L_law_40 24 rfl) 3344 rfl ?_
    exact nomatch hf
def f_law_56 (Z L : Nat) (xs : Nat → Int32) (M : Mem) (i : Int32) (j : Mem → Option Unit) : Option Unit :=
  cl (f_L_walk Z M) (fun v1 M2 => cl (f_X12_walk Z M2) (fun v3 M4 => cl (f_X12_thrown Z M4) (fun v5 M6 => (if v5 = v1 then (if v1 = 0 then rdL M6 124 1 (0 : Int32) (fun v7 => (if v7 = v3.toInt64 then j M6 else none)) else j M6) else none))))
set_option maxRecDepth 100000 in
theorem c_law_56 {Γ : WC} {X : MX} (hN : HN Γ) (hC : NC Γ) (C : CX Γ X cL_law 9 RL (some .boolean) room_1) {Z b L cb sb : Nat} {xs : Nat → Int32} (hX : SX Γ X b L xs) (hcb : cb + 8 ≤ 601024 ∧ sb + 48 ≤ 7293034) {M : Mem} {i : Int32} {j : Mem → Option Unit} {rM : Unit} (hj : ∀ M1, j M1 = some rM → G Γ X M1 (cb + 8) (sb + 48) [some (.ref b), some (.ref (wad Γ 0)), some (.ref (wad Γ 108)), some (.ref (wad Γ 124)), some (.ref (wad Γ 125)), some (.int i)] [] 3578) (hf : f_law_56 Z L xs M i j = some rM) : G Γ X M cb sb [some (.ref b), some (.ref (wad Γ 0)), some (.ref (wad Γ 108)), some (.ref (wad Γ 124)), some (.ref (wad Γ 125)), some (.int i)] [] 3365 := by
  change G Γ X M (cb + 0) (sb + 0) _ _ _
  unfold f_law_56 at hf
  refine x_aload_n C rfl rfl (dkAt dk_L_law_40 38 rfl) 3366 rfl ?_
  refine x_aload_n C rfl rfl (dkAt dk_L_law_40 39 rfl) 3367 rfl ?_
  obtain ⟨v1, M2, h10, hf⟩ := cl_inv hf
  refine x_cW C (c_L_walk hN hC h10) mww_L_walk ln_RL_379 (ro_law hcb (by decide) (by decide) (by decide) (by decide)) rfl rfl (Nat.le_of_ble_eq_true rfl) (dkAt dk_L_law_40 40 rfl) 3370 rfl (cb + 1) (sb + 6) rfl rfl ?_
  refine x_istore C (L1 := [some (.ref b), some (.ref (wad Γ 0)), some (.ref (wad Γ 108)), some (.ref (wad Γ 124)), some (.ref (wad Γ 125)), some (.int i), some (.int v1)]) (dkAt dk_L_law_40 41 rfl) 3372 rfl (by decide) rfl ?_
  refine x_aload_n C rfl rfl (dkAt dk_L_law_40 42 rfl) 3373 rfl ?_
  obtain ⟨v3, M4, h9, hf⟩ := cl_inv hf
  refine x_cVi C (c_X12_walk hN h9) mw_X12_walk ln_RL_381 mi_X12_walk (hN.rc (ci := 12) sh108 rc12) (ro_law hcb (by decide) (by decide) (by decide) (by decide)) rfl rfl (Nat.le_of_ble_eq_true rfl) (dkAt dk_L_law_40 43 rfl) 3376 rfl (cb + 1) (sb + 6) rfl rfl ?_
  refine x_istore C (L1 := [some (.ref b), some (.ref (wad Γ 0)), some (.ref (wad Γ 108)), some (.ref (wad Γ 124)), some (.ref (wad Γ 125)), some (.int i), some (.int v1), some (.int v3)]) (dkAt dk_L_law_40 44 rfl) 3378 rfl (by decide) rfl ?_
  refine x_aload_n C rfl rfl (dkAt dk_L_law_40 45 rfl) 3379 rfl ?_
  obtain ⟨v5, M6, h8, hf⟩ := cl_inv hf
  refine x_cVi C (c_X12_thrown hN h8) mw_X12_thrown ln_RL_202 mi_X12_thrown (hN.rc (ci := 12) sh108 rc12) (ro_law hcb (by decide) (by decide) (by decide) (by decide)) rfl rfl (Nat.le_of_ble_eq_true rfl) (dkAt dk_L_law_40 46 rfl) 3382 rfl (cb + 1) (sb + 6) rfl rfl ?_
  refine x_iload C rfl (dkAt dk_L_law_40 47 rfl) 3384 rfl ?_
  refine x_icmp_eq C 3389 (dkAt dk_L_law_41 0 rfl) 3387 rfl (by decide) hf (fun hf => ?_) (fun hf => ?_)
  · refine x_iload C rfl (dkAt dk_L_law_41 3 rfl) 3391 rfl ?_
    refine x_if_ne C 3406 (dkAt dk_L_law_41 4 rfl) 3394 rfl (by decide) hf (fun hf => ?_) (fun hf => ?_)
    · refine x_goto C 3578 (dkAt dk_L_law_41 14 rfl) (by decide) ?_
      exact G.weak (L := [some (.ref b), some (.ref (wad Γ 0)), some (.ref (wad Γ 108)), some (.ref (wad Γ 124)), some (.ref (wad Γ 125)), some (.int i)]) ⟨rfl, rfl, rfl, rfl, rfl, rfl, trivial⟩ (G.wide (by omega) (by omega) (hj _ hf))
    · refine x_aload_n C rfl rfl (dkAt dk_L_law_41 5 rfl) 3395 rfl ?_
      refine x_iconst C (v := (0 : Int32)) (by decide) (dkAt dk_L_law_41 6 rfl) 3396 rfl ?_
      refine x_lald C (hN.sh sh124) (dkAt dk_L_law_41 7 rfl) 3397 rfl hf (fun v7 hf => ?_)
      refine x_iload C rfl (dkAt dk_L_law_41 8 rfl) 3399 rfl ?_
      refine x_i2l C (dkAt dk_L_law_41 9 rfl) 3400 rfl ?_
      refine x_lcmp_eq C 3406 (dkAt dk_L_law_41 10 rfl) 3404 rfl (dkAt dk_L_law_41 11 rfl) (by decide) hf (fun hf => ?_) (fun hf => ?_)
      · refine x_goto C 3578 (dkAt dk_L_law_41 14 rfl) (by decide) ?_
        exact G.weak (L := [some (.ref b), some (.ref (wad Γ 0)), some (.ref (wad Γ 108)), some (.ref (wad Γ 124)), some (.ref (wad Γ 125)), some (.int i)]) ⟨rfl, rfl, rfl, rfl, rfl, rfl, trivial⟩ (G.wide (by omega) (by omega) (hj _ hf))
      · refine x_iconst C (v := (0 : Int32)) (by decide) (dkAt dk_L_law_41 12 rfl) 3405 rfl ?_
        exact nomatch hf
  · refine x_iconst C (v := (0 : Int32)) (by decide) (dkAt dk_L_law_41 1 rfl) 3388 rfl ?_
    exact nomatch hf
def f_law_57 (Z L : Nat) (xs : Nat → Int32) (M : Mem) (i : Int32) (j : Mem → Option Unit) : Option Unit :=
  cl (f_L_undo Z M) (fun v1 M2 => cl (f_X12_undo Z M2) (fun v3 M4 => cl (f_X12_thrown Z M4) (fun v5 M6 => (if v5 = v1 then (if v1 = 0 then rdL M6 124 1 (0 : Int32) (fun v7 => (if v7 = v3.toInt64 then j M6 else none)) else j M6) else none))))
set_option maxRecDepth 100000 in
theorem c_law_57 {Γ : WC} {X : MX} (hN : HN Γ) (hC : NC Γ) (C : CX Γ X cL_law 9 RL (some .boolean) room_1) {Z b L cb sb : Nat} {xs : Nat → Int32} (hX : SX Γ X b L xs) (hcb : cb + 8 ≤ 601024 ∧ sb + 48 ≤ 7293034) {M : Mem} {i : Int32} {j : Mem → Option Unit} {rM : Unit} (hj : ∀ M1, j M1 = some rM → G Γ X M1 (cb + 8) (sb + 48) [some (.ref b), some (.ref (wad Γ 0)), some (.ref (wad Γ 108)), some (.ref (wad Γ 124)), some (.ref (wad Γ 125)), some (.int i)] [] 3578) (hf : f_law_57 Z L xs M i j = some rM) : G Γ X M cb sb [some (.ref b), some (.ref (wad Γ 0)), some (.ref (wad Γ 108)), some (.ref (wad Γ 124)), some (.ref (wad Γ 125)), some (.int i)] [] 3409 := by
  change G Γ X M (cb + 0) (sb + 0) _ _ _
  unfold f_law_57 at hf
  refine x_aload_n C rfl rfl (dkAt dk_L_law_41 15 rfl) 3410 rfl ?_
  refine x_aload_n C rfl rfl (dkAt dk_L_law_41 16 rfl) 3411 rfl ?_
  obtain ⟨v1, M2, h10, hf⟩ := cl_inv hf
  refine x_cW C (c_L_undo hN hC h10) mww_L_undo ln_RL_382 (ro_law hcb (by decide) (by decide) (by decide) (by decide)) rfl rfl (Nat.le_of_ble_eq_true rfl) (dkAt dk_L_law_41 17 rfl) 3414 rfl (cb + 1) (sb + 6) rfl rfl ?_
  refine x_istore C (L1 := [some (.ref b), some (.ref (wad Γ 0)), some (.ref (wad Γ 108)), some (.ref (wad Γ 124)), some (.ref (wad Γ 125)), some (.int i), some (.int v1)]) (dkAt dk_L_law_41 18 rfl) 3416 rfl (by decide) rfl ?_
  refine x_aload_n C rfl rfl (dkAt dk_L_law_41 19 rfl) 3417 rfl ?_
  obtain ⟨v3, M4, h9, hf⟩ := cl_inv hf
  refine x_cVi C (c_X12_undo hN h9) mw_X12_undo ln_RL_384 mi_X12_undo (hN.rc (ci := 12) sh108 rc12) (ro_law hcb (by decide) (by decide) (by decide) (by decide)) rfl rfl (Nat.le_of_ble_eq_true rfl) (dkAt dk_L_law_41 20 rfl) 3420 rfl (cb + 1) (sb + 6) rfl rfl ?_
  refine x_istore C (L1 := [some (.ref b), some (.ref (wad Γ 0)), some (.ref (wad Γ 108)), some (.ref (wad Γ 124)), some (.ref (wad Γ 125)), some (.int i), some (.int v1), some (.int v3)]) (dkAt dk_L_law_41 21 rfl) 3422 rfl (by decide) rfl ?_
  refine x_aload_n C rfl rfl (dkAt dk_L_law_41 22 rfl) 3423 rfl ?_
  obtain ⟨v5, M6, h8, hf⟩ := cl_inv hf
  refine x_cVi C (c_X12_thrown hN h8) mw_X12_thrown ln_RL_202 mi_X12_thrown (hN.rc (ci := 12) sh108 rc12) (ro_law hcb (by decide) (by decide) (by decide) (by decide)) rfl rfl (Nat.le_of_ble_eq_true rfl) (dkAt dk_L_law_41 23 rfl) 3426 rfl (cb + 1) (sb + 6) rfl rfl ?_
  refine x_iload C rfl (dkAt dk_L_law_41 24 rfl) 3428 rfl ?_
  refine x_icmp_eq C 3433 (dkAt dk_L_law_41 25 rfl) 3431 rfl (by decide) hf (fun hf => ?_) (fun hf => ?_)
  · refine x_iload C rfl (dkAt dk_L_law_41 28 rfl) 3435 rfl ?_
    refine x_if_ne C 3450 (dkAt dk_L_law_41 29 rfl) 3438 rfl (by decide) hf (fun hf => ?_) (fun hf => ?_)
    · refine x_goto C 3578 (dkAt dk_L_law_41 39 rfl) (by decide) ?_
      exact G.weak (L := [some (.ref b), some (.ref (wad Γ 0)), some (.ref (wad Γ 108)), some (.ref (wad Γ 124)), some (.ref (wad Γ 125)), some (.int i)]) ⟨rfl, rfl, rfl, rfl, rfl, rfl, trivial⟩ (G.wide (by omega) (by omega) (hj _ hf))
    · refine x_aload_n C rfl rfl (dkAt dk_L_law_41 30 rfl) 3439 rfl ?_
      refine x_iconst C (v := (0 : Int32)) (by decide) (dkAt dk_L_law_41 31 rfl) 3440 rfl ?_
      refine x_lald C (hN.sh sh124) (dkAt dk_L_law_41 32 rfl) 3441 rfl hf (fun v7 hf => ?_)
      refine x_iload C rfl (dkAt dk_L_law_41 33 rfl) 3443 rfl ?_
      refine x_i2l C (dkAt dk_L_law_41 34 rfl) 3444 rfl ?_
      refine x_lcmp_eq C 3450 (dkAt dk_L_law_41 35 rfl) 3448 rfl (dkAt dk_L_law_41 36 rfl) (by decide) hf (fun hf => ?_) (fun hf => ?_)
      · refine x_goto C 3578 (dkAt dk_L_law_41 39 rfl) (by decide) ?_
        exact G.weak (L := [some (.ref b), some (.ref (wad Γ 0)), some (.ref (wad Γ 108)), some (.ref (wad Γ 124)), some (.ref (wad Γ 125)), some (.int i)]) ⟨rfl, rfl, rfl, rfl, rfl, rfl, trivial⟩ (G.wide (by omega) (by omega) (hj _ hf))
      · refine x_iconst C (v := (0 : Int32)) (by decide) (dkAt dk_L_law_41 37 rfl) 3449 rfl ?_
        exact nomatch hf
  · refine x_iconst C (v := (0 : Int32)) (by decide) (dkAt dk_L_law_41 26 rfl) 3432 rfl ?_
    exact nomatch hf
def f_law_58 (Z L : Nat) (xs : Nat → Int32) (M : Mem) (i : Int32) (j : Mem → Option Unit) : Option Unit :=
  cl (f_X11_undoable Z M) (fun v1 M2 => cl (f_X12_undoable Z M2) (fun v3 M4 => (if v1 = v3 then j M4 else none)))
set_option maxRecDepth 100000 in
theorem c_law_58 {Γ : WC} {X : MX} (hN : HN Γ) (hC : NC Γ) (C : CX Γ X cL_law 9 RL (some .boolean) room_1) {Z b L cb sb : Nat} {xs : Nat → Int32} (hX : SX Γ X b L xs) (hcb : cb + 8 ≤ 601024 ∧ sb + 48 ≤ 7293034) {M : Mem} {i : Int32} {j : Mem → Option Unit} {rM : Unit} (hj : ∀ M1, j M1 = some rM → G Γ X M1 (cb + 8) (sb + 48) [some (.ref b), some (.ref (wad Γ 0)), some (.ref (wad Γ 108)), some (.ref (wad Γ 124)), some (.ref (wad Γ 125)), some (.int i)] [] 3578) (hf : f_law_58 Z L xs M i j = some rM) : G Γ X M cb sb [some (.ref b), some (.ref (wad Γ 0)), some (.ref (wad Γ 108)), some (.ref (wad Γ 124)), some (.ref (wad Γ 125)), some (.int i)] [] 3453 := by
  change G Γ X M (cb + 0) (sb + 0) _ _ _
  unfold f_law_58 at hf
  refine x_aload_n C rfl rfl (dkAt dk_L_law_41 40 rfl) 3454 rfl ?_
  obtain ⟨v1, M2, h6, hf⟩ := cl_inv hf
  refine x_cVi C (c_X11_undoable hN h6) mw_X11_undoable ln_RL_385 mi_X11_undoable (hN.rc (ci := 11) sh0 rc11) (ro_law hcb (by decide) (by decide) (by decide) (by decide)) rfl rfl (Nat.le_of_ble_eq_true rfl) (dkAt dk_L_law_41 41 rfl) 3457 rfl (cb + 0) (sb + 0) rfl rfl ?_
  refine x_aload_n C rfl rfl (dkAt dk_L_law_41 42 rfl) 3458 rfl ?_
  obtain ⟨v3, M4, h5, hf⟩ := cl_inv hf
  refine x_cVi C (c_X12_undoable hN h5) mw_X12_undoable ln_RL_388 mi_X12_undoable (hN.rc (ci := 12) sh108 rc12) (ro_law hcb (by decide) (by decide) (by decide) (by decide)) rfl rfl (Nat.le_of_ble_eq_true rfl) (dkAt dk_L_law_41 43 rfl) 3461 rfl (cb + 0) (sb + 0) rfl rfl ?_
  refine x_icmp_eq C 3578 (dkAt dk_L_law_41 44 rfl) 3464 rfl (by decide) hf (fun hf => ?_) (fun hf => ?_)
  · exact G.weak (L := [some (.ref b), some (.ref (wad Γ 0)), some (.ref (wad Γ 108)), some (.ref (wad Γ 124)), some (.ref (wad Γ 125)), some (.int i)]) ⟨rfl, rfl, rfl, rfl, rfl, rfl, trivial⟩ (G.wide (by omega) (by omega) (hj _ hf))
  · refine x_iconst C (v := (0 : Int32)) (by decide) (dkAt dk_L_law_41 45 rfl) 3465 rfl ?_
    exact nomatch hf
def f_law_59 (Z L : Nat) (xs : Nat → Int32) (M : Mem) (i : Int32) (j : Mem → Option Unit) : Option Unit :=
  rdX xs L (i + (1 : Int32)) (fun v1 => cl (f_L_save Z M v1) (fun v2 M3 => rdX xs L (i + (1 : Int32)) (fun v4 => cl (f_X12_save Z M3 v4) (fun v5 M6 => cl (f_X12_thrown Z M6) (fun v7 M8 => (if v7 = v2 then (if v2 = 0 then rdL M8 124 1 (0 : Int32) (fun v9 => (if v9 = v5.toInt64 then j M8 else none)) else j M8) else none))))))
set_option maxRecDepth 100000 in
theorem c_law_59 {Γ : WC} {X : MX} (hN : HN Γ) (hC : NC Γ) (C : CX Γ X cL_law 9 RL (some .boolean) room_1) {Z b L cb sb : Nat} {xs : Nat → Int32} (hX : SX Γ X b L xs) (hcb : cb + 8 ≤ 601024 ∧ sb + 48 ≤ 7293034) {M : Mem} {i : Int32} {j : Mem → Option Unit} {rM : Unit} (hj : ∀ M1, j M1 = some rM → G Γ X M1 (cb + 8) (sb + 48) [some (.ref b), some (.ref (wad Γ 0)), some (.ref (wad Γ 108)), some (.ref (wad Γ 124)), some (.ref (wad Γ 125)), some (.int i)] [] 3578) (hf : f_law_59 Z L xs M i j = some rM) : G Γ X M cb sb [some (.ref b), some (.ref (wad Γ 0)), some (.ref (wad Γ 108)), some (.ref (wad Γ 124)), some (.ref (wad Γ 125)), some (.int i)] [] 3466 := by
  change G Γ X M (cb + 0) (sb + 0) _ _ _
  unfold f_law_59 at hf
  refine x_aload_n C rfl rfl (dkAt dk_L_law_41 47 rfl) 3467 rfl ?_
  refine x_aload_n C rfl rfl (dkAt dk_L_law_42 0 rfl) 3468 rfl ?_
  refine x_iload C rfl (dkAt dk_L_law_42 1 rfl) 3470 rfl ?_
  refine x_iconst C (v := (1 : Int32)) (by decide) (dkAt dk_L_law_42 2 rfl) 3471 rfl ?_
  refine x_iadd C (dkAt dk_L_law_42 3 rfl) 3472 rfl ?_
  refine x_sld C hX (dkAt dk_L_law_42 4 rfl) 3473 rfl hf (fun v1 hf => ?_)
  refine x_aload_n C rfl rfl (dkAt dk_L_law_42 5 rfl) 3474 rfl ?_
  obtain ⟨v2, M3, h12, hf⟩ := cl_inv hf
  refine x_cW C (c_L_save hN hC h12) mww_L_save ln_RL_389 (ro_law hcb (by decide) (by decide) (by decide) (by decide)) rfl rfl (Nat.le_of_ble_eq_true rfl) (dkAt dk_L_law_42 6 rfl) 3477 rfl (cb + 2) (sb + 12) rfl rfl ?_
  refine x_istore C (L1 := [some (.ref b), some (.ref (wad Γ 0)), some (.ref (wad Γ 108)), some (.ref (wad Γ 124)), some (.ref (wad Γ 125)), some (.int i), some (.int v2)]) (dkAt dk_L_law_42 7 rfl) 3479 rfl (by decide) rfl ?_
  refine x_aload_n C rfl rfl (dkAt dk_L_law_42 8 rfl) 3480 rfl ?_
  refine x_aload_n C rfl rfl (dkAt dk_L_law_42 9 rfl) 3481 rfl ?_
  refine x_iload C rfl (dkAt dk_L_law_42 10 rfl) 3483 rfl ?_
  refine x_iconst C (v := (1 : Int32)) (by decide) (dkAt dk_L_law_42 11 rfl) 3484 rfl ?_
  refine x_iadd C (dkAt dk_L_law_42 12 rfl) 3485 rfl ?_
  refine x_sld C hX (dkAt dk_L_law_42 13 rfl) 3486 rfl hf (fun v4 hf => ?_)
  obtain ⟨v5, M6, h11, hf⟩ := cl_inv hf
  refine x_cVi C (c_X12_save hN h11) mw_X12_save ln_RL_391 mi_X12_save (hN.rc (ci := 12) sh108 rc12) (ro_law hcb (by decide) (by decide) (by decide) (by decide)) rfl rfl (Nat.le_of_ble_eq_true rfl) (dkAt dk_L_law_42 14 rfl) 3489 rfl (cb + 2) (sb + 12) rfl rfl ?_
  refine x_istore C (L1 := [some (.ref b), some (.ref (wad Γ 0)), some (.ref (wad Γ 108)), some (.ref (wad Γ 124)), some (.ref (wad Γ 125)), some (.int i), some (.int v2), some (.int v5)]) (dkAt dk_L_law_42 15 rfl) 3491 rfl (by decide) rfl ?_
  refine x_aload_n C rfl rfl (dkAt dk_L_law_42 16 rfl) 3492 rfl ?_
  obtain ⟨v7, M8, h10, hf⟩ := cl_inv hf
  refine x_cVi C (c_X12_thrown hN h10) mw_X12_thrown ln_RL_202 mi_X12_thrown (hN.rc (ci := 12) sh108 rc12) (ro_law hcb (by decide) (by decide) (by decide) (by decide)) rfl rfl (Nat.le_of_ble_eq_true rfl) (dkAt dk_L_law_42 17 rfl) 3495 rfl (cb + 2) (sb + 12) rfl rfl ?_
  refine x_iload C rfl (dkAt dk_L_law_42 18 rfl) 3497 rfl ?_
  refine x_icmp_eq C 3502 (dkAt dk_L_law_42 19 rfl) 3500 rfl (by decide) hf (fun hf => ?_) (fun hf => ?_)
  · refine x_iload C rfl (dkAt dk_L_law_42 22 rfl) 3504 rfl ?_
    refine x_if_ne C 3519 (dkAt dk_L_law_42 23 rfl) 3507 rfl (by decide) hf (fun hf => ?_) (fun hf => ?_)
    · refine x_goto C 3578 (dkAt dk_L_law_42 33 rfl) (by decide) ?_
      exact G.weak (L := [some (.ref b), some (.ref (wad Γ 0)), some (.ref (wad Γ 108)), some (.ref (wad Γ 124)), some (.ref (wad Γ 125)), some (.int i)]) ⟨rfl, rfl, rfl, rfl, rfl, rfl, trivial⟩ (G.wide (by omega) (by omega) (hj _ hf))
    · refine x_aload_n C rfl rfl (dkAt dk_L_law_42 24 rfl) 3508 rfl ?_
      refine x_iconst C (v := (0 : Int32)) (by decide) (dkAt dk_L_law_42 25 rfl) 3509 rfl ?_
      refine x_lald C (hN.sh sh124) (dkAt dk_L_law_42 26 rfl) 3510 rfl hf (fun v9 hf => ?_)
      refine x_iload C rfl (dkAt dk_L_law_42 27 rfl) 3512 rfl ?_
      refine x_i2l C (dkAt dk_L_law_42 28 rfl) 3513 rfl ?_
      refine x_lcmp_eq C 3519 (dkAt dk_L_law_42 29 rfl) 3517 rfl (dkAt dk_L_law_42 30 rfl) (by decide) hf (fun hf => ?_) (fun hf => ?_)
      · refine x_goto C 3578 (dkAt dk_L_law_42 33 rfl) (by decide) ?_
        exact G.weak (L := [some (.ref b), some (.ref (wad Γ 0)), some (.ref (wad Γ 108)), some (.ref (wad Γ 124)), some (.ref (wad Γ 125)), some (.int i)]) ⟨rfl, rfl, rfl, rfl, rfl, rfl, trivial⟩ (G.wide (by omega) (by omega) (hj _ hf))
      · refine x_iconst C (v := (0 : Int32)) (by decide) (dkAt dk_L_law_42 31 rfl) 3518 rfl ?_
        exact nomatch hf
  · refine x_iconst C (v := (0 : Int32)) (by decide) (dkAt dk_L_law_42 20 rfl) 3501 rfl ?_
    exact nomatch hf
def f_law_60 (Z L : Nat) (xs : Nat → Int32) (M : Mem) (i : Int32) (j : Mem → Option Unit) : Option Unit :=
  rdX xs L (i + (1 : Int32)) (fun v1 => cl (f_L_restore Z M v1) (fun v2 M3 => rdX xs L (i + (1 : Int32)) (fun v4 => cl (f_X12_restore Z M3 v4) (fun v5 M6 => cl (f_X12_thrown Z M6) (fun v7 M8 => (if v7 = v2 then (if v2 = 0 then rdL M8 124 1 (0 : Int32) (fun v9 => (if v9 = v5.toInt64 then j M8 else none)) else j M8) else none))))))
set_option maxRecDepth 100000 in
theorem c_law_60 {Γ : WC} {X : MX} (hN : HN Γ) (hC : NC Γ) (C : CX Γ X cL_law 9 RL (some .boolean) room_1) {Z b L cb sb : Nat} {xs : Nat → Int32} (hX : SX Γ X b L xs) (hcb : cb + 8 ≤ 601024 ∧ sb + 48 ≤ 7293034) {M : Mem} {i : Int32} {j : Mem → Option Unit} {rM : Unit} (hj : ∀ M1, j M1 = some rM → G Γ X M1 (cb + 8) (sb + 48) [some (.ref b), some (.ref (wad Γ 0)), some (.ref (wad Γ 108)), some (.ref (wad Γ 124)), some (.ref (wad Γ 125)), some (.int i)] [] 3578) (hf : f_law_60 Z L xs M i j = some rM) : G Γ X M cb sb [some (.ref b), some (.ref (wad Γ 0)), some (.ref (wad Γ 108)), some (.ref (wad Γ 124)), some (.ref (wad Γ 125)), some (.int i)] [] 3522 := by
  change G Γ X M (cb + 0) (sb + 0) _ _ _
  unfold f_law_60 at hf
  refine x_aload_n C rfl rfl (dkAt dk_L_law_42 34 rfl) 3523 rfl ?_
  refine x_aload_n C rfl rfl (dkAt dk_L_law_42 35 rfl) 3524 rfl ?_
  refine x_iload C rfl (dkAt dk_L_law_42 36 rfl) 3526 rfl ?_
  refine x_iconst C (v := (1 : Int32)) (by decide) (dkAt dk_L_law_42 37 rfl) 3527 rfl ?_
  refine x_iadd C (dkAt dk_L_law_42 38 rfl) 3528 rfl ?_
  refine x_sld C hX (dkAt dk_L_law_42 39 rfl) 3529 rfl hf (fun v1 hf => ?_)
  refine x_aload_n C rfl rfl (dkAt dk_L_law_42 40 rfl) 3530 rfl ?_
  obtain ⟨v2, M3, h12, hf⟩ := cl_inv hf
  refine x_cW C (c_L_restore hN hC h12) mww_L_restore ln_RL_392 (ro_law hcb (by decide) (by decide) (by decide) (by decide)) rfl rfl (Nat.le_of_ble_eq_true rfl) (dkAt dk_L_law_42 41 rfl) 3533 rfl (cb + 2) (sb + 12) rfl rfl ?_
  refine x_istore C (L1 := [some (.ref b), some (.ref (wad Γ 0)), some (.ref (wad Γ 108)), some (.ref (wad Γ 124)), some (.ref (wad Γ 125)), some (.int i), some (.int v2)]) (dkAt dk_L_law_42 42 rfl) 3535 rfl (by decide) rfl ?_
  refine x_aload_n C rfl rfl (dkAt dk_L_law_42 43 rfl) 3536 rfl ?_
  refine x_aload_n C rfl rfl (dkAt dk_L_law_42 44 rfl) 3537 rfl ?_
  refine x_iload C rfl (dkAt dk_L_law_42 45 rfl) 3539 rfl ?_
  refine x_iconst C (v := (1 : Int32)) (by decide) (dkAt dk_L_law_42 46 rfl) 3540 rfl ?_
  refine x_iadd C (dkAt dk_L_law_42 47 rfl) 3541 rfl ?_
  refine x_sld C hX (dkAt dk_L_law_43 0 rfl) 3542 rfl hf (fun v4 hf => ?_)
  obtain ⟨v5, M6, h11, hf⟩ := cl_inv hf
  refine x_cVi C (c_X12_restore hN h11) mw_X12_restore ln_RL_394 mi_X12_restore (hN.rc (ci := 12) sh108 rc12) (ro_law hcb (by decide) (by decide) (by decide) (by decide)) rfl rfl (Nat.le_of_ble_eq_true rfl) (dkAt dk_L_law_43 1 rfl) 3545 rfl (cb + 2) (sb + 12) rfl rfl ?_
  refine x_istore C (L1 := [some (.ref b), some (.ref (wad Γ 0)), some (.ref (wad Γ 108)), some (.ref (wad Γ 124)), some (.ref (wad Γ 125)), some (.int i), some (.int v2), some (.int v5)]) (dkAt dk_L_law_43 2 rfl) 3547 rfl (by decide) rfl ?_
  refine x_aload_n C rfl rfl (dkAt dk_L_law_43 3 rfl) 3548 rfl ?_
  obtain ⟨v7, M8, h10, hf⟩ := cl_inv hf
  refine x_cVi C (c_X12_thrown hN h10) mw_X12_thrown ln_RL_202 mi_X12_thrown (hN.rc (ci := 12) sh108 rc12) (ro_law hcb (by decide) (by decide) (by decide) (by decide)) rfl rfl (Nat.le_of_ble_eq_true rfl) (dkAt dk_L_law_43 4 rfl) 3551 rfl (cb + 2) (sb + 12) rfl rfl ?_
  refine x_iload C rfl (dkAt dk_L_law_43 5 rfl) 3553 rfl ?_
  refine x_icmp_eq C 3558 (dkAt dk_L_law_43 6 rfl) 3556 rfl (by decide) hf (fun hf => ?_) (fun hf => ?_)
  · refine x_iload C rfl (dkAt dk_L_law_43 9 rfl) 3560 rfl ?_
    refine x_if_ne C 3575 (dkAt dk_L_law_43 10 rfl) 3563 rfl (by decide) hf (fun hf => ?_) (fun hf => ?_)
    · refine x_goto C 3578 (dkAt dk_L_law_43 20 rfl) (by decide) ?_
      exact G.weak (L := [some (.ref b), some (.ref (wad Γ 0)), some (.ref (wad Γ 108)), some (.ref (wad Γ 124)), some (.ref (wad Γ 125)), some (.int i)]) ⟨rfl, rfl, rfl, rfl, rfl, rfl, trivial⟩ (G.wide (by omega) (by omega) (hj _ hf))
    · refine x_aload_n C rfl rfl (dkAt dk_L_law_43 11 rfl) 3564 rfl ?_
      refine x_iconst C (v := (0 : Int32)) (by decide) (dkAt dk_L_law_43 12 rfl) 3565 rfl ?_
      refine x_lald C (hN.sh sh124) (dkAt dk_L_law_43 13 rfl) 3566 rfl hf (fun v9 hf => ?_)
      refine x_iload C rfl (dkAt dk_L_law_43 14 rfl) 3568 rfl ?_
      refine x_i2l C (dkAt dk_L_law_43 15 rfl) 3569 rfl ?_
      refine x_lcmp_eq C 3575 (dkAt dk_L_law_43 16 rfl) 3573 rfl (dkAt dk_L_law_43 17 rfl) (by decide) hf (fun hf => ?_) (fun hf => ?_)
      · refine x_goto C 3578 (dkAt dk_L_law_43 20 rfl) (by decide) ?_
        exact G.weak (L := [some (.ref b), some (.ref (wad Γ 0)), some (.ref (wad Γ 108)), some (.ref (wad Γ 124)), some (.ref (wad Γ 125)), some (.int i)]) ⟨rfl, rfl, rfl, rfl, rfl, rfl, trivial⟩ (G.wide (by omega) (by omega) (hj _ hf))
      · refine x_iconst C (v := (0 : Int32)) (by decide) (dkAt dk_L_law_43 18 rfl) 3574 rfl ?_
        exact nomatch hf
  · refine x_iconst C (v := (0 : Int32)) (by decide) (dkAt dk_L_law_43 7 rfl) 3557 rfl ?_
    exact nomatch hf
def swLaw (Z L : Nat) (xs : Nat → Int32) (M : Mem) (i : Int32) (j : Mem → Option Unit) (n : Nat) : Option Unit := match n with
  | 0 => f_law_0 Z L xs M i j
  | 1 => f_law_1 Z L xs M i j
  | 2 => f_law_2 Z L xs M i j
  | 3 => f_law_3 Z L xs M i j
  | 4 => f_law_4 Z L xs M i j
  | 5 => f_law_5 Z L xs M i j
  | 6 => f_law_6 Z L xs M i j
  | 7 => f_law_7 Z L xs M i j
  | 8 => f_law_8 Z L xs M i j
  | 9 => f_law_9 Z L xs M i j
  | 10 => f_law_10 Z L xs M i j
  | 11 => f_law_11 Z L xs M i j
  | 12 => f_law_12 Z L xs M i j
  | 13 => f_law_13 Z L xs M i j
  | 14 => f_law_14 Z L xs M i j
  | 15 => f_law_15 Z L xs M i j
  | 16 => f_law_16 Z L xs M i j
  | 17 => f_law_17 Z L xs M i j
  | 18 => f_law_18 Z L xs M i j
  | 19 => f_law_19 Z L xs M i j
  | 20 => f_law_20 Z L xs M i j
  | 21 => f_law_21 Z L xs M i j
  | 22 => f_law_22 Z L xs M i j
  | 23 => f_law_23 Z L xs M i j
  | 24 => f_law_24 Z L xs M i j
  | 25 => f_law_25 Z L xs M i j
  | 26 => f_law_26 Z L xs M i j
  | 27 => f_law_27 Z L xs M i j
  | 28 => f_law_28 Z L xs M i j
  | 29 => f_law_29 Z L xs M i j
  | 30 => f_law_30 Z L xs M i j
  | 31 => f_law_31 Z L xs M i j
  | 32 => f_law_32 Z L xs M i j
  | 33 => f_law_33 Z L xs M i j
  | 34 => f_law_34 Z L xs M i j
  | 35 => f_law_35 Z L xs M i j
  | 36 => f_law_36 Z L xs M i j
  | 37 => f_law_37 Z L xs M i j
  | 38 => f_law_38 Z L xs M i j
  | 39 => f_law_39 Z L xs M i j
  | 40 => f_law_40 Z L xs M i j
  | 41 => f_law_41 Z L xs M i j
  | 42 => f_law_42 Z L xs M i j
  | 43 => f_law_43 Z L xs M i j
  | 44 => f_law_44 Z L xs M i j
  | 45 => f_law_45 Z L xs M i j
  | 46 => f_law_46 Z L xs M i j
  | 47 => f_law_47 Z L xs M i j
  | 48 => f_law_48 Z L xs M i j
  | 49 => f_law_49 Z L xs M i j
  | 50 => f_law_50 Z L xs M i j
  | 51 => f_law_51 Z L xs M i j
  | 52 => f_law_52 Z L xs M i j
  | 53 => f_law_53 Z L xs M i j
  | 54 => f_law_54 Z L xs M i j
  | 55 => f_law_55 Z L xs M i j
  | 56 => f_law_56 Z L xs M i j
  | 57 => f_law_57 Z L xs M i j
  | 58 => f_law_58 Z L xs M i j
  | 59 => f_law_59 Z L xs M i j
  | 60 => f_law_60 Z L xs M i j
  | _ => none
set_option maxRecDepth 100000 in
theorem c_swLaw {Γ : WC} {X : MX} (hN : HN Γ) (hC : NC Γ) (C : CX Γ X cL_law 9 RL (some .boolean) room_1) {Z b L cb sb : Nat} {xs : Nat → Int32} (hX : SX Γ X b L xs) (hcb : cb + 8 ≤ 601024 ∧ sb + 48 ≤ 7293034) {M : Mem} {i v : Int32} {j : Mem → Option Unit} {rM : Unit} (hj : ∀ M1, j M1 = some rM → G Γ X M1 (cb + 8) (sb + 48) [some (.ref b), some (.ref (wad Γ 0)), some (.ref (wad Γ 108)), some (.ref (wad Γ 124)), some (.ref (wad Γ 125)), some (.int i)] [] 3578) (n : Nat) (hv : v.toInt = (n : Int)) (hf : swLaw Z L xs M i j n = some rM) : G Γ X M cb sb [some (.ref b), some (.ref (wad Γ 0)), some (.ref (wad Γ 108)), some (.ref (wad Γ 124)), some (.ref (wad Γ 125)), some (.int i)] [.int v] 45 := by
  match n, hv, hf with
  | 0, hv, hf => exact x_tabIn C 304 (dkAt dk_L_law_0 27 rfl) hv (by decide) rfl (by decide) (c_law_0 hN hC C hX hcb hj hf)
  | 1, hv, hf => exact x_tabIn C 377 (dkAt dk_L_law_0 27 rfl) hv (by decide) rfl (by decide) (c_law_1 hN hC C hX hcb hj hf)
  | 2, hv, hf => exact x_tabIn C 433 (dkAt dk_L_law_0 27 rfl) hv (by decide) rfl (by decide) (c_law_2 hN hC C hX hcb hj hf)
  | 3, hv, hf => exact x_tabIn C 446 (dkAt dk_L_law_0 27 rfl) hv (by decide) rfl (by decide) (c_law_3 hN hC C hX hcb hj hf)
  | 4, hv, hf => exact x_tabIn C 459 (dkAt dk_L_law_0 27 rfl) hv (by decide) rfl (by decide) (c_law_4 hN hC C hX hcb hj hf)
  | 5, hv, hf => exact x_tabIn C 472 (dkAt dk_L_law_0 27 rfl) hv (by decide) rfl (by decide) (c_law_5 hN hC C hX hcb hj hf)
  | 6, hv, hf => exact x_tabIn C 485 (dkAt dk_L_law_0 27 rfl) hv (by decide) rfl (by decide) (c_law_6 hN hC C hX hcb hj hf)
  | 7, hv, hf => exact x_tabIn C 498 (dkAt dk_L_law_0 27 rfl) hv (by decide) rfl (by decide) (c_law_7 hN hC C hX hcb hj hf)
  | 8, hv, hf => exact x_tabIn C 511 (dkAt dk_L_law_0 27 rfl) hv (by decide) rfl (by decide) (c_law_8 hN hC C hX hcb hj hf)
  | 9, hv, hf => exact x_tabIn C 555 (dkAt dk_L_law_0 27 rfl) hv (by decide) rfl (by decide) (c_law_9 hN hC C hX hcb hj hf)
  | 10, hv, hf => exact x_tabIn C 611 (dkAt dk_L_law_0 27 rfl) hv (by decide) rfl (by decide) (c_law_10 hN hC C hX hcb hj hf)
  | 11, hv, hf => exact x_tabIn C 679 (dkAt dk_L_law_0 27 rfl) hv (by decide) rfl (by decide) (c_law_11 hN hC C hX hcb hj hf)
  | 12, hv, hf => exact x_tabIn C 759 (dkAt dk_L_law_0 27 rfl) hv (by decide) rfl (by decide) (c_law_12 hN hC C hX hcb hj hf)
  | 13, hv, hf => exact x_tabIn C 839 (dkAt dk_L_law_0 27 rfl) hv (by decide) rfl (by decide) (c_law_13 hN hC C hX hcb hj hf)
  | 14, hv, hf => exact x_tabIn C 907 (dkAt dk_L_law_0 27 rfl) hv (by decide) rfl (by decide) (c_law_14 hN hC C hX hcb hj hf)
  | 15, hv, hf => exact x_tabIn C 982 (dkAt dk_L_law_0 27 rfl) hv (by decide) rfl (by decide) (c_law_15 hN hC C hX hcb hj hf)
  | 16, hv, hf => exact x_tabIn C 1038 (dkAt dk_L_law_0 27 rfl) hv (by decide) rfl (by decide) (c_law_16 hN hC C hX hcb hj hf)
  | 17, hv, hf => exact x_tabIn C 1094 (dkAt dk_L_law_0 27 rfl) hv (by decide) rfl (by decide) (c_law_17 hN hC C hX hcb hj hf)
  | 18, hv, hf => exact x_tabIn C 1157 (dkAt dk_L_law_0 27 rfl) hv (by decide) rfl (by decide) (c_law_18 hN hC C hX hcb hj hf)
  | 19, hv, hf => exact x_tabIn C 1224 (dkAt dk_L_law_0 27 rfl) hv (by decide) rfl (by decide) (c_law_19 hN hC C hX hcb hj hf)
  | 20, hv, hf => exact x_tabIn C 1303 (dkAt dk_L_law_0 27 rfl) hv (by decide) rfl (by decide) (c_law_20 hN hC C hX hcb hj hf)
  | 21, hv, hf => exact x_tabIn C 1358 (dkAt dk_L_law_0 27 rfl) hv (by decide) rfl (by decide) (c_law_21 hN hC C hX hcb hj hf)
  | 22, hv, hf => exact x_tabIn C 1413 (dkAt dk_L_law_0 27 rfl) hv (by decide) rfl (by decide) (c_law_22 hN hC C hX hcb hj hf)
  | 23, hv, hf => exact x_tabIn C 1456 (dkAt dk_L_law_0 27 rfl) hv (by decide) rfl (by decide) (c_law_23 hN hC C hX hcb hj hf)
  | 24, hv, hf => exact x_tabIn C 1499 (dkAt dk_L_law_0 27 rfl) hv (by decide) rfl (by decide) (c_law_24 hN hC C hX hcb hj hf)
  | 25, hv, hf => exact x_tabIn C 1554 (dkAt dk_L_law_0 27 rfl) hv (by decide) rfl (by decide) (c_law_25 hN hC C hX hcb hj hf)
  | 26, hv, hf => exact x_tabIn C 1609 (dkAt dk_L_law_0 27 rfl) hv (by decide) rfl (by decide) (c_law_26 hN hC C hX hcb hj hf)
  | 27, hv, hf => exact x_tabIn C 1653 (dkAt dk_L_law_0 27 rfl) hv (by decide) rfl (by decide) (c_law_27 hN hC C hX hcb hj hf)
  | 28, hv, hf => exact x_tabIn C 1708 (dkAt dk_L_law_0 27 rfl) hv (by decide) rfl (by decide) (c_law_28 hN hC C hX hcb hj hf)
  | 29, hv, hf => exact x_tabIn C 1764 (dkAt dk_L_law_0 27 rfl) hv (by decide) rfl (by decide) (c_law_29 hN hC C hX hcb hj hf)
  | 30, hv, hf => exact x_tabIn C 1820 (dkAt dk_L_law_0 27 rfl) hv (by decide) rfl (by decide) (c_law_30 hN hC C hX hcb hj hf)
  | 31, hv, hf => exact x_tabIn C 1876 (dkAt dk_L_law_0 27 rfl) hv (by decide) rfl (by decide) (c_law_31 hN hC C hX hcb hj hf)
  | 32, hv, hf => exact x_tabIn C 1942 (dkAt dk_L_law_0 27 rfl) hv (by decide) rfl (by decide) (c_law_32 hN hC C hX hcb hj hf)
  | 33, hv, hf => exact x_tabIn C 1985 (dkAt dk_L_law_0 27 rfl) hv (by decide) rfl (by decide) (c_law_33 hN hC C hX hcb hj hf)
  | 34, hv, hf => exact x_tabIn C 2041 (dkAt dk_L_law_0 27 rfl) hv (by decide) rfl (by decide) (c_law_34 hN hC C hX hcb hj hf)
  | 35, hv, hf => exact x_tabIn C 2108 (dkAt dk_L_law_0 27 rfl) hv (by decide) rfl (by decide) (c_law_35 hN hC C hX hcb hj hf)
  | 36, hv, hf => exact x_tabIn C 2176 (dkAt dk_L_law_0 27 rfl) hv (by decide) rfl (by decide) (c_law_36 hN hC C hX hcb hj hf)
  | 37, hv, hf => exact x_tabIn C 2219 (dkAt dk_L_law_0 27 rfl) hv (by decide) rfl (by decide) (c_law_37 hN hC C hX hcb hj hf)
  | 38, hv, hf => exact x_tabIn C 2275 (dkAt dk_L_law_0 27 rfl) hv (by decide) rfl (by decide) (c_law_38 hN hC C hX hcb hj hf)
  | 39, hv, hf => exact x_tabIn C 2319 (dkAt dk_L_law_0 27 rfl) hv (by decide) rfl (by decide) (c_law_39 hN hC C hX hcb hj hf)
  | 40, hv, hf => exact x_tabIn C 2386 (dkAt dk_L_law_0 27 rfl) hv (by decide) rfl (by decide) (c_law_40 hN hC C hX hcb hj hf)
  | 41, hv, hf => exact x_tabIn C 2442 (dkAt dk_L_law_0 27 rfl) hv (by decide) rfl (by decide) (c_law_41 hN hC C hX hcb hj hf)
  | 42, hv, hf => exact x_tabIn C 2522 (dkAt dk_L_law_0 27 rfl) hv (by decide) rfl (by decide) (c_law_42 hN hC C hX hcb hj hf)
  | 43, hv, hf => exact x_tabIn C 2566 (dkAt dk_L_law_0 27 rfl) hv (by decide) rfl (by decide) (c_law_43 hN hC C hX hcb hj hf)
  | 44, hv, hf => exact x_tabIn C 2622 (dkAt dk_L_law_0 27 rfl) hv (by decide) rfl (by decide) (c_law_44 hN hC C hX hcb hj hf)
  | 45, hv, hf => exact x_tabIn C 2678 (dkAt dk_L_law_0 27 rfl) hv (by decide) rfl (by decide) (c_law_45 hN hC C hX hcb hj hf)
  | 46, hv, hf => exact x_tabIn C 2722 (dkAt dk_L_law_0 27 rfl) hv (by decide) rfl (by decide) (c_law_46 hN hC C hX hcb hj hf)
  | 47, hv, hf => exact x_tabIn C 2778 (dkAt dk_L_law_0 27 rfl) hv (by decide) rfl (by decide) (c_law_47 hN hC C hX hcb hj hf)
  | 48, hv, hf => exact x_tabIn C 2834 (dkAt dk_L_law_0 27 rfl) hv (by decide) rfl (by decide) (c_law_48 hN hC C hX hcb hj hf)
  | 49, hv, hf => exact x_tabIn C 2890 (dkAt dk_L_law_0 27 rfl) hv (by decide) rfl (by decide) (c_law_49 hN hC C hX hcb hj hf)
  | 50, hv, hf => exact x_tabIn C 2946 (dkAt dk_L_law_0 27 rfl) hv (by decide) rfl (by decide) (c_law_50 hN hC C hX hcb hj hf)
  | 51, hv, hf => exact x_tabIn C 3038 (dkAt dk_L_law_0 27 rfl) hv (by decide) rfl (by decide) (c_law_51 hN hC C hX hcb hj hf)
  | 52, hv, hf => exact x_tabIn C 3082 (dkAt dk_L_law_0 27 rfl) hv (by decide) rfl (by decide) (c_law_52 hN hC C hX hcb hj hf)
  | 53, hv, hf => exact x_tabIn C 3185 (dkAt dk_L_law_0 27 rfl) hv (by decide) rfl (by decide) (c_law_53 hN hC C hX hcb hj hf)
  | 54, hv, hf => exact x_tabIn C 3253 (dkAt dk_L_law_0 27 rfl) hv (by decide) rfl (by decide) (c_law_54 hN hC C hX hcb hj hf)
  | 55, hv, hf => exact x_tabIn C 3309 (dkAt dk_L_law_0 27 rfl) hv (by decide) rfl (by decide) (c_law_55 hN hC C hX hcb hj hf)
  | 56, hv, hf => exact x_tabIn C 3365 (dkAt dk_L_law_0 27 rfl) hv (by decide) rfl (by decide) (c_law_56 hN hC C hX hcb hj hf)
  | 57, hv, hf => exact x_tabIn C 3409 (dkAt dk_L_law_0 27 rfl) hv (by decide) rfl (by decide) (c_law_57 hN hC C hX hcb hj hf)
  | 58, hv, hf => exact x_tabIn C 3453 (dkAt dk_L_law_0 27 rfl) hv (by decide) rfl (by decide) (c_law_58 hN hC C hX hcb hj hf)
  | 59, hv, hf => exact x_tabIn C 3466 (dkAt dk_L_law_0 27 rfl) hv (by decide) rfl (by decide) (c_law_59 hN hC C hX hcb hj hf)
  | 60, hv, hf => exact x_tabIn C 3522 (dkAt dk_L_law_0 27 rfl) hv (by decide) rfl (by decide) (c_law_60 hN hC C hX hcb hj hf)
  | n + 61, hv, hf => exact nomatch (show (none : Option Unit) = some rM from hf)
def lpLaw (Z L : Nat) (xs : Nat → Int32) : Nat → Mem → Int32 → Option Unit
  | 0, _, _ => none
  | n + 1, M, i => if Int32.ofNat L - 6 < i then some () else rdX xs L i (fun v => bd (v &&& 63) (fun w => if w.toInt < 0 ∨ 60 < w.toInt then lpLaw Z L xs n M (i + 6) else swLaw Z L xs M i (fun M1 => lpLaw Z L xs n M1 (i + 6)) w.toInt.toNat))
set_option maxRecDepth 100000 in
theorem c_lpLaw {Γ : WC} {X : MX} (hN : HN Γ) (hC : NC Γ) (C : CX Γ X cL_law 9 RL (some .boolean) room_1) (E : EndL Γ X) {Z b L : Nat} {xs : Nat → Int32} (hX : SX Γ X b L xs) : ∀ (n cb sb : Nat) (M : Mem) (i : Int32), cb + 8 * n ≤ 601024 → sb + 48 * n ≤ 7293034 → lpLaw Z L xs n M i = some () → G Γ X M cb sb [some (.ref b), some (.ref (wad Γ 0)), some (.ref (wad Γ 108)), some (.ref (wad Γ 124)), some (.ref (wad Γ 125)), some (.int i)] [] 28 := by
  intro n
  induction n with
  | zero =>
    intro cb sb M i _ _ hf
    exact nomatch (show (none : Option Unit) = some () from hf)
  | succ n ih =>
    intro cb sb M i h1 h2 hf
    rw [lpLaw] at hf
    refine x_iload C rfl (dkAt dk_L_law_0 16 rfl) 30 rfl ?_
    refine x_aload_n C rfl rfl (dkAt dk_L_law_0 17 rfl) 31 rfl ?_
    refine x_slenX C hX (dkAt dk_L_law_0 18 rfl) 32 rfl ?_
    refine x_bipush C (v := (6 : Int32)) (by decide) (dkAt dk_L_law_0 19 rfl) 34 rfl ?_
    refine x_isub C (dkAt dk_L_law_0 20 rfl) 35 rfl ?_
    refine x_icmp_gt C 3584 (dkAt dk_L_law_0 21 rfl) 38 rfl (by decide) hf (fun hf => ?_) (fun hf => ?_)
    · refine x_iconst C (v := (1 : Int32)) (by decide) (dkAt dk_L_law_43 23 rfl) 3585 rfl ?_
      obtain ⟨p, e, R, s, m, args, below, meth, c, Q⟩ := X
      intro H locs ls a1 a2 a3 a4 a5
      exact W.widen (by omega) (by omega) (E H locs ls 3585 a4 (dkAt dk_L_law_43 24 rfl))
    · refine x_aload_n C rfl rfl (dkAt dk_L_law_0 22 rfl) 39 rfl ?_
      refine x_iload C rfl (dkAt dk_L_law_0 23 rfl) 41 rfl ?_
      refine x_sld C hX (dkAt dk_L_law_0 24 rfl) 42 rfl hf (fun v hf => ?_)
      refine x_bipush C (v := (63 : Int32)) (by decide) (dkAt dk_L_law_0 25 rfl) 44 rfl ?_
      refine x_iand C (dkAt dk_L_law_0 26 rfl) 45 rfl ?_
      have step : ∀ (cb1 sb1 : Nat) (M1 : Mem), cb1 + 8 * n ≤ 601024 → sb1 + 48 * n ≤ 7293034 → lpLaw Z L xs n M1 (i + 6) = some () → G Γ X M1 cb1 sb1 [some (.ref b), some (.ref (wad Γ 0)), some (.ref (wad Γ 108)), some (.ref (wad Γ 124)), some (.ref (wad Γ 125)), some (.int i)] [] 3578 := by
        intro cb1 sb1 M1 h3 h4 hf
        refine x_iinc C (v := (i + 6)) (L1 := [some (.ref b), some (.ref (wad Γ 0)), some (.ref (wad Γ 108)), some (.ref (wad Γ 124)), some (.ref (wad Γ 125)), some (.int (i + 6))]) (dkAt dk_L_law_43 21 rfl) 3581 rfl rfl rfl (by decide) rfl ?_
        refine x_goto C 28 (dkAt dk_L_law_43 22 rfl) (by decide) ?_
        exact ih _ _ _ _ h3 h4 hf
      refine if_then hf (fun h hf => ?_) (fun h hf => ?_)
      · exact x_tabOut C 3578 (dkAt dk_L_law_0 27 rfl) h (by decide) (step _ _ _ (by omega) (by omega) hf)
      · exact c_swLaw hN hC C hX ⟨by omega, by omega⟩ (fun M1 hf => step _ _ _ (by omega) (by omega) hf) (v &&& 63).toInt.toNat (by omega) hf
