/-! one turn of the law -/
theorem oL_X5_octet : okV room_1 RL wsL_law 19 RX5 yX5_octet wsX5_octet (rh 1) 1 := ⟨_, _, _, _, gL_law_X5_octet, rfl, rfl, rfl, by decide +kernel, by decide⟩
theorem oL_X6_octet : okV room_1 RL wsL_law 23 RX6 yX6_octet wsX6_octet (rh 1) 1 := ⟨_, _, _, _, gL_law_X6_octet, rfl, rfl, rfl, by decide +kernel, by decide⟩
theorem oL_X5_cut : okV room_1 RL wsL_law 24 RX5 yX5_cut wsX5_cut (rh 0) 1 := ⟨_, _, _, _, gL_law_X5_cut, rfl, rfl, rfl, by decide +kernel, by decide⟩
theorem oL_X6_cut : okV room_1 RL wsL_law 27 RX6 yX6_cut wsX6_cut (rh 1) 1 := ⟨_, _, _, _, gL_law_X6_cut, rfl, rfl, rfl, by decide +kernel, by decide⟩
theorem oL_X5_byteAt : okV room_1 RL wsL_law 28 RX5 yX5_byteAt wsX5_byteAt (rh 0) 1 := ⟨_, _, _, _, gL_law_X5_byteAt, rfl, rfl, rfl, by decide +kernel, by decide⟩
theorem oL_X6_byteAt : okV room_1 RL wsL_law 31 RX6 yX6_byteAt wsX6_byteAt (rh 1) 1 := ⟨_, _, _, _, gL_law_X6_byteAt, rfl, rfl, rfl, by decide +kernel, by decide⟩
theorem oL_X5_words : okV room_1 RL wsL_law 32 RX5 yX5_words wsX5_words (rh 1) 0 := ⟨_, _, _, _, gL_law_X5_words, rfl, rfl, rfl, by decide +kernel, by decide⟩
theorem oL_X6_words : okV room_1 RL wsL_law 36 RX6 yX6_words wsX6_words (rh 1) 0 := ⟨_, _, _, _, gL_law_X6_words, rfl, rfl, rfl, by decide +kernel, by decide⟩
theorem oL_X5_learn : okV room_1 RL wsL_law 37 RX5 yX5_learn wsX5_learn (rh 4) 1 := ⟨_, _, _, _, gL_law_X5_learn, rfl, rfl, rfl, by decide +kernel, by decide⟩
theorem oL_X6_learn : okV room_1 RL wsL_law 40 RX6 yX6_learn wsX6_learn (rh 3) 1 := ⟨_, _, _, _, gL_law_X6_learn, rfl, rfl, rfl, by decide +kernel, by decide⟩
theorem oL_X5_pair : okV room_1 RL wsL_law 41 RX5 yX5_pair wsX5_pair (rh 1) 2 := ⟨_, _, _, _, gL_law_X5_pair, rfl, rfl, rfl, by decide +kernel, by decide⟩
theorem oL_X6_pair : okV room_1 RL wsL_law 44 RX6 yX6_pair wsX6_pair (rh 2) 2 := ⟨_, _, _, _, gL_law_X6_pair, rfl, rfl, rfl, by decide +kernel, by decide⟩
theorem oL_X5_count : okV room_1 RL wsL_law 45 RX5 yX5_count wsX5_count (rh 1) 1 := ⟨_, _, _, _, gL_law_X5_count, rfl, rfl, rfl, by decide +kernel, by decide⟩
theorem oL_X6_count : okV room_1 RL wsL_law 48 RX6 yX6_count wsX6_count (rh 2) 1 := ⟨_, _, _, _, gL_law_X6_count, rfl, rfl, rfl, by decide +kernel, by decide⟩
theorem oL_X5_size : okV room_1 RL wsL_law 49 RX5 yX5_size wsX5_size (rh 2) 1 := ⟨_, _, _, _, gL_law_X5_size, rfl, rfl, rfl, by decide +kernel, by decide⟩
theorem oL_X6_size : okV room_1 RL wsL_law 52 RX6 yX6_size wsX6_size (rh 2) 1 := ⟨_, _, _, _, gL_law_X6_size, rfl, rfl, rfl, by decide +kernel, by decide⟩
theorem oL_X5_tokens : okV room_1 RL wsL_law 62 RX5 yX5_tokens wsX5_tokens (rh 3) 0 := ⟨_, _, _, _, gL_law_X5_tokens, rfl, rfl, rfl, by decide +kernel, by decide⟩
theorem oL_X6_tokens : okV room_1 RL wsL_law 65 RX6 yX6_tokens wsX6_tokens (rh 4) 0 := ⟨_, _, _, _, gL_law_X6_tokens, rfl, rfl, rfl, by decide +kernel, by decide⟩
theorem oL_X5_at : okV room_1 RL wsL_law 66 RX5 yX5_at wsX5_at (rh 3) 1 := ⟨_, _, _, _, gL_law_X5_at, rfl, rfl, rfl, by decide +kernel, by decide⟩
theorem oL_X6_at : okV room_1 RL wsL_law 69 RX6 yX6_at wsX6_at (rh 4) 1 := ⟨_, _, _, _, gL_law_X6_at, rfl, rfl, rfl, by decide +kernel, by decide⟩
theorem oL_X5_from : okV room_1 RL wsL_law 70 RX5 yX5_from wsX5_from (rh 3) 1 := ⟨_, _, _, _, gL_law_X5_from, rfl, rfl, rfl, by decide +kernel, by decide⟩
theorem oL_X6_from : okV room_1 RL wsL_law 73 RX6 yX6_from wsX6_from (rh 4) 1 := ⟨_, _, _, _, gL_law_X6_from, rfl, rfl, rfl, by decide +kernel, by decide⟩
theorem oL_X5_points : okV room_1 RL wsL_law 74 RX5 yX5_points wsX5_points (rh 1) 2 := ⟨_, _, _, _, gL_law_X5_points, rfl, rfl, rfl, by decide +kernel, by decide⟩
theorem oL_X6_points : okV room_1 RL wsL_law 77 RX6 yX6_points wsX6_points (rh 2) 2 := ⟨_, _, _, _, gL_law_X6_points, rfl, rfl, rfl, by decide +kernel, by decide⟩
theorem oL_X5_best : okV room_1 RL wsL_law 78 RX5 yX5_best wsX5_best (rh 4) 0 := ⟨_, _, _, _, gL_law_X5_best, rfl, rfl, rfl, by decide +kernel, by decide⟩
theorem oL_X6_best : okV room_1 RL wsL_law 81 RX6 yX6_best wsX6_best (rh 3) 0 := ⟨_, _, _, _, gL_law_X6_best, rfl, rfl, rfl, by decide +kernel, by decide⟩
theorem oL_X5_bestAt : okV room_1 RL wsL_law 82 RX5 yX5_bestAt wsX5_bestAt (rh 4) 1 := ⟨_, _, _, _, gL_law_X5_bestAt, rfl, rfl, rfl, by decide +kernel, by decide⟩
theorem oL_X6_bestAt : okV room_1 RL wsL_law 85 RX6 yX6_bestAt wsX6_bestAt (rh 3) 1 := ⟨_, _, _, _, gL_law_X6_bestAt, rfl, rfl, rfl, by decide +kernel, by decide⟩
theorem oL_X5_sum : okV room_1 RL wsL_law 86 RX5 yX5_sum wsX5_sum (rh 4) 0 := ⟨_, _, _, _, gL_law_X5_sum, rfl, rfl, rfl, by decide +kernel, by decide⟩
theorem oL_X6_sum : okV room_1 RL wsL_law 89 RX6 yX6_sum wsX6_sum (rh 3) 0 := ⟨_, _, _, _, gL_law_X6_sum, rfl, rfl, rfl, by decide +kernel, by decide⟩
theorem oL_X5_ways : okV room_1 RL wsL_law 90 RX5 yX5_ways wsX5_ways (rh 4) 0 := ⟨_, _, _, _, gL_law_X5_ways, rfl, rfl, rfl, by decide +kernel, by decide⟩
theorem oL_X6_ways : okV room_1 RL wsL_law 93 RX6 yX6_ways wsX6_ways (rh 3) 0 := ⟨_, _, _, _, gL_law_X6_ways, rfl, rfl, rfl, by decide +kernel, by decide⟩
def LInv (σ τ : St) (T : List Int) (ps : PSt) (P : Int → Int) : Prop := RC σ T ps P ∧ RM τ T ps P ∧ vOk ps ∧ ptsR ps.length P
theorem inv_pts {ps : PSt} {P : Int → Int} (h : ptsR ps.length P) (t p : Int) : ptsR ps.length (pPts ps P t p) := by
  intro x h1 h2
  unfold pPts
  split
  · show -120 ≤ (if x = t then p else P x) ∧ (if x = t then p else P x) ≤ 120
    split
    · omega
    · exact h x h1 h2
  · exact h x h1 h2
theorem inv_lrn {σ : St} {T : List Int} {ps : PSt} {P : Int → Int} (hr : RC σ T ps P) (hv : vOk ps) (h : ptsR ps.length P) (n : Int) : vOk (sLrn T ps n) ∧ ptsR (sLrn T ps n).length (pLrn T P n) := by
  have htx : txOk T := ⟨hr.2.1.2.1, fun i hi => (hr.2.1.2.2 i hi).2⟩
  unfold sLrn pLrn
  by_cases hn : 0 ≤ n ∧ n ≤ 32
  · rw [if_pos hn, if_pos hn]
    have hk := psL_ok htx hn
    refine ⟨hk.1, fun x h1 h2 => ?_⟩
    unfold pNew
    by_cases hx : x < 256
    · rw [if_pos hx]
      exact h x h1 (by omega)
    · rw [if_neg hx]
      have := hk.1.2.2.1 (x - 256).toNat (by omega)
      omega
  · rw [if_neg hn, if_neg hn]
    exact ⟨hv, h⟩
section Turn
variable {p : Program} {l : Launch} {e : Env} {s : State} {m : MethodId} {b : Nat} {below : List Frame} {meth : Method} {c : Code} {cells slots : Nat} {D : va_G} {cA : Nat → ClassId} {cJ : ClassId} {ad bd : Nat → Nat} {q Ln i : Nat} {xs : Nat → Int32} {σ τ : St} {f : Nat → Int64} {T : List Int} {ps : PSt} {P : Int → Int}
set_option maxHeartbeats 2000000 in
theorem lw_turn (G : LF p s m c b Ln xs D cA) (hJ : va_K D vwCl (gT cA ++ [(cJ, .long)]) s) (hex : exF s) (hst : l.stackTraces = false) (hi : i + 3 ≤ Ln) (I : LInv σ τ T ps P) (hcs : cells + 1 ≤ room_1.cells ∧ slots + 6 ≤ room_1.slots)
    (kk : ∀ (n : Nat) (σ' τ' : St) (f' : Nat → Int64) (T' : List Int) (ps' : PSt) (P' : Int → Int), n ≤ 1 → LInv σ' τ' T' ps' P' → WL p l e s m b below meth c (cells + n) (slots + 6 * n) D 552 (lvC b ad bd q i) [] (lwW cA cJ bd ad q τ' σ' f')) : WL p l e s m b below meth c cells slots D 32 (lvC b ad bd q i) [] (lwW cA cJ bd ad q τ σ f) := by
  obtain ⟨hC, hM, hv, hp⟩ := I
  have hL := G.2.2.2
  have hcs0 : cells ≤ room_1.cells ∧ slots ≤ room_1.slots := ⟨by omega, by omega⟩
  have k0 : ∀ (σ' τ' : St) (f' : Nat → Int64) (T' : List Int) (ps' : PSt) (P' : Int → Int), LInv σ' τ' T' ps' P' → WL p l e s m b below meth c cells slots D 552 (lvC b ad bd q i) [] (lwW cA cJ bd ad q τ' σ' f') := fun σ' τ' f' T' ps' P' h => kk 0 σ' τ' f' T' ps' P' (by decide) h
  obtain ⟨a, hia, ha⟩ := zI_of (xs (i + 1))
  obtain ⟨a2, hia2, ha2⟩ := zI_of (xs (i + 2))
  have keep : ∀ σ' τ', RC σ' T ps P → RM τ' T ps P → WL p l e s m b below meth c cells slots D 552 (lvC b ad bd q i) [] (lwW cA cJ bd ad q τ' σ' f) := fun σ' τ' h1 h2 => k0 σ' τ' f T ps P ⟨h1, h2, hv, hp⟩
  intro H locs ls hP hD hS hl
  refine lv_aload_n (i := 0) (x := b) G.1.1.1 G.1.1.2.1 dL_law_32 rfl (hl.2.2 (0, .ref b) (List.mem_of_getElem? (i := 4) rfl)) ?_
  refine lv_iload (x := zI i) G.1.1.1 G.1.1.2.1 dL_law_33 (hl.2.2 (4, .int (zI i)) (List.mem_of_getElem? (i := 0) rfl)) ?_
  refine va_sld G.1.1.1 G.1.1.2.1 G.2.1 G.2.2.1 (by have := G.2.2.1; omega) hS (zI_in (by omega) (by omega) (by omega)) dL_law_35 ?_
  refine lv_bipush (v := zI 31) G.1.1.1 G.1.1.2.1 dL_law_36 (zI_by (by decide) (by decide)) ?_
  refine lv_iand G.1.1.1 G.1.1.2.1 dL_law_38 ?_
  generalize (xs (zI (i : Int)).toNatClampNeg &&& zI 31) = x
  by_cases hd : x.toInt < 0 ∨ 16 < x.toInt
  · exact lv_tableOut (tgt := 552) G.1.1.1 G.1.1.2.1 dL_law_39 hd (by decide) (keep σ τ hC hM H locs ls hP hD hS hl)
  rcases (show x.toInt = 0 ∨ x.toInt = 1 ∨ x.toInt = 2 ∨ x.toInt = 3 ∨ x.toInt = 4 ∨ x.toInt = 5 ∨ x.toInt = 6 ∨ x.toInt = 7 ∨ x.toInt = 8 ∨ x.toInt = 9 ∨ x.toInt = 10 ∨ x.toInt = 11 ∨ x.toInt = 12 ∨ x.toInt = 13 ∨ x.toInt = 14 ∨ x.toInt = 15 ∨ x.toInt = 16 by omega) with h | h | h | h | h | h | h | h | h | h | h | h | h | h | h | h | h
  · refine lv_tableIn (off := 81) (tgt := 120) G.1.1.1 G.1.1.2.1 dL_law_39 (by omega) (by omega) (by rw [h]; rfl) (by decide) ?_
    exact lw_c1 G (by omega) ha oL_X5_octet oL_X6_octet hcs0 (c_X5_octet hC hia) (c_X6_octet hM hia) dL_law_120 dL_law_121 dL_law_122 dL_law_124 dL_law_125 dL_law_126 dL_law_127 dL_law_130 dL_law_131 dL_law_132 dL_law_134 dL_law_135 dL_law_136 dL_law_137 dL_law_140 (by decide) (fun σ' τ' h1 h2 => k0 σ' τ' f _ ps P ⟨h1, h2, hv, hp⟩) H locs ls hP hD hS hl
  · refine lv_tableIn (off := 106) (tgt := 145) G.1.1.1 G.1.1.2.1 dL_law_39 (by omega) (by omega) (by rw [h]; rfl) (by decide) ?_
    exact lw_c1 G (by omega) ha oL_X5_cut oL_X6_cut hcs0 (c_X5_cut hC hia) (c_X6_cut hM hia) dL_law_145 dL_law_146 dL_law_147 dL_law_149 dL_law_150 dL_law_151 dL_law_152 dL_law_155 dL_law_156 dL_law_157 dL_law_159 dL_law_160 dL_law_161 dL_law_162 dL_law_165 (by decide) (fun σ' τ' h1 h2 => k0 σ' τ' f _ ps P ⟨h1, h2, hv, hp⟩) H locs ls hP hD hS hl
  · refine lv_tableIn (off := 131) (tgt := 170) G.1.1.1 G.1.1.2.1 dL_law_39 (by omega) (by omega) (by rw [h]; rfl) (by decide) ?_
    exact lw_c1 G (by omega) ha oL_X5_byteAt oL_X6_byteAt hcs0 (c_X5_byteAt hC hia) (c_X6_byteAt hM hia) dL_law_170 dL_law_171 dL_law_172 dL_law_174 dL_law_175 dL_law_176 dL_law_177 dL_law_180 dL_law_181 dL_law_182 dL_law_184 dL_law_185 dL_law_186 dL_law_187 dL_law_190 (by decide) keep H locs ls hP hD hS hl
  · refine lv_tableIn (off := 156) (tgt := 195) G.1.1.1 G.1.1.2.1 dL_law_39 (by omega) (by omega) (by rw [h]; rfl) (by decide) ?_
    exact lw_c0 G oL_X5_words oL_X6_words hcs0 (c_X5_words hC) (c_X6_words hM) dL_law_195 dL_law_196 dL_law_199 dL_law_200 dL_law_203 (by decide) keep H locs ls hP hD hS hl
  · refine lv_tableIn (off := 169) (tgt := 208) G.1.1.1 G.1.1.2.1 dL_law_39 (by omega) (by omega) (by rw [h]; rfl) (by decide) ?_
    exact lw_c1 G (by omega) ha oL_X5_learn oL_X6_learn hcs0 (c_X5_learn hC hia) (c_X6_learn hM hia) dL_law_208 dL_law_209 dL_law_210 dL_law_212 dL_law_213 dL_law_214 dL_law_215 dL_law_218 dL_law_219 dL_law_220 dL_law_222 dL_law_223 dL_law_224 dL_law_225 dL_law_228 (by decide) (fun σ' τ' h1 h2 => k0 σ' τ' f T _ _ ⟨h1, h2, (inv_lrn hC hv hp a).1, (inv_lrn hC hv hp a).2⟩) H locs ls hP hD hS hl
  · refine lv_tableIn (off := 194) (tgt := 233) G.1.1.1 G.1.1.2.1 dL_law_39 (by omega) (by omega) (by rw [h]; rfl) (by decide) ?_
    exact lw_c2 G (by omega) ha ha2 oL_X5_pair oL_X6_pair hcs0 (c_X5_pair hC hia hia2) (c_X6_pair hM hia hia2) dL_law_233 dL_law_234 dL_law_235 dL_law_237 dL_law_238 dL_law_239 dL_law_240 dL_law_241 dL_law_243 dL_law_244 dL_law_245 dL_law_246 dL_law_249 dL_law_250 dL_law_251 dL_law_253 dL_law_254 dL_law_255 dL_law_256 dL_law_257 dL_law_259 dL_law_260 dL_law_261 dL_law_262 dL_law_265 (by decide) keep H locs ls hP hD hS hl
  · refine lv_tableIn (off := 231) (tgt := 270) G.1.1.1 G.1.1.2.1 dL_law_39 (by omega) (by omega) (by rw [h]; rfl) (by decide) ?_
    exact lw_c1 G (by omega) ha oL_X5_count oL_X6_count hcs0 (c_X5_count hC hia) (c_X6_count hM hia) dL_law_270 dL_law_271 dL_law_272 dL_law_274 dL_law_275 dL_law_276 dL_law_277 dL_law_280 dL_law_281 dL_law_282 dL_law_284 dL_law_285 dL_law_286 dL_law_287 dL_law_290 (by decide) keep H locs ls hP hD hS hl
  · refine lv_tableIn (off := 256) (tgt := 295) G.1.1.1 G.1.1.2.1 dL_law_39 (by omega) (by omega) (by rw [h]; rfl) (by decide) ?_
    exact lw_c1 G (by omega) ha oL_X5_size oL_X6_size hcs0 (c_X5_size hC hia) (c_X6_size hM hia) dL_law_295 dL_law_296 dL_law_297 dL_law_299 dL_law_300 dL_law_301 dL_law_302 dL_law_305 dL_law_306 dL_law_307 dL_law_309 dL_law_310 dL_law_311 dL_law_312 dL_law_315 (by decide) keep H locs ls hP hD hS hl
  · refine lv_tableIn (off := 281) (tgt := 320) G.1.1.1 G.1.1.2.1 dL_law_39 (by omega) (by omega) (by rw [h]; rfl) (by decide) ?_
    by_cases hth : dThr ps a a2
    · exact lw_dA G hJ hex (by omega) ha ha2 (c_L_decodeT hst hC hia hia2 hth) hcs (fun r u hru => by
        obtain ⟨h1, h2⟩ := hru
        subst h1 h2
        exact lw_dB G hJ (by omega) ha ha2 hM hv.2.2.1 hia hia2 hcs (Or.inl ⟨rfl, hth⟩) (fun τ' h3 => kk 1 σ τ' u T ps P (by decide) ⟨hC, h3, hv, hp⟩)) H locs ls hP hD hS hl
    · exact lw_dA G hJ hex (by omega) ha ha2 (c_L_decode hC hia hia2 hth) hcs0 (fun r u hru => by
        obtain ⟨h1, h2⟩ := hru
        subst h1
        exact lw_dB G hJ (by omega) ha ha2 hM hv.2.2.1 hia hia2 hcs0 (Or.inr ⟨rfl, hth, h2⟩) (fun τ' h3 => kk 0 σ τ' u T ps P (by decide) ⟨hC, h3, hv, hp⟩)) H locs ls hP hD hS hl
  · refine lv_tableIn (off := 349) (tgt := 388) G.1.1.1 G.1.1.2.1 dL_law_39 (by omega) (by omega) (by rw [h]; rfl) (by decide) ?_
    exact lw_c0 G oL_X5_tokens oL_X6_tokens hcs0 (c_X5_tokens hC) (c_X6_tokens hM) dL_law_388 dL_law_389 dL_law_392 dL_law_393 dL_law_396 (by decide) keep H locs ls hP hD hS hl
  · refine lv_tableIn (off := 362) (tgt := 401) G.1.1.1 G.1.1.2.1 dL_law_39 (by omega) (by omega) (by rw [h]; rfl) (by decide) ?_
    exact lw_c1 G (by omega) ha oL_X5_at oL_X6_at hcs0 (c_X5_at hC hia) (c_X6_at hM hia) dL_law_401 dL_law_402 dL_law_403 dL_law_405 dL_law_406 dL_law_407 dL_law_408 dL_law_411 dL_law_412 dL_law_413 dL_law_415 dL_law_416 dL_law_417 dL_law_418 dL_law_421 (by decide) keep H locs ls hP hD hS hl
  · refine lv_tableIn (off := 387) (tgt := 426) G.1.1.1 G.1.1.2.1 dL_law_39 (by omega) (by omega) (by rw [h]; rfl) (by decide) ?_
    exact lw_c1 G (by omega) ha oL_X5_from oL_X6_from hcs0 (c_X5_from hC hia) (c_X6_from hM hia) dL_law_426 dL_law_427 dL_law_428 dL_law_430 dL_law_431 dL_law_432 dL_law_433 dL_law_436 dL_law_437 dL_law_438 dL_law_440 dL_law_441 dL_law_442 dL_law_443 dL_law_446 (by decide) keep H locs ls hP hD hS hl
  · refine lv_tableIn (off := 412) (tgt := 451) G.1.1.1 G.1.1.2.1 dL_law_39 (by omega) (by omega) (by rw [h]; rfl) (by decide) ?_
    exact lw_c2 G (by omega) ha ha2 oL_X5_points oL_X6_points hcs0 (c_X5_points hC hia hia2) (c_X6_points hM hia hia2) dL_law_451 dL_law_452 dL_law_453 dL_law_455 dL_law_456 dL_law_457 dL_law_458 dL_law_459 dL_law_461 dL_law_462 dL_law_463 dL_law_464 dL_law_467 dL_law_468 dL_law_469 dL_law_471 dL_law_472 dL_law_473 dL_law_474 dL_law_475 dL_law_477 dL_law_478 dL_law_479 dL_law_480 dL_law_483 (by decide) (fun σ' τ' h1 h2 => k0 σ' τ' f T ps _ ⟨h1, h2, hv, inv_pts hp a a2⟩) H locs ls hP hD hS hl
  · refine lv_tableIn (off := 449) (tgt := 488) G.1.1.1 G.1.1.2.1 dL_law_39 (by omega) (by omega) (by rw [h]; rfl) (by decide) ?_
    exact lw_c0 G oL_X5_best oL_X6_best hcs0 (c_X5_best hC hp hv.2.1) (c_X6_best hM hp hv) dL_law_488 dL_law_489 dL_law_492 dL_law_493 dL_law_496 (by decide) keep H locs ls hP hD hS hl
  · refine lv_tableIn (off := 462) (tgt := 501) G.1.1.1 G.1.1.2.1 dL_law_39 (by omega) (by omega) (by rw [h]; rfl) (by decide) ?_
    exact lw_c1 G (by omega) ha oL_X5_bestAt oL_X6_bestAt hcs0 (c_X5_bestAt hC hia hp hv.2.1) (c_X6_bestAt hM hia hp hv) dL_law_501 dL_law_502 dL_law_503 dL_law_505 dL_law_506 dL_law_507 dL_law_508 dL_law_511 dL_law_512 dL_law_513 dL_law_515 dL_law_516 dL_law_517 dL_law_518 dL_law_521 (by decide) keep H locs ls hP hD hS hl
  · refine lv_tableIn (off := 487) (tgt := 526) G.1.1.1 G.1.1.2.1 dL_law_39 (by omega) (by omega) (by rw [h]; rfl) (by decide) ?_
    exact lw_c0 G oL_X5_sum oL_X6_sum hcs0 (c_X5_sum hC hp hv.2.1) (c_X6_sum hM hp hv) dL_law_526 dL_law_527 dL_law_530 dL_law_531 dL_law_534 (by decide) keep H locs ls hP hD hS hl
  · refine lv_tableIn (off := 500) (tgt := 539) G.1.1.1 G.1.1.2.1 dL_law_39 (by omega) (by omega) (by rw [h]; rfl) (by decide) ?_
    exact lw_c0 G oL_X5_ways oL_X6_ways hcs0 (c_X5_ways hC hp hv.2.1) (c_X6_ways hM hp hv) dL_law_539 dL_law_540 dL_law_543 dL_law_544 dL_law_547 (by decide) keep H locs ls hP hD hS hl
end Turn
