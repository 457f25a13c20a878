/-! the law's case of decode: the two held against each other -/
theorem oL_X6_decode : okV room_1 RL wsL_law 58 RX6 yX6_decode wsX6_decode (rh 2) 2 := ⟨_, _, _, _, gL_law_X6_decode, rfl, rfl, rfl, by decide +kernel, by decide⟩
theorem oL_X6_thrown : okV room_1 RL wsL_law 59 RX6 yX6_thrown wsX6_thrown (rh 0) 0 := ⟨_, _, _, _, gL_law_X6_thrown, rfl, rfl, rfl, by decide +kernel, by decide⟩
section Law9
variable {p : Program} {l : Launch} {e : Env} {s : State} {m : MethodId} {b : Nat} {below : List Frame} {meth : Method} {c : Code} {cells slots : Nat} {D : va_G} {cA : Nat → ClassId} {cJ : ClassId} {ad bd : Nat → Nat} {q Ln i : Nat} {xs : Nat → Int32} {σ τ : St} {f : Nat → Int64} {T : List Int} {ps : PSt} {P : Int → Int}
theorem lw_dB (G : LF p s m c b Ln xs D cA) (hJ : va_K D vwCl (gT cA ++ [(cJ, .long)]) s) {a a2 : Int} (hj : i + 2 < Ln) (ha : xs (i + 1) = zI a) (ha2 : xs (i + 2) = zI a2) (hr : RM τ T ps P) (h120 : ∀ j, j < ps.length → tl (tbl ps) j ≤ 120) (hia : inR a) (hia2 : inR a2) (hcs : cells ≤ room_1.cells ∧ slots ≤ room_1.slots) {kv : Int} (hk : (kv = 1 ∧ dThr ps a a2) ∨ (kv = 0 ∧ ¬ dThr ps a a2 ∧ f 0 = (zI (aDec ps a a2)).toInt64))
    (kk : ∀ τ', RM τ' T ps P → WL p l e s m b below meth c cells slots D 552 (lvC b ad bd q i) [] (lwW cA cJ bd ad q τ' σ f)) : WL p l e s m b below meth c cells slots D 337 (lvC b ad bd q i) [.int (zI kv)] (lwW cA cJ bd ad q τ σ f) := by
  intro H locs ls hP hD hS hl
  refine lv_istore G.1.1.1 G.1.1.2.1 dL_law_337 hl (by decide) rfl (fun ls' hl' => ?_)
  refine lw_ld G 2 (x := bd 0) (List.mem_of_getElem? (i := 3) rfl) dL_law_339 ?_ H locs ls' hP hD hS hl'
  refine lw_arg G 1 (by omega) (List.mem_of_getElem? (i := 5) rfl) (List.mem_of_getElem? (i := 1) rfl) dL_law_340 dL_law_341 dL_law_343 dL_law_344 dL_law_345 ?_
  refine lw_arg G 2 hj (List.mem_of_getElem? (i := 5) rfl) (List.mem_of_getElem? (i := 1) rfl) dL_law_346 dL_law_347 dL_law_349 dL_law_350 dL_law_351 ?_
  rw [ha, ha2]
  clear hP hD hS hl hl' H locs ls ls'
  refine Wd.callVi G.1 (wa := []) (wb := wL cA ad σ 0 LC ++ wO q cJ f) (vs := [.inr a, .inr a2]) (rest := []) (j := 0) oL_X6_decode dL_law_352 rfl rfl (Nat.le_of_ble_eq_true rfl) hcs (c_X6_decode hr h120 hia hia2) (fun r τ' hin hp => ?_)
  obtain ⟨hr', hor⟩ := hp
  intro H locs ls hP hD hS hl
  refine lv_istore G.1.1.1 G.1.1.2.1 dL_law_355 hl (by decide) rfl (fun ls' hl' => ?_)
  refine lw_ld G 2 (x := bd 0) (List.mem_of_getElem? (i := 4) rfl) dL_law_357 ?_ H locs ls' hP hD hS hl'
  clear hP hD hS hl hl' H locs ls ls'
  refine Wd.callVi G.1 (wa := []) (wb := wL cA ad σ 0 LC ++ wO q cJ f) (vs := []) (rest := []) (j := 0) oL_X6_thrown dL_law_358 rfl rfl (Nat.le_of_ble_eq_true rfl) hcs (c_X6_thrown hr'.1) (fun r2 τ2 _ hp => ?_)
  obtain ⟨h2, h3⟩ := hp
  subst h2
  have hkv : r2 = kv := by
    rcases hk with ⟨h4, h5⟩ | ⟨h4, h5, -⟩ <;> rcases hor with ⟨h6, h7⟩ | ⟨h6, h7, -⟩
    · rw [h3, h7, h4]
    · exact absurd h5 h6
    · exact absurd h6 h5
    · rw [h3, h7, h4]
  subst hkv
  have fin : WL p l e s m b below meth c cells slots D 385 ((6, Value.int (zI r)) :: (5, Value.int (zI r2)) :: lvC b ad bd q i) [] (lwW cA cJ bd ad q τ2 σ f) := by
    intro H locs ls hP hD hS hl
    refine lv_goto G.1.1.1 G.1.1.2.1 (tgt := 552) dL_law_385 (by decide) ?_
    exact lw_drop (fun x hx => List.mem_cons_of_mem _ (List.mem_cons_of_mem _ hx)) (kk τ2 hr') H locs ls hP hD hS hl
  intro H locs ls hP hD hS hl
  refine lv_iload (x := zI r2) G.1.1.1 G.1.1.2.1 dL_law_361 (hl.2.2 (5, .int (zI r2)) (List.mem_of_getElem? (i := 1) rfl)) ?_
  refine lv_icmp_eq (tgt := 368) G.1.1.1 G.1.1.2.1 dL_law_363 (by decide) (fun _ => ?_) (fun h => absurd rfl h)
  refine lv_iload (x := zI r2) G.1.1.1 G.1.1.2.1 dL_law_368 (hl.2.2 (5, .int (zI r2)) (List.mem_of_getElem? (i := 1) rfl)) ?_
  refine lv_if_ne (tgt := 385) G.1.1.1 G.1.1.2.1 dL_law_370 (by decide) (fun _ => fin H locs ls hP hD hS hl) (fun h0 => ?_)
  have hz : f 0 = (zI r).toInt64 := by
    rcases hk with ⟨h4, h5⟩ | ⟨h4, h5, h6⟩
    · rw [h4] at h0
      exact absurd h0 (by decide)
    · rcases hor with ⟨h7, -⟩ | ⟨-, -, h8⟩
      · exact absurd h7 h5
      · rw [h6, h8]
  refine lv_aload_n (i := 3) (x := q) G.1.1.1 G.1.1.2.1 dL_law_373 rfl (hl.2.2 (3, .ref q) (List.mem_of_getElem? (i := 3) rfl)) ?_
  refine lv_iconst (v := zI 0) G.1.1.1 G.1.1.2.1 dL_law_374 rfl ?_
  refine va_lald G.1.1.1 G.1.1.2.1 hJ hP 38 2 (cA := cJ) (n := 1) (f := f) rfl rfl (by show ¬ (zI 0 < 0 ∨ 1 ≤ (zI 0).toNatClampNeg); decide) dL_law_375 ?_
  refine lv_iload (x := zI r) G.1.1.1 G.1.1.2.1 dL_law_376 (hl.2.2 (6, .int (zI r)) (List.mem_of_getElem? (i := 0) rfl)) ?_
  refine lv_i2l G.1.1.1 G.1.1.2.1 dL_law_378 rfl ?_
  have e0 : f (zI 0).toNatClampNeg = (zI r).toInt64 := hz
  rw [e0]
  refine W.lcmp G.1.1.1 G.1.1.2.1 dL_law_379 ?_
  have e1 : lg_cmp (zI r).toInt64 (zI r).toInt64 = 0 := by
    unfold lg_cmp
    rw [if_neg (by simp [Int64.lt_iff_toInt_lt]), if_pos rfl]
  rw [e1]
  exact lv_if_eq (tgt := 385) G.1.1.1 G.1.1.2.1 dL_law_380 (by decide) (fun _ => fin H locs ls hP hD hS hl) (fun h => absurd rfl h)
end Law9
