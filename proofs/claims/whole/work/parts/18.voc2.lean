section CV2
variable {l : Launch} {D : va_G} {cA : Nat → ClassId} {ad : Nat → Nat} {σ : St}
def stP (σ : St) (t p : Int) : Prop := 0 ≤ p ∧ p ≤ σ 1 1 - szC σ t ∧ ∀ i : Nat, (i : Int) < szC σ t → σ 6 (p + i).toNat = byC σ t i
theorem byC_r {t i : Int} (hr : rng σ) (ht : inR t) : inR (byC σ t i) := by
  by_cases h : isL σ t
  · rw [byC_l h]
    split
    · exact hr _ _
    · constructor <;> decide
  · rw [byC_b h]
    exact ht
theorem c_X4_standsAt {t p : Int} (hk : kC σ) (ht : inR t) (hp : inR p) (hs0 : 0 ≤ szC σ t) (hs : szC σ t ≤ 120) (hpl : isL σ t → 0 ≤ σ 13 (t - 256).toNat ∧ σ 13 (t - 256).toNat ≤ 120) : Ci l yX4_standsAt wsX4_standsAt (rh 2) D cA ad LC [.inl 2, .inr t, .inl 1, .inr p] σ (fun r τ => τ = σ ∧ r = b01 (stP σ t p)) := by
  have hk' := hk
  obtain ⟨hr, hn0, hn, hl0, hl1⟩ := hk
  refine Ci.walkZ fX4_standsAt pX4_standsAt [] (by decide) rfl LC_ok tX4_standsAt_ok fX4_standsAt_ok pX4_standsAt_ok klOk_0 (Nat.le_of_ble_eq_true rfl) (fun V M ret => ?_)
  have loop : ∀ (d i : Nat), (i : Int) + d = szC σ t → 0 ≤ p → p ≤ σ 1 1 - szC σ t → (∀ j : Nat, j < i → σ 6 (p + j).toNat = byC σ t j) → V (27, [(0, .inl 2), (1, .inr t), (2, .inl 1), (3, .inr p), (4, .inr (szC σ t)), (5, .inr (i : Int))], [], σ) := by
    intro d
    induction d with
    | zero =>
      intro i hi h0 h1 hw
      refine M.1 [62] 60 _ ?_
      refine ⟨⟨by unfold inR; omega, by unfold inR; omega⟩, fun c1 => ret rfl (Or.inr rfl) ⟨rfl, ?_⟩, fun c1 => absurd c1 (by omega)⟩
      rw [b01_t ⟨h0, h1, fun j hj => hw j (by omega)⟩]
    | succ d ih =>
      intro i hi h0 h1 hw
      refine M.1 [47] 60 _ ?_
      refine ⟨⟨by unfold inR; omega, by unfold inR; omega⟩, fun c1 => absurd c1 (by omega), fun c1 => ?_⟩
      refine ⟨⟨by omega, by omega⟩, ?_⟩
      refine M.2.1 (vs := [.inr t, .inr (i : Int)]) (rest := [.inr (σ 6 (p + i).toNat)]) rfl oX4_standsAt_X4_byteOf rfl rfl (Nat.le_of_ble_eq_true rfl) rfl (c_X4_byteOf ht hk' (fun h => by have := hpl h; unfold inR; omega)) (fun r υ _ hp => ?_)
      obtain ⟨rfl, rfl⟩ := hp
      refine M.1 [27, 54] 60 _ ?_
      refine ⟨⟨hr _ _, byC_r hr ht⟩, fun c2 => ?_, fun c2 => ?_⟩
      · refine ih (i + 1) (by omega) h0 h1 (fun j hj => ?_)
        rcases Nat.lt_or_ge j i with hc | hc
        · exact hw j hc
        · rw [show j = i by omega]; exact c2
      · refine ret rfl (Or.inl rfl) ⟨rfl, ?_⟩
        rw [b01_f]
        intro h
        exact c2 (h.2.2 i (by omega))
  refine M.1 [2] 60 _ ?_
  refine M.2.1 (vs := [.inr t]) (rest := []) rfl oX4_standsAt_X4_sizeOf rfl rfl (Nat.le_of_ble_eq_true rfl) rfl (c_X4_sizeOf ht hk') (fun r τ _ hp => ?_)
  obtain ⟨rfl, rfl⟩ := hp
  refine M.1 [23, 27] 60 _ ?_
  refine ⟨hp, fun c1 => ?_, fun c1 => ?_⟩
  · refine ret rfl (Or.inl rfl) ⟨rfl, ?_⟩
    rw [b01_f]
    intro h
    exact absurd h.1 (by omega)
  · refine ⟨⟨hp, by unfold inR; omega⟩, fun c2 => ?_, fun c2 => ?_⟩
    · exact loop (szC τ t).toNat 0 (by omega) (by omega) c2 (fun j hj => absurd hj (by omega))
    · refine ret rfl (Or.inl rfl) ⟨rfl, ?_⟩
      rw [b01_f]
      intro h
      exact absurd h.2.1 (by omega)
theorem wcpy : ∀ w ∈ cpyW RX4 48, w ∈ wsX4_startFrom := by decide +kernel
theorem c_X4_startFrom (hk : kC σ) : Cv l yX4_startFrom wsX4_startFrom (rh 1) D cA ad LC [.inl 2, .inl 1] σ (fun τ => rng τ ∧ eqx [2, 12] σ τ ∧ τ 2 5 = 0 ∧ ∀ i, i < 120 → τ 12 i = σ 6 i) := by
  obtain ⟨hr, hn0, hn, hl0, hl1⟩ := hk
  refine Cv.walk fX4_startFrom pX4_startFrom [] (by decide) rfl LC_ok tX4_startFrom_ok fX4_startFrom_ok pX4_startFrom_ok klOk_0 (Nat.le_of_ble_eq_true rfl) (fun V M ret => ?_)
  refine M.1 [12] 60 _ ?_
  refine M.2.2.2.2.2.2.2 rfl wcpy (by decide) (by decide) rfl rfl (by decide) (by decide) (by decide) (by decide) ?_
  refine M.1 [20] 60 _ ?_
  refine ret rfl ⟨?_, ?_, stu_s _ _ _ _, ?_⟩
  · refine rng_stu (fun j i => ?_) inR_0 _ _
    by_cases e : j = 12
    · subst e
      rw [va_up_self]
      unfold va_cpy
      split <;> exact hr _ _
    · rw [va_up_ne _ _ e]
      exact hr _ _
  · refine eqx_stu (fun j hj => ?_) (by decide) _ _
    rw [va_up_ne _ _ (fun e => hj (by rw [e]; decide))]
  · intro i hi
    rw [stu_j _ _ _ (by decide), va_up_self]
    unfold va_cpy
    rw [if_pos (by refine ⟨Nat.zero_le _, ?_⟩; show i < 0 + 120; omega)]
    simp
theorem c_X4_add {a b c p : Int} (hk : kC σ) (ha : inR a) (hb : inR b) (hc : inR c) (hp : inR p) (hl : σ 2 5 < 32) (hz : inR (szC σ a + szC σ b)) : Cv l yX4_add wsX4_add (rh 2) D cA ad LC [.inl 2, .inr a, .inr b, .inr c, .inr p] σ (fun τ => rng τ ∧ eqx [2, 7, 8, 9, 10, 11, 13] σ τ ∧ τ 2 5 = σ 2 5 + 1 ∧ τ 7 = va_up (σ 7) (σ 2 5).toNat a ∧ τ 8 = va_up (σ 8) (σ 2 5).toNat b ∧ τ 9 = va_up (σ 9) (σ 2 5).toNat c ∧ τ 10 = va_up (σ 10) (σ 2 5).toNat (szC σ a + szC σ b) ∧ τ 13 = va_up (σ 13) (σ 2 5).toNat p ∧ τ 11 = va_up (σ 11) (256 + (σ 2 5).toNat) (szC σ a + szC σ b)) := by
  have hk' := hk
  obtain ⟨hr, hn0, hn, hl0, hl1⟩ := hk
  refine Cv.walk fX4_add pX4_add [] (by decide) rfl LC_ok tX4_add_ok fX4_add_ok pX4_add_ok klOk_0 (Nat.le_of_ble_eq_true rfl) (fun V M ret => ?_)
  generalize hkk : (σ 2 5).toNat = k
  refine M.1 [19] 80 _ ?_
  refine ⟨⟨hr _ _, by constructor <;> decide⟩, fun c1 => absurd c1 (by omega), fun c1 => ?_⟩
  refine ⟨⟨by omega, by omega⟩, ?_⟩
  rw [hkk]
  obtain ⟨σ1, h1⟩ : ∃ z, z = stu σ 7 k a := ⟨_, rfl⟩
  rw [← h1]
  have r1 : rng σ1 := by rw [h1]; exact rng_stu hr ha _ _
  have e1 : σ1 2 = σ 2 := by rw [h1]; exact stu_j _ _ _ (by decide)
  refine M.1 [29] 80 _ ?_
  refine ⟨⟨by rw [e1]; omega, by rw [e1]; omega⟩, ?_⟩
  rw [e1, hkk]
  obtain ⟨σ2, h2⟩ : ∃ z, z = stu σ1 8 k b := ⟨_, rfl⟩
  rw [← h2]
  have r2 : rng σ2 := by rw [h2]; exact rng_stu r1 hb _ _
  have e2 : σ2 2 = σ 2 := by rw [h2, stu_j _ _ _ (by decide), e1]
  refine M.1 [39] 80 _ ?_
  refine ⟨⟨by rw [e2]; omega, by rw [e2]; omega⟩, ?_⟩
  rw [e2, hkk]
  obtain ⟨σ3, h3⟩ : ∃ z, z = stu σ2 9 k c := ⟨_, rfl⟩
  rw [← h3]
  have r3 : rng σ3 := by rw [h3]; exact rng_stu r2 hc _ _
  have e3 : σ3 2 = σ 2 := by rw [h3, stu_j _ _ _ (by decide), e2]
  have e3a : σ3 10 = σ 10 := by rw [h3, stu_j _ _ _ (by decide), h2, stu_j _ _ _ (by decide), h1, stu_j _ _ _ (by decide)]
  have e3b : σ3 1 = σ 1 := by rw [h3, stu_j _ _ _ (by decide), h2, stu_j _ _ _ (by decide), h1, stu_j _ _ _ (by decide)]
  have hk3 : kC σ3 := ⟨r3, by rw [e3b]; omega, by rw [e3b]; omega, by rw [e3]; omega, by rw [e3]; omega⟩
  have hsz : ∀ x, szC σ3 x = szC σ x := fun x => by unfold szC isL; rw [e3, e3a]
  refine M.1 [49] 80 _ ?_
  refine M.2.1 (vs := [.inr a]) (rest := [.inr (σ3 2 5), .inl 10]) rfl oX4_add_X4_sizeOf rfl rfl (Nat.le_of_ble_eq_true rfl) rfl (c_X4_sizeOf ha hk3) (fun r τ _ hp => ?_)
  obtain ⟨rfl, rfl⟩ := hp
  refine M.1 [54] 80 _ ?_
  refine M.2.1 (vs := [.inr b]) (rest := [.inr (szC τ a), .inr (τ 2 5), .inl 10]) rfl oX4_add_X4_sizeOf rfl rfl (Nat.le_of_ble_eq_true rfl) rfl (c_X4_sizeOf hb hk3) (fun r τ _ hp => ?_)
  obtain ⟨rfl, rfl⟩ := hp
  refine M.1 [59] 80 _ ?_
  refine ⟨⟨by rw [e3]; omega, by rw [e3]; omega⟩, ?_⟩
  rw [e3, hkk, hsz a, hsz b]
  obtain ⟨σ4, h4⟩ : ∃ z, z = stu τ 10 k (szC σ a + szC σ b) := ⟨_, rfl⟩
  rw [← h4]
  have r4 : rng σ4 := by rw [h4]; exact rng_stu r3 hz _ _
  have e4 : σ4 2 = σ 2 := by rw [h4, stu_j _ _ _ (by decide), e3]
  refine M.1 [70] 80 _ ?_
  refine ⟨⟨by rw [e4]; omega, by rw [e4]; omega⟩, ?_⟩
  rw [e4, hkk]
  obtain ⟨σ5, h5⟩ : ∃ z, z = stu σ4 13 k p := ⟨_, rfl⟩
  rw [← h5]
  have r5 : rng σ5 := by rw [h5]; exact rng_stu r4 hp _ _
  have e5 : σ5 2 = σ 2 := by rw [h5, stu_j _ _ _ (by decide), e4]
  have e5a : σ5 10 k = szC σ a + szC σ b := by rw [h5, stu_j _ _ _ (by decide), h4, stu_s]
  refine M.1 [92] 80 _ ?_
  refine ⟨⟨by rw [e5]; omega, by rw [e5]; omega⟩, ⟨by rw [e5]; omega, by rw [e5]; omega⟩, ?_⟩
  rw [e5, hkk, e5a, show (256 + σ 2 5).toNat = 256 + k by omega]
  obtain ⟨σ6, h6⟩ : ∃ z, z = stu σ5 11 (256 + k) (szC σ a + szC σ b) := ⟨_, rfl⟩
  rw [← h6]
  have r6 : rng σ6 := by rw [h6]; exact rng_stu r5 hz _ _
  have e6 : σ6 2 = σ 2 := by rw [h6, stu_j _ _ _ (by decide), e5]
  refine M.1 [102] 80 _ ?_
  refine ret rfl ⟨rng_stu r6 (by rw [e6]; unfold inR; omega) _ _, ?_, by rw [stu_s, e6], ?_, ?_, ?_, ?_, ?_, ?_⟩
  · rw [h6, h5, h4, h3, h2, h1]
    exact eqx_stu (eqx_stu (eqx_stu (eqx_stu (eqx_stu (eqx_stu (eqx_stu eqx_rfl (by decide) _ _) (by decide) _ _) (by decide) _ _) (by decide) _ _) (by decide) _ _) (by decide) _ _) (by decide) _ _
  all_goals (rw [h6, h5, h4, h3, h2, h1, ← hkk]; simp [stu, va_up])
end CV2
