def dThr (ps : PSt) (t i : Int) : Prop := (0 ≤ t ∧ t < 256 + ps.length) ∧ ¬ (0 ≤ i ∧ i < (tbo (tbl ps) t).length)
def aDec (ps : PSt) (t i : Int) : Int := if 0 ≤ t ∧ t < 256 + ps.length then (tbo (tbl ps) t).getD i.toNat 0 else -1
section M3
variable {l : Launch} {D : va_G} {cA : Nat → ClassId} {ad : Nat → Nat} {σ : St} {T : List Int} {ps : PSt} {P : Int → Int} {R : Rw}
theorem rowM_at (hR : rowM σ R) {i : Nat} (hi : i < R.length) : σ 8 i = (R.getD i (0, 0)).1 ∧ σ 9 i = (R.getD i (0, 0)).2 := by
  have e : R[i]? = some (R.getD i (0, 0)) := by
    rw [List.getD_eq_getElem?_getD, List.getElem?_eq_getElem hi]
    rfl
  have := hold_at hR.2.2 e
  rwa [Nat.zero_add] at this
theorem c_X6_tokens (h : RM σ T ps P) : Ci l yX6_tokens wsX6_tokens (rh 4) D cA ad LM [.inl 0] σ (fun r τ => r = aTok T ps ∧ RM τ T ps P) := by
  refine Ci.walk fX6_tokens pX6_tokens [] (by decide) rfl LM_ok tX6_tokens_ok fX6_tokens_ok pX6_tokens_ok klOk_0 (Nat.le_of_ble_eq_true rfl) (fun V M ret => ?_)
  refine M.1 [6] 60 _ ?_
  refine M.2.2.1 (vs := []) (rest := []) rfl oX6_tokens_X6_tell rfl rfl (Nat.le_of_ble_eq_true rfl) rfl (c_X6_tell (RM_c h inR_0)) (fun υ hp2 => ?_)
  obtain ⟨p1, -, p2⟩ := hp2
  refine M.1 [13] 60 _ ?_
  exact ret rfl (p1.1 _ _) ⟨p2.1, p1⟩
theorem c_X6_at {i : Int} (h : RM σ T ps P) (hi : inR i) : Ci l yX6_at wsX6_at (rh 4) D cA ad LM [.inl 0, .inr i] σ (fun r τ => r = aAt T ps i ∧ RM τ T ps P) := by
  refine Ci.walk fX6_at pX6_at [] (by decide) rfl LM_ok tX6_at_ok fX6_at_ok pX6_at_ok klOk_0 (Nat.le_of_ble_eq_true rfl) (fun V M ret => ?_)
  refine M.1 [6] 60 _ ?_
  refine M.2.2.1 (vs := []) (rest := []) rfl oX6_at_X6_tell rfl rfl (Nat.le_of_ble_eq_true rfl) rfl (c_X6_tell (RM_c h inR_0)) (fun υ hp2 => ?_)
  obtain ⟨p1, -, p2⟩ := hp2
  have hN := p2.1
  have hN2 := p2.2.1
  refine M.1 [17] 60 _ ?_
  refine M.2.2.2.1 (vs := [.inr i, .inr 0, .inr (υ 0 10 - 1)]) (rest := []) rfl oX6_at_X6_in (Nat.le_of_ble_eq_true rfl) rfl (c_X6_in hi inR_0 (by rw [hN]; unfold inR; omega)) (fun r τ _ hp3 => ?_)
  obtain ⟨rfl, rfl⟩ := hp3
  rw [hN]
  refine M.1 [33] 60 _ ?_
  refine ⟨b01_r _, fun c1 => ?_, fun c1 => ?_⟩
  · have c1 := b01_0.mp c1
    exact ret rfl (by constructor <;> decide) ⟨by unfold aAt; rw [if_neg (by omega)], p1⟩
  · have c1 := Classical.not_not.mp (fun h => c1 (b01_f h))
    refine ⟨⟨by omega, by omega⟩, ?_⟩
    exact ret rfl (p1.1 _ _) ⟨by unfold aAt; rw [if_pos (by omega), (rowM_at p2 (i := i.toNat) (by omega)).1], p1⟩
theorem c_X6_from {i : Int} (h : RM σ T ps P) (hi : inR i) : Ci l yX6_from wsX6_from (rh 4) D cA ad LM [.inl 0, .inr i] σ (fun r τ => r = aFrm T ps i ∧ RM τ T ps P) := by
  refine Ci.walk fX6_from pX6_from [] (by decide) rfl LM_ok tX6_from_ok fX6_from_ok pX6_from_ok klOk_0 (Nat.le_of_ble_eq_true rfl) (fun V M ret => ?_)
  refine M.1 [6] 60 _ ?_
  refine M.2.2.1 (vs := []) (rest := []) rfl oX6_from_X6_tell rfl rfl (Nat.le_of_ble_eq_true rfl) rfl (c_X6_tell (RM_c h inR_0)) (fun υ hp2 => ?_)
  obtain ⟨p1, -, p2⟩ := hp2
  have hN := p2.1
  have hN2 := p2.2.1
  refine M.1 [17] 60 _ ?_
  refine M.2.2.2.1 (vs := [.inr i, .inr 0, .inr (υ 0 10 - 1)]) (rest := []) rfl oX6_from_X6_in (Nat.le_of_ble_eq_true rfl) rfl (c_X6_in hi inR_0 (by rw [hN]; unfold inR; omega)) (fun r τ _ hp3 => ?_)
  obtain ⟨rfl, rfl⟩ := hp3
  rw [hN]
  refine M.1 [33] 60 _ ?_
  refine ⟨b01_r _, fun c1 => ?_, fun c1 => ?_⟩
  · have c1 := b01_0.mp c1
    exact ret rfl (by constructor <;> decide) ⟨by unfold aFrm; rw [if_neg (by omega)], p1⟩
  · have c1 := Classical.not_not.mp (fun h => c1 (b01_f h))
    refine ⟨⟨by omega, by omega⟩, ?_⟩
    exact ret rfl (p1.1 _ _) ⟨by unfold aFrm; rw [if_pos (by omega), (rowM_at p2 (i := i.toNat) (by omega)).2], p1⟩
theorem c_X6_isLearned {t : Int} (hr : rng σ) (hv : vocM σ ps) (ht : inR t) : Ci l yX6_isLearned wsX6_isLearned (rh 1) D cA ad LM [.inl 0, .inr t] σ (fun r τ => τ = σ ∧ r = b01 (256 ≤ t ∧ t < 256 + ps.length)) := by
  have h1 := hv.1
  have h2 := hv.2.1
  refine Ci.walkZ fX6_isLearned pX6_isLearned [] (by decide) rfl LM_ok tX6_isLearned_ok fX6_isLearned_ok pX6_isLearned_ok klOk_0 (Nat.le_of_ble_eq_true rfl) (fun V M ret => ?_)
  refine M.1 [12] 60 _ ?_
  refine M.2.2.2.1 (vs := [.inr t, .inr 256, .inr (255 + σ 0 3)]) (rest := []) rfl oX6_isLearned_X6_in (Nat.le_of_ble_eq_true rfl) rfl (c_X6_in ht (by constructor <;> decide) (by unfold inR; omega)) (fun r τ _ hp3 => ?_)
  obtain ⟨rfl, rfl⟩ := hp3
  exact ret rfl (b01_z _) ⟨rfl, b01_c (by omega)⟩
theorem c_X6_isToken {t : Int} (hr : rng σ) (hv : vocM σ ps) (ht : inR t) : Ci l yX6_isToken wsX6_isToken (rh 1) D cA ad LM [.inl 0, .inr t] σ (fun r τ => τ = σ ∧ r = b01 (0 ≤ t ∧ t < 256 + ps.length)) := by
  have h1 := hv.1
  have h2 := hv.2.1
  refine Ci.walkZ fX6_isToken pX6_isToken [] (by decide) rfl LM_ok tX6_isToken_ok fX6_isToken_ok pX6_isToken_ok klOk_0 (Nat.le_of_ble_eq_true rfl) (fun V M ret => ?_)
  refine M.1 [10] 60 _ ?_
  refine M.2.2.2.1 (vs := [.inr t, .inr 0, .inr (255 + σ 0 3)]) (rest := []) rfl oX6_isToken_X6_in (Nat.le_of_ble_eq_true rfl) rfl (c_X6_in ht (by constructor <;> decide) (by unfold inR; omega)) (fun r τ _ hp3 => ?_)
  obtain ⟨rfl, rfl⟩ := hp3
  exact ret rfl (b01_z _) ⟨rfl, b01_c (by omega)⟩
theorem c_X6_sizeOf {t : Int} (hr : rng σ) (hv : vocM σ ps) (ht : 0 ≤ t ∧ t < 256 + ps.length) : Ci l yX6_sizeOf wsX6_sizeOf (rh 0) D cA ad LM [.inl 0, .inr t] σ (fun r τ => τ = σ ∧ r = (tbo (tbl ps) t).length) := by
  have h2 := hv.2.1
  refine Ci.walk fX6_sizeOf pX6_sizeOf [] (by decide) rfl LM_ok tX6_sizeOf_ok fX6_sizeOf_ok pX6_sizeOf_ok klOk_0 (Nat.le_of_ble_eq_true rfl) (fun V M ret => ?_)
  refine M.1 [21] 60 _ ?_
  refine ⟨⟨by unfold inR; omega, by constructor <;> decide⟩, fun c1 => ?_, fun c1 => ?_⟩
  · refine ⟨⟨by omega, by omega⟩, ?_⟩
    refine ret rfl (hr _ _) ⟨rfl, ?_⟩
    unfold tbo
    rw [if_neg (by omega), (hv.2.2.2 (t - 256).toNat (by omega)).1]
    rfl
  · refine ret rfl (by constructor <;> decide) ⟨rfl, ?_⟩
    unfold tbo
    rw [if_pos (by omega)]
    rfl
theorem c_X6_byteOf {t : Int} {i : Nat} (hr : rng σ) (hv : vocM σ ps) (h120 : ∀ j, j < ps.length → tl (tbl ps) j ≤ 120) (ht : 0 ≤ t ∧ t < 256 + ps.length) (hi : i < (tbo (tbl ps) t).length) : Ci l yX6_byteOf wsX6_byteOf (rh 0) D cA ad LM [.inl 0, .inr t, .inr (i : Int)] σ (fun r τ => τ = σ ∧ r = (tbo (tbl ps) t).getD i 0) := by
  have h2 := hv.2.1
  refine Ci.walk fX6_byteOf pX6_byteOf [] (by decide) rfl LM_ok tX6_byteOf_ok fX6_byteOf_ok pX6_byteOf_ok klOk_0 (Nat.le_of_ble_eq_true rfl) (fun V M ret => ?_)
  unfold tbo at hi
  refine M.1 [26] 60 _ ?_
  refine ⟨⟨by unfold inR; omega, by constructor <;> decide⟩, fun c1 => ?_, fun c1 => ?_⟩
  · rw [if_neg (by omega)] at hi
    have h3 := h120 (t - 256).toNat (by omega)
    have hi' : i < tl (tbl ps) (t - 256).toNat := hi
    refine ⟨⟨by omega, by omega⟩, ?_⟩
    refine ret rfl (hr _ _) ⟨rfl, ?_⟩
    rw [show (120 * (t - 256) + (i : Int)).toNat = 120 * (t - 256).toNat + i by omega, (hv.2.2.2 (t - 256).toNat (by omega)).2 i hi']
    unfold tbo
    rw [if_neg (by omega)]
  · rw [if_pos (by omega)] at hi
    refine ret rfl (by unfold inR; omega) ⟨rfl, ?_⟩
    unfold tbo
    rw [if_pos (by omega)]
    simp at hi
    subst hi
    rfl
theorem psM_at (hv : vocM σ ps) {j : Nat} (hj : j < ps.length) : σ 2 j = (ps.getD j d3).1 ∧ σ 3 j = (ps.getD j d3).2.1 ∧ σ 4 j = (ps.getD j d3).2.2 := by
  have e : ps[j]? = some (ps.getD j d3) := by
    rw [List.getD_eq_getElem?_getD, List.getElem?_eq_getElem hj]
    rfl
  exact hv.2.2.1 j _ e
theorem c_X6_pair {t s : Int} (h : RM σ T ps P) (ht' : inR t) (hs : inR s) : Ci l yX6_pair wsX6_pair (rh 2) D cA ad LM [.inl 0, .inr t, .inr s] σ (fun r τ => r = aPai ps t s ∧ RM τ T ps P) := by
  refine Ci.walk fX6_pair pX6_pair [] (by decide) rfl LM_ok tX6_pair_ok fX6_pair_ok pX6_pair_ok klOk_0 (Nat.le_of_ble_eq_true rfl) (fun V M ret => ?_)
  suffices start : ∀ σ : St, RM σ T ps P → V (5, lnum 0 [.inl 0, .inr t, .inr s], [], σ) by
    refine M.1 [5] 60 _ ?_
    exact start _ (RM_c h inR_0)
  clear h
  intro σ h
  have h' := h
  obtain ⟨hr, ht, hv, hp⟩ := h
  have hl := hv.2.1
  refine M.1 [7] 60 _ ?_
  refine M.2.1 (vs := [.inr t]) (rest := []) rfl oX6_pair_X6_isLearned rfl rfl (Nat.le_of_ble_eq_true rfl) rfl (c_X6_isLearned hr hv ht') (fun r τ _ hp' => ?_)
  obtain ⟨rfl, rfl⟩ := hp'
  refine M.1 [14, 52] 60 _ ?_
  refine ⟨b01_r _, fun c1 => ?_, fun c1 => ?_⟩
  · have h1 := Classical.not_not.mp (fun h => c1 (b01_f h))
    have e := psM_at hv (j := (t - 256).toNat) (by omega)
    refine ⟨hs, fun c2 => ?_, fun c2 => ?_⟩
    · refine ⟨⟨hs, by constructor <;> decide⟩, fun c3 => ?_, fun c3 => ?_⟩
      · exact ret rfl (by constructor <;> decide) ⟨by unfold aPai; rw [if_pos h1, if_neg c2, if_neg c3], h'⟩
      · refine ⟨⟨by omega, by omega⟩, ?_⟩
        exact ret rfl (hr _ _) ⟨by unfold aPai; rw [if_pos h1, if_neg c2, if_pos c3, e.2.1], h'⟩
    · refine ⟨⟨by omega, by omega⟩, ?_⟩
      exact ret rfl (hr _ _) ⟨by unfold aPai; rw [if_pos h1, if_pos c2, e.1], h'⟩
  · exact ret rfl (by constructor <;> decide) ⟨by unfold aPai; rw [if_neg (b01_0.mp c1)], h'⟩
theorem c_X6_count {t : Int} (h : RM σ T ps P) (ht' : inR t) : Ci l yX6_count wsX6_count (rh 2) D cA ad LM [.inl 0, .inr t] σ (fun r τ => r = aCnt ps t ∧ RM τ T ps P) := by
  refine Ci.walk fX6_count pX6_count [] (by decide) rfl LM_ok tX6_count_ok fX6_count_ok pX6_count_ok klOk_0 (Nat.le_of_ble_eq_true rfl) (fun V M ret => ?_)
  suffices start : ∀ σ : St, RM σ T ps P → V (5, lnum 0 [.inl 0, .inr t], [], σ) by
    refine M.1 [5] 60 _ ?_
    exact start _ (RM_c h inR_0)
  clear h
  intro σ h
  have h' := h
  obtain ⟨hr, ht, hv, hp⟩ := h
  have hl := hv.2.1
  refine M.1 [7] 60 _ ?_
  refine M.2.1 (vs := [.inr t]) (rest := []) rfl oX6_count_X6_isLearned rfl rfl (Nat.le_of_ble_eq_true rfl) rfl (c_X6_isLearned hr hv ht') (fun r τ _ hp' => ?_)
  obtain ⟨rfl, rfl⟩ := hp'
  refine M.1 [27] 60 _ ?_
  refine ⟨b01_r _, fun c1 => ?_, fun c1 => ?_⟩
  · exact ret rfl (by constructor <;> decide) ⟨by unfold aCnt; rw [if_neg (b01_0.mp c1)], h'⟩
  · have h1 := Classical.not_not.mp (fun h => c1 (b01_f h))
    have e := psM_at hv (j := (t - 256).toNat) (by omega)
    refine ⟨⟨by omega, by omega⟩, ?_⟩
    exact ret rfl (hr _ _) ⟨by unfold aCnt; rw [if_pos h1, e.2.2], h'⟩
theorem c_X6_size {t : Int} (h : RM σ T ps P) (ht' : inR t) : Ci l yX6_size wsX6_size (rh 2) D cA ad LM [.inl 0, .inr t] σ (fun r τ => r = aSiz ps t ∧ RM τ T ps P) := by
  refine Ci.walk fX6_size pX6_size [] (by decide) rfl LM_ok tX6_size_ok fX6_size_ok pX6_size_ok klOk_0 (Nat.le_of_ble_eq_true rfl) (fun V M ret => ?_)
  suffices start : ∀ σ : St, RM σ T ps P → V (5, lnum 0 [.inl 0, .inr t], [], σ) by
    refine M.1 [5] 60 _ ?_
    exact start _ (RM_c h inR_0)
  clear h
  intro σ h
  have h' := h
  obtain ⟨hr, ht, hv, hp⟩ := h
  refine M.1 [7] 60 _ ?_
  refine M.2.1 (vs := [.inr t]) (rest := []) rfl oX6_size_X6_isToken rfl rfl (Nat.le_of_ble_eq_true rfl) rfl (c_X6_isToken hr hv ht') (fun r τ _ hp' => ?_)
  obtain ⟨rfl, rfl⟩ := hp'
  refine M.1 [15, 22] 60 _ ?_
  refine ⟨b01_r _, fun c1 => ?_, fun c1 => ?_⟩
  · exact ret rfl (by constructor <;> decide) ⟨by unfold aSiz; rw [if_neg (b01_0.mp c1)], h'⟩
  · have h1 := Classical.not_not.mp (fun h => c1 (b01_f h))
    refine M.2.1 (vs := [.inr t]) (rest := []) rfl oX6_size_X6_sizeOf rfl rfl (Nat.le_of_ble_eq_true rfl) rfl (c_X6_sizeOf hr hv h1) (fun r τ hin hp' => ?_)
    obtain ⟨rfl, rfl⟩ := hp'
    refine M.1 [22] 60 _ ?_
    exact ret rfl hin ⟨by unfold aSiz; rw [if_pos h1], h'⟩
theorem c_X6_points {t p : Int} (h : RM σ T ps P) (ht' : inR t) (hp' : inR p) : Ci l yX6_points wsX6_points (rh 2) D cA ad LM [.inl 0, .inr t, .inr p] σ (fun r τ => r = aPts ps t p ∧ RM τ T ps (pPts ps P t p)) := by
  refine Ci.walk fX6_points pX6_points [] (by decide) rfl LM_ok tX6_points_ok fX6_points_ok pX6_points_ok klOk_0 (Nat.le_of_ble_eq_true rfl) (fun V M ret => ?_)
  suffices start : ∀ σ : St, RM σ T ps P → V (5, lnum 0 [.inl 0, .inr t, .inr p], [], σ) by
    refine M.1 [5] 60 _ ?_
    exact start _ (RM_c h inR_0)
  clear h
  intro σ h
  have h' := h
  obtain ⟨hr, ht, hv, hp⟩ := h
  have hl2 := hv.2.1
  refine M.1 [7] 60 _ ?_
  refine M.2.1 (vs := [.inr t]) (rest := []) rfl oX6_points_X6_isToken rfl rfl (Nat.le_of_ble_eq_true rfl) rfl (c_X6_isToken hr hv ht') (fun r τ _ hp2 => ?_)
  obtain ⟨rfl, rfl⟩ := hp2
  have no : ¬ (0 ≤ t ∧ t < 256 + ps.length ∧ -100 ≤ p ∧ p ≤ 100) → RM τ T ps (pPts ps P t p) := by
    intro q
    unfold pPts
    rw [if_neg q]
    exact h'
  refine M.1 [14, 20] 60 _ ?_
  refine ⟨b01_r _, fun c1 => ?_, fun c1 => ?_⟩
  · have h1 := Classical.not_not.mp (fun h => c1 (b01_f h))
    refine M.2.2.2.1 (vs := [.inr p, .inr (-100), .inr 100]) (rest := []) rfl oX6_points_X6_in (Nat.le_of_ble_eq_true rfl) rfl (c_X6_in hp' (by constructor <;> decide) (by constructor <;> decide)) (fun r τ2 _ hp3 => ?_)
    obtain ⟨rfl, rfl⟩ := hp3
    refine M.1 [28, 37] 60 _ ?_
    refine ⟨b01_r _, fun c2 => ?_, fun c2 => ?_⟩
    · have c2 := Classical.not_not.mp (fun h => c2 (b01_f h))
      refine ⟨⟨by omega, by omega⟩, ?_⟩
      refine ret rfl (by constructor <;> decide) ⟨by unfold aPts; rw [if_pos h1, if_pos (by omega)], rng_stu hr hp' _ _, textM_x ht (by simp [stu, va_up]) (by simp [stu, va_up]), vocM_x hv (by simp [stu, va_up]) (by simp [stu, va_up]) (by simp [stu, va_up]) (by simp [stu, va_up]) (by simp [stu, va_up]) (by simp [stu, va_up]), ?_⟩
      intro x hx
      unfold pPts
      rw [if_pos (by omega)]
      by_cases e : x = t.toNat
      · subst e
        rw [stu_s, if_pos (by omega)]
      · rw [stu_i _ _ _ e, if_neg (by omega)]
        exact hp x hx
    · have c2 := b01_0.mp c2
      exact ret rfl (by constructor <;> decide) ⟨by unfold aPts; rw [if_pos h1, if_neg c2], no (by omega)⟩
  · have h1 := b01_0.mp c1
    exact ret rfl (by constructor <;> decide) ⟨by unfold aPts; rw [if_neg h1], no (by omega)⟩
theorem c_X6_decode {t i : Int} (h : RM σ T ps P) (h120 : ∀ j, j < ps.length → tl (tbl ps) j ≤ 120) (ht' : inR t) (hi : inR i) : Ci l yX6_decode wsX6_decode (rh 2) D cA ad LM [.inl 0, .inr t, .inr i] σ (fun r τ => RM τ T ps P ∧ ((dThr ps t i ∧ τ 0 0 = 1) ∨ (¬ dThr ps t i ∧ τ 0 0 = 0 ∧ r = aDec ps t i))) := by
  refine Ci.walk fX6_decode pX6_decode [] (by decide) rfl LM_ok tX6_decode_ok fX6_decode_ok pX6_decode_ok klOk_0 (Nat.le_of_ble_eq_true rfl) (fun V M ret => ?_)
  suffices start : ∀ σ : St, RM σ T ps P → σ 0 0 = 0 → V (5, lnum 0 [.inl 0, .inr t, .inr i], [], σ) by
    refine M.1 [5] 60 _ ?_
    exact start _ (RM_c h inR_0) (stu_s _ _ _ _)
  clear h
  intro σ h h00
  have h' := h
  obtain ⟨hr, ht, hv, hp⟩ := h
  have hl2 := hv.2.1
  refine M.1 [7] 60 _ ?_
  refine M.2.1 (vs := [.inr t]) (rest := []) rfl oX6_decode_X6_isToken rfl rfl (Nat.le_of_ble_eq_true rfl) rfl (c_X6_isToken hr hv ht') (fun r τ _ hp2 => ?_)
  obtain ⟨rfl, rfl⟩ := hp2
  refine M.1 [14, 19] 60 _ ?_
  refine ⟨b01_r _, fun c1 => ?_, fun c1 => ?_⟩
  · have h1 := Classical.not_not.mp (fun h => c1 (b01_f h))
    have hsz : (tbo (tbl ps) t).length ≤ 120 := by
      unfold tbo
      split
      · simp
      · exact h120 (t - 256).toNat (by omega)
    refine M.2.1 (vs := [.inr t]) (rest := [.inr 0, .inr i]) rfl oX6_decode_X6_sizeOf rfl rfl (Nat.le_of_ble_eq_true rfl) rfl (c_X6_sizeOf hr hv h1) (fun r τ2 hin hp3 => ?_)
    obtain ⟨rfl, rfl⟩ := hp3
    refine M.1 [24] 60 _ ?_
    refine M.2.2.2.1 (vs := [.inr i, .inr 0, .inr (((tbo (tbl ps) t).length : Int) - 1)]) (rest := []) rfl oX6_decode_X6_in (Nat.le_of_ble_eq_true rfl) rfl (c_X6_in hi inR_0 (by unfold inR; omega)) (fun r τ3 _ hp4 => ?_)
    obtain ⟨rfl, rfl⟩ := hp4
    refine M.1 [36, 40] 60 _ ?_
    refine ⟨b01_r _, fun c2 => ?_, fun c2 => ?_⟩
    · have c2 := Classical.not_not.mp (fun h => c2 (b01_f h))
      have e : i = (i.toNat : Int) := by omega
      refine M.2.1 (vs := [.inr t, .inr i]) (rest := []) rfl oX6_decode_X6_byteOf rfl rfl (Nat.le_of_ble_eq_true rfl) rfl (by rw [e]; exact c_X6_byteOf (i := i.toNat) hr hv h120 h1 (by omega)) (fun r τ4 hin2 hp5 => ?_)
      obtain ⟨rfl, rfl⟩ := hp5
      refine ret rfl hin2 ⟨h', Or.inr ⟨fun q => q.2 (by omega), h00, ?_⟩⟩
      unfold aDec
      rw [if_pos h1]
    · have c2 := b01_0.mp c2
      exact ret rfl (by constructor <;> decide) ⟨RM_c h' (by constructor <;> decide), Or.inl ⟨⟨h1, by omega⟩, stu_s _ _ _ _⟩⟩
  · have h1 := b01_0.mp c1
    refine ret rfl (by constructor <;> decide) ⟨h', Or.inr ⟨fun q => h1 q.1, h00, ?_⟩⟩
    unfold aDec
    rw [if_neg h1]
end M3
