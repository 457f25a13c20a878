def tellR (w : Int → Int) : PSt → Nat → Rw → Rw
  | [], _, r => r
  | q :: ps, j, r => tellR w ps (j + 1) (mrg w q.1 q.2.1 (256 + (j : Int)) r)
noncomputable def told (T : List Int) (ps : PSt) : Rw := tellR (wT T) ps 0 (spT T)
noncomputable def aTok (T : List Int) (ps : PSt) : Int := (told T ps).length
noncomputable def aAt (T : List Int) (ps : PSt) (i : Int) : Int := if 0 ≤ i ∧ i < (told T ps).length then ((told T ps).getD i.toNat (0, 0)).1 else -1
noncomputable def aFrm (T : List Int) (ps : PSt) (i : Int) : Int := if 0 ≤ i ∧ i < (told T ps).length then ((told T ps).getD i.toNat (0, 0)).2 else -1
theorem spl_congr {f g : Nat → Int} : ∀ {n : Nat}, (∀ i, i < n → f i = g i) → spl f n = spl g n
  | 0, _ => rfl
  | n + 1, h => by
    unfold spl
    rw [spl_congr (fun i hi => h i (by omega)), h n (by omega)]
section X5b
variable {l : Launch} {D : va_G} {cA : Nat → ClassId} {ad : Nat → Nat} {σ : St} {T : List Int} {ps : PSt} {P : Int → Int}
theorem RC_x {τ : St} (h : RC σ T ps P) (hr : rng τ) (hx : eqx [3, 4, 5, 14, 15, 16, 17, 18, 19, 20, 21, 22, 23] σ τ) : RC τ T ps P :=
  ⟨hr, textC_x h.2.1 (hx 1 (by decide)) (hx 6 (by decide)), vocC_x h.2.2.1 (hx 2 (by decide)) (hx 7 (by decide)) (hx 8 (by decide)) (hx 9 (by decide)) (hx 10 (by decide)) (hx 12 (by decide)) (hx 13 (by decide)), ptsC_x h.2.2.2 (hx 11 (by decide))⟩
theorem spT_eq (ht : textC σ T) : spl (σ 6) (σ 1 1).toNat = spT T := by
  rw [ht.1, Int.toNat_natCast]
  exact spl_congr (fun i hi => (ht.2.2 i hi).1)
theorem c_X5_tellText (h : RC σ T ps P) : Cv l yX5_tellText wsX5_tellText (rh 2) D cA ad LC [.inl 0] σ (fun τ => RC τ T ps P ∧ rowC τ (wT T) (told T ps)) := by
  have h' := h
  obtain ⟨hr, ht, hv, hp⟩ := h
  have hk := kC_of hr ht hv
  have hl2 := hv.2.1
  refine Cv.walk fX5_tellText pX5_tellText [] (by decide) rfl LC_ok tX5_tellText_ok fX5_tellText_ok pX5_tellText_ok klOk_0 (Nat.le_of_ble_eq_true rfl) (fun V M ret => ?_)
  have loop : ∀ (qs : PSt) (j : Nat) (R : Rw) (τ : St), (∀ i q, qs[i]? = some q → ps[j + i]? = some q) → j + qs.length = ps.length → rng τ → eqx [3, 14, 15, 16] σ τ → rowC τ (wT T) R → tellR (wT T) qs j R = told T ps → V (13, [(0, .inl 0), (1, .inr (j : Int))], [], τ) := by
    intro qs
    induction qs with
    | nil =>
      intro j R τ hq hj hrt hx hR hm
      have e2 : τ 2 = σ 2 := hx 2 (by decide)
      simp at hj
      refine M.1 [60] 60 _ ?_
      refine ⟨⟨by unfold inR; omega, hrt _ _⟩, fun c1 => ?_, fun c1 => absurd c1 (by rw [e2, hv.1]; omega)⟩
      refine ret rfl ⟨RC_x h' hrt (eqx_mono hx (by decide)), ?_⟩
      rw [← hm]
      exact hR
    | cons q qs ih =>
      intro j R τ hq hj hrt hx hR hm
      have e2 : τ 2 = σ 2 := hx 2 (by decide)
      have hRC := RC_x h' hrt (eqx_mono hx (by decide))
      have hkt := kC_of hRC.1 hRC.2.1 hRC.2.2.1
      simp only [List.length_cons] at hj
      have hq0 : ps[j]? = some q := by simpa using hq 0 q rfl
      have e := hRC.2.2.1.2.2.1 j q hq0
      refine M.1 [51] 60 _ ?_
      refine ⟨⟨by unfold inR; omega, hrt _ _⟩, fun c1 => absurd c1 (by rw [e2, hv.1]; omega), fun c1 => ?_⟩
      refine ⟨⟨by omega, by omega⟩, ⟨by omega, by omega⟩, ?_⟩
      rw [Int.toNat_natCast, e.1, e.2.1]
      refine M.2.2.1 (vs := [.inr q.1, .inr q.2.1, .inr (256 + (j : Int))]) (rest := []) rfl oX5_tellText_X2_merge rfl rfl (Nat.le_of_ble_eq_true rfl) rfl (c_X2_merge (by rw [← e.1]; exact hrt _ _) (by rw [← e.2.1]; exact hrt _ _) (by unfold inR; omega) hkt (wT_01 T) hR) (fun υ hp2 => ?_)
      obtain ⟨p1, p2, p3⟩ := hp2
      refine M.1 [13] 60 _ ?_
      refine ih (j + 1) _ υ (fun i z hz => ?_) (by omega) p1 (eqx_trans hx p2) p3 hm
      have := hq (i + 1) z (by simpa using hz)
      rwa [show j + (i + 1) = j + 1 + i by omega] at this
  refine M.1 [8] 60 _ ?_
  refine M.2.2.1 (vs := [.inl 1]) (rest := []) rfl oX5_tellText_X2_spell rfl rfl (Nat.le_of_ble_eq_true rfl) rfl (c_X2_spell hk) (fun υ hp2 => ?_)
  obtain ⟨p1, p2, p3⟩ := hp2
  rw [wT_eq ht, spT_eq ht] at p3
  refine M.1 [13] 60 _ ?_
  exact loop ps 0 (spT T) υ (fun i q hq => by rw [Nat.zero_add]; exact hq) (by omega) p1 p2 p3 rfl
theorem row_at {w : Int → Int} {R : Rw} (hR : rowC σ w R) {i : Nat} (hi : i < R.length) : σ 14 i = (R.getD i (0, 0)).1 ∧ σ 15 i = (R.getD i (0, 0)).2 := by
  have e : R[i]? = some (R.getD i (0, 0)) := by
    rw [List.getD_eq_getElem?_getD, List.getElem?_eq_getElem hi]
    rfl
  have := hold_at hR.2.2.1 e
  rwa [Nat.zero_add] at this
theorem c_X5_tokens (h : RC σ T ps P) : Ci l yX5_tokens wsX5_tokens (rh 3) D cA ad LC [.inl 0] σ (fun r τ => r = aTok T ps ∧ RC τ T ps P) := by
  refine Ci.walk fX5_tokens pX5_tokens [] (by decide) rfl LC_ok tX5_tokens_ok fX5_tokens_ok pX5_tokens_ok klOk_0 (Nat.le_of_ble_eq_true rfl) (fun V M ret => ?_)
  refine M.1 [1] 60 _ ?_
  refine M.2.2.1 (vs := []) (rest := []) rfl oX5_tokens_X5_tellText rfl rfl (Nat.le_of_ble_eq_true rfl) rfl (c_X5_tellText h) (fun υ hp2 => ?_)
  obtain ⟨p1, p2⟩ := hp2
  refine M.1 [11] 60 _ ?_
  exact ret rfl (p1.1 _ _) ⟨p2.1, p1⟩
theorem c_X5_at {i : Int} (h : RC σ T ps P) (hi : inR i) : Ci l yX5_at wsX5_at (rh 3) D cA ad LC [.inl 0, .inr i] σ (fun r τ => r = aAt T ps i ∧ RC τ T ps P) := by
  refine Ci.walk fX5_at pX5_at [] (by decide) rfl LC_ok tX5_at_ok fX5_at_ok pX5_at_ok klOk_0 (Nat.le_of_ble_eq_true rfl) (fun V M ret => ?_)
  refine M.1 [1] 60 _ ?_
  refine M.2.2.1 (vs := []) (rest := []) rfl oX5_at_X5_tellText rfl rfl (Nat.le_of_ble_eq_true rfl) rfl (c_X5_tellText h) (fun υ hp2 => ?_)
  obtain ⟨p1, p2⟩ := hp2
  have hN := p2.1
  have hN2 := p2.2.1
  refine M.1 [20, 30] 60 _ ?_
  refine ⟨hi, fun c1 => ?_, fun c1 => ?_⟩
  · exact ret rfl (by constructor <;> decide) ⟨by unfold aAt; rw [if_neg (by omega)], p1⟩
  · refine ⟨⟨hi, p1.1 _ _⟩, fun c2 => ?_, fun c2 => ?_⟩
    · refine ⟨⟨by omega, by omega⟩, ?_⟩
      exact ret rfl (p1.1 _ _) ⟨by unfold aAt; rw [if_pos (by omega), (row_at p2 (i := i.toNat) (by omega)).1], p1⟩
    · exact ret rfl (by constructor <;> decide) ⟨by unfold aAt; rw [if_neg (by omega)], p1⟩
theorem c_X5_from {i : Int} (h : RC σ T ps P) (hi : inR i) : Ci l yX5_from wsX5_from (rh 3) D cA ad LC [.inl 0, .inr i] σ (fun r τ => r = aFrm T ps i ∧ RC τ T ps P) := by
  refine Ci.walk fX5_from pX5_from [] (by decide) rfl LC_ok tX5_from_ok fX5_from_ok pX5_from_ok klOk_0 (Nat.le_of_ble_eq_true rfl) (fun V M ret => ?_)
  refine M.1 [1] 60 _ ?_
  refine M.2.2.1 (vs := []) (rest := []) rfl oX5_from_X5_tellText rfl rfl (Nat.le_of_ble_eq_true rfl) rfl (c_X5_tellText h) (fun υ hp2 => ?_)
  obtain ⟨p1, p2⟩ := hp2
  have hN := p2.1
  have hN2 := p2.2.1
  refine M.1 [20, 30] 60 _ ?_
  refine ⟨hi, fun c1 => ?_, fun c1 => ?_⟩
  · exact ret rfl (by constructor <;> decide) ⟨by unfold aFrm; rw [if_neg (by omega)], p1⟩
  · refine ⟨⟨hi, p1.1 _ _⟩, fun c2 => ?_, fun c2 => ?_⟩
    · refine ⟨⟨by omega, by omega⟩, ?_⟩
      exact ret rfl (p1.1 _ _) ⟨by unfold aFrm; rw [if_pos (by omega), (row_at p2 (i := i.toNat) (by omega)).2], p1⟩
    · exact ret rfl (by constructor <;> decide) ⟨by unfold aFrm; rw [if_neg (by omega)], p1⟩
theorem sz_stp (ht : textC σ T) (hv : vocC σ ps) {p z : Nat} {t : Int} (h : stp T.length (FT T) (tbl ps) p t z) : szC σ t = (z : Int) ∧ 0 ≤ t ∧ t < 288 := by
  obtain ⟨hp, ⟨h, hz⟩ | ⟨j, hj, h, hz, -⟩⟩ := h
  · have hb : 0 ≤ FT T p ∧ FT T p < 256 := (ht.2.2 p hp).2
    rw [szC_b (fun q => by have := q.1; omega)]
    omega
  · rw [tbl_len] at hj
    have := hv.2.1
    rw [h, voc_sz hv hj, hz]
    omega
theorem c_X0_chosenAfter {a : Nat} {rows : Nat → List Int} (h : RC σ T ps P) (hb : bsOk (tbl ps)) (hd : ∀ p, 0 ≤ p → p ≤ T.length → dpAt σ T.length (FT T) (tbl ps) P rows p) (ha : a < (rows 0).length) : Ci l yX0_chosenAfter wsX0_chosenAfter (rh 2) D cA ad LC [.inl 5, .inr (a : Int), .inl 2] σ (fun r τ => r = (rows 0).getD a 0 ∧ τ = σ) := by
  obtain ⟨hr, ht, hv, hp⟩ := h
  have hk := kC_of hr ht hv
  have hn := ht.2.1
  have hl0 := pth_le hb (hd 0 (Nat.le_refl _) (Nat.zero_le _)).1
  refine Ci.walk fX0_chosenAfter pX0_chosenAfter [] (by decide) rfl LC_ok tX0_chosenAfter_ok fX0_chosenAfter_ok pX0_chosenAfter_ok klOk_0 (Nat.le_of_ble_eq_true rfl) (fun V M ret => ?_)
  have loop : ∀ (d i p : Nat) (pre : List Int), i + d = a → p ≤ T.length → rows 0 = pre ++ rows p → pre.length = i → V (5, [(0, .inl 5), (1, .inr (a : Int)), (2, .inl 2), (3, .inr (p : Int)), (4, .inr (i : Int))], [], σ) := by
    intro d
    induction d with
    | zero =>
      intro i p pre hi hpn hrow hpre
      have e : i = a := by omega
      subst e
      obtain ⟨d1, -, -, -, d5, -⟩ := hd p (Nat.zero_le _) hpn
      have hne : 0 < (rows p).length := by rw [hrow, List.length_append] at ha; omega
      have hlp := pth_le hb d1
      have hp2 : p < T.length := by omega
      obtain ⟨z, -, hz⟩ := d5 hp2
      refine M.1 [56] 60 _ ?_
      refine ⟨⟨by unfold inR; omega, by unfold inR; omega⟩, fun c1 => ?_, fun c1 => absurd c1 (by omega)⟩
      refine ⟨by unfold inR; omega, fun c2 => absurd c2 (by omega), fun c2 => ?_⟩
      refine ⟨⟨by unfold inR; omega, by constructor <;> decide⟩, fun c3 => absurd c3 (by omega), fun c3 => ?_⟩
      refine ⟨⟨by omega, by omega⟩, ?_⟩
      rw [Int.toNat_natCast]
      refine ret rfl (hr _ _) ⟨?_, rfl⟩
      rw [hrow, hz, ← hpre]
      simp
    | succ d ih =>
      intro i p pre hi hpn hrow hpre
      obtain ⟨d1, -, -, -, d5, -⟩ := hd p (Nat.zero_le _) hpn
      have hne : 0 < (rows p).length := by rw [hrow, List.length_append] at ha; omega
      have hlp := pth_le hb d1
      have hp2 : p < T.length := by omega
      obtain ⟨z, hs, hz⟩ := d5 hp2
      have hsz := sz_stp ht hv hs
      have hsl := stp_le hs hb
      refine M.1 [25] 60 _ ?_
      refine ⟨⟨by unfold inR; omega, by unfold inR; omega⟩, fun c1 => absurd c1 (by omega), fun c1 => ?_⟩
      refine ⟨⟨by unfold inR; omega, by constructor <;> decide⟩, fun c2 => absurd c2 (by omega), fun c2 => ?_⟩
      refine ⟨⟨by omega, by omega⟩, ?_⟩
      rw [Int.toNat_natCast]
      refine M.2.1 (vs := [.inr (σ 23 p)]) (rest := [.inr (p : Int)]) rfl oX0_chosenAfter_X4_sizeOf rfl rfl (Nat.le_of_ble_eq_true rfl) rfl (c_X4_sizeOf (hr _ _) hk) (fun r υ _ hp2 => ?_)
      obtain ⟨rfl, rfl⟩ := hp2
      rw [hsz.1]
      refine M.1 [5] 60 _ ?_
      exact ih (i + 1) (p + z) (pre ++ [υ 23 p]) (by omega) (by omega) (by rw [hrow, hz]; simp) (by simp [hpre])
  refine M.1 [5] 60 _ ?_
  exact loop a 0 0 [] (by omega) (Nat.zero_le _) (by simp) rfl
theorem dp_bst {rows : Nat → List Int} (hd : ∀ p, 0 ≤ p → p ≤ T.length → dpAt σ T.length (FT T) (tbl ps) P rows p) : bst T ps P = rows 0 := by
  obtain ⟨d1, -, -, -, -, d6⟩ := hd 0 (Nat.le_refl _) (Nat.zero_le _)
  exact bst_eq ⟨d1, d6⟩
theorem c_X5_best (h : RC σ T ps P) (hPr : ptsR ps.length P) (hb : bsOk (tbl ps)) : Ci l yX5_best wsX5_best (rh 4) D cA ad LC [.inl 0] σ (fun r τ => r = aBst T ps P ∧ RC τ T ps P) := by
  refine Ci.walk fX5_best pX5_best [] (by decide) rfl LC_ok tX5_best_ok fX5_best_ok pX5_best_ok klOk_0 (Nat.le_of_ble_eq_true rfl) (fun V M ret => ?_)
  refine M.1 [12] 60 _ ?_
  refine M.2.2.1 (vs := [.inl 1, .inl 2]) (rest := []) rfl oX5_best_X0_weigh rfl rfl (Nat.le_of_ble_eq_true rfl) rfl (c_X0_weigh h.1 h.2.1 h.2.2.1 h.2.2.2 hPr hb) (fun υ hp2 => ?_)
  obtain ⟨p1, p2, rows, p3⟩ := hp2
  have hRC := RC_x h p1 (eqx_mono p2 (by decide))
  refine M.1 [24] 60 _ ?_
  refine ⟨⟨by decide, by decide⟩, ?_⟩
  refine ret rfl (p1 _ _) ⟨?_, hRC⟩
  unfold aBst
  rw [dp_bst p3]
  exact (p3 0 (Nat.le_refl _) (Nat.zero_le _)).2.2.1
theorem c_X5_sum (h : RC σ T ps P) (hPr : ptsR ps.length P) (hb : bsOk (tbl ps)) : Ci l yX5_sum wsX5_sum (rh 4) D cA ad LC [.inl 0] σ (fun r τ => r = aSum T ps P ∧ RC τ T ps P) := by
  refine Ci.walk fX5_sum pX5_sum [] (by decide) rfl LC_ok tX5_sum_ok fX5_sum_ok pX5_sum_ok klOk_0 (Nat.le_of_ble_eq_true rfl) (fun V M ret => ?_)
  refine M.1 [12] 60 _ ?_
  refine M.2.2.1 (vs := [.inl 1, .inl 2]) (rest := []) rfl oX5_sum_X0_weigh rfl rfl (Nat.le_of_ble_eq_true rfl) rfl (c_X0_weigh h.1 h.2.1 h.2.2.1 h.2.2.2 hPr hb) (fun υ hp2 => ?_)
  obtain ⟨p1, p2, rows, p3⟩ := hp2
  have hRC := RC_x h p1 (eqx_mono p2 (by decide))
  refine M.1 [24] 60 _ ?_
  refine ⟨⟨by decide, by decide⟩, ?_⟩
  refine ret rfl (p1 _ _) ⟨?_, hRC⟩
  unfold aSum
  rw [dp_bst p3]
  exact (p3 0 (Nat.le_refl _) (Nat.zero_le _)).2.1
theorem c_X5_ways (h : RC σ T ps P) (hPr : ptsR ps.length P) (hb : bsOk (tbl ps)) : Ci l yX5_ways wsX5_ways (rh 4) D cA ad LC [.inl 0] σ (fun r τ => r = aWay T ps ∧ RC τ T ps P) := by
  refine Ci.walk fX5_ways pX5_ways [] (by decide) rfl LC_ok tX5_ways_ok fX5_ways_ok pX5_ways_ok klOk_0 (Nat.le_of_ble_eq_true rfl) (fun V M ret => ?_)
  refine M.1 [12] 60 _ ?_
  refine M.2.2.1 (vs := [.inl 1, .inl 2]) (rest := []) rfl oX5_ways_X0_weigh rfl rfl (Nat.le_of_ble_eq_true rfl) rfl (c_X0_weigh h.1 h.2.1 h.2.2.1 h.2.2.2 hPr hb) (fun υ hp2 => ?_)
  obtain ⟨p1, p2, rows, p3⟩ := hp2
  have hRC := RC_x h p1 (eqx_mono p2 (by decide))
  refine M.1 [24] 60 _ ?_
  refine ⟨⟨by decide, by decide⟩, ?_⟩
  exact ret rfl (p1 _ _) ⟨(p3 0 (Nat.le_refl _) (Nat.zero_le _)).2.2.2.1, hRC⟩
theorem c_X5_bestAt {i : Int} (h : RC σ T ps P) (hi : inR i) (hPr : ptsR ps.length P) (hb : bsOk (tbl ps)) : Ci l yX5_bestAt wsX5_bestAt (rh 4) D cA ad LC [.inl 0, .inr i] σ (fun r τ => r = aBat T ps P i ∧ RC τ T ps P) := by
  refine Ci.walk fX5_bestAt pX5_bestAt [] (by decide) rfl LC_ok tX5_bestAt_ok fX5_bestAt_ok pX5_bestAt_ok klOk_0 (Nat.le_of_ble_eq_true rfl) (fun V M ret => ?_)
  refine M.1 [12] 60 _ ?_
  refine M.2.2.1 (vs := [.inl 1, .inl 2]) (rest := []) rfl oX5_bestAt_X0_weigh rfl rfl (Nat.le_of_ble_eq_true rfl) rfl (c_X0_weigh h.1 h.2.1 h.2.2.1 h.2.2.2 hPr hb) (fun υ hp2 => ?_)
  obtain ⟨p1, p2, rows, p3⟩ := hp2
  have hRC := RC_x h p1 (eqx_mono p2 (by decide))
  have h21 := (p3 0 (Nat.le_refl _) (Nat.zero_le _)).2.2.1
  have hbe := dp_bst p3
  refine M.1 [33, 43] 60 _ ?_
  refine ⟨hi, fun c1 => ?_, fun c1 => ?_⟩
  · exact ret rfl (by constructor <;> decide) ⟨by unfold aBat; rw [if_neg (by omega)], hRC⟩
  · refine ⟨⟨by decide, by decide⟩, ⟨hi, p1 _ _⟩, fun c2 => ?_, fun c2 => ?_⟩
    · have c2 : i < υ 21 0 := c2
      have e : i = (i.toNat : Int) := by omega
      refine M.2.1 (vs := [.inr i, .inl 2]) (rest := []) rfl oX5_bestAt_X0_chosenAfter rfl rfl (Nat.le_of_ble_eq_true rfl) rfl (by rw [e]; exact c_X0_chosenAfter (a := i.toNat) hRC hb p3 (by omega)) (fun r υ2 hin hp2 => ?_)
      obtain ⟨rfl, rfl⟩ := hp2
      exact ret rfl hin ⟨by unfold aBat; rw [hbe, if_pos (by omega)], hRC⟩
    · have c2 : ¬ i < υ 21 0 := c2
      exact ret rfl (by constructor <;> decide) ⟨by unfold aBat; rw [hbe, if_neg (by omega)], hRC⟩
end X5b
