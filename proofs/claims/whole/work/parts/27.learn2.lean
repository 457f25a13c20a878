def txOk (T : List Int) : Prop := T.length ≤ 120 ∧ ∀ i, i < T.length → 0 ≤ T.getD i 0 ∧ T.getD i 0 < 256
theorem vOk_0 : vOk [] := ⟨fun t q h => by simp at h, fun j h => by simp [tbl] at h, fun j h => by simp at h, fun j h => by simp at h⟩
theorem seg_0 {T : List Int} (h : txOk T) : seg (FT T) (wT T) (tbl []) 0 (spT T) T.length := seg_spl (FT T) (wT T) h.2
theorem lrn_ok {T : List Int} (hT : T.length ≤ 120) : ∀ (m : Nat) (ps : PSt) (R : Rw), vOk ps → seg (FT T) (wT T) (tbl ps) 0 R T.length → R.length ≤ 120 → ps.length + m ≤ 32 → vOk (lrn (wT T) m ps R) ∧ (lrn (wT T) m ps R).length ≤ 32
  | 0, ps, R, hv, _, _, hl => ⟨hv, by show ps.length ≤ 32; omega⟩
  | m + 1, ps, R, hv, hs, hR, hl => by
    cases hb : bestK (prs (wT T) R) with
    | none =>
      rw [lrn_n hb]
      exact ⟨hv, by omega⟩
    | some κ =>
      rw [lrn_y hb]
      obtain ⟨h1, h2⟩ := vOk_step hT hR hs (by omega) hv (bestK_ok hb)
      refine lrn_ok hT m _ _ h1 h2 ?_ (by simp; omega)
      exact Nat.le_trans (mrg_len _ _ _ _ R.length R (Nat.le_refl _)) hR
theorem psL_ok {T : List Int} (h : txOk T) {n : Int} (hn : 0 ≤ n ∧ n ≤ 32) : vOk (psL T n) ∧ (psL T n).length ≤ 32 := by
  refine lrn_ok h.1 n.toNat [] (spT T) vOk_0 (seg_0 h) ?_ (by simp; omega)
  unfold spT
  rw [spl_len]
  exact h.1
section X5d
variable {l : Launch} {D : va_G} {cA : Nat → ClassId} {ad : Nat → Nat} {σ : St} {T : List Int} {ps : PSt} {P : Int → Int}
theorem tx_of (h : textC σ T) : txOk T := ⟨h.2.1, fun i hi => (h.2.2 i hi).2⟩
theorem c_X5_learn {n : Int} (h : RC σ T ps P) (hn : inR n) : Ci l yX5_learn wsX5_learn (rh 4) D cA ad LC [.inl 0, .inr n] σ (fun r τ => r = aLrn T n ∧ RC τ T (sLrn T ps n) (pLrn T P n)) := by
  have h' := h
  obtain ⟨hr, ht, hv, hp⟩ := h
  have hk := kC_of hr ht hv
  have hx := tx_of ht
  refine Ci.walk fX5_learn pX5_learn [] (by decide) rfl LC_ok tX5_learn_ok fX5_learn_ok pX5_learn_ok klOk_0 (Nat.le_of_ble_eq_true rfl) (fun V M ret => ?_)
  have bad : ¬ (0 ≤ n ∧ n ≤ 32) → V (12, lnum 0 [.inl 0, .inr n], [.inr (-2)], σ) := by
    intro hq
    refine ret rfl (by constructor <;> decide) ⟨by unfold aLrn; rw [if_neg hq], ?_⟩
    unfold sLrn pLrn
    rw [if_neg hq, if_neg hq]
    exact h'
  refine M.1 [12, 21] 60 _ ?_
  refine ⟨hn, fun c1 => bad (by omega), fun c1 => ?_⟩
  refine ⟨⟨hn, by constructor <;> decide⟩, fun c2 => ?_, fun c2 => bad (by omega)⟩
  have hnn : 0 ≤ n ∧ n ≤ 32 := by omega
  have done : ∀ (τ : St) (R : Rw) (lv : List (Nat × aV)), lget 0 lv = some (.inl 0) → LSt τ T (psL T n) R P → V (58, [(0, .inl 0)], [], τ) := by
    intro τ R lv _ hL
    obtain ⟨a1, a2, a3, a4, a5, a6, a7⟩ := hL
    refine M.1 [65] 60 _ ?_
    refine ret rfl (a1 _ _) ⟨by unfold aLrn; rw [if_pos hnn]; exact a3.1, ?_⟩
    unfold sLrn pLrn
    rw [if_pos hnn, if_pos hnn]
    refine ⟨a1, a2, a3, fun t htt => ?_⟩
    unfold pNew
    by_cases c : t < 256
    · rw [if_pos (by omega)]
      exact a6 t c
    · rw [if_neg (by omega), show ((t : Int) - 256).toNat = t - 256 by omega]
      have := a7 (t - 256) (by omega)
      rwa [show 256 + (t - 256) = t by omega] at this
  have loop : ∀ (d i : Nat) (ps' : PSt) (R : Rw) (τ : St), (i : Int) + d = n → ps'.length = i → LSt τ T ps' R P → vOk ps' → seg (FT T) (wT T) (tbl ps') 0 R T.length → lrn (wT T) d ps' R = psL T n → V (37, [(0, .inl 0), (1, .inr n), (2, .inr (i : Int))], [], τ) := by
    intro d
    induction d with
    | zero =>
      intro i ps' R τ hi hl hL hvo hs hm
      refine M.1 [58] 60 _ ?_
      refine ⟨⟨by unfold inR; omega, hn⟩, fun c => ?_, fun c => absurd c (by omega)⟩
      refine M.2.2.2.2.2.1 _ (lpick_mem [0]) ?_
      have hm : ps' = psL T n := hm
      rw [hm] at hL
      exact done τ R [(0, .inl 0)] rfl hL
    | succ d ih =>
      intro i ps' R τ hi hl hL hvo hs hm
      refine M.1 [43] 60 _ ?_
      refine ⟨⟨by unfold inR; omega, hn⟩, fun c => absurd c (by omega), fun c => ?_⟩
      refine M.2.1 (vs := []) (rest := []) rfl oX5_learn_X5_learnNext rfl rfl (Nat.le_of_ble_eq_true rfl) rfl (c_X5_learnNext hL hvo hs (by omega)) (fun r υ hin hp2 => ?_)
      refine M.1 [37, 58] 60 _ ?_
      rcases hp2 with ⟨rfl, hb, hL2⟩ | ⟨κ, rfl, hb, hL2⟩
      · refine ⟨hin, fun c => absurd rfl c, fun c => ?_⟩
        rw [lrn_n hb] at hm
        rw [hm] at hL2
        refine M.2.2.2.2.2.1 _ (lpick_mem [0]) ?_
        exact done υ R [(0, .inl 0)] rfl hL2
      · refine ⟨hin, fun c => ?_, fun c => absurd c (by decide)⟩
        rw [lrn_y hb] at hm
        obtain ⟨q1, q2⟩ := vOk_step hx.1 hL.2.2.2.1.2.1 hs (by omega) hvo (bestK_ok hb)
        exact ih (i + 1) _ _ υ (by omega) (by simp [hl]) hL2 q1 q2 hm
  refine M.2.2.1 (vs := [.inl 1]) (rest := []) rfl oX5_learn_X4_startFrom rfl rfl (Nat.le_of_ble_eq_true rfl) rfl (c_X4_startFrom hk) (fun τ hp2 => ?_)
  obtain ⟨r1, x1, z1, s1⟩ := hp2
  have ht1 : textC τ T := textC_x ht (x1 1 (by decide)) (x1 6 (by decide))
  have hv1 : vocC τ [] := ⟨z1, by simp, fun t q hq => by simp at hq, fun j hj => by simp at hj⟩
  refine M.1 [32] 60 _ ?_
  refine M.2.2.1 (vs := [.inl 1]) (rest := []) rfl oX5_learn_X2_spell rfl rfl (Nat.le_of_ble_eq_true rfl) rfl (c_X2_spell (kC_of r1 ht1 hv1)) (fun υ hp2 => ?_)
  obtain ⟨r2, x2, hR2⟩ := hp2
  rw [wT_eq ht1, spT_eq ht1] at hR2
  refine M.1 [37] 60 _ ?_
  refine loop n.toNat 0 [] (spT T) υ (by omega) rfl ⟨r2, textC_x ht1 (x2 1 (by decide)) (x2 6 (by decide)), vocC_x hv1 (x2 2 (by decide)) (x2 7 (by decide)) (x2 8 (by decide)) (x2 9 (by decide)) (x2 10 (by decide)) (x2 12 (by decide)) (x2 13 (by decide)), hR2, ?_, ?_, ?_⟩ vOk_0 (seg_0 hx) rfl
  · intro i hi
    rw [x2 12 (by decide), s1 i (by have := hx.1; omega)]
    exact (ht.2.2 i hi).1
  · intro t htt
    rw [x2 11 (by decide), x1 11 (by decide)]
    exact hp t (by omega)
  · intro j hj
    simp at hj
end X5d
