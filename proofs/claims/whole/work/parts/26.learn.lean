noncomputable def psL (T : List Int) (n : Int) : PSt := lrn (wT T) n.toNat [] (spT T)
noncomputable def aLrn (T : List Int) (n : Int) : Int := if 0 ≤ n ∧ n ≤ 32 then ((psL T n).length : Int) else -2
noncomputable def sLrn (T : List Int) (ps : PSt) (n : Int) : PSt := if 0 ≤ n ∧ n ≤ 32 then psL T n else ps
def pNew (ps : PSt) (P : Int → Int) : Int → Int := fun x => if x < 256 then P x else (tl (tbl ps) (x - 256).toNat : Int)
noncomputable def pLrn (T : List Int) (P : Int → Int) (n : Int) : Int → Int := if 0 ≤ n ∧ n ≤ 32 then pNew (psL T n) P else P
def LSt (σ : St) (T : List Int) (ps : PSt) (R : Rw) (P : Int → Int) : Prop := rng σ ∧ textC σ T ∧ vocC σ ps ∧ rowC σ (wT T) R ∧ (∀ i, i < T.length → σ 12 i = FT T i) ∧ (∀ t : Nat, t < 256 → σ 11 t = P (t : Int)) ∧ ∀ j, j < ps.length → σ 11 (256 + j) = tl (tbl ps) j
section X5c
variable {l : Launch} {D : va_G} {cA : Nat → ClassId} {ad : Nat → Nat} {σ : St} {T : List Int} {ps : PSt} {P : Int → Int} {R : Rw}
theorem LSt_x {τ : St} (h : LSt σ T ps R P) (hr : rng τ) (hx : eqx [4, 5, 17, 18, 19, 20, 21, 22, 23] σ τ) : LSt τ T ps R P := by
  obtain ⟨-, h2, h3, h4, h5, h6, h7⟩ := h
  refine ⟨hr, textC_x h2 (hx 1 (by decide)) (hx 6 (by decide)), vocC_x h3 (hx 2 (by decide)) (hx 7 (by decide)) (hx 8 (by decide)) (hx 9 (by decide)) (hx 10 (by decide)) (hx 12 (by decide)) (hx 13 (by decide)), ?_, ?_, ?_, ?_⟩
  · unfold rowC
    rw [hx 3 (by decide), hx 14 (by decide), hx 15 (by decide), hx 16 (by decide)]
    exact h4
  · rw [hx 12 (by decide)]; exact h5
  · rw [hx 11 (by decide)]; exact h6
  · rw [hx 11 (by decide)]; exact h7
/-- the table's most frequent slot is the best pair -/
theorem most_n {τ : St} {pp : List (Int × Int)} {r : Int} (hT : HT τ pp) (hm : mostOk τ 256 r) (h : r < 0 ∨ ∃ m : Nat, r = (m : Int) ∧ τ 18 m < 2) : bestK pp = none := by
  refine bestK_n (fun κ hk => ?_)
  obtain ⟨q, hq, e⟩ := cnt_mem (κ := κ) (pp := pp) (by have := hk.1; omega)
  obtain ⟨i, hi, hi0, hik⟩ := hT.2.2.2.1 q hq
  have hc := (hT.2.1 i hi hi0).1
  rw [hik, e] at hc
  have hk1 := hk.1
  rcases hm with ⟨-, hm⟩ | ⟨m, rm, hm1, hm2, hm3⟩
  · exact hm i hi hi0
  · rcases h with h | ⟨m', rm', h⟩
    · omega
    · have : m' = m := by omega
      subst this
      refine hm3 i hi hi0 (Or.inl ?_)
      omega
theorem most_y {τ : St} {pp : List (Int × Int)} {m : Nat} (hT : HT τ pp) (hm : m < 256) (h0 : 0 < τ 18 m) (hm3 : ∀ j : Nat, j < 256 → 0 < τ 18 j → ¬ ahd τ j m) (h : 2 ≤ τ 18 m) : BK pp (τ 17 m) ∧ τ 18 m = cnt (τ 17 m) pp ∧ (τ 17 m, τ 19 m) ∈ pp := by
  have hc := hT.2.1 m hm h0
  refine ⟨⟨by rw [← hc.1]; exact h, fun q hq => ?_⟩, hc.1, hc.2.1⟩
  obtain ⟨i, hi, hi0, hik⟩ := hT.2.2.2.1 q hq
  have hci := (hT.2.1 i hi hi0).1
  rw [hik] at hci
  have := hm3 i hi hi0
  unfold ahd at this
  rw [← hci, ← hc.1]
  refine ⟨by omega, fun e => ?_⟩
  rw [← hik]
  omega
theorem c_X5_learnNext (h : LSt σ T ps R P) (hv : vOk ps) (hs : seg (FT T) (wT T) (tbl ps) 0 R T.length) (hl : ps.length < 32) : Ci l yX5_learnNext wsX5_learnNext (rh 3) D cA ad LC [.inl 0] σ (fun r τ => (r = 0 ∧ bestK (prs (wT T) R) = none ∧ LSt τ T ps R P) ∨ ∃ κ, r = 1 ∧ bestK (prs (wT T) R) = some κ ∧ LSt τ T (ps ++ [(κ / 512, κ % 512, cnt κ (prs (wT T) R))]) (mrg (wT T) (κ / 512) (κ % 512) (256 + (ps.length : Int)) R) P) := by
  have hLS := h
  obtain ⟨hr, ht, hvc, hR, hsrc, hp1, hp2⟩ := h
  have hk := kC_of hr ht hvc
  have hlen := tbl_len ps
  have htok := seg_tok hs
  rw [hlen] at htok
  refine Ci.walkZ fX5_learnNext pX5_learnNext [] (by decide) rfl LC_ok tX5_learnNext_ok fX5_learnNext_ok pX5_learnNext_ok klOk_0 (Nat.le_of_ble_eq_true rfl) (fun V M ret => ?_)
  refine M.1 [8] 60 _ ?_
  refine M.2.2.1 (vs := [.inl 3]) (rest := []) rfl oX5_learnNext_X1_countPairs rfl rfl (Nat.le_of_ble_eq_true rfl) rfl (c_X1_countPairs hk hR (fun q hq => by have := htok q hq; omega)) (fun τ hp => ?_)
  obtain ⟨r1, x1, hT⟩ := hp
  have hL1 := LSt_x hLS r1 (eqx_mono x1 (by decide))
  refine M.1 [15] 60 _ ?_
  refine M.2.1 (vs := []) (rest := []) rfl oX5_learnNext_X1_mostFrequent rfl rfl (Nat.le_of_ble_eq_true rfl) rfl (c_X1_mostFrequent r1) (fun r υ hin hp => ?_)
  obtain ⟨rfl, hmo⟩ := hp
  have e2 : υ 2 = σ 2 := x1 2 (by decide)
  have no : (r < 0 ∨ ∃ m : Nat, r = (m : Int) ∧ υ 18 m < 2) → V (49, [(0, .inl 0), (1, .inr r)], [.inr 0], υ) := by
    intro h
    exact ret rfl (Or.inl rfl) (Or.inl ⟨rfl, most_n hT hmo h, hL1⟩)
  refine M.1 [49, 50] 60 _ ?_
  refine ⟨hin, fun c1 => no (Or.inl c1), fun c1 => ?_⟩
  have hmo' := hmo
  rcases hmo' with ⟨hm, -⟩ | ⟨m, rfl, hm1, hm2, hm3⟩
  · omega
  refine ⟨⟨by omega, by omega⟩, ⟨r1 _ _, by constructor <;> decide⟩, fun c2 => ?_, fun c2 => ?_⟩
  · rw [Int.toNat_natCast] at c2
    exact no (Or.inr ⟨m, rfl, c2⟩)
  rw [Int.toNat_natCast] at c2
  refine ⟨⟨r1 _ _, by constructor <;> decide⟩, fun c3 => ?_, fun c3 => absurd c3 (by rw [e2, hvc.1]; omega)⟩
  obtain ⟨hBK, hcnt, hmem⟩ := most_y hT hm1 hm2 hm3 (by omega)
  obtain ⟨b1, b2, hk0, p, hp, hpl, hpf, hpw⟩ := seg_pair hs (by omega) hmem
  have hkr := r1 17 m
  generalize hκ : υ 17 m = κ at *
  have b1 : 0 ≤ κ / 512 ∧ κ / 512 < 256 + ps.length := b1
  have b2 : 0 ≤ κ % 512 ∧ κ % 512 < 256 + ps.length := b2
  have hk0 : 0 ≤ κ := hk0
  have hp19 : υ 19 m = (p : Int) := hp
  have hpl : p + (tbo (tbl ps) (κ / 512)).length + (tbo (tbl ps) (κ % 512)).length ≤ T.length := hpl
  refine M.1 [115] 80 _ ?_
  refine ⟨⟨by omega, by omega⟩, ?_⟩
  rw [Int.toNat_natCast, hκ]
  refine ⟨⟨hk0, hkr.2, by decide, by decide⟩, ⟨by omega, by omega⟩, ?_⟩
  rw [Int.toNat_natCast, hκ]
  refine ⟨⟨hk0, hkr.2, by decide, by decide⟩, ⟨by omega, by omega⟩, ⟨by omega, by omega⟩, ?_⟩
  rw [Int.toNat_natCast, e2, hvc.1, hcnt, hp19]
  have hvc1 := hL1.2.2.1
  have hk1 := kC_of r1 hL1.2.1 hvc1
  have s1 := sz_tbo hvc1 (t := κ / 512) b1
  have s2 := sz_tbo hvc1 (t := κ % 512) b2
  have hT120 := ht.2.1
  have hcr : inR (cnt κ (prs (wT T) R)) := by rw [← hcnt]; exact r1 _ _
  refine M.2.2.1 (vs := [.inr (κ / 512), .inr (κ % 512), .inr (cnt κ (prs (wT T) R)), .inr (p : Int)]) (rest := []) rfl oX5_learnNext_X4_add rfl rfl (Nat.le_of_ble_eq_true rfl) rfl (c_X4_add hk1 (by unfold inR; omega) (by unfold inR; omega) hcr (by unfold inR; omega) (by rw [hvc1.1]; omega) (by rw [s1, s2]; unfold inR; omega)) (fun τ2 hp3 => ?_)
  obtain ⟨r2, x2, f25, f7, f8, f9, f10, f13, f11⟩ := hp3
  have hkk : (υ 2 5).toNat = ps.length := by rw [hvc1.1]; omega
  rw [hkk] at f7 f8 f9 f10 f13 f11
  rw [s1, s2] at f10 f11
  have hR2 : rowC τ2 (wT T) R := by
    unfold rowC
    rw [x2 3 (by decide), x2 14 (by decide), x2 15 (by decide), x2 16 (by decide)]
    exact hL1.2.2.2.1
  have ht2 : textC τ2 T := textC_x hL1.2.1 (x2 1 (by decide)) (x2 6 (by decide))
  have h12 : τ2 12 = υ 12 := x2 12 (by decide)
  have hv2 : vocC τ2 (ps ++ [(κ / 512, κ % 512, cnt κ (prs (wT T) R))]) := by
    refine ⟨by rw [f25, hvc1.1]; simp, by simp; omega, ?_, ?_⟩
    · intro t q hq
      rw [List.getElem?_append] at hq
      split at hq
      · rename_i htl
        have := hvc1.2.2.1 t q hq
        rw [f7, f8, f9, va_up_ne _ _ (by omega), va_up_ne _ _ (by omega), va_up_ne _ _ (by omega)]
        exact this
      · rename_i htl
        have e : t = ps.length := by
          rcases Nat.lt_or_ge (t - ps.length) 1 with h | h
          · omega
          · rw [List.getElem?_eq_none (by simp; omega)] at hq
            cases hq
        subst e
        simp at hq
        subst hq
        rw [f7, f8, f9, va_up_self, va_up_self, va_up_self]
        exact ⟨rfl, rfl, rfl⟩
    · intro j hj
      rw [List.length_append, List.length_singleton] at hj
      rw [tbl_snoc, f10, f13, h12]
      unfold tl
      rcases Nat.lt_or_ge j ps.length with hc | hc
      · rw [tl_app (by omega), va_up_ne _ _ (by omega), va_up_ne _ _ (by omega)]
        exact hvc1.2.2.2 j hc
      · have e : j = (tbl ps).length := by omega
        subst e
        rw [tl_new, hlen, va_up_self, va_up_self, List.length_append]
        refine ⟨by simp, by omega, by simp only [Int.natCast_add]; omega, fun i hi => ?_⟩
        rw [show ((p : Int) + (i : Int)).toNat = p + i by omega, hL1.2.2.2.2.1 (p + i) (by simp only [] at hi; omega)]
        exact hpf i (by rw [List.length_append]; exact hi)
  refine M.1 [126] 60 _ ?_
  refine M.2.2.1 (vs := [.inr (κ / 512), .inr (κ % 512), .inr (256 + (ps.length : Int))]) (rest := []) rfl oX5_learnNext_X2_merge rfl rfl (Nat.le_of_ble_eq_true rfl) rfl (c_X2_merge (by unfold inR; omega) (by unfold inR; omega) (by unfold inR; omega) (kC_of r2 ht2 hv2) (wT_01 T) hR2) (fun τ3 hp4 => ?_)
  obtain ⟨r3, x3, hR3⟩ := hp4
  refine M.1 [130] 60 _ ?_
  refine ret rfl (Or.inr rfl) (Or.inr ⟨κ, rfl, bestK_y hBK, r3, textC_x ht2 (x3 1 (by decide)) (x3 6 (by decide)), vocC_x hv2 (x3 2 (by decide)) (x3 7 (by decide)) (x3 8 (by decide)) (x3 9 (by decide)) (x3 10 (by decide)) (x3 12 (by decide)) (x3 13 (by decide)), hR3, ?_, ?_, ?_⟩)
  · rw [x3 12 (by decide), h12]
    exact hL1.2.2.2.2.1
  · intro t htt
    rw [x3 11 (by decide), f11, va_up_ne _ _ (by omega)]
    exact hL1.2.2.2.2.2.1 t htt
  · intro j hj
    rw [List.length_append, List.length_singleton] at hj
    rw [x3 11 (by decide), f11, tbl_snoc]
    unfold tl
    rcases Nat.lt_or_ge j ps.length with hc | hc
    · rw [tl_app (by omega), va_up_ne _ _ (by omega)]
      exact hL1.2.2.2.2.2.2 j hc
    · have e : j = (tbl ps).length := by omega
      subst e
      rw [tl_new, hlen, va_up_self, List.length_append]
      simp
end X5c
