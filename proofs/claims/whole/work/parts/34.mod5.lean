theorem hold_len {f g : Nat → Int} {R : Rw} {i : Nat} (h : hold f g 0 R) (hi : i < R.length) : ∃ q s, R = R.take i ++ q :: s ∧ f i = q.1 ∧ g i = q.2 ∧ hold f g (i + 1) s ∧ i + 1 + s.length = R.length := by
  have e : R = R.take i ++ R[i] :: R.drop (i + 1) := by
    rw [List.getElem_cons_drop, List.take_append_drop]
  have hl : (R.take i).length = i := by rw [List.length_take]; omega
  have h2 := h
  rw [e, hold_app, hl, Nat.zero_add] at h2
  exact ⟨R[i], R.drop (i + 1), e, h2.2.1, h2.2.2.1, h2.2.2.2, by rw [List.length_drop]; omega⟩
section M5
variable {l : Launch} {D : va_G} {cA : Nat → ClassId} {ad : Nat → Nat} {σ : St} {T : List Int} {ps : PSt} {P : Int → Int} {R : Rw}
def tk288 (R : Rw) : Prop := ∀ q ∈ R, 0 ≤ q.1 ∧ q.1 < 288
theorem c_X6_countOf {a b : Int} (hr : rng σ) (ht : textM σ T) (hR : rowM σ R) (hpl : plIn T R) (h288 : tk288 R) (ha : 0 ≤ a ∧ a < 288) (hb : 0 ≤ b ∧ b < 288) : Ci l yX6_countOf wsX6_countOf (rh 2) D cA ad LM [.inl 0, .inr a, .inr b] σ (fun r τ => τ = σ ∧ r = cnt (a * 512 + b) (prs (wT T) R)) := by
  obtain ⟨hN, hN2, hh⟩ := hR
  refine Ci.walk fX6_countOf pX6_countOf [] (by decide) rfl LM_ok tX6_countOf_ok fX6_countOf_ok pX6_countOf_ok klOk_0 (Nat.le_of_ble_eq_true rfl) (fun V M ret => ?_)
  have hcb := cnt_le (a * 512 + b) (prs (wT T) R)
  have hpb := prs_len (wT T) R
  have loop : ∀ (s : Rw) (i : Nat) (x : Int), i + s.length = R.length → hold (σ 8) (σ 9) i s → (∀ q ∈ s, 0 ≤ q.2 ∧ q.2 < T.length) → tk288 s → 0 ≤ x → x + cnt (a * 512 + b) (prs (wT T) s) = cnt (a * 512 + b) (prs (wT T) R) → V (5, [(0, .inl 0), (1, .inr a), (2, .inr b), (3, .inr x), (4, .inr (i : Int))], [], σ) := by
    intro s
    induction s with
    | nil =>
      intro i x hi hhs hps h8 hx0 hm
      simp at hi
      refine M.1 [40] 60 _ ?_
      refine ⟨⟨by unfold inR; omega, hr _ _⟩, fun c1 => ?_, fun c1 => absurd c1 (by omega)⟩
      simp only [prs, cnt, Int.add_zero] at hm
      exact ret rfl (by unfold inR; omega) ⟨rfl, hm⟩
    | cons q s ih =>
      intro i x hi hhs hps h8 hx0 hm
      simp only [List.length_cons] at hi
      obtain ⟨hq1, hq2, hhs'⟩ := hhs
      have hp9 : (i : Int) + 1 < σ 0 10 → 0 ≤ σ 9 (i + 1) ∧ σ 9 (i + 1) < T.length := by
        intro h
        rw [hN] at h
        cases s with
        | nil => simp at hi; omega
        | cons q2 s2 =>
          rw [hhs'.2.1]
          exact hps q2 (List.mem_cons_of_mem _ List.mem_cons_self)
      refine M.1 [20] 60 _ ?_
      refine ⟨⟨by unfold inR; omega, hr _ _⟩, fun c1 => absurd c1 (by omega), fun c1 => ?_⟩
      refine M.2.1 (vs := [.inr (i : Int), .inr a, .inr b]) (rest := [.inr x]) rfl oX6_countOf_X6_isPair rfl rfl (Nat.le_of_ble_eq_true rfl) rfl (c_X6_isPair hr ht (by omega) (by omega) hp9 (by unfold inR; omega) (by unfold inR; omega)) (fun r υ _ hp => ?_)
      obtain ⟨rfl, rfl⟩ := hp
      rw [hN, hq1]
      have hs' := ih (i + 1)
      refine M.1 [5] 60 _ ?_
      refine ⟨b01_r _, fun c2 => ?_, fun c2 => ?_⟩
      · have c2 := b01_0.mp c2
        refine hs' (x + 0) (by omega) hhs' (fun z hz => hps z (List.mem_cons_of_mem _ hz)) (fun z hz => h8 z (List.mem_cons_of_mem _ hz)) (by omega) ?_
        rw [← hm]
        cases s with
        | nil => simp [prs]
        | cons q2 s2 =>
          simp only [List.length_cons] at hi
          have g1 := h8 q List.mem_cons_self
          have g2 := h8 q2 (List.mem_cons_of_mem _ List.mem_cons_self)
          rw [hhs'.1, hhs'.2.1] at c2
          rw [prs]
          split
          · rename_i hw
            rw [cnt, if_neg (fun e => c2 ⟨by omega, by omega, by omega, hw⟩)]
            omega
          · omega
      · have c2 := Classical.not_not.mp (fun h => c2 (b01_f h))
        refine hs' (x + 1) (by omega) hhs' (fun z hz => hps z (List.mem_cons_of_mem _ hz)) (fun z hz => h8 z (List.mem_cons_of_mem _ hz)) (by omega) ?_
        rw [← hm]
        cases s with
        | nil => simp at hi; omega
        | cons q2 s2 =>
          rw [hhs'.1, hhs'.2.1] at c2
          rw [prs, if_pos c2.2.2.2, cnt, if_pos (by rw [c2.2.1, c2.2.2.1])]
          omega
  refine M.1 [5] 60 _ ?_
  exact loop R 0 0 (by simp) hh hpl h288 (by omega) (by omega)
/-- the best of the pairs o, of all pairs pp -/
def bInv (σ : St) (pp o : List (Int × Int)) (N : Nat) (b m : Int) : Prop := (b = -1 ∧ m = 1 ∧ ∀ z ∈ o, cnt z.1 pp ≤ 1) ∨ ∃ j : Nat, b = (j : Int) ∧ j + 1 < N ∧ m = cnt (σ 8 j * 512 + σ 8 (j + 1)) pp ∧ 2 ≤ m ∧ ∀ z ∈ o, cnt z.1 pp ≤ m ∧ (cnt z.1 pp = m → σ 8 j * 512 + σ 8 (j + 1) ≤ z.1)
theorem bInv_add {pp o : List (Int × Int)} {N : Nat} {b m : Int} {i : Nat} {p : Int} (h : bInv σ pp o N b m) (hi : i + 1 < N) (h1 : 1 ≤ cnt (σ 8 i * 512 + σ 8 (i + 1)) pp)
    (take : Bool) (ht : take = true ↔ (m < cnt (σ 8 i * 512 + σ 8 (i + 1)) pp ∨ (cnt (σ 8 i * 512 + σ 8 (i + 1)) pp = m ∧ ∃ j : Nat, b = (j : Int) ∧ σ 8 i * 512 + σ 8 (i + 1) < σ 8 j * 512 + σ 8 (j + 1)))) : bInv σ pp (o ++ [(σ 8 i * 512 + σ 8 (i + 1), p)]) N (if take then (i : Int) else b) (if take then cnt (σ 8 i * 512 + σ 8 (i + 1)) pp else m) := by
  generalize hκ : σ 8 i * 512 + σ 8 (i + 1) = κ at *
  cases take with
  | true =>
    have ht := ht.mp rfl
    simp only [if_true]
    refine Or.inr ⟨i, rfl, hi, by rw [hκ], ?_, fun z hz => ?_⟩
    · rcases h with ⟨hb, hm, -⟩ | ⟨j, -, -, -, hm, -⟩
      · rcases ht with ht | ⟨-, j, hj, -⟩
        · omega
        · omega
      · rcases ht with ht | ⟨ht, -⟩ <;> omega
    · rw [hκ]
      rcases List.mem_append.mp hz with hz | hz
      · rcases h with ⟨hb, hm, ho⟩ | ⟨j, hb, hj, hmj, hm, ho⟩
        · have := ho z hz
          rcases ht with ht | ⟨-, j, hj, -⟩
          · exact ⟨by omega, fun e => by omega⟩
          · omega
        · have hz2 := ho z hz
          rcases ht with ht | ⟨he, j', hj', hlt⟩
          · exact ⟨by omega, fun e => by omega⟩
          · have : j' = j := by omega
            subst this
            refine ⟨by omega, fun e => ?_⟩
            have := hz2.2 (by omega)
            omega
      · rw [List.mem_singleton] at hz
        subst hz
        exact ⟨Int.le_refl _, fun _ => Int.le_refl _⟩
  | false =>
    have ht : ¬ _ := fun q => Bool.false_ne_true (ht.mpr q)
    simp only [Bool.false_eq_true, if_false]
    rcases h with ⟨hb, hm, ho⟩ | ⟨j, hb, hj, hmj, hm, ho⟩
    · refine Or.inl ⟨hb, hm, fun z hz => ?_⟩
      rcases List.mem_append.mp hz with hz | hz
      · exact ho z hz
      · rw [List.mem_singleton] at hz
        subst hz
        show cnt κ pp ≤ 1
        rcases Int.lt_or_le 1 (cnt κ pp) with q | q
        · exact absurd (Or.inl (by omega)) ht
        · exact q
    · refine Or.inr ⟨j, hb, hj, hmj, hm, fun z hz => ?_⟩
      rcases List.mem_append.mp hz with hz | hz
      · exact ho z hz
      · rw [List.mem_singleton] at hz
        subst hz
        show cnt κ pp ≤ m ∧ (cnt κ pp = m → σ 8 j * 512 + σ 8 (j + 1) ≤ κ)
        refine ⟨?_, fun e => ?_⟩
        · rcases Int.lt_or_le m (cnt κ pp) with q | q
          · exact absurd (Or.inl q) ht
          · exact q
        · rcases Int.lt_or_le κ (σ 8 j * 512 + σ 8 (j + 1)) with q | q
          · exact absurd (Or.inr ⟨e, j, hb, q⟩) ht
          · exact q
theorem bInv_n {pp : List (Int × Int)} {N : Nat} {b m : Int} (h : bInv σ pp pp N b m) (hb : b < 0) : bestK pp = none := by
  rcases h with ⟨-, -, ho⟩ | ⟨j, hj, -⟩
  · refine bestK_n (fun κ hk => ?_)
    obtain ⟨z, hz, e⟩ := cnt_mem (κ := κ) (pp := pp) (by have := hk.1; omega)
    have := ho z hz
    have := hk.1
    rw [e] at *
    omega
  · omega
theorem bInv_y {pp : List (Int × Int)} {N : Nat} {b m : Int} (h : bInv σ pp pp N b m) (hb : ¬ b < 0) : ∃ j : Nat, b = (j : Int) ∧ j + 1 < N ∧ BK pp (σ 8 j * 512 + σ 8 (j + 1)) ∧ m = cnt (σ 8 j * 512 + σ 8 (j + 1)) pp := by
  rcases h with ⟨hb', -⟩ | ⟨j, hb', hj, hm, h2, ho⟩
  · omega
  · refine ⟨j, hb', hj, ⟨by omega, fun z hz => ?_⟩, hm⟩
    have := ho z hz
    rw [← hm]
    exact this
end M5
