section CR2
variable {l : Launch} {D : va_G} {cA : Nat → ClassId} {ad : Nat → Nat} {σ : St}
theorem mrg_1 (w : Int → Int) (a b t : Int) (q : Int × Int) : mrg w a b t [q] = [q] := rfl
theorem mrg_y {w : Int → Int} {a b t : Int} {q q2 : Int × Int} {r : Rw} (h : q.1 = a ∧ q2.1 = b ∧ w q2.2 = 0) : mrg w a b t (q :: q2 :: r) = (t, q.2) :: mrg w a b t r := by
  rw [mrg, if_pos h]
theorem mrg_n {w : Int → Int} {a b t : Int} {q q2 : Int × Int} {r : Rw} (h : ¬ (q.1 = a ∧ q2.1 = b ∧ w q2.2 = 0)) : mrg w a b t (q :: q2 :: r) = q :: mrg w a b t (q2 :: r) := by
  rw [mrg, if_neg h]
theorem c_X2_merge {a b t : Int} {w : Int → Int} {R : Rw} (ha : inR a) (hb : inR b) (ht : inR t) (hk : kC σ) (hw01 : ∀ p, w p = 0 ∨ w p = 1) (hR : rowC σ w R) : Cv l yX2_merge wsX2_merge (rh 1) D cA ad LC [.inl 3, .inr a, .inr b, .inr t] σ (fun τ => rng τ ∧ eqx [3, 14, 15, 16] σ τ ∧ rowC τ w (mrg w a b t R)) := by
  have hk' := hk
  obtain ⟨hr, hn0, hn, hl0, hl1⟩ := hk
  obtain ⟨hN, hN2, hh0, hw0⟩ := hR
  refine Cv.walk fX2_merge pX2_merge [] (by decide) rfl LC_ok tX2_merge_ok fX2_merge_ok pX2_merge_ok klOk_0 (Nat.le_of_ble_eq_true rfl) (fun V M ret => ?_)
  have loop : ∀ (d : Nat) (o s : Rw) (i k : Nat) (τ : St), s.length ≤ d → i + s.length = R.length → o.length = k → k ≤ i → rng τ → eqx [14, 15, 16] σ τ → hold (τ 14) (τ 15) 0 o → hold (τ 14) (τ 15) i s → (∀ j : Nat, j < k → τ 16 j = w (τ 15 j)) → (∀ j : Nat, i ≤ j → j < R.length → τ 16 j = w (τ 15 j)) → o ++ mrg w a b t s = mrg w a b t R → V (6, [(0, .inl 3), (1, .inr a), (2, .inr b), (3, .inr t), (4, .inr (k : Int)), (5, .inr (i : Int))], [], τ) := by
    intro d
    induction d with
    | zero =>
      intro o s i k τ hd hi ho hki hrt hx hho hhs hwo hws hm
      have e : s = [] := List.length_eq_zero_iff.mp (by omega)
      subst e
      have e3 : τ 3 = σ 3 := hx 3 (by decide)
      refine M.1 [129] 60 _ ?_
      refine ⟨⟨by unfold inR; omega, hrt _ _⟩, fun c1 => ?_, fun c1 => absurd c1 (by rw [e3]; simp at hi; omega)⟩
      simp only [mrg, List.append_nil] at hm
      refine ret rfl ⟨rng_stu hrt (by unfold inR; omega) _ _, eqx_stu (eqx_mono hx (by decide)) (by decide) _ _, ?_⟩
      refine ⟨by rw [stu_s, ← hm, ho], by rw [← hm]; omega, ?_, ?_⟩
      · rw [← hm, stu_j _ _ _ (by decide), stu_j _ _ _ (by decide)]
        exact hho
      · intro j hj
        rw [← hm, ho] at hj
        rw [stu_j _ _ _ (by decide), stu_j _ _ _ (by decide)]
        exact hwo j hj
    | succ d ih =>
      intro o s i k τ hd hi ho hki hrt hx hho hhs hwo hws hm
      have e3 : τ 3 = σ 3 := hx 3 (by decide)
      have e1 : τ 1 = σ 1 := hx 1 (by decide)
      have e2 : τ 2 = σ 2 := hx 2 (by decide)
      cases s with
      | nil => exact ih o [] i k τ (by simp) hi ho hki hrt hx hho hhs hwo hws hm
      | cons q s =>
      simp only [List.length_cons] at hi hd
      obtain ⟨hq1, hq2, hhs'⟩ := hhs
      have hwi : τ 16 i = 0 ∨ τ 16 i = 1 := by rw [hws i (Nat.le_refl _) (by omega)]; exact hw01 _
      have fin : ∀ (m x : Int) (s2 : Rw) (i2 : Nat), ((m = 1 ∧ x = t ∧ i2 = i + 2) ∨ (m = 0 ∧ x = q.1 ∧ i2 = i + 1)) → hold (τ 14) (τ 15) i2 s2 → i2 + s2.length = R.length → (o ++ [(x, q.2)]) ++ mrg w a b t s2 = mrg w a b t R → V (53, [(0, .inl 3), (1, .inr a), (2, .inr b), (3, .inr t), (4, .inr (k : Int)), (5, .inr (i : Int))], [.inr m], τ) := by
        intro m x s2 i2 hmx hh2 hl2 hm2
        have hxr : inR x := by
          rcases hmx with h | h
          · rw [h.2.1]; exact ht
          · rw [h.2.1, ← hq1]; exact hrt _ _
        have next : V (6, [(0, .inl 3), (1, .inr a), (2, .inr b), (3, .inr t), (4, .inr ((k + 1 : Nat) : Int)), (5, .inr (i2 : Int))], [], stu (stu (stu τ 14 k x) 15 k (τ 15 i)) 16 k (τ 16 i)) := by
          refine ih (o ++ [(x, q.2)]) s2 i2 (k + 1) _ (by omega) hl2 (by simp [ho]) (by omega) (rng_stu (rng_stu (rng_stu hrt hxr _ _) (hrt _ _) _ _) (hrt _ _) _ _) (eqx_stu (eqx_stu (eqx_stu hx (by decide) _ _) (by decide) _ _) (by decide) _ _) ?_ ?_ ?_ ?_ hm2
          · rw [hold_app]
            refine ⟨hold_congr (fun j h1 h2 => ?_) hho, ?_, ?_, trivial⟩
            · have e : j ≠ k := by omega
              simp [stu, va_up, e]
            · simp [stu, va_up, ho]
            · simp [stu, va_up, ho, hq2]
          · refine hold_congr (fun j h1 h2 => ?_) hh2
            have e : j ≠ k := by omega
            simp [stu, va_up, e]
          · intro j hj
            by_cases e : j = k
            · subst e
              simp [stu, va_up]
              exact hws i (Nat.le_refl _) (by omega)
            · simp [stu, va_up, e]
              exact hwo j (by omega)
          · intro j h1 h2
            have e : j ≠ k := by omega
            simp [stu, va_up, e]
            exact hws j (by omega) h2
        rcases hmx with ⟨rfl, rfl, rfl⟩ | ⟨rfl, rfl, rfl⟩
        · refine M.1 [6] 80 _ ?_
          refine ⟨by constructor <;> decide, fun c => absurd c (by decide), fun _ => ?_⟩
          refine ⟨⟨by omega, by omega⟩, ⟨by omega, by omega⟩, ⟨by omega, by omega⟩, ⟨by omega, by omega⟩, ⟨by omega, by omega, hwi⟩, by constructor <;> decide, fun c => absurd c (by decide), fun _ => ?_⟩
          exact M.2.2.2.2.2.1 _ (lpick_mem [0, 1, 2, 3, 4, 5]) next
        · refine M.1 [6] 80 _ ?_
          refine ⟨by constructor <;> decide, fun _ => ?_, fun c => absurd rfl c⟩
          refine ⟨⟨by omega, by omega⟩, ⟨by omega, by omega⟩, ⟨by omega, by omega⟩, ⟨by omega, by omega⟩, ⟨by omega, by omega⟩, ⟨by omega, by omega, hwi⟩, by constructor <;> decide, fun _ => ?_, fun c => absurd rfl c⟩
          rw [← hq1] at next
          exact M.2.2.2.2.2.1 _ (lpick_mem [0, 1, 2, 3, 4, 5]) next
      have no : (∀ q2 s2, s = q2 :: s2 → ¬ (q.1 = a ∧ q2.1 = b ∧ w q2.2 = 0)) → V (53, [(0, .inl 3), (1, .inr a), (2, .inr b), (3, .inr t), (4, .inr (k : Int)), (5, .inr (i : Int))], [.inr 0], τ) := by
        intro hno
        refine fin 0 q.1 s (i + 1) (Or.inr ⟨rfl, rfl, rfl⟩) hhs' (by omega) ?_
        rw [← hm]
        cases s with
        | nil => simp [mrg]
        | cons q2 s2 => rw [mrg_n (hno q2 s2 rfl)]; simp
      refine M.1 [29, 53] 60 _ ?_
      refine ⟨⟨by unfold inR; omega, hrt _ _⟩, fun c1 => absurd c1 (by rw [e3]; omega), fun c1 => ?_⟩
      refine ⟨⟨by omega, by omega⟩, ⟨hrt _ _, ha⟩, fun c2 => ?_, fun c2 => ?_⟩
      · refine no (fun q2 s2 _ h => c2 ?_)
        rw [Int.toNat_natCast, hq1]
        exact h.1
      · rw [Int.toNat_natCast, hq1] at c2
        refine M.2.1 (vs := [.inr (i : Int)]) (rest := []) rfl oX2_merge_X2_hasNext rfl rfl (Nat.le_of_ble_eq_true rfl) rfl (c_X2_hasNext (by unfold inR; omega) ⟨hrt, by rw [e1]; omega, by rw [e1]; omega, by rw [e2]; omega, by rw [e2]; omega⟩ (by rw [e3]; omega) (by rw [e3]; omega)) (fun r υ _ hp => ?_)
        obtain ⟨rfl, rfl⟩ := hp
        rw [e3, hN]
        refine M.1 [53] 60 _ ?_
        refine ⟨b01_r _, fun c3 => ?_, fun c3 => ?_⟩
        · refine no (fun q2 s2 e h => b01_0.mp c3 ?_)
          subst e
          simp only [List.length_cons] at hi
          refine ⟨by omega, by omega, ?_⟩
          rw [show ((i : Int) + 1).toNat = i + 1 by omega, hws (i + 1) (by omega) (by omega), hhs'.2.1]
          exact h.2.2
        · have h3 := Classical.not_not.mp (fun h => c3 (b01_f h))
          obtain ⟨-, h3, h4⟩ := h3
          rw [show ((i : Int) + 1).toNat = i + 1 by omega] at h4
          refine ⟨⟨by omega, by omega⟩, ⟨hrt _ _, hb⟩, fun c4 => ?_, fun c4 => ?_⟩
          · rw [show ((i : Int) + 1).toNat = i + 1 by omega] at c4
            refine no (fun q2 s2 e h => c4 ?_)
            subst e
            rw [hhs'.1]
            exact h.2.1
          · rw [show ((i : Int) + 1).toNat = i + 1 by omega] at c4
            cases s with
            | nil => simp at hi; omega
            | cons q2 s2 =>
              simp only [List.length_cons] at hi
              obtain ⟨hz1, hz2, hz3⟩ := hhs'
              refine fin 1 t s2 (i + 2) (Or.inl ⟨rfl, rfl, rfl⟩) hz3 (by omega) ?_
              rw [← hm, mrg_y ⟨c2, by rw [← hz1]; exact c4, by rw [← hz2, ← hws (i + 1) (by omega) (by omega)]; exact h4⟩]
              simp
  refine M.1 [6] 60 _ ?_
  exact loop R.length [] R 0 0 σ (Nat.le_refl _) (by simp) rfl (Nat.le_refl _) hr eqx_rfl trivial hh0 (fun j hj => absurd hj (by omega)) (fun j _ hj => hw0 j hj) rfl
end CR2
