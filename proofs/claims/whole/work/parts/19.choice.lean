section CH
variable {l : Launch} {D : va_G} {cA : Nat → ClassId} {ad : Nat → Nat} {σ : St}
theorem c_X0_startWithByte {p : Nat} {o : Int} (hr : rng σ) (hp : p < 120) (ho0 : 0 ≤ o) (ho : o < 288) (h1 : inR (σ 11 o.toNat + σ 20 (p + 1))) (h2 : inR (1 + σ 21 (p + 1))) : Cv l yX0_startWithByte wsX0_startWithByte (rh 0) D cA ad LC [.inl 5, .inr (p : Int), .inr o, .inl 2] σ (fun τ => rng τ ∧ eqx [20, 21, 22, 23] σ τ ∧ τ 20 = va_up (σ 20) p (σ 11 o.toNat + σ 20 (p + 1)) ∧ τ 21 = va_up (σ 21) p (1 + σ 21 (p + 1)) ∧ τ 22 = va_up (σ 22) p (σ 22 (p + 1)) ∧ τ 23 = va_up (σ 23) p o) := by
  refine Cv.walk fX0_startWithByte pX0_startWithByte [] (by decide) rfl LC_ok tX0_startWithByte_ok fX0_startWithByte_ok pX0_startWithByte_ok klOk_0 (Nat.le_of_ble_eq_true rfl) (fun V M ret => ?_)
  have ep : ((p : Int) + 1).toNat = p + 1 := by omega
  refine M.1 [21] 80 _ ?_
  refine ⟨⟨ho0, ho⟩, ⟨by omega, by omega⟩, ⟨by omega, by omega⟩, ?_⟩
  rw [ep, Int.toNat_natCast]
  obtain ⟨σ1, e1⟩ : ∃ z, z = stu σ 20 p (σ 11 o.toNat + σ 20 (p + 1)) := ⟨_, rfl⟩
  rw [← e1]
  refine M.1 [37] 80 _ ?_
  refine ⟨⟨by omega, by omega⟩, ⟨by omega, by omega⟩, ?_⟩
  rw [ep, Int.toNat_natCast, show σ1 21 = σ 21 by rw [e1, stu_j _ _ _ (by decide)]]
  obtain ⟨σ2, e2⟩ : ∃ z, z = stu σ1 21 p (1 + σ 21 (p + 1)) := ⟨_, rfl⟩
  rw [← e2]
  refine M.1 [51] 80 _ ?_
  refine ⟨⟨by omega, by omega⟩, ⟨by omega, by omega⟩, ?_⟩
  rw [ep, Int.toNat_natCast, show σ2 22 = σ 22 by rw [e2, stu_j _ _ _ (by decide), e1, stu_j _ _ _ (by decide)]]
  refine M.1 [58] 80 _ ?_
  refine ⟨⟨by omega, by omega⟩, ?_⟩
  rw [Int.toNat_natCast]
  refine ret rfl ?_
  rw [e2, e1]
  refine ⟨rng_stu (rng_stu (rng_stu (rng_stu hr h1 _ _) h2 _ _) (hr _ _) _ _) (by unfold inR; omega) _ _, eqx_stu (eqx_stu (eqx_stu (eqx_stu eqx_rfl (by decide) _ _) (by decide) _ _) (by decide) _ _) (by decide) _ _, ?_, ?_, ?_, ?_⟩ <;> simp [stu, va_up]
theorem wmin : ∀ w ∈ minW RX0 57, w ∈ wsX0_startWithLearned := by decide +kernel
theorem c_X0_startWithLearned {p z : Nat} {t : Int} (hk : kC σ) (hp : p < 120) (ht0 : 0 ≤ t) (ht : t < 288) (hz : szC σ t = (z : Int)) (hz1 : p + z ≤ 120) (h1 : inR (σ 11 t.toNat + σ 20 (p + z))) (h2 : inR (1 + σ 21 (p + z))) (h3 : inR (σ 22 p + σ 22 (p + z))) : Cv l yX0_startWithLearned wsX0_startWithLearned (rh 2) D cA ad LC [.inl 5, .inr (p : Int), .inr t, .inl 2] σ (fun τ => rng τ ∧ eqx [20, 21, 22, 23] σ τ ∧ τ 22 = va_up (σ 22) p (if σ 22 p + σ 22 (p + z) < 1000000 then σ 22 p + σ 22 (p + z) else 1000000) ∧ ((¬ (σ 20 p < σ 11 t.toNat + σ 20 (p + z) ∨ (σ 11 t.toNat + σ 20 (p + z) = σ 20 p ∧ 1 + σ 21 (p + z) < σ 21 p)) ∧ τ 20 = σ 20 ∧ τ 21 = σ 21 ∧ τ 23 = σ 23) ∨ ((σ 20 p < σ 11 t.toNat + σ 20 (p + z) ∨ (σ 11 t.toNat + σ 20 (p + z) = σ 20 p ∧ 1 + σ 21 (p + z) < σ 21 p)) ∧ τ 20 = va_up (σ 20) p (σ 11 t.toNat + σ 20 (p + z)) ∧ τ 21 = va_up (σ 21) p (1 + σ 21 (p + z)) ∧ τ 23 = va_up (σ 23) p t))) := by
  have hk' := hk
  obtain ⟨hr, hn0, hn, hl0, hl1⟩ := hk
  refine Cv.walk fX0_startWithLearned pX0_startWithLearned kX0_startWithLearned (by decide) rfl LC_ok tX0_startWithLearned_ok fX0_startWithLearned_ok pX0_startWithLearned_ok kX0_startWithLearned_ok (Nat.le_of_ble_eq_true rfl) (fun V M ret => ?_)
  have ez : ((p : Int) + (z : Int)).toNat = p + z := by omega
  refine M.1 [3] 80 _ ?_
  refine M.2.1 (vs := [.inr t]) (rest := [.inr (p : Int)]) rfl oX0_startWithLearned_X4_sizeOf rfl rfl (Nat.le_of_ble_eq_true rfl) rfl (c_X4_sizeOf (by unfold inR; omega) hk') (fun r τ _ hp => ?_)
  obtain ⟨rfl, rfl⟩ := hp
  rw [hz]
  refine M.1 [57] 80 _ ?_
  refine ⟨⟨ht0, ht⟩, ⟨by omega, by omega⟩, ⟨by omega, by omega⟩, ⟨by omega, by omega⟩, ⟨by omega, by omega⟩, ?_⟩
  rw [ez, Int.toNat_natCast]
  refine M.2.2.2.2.2.2.1 rfl wmin (by decide) (Nat.le_of_ble_eq_true rfl) (by constructor <;> decide) h3 ?_
  obtain ⟨mn, hmn⟩ : ∃ y, y = if τ 22 p + τ 22 (p + z) < 1000000 then τ 22 p + τ 22 (p + z) else 1000000 := ⟨_, rfl⟩
  rw [← hmn]
  have hmr : inR mn := by
    rw [hmn]
    split
    · exact h3
    · constructor <;> decide
  refine M.1 [61] 80 _ ?_
  refine ⟨⟨by omega, by omega⟩, ?_⟩
  rw [Int.toNat_natCast]
  obtain ⟨σ1, e1⟩ : ∃ y, y = stu τ 22 p mn := ⟨_, rfl⟩
  rw [← e1]
  have r1 : rng σ1 := by rw [e1]; exact rng_stu hr hmr _ _
  have f20 : σ1 20 = τ 20 := by rw [e1, stu_j _ _ _ (by decide)]
  have f21 : σ1 21 = τ 21 := by rw [e1, stu_j _ _ _ (by decide)]
  have f23 : σ1 23 = τ 23 := by rw [e1, stu_j _ _ _ (by decide)]
  have f22 : σ1 22 = va_up (τ 22) p mn := by rw [e1]; simp [stu, va_up]
  have fx : eqx [20, 21, 22, 23] τ σ1 := by rw [e1]; exact eqx_stu eqx_rfl (by decide) _ _
  obtain ⟨S, hS⟩ : ∃ y, y = τ 11 t.toNat + τ 20 (p + z) := ⟨_, rfl⟩
  obtain ⟨N, hN⟩ : ∃ y, y = 1 + τ 21 (p + z) := ⟨_, rfl⟩
  rw [← hS] at h1 ⊢
  rw [← hN] at h2 ⊢
  have upd : (τ 20 p < S ∨ (S = τ 20 p ∧ N < τ 21 p)) → V (94, [(0, .inl 5), (1, .inr (p : Int)), (2, .inr t), (3, .inl 2), (4, .inr ((p : Int) + z)), (5, .inr S), (6, .inr N)], [], σ1) := by
    intro h
    refine M.1 [117] 80 _ ?_
    refine ⟨⟨by omega, by omega⟩, ⟨by omega, by omega⟩, ⟨by omega, by omega⟩, ?_⟩
    simp only [Int.toNat_natCast]
    refine ret rfl ⟨rng_stu (rng_stu (rng_stu r1 h1 _ _) h2 _ _) (by unfold inR; omega) _ _, eqx_stu (eqx_stu (eqx_stu fx (by decide) _ _) (by decide) _ _) (by decide) _ _, ?_, Or.inr ⟨by rw [← hS, ← hN]; exact h, ?_, ?_, ?_⟩⟩
    · rw [stu_j _ _ _ (by decide), stu_j _ _ _ (by decide), stu_j _ _ _ (by decide), f22, hmn]
    · rw [stu_j _ _ _ (by decide), stu_j _ _ _ (by decide), ← hS, ← f20]; simp [stu, va_up]
    · rw [stu_j _ _ _ (by decide), ← hN, ← f21]; simp [stu, va_up, f21]
    · rw [← f23]; simp [stu, va_up, f23]
  have keep : ¬ (τ 20 p < S ∨ (S = τ 20 p ∧ N < τ 21 p)) → V (117, [(0, .inl 5), (1, .inr (p : Int)), (2, .inr t), (3, .inl 2), (4, .inr ((p : Int) + z)), (5, .inr S), (6, .inr N)], [], σ1) := by
    intro h
    exact ret rfl ⟨r1, fx, by rw [f22, hmn], Or.inl ⟨by rw [← hS, ← hN]; exact h, f20, f21, f23⟩⟩
  refine M.1 [94, 117] 80 _ ?_
  refine ⟨⟨by omega, by omega⟩, ⟨h1, r1 _ _⟩, fun c1 => ?_, fun c1 => ?_⟩
  · rw [Int.toNat_natCast, f20] at c1
    exact upd (Or.inl c1)
  · rw [Int.toNat_natCast, f20] at c1
    refine ⟨⟨by omega, by omega⟩, ⟨h1, r1 _ _⟩, fun c2 => ?_, fun c2 => ?_⟩
    · rw [Int.toNat_natCast, f20] at c2
      exact keep (by omega)
    · rw [Int.toNat_natCast, f20] at c2
      refine ⟨⟨by omega, by omega⟩, ⟨h2, r1 _ _⟩, fun c3 => ?_, fun c3 => ?_⟩
      · rw [Int.toNat_natCast, f21] at c3
        exact keep (by omega)
      · rw [Int.toNat_natCast, f21] at c3
        exact upd (by omega)
end CH
