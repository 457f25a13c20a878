section CR
variable {l : Launch} {D : va_G} {cA : Nat → ClassId} {ad : Nat → Nat} {σ : St}
theorem c_X2_hasNext {a : Int} (ha : inR a) (hk : kC σ) (h0 : 0 ≤ σ 3 2) (h1 : σ 3 2 ≤ 120) : Ci l yX2_hasNext wsX2_hasNext (rh 0) D cA ad LC [.inl 3, .inr a] σ (fun r τ => τ = σ ∧ r = b01 (0 ≤ a ∧ a + 1 < σ 3 2 ∧ σ 16 (a + 1).toNat = 0)) := by
  obtain ⟨hr, hn0, hn, -, -⟩ := hk
  refine Ci.walkZ fX2_hasNext pX2_hasNext [] (by decide) rfl LC_ok tX2_hasNext_ok fX2_hasNext_ok pX2_hasNext_ok klOk_0 (Nat.le_of_ble_eq_true rfl) (fun V M ret => ?_)
  refine M.1 [30] 60 _ ?_
  refine ⟨ha, fun c1 => ?_, fun c1 => ?_⟩
  · exact ret rfl (Or.inl rfl) ⟨rfl, by rw [b01_f]; omega⟩
  · refine ⟨⟨ha, by unfold inR; omega⟩, fun c2 => ?_, fun c2 => ?_⟩
    · exact ret rfl (Or.inl rfl) ⟨rfl, by rw [b01_f]; omega⟩
    · refine ⟨⟨by omega, by omega⟩, hr _ _, fun c3 => ?_, fun c3 => ?_⟩
      · exact ret rfl (Or.inl rfl) ⟨rfl, by rw [b01_f]; omega⟩
      · exact ret rfl (Or.inr rfl) ⟨rfl, by rw [b01_t]; omega⟩
def spl (f : Nat → Int) : Nat → Rw
  | 0 => []
  | n + 1 => spl f n ++ [(f n, (n : Int))]
theorem spl_len (f : Nat → Int) : ∀ n, (spl f n).length = n
  | 0 => rfl
  | n + 1 => by simp [spl, spl_len f n]
theorem hold_spl {f g h : Nat → Int} : ∀ {n : Nat}, (∀ j : Nat, j < n → f j = h j ∧ g j = (j : Int)) → hold f g 0 (spl h n)
  | 0, _ => trivial
  | n + 1, k => by
    unfold spl
    rw [hold_app, spl_len]
    refine ⟨hold_spl (fun j hj => k j (by omega)), ?_⟩
    have := k n (by omega)
    exact ⟨by rw [Nat.zero_add]; exact this.1, by rw [Nat.zero_add]; exact this.2, trivial⟩
theorem c_X2_spell (hk : kC σ) : Cv l yX2_spell wsX2_spell (rh 1) D cA ad LC [.inl 3, .inl 1] σ (fun τ => rng τ ∧ eqx [3, 14, 15, 16] σ τ ∧ rowC τ (fun p => b01 (bwP (σ 6) (σ 1 1) p)) (spl (σ 6) (σ 1 1).toNat)) := by
  have hk' := hk
  obtain ⟨hr, hn0, hn, hl0, hl1⟩ := hk
  refine Cv.walk fX2_spell pX2_spell [] (by decide) rfl LC_ok tX2_spell_ok fX2_spell_ok pX2_spell_ok klOk_0 (Nat.le_of_ble_eq_true rfl) (fun V M ret => ?_)
  have loop : ∀ (d i : Nat) (τ : St), (i : Int) + d = σ 1 1 → rng τ → eqx [3, 14, 15, 16] σ τ → τ 3 2 = σ 1 1 → (∀ j : Nat, j < i → τ 14 j = σ 6 j ∧ τ 15 j = (j : Int) ∧ τ 16 j = b01 (bwP (σ 6) (σ 1 1) (j : Int))) → V (10, [(0, .inl 3), (1, .inl 1), (2, .inr (i : Int))], [], τ) := by
    intro d
    induction d with
    | zero =>
      intro i τ hi hrt hx h32 hw
      refine M.1 [54] 60 _ ?_
      refine ⟨⟨by unfold inR; omega, hrt _ _⟩, fun c1 => ?_, fun c1 => absurd c1 (by omega)⟩
      have e : (σ 1 1).toNat = i := by omega
      refine ret rfl ⟨hrt, hx, by rw [h32, spl_len]; omega, by rw [spl_len]; omega, by rw [e]; exact hold_spl (fun j hj => ⟨(hw j hj).1, (hw j hj).2.1⟩), fun j hj => ?_⟩
      rw [spl_len] at hj
      rw [(hw j (by omega)).2.1, (hw j (by omega)).2.2]
    | succ d ih =>
      intro i τ hi hrt hx h32 hw
      have e6 : τ 6 = σ 6 := hx 6 (by decide)
      have e1 : τ 1 = σ 1 := hx 1 (by decide)
      have e2 : τ 2 = σ 2 := hx 2 (by decide)
      refine M.1 [44] 60 _ ?_
      refine ⟨⟨by unfold inR; omega, hrt _ _⟩, fun c1 => absurd c1 (by omega), fun c1 => ?_⟩
      refine ⟨⟨by omega, by omega⟩, ⟨by omega, by omega⟩, ⟨by omega, by omega⟩, ?_⟩
      rw [show stu τ 14 (i : Int).toNat (τ 6 (i : Int).toNat) = stu τ 14 i (σ 6 i) by rw [e6, Int.toNat_natCast], Int.toNat_natCast]
      have hr1 : rng (stu (stu τ 14 i (σ 6 i)) 15 i (i : Int)) := rng_stu (rng_stu hrt (hr _ _) _ _) (by unfold inR; omega) _ _
      have f1 : stu (stu τ 14 i (σ 6 i)) 15 i (i : Int) 1 = σ 1 := by rw [stu_j _ _ _ (by decide), stu_j _ _ _ (by decide), e1]
      have f2 : stu (stu τ 14 i (σ 6 i)) 15 i (i : Int) 2 = σ 2 := by rw [stu_j _ _ _ (by decide), stu_j _ _ _ (by decide), e2]
      have f6 : stu (stu τ 14 i (σ 6 i)) 15 i (i : Int) 6 = σ 6 := by rw [stu_j _ _ _ (by decide), stu_j _ _ _ (by decide), e6]
      refine M.2.1 (vs := [.inr (i : Int)]) (rest := [.inr (i : Int), .inl 16]) rfl oX2_spell_X3_beginsWord rfl rfl (Nat.le_of_ble_eq_true rfl) rfl (c_X3_beginsWord (by unfold inR; omega) ⟨hr1, by rw [f1]; omega, by rw [f1]; omega, by rw [f2]; omega, by rw [f2]; omega⟩) (fun r υ _ hp => ?_)
      obtain ⟨rfl, rfl⟩ := hp
      rw [f1, f6]
      refine M.1 [10] 60 _ ?_
      refine ⟨⟨by omega, by omega, b01_z _⟩, ?_⟩
      rw [Int.toNat_natCast]
      refine ih (i + 1) _ (by omega) (rng_stu hr1 (b01_r _) _ _) (eqx_stu (eqx_stu (eqx_stu hx (by decide) _ _) (by decide) _ _) (by decide) _ _) (by simp [stu, va_up, h32]) (fun j hj => ?_)
      by_cases e : j = i
      · subst e
        simp [stu, va_up]
      · have := hw j (by omega)
        simp [stu, va_up, e, this]
  refine M.1 [10] 60 _ ?_
  refine loop (σ 1 1).toNat 0 _ (by omega) (rng_stu hr (hr _ _) _ _) (eqx_stu eqx_rfl (by decide) _ _) (stu_s _ _ _ _) (fun j hj => absurd hj (by omega))
end CR
