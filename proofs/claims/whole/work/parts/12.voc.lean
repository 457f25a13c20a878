def rng (σ : St) : Prop := ∀ j i, inR (σ j i)
theorem stu_s (σ : St) (j i : Nat) (v : Int) : stu σ j i v j i = v := by simp [stu, va_up]
theorem stu_j (σ : St) {j a : Nat} (i : Nat) (v : Int) (h : a ≠ j) : stu σ j i v a = σ a := by simp [stu, va_up, h]
theorem stu_i (σ : St) (j : Nat) {i b : Nat} (v : Int) (h : b ≠ i) : stu σ j i v j b = σ j b := by simp [stu, va_up, h]
theorem rng_stu {σ : St} (h : rng σ) {v : Int} (hv : inR v) (j i : Nat) : rng (stu σ j i v) := by
  intro a b
  by_cases hj : a = j
  · subst hj
    by_cases hi : b = i
    · subst hi
      rw [stu_s]
      exact hv
    · rw [stu_i _ _ _ hi]
      exact h _ _
  · rw [stu_j _ _ _ hj]
    exact h _ _
noncomputable def b01 (P : Prop) : Int := @ite _ P (Classical.propDecidable P) 1 0
theorem b01_t {P : Prop} (h : P) : b01 P = 1 := by unfold b01; rw [if_pos h]
theorem b01_f {P : Prop} (h : ¬ P) : b01 P = 0 := by unfold b01; rw [if_neg h]
theorem b01_0 {P : Prop} : b01 P = 0 ↔ ¬ P := by
  by_cases h : P
  · rw [b01_t h]; simp [h]
  · rw [b01_f h]; simp [h]
theorem b01_z (P : Prop) : b01 P = 0 ∨ b01 P = 1 := by
  by_cases h : P
  · exact Or.inr (b01_t h)
  · exact Or.inl (b01_f h)
theorem b01_r (P : Prop) : inR (b01 P) := inR_z (b01_z P)
theorem b01_c {P Q : Prop} (h : P ↔ Q) : b01 P = b01 Q := by rw [propext h]
def kC (σ : St) : Prop := rng σ ∧ 0 ≤ σ 1 1 ∧ σ 1 1 ≤ 120 ∧ 0 ≤ σ 2 5 ∧ σ 2 5 ≤ 32
def isL (σ : St) (t : Int) : Prop := 256 ≤ t ∧ t < 256 + σ 2 5
def bwP (t : Nat → Int) (n a : Int) : Prop := 0 ≤ a ∧ a < n ∧ (a = 0 ∨ (t a.toNat = 32 ∧ t (a - 1).toNat ≠ 32))
section CC
variable {l : Launch} {D : va_G} {cA : Nat → ClassId} {ad : Nat → Nat} {σ : St}
theorem c_X3_beginsWord {a : Int} (ha : inR a) (hk : kC σ) : Ci l yX3_beginsWord wsX3_beginsWord (rh 0) D cA ad LC [.inl 1, .inr a] σ (fun r τ => τ = σ ∧ r = b01 (bwP (σ 6) (σ 1 1) a)) := by
  obtain ⟨hr, hn0, hn, -, -⟩ := hk
  refine Ci.walkZ fX3_beginsWord pX3_beginsWord [] (by decide) rfl LC_ok tX3_beginsWord_ok fX3_beginsWord_ok pX3_beginsWord_ok klOk_0 (Nat.le_of_ble_eq_true rfl) (fun V M ret => ?_)
  refine M.1 [13, 47] 60 _ ?_
  refine ⟨ha, fun c1 => ?_, fun c1 => ?_⟩
  · exact ret rfl (Or.inl rfl) ⟨rfl, by rw [b01_f]; unfold bwP; omega⟩
  · refine ⟨⟨ha, hr 1 1⟩, fun c2 => ?_, fun c2 => ?_⟩
    · refine ⟨ha, fun c3 => ?_, fun c3 => ?_⟩
      · exact ret rfl (Or.inr rfl) ⟨rfl, by rw [b01_t]; unfold bwP; omega⟩
      · refine ⟨⟨by omega, by omega⟩, ⟨hr _ _, by constructor <;> decide⟩, fun c4 => ?_, fun c4 => ?_⟩
        · exact ret rfl (Or.inl rfl) ⟨rfl, by rw [b01_f]; unfold bwP; omega⟩
        · refine ⟨⟨by omega, by omega⟩, ⟨hr _ _, by constructor <;> decide⟩, fun c5 => ?_, fun c5 => ?_⟩
          · exact ret rfl (Or.inl rfl) ⟨rfl, by rw [b01_f]; unfold bwP; omega⟩
          · exact ret rfl (Or.inr rfl) ⟨rfl, by rw [b01_t]; unfold bwP; omega⟩
    · exact ret rfl (Or.inl rfl) ⟨rfl, by rw [b01_f]; unfold bwP; omega⟩
theorem c_X3_append {a : Int} (hk : kC σ) (h : σ 1 1 < 120) : Cv l yX3_append wsX3_append (rh 0) D cA ad LC [.inl 1, .inr a] σ (fun τ => τ = stu (stu σ 6 (σ 1 1).toNat a) 1 1 (σ 1 1 + 1)) := by
  obtain ⟨hr, hn0, hn, -, -⟩ := hk
  refine Cv.walk fX3_append pX3_append [] (by decide) rfl LC_ok tX3_append_ok fX3_append_ok pX3_append_ok klOk_0 (Nat.le_of_ble_eq_true rfl) (fun V M ret => ?_)
  refine M.1 [29] 60 _ ?_
  refine ⟨⟨hr _ _, by constructor <;> decide⟩, fun c1 => absurd c1 (by omega), fun c1 => ?_⟩
  refine ⟨⟨hn0, h⟩, ?_⟩
  exact ret rfl rfl
theorem c_X4_isToken {t : Int} (ht : inR t) (hk : kC σ) : Ci l yX4_isToken wsX4_isToken (rh 0) D cA ad LC [.inl 2, .inr t] σ (fun r τ => τ = σ ∧ r = b01 (0 ≤ t ∧ t < 256 + σ 2 5)) := by
  obtain ⟨hr, -, -, hl0, hl⟩ := hk
  refine Ci.walkZ fX4_isToken pX4_isToken [] (by decide) rfl LC_ok tX4_isToken_ok fX4_isToken_ok pX4_isToken_ok klOk_0 (Nat.le_of_ble_eq_true rfl) (fun V M ret => ?_)
  refine M.1 [21] 60 _ ?_
  refine ⟨ht, fun c1 => ?_, fun c1 => ?_⟩
  · exact ret rfl (Or.inl rfl) ⟨rfl, by rw [b01_f]; omega⟩
  · refine ⟨⟨ht, by unfold inR; omega⟩, fun c2 => ?_, fun c2 => ?_⟩
    · exact ret rfl (Or.inl rfl) ⟨rfl, by rw [b01_f]; omega⟩
    · exact ret rfl (Or.inr rfl) ⟨rfl, by rw [b01_t]; omega⟩
theorem c_X4_isLearned {t : Int} (ht : inR t) (hk : kC σ) : Ci l yX4_isLearned wsX4_isLearned (rh 0) D cA ad LC [.inl 2, .inr t] σ (fun r τ => τ = σ ∧ r = b01 (isL σ t)) := by
  obtain ⟨hr, -, -, hl0, hl⟩ := hk
  refine Ci.walkZ fX4_isLearned pX4_isLearned [] (by decide) rfl LC_ok tX4_isLearned_ok fX4_isLearned_ok pX4_isLearned_ok klOk_0 (Nat.le_of_ble_eq_true rfl) (fun V M ret => ?_)
  refine M.1 [24] 60 _ ?_
  refine ⟨⟨ht, by constructor <;> decide⟩, fun c1 => ?_, fun c1 => ?_⟩
  · exact ret rfl (Or.inl rfl) ⟨rfl, by rw [b01_f]; unfold isL; omega⟩
  · refine ⟨⟨ht, by unfold inR; omega⟩, fun c2 => ?_, fun c2 => ?_⟩
    · exact ret rfl (Or.inl rfl) ⟨rfl, by rw [b01_f]; unfold isL; omega⟩
    · exact ret rfl (Or.inr rfl) ⟨rfl, by rw [b01_t]; unfold isL; omega⟩
noncomputable def szC (σ : St) (t : Int) : Int := @ite _ (isL σ t) (Classical.propDecidable _) (σ 10 (t - 256).toNat) 1
theorem szC_l {t : Int} (h : isL σ t) : szC σ t = σ 10 (t - 256).toNat := by unfold szC; rw [if_pos h]
theorem szC_b {t : Int} (h : ¬ isL σ t) : szC σ t = 1 := by unfold szC; rw [if_neg h]
theorem c_X4_sizeOf {t : Int} (ht : inR t) (hk : kC σ) : Ci l yX4_sizeOf wsX4_sizeOf (rh 1) D cA ad LC [.inl 2, .inr t] σ (fun r τ => τ = σ ∧ r = szC σ t) := by
  have hk' := hk
  obtain ⟨hr, -, -, hl0, hl⟩ := hk
  refine Ci.walk fX4_sizeOf pX4_sizeOf [] (by decide) rfl LC_ok tX4_sizeOf_ok fX4_sizeOf_ok pX4_sizeOf_ok klOk_0 (Nat.le_of_ble_eq_true rfl) (fun V M ret => ?_)
  refine M.1 [2] 60 _ ?_
  refine M.2.1 (vs := [.inr t]) (rest := []) rfl oX4_sizeOf_X4_isLearned rfl rfl (by decide) rfl (c_X4_isLearned ht hk') (fun r τ _ hp => ?_)
  obtain ⟨rfl, rfl⟩ := hp
  refine M.1 [22] 60 _ ?_
  refine ⟨b01_r _, fun c1 => ?_, fun c1 => ?_⟩
  · exact ret rfl (by constructor <;> decide) ⟨rfl, (szC_b (b01_0.mp c1)).symm⟩
  · have h1 : isL τ t := Classical.not_not.mp (fun h => c1 (b01_f h))
    have h2 := h1
    unfold isL at h2
    refine ⟨⟨by omega, by omega⟩, ?_⟩
    exact ret rfl (hr _ _) ⟨rfl, (szC_l h1).symm⟩
noncomputable def byC (σ : St) (t i : Int) : Int := @ite _ (isL σ t) (Classical.propDecidable _) (if 0 ≤ σ 13 (t - 256).toNat + i ∧ σ 13 (t - 256).toNat + i < 120 then σ 12 (σ 13 (t - 256).toNat + i).toNat else -1) t
theorem byC_b {t i : Int} (h : ¬ isL σ t) : byC σ t i = t := by unfold byC; rw [if_neg h]
theorem byC_l {t i : Int} (h : isL σ t) : byC σ t i = if 0 ≤ σ 13 (t - 256).toNat + i ∧ σ 13 (t - 256).toNat + i < 120 then σ 12 (σ 13 (t - 256).toNat + i).toNat else -1 := by unfold byC; rw [if_pos h]
theorem c_X4_byteOf {t i : Int} (ht : inR t) (hk : kC σ) (hi : isL σ t → inR (σ 13 (t - 256).toNat + i)) : Ci l yX4_byteOf wsX4_byteOf (rh 1) D cA ad LC [.inl 2, .inr t, .inr i] σ (fun r τ => τ = σ ∧ r = byC σ t i) := by
  have hk' := hk
  obtain ⟨hr, -, -, hl0, hl⟩ := hk
  refine Ci.walk fX4_byteOf pX4_byteOf [] (by decide) rfl LC_ok tX4_byteOf_ok fX4_byteOf_ok pX4_byteOf_ok klOk_0 (Nat.le_of_ble_eq_true rfl) (fun V M ret => ?_)
  refine M.1 [2] 60 _ ?_
  refine M.2.1 (vs := [.inr t]) (rest := []) rfl oX4_byteOf_X4_isLearned rfl rfl (by decide) rfl (c_X4_isLearned ht hk') (fun r τ _ hp => ?_)
  obtain ⟨rfl, rfl⟩ := hp
  refine M.1 [9, 43] 60 _ ?_
  refine ⟨b01_r _, fun c1 => ?_, fun c1 => ?_⟩
  · have h1 : isL τ t := Classical.not_not.mp (fun h => c1 (b01_f h))
    have h2 := h1
    unfold isL at h2
    refine ⟨⟨by omega, by omega⟩, ?_⟩
    refine ⟨hi h1, fun c2 => ?_, fun c2 => ?_⟩
    · exact ret rfl (by constructor <;> decide) ⟨rfl, by rw [byC_l h1, if_neg (by omega)]⟩
    · refine ⟨⟨hi h1, by constructor <;> decide⟩, fun c3 => ?_, fun c3 => ?_⟩
      · exact ret rfl (by constructor <;> decide) ⟨rfl, by rw [byC_l h1, if_neg (by omega)]⟩
      · refine ⟨⟨by omega, by omega⟩, ?_⟩
        exact ret rfl (hr _ _) ⟨rfl, by rw [byC_l h1, if_pos (by omega)]⟩
  · exact ret rfl ht ⟨rfl, (byC_b (b01_0.mp c1)).symm⟩
end CC
