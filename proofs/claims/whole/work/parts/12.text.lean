def rng (σ : St) : Prop := ∀ j i, inR (σ j i)
theorem rng_stu {σ : St} (h : rng σ) {v : Int} (hv : inR v) (j i : Nat) : rng (stu σ j i v) := by
  intro a b
  unfold stu va_up
  split
  · split
    · exact hv
    · exact h _ _
  · exact h _ _
def bwZ (t : Nat → Int) (n a : Int) : Int := if 0 ≤ a ∧ a < n ∧ (a = 0 ∨ (t a.toNat = 32 ∧ t (a - 1).toNat ≠ 32)) then 1 else 0
theorem c_X3_beginsWord {l : Launch} {D : va_G} {cA : Nat → ClassId} {ad : Nat → Nat} {σ : St} {a : Int} (ha : inR a) (hr : rng σ) (hn : σ 1 1 ≤ 120) : Ci l yX3_beginsWord wsX3_beginsWord (rh 0) D cA ad LC [.inl 1, .inr a] σ (fun r τ => τ = σ ∧ r = bwZ (σ 6) (σ 1 1) a) := by
  refine Ci.walkZ fX3_beginsWord pX3_beginsWord [] (by decide) rfl LC_ok tX3_beginsWord_ok fX3_beginsWord_ok pX3_beginsWord_ok klOk_0 (by decide) (fun V M ret => ?_)
  refine M.1 [13, 47] 60 _ ?_
  refine ⟨ha, fun c1 => ?_, fun c1 => ?_⟩
  · exact ret rfl (Or.inl rfl) ⟨rfl, by unfold bwZ; rw [if_neg]; omega⟩
  · refine ⟨⟨ha, hr 1 1⟩, fun c2 => ?_, fun c2 => ?_⟩
    · refine ⟨ha, fun c3 => ?_, fun c3 => ?_⟩
      · exact ret rfl (Or.inr rfl) ⟨rfl, by unfold bwZ; rw [if_pos]; omega⟩
      · refine ⟨⟨by omega, by omega⟩, ⟨hr _ _, by constructor <;> decide⟩, fun c4 => ?_, fun c4 => ?_⟩
        · exact ret rfl (Or.inl rfl) ⟨rfl, by unfold bwZ; rw [if_neg]; omega⟩
        · refine ⟨⟨by omega, by omega⟩, ⟨hr _ _, by constructor <;> decide⟩, fun c5 => ?_, fun c5 => ?_⟩
          · exact ret rfl (Or.inl rfl) ⟨rfl, by unfold bwZ; rw [if_neg]; omega⟩
          · exact ret rfl (Or.inr rfl) ⟨rfl, by unfold bwZ; rw [if_pos]; omega⟩
    · exact ret rfl (Or.inl rfl) ⟨rfl, by unfold bwZ; rw [if_neg]; omega⟩
