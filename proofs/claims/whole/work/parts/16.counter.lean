/-! the pairs of a row as keys, and the table that counts them -/
def prs (w : Int → Int) : Rw → List (Int × Int)
  | [] => []
  | [_] => []
  | q :: q2 :: r => if w q2.2 = 0 then (q.1 * 512 + q2.1, q.2) :: prs w (q2 :: r) else prs w (q2 :: r)
def cnt (κ : Int) : List (Int × Int) → Int
  | [] => 0
  | q :: r => (if q.1 = κ then 1 else 0) + cnt κ r
theorem cnt_app (κ : Int) : ∀ (a b : List (Int × Int)), cnt κ (a ++ b) = cnt κ a + cnt κ b
  | [], b => by simp [cnt]
  | q :: a, b => by simp only [List.cons_append, cnt, cnt_app κ a b]; omega
theorem cnt_nn (κ : Int) : ∀ (a : List (Int × Int)), 0 ≤ cnt κ a
  | [] => by simp [cnt]
  | q :: a => by
    have := cnt_nn κ a
    unfold cnt
    split <;> omega
theorem cnt_le (κ : Int) : ∀ (a : List (Int × Int)), cnt κ a ≤ a.length
  | [] => by simp [cnt]
  | q :: a => by
    have := cnt_le κ a
    unfold cnt
    simp only [List.length_cons]
    split <;> omega
theorem cnt_0 {κ : Int} : ∀ {a : List (Int × Int)}, (∀ q ∈ a, q.1 ≠ κ) → cnt κ a = 0
  | [], _ => rfl
  | q :: a, h => by
    unfold cnt
    rw [if_neg (h q List.mem_cons_self), cnt_0 (fun z hz => h z (List.mem_cons_of_mem _ hz))]
    rfl
def occ (c : Nat → Int) : Nat → Nat
  | 0 => 0
  | n + 1 => occ c n + (if 0 < c n then 1 else 0)
theorem occ_full {c : Nat → Int} : ∀ {n : Nat}, (∀ i, i < n → 0 < c i) → occ c n = n
  | 0, _ => rfl
  | n + 1, h => by
    unfold occ
    rw [occ_full (fun i hi => h i (by omega)), if_pos (h n (by omega))]
theorem occ_up (c : Nat → Int) (j : Nat) (v : Int) : ∀ n : Nat, occ (va_up c j v) n ≤ occ c n + (if j < n then 1 else 0)
  | 0 => by simp [occ]
  | n + 1 => by
    have := occ_up c j v n
    unfold occ
    by_cases e : n = j
    · subst e
      rw [va_up_self]
      simp at this
      split <;> split <;> split <;> omega
    · rw [va_up_ne _ _ e]
      split <;> split at this <;> split <;> omega
theorem occ_same {c : Nat → Int} {j : Nat} {v : Int} (h : 0 < c j) : ∀ n : Nat, occ (va_up c j v) n ≤ occ c n
  | 0 => by simp [occ]
  | n + 1 => by
    have := occ_same (v := v) h n
    unfold occ
    by_cases e : n = j
    · subst e
      rw [va_up_self, if_pos h]
      split <;> omega
    · rw [va_up_ne _ _ e]
      omega
def hN (κ : Int) : Nat := ((κ / 512) * 31 + κ % 512).toNat % 256
def HT (σ : St) (o : List (Int × Int)) : Prop :=
  (∀ i, i < 256 → 0 ≤ σ 18 i) ∧
  (∀ i, i < 256 → 0 < σ 18 i → σ 18 i = cnt (σ 17 i) o ∧ (σ 17 i, σ 19 i) ∈ o ∧ ∃ u, u < 256 ∧ i = (hN (σ 17 i) + u) % 256 ∧ ∀ v, v < u → 0 < σ 18 ((hN (σ 17 i) + v) % 256)) ∧
  (∀ i j, i < 256 → j < 256 → 0 < σ 18 i → 0 < σ 18 j → σ 17 i = σ 17 j → i = j) ∧
  (∀ q ∈ o, ∃ i, i < 256 ∧ 0 < σ 18 i ∧ σ 17 i = q.1) ∧
  occ (σ 18) 256 ≤ o.length
theorem HT_new {σ τ : St} {o : List (Int × Int)} {κ p : Int} {u i : Nat} (h : HT σ o) (hu : u < 256) (hi : i = (hN κ + u) % 256) (hpr : ∀ v, v < u → 0 < σ 18 ((hN κ + v) % 256) ∧ σ 17 ((hN κ + v) % 256) ≠ κ) (h0 : σ 18 i = 0) (h17 : τ 17 = va_up (σ 17) i κ) (h18 : τ 18 = va_up (σ 18) i 1) (h19 : τ 19 = va_up (σ 19) i p) : HT τ (o ++ [(κ, p)]) := by
  obtain ⟨a1, a2, a3, a4, a5⟩ := h
  have hi2 : i < 256 := by omega
  have fresh : ∀ q ∈ o, q.1 ≠ κ := by
    intro q hq e
    obtain ⟨j, hj, hj0, hjk⟩ := a4 q hq
    obtain ⟨-, -, x, hx, hjx, hxv⟩ := a2 j hj hj0
    rw [hjk, e] at hjx hxv
    rcases Nat.lt_trichotomy x u with hc | hc | hc
    · exact (hpr x hc).2 (by rw [← hjx, hjk, e])
    · subst hc
      rw [← hi] at hjx
      rw [hjx, h0] at hj0
      omega
    · have := hxv u hc
      rw [← hi, h0] at this
      omega
  refine ⟨?_, ?_, ?_, ?_, ?_⟩
  · intro j hj
    rw [h18]
    by_cases e : j = i
    · rw [e, va_up_self]; decide
    · rw [va_up_ne _ _ e]; exact a1 j hj
  · intro j hj hj0
    by_cases e : j = i
    · subst e
      rw [h17, h18, h19, va_up_self, va_up_self, va_up_self]
      refine ⟨by rw [cnt_app, cnt_0 fresh]; simp [cnt], List.mem_append_right _ List.mem_cons_self, u, hu, hi, fun v hv => ?_⟩
      by_cases e2 : (hN κ + v) % 256 = j
      · rw [e2, va_up_self]; decide
      · rw [va_up_ne _ _ e2]; exact (hpr v hv).1
    · rw [h18, va_up_ne _ _ e] at hj0
      obtain ⟨b1, b2, x, hx, hjx, hxv⟩ := a2 j hj hj0
      rw [h17, h18, h19, va_up_ne _ _ e, va_up_ne _ _ e, va_up_ne _ _ e]
      refine ⟨?_, List.mem_append_left _ b2, x, hx, hjx, fun v hv => ?_⟩
      · rw [cnt_app, b1]
        have : κ ≠ σ 17 j := fun z => fresh _ b2 z.symm
        simp [cnt, this]
      · by_cases e2 : (hN (σ 17 j) + v) % 256 = i
        · rw [e2, va_up_self]; decide
        · rw [va_up_ne _ _ e2]; exact hxv v hv
  · intro x y hx hy hx0 hy0 hxy
    rw [h18] at hx0 hy0
    rw [h17] at hxy
    by_cases ex : x = i
    · by_cases ey : y = i
      · rw [ex, ey]
      · rw [ex, va_up_self, va_up_ne _ _ ey] at hxy
        rw [va_up_ne _ _ ey] at hy0
        exact absurd hxy.symm (fresh _ (a2 y hy hy0).2.1)
    · rw [va_up_ne _ _ ex] at hx0 hxy
      by_cases ey : y = i
      · rw [ey, va_up_self] at hxy
        exact absurd hxy (fresh _ (a2 x hx hx0).2.1)
      · rw [va_up_ne _ _ ey] at hy0 hxy
        exact a3 x y hx hy hx0 hy0 hxy
  · intro q hq
    rcases List.mem_append.mp hq with hq | hq
    · obtain ⟨j, hj, hj0, hjk⟩ := a4 q hq
      have e : j ≠ i := fun e => by rw [e, h0] at hj0; omega
      exact ⟨j, hj, by rw [h18, va_up_ne _ _ e]; exact hj0, by rw [h17, va_up_ne _ _ e]; exact hjk⟩
    · rw [List.mem_singleton] at hq
      subst hq
      exact ⟨i, hi2, by rw [h18, va_up_self]; decide, by rw [h17, va_up_self]⟩
  · rw [h18]
    have := occ_up (σ 18) i 1 256
    rw [if_pos hi2] at this
    simp only [List.length_append, List.length_singleton]
    omega
theorem HT_more {σ τ : St} {o : List (Int × Int)} {κ p : Int} {i : Nat} (h : HT σ o) (hi : i < 256) (h0 : 0 < σ 18 i) (hk : σ 17 i = κ) (h17 : τ 17 = σ 17) (h18 : τ 18 = va_up (σ 18) i (σ 18 i + 1)) (h19 : τ 19 = σ 19) : HT τ (o ++ [(κ, p)]) := by
  obtain ⟨a1, a2, a3, a4, a5⟩ := h
  have pos : ∀ j, 0 < τ 18 j ↔ (0 < σ 18 j) := by
    intro j
    rw [h18]
    by_cases e : j = i
    · rw [e, va_up_self]; omega
    · rw [va_up_ne _ _ e]
  refine ⟨?_, ?_, ?_, ?_, ?_⟩
  · intro j hj
    rw [h18]
    by_cases e : j = i
    · rw [e, va_up_self]; omega
    · rw [va_up_ne _ _ e]; exact a1 j hj
  · intro j hj hj0
    rw [pos] at hj0
    obtain ⟨b1, b2, x, hx, hjx, hxv⟩ := a2 j hj hj0
    rw [h17, h19]
    refine ⟨?_, List.mem_append_left _ b2, x, hx, hjx, fun v hv => (pos _).mpr (hxv v hv)⟩
    rw [cnt_app, h18]
    by_cases e : j = i
    · subst e
      rw [va_up_self, ← b1]
      simp [cnt, hk]
    · rw [va_up_ne _ _ e, b1]
      have : κ ≠ σ 17 j := fun z => e (a3 j i hj hi hj0 h0 (by rw [hk, z]))
      simp [cnt, this]
  · intro x y hx hy hx0 hy0 hxy
    rw [pos] at hx0 hy0
    rw [h17] at hxy
    exact a3 x y hx hy hx0 hy0 hxy
  · intro q hq
    rcases List.mem_append.mp hq with hq | hq
    · obtain ⟨j, hj, hj0, hjk⟩ := a4 q hq
      exact ⟨j, hj, (pos j).mpr hj0, by rw [h17]; exact hjk⟩
    · rw [List.mem_singleton] at hq
      subst hq
      exact ⟨i, hi, (pos i).mpr h0, by rw [h17]; exact hk⟩
  · rw [h18]
    have := occ_same (v := σ 18 i + 1) h0 256
    simp only [List.length_append, List.length_singleton]
    omega
section CK
variable {l : Launch} {D : va_G} {cA : Nat → ClassId} {ad : Nat → Nat} {σ : St}
theorem c_X1_add {a b p : Int} {o : List (Int × Int)} (ha0 : 0 ≤ a) (ha : a < 288) (hb0 : 0 ≤ b) (hb : b < 288) (hp : inR p) (hr : rng σ) (ho : o.length < 256) (hT : HT σ o) : Cv l yX1_add wsX1_add (rh 0) D cA ad LC [.inl 4, .inr a, .inr b, .inr p] σ (fun τ => rng τ ∧ eqx [17, 18, 19] σ τ ∧ HT τ (o ++ [(a * 512 + b, p)])) := by
  refine Cv.walk fX1_add pX1_add [] (by decide) rfl LC_ok tX1_add_ok fX1_add_ok pX1_add_ok klOk_0 (Nat.le_of_ble_eq_true rfl) (fun V M ret => ?_)
  have hh : (hN (a * 512 + b) : Int) = (a * 31 + b) % 256 := by
    unfold hN
    omega
  have loop : ∀ (d u : Nat), u + d = 256 → (∀ v, v < u → 0 < σ 18 ((hN (a * 512 + b) + v) % 256) ∧ σ 17 ((hN (a * 512 + b) + v) % 256) ≠ a * 512 + b) → V (24, [(0, .inl 4), (1, .inr a), (2, .inr b), (3, .inr p), (4, .inr (a * 512 + b)), (5, .inr (((hN (a * 512 + b) + u) % 256 : Nat) : Int)), (6, .inr (u : Int))], [], σ) := by
    intro d
    induction d with
    | zero =>
      intro u hu hv
      exfalso
      have hfull : ∀ i, i < 256 → 0 < σ 18 i := by
        intro i hi
        have := (hv ((i + 256 - hN (a * 512 + b) % 256) % 256) (by omega)).1
        rwa [show (hN (a * 512 + b) + (i + 256 - hN (a * 512 + b) % 256) % 256) % 256 = i by omega] at this
      have h1 := occ_full hfull
      have h2 := hT.2.2.2.2
      omega
    | succ d ih =>
      intro u hu hv
      have hs : ((hN (a * 512 + b) + u) % 256) < 256 := Nat.mod_lt _ (by decide)
      generalize hse : (hN (a * 512 + b) + u) % 256 = s at hs ⊢
      have hc0 := hT.1 s hs
      refine M.1 [24, 82] 80 _ ?_
      refine ⟨⟨by unfold inR; omega, by constructor <;> decide⟩, fun c1 => absurd c1 (by omega), fun c1 => ?_⟩
      refine ⟨⟨by omega, by omega⟩, hr _ _, fun c2 => ?_, fun c2 => ?_⟩
      · rw [Int.toNat_natCast] at c2
        refine ⟨⟨by omega, by omega⟩, ⟨hr _ _, by unfold inR; omega⟩, fun c3 => ?_, fun c3 => ?_⟩
        · rw [Int.toNat_natCast] at c3
          refine ⟨⟨rfl, by omega, by omega⟩, ?_⟩
          have h := ih (u + 1) (by omega) (fun v hv' => by
            rcases Nat.lt_or_ge v u with hc | hc
            · exact hv v hc
            · rw [show v = u by omega, hse]
              exact ⟨by omega, c3⟩)
          rw [show (((hN (a * 512 + b) + (u + 1)) % 256 : Nat) : Int) = ((s : Int) + 1) % 256 by omega] at h
          exact h
        · rw [Int.toNat_natCast] at c3
          refine ⟨⟨by omega, by omega⟩, ⟨by omega, by omega⟩, ?_⟩
          rw [Int.toNat_natCast]
          have hcl := cnt_le (σ 17 s) o
          have hcs := (hT.2.1 s hs (by omega)).1
          exact ret rfl ⟨rng_stu hr (by unfold inR; omega) _ _, eqx_stu eqx_rfl (by decide) _ _, HT_more hT hs (by omega) c3 (stu_j _ _ _ (by decide)) (by simp [stu, va_up]) (stu_j _ _ _ (by decide))⟩
      · rw [Int.toNat_natCast] at c2
        refine ⟨⟨by omega, by omega⟩, ⟨by omega, by omega⟩, ⟨by omega, by omega⟩, ?_⟩
        rw [Int.toNat_natCast]
        have e1 : stu (stu σ 17 s (a * 512 + b)) 19 s p 17 s = a * 512 + b := by simp [stu, va_up]
        have e2 : stu (stu σ 17 s (a * 512 + b)) 19 s p 18 s = 0 := by simp [stu, va_up, c2]
        refine ⟨⟨by rw [e1]; unfold inR; omega, by unfold inR; omega⟩, fun c3 => absurd e1 c3, fun c3 => ?_⟩
        refine ⟨⟨by omega, by omega⟩, ⟨by omega, by omega⟩, ?_⟩
        rw [Int.toNat_natCast, e2]
        exact ret rfl ⟨rng_stu (rng_stu (rng_stu hr (by unfold inR; omega) _ _) hp _ _) (by constructor <;> decide) _ _, eqx_stu (eqx_stu (eqx_stu eqx_rfl (by decide) _ _) (by decide) _ _) (by decide) _ _, HT_new hT (show u < 256 by omega) hse.symm hv c2 (by simp [stu, va_up]) (by simp [stu, va_up]) (by simp [stu, va_up])⟩
  refine M.1 [24] 60 _ ?_
  refine ⟨⟨rfl, by omega, by omega⟩, ?_⟩
  have h := loop 256 0 rfl (fun v hv => absurd hv (by omega))
  rw [show (((hN (a * 512 + b) + 0) % 256 : Nat) : Int) = (a * 31 + b) % 256 by omega] at h
  exact h
end CK
