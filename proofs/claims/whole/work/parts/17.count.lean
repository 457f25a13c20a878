section CK2
variable {l : Launch} {D : va_G} {cA : Nat → ClassId} {ad : Nat → Nat} {σ : St}
theorem c_fill18 {v : Int} (hv : inR v) (hr : rng σ) : Cv l yJ7_fill_53178 wsJ7_fill_53178 (rh 0) D cA ad LC [.inl 18, .inr v] σ (fun τ => rng τ ∧ eqx [18] σ τ ∧ ∀ i, i < 256 → τ 18 i = v) := by
  refine Cv.walk [] [] [] (by decide) rfl LC_ok tJ7_fill_53178_ok flOk_0 plOk_0 klOk_0 (Nat.le_of_ble_eq_true rfl) (fun V M ret => ?_)
  have loop : ∀ (d i : Nat) (τ : St), i + d = 256 → rng τ → eqx [18] σ τ → (∀ j, j < i → τ 18 j = v) → V (5, [(0, .inl 18), (1, .inr v), (2, .inr (i : Int)), (3, .inr 256)], [], τ) := by
    intro d
    induction d with
    | zero =>
      intro i τ hi hrt hx hw
      refine M.1 [20] 60 _ ?_
      exact ⟨⟨by unfold inR; omega, by constructor <;> decide⟩, fun c1 => ret rfl ⟨hrt, hx, fun j hj => hw j (by omega)⟩, fun c1 => absurd c1 (by omega)⟩
    | succ d ih =>
      intro i τ hi hrt hx hw
      refine M.1 [5] 60 _ ?_
      refine ⟨⟨by unfold inR; omega, by constructor <;> decide⟩, fun c1 => absurd c1 (by omega), fun c1 => ?_⟩
      refine ⟨⟨by omega, by omega⟩, ?_⟩
      rw [Int.toNat_natCast]
      refine ih (i + 1) _ (by omega) (rng_stu hrt hv _ _) (eqx_stu hx (by decide) _ _) (fun j hj => ?_)
      by_cases e : j = i
      · rw [e, stu_s]
      · rw [stu_i _ _ _ e]
        exact hw j (by omega)
  refine M.1 [5] 60 _ ?_
  exact loop 256 0 σ rfl hr eqx_rfl (fun j hj => absurd hj (by omega))
theorem HT_0 (h : ∀ i, i < 256 → σ 18 i = 0) : HT σ [] := by
  refine ⟨fun i hi => by rw [h i hi]; decide, fun i hi h0 => absurd h0 (by rw [h i hi]; decide), fun i j hi hj h0 => absurd h0 (by rw [h i hi]; decide), fun q hq => by simp at hq, ?_⟩
  have : ∀ n, n ≤ 256 → occ (σ 18) n = 0 := by
    intro n
    induction n with
    | zero => intro _; rfl
    | succ n ih =>
      intro hn
      unfold occ
      rw [ih (by omega), h n (by omega)]
      rfl
  rw [this 256 (Nat.le_refl _)]
  exact Nat.zero_le _
theorem c_X1_countPairs {w : Int → Int} {R : Rw} (hk : kC σ) (hR : rowC σ w R) (h288 : ∀ q ∈ R, 0 ≤ q.1 ∧ q.1 < 288) : Cv l yX1_countPairs wsX1_countPairs (rh 1) D cA ad LC [.inl 4, .inl 3] σ (fun τ => rng τ ∧ eqx [17, 18, 19] σ τ ∧ HT τ (prs w R)) := by
  have hk' := hk
  obtain ⟨hr, hn0, hn, hl0, hl1⟩ := hk
  obtain ⟨hN, hN2, hh0, hw0⟩ := hR
  refine Cv.walk fX1_countPairs pX1_countPairs [] (by decide) rfl LC_ok tX1_countPairs_ok fX1_countPairs_ok pX1_countPairs_ok klOk_0 (Nat.le_of_ble_eq_true rfl) (fun V M ret => ?_)
  have loop : ∀ (s : Rw) (o : List (Int × Int)) (i : Nat) (τ : St), i + s.length = R.length → o.length ≤ i → rng τ → eqx [17, 18, 19] σ τ → hold (σ 14) (σ 15) i s → (∀ q ∈ s, 0 ≤ q.1 ∧ q.1 < 288) → o ++ prs w s = prs w R → HT τ o → V (10, [(0, .inl 4), (1, .inl 3), (2, .inr (i : Int))], [], τ) := by
    intro s
    induction s with
    | nil =>
      intro o i τ hi ho hrt hx hhs hs8 hm hT
      have e3 : τ 3 = σ 3 := hx 3 (by decide)
      simp at hi
      refine M.1 [56] 60 _ ?_
      refine ⟨⟨by unfold inR; omega, hrt _ _⟩, fun c1 => ?_, fun c1 => absurd c1 (by rw [e3]; omega)⟩
      simp only [prs, List.append_nil] at hm
      exact ret rfl ⟨hrt, hx, by rw [← hm]; exact hT⟩
    | cons q s ih =>
      intro o i τ hi ho hrt hx hhs hs8 hm hT
      have e3 : τ 3 = σ 3 := hx 3 (by decide)
      have e1 : τ 1 = σ 1 := hx 1 (by decide)
      have e2 : τ 2 = σ 2 := hx 2 (by decide)
      have e14 : τ 14 = σ 14 := hx 14 (by decide)
      have e15 : τ 15 = σ 15 := hx 15 (by decide)
      have e16 : τ 16 = σ 16 := hx 16 (by decide)
      simp only [List.length_cons] at hi
      obtain ⟨hq1, hq2, hhs'⟩ := hhs
      refine M.1 [20] 60 _ ?_
      refine ⟨⟨by unfold inR; omega, hrt _ _⟩, fun c1 => absurd c1 (by rw [e3]; omega), fun c1 => ?_⟩
      refine M.2.1 (vs := [.inr (i : Int)]) (rest := []) rfl oX1_countPairs_X2_hasNext rfl rfl (Nat.le_of_ble_eq_true rfl) rfl (c_X2_hasNext (by unfold inR; omega) ⟨hrt, by rw [e1]; omega, by rw [e1]; omega, by rw [e2]; omega, by rw [e2]; omega⟩ (by rw [e3]; omega) (by rw [e3]; omega)) (fun r υ _ hp => ?_)
      obtain ⟨rfl, rfl⟩ := hp
      rw [e3, hN, e16, show ((i : Int) + 1).toNat = i + 1 by omega]
      have skip : prs w (q :: s) = prs w s → V (50, [(0, .inl 4), (1, .inl 3), (2, .inr (i : Int))], [], υ) := by
        intro e
        refine M.1 [10] 60 _ ?_
        exact ih o (i + 1) υ (by omega) (by omega) hrt hx hhs' (fun z hz => hs8 z (List.mem_cons_of_mem _ hz)) (by rw [← e]; exact hm) hT
      refine M.1 [47, 50] 60 _ ?_
      refine ⟨b01_r _, fun c3 => ?_, fun c3 => ?_⟩
      · refine skip ?_
        cases s with
        | nil => rfl
        | cons q2 s2 =>
          simp only [List.length_cons] at hi
          rw [prs, if_neg]
          intro h
          refine b01_0.mp c3 ⟨by omega, by omega, ?_⟩
          rw [hw0 (i + 1) (by omega), hhs'.2.1]
          exact h
      · have h3 := Classical.not_not.mp (fun h => c3 (b01_f h))
        obtain ⟨-, h3, h4⟩ := h3
        cases s with
        | nil => simp at hi; omega
        | cons q2 s2 =>
          simp only [List.length_cons] at hi
          obtain ⟨hz1, hz2, hz3⟩ := hhs'
          rw [hw0 (i + 1) (by omega), hz2] at h4
          have b1 := hs8 q List.mem_cons_self
          have b2 := hs8 q2 (List.mem_cons_of_mem _ List.mem_cons_self)
          refine ⟨⟨by omega, by omega⟩, ⟨by omega, by omega⟩, ⟨by omega, by omega⟩, ?_⟩
          rw [Int.toNat_natCast, show ((i : Int) + 1).toNat = i + 1 by omega, e14, e15, hq1, hq2, hz1]
          refine M.2.2.1 (vs := [.inr q.1, .inr q2.1, .inr q.2]) (rest := []) rfl oX1_countPairs_X1_add rfl rfl (Nat.le_of_ble_eq_true rfl) rfl (c_X1_add b1.1 b1.2 b2.1 b2.2 (by rw [← hq2]; exact hr _ _) hrt (by omega) hT) (fun υ2 hp => ?_)
          obtain ⟨p1, p2, p3⟩ := hp
          refine M.1 [10] 60 _ ?_
          refine ih (o ++ [(q.1 * 512 + q2.1, q.2)]) (i + 1) υ2 (by simp; omega) (by simp; omega) p1 (eqx_trans hx p2) ⟨hz1, hz2, hz3⟩ (fun z hz => hs8 z (List.mem_cons_of_mem _ hz)) ?_ p3
          rw [← hm, prs, if_pos h4]
          simp
  refine M.1 [5] 60 _ ?_
  refine M.2.2.2.2.1 (vs := [.inl 18, .inr 0]) (rest := []) rfl oX1_countPairs_J7_fill_53178 (Nat.le_of_ble_eq_true rfl) rfl (c_fill18 inR_0 hr) (fun τ hp => ?_)
  obtain ⟨hrt, p1, p2⟩ := hp
  refine M.1 [10] 60 _ ?_
  exact loop R [] 0 τ (by simp) (Nat.le_refl _) hrt (eqx_mono p1 (by decide)) hh0 h288 rfl (HT_0 p2)
def ahd (σ : St) (i m : Nat) : Prop := σ 18 m < σ 18 i ∨ (σ 18 i = σ 18 m ∧ σ 17 i < σ 17 m)
theorem c_X1_isAhead {i m : Nat} (hr : rng σ) (hi : i < 256) (hm : m < 256) : Ci l yX1_isAhead wsX1_isAhead (rh 0) D cA ad LC [.inl 4, .inr (i : Int), .inr (m : Int)] σ (fun r τ => τ = σ ∧ r = b01 (ahd σ i m)) := by
  refine Ci.walkZ fX1_isAhead pX1_isAhead [] (by decide) rfl LC_ok tX1_isAhead_ok fX1_isAhead_ok pX1_isAhead_ok klOk_0 (Nat.le_of_ble_eq_true rfl) (fun V M ret => ?_)
  refine M.1 [35, 56] 60 _ ?_
  refine ⟨⟨by omega, by omega⟩, ⟨by omega, by omega⟩, ⟨hr _ _, hr _ _⟩, fun c1 => ?_, fun c1 => ?_⟩
  · simp only [Int.toNat_natCast] at c1
    refine ⟨⟨by omega, by omega⟩, ⟨by omega, by omega⟩, ⟨hr _ _, hr _ _⟩, fun c2 => ?_, fun c2 => ?_⟩
    · simp only [Int.toNat_natCast] at c2
      exact ret rfl (Or.inl rfl) ⟨rfl, by rw [b01_f]; unfold ahd; omega⟩
    · simp only [Int.toNat_natCast] at c2
      exact ret rfl (Or.inr rfl) ⟨rfl, by rw [b01_t]; unfold ahd; omega⟩
  · simp only [Int.toNat_natCast] at c1
    refine ⟨⟨by omega, by omega⟩, ⟨by omega, by omega⟩, ⟨hr _ _, hr _ _⟩, fun c2 => ?_, fun c2 => ?_⟩
    · simp only [Int.toNat_natCast] at c2
      exact ret rfl (Or.inl rfl) ⟨rfl, by rw [b01_f]; unfold ahd; omega⟩
    · simp only [Int.toNat_natCast] at c2
      exact ret rfl (Or.inr rfl) ⟨rfl, by rw [b01_t]; unfold ahd; omega⟩
def mostOk (σ : St) (n : Nat) (r : Int) : Prop := (r = -1 ∧ ∀ j : Nat, j < n → ¬ 0 < σ 18 j) ∨ ∃ m : Nat, r = (m : Int) ∧ m < n ∧ 0 < σ 18 m ∧ ∀ j : Nat, j < n → 0 < σ 18 j → ¬ ahd σ j m
theorem c_X1_mostFrequent (hr : rng σ) : Ci l yX1_mostFrequent wsX1_mostFrequent (rh 1) D cA ad LC [.inl 4] σ (fun r τ => τ = σ ∧ mostOk σ 256 r) := by
  refine Ci.walk fX1_mostFrequent pX1_mostFrequent [] (by decide) rfl LC_ok tX1_mostFrequent_ok fX1_mostFrequent_ok pX1_mostFrequent_ok klOk_0 (Nat.le_of_ble_eq_true rfl) (fun V M ret => ?_)
  have mr : ∀ {n : Nat} {r : Int}, n ≤ 256 → mostOk σ n r → inR r := by
    intro n r hn h
    unfold inR
    rcases h with ⟨h, -⟩ | ⟨m, h, h2, -⟩ <;> omega
  have loop : ∀ (d i : Nat) (r : Int), i + d = 256 → mostOk σ i r → V (4, [(0, .inl 4), (1, .inr r), (2, .inr (i : Int))], [], σ) := by
    intro d
    induction d with
    | zero =>
      intro i r hi h
      have e : i = 256 := by omega
      subst e
      refine M.1 [42] 60 _ ?_
      exact ⟨⟨by constructor <;> decide, by constructor <;> decide⟩, fun c1 => ret rfl (mr (Nat.le_refl _) h) ⟨rfl, h⟩, fun c1 => absurd c1 (by decide)⟩
    | succ d ih =>
      intro i r hi h
      have keep : mostOk σ (i + 1) r → V (35, [(0, .inl 4), (1, .inr r), (2, .inr (i : Int))], [], σ) := by
        intro h2
        refine M.1 [4] 60 _ ?_
        exact ih (i + 1) r (by omega) h2
      have take : mostOk σ (i + 1) (i : Int) → V (33, [(0, .inl 4), (1, .inr r), (2, .inr (i : Int))], [], σ) := by
        intro h2
        refine M.1 [4] 60 _ ?_
        exact ih (i + 1) (i : Int) (by omega) h2
      refine M.1 [27, 33, 35] 60 _ ?_
      refine ⟨⟨by unfold inR; omega, by constructor <;> decide⟩, fun c1 => absurd c1 (by omega), fun c1 => ?_⟩
      refine ⟨⟨by omega, by omega⟩, hr _ _, fun c2 => ?_, fun c2 => ?_⟩
      · rw [Int.toNat_natCast] at c2
        refine keep ?_
        rcases h with ⟨h, h2⟩ | ⟨m, h, h2, h3, h4⟩
        · refine Or.inl ⟨h, fun j hj => ?_⟩
          rcases Nat.lt_or_ge j i with hc | hc
          · exact h2 j hc
          · rw [show j = i by omega]; omega
        · refine Or.inr ⟨m, h, by omega, h3, fun j hj => ?_⟩
          rcases Nat.lt_or_ge j i with hc | hc
          · exact h4 j hc
          · rw [show j = i by omega]
            intro h9
            omega
      · rw [Int.toNat_natCast] at c2
        refine ⟨mr (by omega) h, fun c3 => ?_, fun c3 => ?_⟩
        · refine take ?_
          rcases h with ⟨h, h2⟩ | ⟨m, h, h2, h3, h4⟩
          · refine Or.inr ⟨i, rfl, by omega, by omega, fun j hj hj0 => ?_⟩
            rcases Nat.lt_or_ge j i with hc | hc
            · exact absurd hj0 (h2 j hc)
            · rw [show j = i by omega]
              unfold ahd
              omega
          · omega
        · rcases h with ⟨h, h2⟩ | ⟨m, h, h2, h3, h4⟩
          · omega
          · subst h
            refine M.2.1 (vs := [.inr (i : Int), .inr (m : Int)]) (rest := []) rfl oX1_mostFrequent_X1_isAhead rfl rfl (Nat.le_of_ble_eq_true rfl) rfl (c_X1_isAhead hr (by omega) (by omega)) (fun r υ _ hp => ?_)
            obtain ⟨rfl, rfl⟩ := hp
            refine M.1 [33, 35] 60 _ ?_
            refine ⟨b01_r _, fun c4 => ?_, fun c4 => ?_⟩
            · refine keep (Or.inr ⟨m, rfl, by omega, h3, fun j hj hj0 => ?_⟩)
              rcases Nat.lt_or_ge j i with hc | hc
              · exact h4 j hc hj0
              · rw [show j = i by omega]
                exact b01_0.mp c4
            · have h5 := Classical.not_not.mp (fun h => c4 (b01_f h))
              refine take (Or.inr ⟨i, rfl, by omega, by omega, fun j hj hj0 => ?_⟩)
              rcases Nat.lt_or_ge j i with hc | hc
              · have := h4 j hc hj0
                unfold ahd at this h5 ⊢
                omega
              · rw [show j = i by omega]
                unfold ahd
                omega
  refine M.1 [4] 60 _ ?_
  exact loop 256 0 (-1) rfl (Or.inl ⟨rfl, fun j hj => absurd hj (by omega)⟩)
end CK2
