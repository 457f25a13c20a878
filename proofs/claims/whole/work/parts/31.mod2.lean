def plIn (T : List Int) (R : Rw) : Prop := ∀ q ∈ R, 0 ≤ q.2 ∧ q.2 < T.length
theorem mrg_pl {Q : Int → Prop} (w : Int → Int) (a b t : Int) : ∀ (k : Nat) (R : Rw), R.length ≤ k → (∀ q ∈ R, Q q.2) → ∀ q ∈ mrg w a b t R, Q q.2
  | _, [], _, h => h
  | _, [q], _, h => h
  | 0, q :: q2 :: r, hk, _ => by simp at hk
  | k + 1, q :: q2 :: r, hk, h => by
    simp only [List.length_cons] at hk
    by_cases c : q.1 = a ∧ q2.1 = b ∧ w q2.2 = 0
    · rw [mrg_y c]
      intro z hz
      rcases List.mem_cons.mp hz with rfl | hz
      · exact h q List.mem_cons_self
      · exact mrg_pl w a b t k r (by omega) (fun z hz => h z (List.mem_cons_of_mem _ (List.mem_cons_of_mem _ hz))) z hz
    · rw [mrg_n c]
      intro z hz
      rcases List.mem_cons.mp hz with rfl | hz
      · exact h z List.mem_cons_self
      · exact mrg_pl w a b t k (q2 :: r) (by simp only [List.length_cons]; omega) (fun z hz => h z (List.mem_cons_of_mem _ hz)) z hz
theorem spl_pl (f : Nat → Int) : ∀ (n : Nat), ∀ q ∈ spl f n, 0 ≤ q.2 ∧ q.2 < n
  | 0, q, h => by simp [spl] at h
  | n + 1, q, h => by
    unfold spl at h
    rcases List.mem_append.mp h with h | h
    · have := spl_pl f n q h
      omega
    · rw [List.mem_singleton] at h
      subst h
      simp
      omega
theorem spT_pl (T : List Int) : plIn T (spT T) := fun q hq => spl_pl (FT T) T.length q hq
section M2
variable {l : Launch} {D : va_G} {cA : Nat → ClassId} {ad : Nat → Nat} {σ : St} {T : List Int} {ps : PSt} {P : Int → Int} {R : Rw}
theorem c_X6_isPair {i : Nat} {a b : Int} (hr : rng σ) (ht : textM σ T) (hN : (i : Int) < σ 0 10) (hN2 : σ 0 10 ≤ 120) (hpl : (i : Int) + 1 < σ 0 10 → 0 ≤ σ 9 (i + 1) ∧ σ 9 (i + 1) < T.length) (ha : inR a) (hb : inR b) : Ci l yX6_isPair wsX6_isPair (rh 1) D cA ad LM [.inl 0, .inr (i : Int), .inr a, .inr b] σ (fun r τ => τ = σ ∧ r = b01 ((i : Int) + 1 < σ 0 10 ∧ σ 8 i = a ∧ σ 8 (i + 1) = b ∧ wT T (σ 9 (i + 1)) = 0)) := by
  have hn := ht.2.1
  refine Ci.walkZ fX6_isPair pX6_isPair [] (by decide) rfl LM_ok tX6_isPair_ok fX6_isPair_ok pX6_isPair_ok klOk_0 (Nat.le_of_ble_eq_true rfl) (fun V M ret => ?_)
  have e1 : ((i : Int) + 1).toNat = i + 1 := by omega
  refine M.1 [41, 52] 60 _ ?_
  refine ⟨⟨by unfold inR; omega, hr _ _⟩, fun c1 => ?_, fun c1 => ?_⟩
  · refine ret rfl (Or.inl rfl) ⟨rfl, ?_⟩
    rw [b01_f]
    omega
  · refine ⟨⟨by omega, by omega⟩, ⟨hr _ _, ha⟩, fun c2 => ?_, fun c2 => ?_⟩
    · rw [Int.toNat_natCast] at c2
      exact ret rfl (Or.inl rfl) ⟨rfl, by rw [b01_f (fun h => c2 h.2.1)]⟩
    · rw [Int.toNat_natCast] at c2
      refine ⟨⟨by omega, by omega⟩, ⟨hr _ _, hb⟩, fun c3 => ?_, fun c3 => ?_⟩
      · rw [e1] at c3
        exact ret rfl (Or.inl rfl) ⟨rfl, by rw [b01_f (fun h => c3 h.2.2.1)]⟩
      · rw [e1] at c3
        refine ⟨⟨by omega, by omega⟩, ?_⟩
        rw [e1]
        have hp2 := hpl (by omega)
        refine M.2.1 (vs := [.inr (σ 9 (i + 1))]) (rest := []) rfl oX6_isPair_X6_beginsWord rfl rfl (Nat.le_of_ble_eq_true rfl) rfl (c_X6_beginsWord hr hp2.1 (by omega)) (fun r τ _ hp' => ?_)
        obtain ⟨rfl, rfl⟩ := hp'
        rw [bw_M ht hp2.1 hp2.2]
        refine M.1 [52] 60 _ ?_
        refine ⟨b01_r _, fun c4 => ?_, fun c4 => ?_⟩
        · exact ret rfl (Or.inl rfl) ⟨rfl, by rw [b01_f (fun h => c4 h.2.2.2)]⟩
        · exact ret rfl (Or.inr rfl) ⟨rfl, by rw [b01_t ⟨by omega, c2, c3, c4⟩]⟩
theorem c_X6_join {a b t : Int} (hr : rng σ) (ht : textM σ T) (hR : rowM σ R) (hpl : plIn T R) (ha : inR a) (hb : inR b) (htt : inR t) : Cv l yX6_join wsX6_join (rh 2) D cA ad LM [.inl 0, .inr a, .inr b, .inr t] σ (fun τ => rng τ ∧ ob σ τ ∧ τ 0 0 = σ 0 0 ∧ eqx [0, 8, 9] σ τ ∧ rowM τ (mrg (wT T) a b t R)) := by
  obtain ⟨hN, hN2, hh0⟩ := hR
  have hn := ht.2.1
  refine Cv.walk fX6_join pX6_join [] (by decide) rfl LM_ok tX6_join_ok fX6_join_ok pX6_join_ok klOk_0 (Nat.le_of_ble_eq_true rfl) (fun V M ret => ?_)
  have loop : ∀ (d : Nat) (o s : Rw) (i k : Nat) (τ : St), s.length ≤ d → i + s.length = R.length → o.length = k → k ≤ i → rng τ → eqx [8, 9] σ τ → hold (τ 8) (τ 9) 0 o → hold (τ 8) (τ 9) i s → (∀ q ∈ s, 0 ≤ q.2 ∧ q.2 < T.length) → o ++ mrg (wT T) a b t s = mrg (wT T) a b t R → V (6, [(0, .inl 0), (1, .inr a), (2, .inr b), (3, .inr t), (4, .inr (k : Int)), (5, .inr (i : Int))], [], τ) := by
    intro d
    induction d with
    | zero =>
      intro o s i k τ hd hi ho hki hrt hx hho hhs hps hm
      have e : s = [] := List.length_eq_zero_iff.mp (by omega)
      subst e
      have e0 : τ 0 = σ 0 := hx 0 (by decide)
      refine M.1 [93] 60 _ ?_
      refine ⟨⟨by unfold inR; omega, hrt _ _⟩, fun c1 => ?_, fun c1 => absurd c1 (by rw [e0]; simp at hi; omega)⟩
      simp only [mrg, List.append_nil] at hm
      refine ret rfl ⟨rng_stu hrt (by unfold inR; omega) _ _, ⟨by simp [stu, va_up, e0], by simp [stu, va_up, e0]⟩, by simp [stu, va_up, e0], eqx_stu (eqx_mono hx (by decide)) (by decide) _ _, ?_⟩
      refine ⟨by rw [stu_s, ← hm, ho], by rw [← hm]; omega, ?_⟩
      rw [← hm, stu_j _ _ _ (by decide), stu_j _ _ _ (by decide)]
      exact hho
    | succ d ih =>
      intro o s i k τ hd hi ho hki hrt hx hho hhs hps hm
      have e0 : τ 0 = σ 0 := hx 0 (by decide)
      have ht1 : textM τ T := textM_x ht (by rw [e0]) (hx 1 (by decide))
      cases s with
      | nil => exact ih o [] i k τ (by simp) hi ho hki hrt hx hho hhs hps hm
      | cons q s =>
      simp only [List.length_cons] at hi hd
      have hhs0 := hhs
      obtain ⟨hq1, hq2, hhs'⟩ := hhs
      have fin : ∀ (m x : Int) (s2 : Rw) (i2 : Nat), ((m = 1 ∧ x = t ∧ i2 = i + 2) ∨ (m = 0 ∧ x = q.1 ∧ i2 = i + 1)) → hold (τ 8) (τ 9) i2 s2 → (∀ z ∈ s2, 0 ≤ z.2 ∧ z.2 < T.length) → i2 + s2.length = R.length → (o ++ [(x, q.2)]) ++ mrg (wT T) a b t s2 = mrg (wT T) a b t R → V (23, [(0, .inl 0), (1, .inr a), (2, .inr b), (3, .inr t), (4, .inr (k : Int)), (5, .inr (i : Int))], [.inr m], τ) := by
        intro m x s2 i2 hmx hh2 hp2 hl2 hm2
        have hxr : inR x := by
          rcases hmx with h | h
          · rw [h.2.1]; exact htt
          · rw [h.2.1, ← hq1]; exact hrt _ _
        have next : V (6, [(0, .inl 0), (1, .inr a), (2, .inr b), (3, .inr t), (4, .inr ((k + 1 : Nat) : Int)), (5, .inr (i2 : Int))], [], stu (stu τ 8 k x) 9 k (τ 9 i)) := by
          refine ih (o ++ [(x, q.2)]) s2 i2 (k + 1) _ (by omega) hl2 (by simp [ho]) (by omega) (rng_stu (rng_stu hrt hxr _ _) (hrt _ _) _ _) (eqx_stu (eqx_stu hx (by decide) _ _) (by decide) _ _) ?_ ?_ hp2 hm2
          · rw [hold_app]
            refine ⟨hold_congr (fun j h1 h2 => ?_) hho, ?_, ?_, trivial⟩
            · have e : j ≠ k := by omega
              simp [stu, va_up, e]
            · simp [stu, va_up, ho]
            · simp [stu, va_up, ho, hq2]
          · refine hold_congr (fun j h1 h2 => ?_) hh2
            have e : j ≠ k := by omega
            simp [stu, va_up, e]
        rcases hmx with ⟨rfl, rfl, rfl⟩ | ⟨rfl, rfl, rfl⟩
        · refine M.1 [6] 80 _ ?_
          refine ⟨⟨by omega, by omega⟩, by constructor <;> decide, fun c => absurd c (by decide), fun _ => ?_⟩
          refine ⟨⟨by omega, by omega⟩, ⟨by omega, by omega⟩, by constructor <;> decide, fun c => absurd c (by decide), fun _ => ?_⟩
          exact M.2.2.2.2.2.1 _ (lpick_mem [0, 1, 2, 3, 4, 5]) next
        · refine M.1 [6] 80 _ ?_
          refine ⟨⟨by omega, by omega⟩, by constructor <;> decide, fun _ => ?_, fun c => absurd rfl c⟩
          refine ⟨⟨by omega, by omega⟩, ⟨by omega, by omega⟩, ⟨by omega, by omega⟩, by constructor <;> decide, fun _ => ?_, fun c => absurd rfl c⟩
          rw [← hq1] at next
          exact M.2.2.2.2.2.1 _ (lpick_mem [0, 1, 2, 3, 4, 5]) next
      refine M.1 [20] 60 _ ?_
      refine ⟨⟨by unfold inR; omega, hrt _ _⟩, fun c1 => absurd c1 (by rw [e0]; omega), fun c1 => ?_⟩
      have hp9 : (i : Int) + 1 < τ 0 10 → 0 ≤ τ 9 (i + 1) ∧ τ 9 (i + 1) < T.length := by
        intro h
        rw [e0, hN] at h
        cases s with
        | nil => simp at hi; omega
        | cons q2 s2 =>
          rw [hhs'.2.1]
          exact hps q2 (List.mem_cons_of_mem _ List.mem_cons_self)
      refine M.2.1 (vs := [.inr (i : Int), .inr a, .inr b]) (rest := []) rfl oX6_join_X6_isPair rfl rfl (Nat.le_of_ble_eq_true rfl) rfl (c_X6_isPair hrt ht1 (by rw [e0]; omega) (by rw [e0]; omega) hp9 ha hb) (fun r υ _ hp => ?_)
      obtain ⟨rfl, rfl⟩ := hp
      rw [e0, hN, hq1]
      by_cases hc : (i : Int) + 1 < R.length ∧ q.1 = a ∧ υ 8 (i + 1) = b ∧ wT T (υ 9 (i + 1)) = 0
      · rw [b01_t hc]
        obtain ⟨h1, h2, h3, h4⟩ := hc
        cases s with
        | nil => simp at hi; omega
        | cons q2 s2 =>
          simp only [List.length_cons] at hi
          obtain ⟨hz1, hz2, hz3⟩ := hhs'
          refine fin 1 t s2 (i + 2) (Or.inl ⟨rfl, rfl, rfl⟩) hz3 (fun z hz => hps z (List.mem_cons_of_mem _ (List.mem_cons_of_mem _ hz))) (by omega) ?_
          rw [← hm, mrg_y ⟨h2, by rw [← hz1]; exact h3, by rw [← hz2]; exact h4⟩]
          simp
      · rw [b01_f hc]
        refine fin 0 q.1 s (i + 1) (Or.inr ⟨rfl, rfl, rfl⟩) hhs' (fun z hz => hps z (List.mem_cons_of_mem _ hz)) (by omega) ?_
        rw [← hm]
        cases s with
        | nil => simp [mrg]
        | cons q2 s2 =>
          simp only [List.length_cons] at hi
          rw [mrg_n (fun h => hc ⟨by omega, h.1, by rw [hhs'.1]; exact h.2.1, by rw [hhs'.2.1]; exact h.2.2⟩)]
          simp
  refine M.1 [6] 60 _ ?_
  exact loop R.length [] R 0 0 σ (Nat.le_refl _) (by simp) rfl (Nat.le_refl _) hr eqx_rfl trivial hh0 hpl rfl
theorem c_X6_tell (h : RM σ T ps P) : Cv l yX6_tell wsX6_tell (rh 3) D cA ad LM [.inl 0] σ (fun τ => RM τ T ps P ∧ τ 0 0 = σ 0 0 ∧ rowM τ (told T ps)) := by
  have h' := h
  obtain ⟨hr, ht, hv, hp⟩ := h
  have hl2 := hv.2.1
  refine Cv.walk fX6_tell pX6_tell [] (by decide) rfl LM_ok tX6_tell_ok fX6_tell_ok pX6_tell_ok klOk_0 (Nat.le_of_ble_eq_true rfl) (fun V M ret => ?_)
  have loop : ∀ (qs : PSt) (j : Nat) (R : Rw) (τ : St), (∀ i q, qs[i]? = some q → ps[j + i]? = some q) → j + qs.length = ps.length → rng τ → ob σ τ → τ 0 0 = σ 0 0 → eqx [0, 8, 9] σ τ → rowM τ R → plIn T R → tellR (wT T) qs j R = told T ps → V (6, [(0, .inl 0), (1, .inr (j : Int))], [], τ) := by
    intro qs
    induction qs with
    | nil =>
      intro j R τ hq hj hrt ho h00 hx hR hpl hm
      have ho2 := ho.2
      simp at hj
      refine M.1 [41] 60 _ ?_
      refine ⟨⟨by unfold inR; omega, hrt _ _⟩, fun c1 => ?_, fun c1 => absurd c1 (by rw [ho2, hv.1]; omega)⟩
      refine ret rfl ⟨RM_x h' hrt ho (eqx_mono hx (by decide)), h00, ?_⟩
      rw [← hm]
      exact hR
    | cons q qs ih =>
      intro j R τ hq hj hrt ho h00 hx hR hpl hm
      have ho2 := ho.2
      have hRM := RM_x h' hrt ho (eqx_mono hx (by decide))
      simp only [List.length_cons] at hj
      have hq0 : ps[j]? = some q := by simpa using hq 0 q rfl
      have e := hRM.2.2.1.2.2.1 j q hq0
      refine M.1 [32] 60 _ ?_
      refine ⟨⟨by unfold inR; omega, hrt _ _⟩, fun c1 => absurd c1 (by rw [ho2, hv.1]; omega), fun c1 => ?_⟩
      refine ⟨⟨by omega, by omega⟩, ⟨by omega, by omega⟩, ?_⟩
      rw [Int.toNat_natCast, e.1, e.2.1]
      refine M.2.2.1 (vs := [.inr q.1, .inr q.2.1, .inr (256 + (j : Int))]) (rest := []) rfl oX6_tell_X6_join rfl rfl (Nat.le_of_ble_eq_true rfl) rfl (c_X6_join hrt hRM.2.1 hR hpl (by rw [← e.1]; exact hrt _ _) (by rw [← e.2.1]; exact hrt _ _) (by unfold inR; omega)) (fun υ hp2 => ?_)
      obtain ⟨p1, p2, p3, p4, p5⟩ := hp2
      refine M.1 [6] 60 _ ?_
      refine ih (j + 1) _ υ (fun i z hz => ?_) (by omega) p1 ⟨p2.1.trans ho.1, p2.2.trans ho.2⟩ (p3.trans h00) (eqx_trans hx p4) p5 (mrg_pl (Q := fun x => 0 ≤ x ∧ x < (T.length : Int)) _ _ _ _ R.length R (Nat.le_refl _) hpl) hm
      have := hq (i + 1) z (by simpa using hz)
      rwa [show j + (i + 1) = j + 1 + i by omega] at this
  refine M.1 [1] 60 _ ?_
  refine M.2.2.1 (vs := []) (rest := []) rfl oX6_tell_X6_layBytes rfl rfl (Nat.le_of_ble_eq_true rfl) rfl (c_X6_layBytes hr ht) (fun υ hp2 => ?_)
  obtain ⟨p1, p2, p3, p4, p5⟩ := hp2
  refine M.1 [6] 60 _ ?_
  exact loop ps 0 (spT T) υ (fun i q hq => by rw [Nat.zero_add]; exact hq) (by omega) p1 p2 p3 p4 p5 (spT_pl T) rfl
end M2
