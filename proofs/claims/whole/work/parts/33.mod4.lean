section M4
variable {l : Launch} {D : va_G} {cA : Nat → ClassId} {ad : Nat → Nat} {σ : St} {T : List Int} {ps : PSt} {P : Int → Int} {R : Rw}
theorem vocM_y {τ : St} (h : vocM σ ps) (h120 : ∀ j, j < ps.length → tl (tbl ps) j ≤ 120) (h03 : τ 0 3 = σ 0 3) (hj : ∀ j, j < ps.length → τ 2 j = σ 2 j ∧ τ 3 j = σ 3 j ∧ τ 4 j = σ 4 j ∧ τ 5 j = σ 5 j) (h6 : ∀ x, x < 120 * ps.length → τ 6 x = σ 6 x) : vocM τ ps := by
  obtain ⟨a1, a2, a3, a4⟩ := h
  refine ⟨by rw [h03]; exact a1, a2, fun t q hq => ?_, fun j hjl => ?_⟩
  · have htl := (List.getElem?_eq_some_iff.mp hq).1
    have e := hj t htl
    rw [e.1, e.2.1, e.2.2.1]
    exact a3 t q hq
  · have e := hj j hjl
    have b := h120 j hjl
    rw [e.2.2.2]
    refine ⟨(a4 j hjl).1, fun i hi => ?_⟩
    rw [h6 _ (by omega)]
    exact (a4 j hjl).2 i hi
theorem c_X6_keep {a b c : Int} {k : Nat} (hk : ps.length = k) (hr : rng σ) (hv : vocM σ ps) (h120 : ∀ j, j < k → tl (tbl ps) j ≤ 120) (hl : k < 32) (ha : 0 ≤ a ∧ a < 256 + k) (hb : 0 ≤ b ∧ b < 256 + k) (hc : inR c) (hz : (tbo (tbl ps) a).length + (tbo (tbl ps) b).length ≤ 120) : Cv l yX6_keep wsX6_keep (rh 1) D cA ad LM [.inl 0, .inr a, .inr b, .inr c] σ (fun τ => rng τ ∧ τ 0 0 = σ 0 0 ∧ τ 0 1 = σ 0 1 ∧ τ 0 10 = σ 0 10 ∧ eqx [0, 2, 3, 4, 5, 6, 7] σ τ ∧ vocM τ (ps ++ [(a, b, c)]) ∧ τ 7 = va_up (σ 7) (256 + k) (((tbo (tbl ps) a).length + (tbo (tbl ps) b).length : Nat) : Int)) := by
  have h03 : σ 0 3 = (k : Int) := by rw [hv.1, hk]
  have hlen : (tbl ps).length = k := by rw [tbl_len ps, hk]
  refine Cv.walk fX6_keep pX6_keep [] (by decide) rfl LM_ok tX6_keep_ok fX6_keep_ok pX6_keep_ok klOk_0 (Nat.le_of_ble_eq_true rfl) (fun V M ret => ?_)
  obtain ⟨la, hla⟩ : ∃ x, x = (tbo (tbl ps) a).length := ⟨_, rfl⟩
  obtain ⟨lb, hlb⟩ : ∃ x, x = (tbo (tbl ps) b).length := ⟨_, rfl⟩
  rw [← hla, ← hlb] at hz ret
  -- the bytes of the new token
  have loop : ∀ (d i : Nat) (τ : St), i + d = la + lb → rng τ → τ 0 = σ 0 → eqx [2, 3, 4, 5, 6] σ τ → τ 2 = va_up (σ 2) k a → τ 3 = va_up (σ 3) k b → τ 4 = va_up (σ 4) k c → τ 5 = va_up (σ 5) k ((la + lb : Nat) : Int) → (∀ x, x < 120 * k → τ 6 x = σ 6 x) → (∀ j, j < i → τ 6 (120 * k + j) = (tbo (tbl ps) a ++ tbo (tbl ps) b).getD j 0) → V (55, [(0, .inl 0), (1, .inr a), (2, .inr b), (3, .inr c), (4, .inr (k : Int)), (5, .inr (la : Int)), (6, .inr (i : Int))], [], τ) := by
    intro d
    induction d with
    | zero =>
      intro i τ hi hrt e0 hx e2 e3 e4 e5 h6 hw
      have e5k : τ 5 k = ((la + lb : Nat) : Int) := by rw [e5, va_up_self]
      have e7 : τ 7 = σ 7 := hx 7 (by decide)
      refine M.1 [141] 80 _ ?_
      refine ⟨⟨by omega, by omega⟩, ?_⟩
      rw [Int.toNat_natCast, e5k]
      refine ⟨⟨by unfold inR; omega, by unfold inR; omega⟩, fun c1 => ?_, fun c1 => absurd c1 (by omega)⟩
      refine ⟨⟨by omega, by omega⟩, ⟨by omega, by omega⟩, ?_⟩
      rw [Int.toNat_natCast, e5k, show (256 + (k : Int)).toNat = 256 + k by omega]
      have e03 : stu τ 7 (256 + k) ((la + lb : Nat) : Int) 0 3 = (k : Int) := by rw [stu_j _ _ _ (by decide), e0, h03]
      refine ret rfl ⟨rng_stu (rng_stu hrt (by unfold inR; omega) _ _) (by rw [e03]; unfold inR; omega) _ _, by simp [stu, va_up, e0], by simp [stu, va_up, e0], by simp [stu, va_up, e0], eqx_stu (eqx_stu (eqx_mono hx (by decide)) (by decide) _ _) (by decide) _ _, ?_, ?_⟩
      · refine ⟨by rw [stu_s, e03]; simp [hk], by simp; omega, ?_, ?_⟩
        · intro t q hq
          have g2 : stu (stu τ 7 (256 + k) ((la + lb : Nat) : Int)) 0 3 (stu τ 7 (256 + k) ((la + lb : Nat) : Int) 0 3 + 1) 2 = va_up (σ 2) k a := by rw [stu_j _ _ _ (by decide), stu_j _ _ _ (by decide), e2]
          have g3 : stu (stu τ 7 (256 + k) ((la + lb : Nat) : Int)) 0 3 (stu τ 7 (256 + k) ((la + lb : Nat) : Int) 0 3 + 1) 3 = va_up (σ 3) k b := by rw [stu_j _ _ _ (by decide), stu_j _ _ _ (by decide), e3]
          have g4 : stu (stu τ 7 (256 + k) ((la + lb : Nat) : Int)) 0 3 (stu τ 7 (256 + k) ((la + lb : Nat) : Int) 0 3 + 1) 4 = va_up (σ 4) k c := by rw [stu_j _ _ _ (by decide), stu_j _ _ _ (by decide), e4]
          rw [g2, g3, g4]
          rw [List.getElem?_append] at hq
          split at hq
          · rename_i htl
            have := hv.2.2.1 t q hq
            rw [va_up_ne _ _ (by omega), va_up_ne _ _ (by omega), va_up_ne _ _ (by omega)]
            exact this
          · rename_i htl
            have e : t = ps.length := by
              rcases Nat.lt_or_ge (t - ps.length) 1 with h | h
              · omega
              · rw [List.getElem?_eq_none (by simp; omega)] at hq
                cases hq
            rw [e] at hq ⊢
            simp at hq
            subst hq
            rw [hk, va_up_self, va_up_self, va_up_self]
            exact ⟨rfl, rfl, rfl⟩
        · intro j hj
          rw [List.length_append, List.length_singleton] at hj
          rw [stu_j _ _ _ (by decide), stu_j _ _ _ (by decide), stu_j _ _ _ (by decide), stu_j _ _ _ (by decide), e5, tbl_snoc]
          unfold tl
          rcases Nat.lt_or_ge j (tbl ps).length with hc2 | hc2
          · rw [tl_app hc2, va_up_ne _ _ (by omega)]
            have b := h120 j (by omega)
            refine ⟨(hv.2.2.2 j (by omega)).1, fun i hi => ?_⟩
            have hi : i < tl (tbl ps) j := hi
            rw [h6 _ (by omega)]
            exact (hv.2.2.2 j (by omega)).2 i hi
          · have e : j = (tbl ps).length := by omega
            rw [e, tl_new]
            rw [hlen, va_up_self]
            refine ⟨by rw [List.length_append, ← hla, ← hlb], fun i hi => hw i ?_⟩
            rw [List.length_append, ← hla, ← hlb] at hi
            omega
      · rw [stu_j _ _ _ (by decide), ← e7]
        simp [stu, va_up]
    | succ d ih =>
      intro i τ hi hrt e0 hx e2 e3 e4 e5 h6 hw
      have e5k : τ 5 k = ((la + lb : Nat) : Int) := by rw [e5, va_up_self]
      have hvt : vocM τ ps := vocM_y hv (by rw [hk]; exact h120) (by rw [e0]) (fun j hj => by rw [e2, e3, e4, e5, va_up_ne _ _ (by omega), va_up_ne _ _ (by omega), va_up_ne _ _ (by omega), va_up_ne _ _ (by omega)]; exact ⟨rfl, rfl, rfl, rfl⟩) (by rw [hk]; exact h6)
      have next : ∀ x : Int, inR x → x = (tbo (tbl ps) a ++ tbo (tbl ps) b).getD i 0 → V (106, [(0, .inl 0), (1, .inr a), (2, .inr b), (3, .inr c), (4, .inr (k : Int)), (5, .inr (la : Int)), (6, .inr (i : Int))], [.inr x, .inr (120 * (k : Int) + (i : Int)), .inl 6], τ) := by
        intro x hxr hxe
        refine M.1 [55] 80 _ ?_
        refine ⟨⟨by omega, by omega⟩, ?_⟩
        rw [show (120 * (k : Int) + (i : Int)).toNat = 120 * k + i by omega]
        refine ih (i + 1) _ (by omega) (rng_stu hrt hxr _ _) (by rw [stu_j _ _ _ (by decide), e0]) (eqx_stu hx (by decide) _ _) (by rw [stu_j _ _ _ (by decide), e2]) (by rw [stu_j _ _ _ (by decide), e3]) (by rw [stu_j _ _ _ (by decide), e4]) (by rw [stu_j _ _ _ (by decide), e5]) (fun y hy => ?_) (fun j hj => ?_)
        · rw [stu_i _ _ _ (by omega)]
          exact h6 y hy
        · by_cases e : j = i
          · rw [e, stu_s]
            exact hxe
          · rw [stu_i _ _ _ (by omega)]
            exact hw j (by omega)
      refine M.1 [90, 103] 80 _ ?_
      refine ⟨⟨by omega, by omega⟩, ?_⟩
      rw [Int.toNat_natCast, e5k]
      refine ⟨⟨by unfold inR; omega, by unfold inR; omega⟩, fun c1 => absurd c1 (by omega), fun c1 => ?_⟩
      refine ⟨⟨by unfold inR; omega, by unfold inR; omega⟩, fun c2 => ?_, fun c2 => ?_⟩
      · have ei : (i : Int) - (la : Int) = ((i - la : Nat) : Int) := by omega
        refine M.2.1 (vs := [.inr b, .inr ((i : Int) - (la : Int))]) (rest := [.inr (120 * (k : Int) + (i : Int)), .inl 6]) rfl oX6_keep_X6_byteOf rfl rfl (Nat.le_of_ble_eq_true rfl) rfl (by rw [ei]; exact c_X6_byteOf (i := i - la) hrt hvt (by rw [hk]; exact h120) (by rw [hk]; exact hb) (by omega)) (fun r τ2 hin hp2 => ?_)
        obtain ⟨rfl, rfl⟩ := hp2
        exact next _ hin (by rw [getD_app, ← hla, if_neg (by omega)])
      · refine M.2.1 (vs := [.inr a, .inr (i : Int)]) (rest := [.inr (120 * (k : Int) + (i : Int)), .inl 6]) rfl oX6_keep_X6_byteOf rfl rfl (Nat.le_of_ble_eq_true rfl) rfl (c_X6_byteOf (i := i) hrt hvt (by rw [hk]; exact h120) (by rw [hk]; exact ha) (by omega)) (fun r τ2 hin hp2 => ?_)
        obtain ⟨rfl, rfl⟩ := hp2
        refine M.1 [106] 80 _ ?_
        exact next _ hin (by rw [getD_app, ← hla, if_pos (by omega)])
  refine M.1 [32] 80 _ ?_
  refine ⟨⟨by rw [h03]; omega, by rw [h03]; omega⟩, ⟨by rw [h03]; omega, by rw [h03]; omega⟩, ⟨by rw [h03]; omega, by rw [h03]; omega⟩, ?_⟩
  rw [h03, Int.toNat_natCast]
  obtain ⟨σ3, hs3⟩ : ∃ z, z = stu (stu (stu σ 2 k a) 3 k b) 4 k c := ⟨_, rfl⟩
  rw [← hs3]
  have r3 : rng σ3 := by rw [hs3]; exact rng_stu (rng_stu (rng_stu hr (by unfold inR; omega) _ _) (by unfold inR; omega) _ _) hc _ _
  have q0 : σ3 0 = σ 0 := by rw [hs3]; simp [stu, va_up]
  have q2 : σ3 2 = va_up (σ 2) k a := by rw [hs3]; simp [stu, va_up]
  have q3 : σ3 3 = va_up (σ 3) k b := by rw [hs3]; simp [stu, va_up]
  have q4 : σ3 4 = va_up (σ 4) k c := by rw [hs3]; simp [stu, va_up]
  have q5 : σ3 5 = σ 5 := by rw [hs3]; simp [stu, va_up]
  have q6 : σ3 6 = σ 6 := by rw [hs3]; simp [stu, va_up]
  have qx : eqx [2, 3, 4, 5, 6] σ σ3 := by rw [hs3]; exact eqx_stu (eqx_stu (eqx_stu eqx_rfl (by decide) _ _) (by decide) _ _) (by decide) _ _
  have hv3 : vocM σ3 ps := vocM_y hv (by rw [hk]; exact h120) (by rw [q0]) (fun j hj => by rw [q2, q3, q4, q5, va_up_ne _ _ (by omega), va_up_ne _ _ (by omega), va_up_ne _ _ (by omega)]; exact ⟨rfl, rfl, rfl, rfl⟩) (fun x _ => by rw [q6])
  refine M.2.1 (vs := [.inr a]) (rest := []) rfl oX6_keep_X6_sizeOf rfl rfl (Nat.le_of_ble_eq_true rfl) rfl (c_X6_sizeOf r3 hv3 (by rw [hk]; exact ha)) (fun r τ _ hp2 => ?_)
  obtain ⟨rfl, rfl⟩ := hp2
  rw [← hla]
  refine M.1 [47] 80 _ ?_
  refine M.2.1 (vs := [.inr b]) (rest := [.inr (la : Int), .inr (k : Int), .inl 5]) rfl oX6_keep_X6_sizeOf rfl rfl (Nat.le_of_ble_eq_true rfl) rfl (c_X6_sizeOf r3 hv3 (by rw [hk]; exact hb)) (fun r τ _ hp2 => ?_)
  obtain ⟨rfl, rfl⟩ := hp2
  rw [← hlb]
  refine M.1 [55] 80 _ ?_
  refine ⟨⟨by omega, by omega⟩, ?_⟩
  rw [Int.toNat_natCast]
  refine loop (la + lb) 0 _ (by omega) (rng_stu r3 (by unfold inR; omega) _ _) (by rw [stu_j _ _ _ (by decide), q0]) (eqx_stu qx (by decide) _ _) (by rw [stu_j _ _ _ (by decide), q2]) (by rw [stu_j _ _ _ (by decide), q3]) (by rw [stu_j _ _ _ (by decide), q4]) ?_ (fun x hx => by rw [stu_j _ _ _ (by decide), q6]) (fun j hj => absurd hj (by omega))
  rw [← q5]
  simp [stu, va_up]
end M4
