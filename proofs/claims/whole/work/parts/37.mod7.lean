section M7
variable {l : Launch} {D : va_G} {cA : Nat → ClassId} {ad : Nat → Nat} {σ : St} {T : List Int} {ps : PSt} {P : Int → Int}
theorem tbo_l (ps : PSt) (j : Nat) : tbo (tbl ps) (256 + (j : Int)) = (tbl ps).getD j [] := by
  unfold tbo
  rw [if_neg (by omega), show (256 + (j : Int) - 256).toNat = j by omega]
theorem c_X6_fits {j p : Nat} (hr : rng σ) (ht : textM σ T) (hv : vocM σ ps) (hvo : vOk ps) (hj : j < ps.length) (hp : p < T.length) : Ci l yX6_fits wsX6_fits (rh 1) D cA ad LM [.inl 0, .inr (256 + (j : Int)), .inr (p : Int)] σ (fun r τ => τ = σ ∧ r = b01 (fit T.length (FT T) (tbl ps) j p)) := by
  have h01 := ht.1
  have hn := ht.2.1
  have hl := hv.2.1
  have h120 := hvo.2.2.1 j hj
  have hnw := hvo.2.2.2 j hj
  have htok : 0 ≤ 256 + (j : Int) ∧ 256 + (j : Int) < 256 + ps.length := by omega
  have hlen : (tbo (tbl ps) (256 + (j : Int))).length = tl (tbl ps) j := by rw [tbo_l]; rfl
  refine Ci.walkZ fX6_fits pX6_fits [] (by decide) rfl LM_ok tX6_fits_ok fX6_fits_ok pX6_fits_ok klOk_0 (Nat.le_of_ble_eq_true rfl) (fun V M ret => ?_)
  obtain ⟨z, hz⟩ : ∃ z, z = tl (tbl ps) j := ⟨_, rfl⟩
  have loop : ∀ (d i : Nat), i + d = z → p + z ≤ T.length → (∀ x, x < i → FT T (p + x) = ((tbl ps).getD j []).getD x 0) → V (21, [(0, .inl 0), (1, .inr (256 + (j : Int))), (2, .inr (p : Int)), (3, .inr (z : Int)), (4, .inr (i : Int))], [], σ) := by
    intro d
    induction d with
    | zero =>
      intro i hi hpz hw
      refine M.1 [71] 60 _ ?_
      refine ⟨⟨by unfold inR; omega, by unfold inR; omega⟩, fun c1 => ret rfl (Or.inr rfl) ⟨rfl, ?_⟩, fun c1 => absurd c1 (by omega)⟩
      rw [b01_t ⟨by omega, fun x hx => hw x (by omega)⟩]
    | succ d ih =>
      intro i hi hpz hw
      have e1 : ((p : Int) + (i : Int)).toNat = p + i := by omega
      have g1 := (ht.2.2 (p + i) (by omega)).1
      have hlt : i < (tbo (tbl ps) (256 + (j : Int))).length := by rw [hlen]; omega
      have go : FT T (p + i) = ((tbl ps).getD j []).getD i 0 → V (64, [(0, .inl 0), (1, .inr (256 + (j : Int))), (2, .inr (p : Int)), (3, .inr (z : Int)), (4, .inr (i : Int))], [], σ) := by
        intro he
        refine M.1 [21] 60 _ ?_
        refine ih (i + 1) (by omega) hpz (fun x hx => ?_)
        rcases Nat.lt_or_ge x i with hc | hc
        · exact hw x hc
        · rw [show x = i by omega]; exact he
      refine M.1 [40] 60 _ ?_
      refine ⟨⟨by unfold inR; omega, by unfold inR; omega⟩, fun c1 => absurd c1 (by omega), fun c1 => ?_⟩
      refine ⟨⟨by omega, by omega⟩, ?_⟩
      rw [e1, g1]
      refine M.2.1 (vs := [.inr (256 + (j : Int)), .inr (i : Int)]) (rest := [.inr (T.getD (p + i) 0)]) rfl oX6_fits_X6_byteOf rfl rfl (Nat.le_of_ble_eq_true rfl) rfl (c_X6_byteOf hr hv hvo.2.2.1 htok hlt) (fun r τ hin hp2 => ?_)
      obtain ⟨e3, e4⟩ := hp2
      rw [tbo_l] at e4
      subst e3
      subst e4
      refine M.1 [56, 63, 64] 60 _ ?_
      refine ⟨⟨by rw [← g1]; exact hr _ _, hin⟩, fun c2 => ?_, fun c2 => ?_⟩
      · refine ret rfl (Or.inl rfl) ⟨rfl, ?_⟩
        rw [b01_f]
        intro h
        exact c2 (h.2 i (by omega))
      · refine ⟨by unfold inR; omega, fun c3 => go c2, fun c3 => ?_⟩
        refine M.2.1 (vs := [.inr ((p : Int) + (i : Int))]) (rest := []) rfl oX6_fits_X6_beginsWord rfl rfl (Nat.le_of_ble_eq_true rfl) rfl (c_X6_beginsWord hr (by omega) (by omega)) (fun r τ2 _ hp3 => ?_)
        obtain ⟨rfl, rfl⟩ := hp3
        have hno : ¬ ((p : Int) + (i : Int) = 0 ∨ (τ2 1 ((p : Int) + (i : Int)).toNat = 32 ∧ τ2 1 ((p : Int) + (i : Int) - 1).toNat ≠ 32)) := by
          rintro (h | ⟨h1, h2⟩)
          · omega
          · rw [e1, g1] at h1
            rw [show ((p : Int) + (i : Int) - 1).toNat = p + (i - 1) by omega, (ht.2.2 (p + (i - 1)) (by omega)).1] at h2
            have hlt2 : i < ((tbl ps).getD j []).length := by rw [← tbo_l]; exact hlt
            refine hnw i (by omega) hlt2 ⟨?_, ?_⟩
            · rw [← c2]; exact h1
            · rw [← hw (i - 1) (by omega)]; exact h2
        rw [b01_f hno]
        refine M.1 [64] 60 _ ?_
        exact ⟨inR_0, fun _ => go c2, fun c => absurd rfl c⟩
  refine M.1 [2] 60 _ ?_
  refine M.2.1 (vs := [.inr (256 + (j : Int))]) (rest := []) rfl oX6_fits_X6_sizeOf rfl rfl (Nat.le_of_ble_eq_true rfl) rfl (c_X6_sizeOf hr hv htok) (fun r τ hin hp2 => ?_)
  obtain ⟨rfl, rfl⟩ := hp2
  rw [hlen, ← hz]
  refine M.1 [17, 21] 60 _ ?_
  refine ⟨⟨by unfold inR; omega, hr _ _⟩, fun c1 => ?_, fun c1 => ?_⟩
  · exact loop z 0 (by omega) (by omega) (fun x hx => absurd hx (by omega))
  · refine ret rfl (Or.inl rfl) ⟨rfl, ?_⟩
    rw [b01_f]
    intro h
    have := h.1
    omega
/-- place p of the forward table holds the row L -/
def rowAt (σ : St) (p : Nat) (L : List Int) : Prop := σ 11 p = L.length ∧ L.length ≤ p ∧ ∀ i, i < L.length → σ 12 (120 * p + i) = L.getD i 0
theorem getD_cons_app (A : List Int) (x : Int) (r : List Int) : (A ++ x :: r).getD A.length 0 = x := by
  rw [getD_app, if_neg (by omega), Nat.sub_self]
  rfl
theorem c_X6_isBefore {p q : Nat} {t : Int} {Lf Lt : List Int} (hr : rng σ) (hp : p ≤ 120) (hq : q ≤ 120) (hp1 : rowAt σ p Lf) (hq1 : rowAt σ q Lt) (hlen : Lt.length = Lf.length + 1) (hpq : p < q) (ht : inR t) (hf8 : ∀ x ∈ Lf, 0 ≤ x ∧ x < 288) (ht8 : ∀ x ∈ Lt, 0 ≤ x ∧ x < 288) : Ci l yX6_isBefore wsX6_isBefore (rh 0) D cA ad LM [.inl 0, .inr (p : Int), .inr t, .inr (q : Int)] σ (fun r τ => τ = σ ∧ r = b01 (lx (Lf ++ [t]) Lt)) := by
  obtain ⟨f1, f2, f3⟩ := hp1
  obtain ⟨g1, g2, g3⟩ := hq1
  refine Ci.walkZ fX6_isBefore pX6_isBefore [] (by decide) rfl LM_ok tX6_isBefore_ok fX6_isBefore_ok pX6_isBefore_ok klOk_0 (Nat.le_of_ble_eq_true rfl) (fun V M ret => ?_)
  have loop : ∀ (rf rt A : List Int), Lf = A ++ rf → Lt = A ++ rt → V (11, [(0, .inl 0), (1, .inr (p : Int)), (2, .inr t), (3, .inr (q : Int)), (4, .inr (Lf.length : Int)), (5, .inr (A.length : Int))], [], σ) := by
    intro rf
    induction rf with
    | nil =>
      intro rt A hf htt
      rw [List.append_nil] at hf
      subst hf
      cases rt with
      | nil => rw [htt] at hlen; simp at hlen
      | cons y rt =>
        have hrt : rt = [] := by rw [htt] at hlen; simp at hlen; exact hlen
        subst hrt
        have e2 : (120 * (q : Int) + (Lf.length : Int)).toNat = 120 * q + Lf.length := by omega
        have hy : σ 12 (120 * q + Lf.length) = y := by rw [g3 Lf.length (by omega), htt, getD_cons_app]
        refine M.1 [88] 60 _ ?_
        refine ⟨⟨by unfold inR; omega, by unfold inR; omega⟩, fun c1 => ?_, fun c1 => absurd c1 (by omega)⟩
        refine ⟨⟨by omega, by omega⟩, ⟨ht, hr _ _⟩, fun c2 => ?_, fun c2 => ?_⟩
        · rw [e2, hy] at c2
          refine ret rfl (Or.inl rfl) ⟨rfl, ?_⟩
          rw [b01_f]
          rw [htt, lx_appl_iff]
          rintro (h | ⟨-, h⟩)
          · omega
          · exact h
        · rw [e2, hy] at c2
          refine ret rfl (Or.inr rfl) ⟨rfl, ?_⟩
          rw [b01_t]
          rw [htt, lx_appl_iff]
          exact Or.inl (by omega)
    | cons x rf ih =>
      intro rt A hf htt
      have hfl : Lf.length = A.length + (rf.length + 1) := by rw [hf]; simp
      cases rt with
      | nil => rw [htt] at hlen; simp at hlen; omega
      | cons y rt =>
        have hx : σ 12 (120 * p + A.length) = x := by rw [f3 A.length (by omega), hf, getD_cons_app]
        have hy : σ 12 (120 * q + A.length) = y := by rw [g3 A.length (by omega), htt, getD_cons_app]
        have e1 : (120 * (p : Int) + (A.length : Int)).toNat = 120 * p + A.length := by omega
        have e2 : (120 * (q : Int) + (A.length : Int)).toNat = 120 * q + A.length := by omega
        have b1 := hf8 x (by rw [hf]; exact List.mem_append_right _ List.mem_cons_self)
        have b2 := ht8 y (by rw [htt]; exact List.mem_append_right _ List.mem_cons_self)
        refine M.1 [11, 60] 60 _ ?_
        refine ⟨⟨by unfold inR; omega, by unfold inR; omega⟩, fun c1 => absurd c1 (by omega), fun c1 => ?_⟩
        refine ⟨⟨by omega, by omega⟩, ⟨by omega, by omega⟩, ?_⟩
        rw [e1, e2, hx, hy]
        refine ⟨by unfold inR; omega, fun c2 => ?_, fun c2 => ?_⟩
        · have e : x = y := by omega
          subst e
          refine M.2.2.2.2.2.1 _ (lpick_mem [0, 1, 2, 3, 4, 5]) ?_
          have := ih rt (A ++ [x]) (by rw [hf]; simp) (by rw [htt]; simp)
          rw [List.length_append] at this
          exact this
        · refine ⟨by unfold inR; omega, fun c3 => ?_, fun c3 => ?_⟩
          · refine ret rfl (Or.inl rfl) ⟨rfl, ?_⟩
            rw [b01_f]
            rw [hf, htt, List.append_assoc, lx_appl_iff]
            rintro (h | ⟨h, -⟩) <;> omega
          · refine ret rfl (Or.inr rfl) ⟨rfl, ?_⟩
            rw [b01_t]
            rw [hf, htt, List.append_assoc, lx_appl_iff]
            exact Or.inl (by omega)
  refine M.1 [11] 60 _ ?_
  refine ⟨⟨by omega, by omega⟩, ?_⟩
  rw [Int.toNat_natCast, f1]
  exact loop Lf Lt [] rfl rfl
end M7
