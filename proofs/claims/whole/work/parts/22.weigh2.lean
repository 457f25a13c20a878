section WG2
variable {l : Launch} {D : va_G} {cA : Nat → ClassId} {ad : Nat → Nat} {σ : St} {T : List Int} {ps : List (Int × Int × Int)} {P : Int → Int}
theorem kC_of (hr : rng σ) (ht : textC σ T) (hv : vocC σ ps) : kC σ := by
  refine ⟨hr, ?_⟩
  rw [ht.1, hv.1]
  have := ht.2.1
  have := hv.2.1
  omega
theorem textC_x {τ : St} (ht : textC σ T) (h1 : τ 1 = σ 1) (h6 : τ 6 = σ 6) : textC τ T := by
  unfold textC
  rw [h1, h6]
  exact ht
theorem vocC_x {τ : St} (hv : vocC σ ps) (h2 : τ 2 = σ 2) (h7 : τ 7 = σ 7) (h8 : τ 8 = σ 8) (h9 : τ 9 = σ 9) (h10 : τ 10 = σ 10) (h12 : τ 12 = σ 12) (h13 : τ 13 = σ 13) : vocC τ ps := by
  unfold vocC
  rw [h2, h7, h8, h9, h10, h12, h13]
  exact hv
theorem ptsC_x {τ : St} {k : Nat} (hv : ptsC σ k P) (h : τ 11 = σ 11) : ptsC τ k P := by
  unfold ptsC
  rw [h]
  exact hv
theorem c_X0_weigh (hr : rng σ) (ht : textC σ T) (hv : vocC σ ps) (hP : ptsC σ ps.length P) (hPr : ptsR ps.length P) (hb : bsOk (tbl ps)) : Cv l yX0_weigh wsX0_weigh (rh 3) D cA ad LC [.inl 5, .inl 1, .inl 2] σ (fun τ => rng τ ∧ eqx [20, 21, 22, 23] σ τ ∧ dpC τ T.length (fun i => T.getD i 0) (tbl ps) P 0) := by
  have hF : ∀ i, i < T.length → 0 ≤ (fun i => T.getD i 0) i ∧ (fun i => T.getD i 0) i < 256 := fun i hi => (ht.2.2 i hi).2
  have hlen := tbl_len ps
  have hn := ht.2.1
  have hk32 := hv.2.1
  have hPr' : ptsR (tbl ps).length P := by rw [hlen]; exact hPr
  refine Cv.walk fX0_weigh pX0_weigh [] (by decide) rfl LC_ok tX0_weigh_ok fX0_weigh_ok pX0_weigh_ok klOk_0 (Nat.le_of_ble_eq_true rfl) (fun V M ret => ?_)
  generalize hFe : (fun i => T.getD i 0) = F at hF ret
  generalize hbe : tbl ps = bs at *
  have keep : ∀ τ : St, rng τ → eqx [20, 21, 22, 23] σ τ → textC τ T ∧ vocC τ ps ∧ ptsC τ ps.length P ∧ kC τ := by
    intro τ hrt hx
    have t1 : textC τ T := textC_x ht (hx 1 (by decide)) (hx 6 (by decide))
    have t2 : vocC τ ps := vocC_x hv (hx 2 (by decide)) (hx 7 (by decide)) (hx 8 (by decide)) (hx 9 (by decide)) (hx 10 (by decide)) (hx 12 (by decide)) (hx 13 (by decide))
    exact ⟨t1, t2, ptsC_x hP (hx 11 (by decide)), kC_of hrt t1 t2⟩
  have bnd : ∀ (τ : St) (rows : Nat → List Int) (p : Nat), p ≤ T.length → dpAt τ T.length F bs P rows p → -14400 ≤ τ 20 p ∧ τ 20 p ≤ 14400 ∧ 0 ≤ τ 21 p ∧ τ 21 p ≤ 120 ∧ 0 ≤ τ 22 p ∧ τ 22 p ≤ 1000000 := by
    intro τ rows p hp h
    obtain ⟨d1, d2, d3, d4, -, -⟩ := h
    have h1 := sm_bd hF hPr' d1
    have h2 := pth_le hb d1
    have h3 : Nat.min (nB T.length F bs p) 1000000 ≤ 1000000 := Nat.min_le_right _ _
    rw [d2, d3, d4]
    omega
  have outer : ∀ (q : Nat) (x : Int) (τ : St), x = (q : Int) - 1 → q ≤ T.length → rng τ → eqx [20, 21, 22, 23] σ τ → dpC τ T.length F bs P q → V (31, [(0, .inl 5), (1, .inl 1), (2, .inl 2), (3, .inr (T.length : Int)), (4, .inr x)], [], τ) := by
    intro q
    induction q with
    | zero =>
      intro x τ hx _ hrt hxx hd
      refine M.1 [101] 60 _ ?_
      refine ⟨by unfold inR; omega, fun c1 => ret rfl ⟨hrt, hxx, hd⟩, fun c1 => absurd c1 (by omega)⟩
    | succ q ih =>
      intro x τ hx hq hrt hxx hd
      have hxq : x = (q : Int) := by omega
      subst hxq
      obtain ⟨rows, hd⟩ := hd
      obtain ⟨k1, k2, k3, k4⟩ := keep τ hrt hxx
      have hoc : τ 6 q = F q := by rw [(k1.2.2 q (by omega)).1, ← hFe]
      have hFq := hF q (by omega)
      have b1 := bnd τ rows (q + 1) (by omega) (hd (q + 1) (by omega) (by omega))
      have hPq : τ 11 (F q).toNat = P (F q) := by
        rw [k3 (F q).toNat (by omega), show (((F q).toNat : Nat) : Int) = F q by omega]
      have hPb := hPr (F q) hFq.1 (by omega)
      refine M.1 [47] 60 _ ?_
      refine ⟨by unfold inR; omega, fun c1 => absurd c1 (by omega), fun c1 => ?_⟩
      refine ⟨⟨by omega, by omega⟩, ?_⟩
      rw [Int.toNat_natCast, hoc]
      refine M.2.2.1 (vs := [.inr (q : Int), .inr (F q), .inl 2]) (rest := []) rfl oX0_weigh_X0_startWithByte rfl rfl (Nat.le_of_ble_eq_true rfl) rfl (c_X0_startWithByte hrt (by omega) hFq.1 (by omega) (by rw [hPq]; unfold inR; omega) (by unfold inR; omega)) (fun υ hp => ?_)
      obtain ⟨p1, p2, p3, p4, p5, p6⟩ := hp
      rw [hPq] at p3
      have hx2 : eqx [20, 21, 22, 23] σ υ := eqx_trans hxx p2
      have hd2 : ∀ r, q + 1 ≤ r → r ≤ T.length → dpAt υ T.length F bs P rows r := fun r h1 h2 => dpAt_congr (hd r h1 h2) (by rw [p3, va_up_ne _ _ (by omega)]) (by rw [p4, va_up_ne _ _ (by omega)]) (by rw [p5, va_up_ne _ _ (by omega)]) (by rw [p6, va_up_ne _ _ (by omega)])
      have hin : inAt υ T.length F bs P rows q 0 := inAt_0 hF (by omega) (hd2 (q + 1) (by omega) (by omega)) (by rw [p3, va_up_self, va_up_ne _ _ (by omega)]) (by rw [p4, va_up_self, va_up_ne _ _ (by omega)]) (by rw [p5, va_up_self, va_up_ne _ _ (by omega)]) (by rw [p6, va_up_self])
      have inner : ∀ (d t : Nat) (y : Int) (υ : St), t + d = ps.length → y = 256 + (t : Int) → rng υ → eqx [20, 21, 22, 23] σ υ → (∀ r, q + 1 ≤ r → r ≤ T.length → dpAt υ T.length F bs P rows r) → inAt υ T.length F bs P rows q t → V (55, [(0, .inl 5), (1, .inl 1), (2, .inl 2), (3, .inr (T.length : Int)), (4, .inr (q : Int)), (5, .inr y)], [], υ) := by
        intro d
        induction d with
        | zero =>
          intro t y υ htd hy hru hxu hdu hinu
          obtain ⟨k1, k2, k3, k4⟩ := keep υ hru hxu
          have hte : t = bs.length := by omega
          subst hte
          have hl := k2.1
          refine M.1 [31] 60 _ ?_
          refine ⟨⟨by unfold inR; omega, by unfold inR; omega⟩, fun c1 => ?_, fun c1 => absurd c1 (by omega)⟩
          refine M.2.2.2.2.2.1 _ (lpick_mem [0, 1, 2, 3, 4]) ?_
          exact ih ((q : Int) + (-1)) υ (by omega) (by omega) hru hxu (dpC_step hF hb (by omega) hinu hdu)
        | succ d ihd =>
          intro t y υ htd hy hru hxu hdu hinu
          obtain ⟨k1, k2, k3, k4⟩ := keep υ hru hxu
          have htl : t < ps.length := by omega
          have hl := k2.1
          have hsz := voc_sz k2 htl
          have hst := voc_st k1 k2 (p := q) htl
          have hvt := k2.2.2.2 t htl
          rw [hbe] at hsz hst hvt
          rw [hFe] at hst
          subst hy
          have hnext : ∀ υ2 : St, rng υ2 → eqx [20, 21, 22, 23] σ υ2 → (∀ r, q + 1 ≤ r → r ≤ T.length → dpAt υ2 T.length F bs P rows r) → inAt υ2 T.length F bs P rows q (t + 1) → V (89, [(0, .inl 5), (1, .inl 1), (2, .inl 2), (3, .inr (T.length : Int)), (4, .inr (q : Int)), (5, .inr (256 + (t : Int)))], [], υ2) := by
            intro υ2 a1 a2 a3 a4
            refine M.1 [55] 60 _ ?_
            exact ihd (t + 1) _ υ2 (by omega) (by omega) a1 a2 a3 a4
          refine M.1 [74] 60 _ ?_
          refine ⟨⟨by unfold inR; omega, by unfold inR; omega⟩, fun c1 => absurd c1 (by omega), fun c1 => ?_⟩
          refine M.2.1 (vs := [.inr (256 + (t : Int)), .inl 1, .inr (q : Int)]) (rest := []) rfl oX0_weigh_X4_standsAt rfl rfl (Nat.le_of_ble_eq_true rfl) rfl (c_X4_standsAt k4 (by unfold inR; omega) (by unfold inR; omega) (by rw [hsz]; omega) (by rw [hsz]; omega) (fun _ => by rw [show (256 + (t : Int) - 256).toNat = t by omega]; omega)) (fun r υ2 _ hp => ?_)
          obtain ⟨rfl, rfl⟩ := hp
          refine M.1 [86, 89] 60 _ ?_
          refine ⟨b01_r _, fun c2 => ?_, fun c2 => ?_⟩
          · exact hnext υ2 hru hxu hdu (inAt_skip hF hinu (fun h => b01_0.mp c2 (hst.mpr h)))
          · have hfit : fit T.length F bs t q := hst.mp (Classical.not_not.mp (fun h => c2 (b01_f h)))
            have hbt := hb t (by omega)
            have hf1 := hfit.1
            have hPt : υ2 11 (256 + (t : Int)).toNat = P (256 + (t : Int)) := by
              rw [k3 (256 + (t : Int)).toNat (by omega), show (((256 + (t : Int)).toNat : Nat) : Int) = 256 + (t : Int) by omega]
            have hPtb := hPr (256 + (t : Int)) (by omega) (by omega)
            have bz := bnd υ2 rows (q + tl bs t) (by omega) (hdu (q + tl bs t) (by omega) (by omega))
            have hm22 : 0 ≤ υ2 22 q ∧ υ2 22 q ≤ 1000000 := by
              obtain ⟨z, -, -, -, -, h5, -⟩ := hinu
              have h3 : Nat.min (nB T.length F bs (q + 1) + sumf (fun j => iff0 (fit T.length F bs j q) (nB T.length F bs (q + tl bs j))) t) 1000000 ≤ 1000000 := Nat.min_le_right _ _
              rw [h5]
              omega
            refine M.2.2.1 (vs := [.inr (q : Int), .inr (256 + (t : Int)), .inl 2]) (rest := []) rfl oX0_weigh_X0_startWithLearned rfl rfl (Nat.le_of_ble_eq_true rfl) rfl (c_X0_startWithLearned (z := tl bs t) k4 (by omega) (by omega) (by omega) hsz (by omega) (by rw [hPt]; unfold inR; omega) (by unfold inR; omega) (by unfold inR; omega)) (fun υ3 hp => ?_)
            obtain ⟨s1, s2, s3, s4⟩ := hp
            rw [hPt] at s4
            refine hnext υ3 s1 (eqx_trans hxu s2) (fun r h1 h2 => ?_) (inAt_add hF hb (by omega) (by omega) hinu hfit (hdu (q + tl bs t) (by omega) (by omega)) (by rw [s3, va_up_self]) ?_)
            · refine dpAt_congr (hdu r h1 h2) ?_ ?_ (by rw [s3, va_up_ne _ _ (by omega)]) ?_
              · rcases s4 with ⟨-, e, -, -⟩ | ⟨-, e, -, -⟩ <;> rw [e]
                rw [va_up_ne _ _ (by omega)]
              · rcases s4 with ⟨-, -, e, -⟩ | ⟨-, -, e, -⟩ <;> rw [e]
                rw [va_up_ne _ _ (by omega)]
              · rcases s4 with ⟨-, -, -, e⟩ | ⟨-, -, -, e⟩ <;> rw [e]
                rw [va_up_ne _ _ (by omega)]
            · rcases s4 with ⟨e0, e1, e2, e3⟩ | ⟨e0, e1, e2, e3⟩
              · exact Or.inl ⟨e0, by rw [e1], by rw [e2], by rw [e3]⟩
              · exact Or.inr ⟨e0, by rw [e1, va_up_self], by rw [e2, va_up_self], by rw [e3, va_up_self]⟩
      refine M.1 [55] 60 _ ?_
      exact inner ps.length 0 256 υ (by omega) (by omega) p1 hx2 hd2 hin
  have h11 := ht.1
  refine M.1 [12] 60 _ ?_
  refine ⟨⟨by rw [h11]; omega, by rw [h11]; omega⟩, ?_⟩
  rw [h11, Int.toNat_natCast]
  refine M.1 [31] 60 _ ?_
  refine ⟨⟨by omega, by omega⟩, ⟨by omega, by omega⟩, ?_⟩
  rw [Int.toNat_natCast]
  refine outer T.length _ _ rfl (Nat.le_refl _) (rng_stu (rng_stu (rng_stu hr inR_0 _ _) inR_0 _ _) (by constructor <;> decide) _ _) (eqx_stu (eqx_stu (eqx_stu eqx_rfl (by decide) _ _) (by decide) _ _) (by decide) _ _) (dpC_n hb ?_ ?_ ?_) <;> simp [stu, va_up]
end WG2
