section M9
variable {l : Launch} {D : va_G} {cA : Nat → ClassId} {ad : Nat → Nat} {σ : St} {T : List Int} {ps : PSt} {P : Int → Int}
def fw (τ : St) (P : Int → Int) (n : Nat) (rows : Nat → Option (List Int)) (W : Nat → Nat) : Prop := ∀ q, q ≤ n → cellO τ P q (rows q) ∧ τ 13 q = (Nat.min (W q) 1000000 : Nat)
theorem fw_come {τ υ : St} {n p z : Nat} {rows : Nat → Option (List Int)} {W : Nat → Nat} {L : List Int} (hn : n ≤ 120) (hp : p ≤ n) (hz : p + z ≤ n) (h : fw τ P n rows W) (h1 : ∀ x, x ≠ p + z → υ 10 x = τ 10 x ∧ υ 11 x = τ 11 x ∧ υ 13 x = τ 13 x ∧ ∀ i, i < 120 → υ 12 (120 * x + i) = τ 12 (120 * x + i)) (h2 : υ 13 (p + z) = (if 1000000 < τ 13 (p + z) + τ 13 p then 1000000 else τ 13 (p + z) + τ 13 p)) (h3 : cellO υ P (p + z) (some L)) : fw υ P n (va_up rows (p + z) (some L)) (va_up W (p + z) (W (p + z) + W p)) := by
  intro q hq
  by_cases e : q = p + z
  · subst e
    rw [va_up_self, va_up_self]
    refine ⟨h3, ?_⟩
    rw [h2, (h (p + z) hz).2, (h p hp).2, ← min_cap (W (p + z)) (W p)]
    generalize Nat.min (W (p + z)) 1000000 = a
    generalize Nat.min (W p) 1000000 = b
    simp only [Nat.min_def]
    split <;> split <;> omega
  · rw [va_up_ne _ _ e, va_up_ne _ _ e]
    have k := h1 q e
    obtain ⟨g1, g2⟩ := h q hq
    refine ⟨?_, by rw [k.2.2.1]; exact g2⟩
    unfold cellO at *
    cases hr : rows q with
    | none =>
      rw [hr] at g1
      show υ 11 q = -1
      rw [k.2.1]
      exact g1
    | some L =>
      rw [hr] at g1
      obtain ⟨a1, ⟨a2, a3, a4⟩, a5⟩ := g1
      refine ⟨by rw [k.1]; exact a1, ⟨by rw [k.2.1]; exact a2, a3, fun i hi => ?_⟩, a5⟩
      rw [k.2.2.2 i (by omega)]
      exact a4 i hi
def comeP (σ : St) (P : Int → Int) (p z : Nat) (t : Int) (Lf : List Int) (o : Option (List Int)) (τ : St) : Prop := rng τ ∧ eqx [10, 11, 12, 13] σ τ ∧ (∀ x, x ≠ p + z → τ 10 x = σ 10 x ∧ τ 11 x = σ 11 x ∧ τ 13 x = σ 13 x ∧ ∀ i, i < 120 → τ 12 (120 * x + i) = σ 12 (120 * x + i)) ∧ τ 13 (p + z) = (if 1000000 < σ 13 (p + z) + σ 13 p then 1000000 else σ 13 (p + z) + σ 13 p) ∧ cellO τ P (p + z) (some (mx P (Lf ++ [t]) o))
theorem c_X6_findBest (h : RM σ T ps P) (hPr : ptsR ps.length P) (hvo : vOk ps) : Cv l yX6_findBest wsX6_findBest (rh 2) D cA ad LM [.inl 0] σ (fun τ => RM τ T ps P ∧ cellO τ P T.length (some (bst T ps P)) ∧ τ 13 T.length = aWay T ps) := by
  have h' := h
  obtain ⟨hr, ht, hv, hp⟩ := h
  have h01 := ht.1
  have hn := ht.2.1
  have h03 := hv.1
  have hl := hv.2.1
  have hb := hvo.2.1
  have hlen := tbl_len ps
  have hF : ∀ i, i < T.length → 0 ≤ FT T i ∧ FT T i < 256 := fun i hi => (ht.2.2 i hi).2
  have hPr' : ptsR (tbl ps).length P := by rw [hlen]; exact hPr
  refine Cv.walk fX6_findBest pX6_findBest [] (by decide) rfl LM_ok tX6_findBest_ok fX6_findBest_ok pX6_findBest_ok klOk_0 (Nat.le_of_ble_eq_true rfl) (fun V M ret => ?_)
  obtain ⟨B, hB⟩ : ∃ B, B = nB T.length (FT T) (tbl ps) := ⟨_, rfl⟩
  have keepR : ∀ τ : St, rng τ → eqx [10, 11, 12, 13] σ τ → RM τ T ps P := fun τ hrt hx => RM_x h' hrt ⟨by rw [hx 0 (by decide)], by rw [hx 0 (by decide)]⟩ (eqx_mono hx (by decide))
  -- a token comes from place i
  have come : ∀ (i s s' z : Nat) (t : Int) (rows : Nat → Option (List Int)) (W : Nat → Nat) (τ : St), i < T.length → rng τ → eqx [10, 11, 12, 13] σ τ → fw τ P T.length rows W → fwR T.length (FT T) (tbl ps) P rows i s → stp T.length (FT T) (tbl ps) i t z → (tbo (tbl ps) t).length = z → (∀ p x, cons (FT T) i s' p x → cons (FT T) i s p x ∨ (p = i ∧ x = t)) → ∃ Lf, Cv l yX6_come wsX6_come (rh 1) D cA ad LM [.inl 0, .inr (i : Int), .inr t] τ (comeP τ P i z t Lf (rows (i + z))) ∧ ∀ υ, comeP τ P i z t Lf (rows (i + z)) υ → rng υ ∧ eqx [10, 11, 12, 13] σ υ ∧ ∃ rows', fw υ P T.length rows' (va_up W (i + z) (W (i + z) + W i)) ∧ fwR T.length (FT T) (tbl ps) P rows' i s' := by
    intro i s s' z t rows W τ hi hrt hx hfw hfr hst hz hs
    have hzb := stp_le hst hb
    obtain ⟨Lf, e1, e2, -⟩ := fwR_at hb hfr (by omega)
    have hRM := keepR τ hrt hx
    have htk := stp_tok hF hst
    rw [hlen] at htk
    have g := (hfw i (by omega)).1
    rw [e1] at g
    have hsm := sm_bd hF hPr' e2
    have hle := pth_le hb e2
    have w1 := (hfw i (by omega)).2
    have w2 := (hfw (i + z) (by omega)).2
    have m1 : Nat.min (W i) 1000000 ≤ 1000000 := Nat.min_le_right _ _
    have m2 : Nat.min (W (i + z)) 1000000 ≤ 1000000 := Nat.min_le_right _ _
    have hc := c_X6_come (l := l) (D := D) (cA := cA) (ad := ad) (P := P) (o := rows (i + z)) (p := i) (z := z) (t := t) (Lf := Lf) hrt hRM.2.2.1 hz hzb.1 htk (by omega) (by rw [hRM.2.2.2 t.toNat (by omega), show ((t.toNat : Nat) : Int) = t by omega]) (hPr t htk.1 htk.2) g (by omega) (hfw (i + z) (by omega)).1 (by rw [w1]; omega) (by rw [w2]; omega)
    refine ⟨Lf, hc, fun υ hp => ?_⟩
    obtain ⟨c1, c2, c3, c4, c5⟩ := hp
    exact ⟨c1, eqx_trans hx c2, _, fw_come hn (by omega) hzb.2 hfw c3 c4 c5, fwR_come (fun i hi => (hF i hi).2) hb hfr hi e1 hst hs⟩
  have main : ∀ (d i : Nat) (rows : Nat → Option (List Int)) (W : Nat → Nat) (τ : St), i + d = T.length → rng τ → eqx [10, 11, 12, 13] σ τ → fw τ P T.length rows W → fwR T.length (FT T) (tbl ps) P rows i 0 → sW T.length B W i + W i * B i = B 0 → V (55, [(0, .inl 0), (1, .inr (i : Int))], [], τ) := by
    intro d
    induction d with
    | zero =>
      intro i rows W τ hi hrt hx hfw hfr hw
      have e : i = T.length := by omega
      subst e
      have e0 : τ 0 = σ 0 := hx 0 (by decide)
      refine M.1 [119] 60 _ ?_
      refine ⟨⟨by unfold inR; omega, hrt _ _⟩, fun c1 => ?_, fun c1 => absurd c1 (by rw [e0]; omega)⟩
      obtain ⟨L, hL1, hL2⟩ := fwR_fin hb hfr
      have g := hfw T.length (Nat.le_refl _)
      rw [hL1] at g
      refine ret rfl ⟨keepR τ hrt hx, ?_, ?_⟩
      · rw [bst_eq hL2]
        exact g.1
      · rw [g.2]
        unfold aWay
        rw [sW_n, hB, nB_n] at hw
        rw [show W T.length = nB T.length (FT T) (tbl ps) 0 by omega]
    | succ d ih =>
      intro i rows W τ hi hrt hx hfw hfr hw
      have e0 : τ 0 = σ 0 := hx 0 (by decide)
      have hFi := hF i (by omega)
      have hoc : τ 1 i = FT T i := by rw [hx 1 (by decide)]; exact (ht.2.2 i (by omega)).1
      have hstb : stp T.length (FT T) (tbl ps) i (FT T i) 1 := ⟨by omega, Or.inl ⟨rfl, rfl⟩⟩
      refine M.1 [71] 60 _ ?_
      refine ⟨⟨by unfold inR; omega, hrt _ _⟩, fun c1 => absurd c1 (by rw [e0]; omega), fun c1 => ?_⟩
      refine ⟨⟨by omega, by omega⟩, ?_⟩
      rw [Int.toNat_natCast, hoc]
      obtain ⟨Lf, hc, hpost⟩ := come i 0 1 1 (FT T i) rows W τ (by omega) hrt hx hfw hfr hstb (by unfold tbo; rw [if_pos hFi.2]; rfl) (fun p x hc => by
        rcases hc with hc | ⟨hc, ⟨-, hc2⟩ | ⟨j, hj, -⟩⟩
        · exact Or.inl (Or.inl hc)
        · exact Or.inr ⟨hc, hc2⟩
        · omega)
      refine M.2.2.1 (vs := [.inr (i : Int), .inr (FT T i)]) (rest := []) rfl oX6_findBest_X6_come rfl rfl (Nat.le_of_ble_eq_true rfl) rfl hc (fun υ hp2 => ?_)
      obtain ⟨r2, x2, rows2, fw2, fr2⟩ := hpost υ hp2
      obtain ⟨g, hg⟩ : ∃ g, g = fun j => iff0 (fit T.length (FT T) (tbl ps) j i) (B (i + tl (tbl ps) j)) := ⟨_, rfl⟩
      have hBi : B i = B (i + 1) + sumf g ps.length := by
        rw [hg, hB, nB_p hb (show i < T.length by omega), hlen]
      have inner : ∀ (d j : Nat) (rows : Nat → Option (List Int)) (W : Nat → Nat) (υ : St), j + d = ps.length → rng υ → eqx [10, 11, 12, 13] σ υ → fw υ P T.length rows W → fwR T.length (FT T) (tbl ps) P rows i (j + 1) → (∃ rem, sW T.length B W i + W i * rem = B 0 ∧ rem + sumf g j = sumf g ps.length) → V (76, [(0, .inl 0), (1, .inr (i : Int)), (2, .inr (j : Int))], [], υ) := by
        intro d
        induction d with
        | zero =>
          intro j rows W υ hj hru hxu hfw hfr hw
          obtain ⟨rem, hw, hrem⟩ := hw
          have e0 : υ 0 = σ 0 := hxu 0 (by decide)
          have ej : j = ps.length := by omega
          subst ej
          have hr0 : rem = 0 := by omega
          subst hr0
          refine M.1 [55] 60 _ ?_
          refine ⟨⟨by unfold inR; omega, hru _ _⟩, fun c1 => ?_, fun c1 => absurd c1 (by rw [e0]; omega)⟩
          refine M.2.2.2.2.2.1 _ (lpick_mem [0, 1]) ?_
          refine ih (i + 1) rows W υ (by omega) hru hxu hfw ?_ ?_
          · obtain ⟨k0, k1, k2⟩ := hfr
            refine ⟨k0, k1, fun r t p z a1 a2 a3 => k2 r t p z a1 a2 ?_⟩
            rcases a3 with a3 | ⟨-, ⟨a3, -⟩ | ⟨j, a3, -⟩⟩
            · rcases Nat.lt_or_ge p i with hlt | hge
              · exact Or.inl hlt
              · have epi : p = i := by omega
                subst epi
                obtain ⟨-, a2 | ⟨j, hj, a2, -⟩⟩ := a2
                · exact Or.inr ⟨rfl, Or.inl ⟨by omega, a2.1⟩⟩
                · exact Or.inr ⟨rfl, Or.inr ⟨j, by omega, a2⟩⟩
            · omega
            · omega
          · rw [← sW_next (show i < T.length by omega)]
            simpa using hw
        | succ d ihd =>
          intro j rows W υ hj hru hxu hfw hfr hw
          obtain ⟨rem, hw, hrem⟩ := hw
          have e0 : υ 0 = σ 0 := hxu 0 (by decide)
          have hRM := keepR υ hru hxu
          have hjl : j < ps.length := by omega
          have next : ∀ (rows : Nat → Option (List Int)) (W : Nat → Nat) (υ : St), rng υ → eqx [10, 11, 12, 13] σ υ → fw υ P T.length rows W → fwR T.length (FT T) (tbl ps) P rows i (j + 2) → (∃ rem, sW T.length B W i + W i * rem = B 0 ∧ rem + sumf g (j + 1) = sumf g ps.length) → V (107, [(0, .inl 0), (1, .inr (i : Int)), (2, .inr (j : Int))], [], υ) := by
            intro rows W υ a1 a2 a3 a4 a5
            refine M.1 [76] 60 _ ?_
            exact ihd (j + 1) rows W υ (by omega) a1 a2 a3 a4 a5
          have mono : ∀ {a : Nat}, a < ps.length → sumf g (a + 1) ≤ sumf g ps.length := by
            intro a ha
            have key : ∀ m, a + 1 ≤ m → sumf g (a + 1) ≤ sumf g m := by
              intro m
              induction m with
              | zero => intro h; omega
              | succ m ihm =>
                intro h
                rcases Nat.lt_or_ge m (a + 1) with hc | hc
                · rw [show m + 1 = a + 1 by omega]
                  exact Nat.le_refl _
                · have := ihm hc
                  rw [show sumf g (m + 1) = sumf g m + g m from rfl]
                  omega
            exact key ps.length (by omega)
          refine M.1 [91] 60 _ ?_
          refine ⟨⟨by unfold inR; omega, hru _ _⟩, fun c1 => absurd c1 (by rw [e0]; omega), fun c1 => ?_⟩
          refine M.2.1 (vs := [.inr (256 + (j : Int)), .inr (i : Int)]) (rest := []) rfl oX6_findBest_X6_fits rfl rfl (Nat.le_of_ble_eq_true rfl) rfl (c_X6_fits hru hRM.2.1 hRM.2.2.1 hvo hjl (by omega)) (fun r υ2 _ hp3 => ?_)
          obtain ⟨e3, e4⟩ := hp3
          subst e3
          subst e4
          have hgj : ∀ (hf : fit T.length (FT T) (tbl ps) j i), g j = B (i + tl (tbl ps) j) := fun hf => by rw [hg]; exact iff0_t hf _
          have hgn : ¬ fit T.length (FT T) (tbl ps) j i → g j = 0 := fun hf => by rw [hg]; exact iff0_f hf _
          refine M.1 [104, 107] 60 _ ?_
          refine ⟨b01_r _, fun c2 => ?_, fun c2 => ?_⟩
          · have c2 := b01_0.mp c2
            refine next rows W υ2 hru hxu hfw ?_ ⟨rem, hw, ?_⟩
            · obtain ⟨k0, k1, k2⟩ := hfr
              refine ⟨k0, k1, fun r t p z a1 a2 a3 => k2 r t p z a1 a2 ?_⟩
              rcases a3 with a3 | ⟨epi, ⟨a3, a4⟩ | ⟨j', a3, a4⟩⟩
              · exact Or.inl a3
              · exact Or.inr ⟨epi, Or.inl ⟨by omega, a4⟩⟩
              · rcases Nat.lt_or_ge j' j with hc | hc
                · exact Or.inr ⟨epi, Or.inr ⟨j', by omega, a4⟩⟩
                · exfalso
                  have ej : j' = j := by omega
                  subst ej
                  subst epi
                  obtain ⟨-, a2 | ⟨j2, hj2, a2, -, hf⟩⟩ := a2
                  · omega
                  · have : j2 = j' := by omega
                    subst this
                    exact c2 hf
            · rw [show sumf g (j + 1) = sumf g j + g j from rfl, hgn c2]
              omega
          · have c2 := Classical.not_not.mp (fun h => c2 (b01_f h))
            have hst2 : stp T.length (FT T) (tbl ps) i (256 + (j : Int)) (tl (tbl ps) j) := ⟨by omega, Or.inr ⟨j, by omega, rfl, rfl, c2⟩⟩
            have hbj := hb j (by omega)
            obtain ⟨Lf2, hc2, hpost2⟩ := come i (j + 1) (j + 2) (tl (tbl ps) j) (256 + (j : Int)) rows W υ2 (by omega) hru hxu hfw hfr hst2 (by rw [tbo_l]; rfl) (fun p x hc => by
              rcases hc with hc | ⟨hc, ⟨hc2, hc3⟩ | ⟨j', hj', hc2⟩⟩
              · exact Or.inl (Or.inl hc)
              · exact Or.inl (Or.inr ⟨hc, Or.inl ⟨by omega, hc3⟩⟩)
              · rcases Nat.lt_or_ge j' j with hlt | hge
                · exact Or.inl (Or.inr ⟨hc, Or.inr ⟨j', by omega, hc2⟩⟩)
                · exact Or.inr ⟨hc, by rw [hc2, show j' = j by omega]⟩)
            refine M.2.2.1 (vs := [.inr (i : Int), .inr (256 + (j : Int))]) (rest := []) rfl oX6_findBest_X6_come rfl rfl (Nat.le_of_ble_eq_true rfl) rfl hc2 (fun υ3 hp4 => ?_)
            obtain ⟨r3, x3, rows3, fw3, fr3⟩ := hpost2 υ3 hp4
            have hle := c2.1
            have hm := mono hjl
            rw [show sumf g (j + 1) = sumf g j + g j from rfl, hgj c2] at hm
            refine next rows3 _ υ3 r3 x3 fw3 fr3 ⟨rem - B (i + tl (tbl ps) j), ?_, ?_⟩
            · rw [sW_come (by omega) (by omega), va_up_ne _ _ (by omega), ← hw, Nat.add_assoc, ← Nat.mul_add]
              congr 2
              omega
            · rw [show sumf g (j + 1) = sumf g j + g j from rfl, hgj c2]
              omega
      refine M.1 [76] 60 _ ?_
      refine inner ps.length 0 rows2 _ υ (by omega) r2 x2 fw2 fr2 ⟨sumf g ps.length, ?_, rfl⟩
      rw [sW_come (by omega) (by omega), va_up_ne _ _ (by omega), ← hw, Nat.add_assoc, ← Nat.mul_add, hBi]
  have init : ∀ (d i : Nat) (τ : St), i + d = T.length + 1 → rng τ → eqx [10, 11, 12, 13] σ τ → (∀ q, q < i → τ 10 q = 0 ∧ τ 11 q = (if q = 0 then 0 else -1) ∧ τ 13 q = (if q = 0 then 1 else 0)) → V (2, [(0, .inl 0), (1, .inr (i : Int))], [], τ) := by
    intro d
    induction d with
    | zero =>
      intro i τ hi hrt hx hw
      have e0 : τ 0 = σ 0 := hx 0 (by decide)
      refine M.1 [55] 60 _ ?_
      refine ⟨⟨by unfold inR; omega, hrt _ _⟩, fun c1 => ?_, fun c1 => absurd c1 (by rw [e0]; omega)⟩
      refine main T.length 0 (fun q => if q = 0 then some [] else none) (fun q => if q = 0 then 1 else 0) τ (by omega) hrt hx (fun q hq => ?_) ⟨rfl, fun q L hL => ?_, fun r t p z _ _ hc => ?_⟩ ?_
      · obtain ⟨a1, a2, a3⟩ := hw q (by omega)
        by_cases e : q = 0
        · subst e
          refine ⟨⟨a1, ⟨a2, Nat.le_refl _, fun i hi => by simp at hi⟩, fun x hx => by simp at hx⟩, ?_⟩
          rw [a3]
          rfl
        · rw [if_neg e] at a2 a3
          simp only [if_neg e]
          exact ⟨a2, by rw [a3]; rfl⟩
      · by_cases e : q = 0
        · subst e
          simp at hL
          subst hL
          rfl
        · simp [e] at hL
      · rcases hc with hc | ⟨-, ⟨hc, -⟩ | ⟨j, hc, -⟩⟩ <;> omega
      · have : sW T.length B (fun q => if q = 0 then 1 else 0) 0 = 0 := by
          unfold sW
          have key : ∀ k, sumf (fun q => if 0 < q then (if q = 0 then 1 else 0) * B q else 0) k = 0 := by
            intro k
            induction k with
            | zero => rfl
            | succ k ihk =>
              unfold sumf
              rw [ihk]
              split
              · rw [if_neg (by omega), Nat.zero_mul]
              · rfl
          exact key _
        rw [this]
        simp
    | succ d ih =>
      intro i τ hi hrt hx hw
      have e0 : τ 0 = σ 0 := hx 0 (by decide)
      have next : ∀ a b : Int, a = (if i = 0 then 0 else -1) → b = (if i = 0 then 1 else 0) → V (47, [(0, .inl 0), (1, .inr (i : Int))], [], stu (stu (stu τ 10 i 0) 11 i a) 13 i b) := by
        intro a b ha hb2
        have hai : inR a := by rw [ha]; split <;> constructor <;> decide
        have hbi : inR b := by rw [hb2]; split <;> constructor <;> decide
        refine M.1 [2] 60 _ ?_
        refine ih (i + 1) _ (by omega) (rng_stu (rng_stu (rng_stu hrt inR_0 _ _) hai _ _) hbi _ _) (eqx_stu (eqx_stu (eqx_stu hx (by decide) _ _) (by decide) _ _) (by decide) _ _) (fun q hq => ?_)
        by_cases e : q = i
        · subst e
          simp [stu, va_up, ha, hb2]
        · have := hw q (by omega)
          simp [stu, va_up, e, this]
      refine M.1 [47] 80 _ ?_
      refine ⟨⟨by unfold inR; omega, hrt _ _⟩, fun c1 => absurd c1 (by rw [e0]; omega), fun c1 => ?_⟩
      refine ⟨⟨by omega, by omega⟩, by unfold inR; omega, fun c2 => ?_, fun c2 => ?_⟩
      · refine ⟨⟨by omega, by omega⟩, by unfold inR; omega, fun c3 => ?_, fun c3 => absurd c3 c2⟩
        refine ⟨⟨by omega, by omega⟩, ?_⟩
        rw [Int.toNat_natCast]
        exact next (-1) 0 (by rw [if_neg (by omega)]) (by rw [if_neg (by omega)])
      · refine ⟨⟨by omega, by omega⟩, by unfold inR; omega, fun c3 => absurd c2 c3, fun c3 => ?_⟩
        refine ⟨⟨by omega, by omega⟩, ?_⟩
        rw [Int.toNat_natCast]
        exact next 0 1 (by rw [if_pos (by omega)]) (by rw [if_pos (by omega)])
  refine M.1 [2] 60 _ ?_
  exact init (T.length + 1) 0 σ (by omega) hr eqx_rfl (fun q hq => absurd hq (by omega))
theorem c_X6_best (h : RM σ T ps P) (hPr : ptsR ps.length P) (hvo : vOk ps) : Ci l yX6_best wsX6_best (rh 3) D cA ad LM [.inl 0] σ (fun r τ => r = aBst T ps P ∧ RM τ T ps P) := by
  have hn := h.2.1.2.1
  refine Ci.walk fX6_best pX6_best [] (by decide) rfl LM_ok tX6_best_ok fX6_best_ok pX6_best_ok klOk_0 (Nat.le_of_ble_eq_true rfl) (fun V M ret => ?_)
  refine M.1 [6] 60 _ ?_
  refine M.2.2.1 (vs := []) (rest := []) rfl oX6_best_X6_findBest rfl rfl (Nat.le_of_ble_eq_true rfl) rfl (c_X6_findBest (RM_c h inR_0) hPr hvo) (fun υ hp2 => ?_)
  obtain ⟨p1, p2, p3⟩ := hp2
  have h01 := p1.2.1.1
  refine M.1 [18] 60 _ ?_
  refine ⟨⟨by rw [h01]; omega, by rw [h01]; omega⟩, ?_⟩
  rw [h01, Int.toNat_natCast]
  exact ret rfl (p1.1 _ _) ⟨p2.2.1.1, p1⟩
theorem c_X6_sum (h : RM σ T ps P) (hPr : ptsR ps.length P) (hvo : vOk ps) : Ci l yX6_sum wsX6_sum (rh 3) D cA ad LM [.inl 0] σ (fun r τ => r = aSum T ps P ∧ RM τ T ps P) := by
  have hn := h.2.1.2.1
  refine Ci.walk fX6_sum pX6_sum [] (by decide) rfl LM_ok tX6_sum_ok fX6_sum_ok pX6_sum_ok klOk_0 (Nat.le_of_ble_eq_true rfl) (fun V M ret => ?_)
  refine M.1 [6] 60 _ ?_
  refine M.2.2.1 (vs := []) (rest := []) rfl oX6_sum_X6_findBest rfl rfl (Nat.le_of_ble_eq_true rfl) rfl (c_X6_findBest (RM_c h inR_0) hPr hvo) (fun υ hp2 => ?_)
  obtain ⟨p1, p2, p3⟩ := hp2
  have h01 := p1.2.1.1
  refine M.1 [18] 60 _ ?_
  refine ⟨⟨by rw [h01]; omega, by rw [h01]; omega⟩, ?_⟩
  rw [h01, Int.toNat_natCast]
  exact ret rfl (p1.1 _ _) ⟨p2.1, p1⟩
theorem c_X6_ways (h : RM σ T ps P) (hPr : ptsR ps.length P) (hvo : vOk ps) : Ci l yX6_ways wsX6_ways (rh 3) D cA ad LM [.inl 0] σ (fun r τ => r = aWay T ps ∧ RM τ T ps P) := by
  have hn := h.2.1.2.1
  refine Ci.walk fX6_ways pX6_ways [] (by decide) rfl LM_ok tX6_ways_ok fX6_ways_ok pX6_ways_ok klOk_0 (Nat.le_of_ble_eq_true rfl) (fun V M ret => ?_)
  refine M.1 [6] 60 _ ?_
  refine M.2.2.1 (vs := []) (rest := []) rfl oX6_ways_X6_findBest rfl rfl (Nat.le_of_ble_eq_true rfl) rfl (c_X6_findBest (RM_c h inR_0) hPr hvo) (fun υ hp2 => ?_)
  obtain ⟨p1, p2, p3⟩ := hp2
  have h01 := p1.2.1.1
  refine M.1 [18] 60 _ ?_
  refine ⟨⟨by rw [h01]; omega, by rw [h01]; omega⟩, ?_⟩
  rw [h01, Int.toNat_natCast]
  exact ret rfl (p1.1 _ _) ⟨p3, p1⟩
theorem c_X6_bestAt {i : Int} (h : RM σ T ps P) (hi : inR i) (hPr : ptsR ps.length P) (hvo : vOk ps) : Ci l yX6_bestAt wsX6_bestAt (rh 3) D cA ad LM [.inl 0, .inr i] σ (fun r τ => r = aBat T ps P i ∧ RM τ T ps P) := by
  have hn := h.2.1.2.1
  refine Ci.walk fX6_bestAt pX6_bestAt [] (by decide) rfl LM_ok tX6_bestAt_ok fX6_bestAt_ok pX6_bestAt_ok klOk_0 (Nat.le_of_ble_eq_true rfl) (fun V M ret => ?_)
  refine M.1 [6] 60 _ ?_
  refine M.2.2.1 (vs := []) (rest := []) rfl oX6_bestAt_X6_findBest rfl rfl (Nat.le_of_ble_eq_true rfl) rfl (c_X6_findBest (RM_c h inR_0) hPr hvo) (fun υ hp2 => ?_)
  obtain ⟨p1, ⟨-, ⟨a2, a3, a4⟩, -⟩, p3⟩ := hp2
  have h01 := p1.2.1.1
  refine M.1 [22] 60 _ ?_
  refine ⟨⟨by rw [h01]; omega, by rw [h01]; omega⟩, ?_⟩
  rw [h01, Int.toNat_natCast, a2]
  refine M.2.2.2.1 (vs := [.inr i, .inr 0, .inr (((bst T ps P).length : Int) - 1)]) (rest := []) rfl oX6_bestAt_X6_in (Nat.le_of_ble_eq_true rfl) rfl (c_X6_in hi inR_0 (by unfold inR; omega)) (fun r τ _ hp3 => ?_)
  obtain ⟨e3, e4⟩ := hp3
  subst e3
  subst e4
  refine M.1 [46] 60 _ ?_
  refine ⟨b01_r _, fun c1 => ?_, fun c1 => ?_⟩
  · have c1 := b01_0.mp c1
    exact ret rfl (by constructor <;> decide) ⟨by unfold aBat; rw [if_neg (by omega)], p1⟩
  · have c1 := Classical.not_not.mp (fun h => c1 (b01_f h))
    refine ⟨⟨by rw [h01]; omega, by rw [h01]; omega⟩, ?_⟩
    refine ret rfl (p1.1 _ _) ⟨?_, p1⟩
    unfold aBat
    rw [if_pos (by omega), h01, show (120 * (T.length : Int) + i).toNat = 120 * T.length + i.toNat by omega]
    exact a4 i.toNat (by omega)
end M9
