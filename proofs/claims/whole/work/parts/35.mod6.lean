def LMt (σ : St) (T : List Int) (ps : PSt) (R : Rw) (P : Int → Int) : Prop := rng σ ∧ textM σ T ∧ vocM σ ps ∧ rowM σ R ∧ (∀ t : Nat, t < 256 → σ 7 t = P (t : Int)) ∧ ∀ j, j < ps.length → σ 7 (256 + j) = tl (tbl ps) j
section M6
variable {l : Launch} {D : va_G} {cA : Nat → ClassId} {ad : Nat → Nat} {σ : St} {T : List Int} {ps : PSt} {P : Int → Int} {R : Rw}
theorem c_X6_learn {n : Int} (h : RM σ T ps P) (hn : inR n) : Ci l yX6_learn wsX6_learn (rh 3) D cA ad LM [.inl 0, .inr n] σ (fun r τ => r = aLrn T n ∧ RM τ T (sLrn T ps n) (pLrn T P n)) := by
  have hx : txOk T := ⟨h.2.1.2.1, fun i hi => (h.2.1.2.2 i hi).2⟩
  refine Ci.walk fX6_learn pX6_learn [] (by decide) rfl LM_ok tX6_learn_ok fX6_learn_ok pX6_learn_ok klOk_0 (Nat.le_of_ble_eq_true rfl) (fun V M ret => ?_)
  suffices start : ∀ σ : St, RM σ T ps P → V (5, lnum 0 [.inl 0, .inr n], [], σ) by
    refine M.1 [5] 60 _ ?_
    exact start _ (RM_c h inR_0)
  clear h
  intro σ h
  have h' := h
  obtain ⟨hr, ht, hv, hp⟩ := h
  refine M.1 [9] 60 _ ?_
  refine M.2.2.2.1 (vs := [.inr n, .inr 0, .inr 32]) (rest := []) rfl oX6_learn_X6_in (Nat.le_of_ble_eq_true rfl) rfl (c_X6_in hn inR_0 (by constructor <;> decide)) (fun r τ _ hp2 => ?_)
  obtain ⟨rfl, rfl⟩ := hp2
  by_cases hnn : 0 ≤ n ∧ n ≤ 32
  rotate_left
  · rw [b01_f hnn]
    refine M.1 [17] 60 _ ?_
    refine ⟨inR_0, fun c => absurd rfl c, fun _ => ?_⟩
    refine ret rfl (by constructor <;> decide) ⟨by unfold aLrn; rw [if_neg hnn], ?_⟩
    unfold sLrn pLrn
    rw [if_neg hnn, if_neg hnn]
    exact h'
  rw [b01_t hnn]
  have done : ∀ (τ : St) (R : Rw), LMt τ T (psL T n) R P → V (266, [(0, .inl 0)], [], τ) := by
    intro τ R hL
    obtain ⟨a1, a2, a3, a4, a6, a7⟩ := hL
    refine M.1 [270] 60 _ ?_
    refine ret rfl (a1 _ _) ⟨by unfold aLrn; rw [if_pos hnn]; exact a3.1, ?_⟩
    unfold sLrn pLrn
    rw [if_pos hnn, if_pos hnn]
    refine ⟨a1, a2, a3, fun t htt => ?_⟩
    unfold pNew
    by_cases c : t < 256
    · rw [if_pos (by omega)]
      exact a6 t c
    · rw [if_neg (by omega), show ((t : Int) - 256).toNat = t - 256 by omega]
      have := a7 (t - 256) (by omega)
      rwa [show 256 + (t - 256) = t by omega] at this
  have outer : ∀ (d : Nat) (ps' : PSt) (R : Rw) (τ : St), (ps'.length : Int) + d = n → LMt τ T ps' R P → plIn T R → vOk ps' → seg (FT T) (wT T) (tbl ps') 0 R T.length → lrn (wT T) d ps' R = psL T n → V (29, [(0, .inl 0), (1, .inr n), (2, .inr 1)], [], τ) := by
    intro d
    induction d with
    | zero =>
      intro ps' R τ hd hL hpl hvo hs hm
      have h3 := hL.2.2.1.1
      refine M.1 [266] 60 _ ?_
      refine ⟨by constructor <;> decide, fun c => absurd c (by decide), fun _ => ?_⟩
      refine ⟨⟨hL.1 _ _, hn⟩, fun c => ?_, fun c => absurd c (by omega)⟩
      refine M.2.2.2.2.2.1 _ (lpick_mem [0]) ?_
      have hm : ps' = psL T n := hm
      rw [hm] at hL
      exact done τ R hL
    | succ d ih =>
      intro ps' R τ hd hL hpl hvo hs hm
      have hL' := hL
      obtain ⟨hrt, htt, hvt, hR, hp1, hp2⟩ := hL
      have h3 := hvt.1
      have hR' := hR
      obtain ⟨hN, hN2, hh⟩ := hR
      have htok := seg_tok hs
      rw [tbl_len] at htok
      have h288 : tk288 R := fun q hq => by have := htok q hq; omega
      generalize hpp : prs (wT T) R = pp at *
      have hppl : pp.length ≤ 120 := by rw [← hpp]; exact Nat.le_trans (prs_len _ _) hN2
      have tok8 : ∀ i, i < R.length → 0 ≤ τ 8 i ∧ τ 8 i < 288 := by
        intro i hi
        have e := rowM_at hR' hi
        rw [e.1]
        refine h288 _ ?_
        rw [List.getD_eq_getElem?_getD, List.getElem?_eq_getElem hi]
        exact List.getElem_mem hi
      have brng : ∀ (o : List (Int × Int)) (b m : Int), bInv τ pp o R.length b m → -1 ≤ b ∧ b ≤ 120 ∧ 1 ≤ m ∧ m ≤ 120 := by
        intro o b m hb
        rcases hb with ⟨h1, h2, -⟩ | ⟨j, h1, h2, h3, h4, -⟩
        · omega
        · have := cnt_le (τ 8 j * 512 + τ 8 (j + 1)) pp
          omega
      -- behind the search
      have after : ∀ (b m : Int), bInv τ pp pp R.length b m → V (205, [(0, .inl 0), (1, .inr n), (3, .inr b), (4, .inr m)], [], τ) := by
        intro b m hb
        have hbr := brng pp b m hb
        refine M.1 [29, 244] 80 _ ?_
        refine ⟨by unfold inR; omega, fun c1 => ?_, fun c1 => ?_⟩
        · refine ⟨inR_0, fun _ => ?_, fun c => absurd rfl c⟩
          have hbn := bInv_n hb c1
          rw [← hpp] at hbn
          rw [lrn_n hbn] at hm
          rw [hm] at hL'
          refine M.1 [266] 60 _ ?_
          refine ⟨inR_0, fun _ => ?_, fun c => absurd rfl c⟩
          refine M.2.2.2.2.2.1 _ (lpick_mem [0]) ?_
          exact done τ R hL'
        · refine ⟨by constructor <;> decide, fun c => absurd c (by decide), fun _ => ?_⟩
          obtain ⟨j, rfl, hj, hBK, hmj⟩ := bInv_y hb c1
          have g1 := tok8 j (by omega)
          have g2 := tok8 (j + 1) hj
          refine ⟨⟨by omega, by omega⟩, ⟨by omega, by omega⟩, ?_⟩
          rw [Int.toNat_natCast, show ((j : Int) + 1).toNat = j + 1 by omega]
          obtain ⟨z, hz, ez⟩ := cnt_mem (κ := τ 8 j * 512 + τ 8 (j + 1)) (pp := pp) (by have := hBK.1; omega)
          rw [← hpp] at hz
          obtain ⟨b1, b2, -, p, -, hpl2, -, -⟩ := seg_pair hs (by omega) hz
          rw [ez] at b1 b2 hpl2
          have ea : (τ 8 j * 512 + τ 8 (j + 1)) / 512 = τ 8 j := by omega
          have eb : (τ 8 j * 512 + τ 8 (j + 1)) % 512 = τ 8 (j + 1) := by omega
          rw [ea] at b1 hpl2
          rw [eb] at b2 hpl2
          have hT120 := hx.1
          refine M.2.2.1 (vs := [.inr (τ 8 j), .inr (τ 8 (j + 1)), .inr m]) (rest := []) rfl oX6_learn_X6_keep rfl rfl (Nat.le_of_ble_eq_true rfl) rfl (c_X6_keep rfl hrt hvt hvo.2.2.1 (by omega) b1 b2 (by unfold inR; omega) (by omega)) (fun τ2 hp3 => ?_)
          obtain ⟨r2, f00, f01, f10, x2, v2, f7⟩ := hp3
          have t2 : textM τ2 T := textM_x htt f01 (x2 1 (by decide))
          have R2 : rowM τ2 R := by
            unfold rowM
            rw [f10, x2 8 (by decide), x2 9 (by decide)]
            exact hR'
          have f3 := v2.1
          simp only [List.length_append, List.length_singleton] at f3
          refine M.1 [260] 80 _ ?_
          refine M.2.2.1 (vs := [.inr (τ 8 j), .inr (τ 8 (j + 1)), .inr (255 + τ2 0 3)]) (rest := []) rfl oX6_learn_X6_join rfl rfl (Nat.le_of_ble_eq_true rfl) rfl (c_X6_join r2 t2 R2 hpl (by unfold inR; omega) (by unfold inR; omega) (by unfold inR; omega)) (fun τ3 hp4 => ?_)
          obtain ⟨r3, o3, -, x3, R3⟩ := hp4
          have hby := bestK_y hBK
          rw [← hpp] at hby hBK
          rw [lrn_y hby, ea, eb, hpp, ← hmj] at hm
          obtain ⟨q1, q2⟩ := vOk_step hx.1 hN2 hs (by omega) hvo hBK
          rw [ea, eb, hpp, ← hmj] at q1 q2
          rw [show 255 + τ2 0 3 = 256 + (ps'.length : Int) by omega] at R3
          refine M.1 [29] 80 _ ?_
          refine M.2.2.2.2.2.1 _ (lpick_mem [0, 1, 2]) ?_
          refine ih _ _ τ3 (by simp only [List.length_append, List.length_singleton]; omega) ⟨r3, textM_x t2 o3.1 (x3 1 (by decide)), vocM_x v2 o3.2 (x3 2 (by decide)) (x3 3 (by decide)) (x3 4 (by decide)) (x3 5 (by decide)) (x3 6 (by decide)), R3, ?_, ?_⟩ (mrg_pl (Q := fun x => 0 ≤ x ∧ x < (T.length : Int)) _ _ _ _ R.length R (Nat.le_refl _) hpl) q1 q2 hm
          · intro t ht8
            rw [x3 7 (by decide), f7, va_up_ne _ _ (by omega)]
            exact hp1 t ht8
          · intro i hi
            simp only [List.length_append, List.length_singleton] at hi
            rw [x3 7 (by decide), f7, tbl_snoc]
            unfold tl
            have hlen := tbl_len ps'
            rcases Nat.lt_or_ge i ps'.length with hc | hc
            · rw [tl_app (by omega), va_up_ne _ _ (by omega)]
              exact hp2 i hc
            · have e : i = (tbl ps').length := by omega
              rw [e, tl_new, hlen, va_up_self, List.length_append]
      have inner : ∀ (s : Rw) (i : Nat) (b m : Int) (o : List (Int × Int)), i + s.length = R.length → hold (τ 8) (τ 9) i s → (∀ q ∈ s, 0 ≤ q.2 ∧ q.2 < T.length) → o ++ prs (wT T) s = pp → bInv τ pp o R.length b m → V (49, [(0, .inl 0), (1, .inr n), (3, .inr b), (4, .inr m), (5, .inr (i : Int))], [], τ) := by
        intro s
        induction s with
        | nil =>
          intro i b m o hi hhs hps ho hb
          simp at hi
          simp only [prs, List.append_nil] at ho
          subst ho
          refine M.1 [205] 60 _ ?_
          refine ⟨⟨by unfold inR; omega, hrt _ _⟩, fun c => ?_, fun c => absurd c (by omega)⟩
          refine M.2.2.2.2.2.1 _ (lpick_mem [0, 1, 3, 4]) ?_
          exact after b m hb
        | cons q s ihs =>
          intro i b m o hi hhs hps ho hb
          simp only [List.length_cons] at hi
          obtain ⟨hq1, hq2, hhs'⟩ := hhs
          have hbr := brng o b m hb
          cases s with
          | nil =>
            simp at hi
            simp only [prs, List.append_nil] at ho
            subst ho
            refine M.1 [205] 60 _ ?_
            refine ⟨⟨by unfold inR; omega, hrt _ _⟩, fun c => ?_, fun c => absurd c (by omega)⟩
            refine M.2.2.2.2.2.1 _ (lpick_mem [0, 1, 3, 4]) ?_
            exact after b m hb
          | cons q2 s2 =>
            simp only [List.length_cons] at hi
            obtain ⟨hz1, hz2, hz3⟩ := hhs'
            have g1 := tok8 i (by omega)
            have g2 := tok8 (i + 1) (by omega)
            have hps' : ∀ z ∈ q2 :: s2, 0 ≤ z.2 ∧ z.2 < T.length := fun z hz => hps z (List.mem_cons_of_mem _ hz)
            have e1 : ((i : Int) + 1).toNat = i + 1 := by omega
            have skip : ∀ (b m : Int) (o : List (Int × Int)) (lv : List (Nat × aV)), o ++ prs (wT T) (q2 :: s2) = pp → bInv τ pp o R.length b m → V (199, [(0, .inl 0), (1, .inr n), (3, .inr b), (4, .inr m), (5, .inr (i : Int))], [], τ) := by
              intro b m o lv ho hb
              refine M.1 [49] 60 _ ?_
              exact ihs (i + 1) b m o (by simp only [List.length_cons]; omega) ⟨hz1, hz2, hz3⟩ hps' ho hb
            refine M.1 [79] 60 _ ?_
            refine ⟨⟨by unfold inR; omega, hrt _ _⟩, fun c => absurd c (by omega), fun c => ?_⟩
            refine ⟨⟨by omega, by omega⟩, ⟨by omega, by omega⟩, ?_⟩
            rw [Int.toNat_natCast, e1]
            refine M.2.1 (vs := [.inr (i : Int), .inr (τ 8 i), .inr (τ 8 (i + 1))]) (rest := []) rfl oX6_learn_X6_isPair rfl rfl (Nat.le_of_ble_eq_true rfl) rfl (c_X6_isPair hrt htt (by omega) (by omega) (fun _ => by rw [hz2]; exact hps' q2 List.mem_cons_self) (hrt _ _) (hrt _ _)) (fun r τ' _ hp3 => ?_)
            obtain ⟨rfl, rfl⟩ := hp3
            rw [hN, hz2]
            refine M.1 [105, 199] 60 _ ?_
            refine ⟨b01_r _, fun c2 => ?_, fun c2 => ?_⟩
            rotate_left
            · have c2 := b01_0.mp c2
              refine skip b m o [] ?_ hb
              rw [← ho, prs, if_neg (fun hw => c2 ⟨by omega, rfl, rfl, hw⟩)]
            have c2 := Classical.not_not.mp (fun h => c2 (b01_f h))
            have hw := c2.2.2.2
            refine ⟨⟨by omega, by omega⟩, ⟨by omega, by omega⟩, ?_⟩
            rw [Int.toNat_natCast, e1]
            refine M.2.1 (vs := [.inr (τ' 8 i), .inr (τ' 8 (i + 1))]) (rest := []) rfl oX6_learn_X6_countOf rfl rfl (Nat.le_of_ble_eq_true rfl) rfl (c_X6_countOf hrt htt hR' hpl h288 g1 g2) (fun r τ hin hp3 => ?_)
            obtain ⟨rfl, rfl⟩ := hp3
            rw [hpp] at hin ⊢
            obtain ⟨y, hy⟩ : ∃ x, x = cnt (τ 8 i * 512 + τ 8 (i + 1)) pp := ⟨_, rfl⟩
            rw [← hy] at hin ⊢
            have hyl := cnt_le (τ 8 i * 512 + τ 8 (i + 1)) pp
            have hyn := cnt_nn (τ 8 i * 512 + τ 8 (i + 1)) pp
            have hstep : prs (wT T) (q :: q2 :: s2) = (τ 8 i * 512 + τ 8 (i + 1), q.2) :: prs (wT T) (q2 :: s2) := by
              rw [prs, if_pos hw, hq1, hz1]
            have hy1 : 1 ≤ y := by
              have : cnt (τ 8 i * 512 + τ 8 (i + 1)) (o ++ prs (wT T) (q :: q2 :: s2)) = y := by rw [ho, hy]
              rw [cnt_app, hstep, cnt, if_pos rfl] at this
              have n1 := cnt_nn (τ 8 i * 512 + τ 8 (i + 1)) o
              have n2 := cnt_nn (τ 8 i * 512 + τ 8 (i + 1)) (prs (wT T) (q2 :: s2))
              omega
            have ho2 : (o ++ [(τ 8 i * 512 + τ 8 (i + 1), q.2)]) ++ prs (wT T) (q2 :: s2) = pp := by
              rw [← ho, hstep]
              simp
            -- both ends of the comparison
            have fin : ∀ tk : Bool, (tk = true ↔ (m < y ∨ (y = m ∧ ∃ j : Nat, b = (j : Int) ∧ τ 8 i * 512 + τ 8 (i + 1) < τ 8 j * 512 + τ 8 (j + 1)))) → V (199, [(0, .inl 0), (1, .inr n), (3, .inr (if tk then (i : Int) else b)), (4, .inr (if tk then y else m)), (5, .inr (i : Int))], [], τ) := by
              intro tk htk
              have := bInv_add (p := q.2) hb (show i + 1 < R.length by omega) (by omega) tk (by rw [← hy]; exact htk)
              rw [← hy] at this
              exact skip _ _ _ [] ho2 this
            have dec : ∀ ls : Int, (ls = 1 ∧ ∃ j : Nat, b = (j : Int) ∧ τ 8 i * 512 + τ 8 (i + 1) < τ 8 j * 512 + τ 8 (j + 1)) ∨ (ls = 0 ∧ ¬ ∃ j : Nat, b = (j : Int) ∧ τ 8 i * 512 + τ 8 (i + 1) < τ 8 j * 512 + τ 8 (j + 1)) → V (171, [(0, .inl 0), (1, .inr n), (3, .inr b), (4, .inr m), (5, .inr (i : Int)), (6, .inr y)], [.inr ls], τ) := by
              intro ls hls
              have yes : (m < y ∨ (y = m ∧ ∃ j : Nat, b = (j : Int) ∧ τ 8 i * 512 + τ 8 (i + 1) < τ 8 j * 512 + τ 8 (j + 1))) → V (192, [(0, .inl 0), (1, .inr n), (3, .inr b), (4, .inr m), (5, .inr (i : Int)), (6, .inr y)], [], τ) := by
                intro hyes
                have hf := fin true ⟨fun _ => hyes, fun _ => rfl⟩
                simp only [if_true] at hf
                refine M.1 [199] 60 _ ?_
                exact M.2.2.2.2.2.1 _ (lpick_mem [0, 1, 3, 4, 5]) hf
              have no : ¬ (m < y ∨ (y = m ∧ ∃ j : Nat, b = (j : Int) ∧ τ 8 i * 512 + τ 8 (i + 1) < τ 8 j * 512 + τ 8 (j + 1))) → V (199, [(0, .inl 0), (1, .inr n), (3, .inr b), (4, .inr m), (5, .inr (i : Int))], [], τ) := by
                intro hno
                have hf := fin false ⟨fun q => (Bool.false_ne_true q).elim, fun q => absurd q hno⟩
                simp only [Bool.false_eq_true, if_false] at hf
                exact hf
              refine M.1 [192, 199] 60 _ ?_
              refine ⟨⟨hin, by unfold inR; omega⟩, fun c5 => ?_, fun c5 => ?_⟩
              · exact M.2.2.2.2.2.1 _ (lpick_mem [0, 1, 3, 4, 5, 6]) (yes (Or.inl c5))
              · refine ⟨⟨hin, by unfold inR; omega⟩, fun c6 => ?_, fun c6 => ?_⟩
                · exact M.2.2.2.2.2.1 _ (lpick_mem [0, 1, 3, 4, 5]) (no (by omega))
                · rcases hls with ⟨rfl, hls⟩ | ⟨rfl, hls⟩
                  · refine ⟨by constructor <;> decide, fun c7 => absurd c7 (by decide), fun _ => ?_⟩
                    exact M.2.2.2.2.2.1 _ (lpick_mem [0, 1, 3, 4, 5, 6]) (yes (Or.inr ⟨c6, hls⟩))
                  · refine ⟨by constructor <;> decide, fun _ => ?_, fun c7 => absurd rfl c7⟩
                    refine M.2.2.2.2.2.1 _ (lpick_mem [0, 1, 3, 4, 5]) (no ?_)
                    rintro (q | q)
                    · omega
                    · exact hls q.2
            refine M.1 [171] 80 _ ?_
            refine ⟨by unfold inR; omega, fun c3 => ?_, fun c3 => ?_⟩
            · exact dec 0 (Or.inr ⟨rfl, fun ⟨j, hj, _⟩ => by omega⟩)
            · obtain ⟨j, hj⟩ : ∃ j : Nat, b = (j : Int) := ⟨b.toNat, by omega⟩
              have hjR : j + 1 < R.length := by
                rcases hb with ⟨h1, -⟩ | ⟨j', h1, h2, -⟩ <;> omega
              subst hj
              have k1 := tok8 j (by omega)
              have k2 := tok8 (j + 1) hjR
              have e2 : ((j : Int) + 1).toNat = j + 1 := by omega
              have less0 : ¬ τ 8 i * 512 + τ 8 (i + 1) < τ 8 j * 512 + τ 8 (j + 1) → ¬ ∃ j' : Nat, (j : Int) = (j' : Int) ∧ τ 8 i * 512 + τ 8 (i + 1) < τ 8 j' * 512 + τ 8 (j' + 1) := by
                rintro h ⟨j', e, h2⟩
                have : j' = j := by omega
                subst this
                exact h h2
              refine ⟨⟨by omega, by omega⟩, ⟨by omega, by omega⟩, ⟨hrt _ _, hrt _ _⟩, fun c4 => ?_, fun c4 => ?_⟩
              · simp only [Int.toNat_natCast] at c4
                exact dec 1 (Or.inl ⟨rfl, j, rfl, by omega⟩)
              · simp only [Int.toNat_natCast] at c4
                refine ⟨⟨by omega, by omega⟩, ⟨by omega, by omega⟩, ⟨hrt _ _, hrt _ _⟩, fun c5 => ?_, fun c5 => ?_⟩
                · simp only [Int.toNat_natCast] at c5
                  exact dec 0 (Or.inr ⟨rfl, less0 (by omega)⟩)
                · simp only [Int.toNat_natCast] at c5
                  refine ⟨⟨by omega, by omega⟩, ⟨by omega, by omega⟩, ⟨hrt _ _, hrt _ _⟩, fun c6 => ?_, fun c6 => ?_⟩
                  · rw [e1, e2] at c6
                    exact dec 0 (Or.inr ⟨rfl, less0 (by omega)⟩)
                  · rw [e1, e2] at c6
                    exact dec 1 (Or.inl ⟨rfl, j, rfl, by omega⟩)
      refine M.1 [49] 60 _ ?_
      refine ⟨by constructor <;> decide, fun c => absurd c (by decide), fun _ => ?_⟩
      refine ⟨⟨hrt _ _, hn⟩, fun c => absurd c (by omega), fun c => ?_⟩
      refine M.2.2.2.2.2.1 _ (lpick_mem [0, 1, 3, 4, 5]) ?_
      exact inner R 0 (-1) 1 [] (by simp) hh hpl (by rw [← hpp]; rfl) (Or.inl ⟨rfl, rfl, fun z hz => by simp at hz⟩)
  refine M.1 [24] 60 _ ?_
  refine ⟨by constructor <;> decide, fun _ => ?_, fun c => absurd c (by decide)⟩
  have ht0 : textM (stu τ 0 3 0) T := textM_x ht (by simp [stu, va_up]) (by simp [stu, va_up])
  refine M.2.2.1 (vs := []) (rest := []) rfl oX6_learn_X6_layBytes rfl rfl (Nat.le_of_ble_eq_true rfl) rfl (c_X6_layBytes (rng_stu hr inR_0 _ _) ht0) (fun υ hp2 => ?_)
  obtain ⟨p1, p2, p3, p4, p5⟩ := hp2
  refine M.1 [29] 60 _ ?_
  refine outer n.toNat [] (spT T) υ (by simp; omega) ⟨p1, textM_x ht0 p2.1 (p4 1 (by decide)), ⟨by rw [p2.2, stu_s]; rfl, by simp, fun t q hq => by simp at hq, fun j hj => by simp at hj⟩, p5, ?_, fun j hj => by simp at hj⟩ (spT_pl T) vOk_0 (seg_0 hx) rfl
  intro t ht8
  rw [p4 7 (by decide), stu_j _ _ _ (by decide)]
  exact hp t (by omega)
end M6
