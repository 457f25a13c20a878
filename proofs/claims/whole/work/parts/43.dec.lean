/-! PairTokens.decode: to an answer, or to its throw at 29 -/
theorem okV_mono {R R' : Room} {own : String} {Ts : List Cond} {idx : Nat} {C : String} {y : MethodName} {ws : List Cond} {rm : Room} {n : Nat} (h : okV R own Ts idx C y ws rm n) (h1 : R.frames ≤ R'.frames) (h2 : R.locals ≤ R'.locals) : okV R' own Ts idx C y ws rm n := by
  obtain ⟨a, b, c, d, q1, q2, q3, q4, q5, q6, q7⟩ := h
  exact ⟨a, b, c, d, q1, q2, q3, q4, q5, Nat.le_trans q6 h1, Nat.le_trans q7 h2⟩
section Dec
variable {l : Launch} {D : va_G} {cA : Nat → ClassId} {ad : Nat → Nat} {σ : St} {T : List Int} {ps : PSt} {P : Int → Int}
theorem dec_walk {R : Room} (hf : 2 ≤ R.frames) (hlo : 80 ≤ R.locals) {t i : Int} (h : RC σ T ps P) (ht' : inR t) (hi : inR i) (V : aS → Prop) (M : Mach l R RX5 wsX5_decode tX5_decode fX5_decode pX5_decode [] D cA ad LC 3 V)
    (ret : ∀ {pc nxt tgt : Nat} {lv : List (Nat × aV)} {x : Int}, nget pc tX5_decode = some (.ireturn, nxt, tgt) → inR x → ¬ dThr ps t i → x = aDec ps t i → V (pc, lv, [.inr x], σ))
    (thr : dThr ps t i → ∀ lv : List (Nat × aV), V (29, lv, [], σ)) : V (0, lnum 0 [.inl 0, .inr t, .inr i], [], σ) := by
  have o1 := okV_mono (R' := R) oX5_decode_X4_isToken hf hlo
  have o2 := okV_mono (R' := R) oX5_decode_X4_sizeOf hf hlo
  have o3 := okV_mono (R' := R) oX5_decode_X4_byteOf hf hlo
  obtain ⟨hr, ht, hv, hp⟩ := h
  have hk := kC_of hr ht hv
  have hl := hv.1
  refine M.1 [5] 60 _ ?_
  refine M.2.1 (vs := [.inr t]) (rest := []) rfl o1 rfl rfl (Nat.le_of_ble_eq_true rfl) rfl (c_X4_isToken ht' hk) (fun r τ _ hp' => ?_)
  obtain ⟨rfl, rfl⟩ := hp'
  rw [hl]
  refine M.1 [12, 23, 29] 60 _ ?_
  refine ⟨b01_r _, fun c1 => ?_, fun c1 => ?_⟩
  · have h1 := Classical.not_not.mp (fun h => c1 (b01_f h))
    refine ⟨hi, fun c2 => ?_, fun c2 => ?_⟩
    · exact thr ⟨h1, by omega⟩ _
    · refine M.2.1 (vs := [.inr t]) (rest := [.inr i]) rfl o2 rfl rfl (Nat.le_of_ble_eq_true rfl) rfl (c_X4_sizeOf ht' hk) (fun r τ hin hp' => ?_)
      obtain ⟨rfl, rfl⟩ := hp'
      rw [sz_tbo hv h1] at hin ⊢
      refine M.1 [29, 45] 60 _ ?_
      refine ⟨⟨hi, hin⟩, fun c3 => ?_, fun c3 => ?_⟩
      · have hin2 : isL τ t → inR (τ 13 (t - 256).toNat + i) := by
          intro q
          have q' := q
          unfold isL at q'
          have := hv.2.2.2 (t - 256).toNat (by omega)
          unfold tbo at c3
          rw [if_neg (by omega)] at c3
          unfold inR
          have e : tl (tbl ps) (t - 256).toNat = ((tbl ps).getD (t - 256).toNat []).length := rfl
          omega
        refine M.2.1 (vs := [.inr t, .inr i]) (rest := []) rfl o3 rfl rfl (Nat.le_of_ble_eq_true rfl) rfl (c_X4_byteOf ht' hk hin2) (fun r τ2 hin3 hp' => ?_)
        obtain ⟨rfl, rfl⟩ := hp'
        refine ret rfl hin3 (fun q => q.2 (by omega)) ?_
        unfold aDec
        rw [if_pos h1]
        by_cases e : t < 256
        · rw [byC_b (fun q => by have := q.1; omega)]
          unfold tbo at c3 ⊢
          rw [if_pos e] at c3 ⊢
          have : i = 0 := by
            have : ([t] : List Int).length = 1 := rfl
            omega
          subst this
          rfl
        · have e2 : t = 256 + (((t - 256).toNat : Nat) : Int) := by omega
          have e3 : i = (i.toNat : Int) := by omega
          unfold tbo at c3 ⊢
          rw [if_neg e] at c3 ⊢
          have := voc_by hv (j := (t - 256).toNat) (i := i.toNat) (by omega) (by show i.toNat < ((tbl ps).getD (t - 256).toNat []).length; omega)
          rw [← e2, ← e3] at this
          exact this
      · exact thr ⟨h1, by omega⟩ _
  · have h1 := b01_0.mp c1
    refine ret rfl (by constructor <;> decide) (fun q => h1 q.1) ?_
    unfold aDec
    rw [if_neg h1]
theorem c_X5_decode {t i : Int} (h : RC σ T ps P) (ht' : inR t) (hi : inR i) (hn : ¬ dThr ps t i) : Ci l yX5_decode wsX5_decode (rh 2) D cA ad LC [.inl 0, .inr t, .inr i] σ (fun r τ => r = aDec ps t i ∧ τ = σ) := by
  refine Ci.walk fX5_decode pX5_decode [] (by decide) rfl LC_ok tX5_decode_ok fX5_decode_ok pX5_decode_ok klOk_0 (Nat.le_of_ble_eq_true rfl) (fun V M ret => ?_)
  exact dec_walk (Nat.le_refl _) (Nat.le_refl _) h ht' hi V M (fun h1 h2 _ h4 => ret h1 h2 ⟨h4, rfl⟩) (fun q => absurd q hn)
end Dec
