/-! the reference: how it holds the shared state -/
def textM (σ : St) (T : List Int) : Prop := σ 0 1 = T.length ∧ T.length ≤ 120 ∧ ∀ i, i < T.length → σ 1 i = T.getD i 0 ∧ 0 ≤ T.getD i 0 ∧ T.getD i 0 < 256
def vocM (σ : St) (ps : PSt) : Prop := σ 0 3 = ps.length ∧ ps.length ≤ 32 ∧ (∀ t q, ps[t]? = some q → σ 2 t = q.1 ∧ σ 3 t = q.2.1 ∧ σ 4 t = q.2.2) ∧ ∀ j, j < ps.length → σ 5 j = tl (tbl ps) j ∧ ∀ i, i < tl (tbl ps) j → σ 6 (120 * j + i) = ((tbl ps).getD j []).getD i 0
def ptsM (σ : St) (k : Nat) (P : Int → Int) : Prop := ∀ t : Nat, t < 256 + k → σ 7 t = P (t : Int)
def RM (σ : St) (T : List Int) (ps : PSt) (P : Int → Int) : Prop := rng σ ∧ textM σ T ∧ vocM σ ps ∧ ptsM σ ps.length P
def ob (σ τ : St) : Prop := τ 0 1 = σ 0 1 ∧ τ 0 3 = σ 0 3
theorem textM_x {σ τ : St} {T : List Int} (h : textM σ T) (h1 : τ 0 1 = σ 0 1) (h2 : τ 1 = σ 1) : textM τ T := by
  unfold textM
  rw [h1, h2]
  exact h
theorem vocM_x {σ τ : St} {ps : PSt} (h : vocM σ ps) (h1 : τ 0 3 = σ 0 3) (h2 : τ 2 = σ 2) (h3 : τ 3 = σ 3) (h4 : τ 4 = σ 4) (h5 : τ 5 = σ 5) (h6 : τ 6 = σ 6) : vocM τ ps := by
  unfold vocM
  rw [h1, h2, h3, h4, h5, h6]
  exact h
theorem RM_x {σ τ : St} {T : List Int} {ps : PSt} {P : Int → Int} (h : RM σ T ps P) (hr : rng τ) (ho : ob σ τ) (hx : eqx [0, 8, 9, 10, 11, 12, 13] σ τ) : RM τ T ps P :=
  ⟨hr, textM_x h.2.1 ho.1 (hx 1 (by decide)), vocM_x h.2.2.1 ho.2 (hx 2 (by decide)) (hx 3 (by decide)) (hx 4 (by decide)) (hx 5 (by decide)) (hx 6 (by decide)), fun t ht => by rw [hx 7 (by decide)]; exact h.2.2.2 t ht⟩
/-- the first thing that each call of the reference does -/
theorem RM_c {σ : St} {T : List Int} {ps : PSt} {P : Int → Int} (h : RM σ T ps P) {v : Int} (hv : inR v) : RM (stu σ 0 0 v) T ps P :=
  RM_x h (rng_stu h.1 hv _ _) ⟨by simp [stu, va_up], by simp [stu, va_up]⟩ (eqx_stu eqx_rfl (by decide) _ _)
section M1
variable {l : Launch} {D : va_G} {cA : Nat → ClassId} {ad : Nat → Nat} {σ : St} {T : List Int} {ps : PSt} {P : Int → Int}
theorem c_X6_in {v a b : Int} (hv : inR v) (ha : inR a) (hb : inR b) : Ci l yX6_in wsX6_in (rh 0) D cA ad LM [.inr v, .inr a, .inr b] σ (fun r τ => τ = σ ∧ r = b01 (a ≤ v ∧ v ≤ b)) := by
  refine Ci.walkZ fX6_in pX6_in [] (by decide) rfl LM_ok tX6_in_ok fX6_in_ok pX6_in_ok klOk_0 (Nat.le_of_ble_eq_true rfl) (fun V M ret => ?_)
  refine M.1 [15] 60 _ ?_
  refine ⟨⟨hv, ha⟩, fun c1 => ?_, fun c1 => ?_⟩
  · exact ret rfl (Or.inl rfl) ⟨rfl, by rw [b01_f]; omega⟩
  · refine ⟨⟨hv, hb⟩, fun c2 => ?_, fun c2 => ?_⟩
    · exact ret rfl (Or.inl rfl) ⟨rfl, by rw [b01_f]; omega⟩
    · exact ret rfl (Or.inr rfl) ⟨rfl, by rw [b01_t]; omega⟩
theorem c_X6_thrown (hr : rng σ) : Ci l yX6_thrown wsX6_thrown (rh 0) D cA ad LM [.inl 0] σ (fun r τ => τ = σ ∧ r = σ 0 0) := by
  refine Ci.walk fX6_thrown pX6_thrown [] (by decide) rfl LM_ok tX6_thrown_ok fX6_thrown_ok pX6_thrown_ok klOk_0 (Nat.le_of_ble_eq_true rfl) (fun V M ret => ?_)
  refine M.1 [4] 60 _ ?_
  exact ret rfl (hr _ _) ⟨rfl, rfl⟩
theorem c_X6_beginsWord {i : Int} (hr : rng σ) (h0 : 0 ≤ i) (h1 : i < 120) : Ci l yX6_beginsWord wsX6_beginsWord (rh 0) D cA ad LM [.inl 0, .inr i] σ (fun r τ => τ = σ ∧ r = b01 (i = 0 ∨ (σ 1 i.toNat = 32 ∧ σ 1 (i - 1).toNat ≠ 32))) := by
  refine Ci.walkZ fX6_beginsWord pX6_beginsWord [] (by decide) rfl LM_ok tX6_beginsWord_ok fX6_beginsWord_ok pX6_beginsWord_ok klOk_0 (Nat.le_of_ble_eq_true rfl) (fun V M ret => ?_)
  refine M.1 [33] 60 _ ?_
  refine ⟨by unfold inR; omega, fun c1 => ?_, fun c1 => ?_⟩
  · exact ret rfl (Or.inr rfl) ⟨rfl, by rw [b01_t]; omega⟩
  · refine ⟨⟨by omega, by omega⟩, ⟨hr _ _, by constructor <;> decide⟩, fun c2 => ?_, fun c2 => ?_⟩
    · exact ret rfl (Or.inl rfl) ⟨rfl, by rw [b01_f]; omega⟩
    · refine ⟨⟨by omega, by omega⟩, ⟨hr _ _, by constructor <;> decide⟩, fun c3 => ?_, fun c3 => ?_⟩
      · exact ret rfl (Or.inl rfl) ⟨rfl, by rw [b01_f]; omega⟩
      · exact ret rfl (Or.inr rfl) ⟨rfl, by rw [b01_t]; omega⟩
theorem bw_M (ht : textM σ T) {i : Int} (h0 : 0 ≤ i) (h1 : i < T.length) : b01 (i = 0 ∨ (σ 1 i.toNat = 32 ∧ σ 1 (i - 1).toNat ≠ 32)) = wT T i := by
  unfold wT
  apply b01_c
  unfold bwP
  by_cases h : i = 0
  · subst h
    simp
    omega
  · rw [(ht.2.2 i.toNat (by omega)).1, (ht.2.2 (i - 1).toNat (by omega)).1]
    show _ ↔ 0 ≤ i ∧ i < T.length ∧ (i = 0 ∨ (T.getD i.toNat 0 = 32 ∧ T.getD (i - 1).toNat 0 ≠ 32))
    omega
theorem c_X6_octet {b : Int} (h : RM σ T ps P) (hb : inR b) : Ci l yX6_octet wsX6_octet (rh 1) D cA ad LM [.inl 0, .inr b] σ (fun r τ => r = aOct T b ∧ RM τ (tOct T b) ps P) := by
  refine Ci.walk fX6_octet pX6_octet [] (by decide) rfl LM_ok tX6_octet_ok fX6_octet_ok pX6_octet_ok klOk_0 (Nat.le_of_ble_eq_true rfl) (fun V M ret => ?_)
  suffices start : ∀ σ : St, RM σ T ps P → V (5, lnum 0 [.inl 0, .inr b], [], σ) by
    refine M.1 [5] 60 _ ?_
    exact start _ (RM_c h inR_0)
  clear h
  intro σ h
  refine M.1 [10] 60 _ ?_
  have h' := h
  obtain ⟨hr, ht, hv, hp⟩ := h
  have h11 := ht.1
  have hn := ht.2.1
  refine M.2.2.2.1 (vs := [.inr b, .inr 0, .inr 255]) (rest := []) rfl oX6_octet_X6_in (Nat.le_of_ble_eq_true rfl) rfl (c_X6_in hb inR_0 (by constructor <;> decide)) (fun r τ _ hp2 => ?_)
  obtain ⟨rfl, rfl⟩ := hp2
  refine M.1 [18, 30, 55] 60 _ ?_
  refine ⟨b01_r _, fun c1 => ?_, fun c1 => ?_⟩
  · have c1 := Classical.not_not.mp (fun h => c1 (b01_f h))
    refine ⟨⟨hr _ _, by constructor <;> decide⟩, fun c2 => ?_, fun c2 => ?_⟩
    · refine ⟨⟨by omega, by omega⟩, ?_⟩
      refine ret rfl ?_ ⟨?_, ?_, ?_, ?_, ?_⟩
      · rw [stu_s, stu_j _ _ _ (by decide), h11]
        unfold inR
        omega
      · unfold aOct
        rw [stu_s, stu_j _ _ _ (by decide), if_pos (by omega), if_pos (by omega), h11]
      · refine rng_stu (rng_stu hr hb _ _) ?_ _ _
        rw [stu_j _ _ _ (by decide), h11]
        unfold inR
        omega
      · unfold tOct
        rw [if_pos (by omega), h11, Int.toNat_natCast]
        refine ⟨by rw [stu_s, stu_j _ _ _ (by decide), h11]; simp, by simp; omega, fun i hi => ?_⟩
        simp only [List.length_append, List.length_singleton] at hi
        rw [stu_j _ _ _ (by decide), getD_snoc]
        by_cases e : i = T.length
        · rw [e, stu_s, if_neg (by omega), if_pos rfl]
          omega
        · rw [stu_i _ _ _ e, if_pos (by omega)]
          exact ht.2.2 i (by omega)
      · exact vocM_x hv (by simp [stu, va_up]) (by simp [stu, va_up]) (by simp [stu, va_up]) (by simp [stu, va_up]) (by simp [stu, va_up]) (by simp [stu, va_up])
      · intro t htt
        simp [stu, va_up]
        exact hp t htt
    · refine ret rfl (by constructor <;> decide) ⟨by unfold aOct; rw [if_pos (by omega), if_neg (by omega)], ?_⟩
      unfold tOct
      rw [if_neg (by omega)]
      exact h'
  · have c1 := b01_0.mp c1
    refine ret rfl (by constructor <;> decide) ⟨by unfold aOct; rw [if_neg (by omega)], ?_⟩
    unfold tOct
    rw [if_neg (by omega)]
    exact h'
theorem c_X6_cut {n : Int} (h : RM σ T ps P) (hb : inR n) : Ci l yX6_cut wsX6_cut (rh 1) D cA ad LM [.inl 0, .inr n] σ (fun r τ => r = aCut T n ∧ RM τ (tCut T n) ps P) := by
  refine Ci.walk fX6_cut pX6_cut [] (by decide) rfl LM_ok tX6_cut_ok fX6_cut_ok pX6_cut_ok klOk_0 (Nat.le_of_ble_eq_true rfl) (fun V M ret => ?_)
  suffices start : ∀ σ : St, RM σ T ps P → V (5, lnum 0 [.inl 0, .inr n], [], σ) by
    refine M.1 [5] 60 _ ?_
    exact start _ (RM_c h inR_0)
  clear h
  intro σ h
  refine M.1 [11] 60 _ ?_
  have h' := h
  obtain ⟨hr, ht, hv, hp⟩ := h
  have h11 := ht.1
  have hn := ht.2.1
  refine M.2.2.2.1 (vs := [.inr n, .inr 0, .inr (σ 0 1)]) (rest := []) rfl oX6_cut_X6_in (Nat.le_of_ble_eq_true rfl) rfl (c_X6_in hb inR_0 (hr _ _)) (fun r τ _ hp2 => ?_)
  obtain ⟨rfl, rfl⟩ := hp2
  rw [h11]
  refine M.1 [19, 31] 60 _ ?_
  refine ⟨b01_r _, fun c1 => ?_, fun c1 => ?_⟩
  · have c1 := Classical.not_not.mp (fun h => c1 (b01_f h))
    refine ret rfl (hr _ _) ⟨?_, rng_stu hr hb _ _, ?_, ?_, ?_⟩
    · unfold aCut
      rw [if_pos (by omega)]
      exact h11
    · unfold tCut
      rw [if_pos (by omega)]
      refine ⟨by rw [stu_s, List.length_take]; omega, by rw [List.length_take]; omega, fun i hi => ?_⟩
      rw [List.length_take] at hi
      rw [stu_j _ _ _ (by decide), getD_take _ (by omega)]
      exact ht.2.2 i (by omega)
    · exact vocM_x hv (by simp [stu, va_up]) (by simp [stu, va_up]) (by simp [stu, va_up]) (by simp [stu, va_up]) (by simp [stu, va_up]) (by simp [stu, va_up])
    · intro t htt
      simp [stu, va_up]
      exact hp t htt
  · have c1 := b01_0.mp c1
    refine ret rfl (by constructor <;> decide) ⟨by unfold aCut; rw [if_neg (by omega)], ?_⟩
    unfold tCut
    rw [if_neg (by omega)]
    exact h'
theorem c_X6_byteAt {i : Int} (h : RM σ T ps P) (hb : inR i) : Ci l yX6_byteAt wsX6_byteAt (rh 1) D cA ad LM [.inl 0, .inr i] σ (fun r τ => r = aByt T i ∧ RM τ T ps P) := by
  refine Ci.walk fX6_byteAt pX6_byteAt [] (by decide) rfl LM_ok tX6_byteAt_ok fX6_byteAt_ok pX6_byteAt_ok klOk_0 (Nat.le_of_ble_eq_true rfl) (fun V M ret => ?_)
  suffices start : ∀ σ : St, RM σ T ps P → V (5, lnum 0 [.inl 0, .inr i], [], σ) by
    refine M.1 [5] 60 _ ?_
    exact start _ (RM_c h inR_0)
  clear h
  intro σ h
  refine M.1 [13] 60 _ ?_
  have h' := h
  obtain ⟨hr, ht, hv, hp⟩ := h
  have h11 := ht.1
  have hn := ht.2.1
  refine M.2.2.2.1 (vs := [.inr i, .inr 0, .inr (σ 0 1 - 1)]) (rest := []) rfl oX6_byteAt_X6_in (Nat.le_of_ble_eq_true rfl) rfl (c_X6_in hb inR_0 (by rw [h11]; unfold inR; omega)) (fun r τ _ hp2 => ?_)
  obtain ⟨rfl, rfl⟩ := hp2
  rw [h11]
  refine M.1 [29] 60 _ ?_
  refine ⟨b01_r _, fun c1 => ?_, fun c1 => ?_⟩
  · have c1 := b01_0.mp c1
    exact ret rfl (by constructor <;> decide) ⟨by unfold aByt; rw [if_neg (by omega)], h'⟩
  · have c1 := Classical.not_not.mp (fun h => c1 (b01_f h))
    refine ⟨⟨by omega, by omega⟩, ?_⟩
    exact ret rfl (hr _ _) ⟨by unfold aByt; rw [if_pos (by omega), (ht.2.2 i.toNat (by omega)).1], h'⟩
theorem nw_b (T : List Int) (i : Nat) : 0 ≤ nw (wT T) i ∧ nw (wT T) i ≤ i := by
  induction i with
  | zero => simp [nw]
  | succ i ih =>
    have := wT_01 T (i : Int)
    unfold nw
    omega
theorem c_X6_words (h : RM σ T ps P) : Ci l yX6_words wsX6_words (rh 1) D cA ad LM [.inl 0] σ (fun r τ => r = aWrd T ∧ RM τ T ps P) := by
  refine Ci.walk fX6_words pX6_words [] (by decide) rfl LM_ok tX6_words_ok fX6_words_ok pX6_words_ok klOk_0 (Nat.le_of_ble_eq_true rfl) (fun V M ret => ?_)
  refine M.1 [9] 60 _ ?_
  have h := RM_c h inR_0
  have h' := h
  have key : ∀ υ, RM υ T ps P → ∀ (d i : Nat), i + d = T.length → V (9, [(0, .inl 0), (1, .inr (nw (wT T) i)), (2, .inr (i : Int))], [], υ) := by
    intro υ h
    have h' := h
    obtain ⟨hr, ht, hv, hp⟩ := h
    have h11 := ht.1
    have hn := ht.2.1
    intro d
    induction d with
    | zero =>
      intro i hi
      have e : i = T.length := by omega
      subst e
      refine M.1 [40] 60 _ ?_
      refine ⟨⟨by unfold inR; omega, hr _ _⟩, fun c1 => ?_, fun c1 => absurd c1 (by omega)⟩
      have := nw_b T T.length
      exact ret rfl (by unfold inR; omega) ⟨rfl, h'⟩
    | succ d ih =>
      intro i hi
      refine M.1 [20] 60 _ ?_
      refine ⟨⟨by unfold inR; omega, hr _ _⟩, fun c1 => absurd c1 (by omega), fun c1 => ?_⟩
      refine M.2.1 (vs := [.inr (i : Int)]) (rest := [.inr (nw (wT T) i)]) rfl oX6_words_X6_beginsWord rfl rfl (Nat.le_of_ble_eq_true rfl) rfl (c_X6_beginsWord hr (by omega) (by omega)) (fun r τ _ hp' => ?_)
      obtain ⟨rfl, rfl⟩ := hp'
      rw [bw_M ht (by omega) (by omega)]
      have hh := ih (i + 1) (by omega)
      unfold nw at hh
      refine M.1 [9] 60 _ ?_
      refine ⟨b01_r _, fun c2 => ?_, fun c2 => ?_⟩
      · rw [show wT T (i : Int) = 0 from c2] at hh
        exact hh
      · rw [show wT T (i : Int) = 1 from (wT_01 T i).resolve_left c2] at hh
        exact hh
  exact key _ h T.length 0 (by omega)
def rowM (σ : St) (R : Rw) : Prop := σ 0 10 = R.length ∧ R.length ≤ 120 ∧ hold (σ 8) (σ 9) 0 R
theorem c_X6_layBytes (hr : rng σ) (ht : textM σ T) : Cv l yX6_layBytes wsX6_layBytes (rh 0) D cA ad LM [.inl 0] σ (fun τ => rng τ ∧ ob σ τ ∧ τ 0 0 = σ 0 0 ∧ eqx [0, 8, 9] σ τ ∧ rowM τ (spT T)) := by
  have h11 := ht.1
  have hn := ht.2.1
  refine Cv.walk fX6_layBytes pX6_layBytes [] (by decide) rfl LM_ok tX6_layBytes_ok fX6_layBytes_ok pX6_layBytes_ok klOk_0 (Nat.le_of_ble_eq_true rfl) (fun V M ret => ?_)
  have loop : ∀ (d i : Nat) (τ : St), i + d = T.length → rng τ → ob σ τ → τ 0 0 = σ 0 0 → eqx [0, 8, 9] σ τ → τ 0 10 = T.length → (∀ j : Nat, j < i → τ 8 j = FT T j ∧ τ 9 j = (j : Int)) → V (10, [(0, .inl 0), (1, .inr (i : Int))], [], τ) := by
    intro d
    induction d with
    | zero =>
      intro i τ hi hrt ho h00 hx h32 hw
      have e : i = T.length := by omega
      subst e
      have ho1 := ho.1
      refine M.1 [43] 60 _ ?_
      refine ⟨⟨by unfold inR; omega, hrt _ _⟩, fun c1 => ?_, fun c1 => absurd c1 (by omega)⟩
      refine ret rfl ⟨hrt, ho, h00, hx, ?_, ?_, ?_⟩
      · rw [h32]; unfold spT; rw [spl_len]
      · unfold spT; rw [spl_len]; omega
      · exact hold_spl hw
    | succ d ih =>
      intro i τ hi hrt ho h00 hx h32 hw
      have ho1 := ho.1
      have e1 : τ 1 i = FT T i := by rw [hx 1 (by decide)]; exact (ht.2.2 i (by omega)).1
      refine M.1 [10] 60 _ ?_
      refine ⟨⟨by unfold inR; omega, hrt _ _⟩, fun c1 => absurd c1 (by omega), fun c1 => ?_⟩
      refine ⟨⟨by omega, by omega⟩, ⟨by omega, by omega⟩, ⟨by omega, by omega⟩, ?_⟩
      rw [Int.toNat_natCast, e1]
      have hFi : inR (FT T i) := by rw [← e1]; exact hrt _ _
      refine ih (i + 1) _ (by omega) (rng_stu (rng_stu hrt hFi _ _) (by unfold inR; omega) _ _) ⟨by simp [stu, va_up, ho.1], by simp [stu, va_up, ho.2]⟩ (by simp [stu, va_up, h00]) (eqx_stu (eqx_stu hx (by decide) _ _) (by decide) _ _) (by simp [stu, va_up, h32]) (fun j hj => ?_)
      by_cases e : j = i
      · subst e
        simp [stu, va_up]
      · have := hw j (by omega)
        simp [stu, va_up, e, this]
  refine M.1 [10] 60 _ ?_
  refine loop T.length 0 _ (by omega) (rng_stu hr (hr _ _) _ _) ⟨by simp [stu, va_up], by simp [stu, va_up]⟩ (by simp [stu, va_up]) (eqx_stu eqx_rfl (by decide) _ _) (by rw [stu_s]; exact h11) (fun j hj => absurd hj (by omega))
end M1
