/-! the shared state: text T, learned pairs ps (first, second, count), points P; and how the class holds it -/
def tbo (bs : List (List Int)) (t : Int) : List Int := if t < 256 then [t] else bs.getD (t - 256).toNat []
def tbl (ps : List (Int × Int × Int)) : List (List Int) := ps.foldl (fun bs q => bs ++ [tbo bs q.1 ++ tbo bs q.2.1]) []
theorem tbl_snoc (ps : List (Int × Int × Int)) (q : Int × Int × Int) : tbl (ps ++ [q]) = tbl ps ++ [tbo (tbl ps) q.1 ++ tbo (tbl ps) q.2.1] := by
  unfold tbl
  rw [List.foldl_append]
  rfl
theorem tbl_len (ps : List (Int × Int × Int)) : (tbl ps).length = ps.length := by
  have key : ∀ (ps : List (Int × Int × Int)) (bs : List (List Int)), (ps.foldl (fun bs q => bs ++ [tbo bs q.1 ++ tbo bs q.2.1]) bs).length = bs.length + ps.length := by
    intro ps
    induction ps with
    | nil => intro bs; rfl
    | cons q ps ih =>
      intro bs
      rw [List.foldl_cons, ih]
      simp
      omega
  have := key ps []
  simpa [tbl] using this
def textC (σ : St) (T : List Int) : Prop := σ 1 1 = T.length ∧ T.length ≤ 120 ∧ ∀ i, i < T.length → σ 6 i = T.getD i 0 ∧ 0 ≤ T.getD i 0 ∧ T.getD i 0 < 256
def vocC (σ : St) (ps : List (Int × Int × Int)) : Prop := σ 2 5 = ps.length ∧ ps.length ≤ 32 ∧ (∀ t q, ps[t]? = some q → σ 7 t = q.1 ∧ σ 8 t = q.2.1 ∧ σ 9 t = q.2.2) ∧ ∀ j, j < ps.length → σ 10 j = tl (tbl ps) j ∧ 0 ≤ σ 13 j ∧ σ 13 j + tl (tbl ps) j ≤ 120 ∧ ∀ i, i < tl (tbl ps) j → σ 12 (σ 13 j + i).toNat = ((tbl ps).getD j []).getD i 0
def ptsC (σ : St) (k : Nat) (P : Int → Int) : Prop := ∀ t : Nat, t < 256 + k → σ 11 t = P (t : Int)
def ptsR (k : Nat) (P : Int → Int) : Prop := ∀ t : Int, 0 ≤ t → t < 256 + k → -120 ≤ P t ∧ P t ≤ 120
section WG
variable {σ : St} {T : List Int} {ps : List (Int × Int × Int)} {P : Int → Int}
theorem voc_isL (hv : vocC σ ps) {j : Nat} (hj : j < ps.length) : isL σ (256 + (j : Int)) := by
  unfold isL
  rw [hv.1]
  omega
theorem voc_sz (hv : vocC σ ps) {j : Nat} (hj : j < ps.length) : szC σ (256 + (j : Int)) = tl (tbl ps) j := by
  rw [szC_l (voc_isL hv hj), show (256 + (j : Int) - 256).toNat = j by omega]
  exact (hv.2.2.2 j hj).1
theorem voc_by (hv : vocC σ ps) {j i : Nat} (hj : j < ps.length) (hi : i < tl (tbl ps) j) : byC σ (256 + (j : Int)) i = ((tbl ps).getD j []).getD i 0 := by
  obtain ⟨h1, h2, h3, h4⟩ := hv.2.2.2 j hj
  rw [byC_l (voc_isL hv hj), show (256 + (j : Int) - 256).toNat = j by omega, if_pos (by omega)]
  exact h4 i hi
theorem voc_st (ht : textC σ T) (hv : vocC σ ps) {j p : Nat} (hj : j < ps.length) : stP σ (256 + (j : Int)) (p : Int) ↔ fit T.length (fun i => T.getD i 0) (tbl ps) j p := by
  unfold stP fit
  rw [voc_sz hv hj, ht.1]
  constructor
  · rintro ⟨-, h2, h3⟩
    refine ⟨by omega, fun i hi => ?_⟩
    have := h3 i (by omega)
    rw [voc_by hv hj hi, show ((p : Int) + (i : Int)).toNat = p + i by omega, (ht.2.2 (p + i) (by omega)).1] at this
    exact this
  · rintro ⟨h2, h3⟩
    refine ⟨by omega, by omega, fun i hi => ?_⟩
    have hi : i < tl (tbl ps) j := by omega
    rw [voc_by hv hj hi, show ((p : Int) + (i : Int)).toNat = p + i by omega, (ht.2.2 (p + i) (by omega)).1]
    exact h3 i hi
theorem stp_tok {n : Nat} {F : Nat → Int} {bs : List (List Int)} (hF : ∀ i, i < n → 0 ≤ F i ∧ F i < 256) {p z : Nat} {t : Int} (h : stp n F bs p t z) : 0 ≤ t ∧ t < 256 + bs.length := by
  obtain ⟨hp, h | ⟨j, hj, h, -⟩⟩ := h
  · have := hF p hp
    omega
  · omega
theorem sm_bd {n : Nat} {F : Nat → Int} {bs : List (List Int)} (hF : ∀ i, i < n → 0 ≤ F i ∧ F i < 256) (hP : ptsR bs.length P) : ∀ {r : List Int} {p e : Nat}, pth n F bs p r e → -120 * (r.length : Int) ≤ sm P r ∧ sm P r ≤ 120 * (r.length : Int)
  | [], p, e, h => by simp [sm]
  | t :: r, p, e, h => by
    obtain ⟨z, h1, h2⟩ := h
    have h3 := stp_tok hF h1
    have h4 := hP t h3.1 h3.2
    have h5 := sm_bd hF hP h2
    simp only [sm, List.length_cons]
    omega
def dpAt (τ : St) (n : Nat) (F : Nat → Int) (bs : List (List Int)) (P : Int → Int) (rows : Nat → List Int) (p : Nat) : Prop :=
  pth n F bs p (rows p) n ∧ τ 20 p = sm P (rows p) ∧ τ 21 p = (rows p).length ∧ τ 22 p = (Nat.min (nB n F bs p) 1000000 : Nat) ∧ (p < n → ∃ z, stp n F bs p (τ 23 p) z ∧ rows p = τ 23 p :: rows (p + z)) ∧ ∀ row, pth n F bs p row n → ¬ bt P row (rows p)
def dpC (τ : St) (n : Nat) (F : Nat → Int) (bs : List (List Int)) (P : Int → Int) (lo : Nat) : Prop := ∃ rows : Nat → List Int, ∀ p, lo ≤ p → p ≤ n → dpAt τ n F bs P rows p
/-- at place p, with the bytes and the first t learned tokens tried -/
def inAt (τ : St) (n : Nat) (F : Nat → Int) (bs : List (List Int)) (P : Int → Int) (rows : Nat → List Int) (p t : Nat) : Prop :=
  ∃ z, stp n F bs p (τ 23 p) z ∧ (τ 23 p = F p ∨ ∃ j, j < t ∧ τ 23 p = 256 + (j : Int)) ∧ τ 20 p = sm P (τ 23 p :: rows (p + z)) ∧ τ 21 p = (rows (p + z)).length + 1 ∧ τ 22 p = (Nat.min (nB n F bs (p + 1) + sumf (fun j => iff0 (fit n F bs j p) (nB n F bs (p + tl bs j))) t) 1000000 : Nat) ∧ ∀ x r, (x = F p ∨ ∃ j, j < t ∧ x = 256 + (j : Int)) → pth n F bs p (x :: r) n → ¬ bt P (x :: r) (τ 23 p :: rows (p + z))
theorem bt_cons {x : Int} {r s : List Int} (h : bt P (x :: r) (x :: s)) : bt P r s := by
  unfold bt at *
  simp only [sm, List.length_cons] at h
  rcases h with h | ⟨e, h | ⟨e2, h⟩⟩
  · left; omega
  · right; exact ⟨by omega, Or.inl (by omega)⟩
  · refine Or.inr ⟨by omega, Or.inr ⟨by omega, ?_⟩⟩
    rcases h with h | ⟨-, h⟩
    · omega
    · exact h
theorem inAt_0 {τ : St} {n : Nat} {F : Nat → Int} {bs : List (List Int)} {rows : Nat → List Int} {p : Nat} (hF : ∀ i, i < n → 0 ≤ F i ∧ F i < 256) (hp : p < n) (hd : dpAt τ n F bs P rows (p + 1)) (h20 : τ 20 p = P (F p) + τ 20 (p + 1)) (h21 : τ 21 p = 1 + τ 21 (p + 1)) (h22 : τ 22 p = τ 22 (p + 1)) (h23 : τ 23 p = F p) : inAt τ n F bs P rows p 0 := by
  obtain ⟨d1, d2, d3, d4, d5, d6⟩ := hd
  refine ⟨1, ⟨hp, Or.inl ⟨h23, rfl⟩⟩, Or.inl h23, by rw [h20, d2, h23]; rfl, by rw [h21, d3]; omega, by rw [h22, d4]; simp [sumf], ?_⟩
  intro x r hx hpth hb
  rcases hx with hx | ⟨j, hj, -⟩
  · obtain ⟨z, hs, hr⟩ := hpth
    have hz : z = 1 := stp_fun (hF p hp).2 hs ⟨hp, Or.inl ⟨hx, rfl⟩⟩
    subst hz
    rw [h23, hx] at hb
    exact d6 r hr (bt_cons hb)
  · omega
theorem min_cap (a b : Nat) : Nat.min (Nat.min a 1000000 + Nat.min b 1000000) 1000000 = Nat.min (a + b) 1000000 := by
  simp only [Nat.min_def]
  split <;> split <;> split <;> (try split) <;> omega
theorem inAt_skip {τ : St} {n : Nat} {F : Nat → Int} {bs : List (List Int)} {rows : Nat → List Int} {p t : Nat} (hF : ∀ i, i < n → 0 ≤ F i ∧ F i < 256) (h : inAt τ n F bs P rows p t) (hf : ¬ fit n F bs t p) : inAt τ n F bs P rows p (t + 1) := by
  obtain ⟨z, h1, h2, h3, h4, h5, h6⟩ := h
  refine ⟨z, h1, ?_, h3, h4, ?_, ?_⟩
  · rcases h2 with h2 | ⟨j, hj, h2⟩
    · exact Or.inl h2
    · exact Or.inr ⟨j, by omega, h2⟩
  · rw [h5, sumf, iff0_f hf]
    rfl
  · intro x r hx hp
    rcases hx with hx | ⟨j, hj, hx⟩
    · exact h6 x r (Or.inl hx) hp
    · rcases Nat.lt_or_ge j t with hc | hc
      · exact h6 x r (Or.inr ⟨j, hc, hx⟩) hp
      · exfalso
        have : j = t := by omega
        subst this
        obtain ⟨z', hs, -⟩ := hp
        obtain ⟨hpn, hs | ⟨j', hj', hs, -, hf'⟩⟩ := hs
        · have := hF p hpn
          omega
        · have : j' = j := by omega
          subst this
          exact hf hf'
theorem inAt_add {τ υ : St} {n : Nat} {F : Nat → Int} {bs : List (List Int)} {rows : Nat → List Int} {p t : Nat} (hF : ∀ i, i < n → 0 ≤ F i ∧ F i < 256) (hb : bsOk bs) (ht : t < bs.length) (hp : p < n) (h : inAt τ n F bs P rows p t) (hf : fit n F bs t p) (hd : dpAt τ n F bs P rows (p + tl bs t))
    (h22 : υ 22 p = if τ 22 p + τ 22 (p + tl bs t) < 1000000 then τ 22 p + τ 22 (p + tl bs t) else 1000000)
    (hc : (¬ (τ 20 p < P (256 + (t : Int)) + τ 20 (p + tl bs t) ∨ (P (256 + (t : Int)) + τ 20 (p + tl bs t) = τ 20 p ∧ 1 + τ 21 (p + tl bs t) < τ 21 p)) ∧ υ 20 p = τ 20 p ∧ υ 21 p = τ 21 p ∧ υ 23 p = τ 23 p) ∨ ((τ 20 p < P (256 + (t : Int)) + τ 20 (p + tl bs t) ∨ (P (256 + (t : Int)) + τ 20 (p + tl bs t) = τ 20 p ∧ 1 + τ 21 (p + tl bs t) < τ 21 p)) ∧ υ 20 p = P (256 + (t : Int)) + τ 20 (p + tl bs t) ∧ υ 21 p = 1 + τ 21 (p + tl bs t) ∧ υ 23 p = 256 + (t : Int))) : inAt υ n F bs P rows p (t + 1) := by
  obtain ⟨z, h1, h2, h3, h4, h5, h6⟩ := h
  obtain ⟨d1, d2, d3, d4, d5, d6⟩ := hd
  have hst : stp n F bs p (256 + (t : Int)) (tl bs t) := ⟨hp, Or.inr ⟨t, ht, rfl, rfl, hf⟩⟩
  have hm : υ 22 p = (Nat.min (nB n F bs (p + 1) + sumf (fun j => iff0 (fit n F bs j p) (nB n F bs (p + tl bs j))) (t + 1)) 1000000 : Nat) := by
    rw [h22, h5, d4, sumf, iff0_t hf, ← Nat.add_assoc, ← min_cap (nB n F bs (p + 1) + sumf (fun j => iff0 (fit n F bs j p) (nB n F bs (p + tl bs j))) t)]
    generalize Nat.min (nB n F bs (p + 1) + sumf (fun j => iff0 (fit n F bs j p) (nB n F bs (p + tl bs j))) t) 1000000 = a
    generalize Nat.min (nB n F bs (p + tl bs t)) 1000000 = b
    simp only [Nat.min_def]
    split <;> split <;> omega
  -- any row that begins with the new token is no better than the new one
  have new : ∀ r, pth n F bs p ((256 + (t : Int)) :: r) n → ¬ bt P ((256 + (t : Int)) :: r) ((256 + (t : Int)) :: rows (p + tl bs t)) := by
    intro r hr hbt
    obtain ⟨z', hs, hr⟩ := hr
    have hz : z' = tl bs t := stp_fun (hF p hp).2 hs hst
    subst hz
    exact d6 r hr (bt_cons hbt)
  rcases hc with ⟨hn, e20, e21, e23⟩ | ⟨hy, e20, e21, e23⟩
  · refine ⟨z, by rw [e23]; exact h1, ?_, by rw [e20, e23]; exact h3, by rw [e21]; exact h4, hm, ?_⟩
    · rw [e23]
      rcases h2 with h2 | ⟨j, hj, h2⟩
      · exact Or.inl h2
      · exact Or.inr ⟨j, by omega, h2⟩
    · intro x r hx hpr hbt
      rw [e23] at hbt
      have old : (x = F p ∨ ∃ j, j < t ∧ x = 256 + (j : Int)) → False := fun hx => h6 x r hx hpr hbt
      rcases hx with hx | ⟨j, hj, hx⟩
      · exact old (Or.inl hx)
      · rcases Nat.lt_or_ge j t with hc | hc
        · exact old (Or.inr ⟨j, hc, hx⟩)
        · have : j = t := by omega
          subst this
          subst hx
          refine new r hpr (bt_trans hbt ?_)
          -- the old one is ahead of the new one
          have hlt : τ 23 p < 256 + (j : Int) := by
            rcases h2 with h2 | ⟨j', hj', h2⟩
            · have := hF p hp
              omega
            · omega
          rw [h3, d2, h4, d3] at hn
          unfold bt
          simp only [sm, List.length_cons] at hn ⊢
          by_cases q1 : P (256 + (j : Int)) + sm P (rows (p + tl bs j)) < P (τ 23 p) + sm P (rows (p + z))
          · exact Or.inl q1
          · refine Or.inr ⟨by omega, ?_⟩
            by_cases q2 : (rows (p + z)).length + 1 < (rows (p + tl bs j)).length + 1
            · exact Or.inl q2
            · exact Or.inr ⟨by omega, Or.inl hlt⟩
  · refine ⟨tl bs t, by rw [e23]; exact hst, Or.inr ⟨t, by omega, e23⟩, by rw [e20, e23, d2]; rfl, by rw [e21, d3]; omega, hm, ?_⟩
    intro x r hx hpr hbt
    rw [e23] at hbt
    have old : (x = F p ∨ ∃ j, j < t ∧ x = 256 + (j : Int)) → False := fun hx => by
      refine h6 x r hx hpr (bt_trans hbt ?_)
      rw [h3, d2, h4, d3] at hy
      unfold bt
      simp only [sm, List.length_cons] at hy ⊢
      rcases hy with hy | ⟨hy, hy2⟩
      · exact Or.inl (by omega)
      · exact Or.inr ⟨by omega, Or.inl (by omega)⟩
    rcases hx with hx | ⟨j, hj, hx⟩
    · exact old (Or.inl hx)
    · rcases Nat.lt_or_ge j t with hc | hc
      · exact old (Or.inr ⟨j, hc, hx⟩)
      · have : j = t := by omega
        subst this
        subst hx
        exact new r hpr hbt
theorem dpAt_congr {τ υ : St} {n : Nat} {F : Nat → Int} {bs : List (List Int)} {rows : Nat → List Int} {p : Nat} (h : dpAt τ n F bs P rows p) (h20 : υ 20 p = τ 20 p) (h21 : υ 21 p = τ 21 p) (h22 : υ 22 p = τ 22 p) (h23 : υ 23 p = τ 23 p) : dpAt υ n F bs P rows p := by
  unfold dpAt at *
  rw [h20, h21, h22, h23]
  exact h
theorem dpC_step {τ : St} {n : Nat} {F : Nat → Int} {bs : List (List Int)} {rows : Nat → List Int} {p : Nat} (hF : ∀ i, i < n → 0 ≤ F i ∧ F i < 256) (hb : bsOk bs) (hp : p < n) (h : inAt τ n F bs P rows p bs.length) (hd : ∀ q, p + 1 ≤ q → q ≤ n → dpAt τ n F bs P rows q) : dpC τ n F bs P p := by
  obtain ⟨z, h1, h2, h3, h4, h5, h6⟩ := h
  have hz := stp_le h1 hb
  refine ⟨va_up rows p (τ 23 p :: rows (p + z)), fun q hq hqn => ?_⟩
  by_cases e : q = p
  · subst e
    unfold dpAt
    rw [va_up_self]
    refine ⟨⟨z, h1, (hd (q + z) (by omega) (by omega)).1⟩, h3, by rw [h4]; simp, by rw [h5, ← nB_p hb hp], fun _ => ⟨z, h1, by rw [va_up_ne _ _ (by omega)]⟩, ?_⟩
    intro row hr
    cases row with
    | nil => have : q = n := hr; omega
    | cons x r =>
      refine h6 x r ?_ hr
      obtain ⟨z', hs, -⟩ := hr
      obtain ⟨-, hs | ⟨j, hj, hs, -⟩⟩ := hs
      · exact Or.inl hs.1
      · exact Or.inr ⟨j, hj, hs⟩
  · obtain ⟨d1, d2, d3, d4, d5, d6⟩ := hd q (by omega) hqn
    unfold dpAt
    rw [va_up_ne _ _ e]
    refine ⟨d1, d2, d3, d4, fun hqn => ?_, d6⟩
    obtain ⟨z', hs, hr⟩ := d5 hqn
    have := stp_le hs hb
    exact ⟨z', hs, by rw [va_up_ne _ _ (by omega)]; exact hr⟩
theorem dpC_n {τ : St} {n : Nat} {F : Nat → Int} {bs : List (List Int)} (hb : bsOk bs) (h20 : τ 20 n = 0) (h21 : τ 21 n = 0) (h22 : τ 22 n = 1) : dpC τ n F bs P n := by
  refine ⟨fun _ => [], fun p hp hpn => ?_⟩
  have : p = n := by omega
  subst this
  refine ⟨rfl, h20, h21, by rw [nB_n, h22]; rfl, fun h => by omega, ?_⟩
  intro row hr
  have := (pth_le hb hr).1
  have e : row = [] := List.length_eq_zero_iff.mp (by omega)
  rw [e]
  exact bt_irr []
end WG
