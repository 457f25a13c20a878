/-! learning, told purely -/
def BK (pp : List (Int × Int)) (κ : Int) : Prop := 2 ≤ cnt κ pp ∧ ∀ q ∈ pp, cnt q.1 pp ≤ cnt κ pp ∧ (cnt q.1 pp = cnt κ pp → κ ≤ q.1)
theorem cnt_mem {κ : Int} : ∀ {pp : List (Int × Int)}, 0 < cnt κ pp → ∃ q ∈ pp, q.1 = κ
  | [], h => by simp [cnt] at h
  | q :: pp, h => by
    unfold cnt at h
    by_cases e : q.1 = κ
    · exact ⟨q, List.mem_cons_self, e⟩
    · rw [if_neg e, Int.zero_add] at h
      obtain ⟨z, hz, e2⟩ := cnt_mem h
      exact ⟨z, List.mem_cons_of_mem _ hz, e2⟩
theorem BK_uniq {pp : List (Int × Int)} {κ κ' : Int} (h : BK pp κ) (h' : BK pp κ') : κ = κ' := by
  obtain ⟨q, hq, e⟩ := cnt_mem (κ := κ) (pp := pp) (by have := h.1; omega)
  obtain ⟨q', hq', e'⟩ := cnt_mem (κ := κ') (pp := pp) (by have := h'.1; omega)
  have a := h.2 q' hq'
  have b := h'.2 q hq
  rw [e'] at a
  rw [e] at b
  have := a.2 (by omega)
  have := b.2 (by omega)
  omega
noncomputable def bestK (pp : List (Int × Int)) : Option Int := @dite _ (∃ κ, BK pp κ) (Classical.propDecidable _) (fun h => some h.choose) (fun _ => none)
theorem bestK_y {pp : List (Int × Int)} {κ : Int} (h : BK pp κ) : bestK pp = some κ := by
  have hx : ∃ κ, BK pp κ := ⟨κ, h⟩
  unfold bestK
  rw [dif_pos hx, BK_uniq hx.choose_spec h]
theorem bestK_n {pp : List (Int × Int)} (h : ∀ κ, ¬ BK pp κ) : bestK pp = none := by
  unfold bestK
  rw [dif_neg (fun ⟨κ, q⟩ => h κ q)]
theorem bestK_ok {pp : List (Int × Int)} {κ : Int} (h : bestK pp = some κ) : BK pp κ := by
  unfold bestK at h
  split at h
  · rename_i hx
    have e : hx.choose = κ := Option.some.inj h
    rw [← e]
    exact hx.choose_spec
  · cases h
noncomputable def lrn (w : Int → Int) : Nat → PSt → Rw → PSt
  | 0, ps, _ => ps
  | m + 1, ps, R => match bestK (prs w R) with
    | none => ps
    | some κ => lrn w m (ps ++ [(κ / 512, κ % 512, cnt κ (prs w R))]) (mrg w (κ / 512) (κ % 512) (256 + (ps.length : Int)) R)
theorem lrn_n {w : Int → Int} {m : Nat} {ps : PSt} {R : Rw} (h : bestK (prs w R) = none) : lrn w m ps R = ps := by
  cases m with
  | zero => rfl
  | succ m => rw [lrn, h]
theorem lrn_y {w : Int → Int} {m : Nat} {ps : PSt} {R : Rw} {κ : Int} (h : bestK (prs w R) = some κ) : lrn w (m + 1) ps R = lrn w m (ps ++ [(κ / 512, κ % 512, cnt κ (prs w R))]) (mrg w (κ / 512) (κ % 512) (256 + (ps.length : Int)) R) := by
  rw [lrn, h]
def seg (F : Nat → Int) (w : Int → Int) (bs : List (List Int)) : Nat → Rw → Nat → Prop
  | s, [], e => s = e
  | s, q :: r, e => (q.2 = (s : Int) ∧ 0 ≤ q.1 ∧ q.1 < 256 + bs.length ∧ (∀ i, i < (tbo bs q.1).length → F (s + i) = (tbo bs q.1).getD i 0) ∧ (∀ i, 1 ≤ i → i < (tbo bs q.1).length → w ((s + i : Nat) : Int) = 0)) ∧ seg F w bs (s + (tbo bs q.1).length) r e
theorem seg_spl (F : Nat → Int) (w : Int → Int) : ∀ {n : Nat}, (∀ i, i < n → 0 ≤ F i ∧ F i < 256) → seg F w [] 0 (spl F n) n := by
  have app : ∀ (r : Rw) (s e m : Nat) (q : Int × Int), seg F w [] s r e → (q.2 = (e : Int) ∧ 0 ≤ q.1 ∧ q.1 < 256 ∧ F e = q.1) → m = e + 1 → seg F w [] s (r ++ [q]) m := by
    intro r
    induction r with
    | nil =>
      intro s e m q h hq hm
      have : s = e := h
      subst this
      have ht : tbo [] q.1 = [q.1] := by unfold tbo; rw [if_pos hq.2.2.1]
      refine ⟨⟨hq.1, hq.2.1, by simp; omega, ?_, ?_⟩, ?_⟩
      · rw [ht]
        intro i hi
        simp at hi
        subst hi
        simp [hq.2.2.2]
      · rw [ht]
        intro i h1 hi
        simp at hi
        omega
      · rw [ht]
        exact hm.symm
    | cons a r ih =>
      intro s e m q h hq hm
      exact ⟨h.1, ih _ e m q h.2 hq hm⟩
  intro n
  induction n with
  | zero => intro _; rfl
  | succ n ih =>
    intro h
    exact app _ 0 n _ _ (ih (fun i hi => h i (by omega))) ⟨rfl, (h n (by omega)).1, (h n (by omega)).2, rfl⟩ rfl
theorem tbo_pos {bs : List (List Int)} (hb : bsOk bs) {t : Int} (h : t < 256 + bs.length) : 1 ≤ (tbo bs t).length := by
  unfold tbo
  split
  · simp
  · have := hb (t - 256).toNat (by omega)
    unfold tl at this
    omega
theorem tbo_app {bs : List (List Int)} {B : List Int} {t : Int} (h : t < 256 + bs.length) : tbo (bs ++ [B]) t = tbo bs t := by
  unfold tbo
  split
  · rfl
  · rw [List.getD_eq_getElem?_getD, List.getD_eq_getElem?_getD, List.getElem?_append_left (by omega)]
theorem tbo_new (bs : List (List Int)) (B : List Int) : tbo (bs ++ [B]) (256 + (bs.length : Int)) = B := by
  unfold tbo
  rw [if_neg (by omega), show (256 + (bs.length : Int) - 256).toNat = bs.length by omega, List.getD_eq_getElem?_getD]
  simp
theorem getD_app (A B : List Int) (i : Nat) : (A ++ B).getD i 0 = if i < A.length then A.getD i 0 else B.getD (i - A.length) 0 := by
  rw [List.getD_eq_getElem?_getD, List.getElem?_append]
  split
  · rw [← List.getD_eq_getElem?_getD]
  · rw [← List.getD_eq_getElem?_getD]
theorem seg_mrg {F : Nat → Int} {w : Int → Int} {bs : List (List Int)} {a b : Int} (hb : bsOk bs) : ∀ (k : Nat) {R : Rw} {s e : Nat}, R.length ≤ k → seg F w bs s R e → seg F w (bs ++ [tbo bs a ++ tbo bs b]) s (mrg w a b (256 + (bs.length : Int)) R) e
  | _, [], s, e, _, h => h
  | _, [q], s, e, _, h => by
    obtain ⟨⟨h1, h2, h3, h4, h5⟩, h6⟩ := h
    refine ⟨⟨h1, h2, by simp; omega, ?_, ?_⟩, ?_⟩ <;> rw [tbo_app h3]
    · exact h4
    · exact h5
    · exact h6
  | 0, q :: q2 :: r, s, e, hk, _ => by simp at hk
  | k + 1, q :: q2 :: r, s, e, hk, h => by
    have h0 := h
    obtain ⟨⟨h1, h2, h3, h4, h5⟩, ⟨g1, g2, g3, g4, g5⟩, g6⟩ := h
    by_cases c : q.1 = a ∧ q2.1 = b ∧ w q2.2 = 0
    · rw [mrg_y c]
      obtain ⟨ca, cb, cw⟩ := c
      rw [ca] at h4 h5 g1 g4 g5 g6
      rw [cb] at g4 g5 g6
      refine ⟨⟨h1, by omega, by simp; omega, ?_, ?_⟩, ?_⟩ <;> rw [tbo_new]
      · intro i hi
        rw [List.length_append] at hi
        rw [getD_app]
        split
        · exact h4 i (by omega)
        · have := g4 (i - (tbo bs a).length) (by omega)
          rw [← this]
          congr 1
          omega
      · intro i hi1 hi
        rw [List.length_append] at hi
        rcases Nat.lt_trichotomy i (tbo bs a).length with hc | hc | hc
        · exact h5 i hi1 hc
        · rw [hc, ← g1]
          exact cw
        · have := g5 (i - (tbo bs a).length) (by omega) (by omega)
          rwa [show s + (tbo bs a).length + (i - (tbo bs a).length) = s + i by omega] at this
      · rw [List.length_append, ← Nat.add_assoc]
        exact seg_mrg hb k (by simp only [List.length_cons] at hk; omega) g6
    · rw [mrg_n c]
      refine ⟨⟨h1, h2, by simp; omega, ?_, ?_⟩, ?_⟩ <;> rw [tbo_app h3]
      · exact h4
      · exact h5
      · exact seg_mrg hb k (by simp only [List.length_cons] at hk ⊢; omega) h0.2
theorem seg_split {F : Nat → Int} {w : Int → Int} {bs : List (List Int)} : ∀ {A B : Rw} {s e : Nat}, seg F w bs s (A ++ B) e → ∃ m, s ≤ m ∧ seg F w bs s A m ∧ seg F w bs m B e
  | [], B, s, e, h => ⟨s, Nat.le_refl _, rfl, h⟩
  | q :: A, B, s, e, h => by
    obtain ⟨m, h1, h2, h3⟩ := seg_split h.2
    exact ⟨m, by omega, ⟨h.1, h2⟩, h3⟩
theorem seg_le {F : Nat → Int} {w : Int → Int} {bs : List (List Int)} : ∀ {R : Rw} {s e : Nat}, seg F w bs s R e → s ≤ e
  | [], s, e, h => by have : s = e := h; omega
  | q :: R, s, e, h => by have := seg_le h.2; omega
theorem seg_tok {F : Nat → Int} {w : Int → Int} {bs : List (List Int)} : ∀ {R : Rw} {s e : Nat}, seg F w bs s R e → ∀ q ∈ R, 0 ≤ q.1 ∧ q.1 < 256 + bs.length
  | [], _, _, _, q, hq => by simp at hq
  | a :: R, s, e, h, q, hq => by
    rcases List.mem_cons.mp hq with rfl | hq
    · exact ⟨h.1.2.1, h.1.2.2.1⟩
    · exact seg_tok h.2 q hq
theorem prs_mem {w : Int → Int} : ∀ {R : Rw} {z : Int × Int}, z ∈ prs w R → ∃ A q q2 r, R = A ++ q :: q2 :: r ∧ w q2.2 = 0 ∧ z = (q.1 * 512 + q2.1, q.2)
  | [], z, h => by simp [prs] at h
  | [q], z, h => by simp [prs] at h
  | q :: q2 :: r, z, h => by
    rw [prs] at h
    split at h
    · rename_i hw
      rcases List.mem_cons.mp h with e | h
      · exact ⟨[], q, q2, r, rfl, hw, e⟩
      · obtain ⟨A, a, b, c, e1, e2, e3⟩ := prs_mem h
        exact ⟨q :: A, a, b, c, by rw [e1]; rfl, e2, e3⟩
    · obtain ⟨A, a, b, c, e1, e2, e3⟩ := prs_mem h
      exact ⟨q :: A, a, b, c, by rw [e1]; rfl, e2, e3⟩
def noW (B : List Int) : Prop := ∀ i, 1 ≤ i → i < B.length → ¬ (B.getD i 0 = 32 ∧ B.getD (i - 1) 0 ≠ 32)
def psOk (ps : PSt) : Prop := ∀ (t : Nat) (q : Int × Int × Int), ps[t]? = some q → (0 ≤ q.1 ∧ q.1 < 256 + (t : Int)) ∧ (0 ≤ q.2.1 ∧ q.2.1 < 256 + (t : Int)) ∧ 0 ≤ q.2.2 ∧ q.2.2 ≤ 120
def vOk (ps : PSt) : Prop := psOk ps ∧ bsOk (tbl ps) ∧ (∀ j, j < ps.length → tl (tbl ps) j ≤ 120) ∧ ∀ j, j < ps.length → noW ((tbl ps).getD j [])
/-- what a pair that stands in the row tells -/
theorem seg_pair {T : List Int} {ps : PSt} {R : Rw} {z : Int × Int} (hs : seg (FT T) (wT T) (tbl ps) 0 R T.length) (hl : ps.length ≤ 32) (h : z ∈ prs (wT T) R) : (0 ≤ z.1 / 512 ∧ z.1 / 512 < 256 + ps.length) ∧ (0 ≤ z.1 % 512 ∧ z.1 % 512 < 256 + ps.length) ∧ 0 ≤ z.1 ∧ ∃ p : Nat, z.2 = (p : Int) ∧ p + (tbo (tbl ps) (z.1 / 512)).length + (tbo (tbl ps) (z.1 % 512)).length ≤ T.length ∧ (∀ i, i < (tbo (tbl ps) (z.1 / 512) ++ tbo (tbl ps) (z.1 % 512)).length → FT T (p + i) = (tbo (tbl ps) (z.1 / 512) ++ tbo (tbl ps) (z.1 % 512)).getD i 0) ∧ (∀ i, 1 ≤ i → i < (tbo (tbl ps) (z.1 / 512) ++ tbo (tbl ps) (z.1 % 512)).length → wT T ((p + i : Nat) : Int) = 0) := by
  obtain ⟨A, q, q2, r, rfl, hw, rfl⟩ := prs_mem h
  obtain ⟨m, -, -, hm⟩ := seg_split hs
  obtain ⟨⟨h1, h2, h3, h4, h5⟩, ⟨g1, g2, g3, g4, g5⟩, g6⟩ := hm
  rw [tbl_len] at h3 g3
  have e1 : (q.1 * 512 + q2.1) / 512 = q.1 := by omega
  have e2 : (q.1 * 512 + q2.1) % 512 = q2.1 := by omega
  have hle := seg_le g6
  show (0 ≤ (q.1 * 512 + q2.1) / 512 ∧ _) ∧ _
  simp only [e1, e2]
  refine ⟨⟨h2, h3⟩, ⟨g2, g3⟩, by omega, m, h1, hle, ?_, ?_⟩
  · intro i hi
    rw [List.length_append] at hi
    rw [getD_app]
    split
    · exact h4 i (by omega)
    · have := g4 (i - (tbo (tbl ps) q.1).length) (by omega)
      rw [← this]
      congr 1
      omega
  · intro i hi1 hi
    rw [List.length_append] at hi
    rcases Nat.lt_trichotomy i (tbo (tbl ps) q.1).length with hc | hc | hc
    · exact h5 i hi1 hc
    · rw [hc, ← g1]
      exact hw
    · have := g5 (i - (tbo (tbl ps) q.1).length) (by omega) (by omega)
      rwa [show m + (tbo (tbl ps) q.1).length + (i - (tbo (tbl ps) q.1).length) = m + i by omega] at this
theorem prs_len (w : Int → Int) : ∀ (R : Rw), (prs w R).length ≤ R.length
  | [] => by simp [prs]
  | [q] => by simp [prs]
  | q :: q2 :: r => by
    have := prs_len w (q2 :: r)
    rw [prs]
    simp only [List.length_cons] at this ⊢
    split
    · simp only [List.length_cons]; omega
    · omega
theorem mrg_len (w : Int → Int) (a b t : Int) : ∀ (k : Nat) (R : Rw), R.length ≤ k → (mrg w a b t R).length ≤ R.length
  | _, [], _ => by simp [mrg]
  | _, [q], _ => by simp [mrg]
  | 0, q :: q2 :: r, h => by simp at h
  | k + 1, q :: q2 :: r, h => by
    simp only [List.length_cons] at h
    by_cases c : q.1 = a ∧ q2.1 = b ∧ w q2.2 = 0
    · rw [mrg_y c]
      have := mrg_len w a b t k r (by omega)
      simp only [List.length_cons]
      omega
    · rw [mrg_n c]
      have := mrg_len w a b t k (q2 :: r) (by simp only [List.length_cons]; omega)
      simp only [List.length_cons] at this ⊢
      omega
theorem tl_app {bs : List (List Int)} {B : List Int} {j : Nat} (h : j < bs.length) : (bs ++ [B]).getD j [] = bs.getD j [] := by
  rw [List.getD_eq_getElem?_getD, List.getD_eq_getElem?_getD, List.getElem?_append_left h]
theorem tl_new (bs : List (List Int)) (B : List Int) : (bs ++ [B]).getD bs.length [] = B := by
  rw [List.getD_eq_getElem?_getD]
  simp
/-- learning one more keeps all that is asked of the learned ones -/
theorem vOk_step {T : List Int} {ps : PSt} {R : Rw} {κ : Int} (hT : T.length ≤ 120) (hR : R.length ≤ 120) (hs : seg (FT T) (wT T) (tbl ps) 0 R T.length) (hl : ps.length ≤ 32) (hv : vOk ps) (hk : BK (prs (wT T) R) κ) : vOk (ps ++ [(κ / 512, κ % 512, cnt κ (prs (wT T) R))]) ∧ seg (FT T) (wT T) (tbl (ps ++ [(κ / 512, κ % 512, cnt κ (prs (wT T) R))])) 0 (mrg (wT T) (κ / 512) (κ % 512) (256 + (ps.length : Int)) R) T.length := by
  obtain ⟨v1, v2, v3, v4⟩ := hv
  obtain ⟨z, hz, ez⟩ := cnt_mem (κ := κ) (pp := prs (wT T) R) (by have := hk.1; omega)
  obtain ⟨b1, b2, -, p, hp, hpl, hpf, hpw⟩ := seg_pair hs hl hz
  rw [ez] at b1 b2 hpl hpf hpw
  have hlen := tbl_len ps
  have c1 := cnt_le κ (prs (wT T) R)
  have c2 := prs_len (wT T) R
  have ta := tbo_pos v2 (t := κ / 512) (by omega)
  have tb := tbo_pos v2 (t := κ % 512) (by omega)
  refine ⟨⟨?_, ?_, ?_, ?_⟩, ?_⟩
  · intro t q hq
    rw [List.getElem?_append] at hq
    split at hq
    · exact v1 t q hq
    · rename_i ht
      have e : t = ps.length := by
        rcases Nat.lt_or_ge (t - ps.length) 1 with h | h
        · omega
        · rw [List.getElem?_eq_none (by simp; omega)] at hq
          cases hq
      subst e
      simp at hq
      subst hq
      have := hk.1
      exact ⟨b1, b2, by show 0 ≤ cnt κ (prs (wT T) R); omega, by show cnt κ (prs (wT T) R) ≤ 120; omega⟩
  · intro j hj
    rw [tbl_snoc] at hj ⊢
    unfold tl
    rw [List.length_append, List.length_singleton] at hj
    rcases Nat.lt_or_ge j (tbl ps).length with h | h
    · rw [tl_app h]
      exact v2 j h
    · rw [show j = (tbl ps).length by omega, tl_new, List.length_append]
      show 2 ≤ (tbo (tbl ps) (κ / 512)).length + (tbo (tbl ps) (κ % 512)).length
      omega
  · intro j hj
    rw [tbl_snoc]
    unfold tl
    rw [List.length_append, List.length_singleton] at hj
    rcases Nat.lt_or_ge j (tbl ps).length with h | h
    · rw [tl_app h]
      exact v3 j (by omega)
    · rw [show j = (tbl ps).length by omega, tl_new, List.length_append]
      show (tbo (tbl ps) (κ / 512)).length + (tbo (tbl ps) (κ % 512)).length ≤ 120
      omega
  · intro j hj
    rw [tbl_snoc]
    rw [List.length_append, List.length_singleton] at hj
    rcases Nat.lt_or_ge j (tbl ps).length with h | h
    · rw [tl_app h]
      exact v4 j (by omega)
    · rw [show j = (tbl ps).length by omega, tl_new]
      intro i hi1 hi hc
      have hi' : i < (tbo (tbl ps) (κ / 512) ++ tbo (tbl ps) (κ % 512)).length := hi
      have e1 := hpf i hi'
      have e2 := hpf (i - 1) (by omega)
      have e3 := hpw i hi1 hi'
      have h9 : ¬ bwP (FT T) T.length ((p + i : Nat) : Int) := b01_0.mp e3
      apply h9
      rw [List.length_append] at hi'
      refine ⟨by omega, by omega, Or.inr ?_⟩
      rw [Int.toNat_natCast, show (((p + i : Nat) : Int) - 1).toNat = p + (i - 1) by omega, e1, e2]
      exact hc
  · rw [tbl_snoc, ← hlen]
    exact seg_mrg v2 R.length (Nat.le_refl _) hs
