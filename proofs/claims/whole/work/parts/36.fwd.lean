/-! the reference's forward table, told purely -/
theorem lx_appr_inv : ∀ {r s : List Int} (u : List Int), r.length = s.length → lx (r ++ u) (s ++ u) → lx r s
  | [], [], u, _, h => (lx_irr u h).elim
  | [], _ :: _, _, h, _ => by simp at h
  | _ :: _, [], _, h, _ => by simp at h
  | a :: r, b :: s, u, h, hl => by
    rcases hl with hl | ⟨e, hl⟩
    · exact Or.inl hl
    · exact Or.inr ⟨e, lx_appr_inv u (by simpa using h) hl⟩
theorem bt_appr_inv {P : Int → Int} {r s : List Int} (u : List Int) (h : bt P (r ++ u) (s ++ u)) : bt P r s := by
  unfold bt at *
  rw [sm_app, sm_app, List.length_append, List.length_append] at h
  rcases h with h | ⟨e, h | ⟨e2, h⟩⟩
  · left; omega
  · right; exact ⟨by omega, Or.inl (by omega)⟩
  · right; exact ⟨by omega, Or.inr ⟨by omega, lx_appr_inv u (by omega) h⟩⟩
theorem lx_appl_iff {r s : List Int} : ∀ (u : List Int), lx (u ++ r) (u ++ s) ↔ lx r s
  | [] => Iff.rfl
  | a :: u => by
    constructor
    · rintro (h | ⟨-, h⟩)
      · omega
      · exact (lx_appl_iff u).mp h
    · intro h
      exact Or.inr ⟨rfl, (lx_appl_iff u).mpr h⟩
theorem pth_last {n : Nat} {F : Nat → Int} {bs : List (List Int)} {r : List Int} {q : Nat} (h : pth n F bs 0 r q) (hq : 0 < q) : ∃ r' t p z, r = r' ++ [t] ∧ pth n F bs 0 r' p ∧ stp n F bs p t z ∧ p + z = q := by
  rcases List.eq_nil_or_concat r with e | ⟨r', t, e⟩
  · subst e
    have : 0 = q := h
    omega
  · rw [List.concat_eq_append] at e
    subst e
    obtain ⟨p, h1, z, h2, h3⟩ := pth_app.mp h
    exact ⟨r', t, p, z, rfl, h1, h2, h3⟩
theorem pth_snoc {n : Nat} {F : Nat → Int} {bs : List (List Int)} {r : List Int} {p z : Nat} {t : Int} (h : pth n F bs 0 r p) (hs : stp n F bs p t z) : pth n F bs 0 (r ++ [t]) (p + z) := pth_app.mpr ⟨p, h, z, hs, rfl⟩
theorem pth_by {n : Nat} {F : Nat → Int} {bs : List (List Int)} : ∀ {q : Nat}, q ≤ n → ∃ r, pth n F bs 0 r q
  | 0, _ => ⟨[], rfl⟩
  | q + 1, h => by
    obtain ⟨r, hr⟩ := pth_by (n := n) (F := F) (bs := bs) (q := q) (by omega)
    exact ⟨r ++ [F q], pth_snoc hr ⟨by omega, Or.inl ⟨rfl, rfl⟩⟩⟩
def cons (F : Nat → Int) (i s p : Nat) (t : Int) : Prop := p < i ∨ (p = i ∧ ((1 ≤ s ∧ t = F i) ∨ ∃ j, j + 1 < s ∧ t = 256 + (j : Int)))
def fwR (n : Nat) (F : Nat → Int) (bs : List (List Int)) (P : Int → Int) (rows : Nat → Option (List Int)) (i s : Nat) : Prop :=
  rows 0 = some [] ∧ (∀ q L, rows q = some L → pth n F bs 0 L q) ∧ ∀ r t p z, pth n F bs 0 r p → stp n F bs p t z → cons F i s p t → ∃ L, rows (p + z) = some L ∧ ¬ bt P (r ++ [t]) L
/-- all rows to a place that is dealt with are weighed -/
theorem fwR_at {n : Nat} {F : Nat → Int} {bs : List (List Int)} {P : Int → Int} {rows : Nat → Option (List Int)} {i s : Nat} (hb : bsOk bs) (h : fwR n F bs P rows i s) (hi : i ≤ n) : ∃ L, rows i = some L ∧ pth n F bs 0 L i ∧ ∀ r, pth n F bs 0 r i → ¬ bt P r L := by
  obtain ⟨h0, h1, h2⟩ := h
  rcases Nat.eq_zero_or_pos i with e | e
  · subst e
    refine ⟨[], h0, rfl, fun r hr => ?_⟩
    have := (pth_le hb hr).1
    have e : r = [] := List.length_eq_zero_iff.mp (by omega)
    rw [e]
    exact bt_irr []
  · obtain ⟨r0, hr0⟩ := pth_by (F := F) (bs := bs) hi
    obtain ⟨r', t, p, z, -, a1, a2, a3⟩ := pth_last hr0 e
    have hz := stp_le a2 hb
    obtain ⟨L, hL, -⟩ := h2 r' t p z a1 a2 (Or.inl (by omega))
    rw [a3] at hL
    refine ⟨L, hL, h1 i L hL, fun r hr => ?_⟩
    obtain ⟨r', t, p, z, e1, a1, a2, a3⟩ := pth_last hr e
    have hz := stp_le a2 hb
    obtain ⟨L', hL', hn⟩ := h2 r' t p z a1 a2 (Or.inl (by omega))
    rw [a3, hL] at hL'
    cases hL'
    rw [e1]
    exact hn
noncomputable def mx (P : Int → Int) (c : List Int) (o : Option (List Int)) : List Int := match o with
  | none => c
  | some L => @ite _ (bt P c L) (Classical.propDecidable _) c L
theorem fwR_come {n : Nat} {F : Nat → Int} {bs : List (List Int)} {P : Int → Int} {rows : Nat → Option (List Int)} {i s s' z : Nat} {t : Int} {Lf : List Int} (hF : ∀ i, i < n → F i < 256) (hb : bsOk bs) (h : fwR n F bs P rows i s) (hi : i < n) (hLf : rows i = some Lf) (hst : stp n F bs i t z) (hs : ∀ p x, cons F i s' p x → cons F i s p x ∨ (p = i ∧ x = t)) : fwR n F bs P (va_up rows (i + z) (some (mx P (Lf ++ [t]) (rows (i + z))))) i s' := by
  have hz := stp_le hst hb
  obtain ⟨L0, e0, hp0, hopt⟩ := fwR_at hb h (by omega)
  rw [hLf] at e0
  cases e0
  obtain ⟨h0, h1, h2⟩ := h
  have hc : pth n F bs 0 (Lf ++ [t]) (i + z) := pth_snoc hp0 hst
  have mxc : ¬ bt P (Lf ++ [t]) (mx P (Lf ++ [t]) (rows (i + z))) := by
    unfold mx
    split
    · exact bt_irr _
    · split
      · exact bt_irr _
      · assumption
  have mxo : ∀ L, rows (i + z) = some L → ∀ r, ¬ bt P r L → ¬ bt P r (mx P (Lf ++ [t]) (rows (i + z))) := by
    intro L hL r hr
    rw [hL]
    unfold mx
    simp only []
    split
    · rename_i hbt
      exact fun q => hr (bt_trans q hbt)
    · exact hr
  refine ⟨by rw [va_up_ne _ _ (by omega)]; exact h0, fun q L hL => ?_, fun r x p y a1 a2 a3 => ?_⟩
  · by_cases e : q = i + z
    · subst e
      rw [va_up_self] at hL
      cases hL
      unfold mx
      split
      · exact hc
      · rename_i L hL
        split
        · exact hc
        · exact h1 _ L hL
    · rw [va_up_ne _ _ e] at hL
      exact h1 q L hL
  · have old : cons F i s p x → ∃ L, va_up rows (i + z) (some (mx P (Lf ++ [t]) (rows (i + z)))) (p + y) = some L ∧ ¬ bt P (r ++ [x]) L := by
      intro hc
      obtain ⟨L, hL, hn⟩ := h2 r x p y a1 a2 hc
      by_cases e : p + y = i + z
      · rw [e, va_up_self]
        rw [e] at hL
        exact ⟨_, rfl, mxo L hL _ hn⟩
      · rw [va_up_ne _ _ e]
        exact ⟨L, hL, hn⟩
    rcases hs p x a3 with hc | ⟨e1, e2⟩
    · exact old hc
    · rw [e1, e2] at a2
      have hyz : y = z := stp_fun (hF i hi) a2 hst
      rw [e1, e2, hyz, va_up_self]
      refine ⟨_, rfl, fun q => ?_⟩
      rw [e1] at a1
      -- r to i is no better than Lf
      have hr : ¬ bt P (r ++ [t]) (Lf ++ [t]) := fun w => hopt r a1 (bt_appr_inv [t] w)
      by_cases e : Lf ++ [t] = mx P (Lf ++ [t]) (rows (i + z))
      · rw [← e] at q
        exact hr q
      · rcases bt_tot (P := P) e with w | w
        · exact mxc w
        · exact hr (bt_trans q w)
theorem fwR_fin {n : Nat} {F : Nat → Int} {bs : List (List Int)} {P : Int → Int} {rows : Nat → Option (List Int)} {s : Nat} (hb : bsOk bs) (h : fwR n F bs P rows n s) : ∃ L, rows n = some L ∧ isBst n F bs P L := by
  obtain ⟨L, h1, h2, h3⟩ := fwR_at hb h (Nat.le_refl _)
  exact ⟨L, h1, h2, h3⟩
/-! the number of ways -/
theorem sumf_up {f g : Nat → Nat} {q : Nat} : ∀ {k : Nat}, q < k → (∀ x, x ≠ q → g x = f x) → sumf g k + f q = sumf f k + g q
  | 0, h, _ => by omega
  | k + 1, h, he => by
    unfold sumf
    by_cases e : q = k
    · subst e
      rw [sumf_congr (g := g) (h := f) (fun j hj => he j (by omega))]
      omega
    · have := sumf_up (k := k) (by omega) he
      rw [he k (by omega)]
      omega
def sW (n : Nat) (B W : Nat → Nat) (i : Nat) : Nat := sumf (fun q => if i < q then W q * B q else 0) (n + 1)
theorem sW_next {n : Nat} {B W : Nat → Nat} {i : Nat} (hi : i < n) : sW n B W i = sW n B W (i + 1) + W (i + 1) * B (i + 1) := by
  have := sumf_up (f := fun q => if i + 1 < q then W q * B q else 0) (g := fun q => if i < q then W q * B q else 0) (q := i + 1) (k := n + 1) (by omega) (fun x hx => by
    by_cases h : i < x
    · rw [if_pos h, if_pos (by omega)]
    · rw [if_neg h, if_neg (by omega)])
  simp only [Nat.lt_irrefl, if_false, Nat.add_zero, Nat.lt_add_one, if_true] at this
  exact this
theorem sW_n {n : Nat} {B W : Nat → Nat} : sW n B W n = 0 := by
  unfold sW
  have : ∀ k, k ≤ n + 1 → sumf (fun q => if n < q then W q * B q else 0) k = 0 := by
    intro k
    induction k with
    | zero => intro _; rfl
    | succ k ih =>
      intro hk
      unfold sumf
      rw [ih (by omega), if_neg (by omega)]
  exact this (n + 1) (Nat.le_refl _)
theorem sW_come {n : Nat} {B W : Nat → Nat} {i q : Nat} (hq : i < q) (hqn : q ≤ n) : sW n B (va_up W q (W q + W i)) i = sW n B W i + W i * B q := by
  have := sumf_up (f := fun x => if i < x then W x * B x else 0) (g := fun x => if i < x then va_up W q (W q + W i) x * B x else 0) (q := q) (k := n + 1) (by omega) (fun x hx => by
    rw [va_up_ne _ _ hx])
  rw [if_pos hq, if_pos hq, va_up_self, Nat.add_mul] at this
  unfold sW
  omega
