/-! rows of tokens between two places, their points, their order, their number -/
def sm (P : Int → Int) : List Int → Int
  | [] => 0
  | t :: r => P t + sm P r
theorem sm_app (P : Int → Int) : ∀ (r s : List Int), sm P (r ++ s) = sm P r + sm P s
  | [], s => by simp [sm]
  | t :: r, s => by simp only [List.cons_append, sm, sm_app P r s]; omega
def lx : List Int → List Int → Prop
  | a :: r, b :: s => a < b ∨ (a = b ∧ lx r s)
  | _, _ => False
theorem lx_irr : ∀ (r : List Int), ¬ lx r r
  | [], h => h
  | a :: r, h => by
    rcases h with h | ⟨-, h⟩
    · omega
    · exact lx_irr r h
theorem lx_trans : ∀ {r s u : List Int}, lx r s → lx s u → lx r u
  | [], _, _, h, _ => h.elim
  | _ :: _, [], _, h, _ => h.elim
  | _ :: _, _ :: _, [], _, h => h.elim
  | a :: r, b :: s, c :: u, h1, h2 => by
    rcases h1 with h1 | ⟨e1, h1⟩ <;> rcases h2 with h2 | ⟨e2, h2⟩
    · exact Or.inl (by omega)
    · exact Or.inl (by omega)
    · exact Or.inl (by omega)
    · exact Or.inr ⟨by omega, lx_trans h1 h2⟩
theorem lx_tot : ∀ {r s : List Int}, r.length = s.length → r ≠ s → lx r s ∨ lx s r
  | [], [], _, h => absurd rfl h
  | [], _ :: _, h, _ => by simp at h
  | _ :: _, [], h, _ => by simp at h
  | a :: r, b :: s, h, hn => by
    by_cases e : a = b
    · subst e
      have hl : r.length = s.length := by simpa using h
      have hne : r ≠ s := fun q => hn (by rw [q])
      rcases lx_tot hl hne with h | h
      · exact Or.inl (Or.inr ⟨rfl, h⟩)
      · exact Or.inr (Or.inr ⟨rfl, h⟩)
    · rcases (show a < b ∨ b < a by omega) with h | h
      · exact Or.inl (Or.inl h)
      · exact Or.inr (Or.inl h)
theorem lx_appr : ∀ {r s : List Int} (u : List Int), lx r s → lx (r ++ u) (s ++ u)
  | [], _, _, h => h.elim
  | _ :: _, [], _, h => h.elim
  | a :: r, b :: s, u, h => by
    rcases h with h | ⟨e, h⟩
    · exact Or.inl h
    · exact Or.inr ⟨e, lx_appr u h⟩
theorem lx_appl : ∀ {r s : List Int} (u : List Int), lx r s → lx (u ++ r) (u ++ s)
  | _, _, [], h => h
  | _, _, a :: u, h => Or.inr ⟨rfl, lx_appl u h⟩
def bt (P : Int → Int) (r s : List Int) : Prop := sm P s < sm P r ∨ (sm P r = sm P s ∧ (r.length < s.length ∨ (r.length = s.length ∧ lx r s)))
theorem bt_irr {P : Int → Int} (r : List Int) : ¬ bt P r r := by
  intro h
  rcases h with h | ⟨-, h | ⟨-, h⟩⟩
  · omega
  · omega
  · exact lx_irr r h
theorem bt_trans {P : Int → Int} {r s u : List Int} (h1 : bt P r s) (h2 : bt P s u) : bt P r u := by
  unfold bt at *
  rcases h1 with h1 | ⟨e1, h1 | ⟨l1, h1⟩⟩ <;> rcases h2 with h2 | ⟨e2, h2 | ⟨l2, h2⟩⟩
  · left; omega
  · left; omega
  · left; omega
  · left; omega
  · right; exact ⟨by omega, Or.inl (by omega)⟩
  · right; exact ⟨by omega, Or.inl (by omega)⟩
  · left; omega
  · right; exact ⟨by omega, Or.inl (by omega)⟩
  · right; exact ⟨by omega, Or.inr ⟨by omega, lx_trans h1 h2⟩⟩
theorem bt_tot {P : Int → Int} {r s : List Int} (h : r ≠ s) : bt P r s ∨ bt P s r := by
  unfold bt
  rcases Int.lt_trichotomy (sm P r) (sm P s) with h1 | h1 | h1
  · right; left; exact h1
  · rcases Nat.lt_trichotomy r.length s.length with h2 | h2 | h2
    · left; right; exact ⟨h1, Or.inl h2⟩
    · rcases lx_tot h2 h with h3 | h3
      · left; right; exact ⟨h1, Or.inr ⟨h2, h3⟩⟩
      · right; right; exact ⟨h1.symm, Or.inr ⟨h2.symm, h3⟩⟩
    · right; right; exact ⟨h1.symm, Or.inl h2⟩
  · left; left; exact h1
theorem bt_appr {P : Int → Int} {r s : List Int} (u : List Int) (h : bt P r s) : bt P (r ++ u) (s ++ u) := by
  unfold bt at *
  rw [sm_app, sm_app, List.length_append, List.length_append]
  rcases h with h | ⟨e, h | ⟨e2, h⟩⟩
  · left; omega
  · right; exact ⟨by omega, Or.inl (by omega)⟩
  · right; exact ⟨by omega, Or.inr ⟨by omega, lx_appr u h⟩⟩
theorem bt_appl {P : Int → Int} {r s : List Int} (u : List Int) (h : bt P r s) : bt P (u ++ r) (u ++ s) := by
  unfold bt at *
  rw [sm_app, sm_app, List.length_append, List.length_append]
  rcases h with h | ⟨e, h | ⟨e2, h⟩⟩
  · left; omega
  · right; exact ⟨by omega, Or.inl (by omega)⟩
  · right; exact ⟨by omega, Or.inr ⟨by omega, lx_appl u h⟩⟩
theorem bt_uniq {P : Int → Int} {r s : List Int} (h1 : ¬ bt P r s) (h2 : ¬ bt P s r) : r = s := by
  by_cases e : r = s
  · exact e
  · rcases bt_tot (P := P) e with h | h
    · exact absurd h h1
    · exact absurd h h2
def tl (bs : List (List Int)) (j : Nat) : Nat := (bs.getD j []).length
def fit (n : Nat) (F : Nat → Int) (bs : List (List Int)) (j p : Nat) : Prop := p + tl bs j ≤ n ∧ ∀ i, i < tl bs j → F (p + i) = (bs.getD j []).getD i 0
def stp (n : Nat) (F : Nat → Int) (bs : List (List Int)) (p : Nat) (t : Int) (z : Nat) : Prop := p < n ∧ ((t = F p ∧ z = 1) ∨ ∃ j, j < bs.length ∧ t = 256 + (j : Int) ∧ z = tl bs j ∧ fit n F bs j p)
def pth (n : Nat) (F : Nat → Int) (bs : List (List Int)) : Nat → List Int → Nat → Prop
  | p, [], e => p = e
  | p, t :: r, e => ∃ z, stp n F bs p t z ∧ pth n F bs (p + z) r e
theorem pth_app {n : Nat} {F : Nat → Int} {bs : List (List Int)} : ∀ {r s : List Int} {p e : Nat}, pth n F bs p (r ++ s) e ↔ ∃ m, pth n F bs p r m ∧ pth n F bs m s e
  | [], s, p, e => by
    constructor
    · intro h
      exact ⟨p, rfl, h⟩
    · rintro ⟨m, rfl, h⟩
      exact h
  | t :: r, s, p, e => by
    constructor
    · rintro ⟨z, h1, h2⟩
      obtain ⟨m, h3, h4⟩ := pth_app.mp h2
      exact ⟨m, ⟨z, h1, h3⟩, h4⟩
    · rintro ⟨m, ⟨z, h1, h3⟩, h4⟩
      exact ⟨z, h1, pth_app.mpr ⟨m, h3, h4⟩⟩
/-- what is asked of the learned tokens' bytes -/
def bsOk (bs : List (List Int)) : Prop := ∀ j, j < bs.length → 2 ≤ tl bs j
theorem stp_fun {n : Nat} {F : Nat → Int} {bs : List (List Int)} {p : Nat} {t : Int} {z z' : Nat} (hF : F p < 256) (h : stp n F bs p t z) (h' : stp n F bs p t z') : z = z' := by
  obtain ⟨-, h | ⟨j, -, h, hz, -⟩⟩ := h <;> obtain ⟨-, h' | ⟨j', -, h', hz', -⟩⟩ := h'
  · omega
  · omega
  · omega
  · have : j = j' := by omega
    subst this
    omega
theorem stp_le {n : Nat} {F : Nat → Int} {bs : List (List Int)} {p : Nat} {t : Int} {z : Nat} (h : stp n F bs p t z) (hb : bsOk bs) : 1 ≤ z ∧ p + z ≤ n := by
  obtain ⟨hp, h | ⟨j, hj, h, hz, hf⟩⟩ := h
  · omega
  · have := hb j hj
    have := hf.1
    omega
theorem pth_le {n : Nat} {F : Nat → Int} {bs : List (List Int)} (hb : bsOk bs) : ∀ {r : List Int} {p e : Nat}, pth n F bs p r e → p + r.length ≤ e ∧ (p ≤ n → e ≤ n)
  | [], p, e, h => by
    have : p = e := h
    simp only [List.length_nil]
    omega
  | t :: r, p, e, h => by
    obtain ⟨z, h1, h2⟩ := h
    have := stp_le h1 hb
    have := pth_le hb h2
    simp only [List.length_cons]
    omega
def sumf (g : Nat → Nat) : Nat → Nat
  | 0 => 0
  | k + 1 => sumf g k + g k
theorem sumf_congr {g h : Nat → Nat} : ∀ {k : Nat}, (∀ j, j < k → g j = h j) → sumf g k = sumf h k
  | 0, _ => rfl
  | k + 1, q => by
    unfold sumf
    rw [sumf_congr (fun j hj => q j (by omega)), q k (by omega)]
noncomputable def iff0 (P : Prop) (x : Nat) : Nat := @ite _ P (Classical.propDecidable P) x 0
theorem iff0_t {P : Prop} (h : P) (x : Nat) : iff0 P x = x := by unfold iff0; rw [if_pos h]
theorem iff0_f {P : Prop} (h : ¬ P) (x : Nat) : iff0 P x = 0 := by unfold iff0; rw [if_neg h]
noncomputable def np (n : Nat) (F : Nat → Int) (bs : List (List Int)) : Nat → Nat → Nat
  | 0, p => if p = n then 1 else 0
  | f + 1, p => if p = n then 1 else np n F bs f (p + 1) + sumf (fun j => iff0 (fit n F bs j p) (np n F bs f (p + tl bs j))) bs.length
theorem np_st {n : Nat} {F : Nat → Int} {bs : List (List Int)} (hb : bsOk bs) : ∀ (f f' p : Nat), p ≤ n → n - p ≤ f → n - p ≤ f' → np n F bs f p = np n F bs f' p
  | 0, 0, p, _, _, _ => rfl
  | 0, f' + 1, p, hp, h, _ => by
    have : p = n := by omega
    unfold np
    rw [if_pos this, if_pos this]
  | f + 1, 0, p, hp, _, h => by
    have : p = n := by omega
    unfold np
    rw [if_pos this, if_pos this]
  | f + 1, f' + 1, p, hp, h, h' => by
    unfold np
    by_cases e : p = n
    · rw [if_pos e, if_pos e]
    · rw [if_neg e, if_neg e, np_st hb f f' (p + 1) (by omega) (by omega) (by omega)]
      congr 1
      refine sumf_congr (fun j hj => ?_)
      by_cases hf : fit n F bs j p
      · rw [iff0_t hf, iff0_t hf]
        have := hb j hj
        have := hf.1
        exact np_st hb f f' _ (by omega) (by omega) (by omega)
      · rw [iff0_f hf, iff0_f hf]
/-- how many rows there are from p to the end -/
noncomputable def nB (n : Nat) (F : Nat → Int) (bs : List (List Int)) (p : Nat) : Nat := np n F bs n p
theorem nB_n (n : Nat) (F : Nat → Int) (bs : List (List Int)) : nB n F bs n = 1 := by
  unfold nB
  cases n <;> unfold np <;> rw [if_pos rfl]
theorem nB_p {n : Nat} {F : Nat → Int} {bs : List (List Int)} (hb : bsOk bs) {p : Nat} (hp : p < n) : nB n F bs p = nB n F bs (p + 1) + sumf (fun j => iff0 (fit n F bs j p) (nB n F bs (p + tl bs j))) bs.length := by
  unfold nB
  rw [np_st hb n ((n - p - 1) + 1) p (by omega) (by omega) (by omega)]
  rw [np]
  rw [if_neg (by omega), np_st hb (n - p - 1) n (p + 1) (by omega) (by omega) (by omega)]
  congr 1
  refine sumf_congr (fun j hj => ?_)
  by_cases hf : fit n F bs j p
  · rw [iff0_t hf, iff0_t hf]
    have := hb j hj
    have := hf.1
    exact np_st hb _ _ _ (by omega) (by omega) (by omega)
  · rw [iff0_f hf, iff0_f hf]
