/-! rows of tokens: (token, where it begins) -/
abbrev Rw : Type := List (Int × Int)
def hold (f g : Nat → Int) : Nat → Rw → Prop
  | _, [] => True
  | i, q :: r => f i = q.1 ∧ g i = q.2 ∧ hold f g (i + 1) r
theorem hold_congr {f g f' g' : Nat → Int} : ∀ {r : Rw} {i : Nat}, (∀ j, i ≤ j → j < i + r.length → f' j = f j ∧ g' j = g j) → hold f g i r → hold f' g' i r
  | [], _, _, _ => trivial
  | q :: r, i, h, hh => by
    obtain ⟨h1, h2, h3⟩ := hh
    have e := h i (Nat.le_refl i) (by simp)
    refine ⟨by rw [e.1, h1], by rw [e.2, h2], hold_congr (fun j hj hj2 => h j (by omega) (by simp only [List.length_cons]; omega)) h3⟩
theorem hold_app {f g : Nat → Int} : ∀ {o s : Rw} {i : Nat}, hold f g i (o ++ s) ↔ hold f g i o ∧ hold f g (i + o.length) s
  | [], s, i => by simp [hold]
  | q :: o, s, i => by
    simp only [List.cons_append, hold, List.length_cons]
    rw [hold_app (o := o) (s := s) (i := i + 1), show i + (o.length + 1) = i + 1 + o.length by omega]
    constructor
    · rintro ⟨a, b, c, d⟩
      exact ⟨⟨a, b, c⟩, d⟩
    · rintro ⟨⟨a, b, c⟩, d⟩
      exact ⟨a, b, c, d⟩
theorem hold_at {f g : Nat → Int} : ∀ {r : Rw} {i j : Nat} {q : Int × Int}, hold f g i r → r[j]? = some q → f (i + j) = q.1 ∧ g (i + j) = q.2
  | [], _, _, _, _, hq => by simp at hq
  | a :: r, i, 0, q, h, hq => by
    have e : a = q := by simpa using hq
    subst e
    exact ⟨h.1, h.2.1⟩
  | a :: r, i, j + 1, q, h, hq => by
    have hq' : r[j]? = some q := by simpa using hq
    have := hold_at h.2.2 hq'
    rw [show i + 1 + j = i + (j + 1) by omega] at this
    exact this
/-- the pair a b becomes t, from the left on; w q = 0: no word begins at q -/
def mrg (w : Int → Int) (a b t : Int) : Rw → Rw
  | [] => []
  | [q] => [q]
  | q :: q2 :: r => if q.1 = a ∧ q2.1 = b ∧ w q2.2 = 0 then (t, q.2) :: mrg w a b t r else q :: mrg w a b t (q2 :: r)
def eqx (js : List Nat) (σ τ : St) : Prop := ∀ j, j ∉ js → τ j = σ j
theorem eqx_rfl {js : List Nat} {σ : St} : eqx js σ σ := fun _ _ => rfl
theorem eqx_stu {js : List Nat} {σ τ : St} (h : eqx js σ τ) {j : Nat} (hj : j ∈ js) (i : Nat) (v : Int) : eqx js σ (stu τ j i v) := fun a ha => by
  rw [stu_j _ _ _ (fun e => ha (by rw [e]; exact hj))]
  exact h a ha
theorem eqx_trans {js : List Nat} {σ τ υ : St} (h : eqx js σ τ) (h2 : eqx js τ υ) : eqx js σ υ := fun a ha => (h2 a ha).trans (h a ha)
theorem eqx_mono {js ks : List Nat} {σ τ : St} (h : eqx js σ τ) (hs : ∀ j ∈ js, j ∈ ks) : eqx ks σ τ := fun a ha => h a (fun q => ha (hs a q))
def rowC (σ : St) (w : Int → Int) (r : Rw) : Prop := σ 3 2 = r.length ∧ r.length ≤ 120 ∧ hold (σ 14) (σ 15) 0 r ∧ ∀ i : Nat, i < r.length → σ 16 i = w (σ 15 i)
def lpick : List Nat → List (Nat × aV) → List (Nat × aV)
  | [], _ => []
  | k :: ks, lv => match lget k lv with
    | some v => (k, v) :: lpick ks lv
    | none => lpick ks lv
theorem lpick_mem : ∀ (ks : List Nat) {lv : List (Nat × aV)}, ∀ q ∈ lpick ks lv, q ∈ lv
  | [], lv, q, h => by simp [lpick] at h
  | k :: ks, lv, q, h => by
    unfold lpick at h
    split at h
    · rename_i v hv
      rcases List.mem_cons.mp h with rfl | h2
      · exact lget_mem hv
      · exact lpick_mem ks q h2
    · exact lpick_mem ks q h
