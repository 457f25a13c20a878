/-! A small machine over layouts. A layout L names the cells of a world by their numbers; ad gives their addresses; one function σ holds all numbers: σ j i is place i of array j, or int field i of object j. -/
abbrev aV : Type := Nat ⊕ Int
abbrev St : Type := Nat → Nat → Int
abbrev aC : Type := (Nat × List (Nat ⊕ Bool)) ⊕ (Nat × Nat)
abbrev Lay : Type := List aC
abbrev aS : Type := Nat × List (Nat × aV) × List aV × St
def aval (ad : Nat → Nat) (v : aV) : Value := match v with
  | .inl j => .ref (ad j)
  | .inr x => .int (zI x)
def aslot (ad : Nat → Nat) (g : Nat → Int) (f : Nat) (x : Nat ⊕ Bool) : Value := match x with
  | .inl j => .ref (ad j)
  | .inr true => .int (zI (g f))
  | .inr false => .null
def aslots (ad : Nat → Nat) (g : Nat → Int) : Nat → List (Nat ⊕ Bool) → List Value
  | _, [] => []
  | f, x :: xs => aslot ad g f x :: aslots ad g (f + 1) xs
def zA (g : Nat → Int) : Nat → Int32 := fun i => zI (g i)
def acell (cA : Nat → ClassId) (ad : Nat → Nat) (g : Nat → Int) (x : aC) : va_E := match x with
  | .inl o => .inr (o.1, aslots ad g 0 o.2)
  | .inr a => .inl (cA a.1, a.2, .inl (zA g))
def wL (cA : Nat → ClassId) (ad : Nat → Nat) (σ : St) : Nat → Lay → va_W
  | _, [] => []
  | i, x :: xs => (ad i, acell cA ad (σ i) x) :: wL cA ad σ (i + 1) xs
def stu (σ : St) (j i : Nat) (v : Int) : St := va_up σ j (va_up (σ j) i v)
def gT (cA : Nat → ClassId) : List (ClassId × FieldType) := [(cA 0, .int), (cA 1, .boolean)]
theorem wL_get (cA : Nat → ClassId) (ad : Nat → Nat) (σ : St) : ∀ (L : Lay) (i j : Nat), (wL cA ad σ i L)[j]? = (L[j]?).map (fun x => (ad (i + j), acell cA ad (σ (i + j)) x))
  | [], i, j => by simp [wL]
  | x :: xs, i, 0 => by simp [wL]
  | x :: xs, i, j + 1 => by
    show (wL cA ad σ (i + 1) xs)[j]? = _
    rw [wL_get cA ad σ xs (i + 1) j, show i + 1 + j = i + (j + 1) by omega]
    rfl
theorem wL_at {cA : Nat → ClassId} {ad : Nat → Nat} {σ : St} {L : Lay} {j : Nat} {x : aC} (h : L[j]? = some x) : (wL cA ad σ 0 L)[j]? = some (ad j, acell cA ad (σ j) x) := by
  rw [wL_get, h]
  simp
theorem wL_congr {cA : Nat → ClassId} {ad : Nat → Nat} {σ τ : St} : ∀ (L : Lay) (i : Nat), (∀ k, i ≤ k → σ k = τ k) → wL cA ad σ i L = wL cA ad τ i L
  | [], _, _ => rfl
  | x :: xs, i, h => by
    show (ad i, acell cA ad (σ i) x) :: wL cA ad σ (i + 1) xs = (ad i, acell cA ad (τ i) x) :: wL cA ad τ (i + 1) xs
    rw [h i (Nat.le_refl i), wL_congr xs (i + 1) (fun k hk => h k (by omega))]
theorem wL_setG {cA : Nat → ClassId} {ad : Nat → Nat} {σ : St} {g : Nat → Int} {x : aC} : ∀ (L : Lay) (i j : Nat), L[j]? = some x → (wL cA ad σ i L).set j (ad (i + j), acell cA ad g x) = wL cA ad (va_up σ (i + j) g) i L
  | [], i, j, h => by simp at h
  | y :: xs, i, 0, h => by
    have hy : y = x := by simpa using h
    subst hy
    show (ad (i + 0), acell cA ad g y) :: wL cA ad σ (i + 1) xs = (ad i, acell cA ad (va_up σ (i + 0) g i) y) :: wL cA ad (va_up σ (i + 0) g) (i + 1) xs
    rw [show i + 0 = i from rfl, va_up_self, wL_congr (σ := σ) (τ := va_up σ i g) xs (i + 1) (fun k hk => (va_up_ne σ g (by omega)).symm)]
  | y :: xs, i, j + 1, h => by
    have h' : xs[j]? = some x := by simpa using h
    show (ad i, acell cA ad (σ i) y) :: (wL cA ad σ (i + 1) xs).set j (ad (i + (j + 1)), acell cA ad g x) = (ad i, acell cA ad (va_up σ (i + (j + 1)) g i) y) :: wL cA ad (va_up σ (i + (j + 1)) g) (i + 1) xs
    rw [va_up_ne σ g (by omega), show i + (j + 1) = (i + 1) + j by omega, wL_setG xs (i + 1) j h']
theorem wL_set {cA : Nat → ClassId} {ad : Nat → Nat} {σ : St} {g : Nat → Int} {x : aC} {L : Lay} {j : Nat} (h : L[j]? = some x) : (wL cA ad σ 0 L).set j (ad j, acell cA ad g x) = wL cA ad (va_up σ j g) 0 L := by
  have := wL_setG (cA := cA) (ad := ad) (σ := σ) (g := g) (x := x) L 0 j h
  simpa using this
theorem wL_D {cA : Nat → ClassId} {ad : Nat → Nat} {σ τ : St} {L : Lay} {A : Nat → Prop} (h : va_D A (wL cA ad σ 0 L)) : va_D A (wL cA ad τ 0 L) := by
  have key : ∀ (k : Nat) (q : Nat × va_E), (wL cA ad τ 0 L)[k]? = some q → ∃ q', (wL cA ad σ 0 L)[k]? = some q' ∧ q'.1 = q.1 := by
    intro k q hq
    rw [wL_get] at hq
    cases hx : L[k]? with
    | none => rw [hx] at hq; simp at hq
    | some x =>
      rw [hx] at hq
      simp only [Option.map_some, Option.some.injEq] at hq
      exact ⟨_, wL_at hx, by rw [← hq]; simp⟩
  refine ⟨?_, ?_⟩
  · intro i j a b ha hb e
    obtain ⟨a', ha', ea⟩ := key i a ha
    obtain ⟨b', hb', eb⟩ := key j b hb
    exact h.1 i j a' b' ha' hb' (by rw [ea, eb, e])
  · intro k q hq
    obtain ⟨q', hq', e⟩ := key k q hq
    rw [← e]
    exact h.2 k q' hq'
theorem zA_up (g : Nat → Int) (k : Nat) (v : Int) : upd (zA g) k (zI v) = zA (va_up g k v) := by
  funext i
  simp only [upd, zA, va_up]
  split <;> rfl
theorem aslots_get (ad : Nat → Nat) (g : Nat → Int) : ∀ (sl : List (Nat ⊕ Bool)) (i f : Nat), (aslots ad g i sl)[f]? = (sl[f]?).map (fun x => aslot ad g (i + f) x)
  | [], i, f => by simp [aslots]
  | x :: xs, i, 0 => by simp [aslots]
  | x :: xs, i, f + 1 => by
    show (aslots ad g (i + 1) xs)[f]? = _
    rw [aslots_get ad g xs (i + 1) f, show i + 1 + f = i + (f + 1) by omega]
    rfl
theorem aslots_congr {ad : Nat → Nat} {g k : Nat → Int} : ∀ (sl : List (Nat ⊕ Bool)) (i : Nat), (∀ f, i ≤ f → g f = k f) → aslots ad g i sl = aslots ad k i sl
  | [], _, _ => rfl
  | x :: xs, i, h => by
    show aslot ad g i x :: aslots ad g (i + 1) xs = aslot ad k i x :: aslots ad k (i + 1) xs
    rw [aslots_congr xs (i + 1) (fun f hf => h f (by omega))]
    congr 1
    simp only [aslot, h i (Nat.le_refl i)]
theorem aslots_setG {ad : Nat → Nat} {g : Nat → Int} {v : Int} : ∀ (sl : List (Nat ⊕ Bool)) (i f : Nat), sl[f]? = some (.inr true) → (aslots ad g i sl).set f (.int (zI v)) = aslots ad (va_up g (i + f) v) i sl
  | [], i, f, h => by simp at h
  | y :: xs, i, 0, h => by
    have hy : y = .inr true := by simpa using h
    subst hy
    show Value.int (zI v) :: aslots ad g (i + 1) xs = Value.int (zI (va_up g (i + 0) v i)) :: aslots ad (va_up g (i + 0) v) (i + 1) xs
    rw [show i + 0 = i from rfl, va_up_self, aslots_congr (g := g) (k := va_up g i v) xs (i + 1) (fun f hf => (va_up_ne g v (by omega)).symm)]
  | y :: xs, i, f + 1, h => by
    have h' : xs[f]? = some (.inr true) := by simpa using h
    show aslot ad g i y :: (aslots ad g (i + 1) xs).set f (.int (zI v)) = aslot ad (va_up g (i + (f + 1)) v) i y :: aslots ad (va_up g (i + (f + 1)) v) (i + 1) xs
    rw [show i + (f + 1) = (i + 1) + f by omega, aslots_setG xs (i + 1) f h']
    congr 1
    simp only [aslot, va_up_ne g v (show i ≠ i + 1 + f by omega)]
theorem aslots_len (ad : Nat → Nat) (g : Nat → Int) : ∀ (sl : List (Nat ⊕ Bool)) (i : Nat), (aslots ad g i sl).length = sl.length
  | [], _ => rfl
  | x :: xs, i => by
    show (aslots ad g (i + 1) xs).length + 1 = xs.length + 1
    rw [aslots_len ad g xs (i + 1)]
/-! locals by number -/
def lget (i : Nat) : List (Nat × aV) → Option aV
  | [] => none
  | (a, v) :: r => match Nat.beq a i with
    | true => some v
    | false => lget i r
def ldel (i : Nat) : List (Nat × aV) → List (Nat × aV)
  | [] => []
  | (a, v) :: r => match Nat.beq a i with
    | true => ldel i r
    | false => (a, v) :: ldel i r
def lset (i : Nat) (v : aV) : List (Nat × aV) → List (Nat × aV)
  | [] => [(i, v)]
  | (a, w) :: r => match Nat.beq a i with
    | true => (i, v) :: ldel i r
    | false => (a, w) :: lset i v r
def cv (ad : Nat → Nat) (q : Nat × aV) : Nat × Value := (q.1, aval ad q.2)
theorem lget_mem {i : Nat} {v : aV} : ∀ {l : List (Nat × aV)}, lget i l = some v → (i, v) ∈ l
  | [], h => by simp [lget] at h
  | (a, w) :: r, h => by
    unfold lget at h
    cases hq : Nat.beq a i with
    | true =>
      rw [hq] at h
      have e : a = i := Nat.eq_of_beq_eq_true hq
      have e2 : w = v := by simpa using h
      rw [e, e2]
      exact List.mem_cons_self
    | false =>
      rw [hq] at h
      exact List.mem_cons_of_mem _ (lget_mem h)
theorem ldel_mem {i : Nat} {q : Nat × aV} : ∀ {l : List (Nat × aV)}, q ∈ ldel i l → q ∈ l ∧ q.1 ≠ i
  | [], h => by simp [ldel] at h
  | (a, w) :: r, h => by
    unfold ldel at h
    cases hq : Nat.beq a i with
    | true =>
      rw [hq] at h
      exact ⟨List.mem_cons_of_mem _ (ldel_mem h).1, (ldel_mem h).2⟩
    | false =>
      rw [hq] at h
      rcases List.mem_cons.mp h with e | h2
      · subst e
        exact ⟨List.mem_cons_self, fun e => by have e : a = i := e; rw [e, Nat.beq_refl] at hq; cases hq⟩
      · exact ⟨List.mem_cons_of_mem _ (ldel_mem h2).1, (ldel_mem h2).2⟩
theorem lset_mem {i : Nat} {v : aV} {q : Nat × aV} : ∀ {l : List (Nat × aV)}, q ∈ lset i v l → q = (i, v) ∨ (q ∈ l ∧ q.1 ≠ i)
  | [], h => by
    unfold lset at h
    exact Or.inl (List.mem_singleton.mp h)
  | (a, w) :: r, h => by
    unfold lset at h
    cases hq : Nat.beq a i with
    | true =>
      rw [hq] at h
      rcases List.mem_cons.mp h with e | h2
      · exact Or.inl e
      · exact Or.inr ⟨List.mem_cons_of_mem _ (ldel_mem h2).1, (ldel_mem h2).2⟩
    | false =>
      rw [hq] at h
      rcases List.mem_cons.mp h with e | h2
      · subst e
        exact Or.inr ⟨List.mem_cons_self, fun e => by have e : a = i := e; rw [e, Nat.beq_refl] at hq; cases hq⟩
      · rcases lset_mem h2 with e | ⟨h3, h4⟩
        · exact Or.inl e
        · exact Or.inr ⟨List.mem_cons_of_mem _ h3, h4⟩
theorem aval_cat (ad : Nat → Nat) (v : aV) : (aval ad v).category = 1 := by
  cases v <;> rfl
theorem lset_has {ad : Nat → Nat} {ls : Array Slot} {nL i : Nat} {v : aV} {lv : List (Nat × aV)} (h : lv_has ls nL ((i, aval ad v) :: (lv.map (cv ad)).filter (fun q => !(q.1 == i) && !(q.1 + 1 == i && q.2.category == 2)))) : lv_has ls nL ((lset i v lv).map (cv ad)) := by
  refine ⟨h.1, h.2.1, fun q hq => h.2.2 q ?_⟩
  obtain ⟨a, ha, rfl⟩ := List.mem_map.mp hq
  rcases lset_mem ha with rfl | ⟨h1, h2⟩
  · exact List.mem_cons_self
  · refine List.mem_cons_of_mem _ (List.mem_filter.mpr ⟨List.mem_map.mpr ⟨a, h1, rfl⟩, ?_⟩)
    have hc : (cv ad a).2.category = 1 := aval_cat ad a.2
    have hn : (cv ad a).1 ≠ i := h2
    simp [hc, hn]
theorem lget_has {ad : Nat → Nat} {ls : Array Slot} {nL i : Nat} {v : aV} {lv : List (Nat × aV)} (h : lv_has ls nL (lv.map (cv ad))) (hg : lget i lv = some v) : ls[i]? = some (.val (aval ad v)) :=
  h.2.2 (i, aval ad v) (List.mem_map.mpr ⟨(i, v), lget_mem hg, rfl⟩)
def nget {α : Type} (i : Nat) : List (Nat × α) → Option α
  | [] => none
  | (a, v) :: r => match Nat.beq a i with
    | true => some v
    | false => nget i r
theorem nget_mem {α : Type} {i : Nat} {v : α} : ∀ {l : List (Nat × α)}, nget i l = some v → (i, v) ∈ l
  | [], h => by simp [nget] at h
  | (a, w) :: r, h => by
    unfold nget at h
    cases hq : Nat.beq a i with
    | true =>
      rw [hq] at h
      have e : a = i := Nat.eq_of_beq_eq_true hq
      have e2 : w = v := by simpa using h
      rw [e, e2]
      exact List.mem_cons_self
    | false =>
      rw [hq] at h
      exact List.mem_cons_of_mem _ (nget_mem h)
