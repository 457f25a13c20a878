def Va (p : Program) (l : Launch) (e : Env) (R : Room) (s : State) (m : MethodId) (args : Array Value) (below : List Frame) (meth : Method) (c : Code) (cells slots : Nat) (Q : State → Prop) (D : va_G) (cA : Nat → ClassId) (ad : Nat → Nat) (L : Lay) (nL : Nat) (A : Nat → Prop) (a : aS) : Prop :=
  ∀ (H : Heap) (locs : List Loc) (ls : Array Slot), va_P D vwCl (wL cA ad a.2.2.2 0 L) H → va_D A (wL cA ad a.2.2.2 0 L) → va_S A s.heap H locs → lv_has ls nL (a.2.1.map (cv ad)) → W p l e R s m args below meth c H locs cells slots Q (F0 m a.1 ls (a.2.2.1.map (aval ad)))
def Fx (p : Program) (s : State) (m : MethodId) (args : Array Value) (c : Code) (cc : ByteArray) (nL : Nat) (own : String) (Ts : List Cond) (D : va_G) (cA : Nat → ClassId) (A : Nat → Prop) : Prop :=
  CallFix p m c cc nL s args Ts own ∧ va_K D vwCl (gT cA) s ∧ ∀ q, s.heap.size ≤ q → A q
def layOk (L : Lay) : Prop := ∀ (j : Nat) (a : Nat × Nat), L[j]? = some (.inr a) → a.2 < 2147483648 ∧ a.1 < 2
def flOk (own : String) (Ts : List Cond) (fl : FL) : Prop := ∀ q ∈ fl, ∃ (C : String) (T : u_T) (N : Nat), vwCl[q.2.1]? = some (C, T, N) ∧ q.2.2 < N ∧ Cond.fieldLink own q.1 (T q.2.2).1 (T q.2.2).2.1 (T q.2.2).2.2.1 ∈ Ts ∧ ∀ w ∈ u_ws C T N, w ∈ Ts
def plOk (own : String) (Ts : List Cond) (fl : FL) : Prop := ∀ q ∈ fl, ∃ (C : String) (T : u_T) (N : Nat) (ty : Nat → FieldType), vwCl[q.2.1]? = some (C, T, N) ∧ q.2.2 < N ∧ Cond.fieldLink own q.1 (T q.2.2).1 (T q.2.2).2.1 (T q.2.2).2.2.1 ∈ Ts ∧ (∀ w ∈ u_ws C T N, w ∈ Ts) ∧ (∀ k, k < N → parseFieldDescriptor (T k).2.2.1 = some (ty k)) ∧ (∀ a, a < N → ∀ b, b < N → a ≠ b → (T a).2.1 ≠ (T b).2.1) ∧ (T q.2.2).2.2.2 = false ∧ parseFieldDescriptor (T q.2.2).2.2.1 = some .int
def klOk (own : String) (Ts : List Cond) (kl : List (Nat × Int)) : Prop := ∀ q ∈ kl, Cond.constant own q.1 (zI q.2) ∈ Ts
section Mach
variable {p : Program} {l : Launch} {e : Env} {R : Room} {s : State} {m : MethodId} {args : Array Value} {below : List Frame} {meth : Method} {c : Code} {cells slots : Nat} {Q : State → Prop} {D : va_G} {cA : Nat → ClassId} {ad : Nat → Nat} {L : Lay} {nL : Nat} {A : Nat → Prop} {cc : ByteArray} {own : String} {Ts : List Cond} {tab : TB} {fl pl : FL} {kl : List (Nat × Int)} {pc nxt tgt : Nat} {lv : List (Nat × aV)} {st : List aV} {σ : St}
theorem Va.iconst (F : Fx p s m args c cc nL own Ts D cA A) {n : Int} (hd : decode cc pc = .ok (.iconst n, 1)) (k : Va p l e R s m args below meth c cells slots Q D cA ad L nL A (pc + 1, lv, .inr n :: st, σ)) : Va p l e R s m args below meth c cells slots Q D cA ad L nL A (pc, lv, st, σ) :=
  fun H locs ls hP hD hS hl => lv_iconst F.1.1 F.1.2.1 hd rfl (k H locs ls hP hD hS hl)
theorem Va.bipush (F : Fx p s m args c cc nL own Ts D cA A) {n : Int} (hd : decode cc pc = .ok (.bipush n, 2)) (h1 : -128 ≤ n) (h2 : n ≤ 127) (k : Va p l e R s m args below meth c cells slots Q D cA ad L nL A (pc + 2, lv, .inr n :: st, σ)) : Va p l e R s m args below meth c cells slots Q D cA ad L nL A (pc, lv, st, σ) :=
  fun H locs ls hP hD hS hl => lv_bipush F.1.1 F.1.2.1 hd (zI_by h1 h2) (k H locs ls hP hD hS hl)
theorem Va.sipush (F : Fx p s m args c cc nL own Ts D cA A) {n : Int} (hd : decode cc pc = .ok (.sipush n, 3)) (h1 : -32768 ≤ n) (h2 : n ≤ 32767) (k : Va p l e R s m args below meth c cells slots Q D cA ad L nL A (pc + 3, lv, .inr n :: st, σ)) : Va p l e R s m args below meth c cells slots Q D cA ad L nL A (pc, lv, st, σ) :=
  fun H locs ls hP hD hS hl => lv_sipush F.1.1 F.1.2.1 hd (zI_sh h1 h2) (k H locs ls hP hD hS hl)
theorem Va.ldc (F : Fx p s m args c cc nL own Ts D cA A) {x : Nat} {n : Int} (hd : decode cc pc = .ok (.ldc x, 2)) (h1 : Cond.constant own x (zI n) ∈ Ts) (k : Va p l e R s m args below meth c cells slots Q D cA ad L nL A (pc + 2, lv, .inr n :: st, σ)) : Va p l e R s m args below meth c cells slots Q D cA ad L nL A (pc, lv, st, σ) :=
  fun H locs ls hP hD hS hl => lv_ldc F.1.1 F.1.2.1 F.1.2.2.2.1 (F.1.2.2.2.2 _ h1) hd (k H locs ls hP hD hS hl)
theorem Va.iload_n (F : Fx p s m args c cc nL own Ts D cA A) {j : Fin 4} {x : Int} (hd : decode cc pc = .ok (.iload_n j, 1)) (h1 : lget j.val lv = some (.inr x)) (k : Va p l e R s m args below meth c cells slots Q D cA ad L nL A (pc + 1, lv, .inr x :: st, σ)) : Va p l e R s m args below meth c cells slots Q D cA ad L nL A (pc, lv, st, σ) :=
  fun H locs ls hP hD hS hl => lv_iload_n F.1.1 F.1.2.1 hd rfl (lget_has hl h1) (k H locs ls hP hD hS hl)
theorem Va.iload (F : Fx p s m args c cc nL own Ts D cA A) {j : Nat} {x : Int} (hd : decode cc pc = .ok (.iload j, 2)) (h1 : lget j lv = some (.inr x)) (k : Va p l e R s m args below meth c cells slots Q D cA ad L nL A (pc + 2, lv, .inr x :: st, σ)) : Va p l e R s m args below meth c cells slots Q D cA ad L nL A (pc, lv, st, σ) :=
  fun H locs ls hP hD hS hl => lv_iload F.1.1 F.1.2.1 hd (lget_has hl h1) (k H locs ls hP hD hS hl)
theorem Va.aload_n (F : Fx p s m args c cc nL own Ts D cA A) {j : Fin 4} {x : Nat} (hd : decode cc pc = .ok (.aload_n j, 1)) (h1 : lget j.val lv = some (.inl x)) (k : Va p l e R s m args below meth c cells slots Q D cA ad L nL A (pc + 1, lv, .inl x :: st, σ)) : Va p l e R s m args below meth c cells slots Q D cA ad L nL A (pc, lv, st, σ) :=
  fun H locs ls hP hD hS hl => lv_aload_n F.1.1 F.1.2.1 hd rfl (lget_has hl h1) (k H locs ls hP hD hS hl)
theorem Va.aload (F : Fx p s m args c cc nL own Ts D cA A) {j : Nat} {x : Nat} (hd : decode cc pc = .ok (.aload j, 2)) (h1 : lget j lv = some (.inl x)) (k : Va p l e R s m args below meth c cells slots Q D cA ad L nL A (pc + 2, lv, .inl x :: st, σ)) : Va p l e R s m args below meth c cells slots Q D cA ad L nL A (pc, lv, st, σ) :=
  fun H locs ls hP hD hS hl => lv_aload F.1.1 F.1.2.1 hd (lget_has hl h1) (k H locs ls hP hD hS hl)
theorem Va.istore_n (F : Fx p s m args c cc nL own Ts D cA A) {j : Fin 4} {x : Int} (hd : decode cc pc = .ok (.istore_n j, 1)) (h1 : j.val < nL) (k : Va p l e R s m args below meth c cells slots Q D cA ad L nL A (pc + 1, lset j.val (.inr x) lv, st, σ)) : Va p l e R s m args below meth c cells slots Q D cA ad L nL A (pc, lv, .inr x :: st, σ) :=
  fun H locs ls hP hD hS hl => lv_istore_n F.1.1 F.1.2.1 hd rfl hl h1 rfl (fun ls' hl' => k H locs ls' hP hD hS (lset_has (v := .inr x) hl'))
theorem Va.istore (F : Fx p s m args c cc nL own Ts D cA A) {j : Nat} {x : Int} (hd : decode cc pc = .ok (.istore j, 2)) (h1 : j < nL) (k : Va p l e R s m args below meth c cells slots Q D cA ad L nL A (pc + 2, lset j (.inr x) lv, st, σ)) : Va p l e R s m args below meth c cells slots Q D cA ad L nL A (pc, lv, .inr x :: st, σ) :=
  fun H locs ls hP hD hS hl => lv_istore F.1.1 F.1.2.1 hd hl h1 rfl (fun ls' hl' => k H locs ls' hP hD hS (lset_has (v := .inr x) hl'))
theorem Va.iinc (F : Fx p s m args c cc nL own Ts D cA A) {j : Nat} {n x : Int} (hd : decode cc pc = .ok (.iinc j n, 3)) (h1 : j < nL) (hg : lget j lv = some (.inr x)) (k : Va p l e R s m args below meth c cells slots Q D cA ad L nL A (pc + 3, lset j (.inr (x + n)) lv, st, σ)) : Va p l e R s m args below meth c cells slots Q D cA ad L nL A (pc, lv, st, σ) := by
  intro H locs ls hP hD hS hl
  obtain ⟨k0, hk0⟩ := List.getElem?_of_mem (List.mem_map.mpr ⟨(j, Sum.inr x), lget_mem hg, rfl⟩ : cv ad (j, Sum.inr x) ∈ lv.map (cv ad))
  exact lv_iinc F.1.1 F.1.2.1 hd hl hk0 (zI_add x n) h1 rfl (fun ls' hl' => k H locs ls' hP hD hS (lset_has (v := .inr (x + n)) hl'))
theorem Va.iadd (F : Fx p s m args c cc nL own Ts D cA A) {x y : Int} (hd : decode cc pc = .ok (.iadd, 1)) (k : Va p l e R s m args below meth c cells slots Q D cA ad L nL A (pc + 1, lv, .inr (x + y) :: st, σ)) : Va p l e R s m args below meth c cells slots Q D cA ad L nL A (pc, lv, .inr y :: .inr x :: st, σ) := by
  intro H locs ls hP hD hS hl
  refine lv_iadd F.1.1 F.1.2.1 hd ?_
  rw [zI_add]
  exact k H locs ls hP hD hS hl
theorem Va.isub (F : Fx p s m args c cc nL own Ts D cA A) {x y : Int} (hd : decode cc pc = .ok (.isub, 1)) (k : Va p l e R s m args below meth c cells slots Q D cA ad L nL A (pc + 1, lv, .inr (x - y) :: st, σ)) : Va p l e R s m args below meth c cells slots Q D cA ad L nL A (pc, lv, .inr y :: .inr x :: st, σ) := by
  intro H locs ls hP hD hS hl
  refine lv_isub F.1.1 F.1.2.1 hd ?_
  rw [zI_sub]
  exact k H locs ls hP hD hS hl
theorem Va.imul (F : Fx p s m args c cc nL own Ts D cA A) {x y : Int} (hd : decode cc pc = .ok (.imul, 1)) (k : Va p l e R s m args below meth c cells slots Q D cA ad L nL A (pc + 1, lv, .inr (x * y) :: st, σ)) : Va p l e R s m args below meth c cells slots Q D cA ad L nL A (pc, lv, .inr y :: .inr x :: st, σ) := by
  intro H locs ls hP hD hS hl
  refine lv_imul F.1.1 F.1.2.1 hd ?_
  rw [zI_mul]
  exact k H locs ls hP hD hS hl
theorem Va.iand (F : Fx p s m args c cc nL own Ts D cA A) {x y : Int} (hd : decode cc pc = .ok (.iand, 1)) (hy : y = 255) (h0 : 0 ≤ x) (h1 : x < 2147483648) (k : Va p l e R s m args below meth c cells slots Q D cA ad L nL A (pc + 1, lv, .inr (x % 256) :: st, σ)) : Va p l e R s m args below meth c cells slots Q D cA ad L nL A (pc, lv, .inr y :: .inr x :: st, σ) := by
  intro H locs ls hP hD hS hl
  subst hy
  refine lv_iand F.1.1 F.1.2.1 hd ?_
  rw [zI_and255 h0 h1]
  exact k H locs ls hP hD hS hl
theorem zI_ne0 {y : Int} (h : 0 < y) (h2 : y < 2147483648) : ¬ zI y = 0 := by
  rw [zI_0, zI_eq ⟨by omega, h2⟩ inR_0]
  omega
theorem Va.idiv (F : Fx p s m args c cc nL own Ts D cA A) {x y : Int} (hd : decode cc pc = .ok (.idiv, 1)) (h0 : 0 ≤ x) (h1 : x < 2147483648) (h2 : 0 < y) (h3 : y < 2147483648) (k : Va p l e R s m args below meth c cells slots Q D cA ad L nL A (pc + 1, lv, .inr (x / y) :: st, σ)) : Va p l e R s m args below meth c cells slots Q D cA ad L nL A (pc, lv, .inr y :: .inr x :: st, σ) := by
  intro H locs ls hP hD hS hl
  refine lv_idiv F.1.1 F.1.2.1 hd (zI_ne0 h2 h3) ?_
  rw [zI_div h0 h1 h2 h3]
  exact k H locs ls hP hD hS hl
theorem Va.irem (F : Fx p s m args c cc nL own Ts D cA A) {x y : Int} (hd : decode cc pc = .ok (.irem, 1)) (h0 : 0 ≤ x) (h1 : x < 2147483648) (h2 : 0 < y) (h3 : y < 2147483648) (k : Va p l e R s m args below meth c cells slots Q D cA ad L nL A (pc + 1, lv, .inr (x % y) :: st, σ)) : Va p l e R s m args below meth c cells slots Q D cA ad L nL A (pc, lv, .inr y :: .inr x :: st, σ) := by
  intro H locs ls hP hD hS hl
  refine lv_irem F.1.1 F.1.2.1 hd (zI_ne0 h2 h3) ?_
  rw [zI_rem h0 h1 h2 h3]
  exact k H locs ls hP hD hS hl
theorem Va.dup (F : Fx p s m args c cc nL own Ts D cA A) {v : aV} (hd : decode cc pc = .ok (.dup, 1)) (k : Va p l e R s m args below meth c cells slots Q D cA ad L nL A (pc + 1, lv, v :: v :: st, σ)) : Va p l e R s m args below meth c cells slots Q D cA ad L nL A (pc, lv, v :: st, σ) :=
  fun H locs ls hP hD hS hl => lv_dup F.1.1 F.1.2.1 hd (aval_cat ad v) (k H locs ls hP hD hS hl)
theorem Va.dup2 (F : Fx p s m args c cc nL own Ts D cA A) {v w : aV} (hd : decode cc pc = .ok (.dup2, 1)) (k : Va p l e R s m args below meth c cells slots Q D cA ad L nL A (pc + 1, lv, v :: w :: v :: w :: st, σ)) : Va p l e R s m args below meth c cells slots Q D cA ad L nL A (pc, lv, v :: w :: st, σ) :=
  fun H locs ls hP hD hS hl => lv_dup2_11 F.1.1 F.1.2.1 hd (aval_cat ad v) (aval_cat ad w) (k H locs ls hP hD hS hl)
theorem Va.pop (F : Fx p s m args c cc nL own Ts D cA A) {v : aV} (hd : decode cc pc = .ok (.pop, 1)) (k : Va p l e R s m args below meth c cells slots Q D cA ad L nL A (pc + 1, lv, st, σ)) : Va p l e R s m args below meth c cells slots Q D cA ad L nL A (pc, lv, v :: st, σ) :=
  fun H locs ls hP hD hS hl => lv_pop F.1.1 F.1.2.1 hd (aval_cat ad v) (k H locs ls hP hD hS hl)
theorem Va.goto (F : Fx p s m args c cc nL own Ts D cA A) {off : Int} (hd : decode cc pc = .ok (.goto off, 3)) (ht : (pc : Int) + off = (tgt : Int)) (k : Va p l e R s m args below meth c cells slots Q D cA ad L nL A (tgt, lv, st, σ)) : Va p l e R s m args below meth c cells slots Q D cA ad L nL A (pc, lv, st, σ) :=
  fun H locs ls hP hD hS hl => lv_goto F.1.1 F.1.2.1 hd ht (k H locs ls hP hD hS hl)
theorem gT_get {a : Nat × Nat} (h : a.1 < 2) : ∃ (t0 : Nat) (ty : FieldType), (gT cA)[t0]? = some (cA a.1, ty) := by
  rcases (show a.1 = 0 ∨ a.1 = 1 by omega) with h0 | h0 <;> rw [h0]
  · exact ⟨0, _, rfl⟩
  · exact ⟨1, _, rfl⟩
theorem Va.alen (F : Fx p s m args c cc nL own Ts D cA A) {j : Nat} {a : Nat × Nat} (ha : a.1 < 2) (hd : decode cc pc = .ok (.arraylength, 1)) (hj : L[j]? = some (.inr a)) (k : Va p l e R s m args below meth c cells slots Q D cA ad L nL A (pc + 1, lv, .inr (a.2 : Int) :: st, σ)) : Va p l e R s m args below meth c cells slots Q D cA ad L nL A (pc, lv, .inl j :: st, σ) := by
  intro H locs ls hP hD hS hl
  obtain ⟨t0, ty, ht⟩ := gT_get (cA := cA) ha
  exact va_alen F.1.1 F.1.2.1 F.2.1 hP j t0 (wL_at hj) ht (zI_nat a.2).symm hd (k H locs ls hP hD hS hl)
theorem Va.iaload (F : Fx p s m args c cc nL own Ts D cA A) {j n : Nat} {x : Int} (hd : decode cc pc = .ok (.iaload, 1)) (hj : L[j]? = some (.inr (0, n))) (hn : n < 2147483648) (h0 : 0 ≤ x) (h1 : x < (n : Int)) (k : Va p l e R s m args below meth c cells slots Q D cA ad L nL A (pc + 1, lv, .inr (σ j x.toNat) :: st, σ)) : Va p l e R s m args below meth c cells slots Q D cA ad L nL A (pc, lv, .inr x :: .inl j :: st, σ) := by
  intro H locs ls hP hD hS hl
  refine va_iald F.1.1 F.1.2.1 F.2.1 hP j 0 (wL_at hj) rfl (zI_in h0 h1 hn) hd ?_
  show W p l e R s m args below meth c H locs cells slots Q (F0 m (pc + 1) ls (.int (zI (σ j (zI x).toNatClampNeg)) :: st.map (aval ad)))
  rw [zI_cl ⟨by omega, by omega⟩]
  exact k H locs ls hP hD hS hl
theorem Va.baload (F : Fx p s m args c cc nL own Ts D cA A) {j n : Nat} {x : Int} (hd : decode cc pc = .ok (.baload, 1)) (hj : L[j]? = some (.inr (1, n))) (hn : n < 2147483648) (h0 : 0 ≤ x) (h1 : x < (n : Int)) (k : Va p l e R s m args below meth c cells slots Q D cA ad L nL A (pc + 1, lv, .inr (σ j x.toNat) :: st, σ)) : Va p l e R s m args below meth c cells slots Q D cA ad L nL A (pc, lv, .inr x :: .inl j :: st, σ) := by
  intro H locs ls hP hD hS hl
  refine va_zald F.1.1 F.1.2.1 F.2.1 hP j 1 (wL_at hj) rfl (zI_in h0 h1 hn) hd ?_
  show W p l e R s m args below meth c H locs cells slots Q (F0 m (pc + 1) ls (.int (zI (σ j (zI x).toNatClampNeg)) :: st.map (aval ad)))
  rw [zI_cl ⟨by omega, by omega⟩]
  exact k H locs ls hP hD hS hl
theorem Va.iastore (F : Fx p s m args c cc nL own Ts D cA A) {j n : Nat} {x v : Int} (hd : decode cc pc = .ok (.iastore, 1)) (hj : L[j]? = some (.inr (0, n))) (hn : n < 2147483648) (h0 : 0 ≤ x) (h1 : x < (n : Int)) (k : Va p l e R s m args below meth c cells slots Q D cA ad L nL A (pc + 1, lv, st, stu σ j x.toNat v)) : Va p l e R s m args below meth c cells slots Q D cA ad L nL A (pc, lv, .inr v :: .inr x :: .inl j :: st, σ) := by
  intro H locs ls hP hD hS hl
  refine va_iast F.1.1 F.1.2.1 F.2.1 hP hD hS j 0 (wL_at hj) rfl (zI_in h0 h1 hn) hd (fun H1 locs1 hP1 hD1 hS1 => ?_)
  have e : (wL cA ad σ 0 L).set j (ad j, .inl (cA 0, n, .inl (upd (zA (σ j)) (zI x).toNatClampNeg (zI v)))) = wL cA ad (stu σ j x.toNat v) 0 L := by
    rw [zI_cl ⟨by omega, by omega⟩, zA_up]
    exact wL_set hj
  have hP1 := Eq.subst (motive := fun w => va_P D vwCl w H1) e hP1
  have hD1 := Eq.subst (motive := fun w => va_D A w) e hD1
  exact k H1 locs1 ls hP1 hD1 hS1 hl
theorem Va.bastore (F : Fx p s m args c cc nL own Ts D cA A) {j n : Nat} {x v : Int} (hd : decode cc pc = .ok (.bastore, 1)) (hj : L[j]? = some (.inr (1, n))) (hn : n < 2147483648) (h0 : 0 ≤ x) (h1 : x < (n : Int)) (hv : v = 0 ∨ v = 1) (k : Va p l e R s m args below meth c cells slots Q D cA ad L nL A (pc + 1, lv, st, stu σ j x.toNat v)) : Va p l e R s m args below meth c cells slots Q D cA ad L nL A (pc, lv, .inr v :: .inr x :: .inl j :: st, σ) := by
  intro H locs ls hP hD hS hl
  refine va_zast F.1.1 F.1.2.1 F.2.1 hP hD hS j 1 (wL_at hj) rfl (zI_in h0 h1 hn) hd (fun H1 locs1 hP1 hD1 hS1 => ?_)
  have e : (wL cA ad σ 0 L).set j (ad j, .inl (cA 1, n, .inl (upd (zA (σ j)) (zI x).toNatClampNeg (vp_nar .boolean (zI v))))) = wL cA ad (stu σ j x.toNat v) 0 L := by
    rw [zI_cl ⟨by omega, by omega⟩, zI_bool hv, zA_up]
    exact wL_set hj
  have hP1 := Eq.subst (motive := fun w => va_P D vwCl w H1) e hP1
  have hD1 := Eq.subst (motive := fun w => va_D A w) e hD1
  exact k H1 locs1 ls hP1 hD1 hS1 hl
theorem Va.getR (F : Fx p s m args c cc nL own Ts D cA A) (hfl : flOk own Ts fl) {x j j' ci f : Nat} {sl : List (Nat ⊕ Bool)} (hd : decode cc pc = .ok (.getfield x, 3)) (hx : (x, ci, f) ∈ fl) (hj : L[j]? = some (.inl (ci, sl))) (hf : sl[f]? = some (.inl j')) (k : Va p l e R s m args below meth c cells slots Q D cA ad L nL A (pc + 3, lv, .inl j' :: st, σ)) : Va p l e R s m args below meth c cells slots Q D cA ad L nL A (pc, lv, .inl j :: st, σ) := by
  intro H locs ls hP hD hS hl
  obtain ⟨C, T, N, hc, hN, hlk, hin⟩ := hfl _ hx
  exact va_get F.1.1 F.1.2.1 F.1.2.2.2.2 hin F.1.2.2.2.1 F.2.1 hP j (wL_at hj) hc f hN (F.1.2.2.2.2 _ hlk) (fun _ h9 => h9) (v := .ref (ad j')) (by rw [aslots_get, hf]; rfl) hd (k H locs ls hP hD hS hl)
theorem Va.getI (F : Fx p s m args c cc nL own Ts D cA A) (hfl : flOk own Ts fl) {x j ci f : Nat} {sl : List (Nat ⊕ Bool)} (hd : decode cc pc = .ok (.getfield x, 3)) (hx : (x, ci, f) ∈ fl) (hj : L[j]? = some (.inl (ci, sl))) (hf : sl[f]? = some (.inr true)) (k : Va p l e R s m args below meth c cells slots Q D cA ad L nL A (pc + 3, lv, .inr (σ j f) :: st, σ)) : Va p l e R s m args below meth c cells slots Q D cA ad L nL A (pc, lv, .inl j :: st, σ) := by
  intro H locs ls hP hD hS hl
  obtain ⟨C, T, N, hc, hN, hlk, hin⟩ := hfl _ hx
  exact va_get F.1.1 F.1.2.1 F.1.2.2.2.2 hin F.1.2.2.2.1 F.2.1 hP j (wL_at hj) hc f hN (F.1.2.2.2.2 _ hlk) (fun _ h9 => h9) (v := .int (zI (σ j f))) (by rw [aslots_get, hf]; simp [aslot]) hd (k H locs ls hP hD hS hl)
theorem Va.putI (F : Fx p s m args c cc nL own Ts D cA A) (hpl : plOk own Ts pl) {x j ci f : Nat} {v : Int} {sl : List (Nat ⊕ Bool)} (hd : decode cc pc = .ok (.putfield x, 3)) (hx : (x, ci, f) ∈ pl) (hj : L[j]? = some (.inl (ci, sl))) (hf : sl[f]? = some (.inr true)) (k : Va p l e R s m args below meth c cells slots Q D cA ad L nL A (pc + 3, lv, st, stu σ j f v)) : Va p l e R s m args below meth c cells slots Q D cA ad L nL A (pc, lv, .inr v :: .inl j :: st, σ) := by
  intro H locs ls hP hD hS hl
  obtain ⟨C, T, N, ty, hc, hN, hlk, hin, hty, hnm, hfin, hdc⟩ := hpl _ hx
  refine va_put F.1.1 F.1.2.1 F.1.2.2.2.2 hin ty hty hnm F.1.2.2.2.1 F.2.1 hP hD hS j (wL_at hj) hc f hN (F.1.2.2.2.2 _ hlk) (fun _ h9 => h9) hfin hdc rfl rfl (by rw [aslots_len]; exact (List.getElem?_eq_some_iff.mp hf).1) hd (fun H1 locs1 hP1 hD1 hS1 => ?_)
  have e : (wL cA ad σ 0 L).set j (ad j, .inr (ci, (aslots ad (σ j) 0 sl).set f (.int (zI v)))) = wL cA ad (stu σ j f v) 0 L := by
    rw [aslots_setG sl 0 f hf, Nat.zero_add]
    exact wL_set hj
  have hP1 := Eq.subst (motive := fun w => va_P D vwCl w H1) e hP1
  have hD1 := Eq.subst (motive := fun w => va_D A w) e hD1
  exact k H1 locs1 ls hP1 hD1 hS1 hl
end Mach
