/-! constructors: a world as a plain list, growing -/
def Wd (p : Program) (l : Launch) (e : Env) (R : Room) (s : State) (m : MethodId) (args : Array Value) (below : List Frame) (meth : Method) (c : Code) (cells slots : Nat) (Q : State → Prop) (D : va_G) (nL : Nat) (A : Nat → Prop) (pc : Nat) (lv : List (Nat × Value)) (st : List Value) (ws : va_W) : Prop :=
  ∀ (H : Heap) (locs : List Loc) (ls : Array Slot), va_P D vwCl ws H → va_D A ws → va_S A s.heap H locs → lv_has ls nL lv → W p l e R s m args below meth c H locs cells slots Q (F0 m pc ls st)
section Ctor
variable {p : Program} {l : Launch} {e : Env} {R : Room} {s : State} {m : MethodId} {args : Array Value} {below : List Frame} {meth : Method} {c : Code} {cells slots : Nat} {Q : State → Prop} {D : va_G} {cA : Nat → ClassId} {nL : Nat} {A : Nat → Prop} {cc : ByteArray} {own : String} {Ts : List Cond} {pc pc1 : Nat} {lv : List (Nat × Value)} {st : List Value} {wr : va_W}
theorem arr_same (F : Fx p s m args c cc nL own Ts D cA A) {c' : ClassId} {ty : FieldType} {t : Nat} (h : va_K D vwCl (gT cA ++ [(c', ty)]) s) (ht : (gT cA)[t]? = some (cA t, ty)) (hty : ∀ C, ty ≠ .object C) : c' = cA t := by
  have h1 := (F.2.1.2 t _ ht).2
  have h2 := (h.2 2 (c', ty) rfl).2
  cases ty with
  | object C => exact absurd rfl (hty C)
  | _ => exact Option.some.inj (h2.symm.trans h1)
theorem Wd.arr (F : Fx p s m args c cc nL own Ts D cA A) (hin2 : meth.name = "<init>") {C : String} {T : u_T} {N ci idx k : Nat} {fs : List Value} {h0 : Nat} {t n : Nat} {ar : ArrayType} (ty : Nat → FieldType) (hty : ∀ k, k < N → parseFieldDescriptor (T k).2.2.1 = some (ty k)) (hnm : ∀ a, a < N → ∀ b, b < N → a ≠ b → (T a).2.1 ≠ (T b).2.1) (hin : ∀ w ∈ u_ws C T N, w ∈ Ts) (hc : vwCl[ci]? = some (C, T, N)) (hk : k < N) (hlk : Cond.fieldLink own idx (T k).1 (T k).2.1 (T k).2.2.1 ∈ Ts) (hfin : (T k).2.2.2 = true) (hdecl : (T k).1 = own) (hdd : parseFieldDescriptor (T k).2.2.1 = some (.array (newarray.typeOf ar))) (hat : Cond.arrayClass (newarray.typeOf ar) ∈ Ts) (htt : (gT cA)[t]? = some (cA t, newarray.typeOf ar)) (hno : ∀ C, newarray.typeOf ar ≠ .object C) (ha0 : ∀ c', vp_cell c' (n, .inl (fun _ => zI 0)) = arrV c' n (fun _ => defaultValue (newarray.typeOf ar))) (hnb : n * componentBytes (newarray.typeOf ar) ≤ 536870912) (hn : n < 2147483648) (hcells : cells + 1 ≤ R.cells) (hslots : slots + n ≤ R.slots) (hkl : k < fs.length) (hlv : (0, Value.ref h0) ∈ lv)
    (d0 : decode cc pc = .ok (.aload_n 0, 1)) (hpush : ∀ (H : Heap) (locs : List Loc) (ls : Array Slot) (st : List Value), W p l e R s m args below meth c H locs cells slots Q (F0 m pc1 ls (.int (zI (n : Int)) :: st)) → W p l e R s m args below meth c H locs cells slots Q (F0 m (pc + 1) ls st)) (d2 : decode cc pc1 = .ok (.newarray ar, 2)) (d3 : decode cc (pc1 + 2) = .ok (.putfield idx, 3))
    (kk : ∀ q : Nat, Wd p l e R s m args below meth c (cells + 1) (slots + n) Q D nL A (pc1 + 5) lv st ((h0, .inr (ci, fs.set k (.ref q))) :: (wr ++ [(q, .inl (cA t, n, .inl (fun _ => zI 0)))]))) : Wd p l e R s m args below meth c cells slots Q D nL A pc lv st ((h0, .inr (ci, fs)) :: wr) := by
  intro H locs ls hP hD hS hl
  refine lv_aload_n F.1.1 F.1.2.1 d0 rfl (hl.2.2 (0, Value.ref h0) hlv) ?_
  refine hpush H locs ls _ ?_
  refine va_newa F.1.1 F.1.2.1 (F.1.2.2.2.2 _ hat) rfl F.2.1 hP hD hS F.2.2 ha0 (by rw [zI_0, zI_lt ⟨by omega, by omega⟩ inR_0]; omega) (by rw [zI_cl ⟨by omega, by omega⟩]; omega) hnb hcells hslots d2 (fun q c' H1 hK1 hP1 hD1 hS1 => ?_)
  have e := arr_same F hK1 htt hno
  subst e
  refine va_putF F.1.1 F.1.2.1 F.1.2.2.2.2 hin ty hty hnm F.1.2.2.2.1 F.2.1 hP1 hD1 hS1 0 rfl hc k hk (F.1.2.2.2.2 _ hlk) (fun _ h9 => h9) hfin hin2 hdecl hdd rfl rfl hkl d3 (fun H2 locs2 hP2 hD2 hS2 => ?_)
  exact kk q H2 locs2 ls hP2 hD2 hS2 hl
theorem Wd.int0 (F : Fx p s m args c cc nL own Ts D cA A) {C : String} {T : u_T} {N ci idx k : Nat} {fs : List Value} {h0 : Nat} (ty : Nat → FieldType) (hty : ∀ k, k < N → parseFieldDescriptor (T k).2.2.1 = some (ty k)) (hnm : ∀ a, a < N → ∀ b, b < N → a ≠ b → (T a).2.1 ≠ (T b).2.1) (hin : ∀ w ∈ u_ws C T N, w ∈ Ts) (hc : vwCl[ci]? = some (C, T, N)) (hk : k < N) (hlk : Cond.fieldLink own idx (T k).1 (T k).2.1 (T k).2.2.1 ∈ Ts) (hfin : (T k).2.2.2 = false) (hdd : parseFieldDescriptor (T k).2.2.1 = some .int) (hkl : k < fs.length) (hlv : (0, Value.ref h0) ∈ lv)
    (d0 : decode cc pc = .ok (.aload_n 0, 1)) (d1 : decode cc (pc + 1) = .ok (.iconst 0, 1)) (d3 : decode cc (pc + 2) = .ok (.putfield idx, 3))
    (kk : Wd p l e R s m args below meth c cells slots Q D nL A (pc + 5) lv st ((h0, .inr (ci, fs.set k (.int (zI 0)))) :: wr)) : Wd p l e R s m args below meth c cells slots Q D nL A pc lv st ((h0, .inr (ci, fs)) :: wr) := by
  intro H locs ls hP hD hS hl
  refine lv_aload_n F.1.1 F.1.2.1 d0 rfl (hl.2.2 (0, Value.ref h0) hlv) ?_
  refine lv_iconst (v := zI 0) F.1.1 F.1.2.1 d1 rfl ?_
  refine va_put F.1.1 F.1.2.1 F.1.2.2.2.2 hin ty hty hnm F.1.2.2.2.1 F.2.1 hP hD hS 0 rfl hc k hk (F.1.2.2.2.2 _ hlk) (fun _ h9 => h9) hfin hdd rfl rfl hkl d3 (fun H2 locs2 hP2 hD2 hS2 => ?_)
  exact kk H2 locs2 ls hP2 hD2 hS2 hl
theorem Wd.obj (F : Fx p s m args c cc nL own Ts D cA A) {idx h0 : Nat} {ws : va_W} (h1 : Cond.methodLink own idx Lib.objectInit ∈ Ts) (h2 : Cond.instanceMethod Lib.objectInit ∈ Ts) (h3 : Cond.code Lib.objectInit ⟨#[0xb1]⟩ 1 none ∈ Ts) (hlv : (0, Value.ref h0) ∈ lv) (d0 : decode cc 0 = .ok (.aload_n 0, 1)) (d1 : decode cc 1 = .ok (.invokespecial idx, 3)) (hf : 1 ≤ R.frames) (hlo : 12 ≤ R.locals)
    (kk : Wd p l e R s m args below meth c cells slots Q D nL A 4 lv [] ws) : Wd p l e R s m args below meth c cells slots Q D nL A 0 lv [] ws := by
  intro H locs ls hP hD hS hl
  refine lv_aload_n F.1.1 F.1.2.1 d0 rfl (hl.2.2 (0, Value.ref h0) hlv) ?_
  refine W.objInit F.1.1 F.1.2.1 F.1.2.2.2.1 (F.1.2.2.2.2 _ h1) (F.1.2.2.2.2 _ h2) (F.1.2.2.2.2 _ h3) rfl (by rw [F.1.2.2.1]; exact hl.1) rfl d1 hf (by show 2 * 0 + 0 + 12 ≤ R.locals; omega) ?_
  exact kk H locs ls hP hD hS hl
theorem push_b (F : Fx p s m args c cc nL own Ts D cA A) {n : Int} (d : decode cc pc = .ok (.bipush n, 2)) (h1 : -128 ≤ n) (h2 : n ≤ 127) : ∀ (H : Heap) (locs : List Loc) (ls : Array Slot) (st : List Value), W p l e R s m args below meth c H locs cells slots Q (F0 m (pc + 2) ls (.int (zI n) :: st)) → W p l e R s m args below meth c H locs cells slots Q (F0 m pc ls st) :=
  fun _ _ _ _ k => lv_bipush F.1.1 F.1.2.1 d (zI_by h1 h2) k
theorem push_s (F : Fx p s m args c cc nL own Ts D cA A) {n : Int} (d : decode cc pc = .ok (.sipush n, 3)) (h1 : -32768 ≤ n) (h2 : n ≤ 32767) : ∀ (H : Heap) (locs : List Loc) (ls : Array Slot) (st : List Value), W p l e R s m args below meth c H locs cells slots Q (F0 m (pc + 3) ls (.int (zI n) :: st)) → W p l e R s m args below meth c H locs cells slots Q (F0 m pc ls st) :=
  fun _ _ _ _ k => lv_sipush F.1.1 F.1.2.1 d (zI_sh h1 h2) k
/-- a constructor's contract: from the world w0 of the fresh object to a world that 'post' tells -/
def Ck (l : Launch) (y : MethodName) (ws : List Cond) (rm : Room) (D : va_G) (cA : Nat → ClassId) (h0 : Nat) (w0 : va_W) (post : va_W → Prop) (mc ms : Nat) : Prop :=
  ∀ sz : Nat, Met l y ws rm (va_Pc [.ref h0] (fun U => U.heap.size = sz ∧ va_P D vwCl w0 U.heap ∧ va_K D vwCl (gT cA) U ∧ va_D (fun _ => True) w0)) (va_Qv post (fun (u : va_W) (t : State) => va_P D vwCl u t.heap ∧ va_D (va_A w0 sz) u) (va_A w0 sz)) mc ms (va_A w0 sz)
theorem Ck.of {l : Launch} {y : MethodName} {ws ws' : List Cond} {rm : Room} {D : va_G} {cA : Nat → ClassId} {h0 : Nat} {w0 : va_W} {post : va_W → Prop} {mc ms maxL : Nat} {cc : ByteArray} (hy : plainName y.cls = true) (hw : ws = .code y cc maxL none :: ws') (hml1 : 1 ≤ maxL) (hnm : y.name = "<init>")
    (body : ∀ (p : Program) (e : Env) (s : State) (m : MethodId) (args : Array Value) (below : List Frame) (meth : Method) (c : Code) (A : Nat → Prop), Fx p s m args c cc maxL y.cls ws D cA A → meth.name = "<init>" → (∀ {pc : Nat} {lv : List (Nat × Value)} {w : va_W} , decode cc pc = .ok (.return_, 1) → post w → Wd p l e rm s m args below meth c mc ms (MQ below (va_Qv post (fun (u : va_W) (t : State) => va_P D vwCl u t.heap ∧ va_D A u) A) args s mc ms A) D maxL A pc lv [] w) → Wd p l e rm s m args below meth c 0 0 (MQ below (va_Qv post (fun (u : va_W) (t : State) => va_P D vwCl u t.heap ∧ va_D A u) A) args s mc ms A) D maxL A 0 [(0, .ref h0)] [] w0) : Ck l y ws rm D cA h0 w0 post mc ms := by
  intro sz
  refine Met.ofW (cc := cc) (maxL := maxL) (ret := none) hy hw ?_
  intro p e s m args below meth c s₁ B hml hv
  obtain ⟨rfl, hsz, hP, hK, hD0⟩ := hv
  have hts := atoms_spec (ws := ws) B.pre
  have hown : s.vm.findClass y.cls = some m.cls := findClass_of_methodNamed B.named
  have hin : meth.name = "<init>" := by rw [(name_of_methodNamed B.named B.method).1]; exact hnm
  subst hsz
  have hD := hD0.self (sz := s.heap.size)
  have F : Fx p s m [Value.ref h0].toArray c cc maxL y.cls ws D cA (va_A w0 s.heap.size) := ⟨⟨B.exec, B.bytes, hml, hown, hts⟩, hK, fun q h => Or.inr h⟩
  have key := body p e s m [Value.ref h0].toArray below meth c (va_A w0 s.heap.size) F hin (fun hd hp H locs ls hP hD hS hl => W.vret F.1.1 F.1.2.1 B.returns (fun t ht hW => ⟨⟨_, rfl, hp, by rw [ht]; exact hP, hD⟩, hS.F ht⟩) hS.2.2 hd B.notSynchronized)
  have hl := lv_entry [Value.ref h0] (n := maxL) hml1
  rw [lg_entry_eq]
  exact key s.heap [] _ hP hD va_S.rf hl
end Ctor
