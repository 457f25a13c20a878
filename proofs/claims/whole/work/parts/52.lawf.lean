/-! the law: its end, as the skeleton has it -/
def R_law : String := "PairTokensLaw"
def lw_P (b : Addr) (xs : List Int32) (args : Array Value) (s : State) : Prop := args = #[.ref b] ∧ s.IntsAt b xs ∧ xs.length ≤ 1536 ∧ (Jvm.Cond.and given_1 narrow_1).before args s = true
def lw_Q (_ : Array Value) (s : State) (o : Outcome) (t : State) : Prop := o = .returned (some (.int 1)) ∧ Framed s o t [] 1064 30041
def lw_Z (below : List Frame) (a : Array Value) (s : State) : State → Prop := fun t => ∃ o, t.status = .running ∧ Ended t below o ∧ lw_Q a s o t
/-- the law's own end, with 1 on the stack, nothing written that was there before, its room as the claim has it -/
theorem lw_ret {p : Program} {l : Launch} {e : Env} {s : State} {m : MethodId} {below : List Frame} {meth : Method} {c : Code} {b : Nat} (hx : p.tables.exec = Jvm.exec) (hb : c.code = code) (hr : meth.sig.returnType = ret) (hlocks : meth.locks = false) {pc : Nat} {H : Heap} {ls : Array Slot} (hdg : decode code pc = .ok (.ireturn, 1)) : W p l e room_1 s m #[Value.ref b] below meth c H [] 1064 30041 (lw_Z below #[Value.ref b] s) (F0 m pc ls [.int 1]) := by
  intro T hT X
  obtain ⟨fs, hret, hrun, hended, hW, hframe⟩ := X.leave (v := some (.int 1)) (hlocks := hlocks) (fun h => by rw [hr] at h; cases h)
  have hmeth' : T.vm.method? m = some meth := X.method'
  refine ⟨T.setFrames fs, ?_, .returned (some (.int 1)), hrun, hended, rfl, ⟨_, rfl⟩, hW, hframe⟩
  jvm_step X.here [X.here.top, hx, hb, hdg, hmeth', hr, ret, narrow_b1]
  (try refine ⟨rfl, ?_⟩); (try refine ⟨rfl, ?_⟩)
  first | (intro acts; rw [hret _ acts rfl rfl rfl]) | rw [hret _ _ rfl rfl rfl]
  exact Steps.refl _
/-- what holds at the law's entry: the machine, the code, the tables' words (any of lw_tbl by 'hts w (by decide +kernel)'), the script of L ints xs at the cell b, what the Statement gives of the start (any of its parts by flat_of_before) -/
def lw_At (p : Program) (s : State) (m : MethodId) (meth : Method) (c : Code) (b L : Nat) (xs : Nat → Int32) : Prop :=
  p.tables.exec = Jvm.exec ∧ c.code = code ∧ meth.sig.returnType = ret ∧ c.maxLocals = 7 ∧ s.vm.findClass R_law = some m.cls ∧ (∀ w ∈ lw_tbl, w.before #[Value.ref b] s = true) ∧ va_X b L xs s s.heap ∧ b < s.heap.size ∧ meth.locks = false ∧ (Jvm.Cond.and given_1 narrow_1).before #[Value.ref b] s = true

/-! worlds in another order -/
theorem perm_at {a b c : va_W} (i : Nat) : (b ++ (a ++ c))[i]? = ((a ++ b) ++ c)[if i < b.length then a.length + i else if i < b.length + a.length then i - b.length else i]? := by
  by_cases h1 : i < b.length
  · rw [if_pos h1, List.getElem?_append_left h1, List.getElem?_append_left (by rw [List.length_append]; omega), List.getElem?_append_right (by omega), show a.length + i - a.length = i by omega]
  · rw [if_neg h1, List.getElem?_append_right (by omega)]
    by_cases h2 : i < b.length + a.length
    · rw [if_pos h2, List.getElem?_append_left (by omega), List.getElem?_append_left (by rw [List.length_append]; omega), List.getElem?_append_left (by omega)]
    · rw [if_neg h2, List.getElem?_append_right (by omega), List.getElem?_append_right (by rw [List.length_append]; omega), List.length_append, show i - (a.length + b.length) = i - b.length - a.length by omega]
theorem perm_P {D : va_G} {a b c : va_W} {H : Heap} (h : va_P D vwCl ((a ++ b) ++ c) H) : va_P D vwCl (b ++ (a ++ c)) H := fun k z hz => h _ z (by rw [← perm_at]; exact hz)
theorem perm_D {A : Nat → Prop} {a b c : va_W} (h : va_D A ((a ++ b) ++ c)) : va_D A (b ++ (a ++ c)) := by
  refine ⟨fun i j x y hx hy e => ?_, fun k z hz => h.2 _ z (by rw [← perm_at]; exact hz)⟩
  rw [perm_at] at hx hy
  have h1 := h.1 _ _ x y hx hy e
  by_cases i1 : i < b.length <;> by_cases i2 : i < b.length + a.length <;> by_cases j1 : j < b.length <;> by_cases j2 : j < b.length + a.length <;> simp only [i1, i2, j1, j2, if_true, if_false] at h1 <;> omega
section Mk
variable {p : Program} {l : Launch} {e : Env} {R : Room} {s : State} {m : MethodId} {args : Array Value} {below : List Frame} {meth : Method} {c : Code} {cells slots : Nat} {Q : State → Prop} {D : va_G} {cA : Nat → ClassId} {nL : Nat} {A : Nat → Prop} {cc : ByteArray} {own : String} {Ts : List Cond} {pc : Nat} {lv : List (Nat × Value)} {base : va_W}
theorem Wd.mk (F : Fx p s m args c cc nL own Ts D cA A) {C2 : String} {T2 : u_T} {N2 ci2 idxn idxi mc ms : Nat} {fs2 : List Value} {y : MethodName} {ws ws' : List Cond} {rm : Room} {bytes : ByteArray} {maxL : Nat} {post : Nat → va_W → Prop} (ty2 : Nat → FieldType) (hty2 : ∀ k, k < N2 → parseFieldDescriptor (T2 k).2.2.1 = some (ty2 k)) (hin_2 : ∀ w ∈ u_ws C2 T2 N2, w ∈ Ts) (hc2 : vwCl[ci2]? = some (C2, T2, N2)) (hcl : Cond.classLink own idxn C2 ∈ Ts) (hinst : Cond.instantiable C2 N2 ∈ Ts) (hini : Cond.initialized C2 ∈ Ts) (hfs : ∀ j, j < N2 → defaultValue (ty2 j) = vp_V fs2 j)
    (hM : ∀ q, Ck l y ws rm D cA q [(q, .inr (ci2, fs2))] (post q) mc ms) (hG : GoodIn Ts ws) (hw : ws = Cond.code y bytes maxL none :: ws') (hrc : rm.cells = mc) (hrs : rm.slots = ms) (hyc : y.cls = C2) (hml : Cond.methodLink own idxi y ∈ Ts) (hmi : Cond.instanceMethod y ∈ Ts) (hyn : y.name = "<init>") (hyd : y.cls ≠ "java/lang/invoke/MethodHandle" ∧ y.cls ≠ "java/lang/invoke/VarHandle" ∧ (parseMethodDescriptor y.desc).map (fun d => d.parameters.length) = some 0) (hR : rm.frames + 1 ≤ R.frames ∧ 8 + (maxL + 11) + rm.locals ≤ R.locals)
    (hcells : cells + 1 + mc ≤ R.cells) (hslots : slots + N2 + ms ≤ R.slots)
    (d1 : decode cc pc = .ok (.new idxn, 3)) (d2 : decode cc (pc + 3) = .ok (.dup, 1)) (d3 : decode cc (pc + 4) = .ok (.invokespecial idxi, 3))
    (kk : ∀ (q : Nat) (u : va_W), post q u → Wd p l e R s m args below meth c (cells + 1 + mc) (slots + N2 + ms) Q D nL A (pc + 7) lv [.ref q] (base ++ u)) : Wd p l e R s m args below meth c cells slots Q D nL A pc lv [] base := by
  intro H locs ls hP hD hS hl
  have ht := F.1.2.2.2.2
  refine va_new F.1.1 F.1.2.1 ht hin_2 ty2 hty2 F.1.2.2.2.1 (ht _ hcl) (ht _ hinst) (ht _ hini) F.2.1 hP hD hS F.2.2 hc2 hfs (by omega) (by omega) d1 (fun q H1 hP1 hD1 hS1 => ?_)
  refine lv_dup F.1.1 F.1.2.1 d2 rfl ?_
  have hPc : va_P D vwCl [(q, .inr (ci2, fs2))] H1 := fun j z hz => hP1 (base.length + j) z (by rw [List.getElem?_append_right (by omega)]; simpa using hz)
  have hDc : va_D (fun _ => True) [(q, (.inr (ci2, fs2) : va_E))] := by
    refine ⟨fun i j a b ha hb _ => ?_, fun _ _ _ => trivial⟩
    have := (List.getElem?_eq_some_iff.mp ha).1
    have := (List.getElem?_eq_some_iff.mp hb).1
    simp at *
    omega
  have hFc : ∀ x, va_A [(q, .inr (ci2, fs2))] H1.size x → A x := by
    rintro x (⟨j, z, hj⟩ | h)
    · cases j with
      | zero =>
        have hj : (q, (.inr (ci2, fs2) : va_E)) = (x, z) := by simpa using hj
        have e9 : q = x := congrArg Prod.fst hj
        rw [← e9]
        exact hD1.2 base.length (q, .inr (ci2, fs2)) (by rw [List.getElem?_append_right (Nat.le_refl _)]; simp)
      | succ j => simp at hj
    · exact F.2.2 x (Nat.le_trans hS1.1 h)
  refine va_callv (va_runI (As := []) (rest := [.ref q]) F.1 (hM q H1.size) (cwI 0 ht hG hw hrc hrs (ht _ (by rw [hyc]; exact hini)) (ht _ hml) (ht _ hmi) hyn hyd hR) ⟨fun a U g mk q => by obtain ⟨q0, q1, qP, qK, qD⟩ := q; exact ⟨q0, q1, qP, va_K.moved (u := U) (U := U.calling g mk a) (Vm.Alike.refl U.vm) qK, qD⟩, fun U hU hW => ⟨rfl, by rw [hU], by rw [hU]; exact hPc, va_K.moved hW.alike F.2.1, hDc⟩⟩ rfl rfl hl.1 rfl (lv_room (Nat.le_of_ble_eq_true rfl)) d3 ⟨hcells, hslots⟩) hS1 (fun x _ h => hFc x h) hFc (fun u t H2 locs2 ht2 hvm hp hB hz1 hk1 hS2 => ?_)
  obtain ⟨hPu, hDu⟩ := hB
  rw [ht2] at hPu
  obtain ⟨hP3, hD3⟩ := wd_join hP1 hD1 hk1 hFc hPu hDu
  exact kk q u hp H2 locs2 ls hP3 hD3 hS2 hl
end Mk
