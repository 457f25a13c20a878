/-! PairTokensLaw.decode -/
section LdC
variable {p : Program} {l : Launch} {e : Env} {R : Room} {s : State} {m : MethodId} {args : Array Value} {below : List Frame} {meth : Method} {c : Code} {T : State} {locs : List Loc} {cells slots : Nat}
/-- a call by a contract of any end -/
theorem callT (X : Stand p l e R s m args below meth c T locs cells slots) (hexec : p.tables.exec = Jvm.exec) {own C : String} {index : Nat} {y : MethodName} {bytes : ByteArray} {maxL : Nat} {ret : Option FieldType}
    (hown : s.vm.findClass own = some m.cls) (hlink : (Cond.methodLink own index y).before args s = true) (hinst : (Cond.instanceMethod y).before args s = true) (hsel : (Cond.selects C y y).before args s = true)
    (hcode : (Cond.code y bytes maxL ret).before args s = true) (hini : (Cond.initialized y.cls).before args s = true) (hy : y.cls ≠ "java/lang/invoke/MethodHandle" ∧ y.cls ≠ "java/lang/invoke/VarHandle")
    {ws : List Cond} {rm : Room} {Pc : Array Value → State → Prop} {Qc : Array Value → State → Outcome → State → Prop} (hM : MetFree l y (headSpec ws rm) Pc (fun _ _ _ _ _ => True) Qc) (hfr : rm.frames + 1 ≤ R.frames) (hlo : 8 + (maxL + 11) + rm.locals ≤ R.locals) (hcells : cells + rm.cells ≤ R.cells) (hslots : slots + rm.slots ≤ R.slots)
    (hws : ∀ w ∈ ws, ∀ (a' : Array Value) (U : State), s.WarmedH U.vm → w.before a' U = true)
    {b : Addr} {cellB : Cell} (hcell : T.heap[b]? = some cellB) (hobj : cellB.vm.isStatics = false) (hcls : s.vm.findClass C = some cellB.cls)
    {g : JFrame} (hg : g.method = m) (hsize : g.locals.size = c.maxLocals) {argsL rest : List Value} (hlen : ∀ sig, parseMethodDescriptor y.desc = some sig → argsL.length = sig.parameters.length)
    (hstack : g.stack = argsL.reverse ++ .ref b :: rest) (hW : 2 * g.monitorRoom + (rest.map fun v => v.category).sum ≤ 8) (hdg : decode c.code g.pc = .ok (.invokevirtual index, 3))
    (hpre : ∀ (vm₁ : Vm) (g' : JFrame) (mk : MethodId), s.WarmedH vm₁ → Pc (Value.ref b :: argsL).toArray ((T.setVm vm₁).calling g' mk (Value.ref b :: argsL).toArray)) :
    ∃ (vm₁ : Vm) (mk : MethodId) (o : Outcome) (s₂ : State), Stand p l e R s m args below meth c (T.setVm vm₁) locs cells slots ∧ Ended s₂ (.java { g with stack := rest } :: below) o ∧ Qc (Value.ref b :: argsL).toArray ((T.setVm vm₁).calling { g with stack := rest } mk (Value.ref b :: argsL).toArray) o s₂ ∧ ∀ tg, Steps p.tables e below s₂ tg → Steps p.tables e below (T.setTop g) tg := by
  obtain ⟨mk, methM, hnamed, hmethM, hstM, habM⟩ := Cond.instanceMethod_spec hinst
  obtain ⟨methM', cM, hmethM', hcM, -, hlM, -, -, -, hsigM⟩ := Cond.code_spec hnamed hcode
  cases hmethM.symm.trans hmethM'
  obtain ⟨c2, r2, m2, q1, q2, q3, q4, kP, hkP, hkPi⟩ := Cond.selects_spec hsel
  cases hcls.symm.trans q1
  cases (State.methodFound?_of_named hnamed hy).symm.trans q2
  cases hnamed.symm.trans q3
  have hselP : selectMethod e.platform s.vm cellB.cls mk = .method mk := by rw [Launch.admits_selectMethod X.admits]; exact q4
  obtain ⟨vm₁, X₁, hstep₁⟩ := X.invokevirtual hexec hown hlink hnamed hmethM hstM hkP hkPi hy (a := b) (cell := cellB) hcell
    (fun z h => by rw [h] at hobj; cases hobj) hselP hmethM habM hkP hkPi (g := g) hg (argsL := argsL) (rest := rest) (hlen _ hsigM) hstack hdg
  have hn1 := X₁.named hnamed
  have hinit1 : (Cond.initialized y.cls).before args (T.setVm vm₁) = true := word_at X₁.warmed (Or.inl rfl) hini
  obtain ⟨kY, hkY, -⟩ := className_of_methodNamed hn1
  have hinitY : kY.init = .initialized := Cond.initialized_spec (findClass_of_methodNamed hn1) hkY hinit1
  have hm1 : (T.setVm vm₁).vm.method? mk = some methM := by rw [X₁.warmed.alike.method?]; exact hmethM
  subst hg
  have happ : (headSpec ws rm).appliesLoose y e.platform ((T.setVm vm₁).calling { g with stack := rest } mk (Value.ref b :: argsL).toArray) = true :=
    Spec.appliesLoose_calling (g := { g with stack := rest }) X₁.here hdg hn1 hkY hinitY
      (X₁.room_calling (g := { g with stack := rest }) (R' := rm) hsize hm1 hcM hfr (by rw [hlM]; show 2 * g.monitorRoom + (rest.map fun v => v.category).sum + (maxL + 11) + rm.locals ≤ R.locals; omega) hcells hslots) (atoms_intro fun w hw => hws w hw _ _ X₁.warmed)
  obtain ⟨mid, hmid⟩ := X₁.here.above
  have hfr2 : ((T.setVm vm₁).setTop { g with stack := rest }).frames = (.java { g with stack := rest } :: mid) ++ below := by rw [State.frames_setTop' _ X₁.here.top, hmid]; rfl
  obtain ⟨o, s₂, hsteps, -, hend, hq⟩ := Steps.callFree hM p X₁.admits X₁.cas X₁.clock (acts := []) hfr2 happ (hpre vm₁ _ mk X₁.warmed) trivial
  rw [State.frames_setTop' _ X₁.here.top, X₁.tail] at hend
  exact ⟨vm₁, mk, o, s₂, X₁, hend, hq, fun tg h => hstep₁ _ fun acts => by rw [doInvoke_state]; exact hsteps.trans h⟩
end LdC
def rL (k : Nat) : Room := { frames := 9, cells := k, slots := 6 * k, locals := 150 }
def wO (q : Nat) (cJ : ClassId) (f : Nat → Int64) : va_W := [(q, .inl (cJ, 1, .inr (.inl f)))]
def exF (U : State) : Prop := exE U ∧ (Cond.classLink RL 13 RJx00060).before #[] U = true
theorem exF.kept {s U : State} (h : exF s) (hW : s.WarmedH U.vm) (hh : Kst s U) : exF U := ⟨h.1.kept hW hh, word_at hW (Or.inl rfl) h.2⟩
def LdP (D : va_G) (cA : Nat → ClassId) (cJ : ClassId) (w : va_W) (sz : Nat) (U : State) : Prop := U.heap.size = sz ∧ va_P D vwCl w U.heap ∧ va_K D vwCl (gT cA ++ [(cJ, .long)]) U ∧ va_D (fun _ => True) w ∧ exF U
def Lk (l : Launch) (D : va_G) (cA : Nat → ClassId) (cJ : ClassId) (ad : Nat → Nat) (q : Nat) (σ : St) (f : Nat → Int64) (t i : Int) (k : Nat) (post : Int32 → (Nat → Int64) → Prop) : Prop :=
  ∀ sz : Nat, Met l yL_decode wsL_decode (rL k) (va_Pc [.ref (ad 0), .int (zI t), .int (zI i), .ref q] (LdP D cA cJ (wL cA ad σ 0 LC ++ wO q cJ f) sz)) (va_Qi post (fun (u : Nat → Int64) (t' : State) => va_P D vwCl (wL cA ad σ 0 LC ++ wO q cJ u) t'.heap) (va_A (wL cA ad σ 0 LC ++ wO q cJ f) sz)) k (6 * k) (va_A (wL cA ad σ 0 LC ++ wO q cJ f) sz)
section Ld
variable {l : Launch} {D : va_G} {cA : Nat → ClassId} {cJ : ClassId} {ad : Nat → Nat} {σ : St} {T : List Int} {ps : PSt} {P : Int → Int} {q : Nat} {f : Nat → Int64}
theorem oL_decode_X5_decode (k : Nat) : okV (rL k) RL wsL_decode 7 RX5 yX5_decode wsX5_decode (rh 2) 2 := ⟨_, _, _, _, gL_decode_X5_decode, rfl, rfl, rfl, by decide +kernel, by show 2 + 1 ≤ 9 ∧ 8 + (3 + 11) + 80 ≤ 150; decide⟩
theorem c_L_decode {t i : Int} (h : RC σ T ps P) (ht' : inR t) (hi : inR i) (hn : ¬ dThr ps t i) : Lk l D cA cJ ad q σ f t i 0 (fun r u => r = zI 0 ∧ u 0 = (zI (aDec ps t i)).toInt64) := by
  intro sz
  refine va_MetW (hh := [(0, 10, 13, 13)]) (cc := cL_decode) (maxL := 5) (ret := some .int) (by decide) rfl ?_
  intro p e s m args below meth c s₁ B hml hv
  obtain ⟨rfl, hsz, hP, hK2, hD0, hex⟩ := hv
  have hts := atoms_spec (ws := wsL_decode) B.pre
  have hown : s.vm.findClass RL = some m.cls := findClass_of_methodNamed B.named
  subst hsz
  have hD := hD0.self (sz := s.heap.size)
  have F : Fx p s m ([.ref (ad 0), .int (zI t), .int (zI i), .ref q] : List Value).toArray c cL_decode 5 RL wsL_decode D cA (va_A (wL cA ad σ 0 LC ++ wO q cJ f) s.heap.size) := ⟨⟨B.exec, B.bytes, hml, hown, hts⟩, hK2.sub [0, 1] rfl, fun q h => Or.inr h⟩
  have hl := lv_entry ([.ref (ad 0), .int (zI t), .int (zI i), .ref q] : List Value) (n := 5) (Nat.le_of_ble_eq_true rfl)
  rw [lg_entry_eq]
  refine lv_aload_n F.1.1 F.1.2.1 (tdec tL_decode_ok 0 (q := (0, .aload_n 3, 1, 0)) rfl) rfl (hl.2.2 (3, .ref q) (List.mem_of_getElem? (i := 3) rfl)) ?_
  refine lv_iconst (v := zI 0) F.1.1 F.1.2.1 (tdec tL_decode_ok 1 (q := (1, .iconst 0, 2, 0)) rfl) rfl ?_
  refine lv_aload_n F.1.1 F.1.2.1 (tdec tL_decode_ok 2 (q := (2, .aload_n 0, 3, 0)) rfl) rfl (hl.2.2 (0, .ref (ad 0)) (List.mem_of_getElem? (i := 0) rfl)) ?_
  refine lv_iload_n F.1.1 F.1.2.1 (tdec tL_decode_ok 3 (q := (3, .iload_n 1, 4, 0)) rfl) rfl (hl.2.2 (1, .int (zI t)) (List.mem_of_getElem? (i := 1) rfl)) ?_
  refine lv_iload_n F.1.1 F.1.2.1 (tdec tL_decode_ok 4 (q := (4, .iload_n 2, 5, 0)) rfl) rfl (hl.2.2 (2, .int (zI i)) (List.mem_of_getElem? (i := 2) rfl)) ?_
  refine Wd.callVi F (wa := []) (wb := wO q cJ f) (vs := [.inr t, .inr i]) (rest := [.int (zI 0), .ref q]) (j := 0) (oL_decode_X5_decode 0) (tdec tL_decode_ok 5 (q := (5, .invokevirtual 7, 8, 0)) rfl) rfl rfl (Nat.le_of_ble_eq_true rfl) ⟨Nat.zero_le _, Nat.zero_le _⟩ (c_X5_decode h ht' hi hn) (fun r τ hin hp => ?_) s.heap [] _ hP hD va_S.rf hl
  obtain ⟨hr, hτ⟩ := hp
  subst hτ
  intro H1 locs1 ls1 hP1 hD1 hS1 hl1
  refine lv_i2l F.1.1 F.1.2.1 (tdec tL_decode_ok 6 (q := (8, .i2l, 9, 0)) rfl) rfl ?_
  refine va_last F.1.1 F.1.2.1 hK2 hP1 hD1 hS1 24 2 (cA := cJ) (n := 1) (f := f) rfl rfl (by show ¬ (zI 0 < 0 ∨ 1 ≤ (zI 0).toNatClampNeg); decide) (tdec tL_decode_ok 7 (q := (9, .lastore, 10, 0)) rfl) (fun H2 locs2 hP2 hD2 hS2 => ?_)
  refine lv_goto F.1.1 F.1.2.1 (tgt := 17) (tdec tL_decode_ok 8 (q := (10, .goto 7, 13, 17)) rfl) (by decide) ?_
  refine lv_iconst (v := zI 0) F.1.1 F.1.2.1 (tdec tL_decode_ok 12 (q := (17, .iconst 0, 18, 0)) rfl) rfl ?_
  refine W.iret F.1.1 F.1.2.1 B.returns (fun t' ht hW => ⟨⟨zI 0, vp_updL f (zI 0).toNatClampNeg (zI r).toInt64, rfl, ⟨rfl, ?_⟩, ?_⟩, hS2.F ht⟩) hS2.2.2 (tdec tL_decode_ok 13 (q := (18, .ireturn, 19, 0)) rfl) B.notSynchronized
  · rw [hr]
    rfl
  · show va_P D vwCl (wL cA ad τ 0 LC ++ wO q cJ (vp_updL f (zI 0).toNatClampNeg (zI r).toInt64)) t'.heap
    rw [ht]
    exact hP2
theorem c_L_decodeT (hst : l.stackTraces = false) {t i : Int} (h : RC σ T ps P) (ht' : inR t) (hi : inR i) (hn : dThr ps t i) : Lk l D cA cJ ad q σ f t i 1 (fun r u => r = zI 1 ∧ u = f) := by
  intro sz
  refine va_MetW (hh := [(0, 10, 13, 13)]) (cc := cL_decode) (maxL := 5) (ret := some .int) (by decide) rfl ?_
  intro p e s m args below meth c s₁ B hml hv
  obtain ⟨rfl, hsz, hP, hK2, hD0, hex⟩ := hv
  have hts := atoms_spec (ws := wsL_decode) B.pre
  have hown : s.vm.findClass RL = some m.cls := findClass_of_methodNamed B.named
  have htab : c.exceptionTable.toList = [⟨0, 10, 13, 13⟩] := by
    obtain ⟨m9, meth9, c9, hn9, h1, h2, -, -, h3, -⟩ := Cond.codeWith_spec (hts _ List.mem_cons_self)
    cases B.named.symm.trans hn9
    cases B.method.symm.trans h1
    cases (Stand.of_body B).code.symm.trans h2
    have := table_eq c.exceptionTable.toList
    rw [h3] at this
    exact this.symm
  subst hsz
  have hD := hD0.self (sz := s.heap.size)
  have F : Fx p s m ([.ref (ad 0), .int (zI t), .int (zI i), .ref q] : List Value).toArray c cL_decode 5 RL wsL_decode D cA (va_A (wL cA ad σ 0 LC ++ wO q cJ f) s.heap.size) := ⟨⟨B.exec, B.bytes, hml, hown, hts⟩, hK2.sub [0, 1] rfl, fun q h => Or.inr h⟩
  have hl := lv_entry ([.ref (ad 0), .int (zI t), .int (zI i), .ref q] : List Value) (n := 5) (Nat.le_of_ble_eq_true rfl)
  rw [lg_entry_eq]
  refine lv_aload_n F.1.1 F.1.2.1 (tdec tL_decode_ok 0 (q := (0, .aload_n 3, 1, 0)) rfl) rfl (hl.2.2 (3, .ref q) (List.mem_of_getElem? (i := 3) rfl)) ?_
  refine lv_iconst (v := zI 0) F.1.1 F.1.2.1 (tdec tL_decode_ok 1 (q := (1, .iconst 0, 2, 0)) rfl) rfl ?_
  refine lv_aload_n F.1.1 F.1.2.1 (tdec tL_decode_ok 2 (q := (2, .aload_n 0, 3, 0)) rfl) rfl (hl.2.2 (0, .ref (ad 0)) (List.mem_of_getElem? (i := 0) rfl)) ?_
  refine lv_iload_n F.1.1 F.1.2.1 (tdec tL_decode_ok 3 (q := (3, .iload_n 1, 4, 0)) rfl) rfl (hl.2.2 (1, .int (zI t)) (List.mem_of_getElem? (i := 1) rfl)) ?_
  refine lv_iload_n F.1.1 F.1.2.1 (tdec tL_decode_ok 4 (q := (4, .iload_n 2, 5, 0)) rfl) rfl (hl.2.2 (2, .int (zI i)) (List.mem_of_getElem? (i := 2) rfl)) ?_
  generalize (lg_sl ([.ref (ad 0), .int (zI t), .int (zI i), .ref q] : List Value) ++ List.replicate (5 - (lg_sl ([.ref (ad 0), .int (zI t), .int (zI i), .ref q] : List Value)).length) Slot.unset).toArray = ls at hl
  intro T1 hT1 X
  have hP0 : va_P D vwCl ([] ++ (wL cA ad σ 0 LC ++ wO q cJ f)) s.heap := hP
  have hD1 : va_D (va_A (wL cA ad σ 0 LC ++ wO q cJ f) s.heap.size) ([] ++ (wL cA ad σ 0 LC ++ wO q cJ f)) := hD
  have hPc := hP0.mid
  have hDc := hD1.mid
  obtain ⟨cellB, hcB, hoB, hclB⟩ := va_recv (q := (RX5, TX5, 5)) F.2.1 hPc rfl (wL_at (j := 0) (x := .inl (6, [.inl 1, .inl 2, .inl 3, .inl 4, .inl 5])) rfl)
  have gm : ∀ w ∈ wsV RL 7 RX5 yX5_decode wsX5_decode, w.before ([.ref (ad 0), .int (zI t), .int (zI i), .ref q] : List Value).toArray s = true := fun w hw => hts w (gL_decode_X5_decode w hw).1
  obtain ⟨vm₁, mk, o, s₂, X₁, hend, hq, hgo⟩ := callT X F.1.1 (own := RL) (C := RX5) (index := 7) (y := yX5_decode) (bytes := cX5_decode) (maxL := 3) (ret := some .int) hown (gm _ (List.mem_of_getElem? (i := 0) rfl)) (gm _ (List.mem_of_getElem? (i := 1) rfl)) (gm _ (List.mem_of_getElem? (i := 2) rfl)) (gm _ (List.mem_of_getElem? (i := 4) rfl)) (gm _ (List.mem_of_getElem? (i := 3) rfl)) (by decide) (c_X5_decodeT (ad := ad) (cA := cA) (D := D) hst h ht' hi hn s.heap.size) (by decide) (by decide) (by decide) (by decide) (pay_in hts ggL_decode_X5_decode) (b := ad 0) (by rw [hT1]; exact hcB) hoB hclB (g := F0 m 5 ls [.int (zI i), .int (zI t), .ref (ad 0), .int (zI 0), .ref q]) rfl (hl.1.trans hml.symm) (argsL := [.int (zI t), .int (zI i)]) (rest := [.int (zI 0), .ref q]) (fun sig hs => by
      have h9 : (parseMethodDescriptor yX5_decode.desc).map (fun d => d.parameters.length) = some 2 := by decide +kernel
      rw [hs] at h9
      exact (Option.some.inj h9).symm) rfl (by show 2 * 0 + (1 + (1 + 0)) ≤ 8; decide) (by rw [B.bytes]; exact (tdec tL_decode_ok 5 (q := (5, .invokevirtual 7, 8, 0)) rfl)) (fun v g' mk hW => ⟨rfl, by show T1.heap.size = s.heap.size; rw [hT1], by show va_P D vwCl _ T1.heap; rw [hT1]; exact hPc, va_K.moved (U := (T1.setVm v).calling g' mk _) hW.alike F.2.1, hDc.weaken (fun _ _ _ _ => trivial), hex.1.kept (U := (T1.setVm v).calling g' mk _) hW (fun a cell h9 _ => by show T1.heap[a]? = some cell; rw [hT1]; exact h9)⟩)
  obtain ⟨x, ce, L', rfl, hW2, hsame, hL', hF2, hP2, hx, hfc, hvm⟩ := hq
  obtain ⟨T', X', hWT, hsT, htt⟩ := X₁.outOfThrown (g := F0 m 5 ls [.int (zI 0), .ref q]) rfl hend hW2 hsame
  have hh : T'.heap = s₂.heap := by rw [htt]; exact (Stand.throwing_heap T' _ x).symm
  obtain ⟨vm', X'', hgo2⟩ := cat_steps X' (a := x) (g := F0 m 5 ls [.int (zI 0), .ref q]) rfl hown (name := RJx00060) htab rfl (by decide) (word_at (State.WarmedH.refl s) (Or.inl rfl) hex.2) (cell := ce) (by rw [← X₁.warmed.alike.findClass]; exact hfc) (by rw [hh]; exact hx) (by rw [hvm]; rfl)
  have sub : ∀ y, va_A (wL cA ad σ 0 LC) s.heap.size y → va_A (wL cA ad σ 0 LC ++ wO q cJ f) s.heap.size y := by
    rintro y (⟨k, z, hk⟩ | h9)
    · exact Or.inl ⟨k, z, by rw [List.getElem?_append_left (List.getElem?_eq_some_iff.mp hk).1]; exact hk⟩
    · exact Or.inr h9
  have hF3 : s.heap.size ≤ s₂.heap.size ∧ ∀ y : Nat, y < s.heap.size → ¬ va_A (wL cA ad σ 0 LC) s.heap.size y → s₂.heap[y]? = s.heap[y]? := by
    have h8 := hF2
    unfold va_F at h8
    rw [show ((T1.setVm vm₁).calling { F0 m 5 ls [.int (zI i), .int (zI t), .ref (ad 0), .int (zI 0), .ref q] with stack := [.int (zI 0), .ref q] } mk (Value.ref (ad 0) :: [.int (zI t), .int (zI i)]).toArray).heap = s.heap from hT1] at h8
    exact h8
  obtain ⟨j1, j2⟩ := fr_join hP0 hD1 hF3.2 hP2 rfl
  have w13 : W p l e (rL 1) s m ([.ref (ad 0), .int (zI t), .int (zI i), .ref q] : List Value).toArray below meth c s₂.heap ([] ++ L') (0 + 1) (0 + 6) (MQ below (va_Qi (fun r u => r = zI 1 ∧ u = f) (fun (u : Nat → Int64) (t' : State) => va_P D vwCl (wL cA ad σ 0 LC ++ wO q cJ u) t'.heap) (va_A (wL cA ad σ 0 LC ++ wO q cJ f) s.heap.size)) ([.ref (ad 0), .int (zI t), .int (zI i), .ref q] : List Value).toArray s 1 (6 * 1) (va_A (wL cA ad σ 0 LC ++ wO q cJ f) s.heap.size)) (F0 m 13 ls [.ref x]) := by
    refine lv_astore F.1.1 F.1.2.1 (tdec tL_decode_ok 9 (q := (13, .astore 4, 15, 0)) rfl) hl (by decide) rfl (fun ls' hl' => ?_)
    refine lv_iconst (v := zI 1) F.1.1 F.1.2.1 (tdec tL_decode_ok 10 (q := (15, .iconst 1, 16, 0)) rfl) rfl ?_
    refine W.iret F.1.1 F.1.2.1 B.returns (fun t' ht hW => ⟨⟨zI 1, f, rfl, ⟨rfl, rfl⟩, ?_⟩, ⟨by rw [ht]; exact hF3.1, fun y h1 h2 => by rw [ht]; exact hF3.2 y h1 (fun z => h2 (sub y z))⟩⟩) (fun y hy => sub _ (hL' y hy)) (tdec tL_decode_ok 11 (q := (16, .ireturn, 17, 0)) rfl) B.notSynchronized
    show va_P D vwCl (wL cA ad σ 0 LC ++ wO q cJ f) t'.heap
    rw [ht]
    exact j1
  obtain ⟨u, a1, b1⟩ := w13 (T'.setVm vm') hh X''
  exact ⟨u, hgo u (by rw [htt]; exact hgo2 u a1), b1⟩
end Ld
