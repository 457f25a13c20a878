/-! PairTokens.decode where it throws -/
theorem Kst_of {D : va_G} {ws : va_W} {s U : State} {locs : List Loc} (hP : va_P D vwCl ws s.heap) (hS : va_S (va_A ws s.heap.size) s.heap U.heap locs) : Kst s U := by
  intro a cell hc hs
  have hlt := (Array.getElem?_eq_some_iff.mp hc).1
  rw [hS.2.1 a hlt ?_]
  · exact hc
  · intro hA
    rcases hA with ⟨k, e, hk⟩ | h
    · have h1 := hP k _ hk
      cases e with
      | inl x =>
        have h2 : s.heap[a]? = some (vp_cell x.1 x.2) := h1
        cases Option.some.inj (hc.symm.trans h2)
        have h3 : (vp_cell x.1 x.2).vm.isStatics = false := by
          obtain ⟨x1, n, x2⟩ := x
          rcases x2 with x2 | x2 | x2 | x2 | x2 <;> rfl
        rw [h3] at hs
        cases hs
      | inr x =>
        obtain ⟨r, -, cell', g1, g2, g3, -⟩ := h1
        cases Option.some.inj (hc.symm.trans g1)
        rw [g3] at hs
        cases hs
    · omega
def ThQ (D : va_G) (w : va_W) (sz : Nat) (st : State) (o : Outcome) (t : State) : Prop := ∃ (x : Nat) (ce : Cell) (L' : List Loc), o = .threw x ∧ st.WarmedH t.vm ∧ st.sameButNew ({ t with vm := st.vm } : State) L' 1 6 ∧ (∀ q ∈ L', va_A w sz q.base) ∧ va_F (va_A w sz) st t ∧ va_P D vwCl w t.heap ∧ t.heap[x]? = some ce ∧ st.vm.findClass RJx00060 = some ce.cls ∧ ce.vm = .none
def Ct (l : Launch) (y : MethodName) (ws : List Cond) (rm : Room) (D : va_G) (cA : Nat → ClassId) (ad : Nat → Nat) (L : Lay) (vs : List aV) (σ : St) : Prop :=
  ∀ sz : Nat, MetFree l y (headSpec ws rm) (va_Pc (vs.map (aval ad)) (fun U => U.heap.size = sz ∧ va_P D vwCl (wL cA ad σ 0 L) U.heap ∧ va_K D vwCl (gT cA) U ∧ va_D (fun _ => True) (wL cA ad σ 0 L) ∧ exE U)) (fun _ _ _ _ _ => True) (fun _ st o t => ThQ D (wL cA ad σ 0 L) sz st o t)
def rT : Room := { frames := 8, cells := 1, slots := 6, locals := 120 }
theorem thr_join {p : Program} {l : Launch} {e : Env} {R : Room} {s : State} {m : MethodId} {args : Array Value} {below : List Frame} {meth : Method} {c : Code} {T t : State} {locs : List Loc} {cells slots k n : Nat} (X : Stand p l e R s m args below meth c T locs cells slots) (h : ({ s with heap := T.heap, slotsUsed := T.slotsUsed } : State).sameButNew ({ t with vm := s.vm } : State) [] k n) : s.sameButNew ({ t with vm := s.vm } : State) locs (cells + k) (slots + n) := by
  have h1 : (T.setVm s.vm).sameButNew ({ t with vm := s.vm } : State) [] k n := by
    refine ⟨?_, h.2⟩
    have e1 : T.setVm s.vm = { s.setFrames T.frames with heap := T.heap, slotsUsed := T.slotsUsed } := X.same.1
    have e2 : ∀ F, (T.setVm s.vm).setFrames F = ({ s.setFrames F with heap := T.heap, slotsUsed := T.slotsUsed } : State) := fun F => by
      rw [e1]
      exact congrArg (fun z : State => ({ z with heap := T.heap, slotsUsed := T.slotsUsed } : State)) (State.setFrames_setFrames s T.frames F)
    rw [e2]
    exact h.1
  have h2 := X.same.trans h1
  rw [List.append_nil] at h2
  exact h2
section DecT
variable {l : Launch} {D : va_G} {cA : Nat → ClassId} {ad : Nat → Nat} {σ : St} {T : List Int} {ps : PSt} {P : Int → Int}
theorem c_X5_decodeT (hl : l.stackTraces = false) {t i : Int} (h : RC σ T ps P) (ht' : inR t) (hi : inR i) (hn : dThr ps t i) : Ct l yX5_decode wsX5_decode rT D cA ad LC [.inl 0, .inr t, .inr i] σ := by
  intro sz
  refine MetFree.of_bodyS (code := cX5_decode) (maxLocals := 3) (ret := some .int) (by decide) ?_ ?_
  · intro args s m h hn
    obtain ⟨meth, c, h1, h2, h3, h4, h5, h6, -, -⟩ := Cond.code_spec hn (atoms_spec (ws := wsX5_decode) h _ List.mem_cons_self)
    exact ⟨meth, c, h1, h2, h3, h4, h5, h6⟩
  · intro p e s m args below meth c s₁ B hml hv _
    obtain ⟨rfl, hsz, hP, hK, hD0, hex⟩ := hv
    have hts := atoms_spec (ws := wsX5_decode) B.pre
    have hown : s.vm.findClass RX5 = some m.cls := findClass_of_methodNamed B.named
    have hno := BodyLoose.noHandlers B (hts _ List.mem_cons_self)
    subst hsz
    have hD := hD0.self (sz := s.heap.size)
    have F : Fx p s m (([.inl 0, .inr t, .inr i] : List aV).map (aval ad)).toArray c cX5_decode 3 RX5 wsX5_decode D cA (va_A (wL cA ad σ 0 LC) s.heap.size) := ⟨⟨B.exec, B.bytes, hml, hown, hts⟩, hK, fun q h => Or.inr h⟩
    have key := dec_walk (R := rT) (by decide) (by decide) h ht' hi (Va p l e rT s m (([.inl 0, .inr t, .inr i] : List aV).map (aval ad)).toArray below meth c 0 0 (fun u => ∃ o, u.status = .running ∧ Ended u below o ∧ ThQ D (wL cA ad σ 0 LC) s.heap.size s o u) D cA ad LC 3 (va_A (wL cA ad σ 0 LC) s.heap.size)) (Mach.of F LC_ok tX5_decode_ok fX5_decode_ok pX5_decode_ok klOk_0 ⟨Nat.zero_le _, Nat.zero_le _⟩) (fun _ _ q => absurd hn q) (fun _ lv H locs ls hP1 hD1 hS1 hl1 T hT X => by
      have X' := st_base X (Nat.zero_le _) (Nat.zero_le _)
      subst hT
      have hex' : exE ({ s with heap := T.heap, slotsUsed := T.slotsUsed } : State) := hex.kept (State.WarmedH.refl s) (Kst_of hP hS1)
      have wd : ∀ w ∈ wsX5_decode, (w.onTables && w.keeps) = true → w.before (([.inl 0, .inr t, .inr i] : List aV).map (aval ad)).toArray ({ s with heap := T.heap, slotsUsed := T.slotsUsed } : State) = true := fun w hw hk => word_at (U := ({ s with heap := T.heap, slotsUsed := T.slotsUsed } : State)) (State.WarmedH.refl s) (Or.inl hk) (hts w hw)
      obtain ⟨u, st, x, ce, u2, u3, u4, u5, u6, u7, u8⟩ := thr_W (s := ({ s with heap := T.heap, slotsUsed := T.slotsUsed } : State)) (R := { rT with cells := rT.cells - 0, slots := rT.slots - 0 }) (ls := ls) B.exec B.bytes ((by rw [X.admits.platform]; exact hl) : e.platform.stackTraces = false) hown hex' (wd _ (List.mem_of_getElem? (i := 2) rfl) rfl) (wd _ (List.mem_of_getElem? (i := 3) rfl) rfl) (wd _ (List.mem_of_getElem? (i := 4) rfl) rfl) (by decide) (by decide) (by decide) (by decide) (hl1.1.trans hml.symm) hno B.notSynchronized T rfl X'
      have old : ∀ q : Nat, q < T.heap.size → u.heap[q]? = T.heap[q]? := fun q hq => by
        have h1 : T.heap[q]? = some T.heap[q] := Array.getElem?_eq_getElem hq
        have h2 : ({ s with heap := T.heap, slotsUsed := T.slotsUsed } : State).heap[q]? = some T.heap[q] := h1
        have h3 : u.heap[q]? = some T.heap[q] := State.sameButNew.old_cell u5 h2
        rw [h3, h1]
      have sm := thr_join X u5
      rw [Nat.zero_add, Nat.zero_add] at sm
      refine ⟨u, st, .threw x, u2, u3, x, ce, locs, rfl, u4, sm, hS1.2.2, ⟨Nat.le_trans hS1.1 u5.2.1, fun q h1 h2 => ?_⟩, fun k q hk => (hP1 k q hk).kept (old q.1 (hP1 k q hk).lt), u6, u7, u8⟩
      rw [old q (Nat.lt_of_lt_of_le h1 hS1.1)]
      exact hS1.2.1 q h1 h2)
    have hl := lv_entry (([.inl 0, .inr t, .inr i] : List aV).map (aval ad)) (n := 3) (by rw [lg_len]; exact Nat.le_of_ble_eq_true rfl)
    rw [lnum_args] at hl
    have hh0 : s₁.heap = s.heap := by rw [B.state]; rfl
    have k2 : W p l e rT s m (([.inl 0, .inr t, .inr i] : List aV).map (aval ad)).toArray below meth c s.heap [] 0 0 (fun u => ∃ o, u.status = .running ∧ Ended u below o ∧ ThQ D (wL cA ad σ 0 LC) s.heap.size s o u) (entryFrame m (([.inl 0, .inr t, .inr i] : List aV).map (aval ad)).toArray 3) := by
      rw [lg_entry_eq]
      exact key s.heap [] _ hP hD va_S.rf hl
    obtain ⟨u, a1, o, b1, b2, b3⟩ := k2 s₁ hh0 (Stand.of_body B)
    exact ⟨u, o, a1, b1, b2, b3⟩
end DecT
