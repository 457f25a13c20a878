/-! the law's case of decode -/
section LawD
variable {p : Program} {l : Launch} {e : Env} {R : Room} {s : State} {m : MethodId} {args : Array Value} {below : List Frame} {meth : Method} {c : Code} {H : Heap} {locs : List Loc} {cells slots : Nat}
theorem va_runSW {y : MethodName} {bytes cc : ByteArray} {maxL nL mc ms n index : Nat} {ret : Option FieldType} {hh : List (Nat × Nat × Nat × Nat)} {ws ws' : List Cond} {rm : Room} {Pc : Array Value → State → Prop} {Qc : Array Value → State → Outcome → State → Prop} {free : Addr → Prop} {Ts : List Cond} {own : String} {As rest : List Value} {g : JFrame}
    (S : CallFix p m c cc nL s args Ts own) (hM : Met l y ws rm Pc Qc mc ms free) (hT : GoodIn Ts (va_wsS own index y ws)) (hw : ws = Cond.codeWith y bytes maxL ret hh :: ws') (hrc : rm.cells = mc) (hrs : rm.slots = ms)
    (hd : y.cls ≠ "java/lang/invoke/MethodHandle" ∧ y.cls ≠ "java/lang/invoke/VarHandle" ∧ (parseMethodDescriptor y.desc).map (fun d => d.parameters.length) = some n) (hR : rm.frames + 1 ≤ R.frames ∧ 8 + (maxL + 11) + rm.locals ≤ R.locals) (hp : PreS s H Pc As)
    (hg : g.method = m) (hn : As.length = n) (hsize : g.locals.size = nL) (hstack : g.stack = As.reverse ++ rest) (hW : 2 * g.monitorRoom + (rest.map fun v => v.category).sum ≤ 8) (hdg : decode cc g.pc = .ok (.invokestatic index, 3)) (hf : cells + mc ≤ R.cells ∧ slots + ms ≤ R.slots) :
    va_Run p l e R s m args below meth c H locs cells slots mc ms g rest (Qc As.toArray) (free) := by
  obtain ⟨hx, hb, hml, ho, ht⟩ := S
  have ok : ∀ w ∈ va_wsS own index y ws, w.before args s = true := fun w h => ht w (hT w h).1
  have hG : GoodIn Ts ws := fun w h => hT w (by unfold va_wsS; exact List.mem_append_right _ h)
  have hc : Cond.codeWith y bytes maxL ret hh ∈ ws := by rw [hw]; exact List.mem_cons_self
  have hini := ok (.initialized y.cls) (by simp [va_wsS])
  have hK : Back l R p e below s args y 3 8 (PreOf R mc ms Pc) (PostOf Qc mc ms free) := va_backW (hh := hh) (bytes := bytes) (maxL := maxL) (ret := ret) hM hp.1 hrc hrs hR.1 hR.2 (pay_in ht hG) hc (fun a' U hW => word_at hW (Or.inl rfl) hini)
  intro T hT2 X
  obtain ⟨m9, methM, cM, hnamed, hmethM, -, -, -, -, -, -, hsigM⟩ := Cond.codeWith_spec (ht _ (hG _ hc).1)
  obtain ⟨v, vm₁, ⟨U', l2, c2, s2⟩, hW₁, X', ⟨g', mk, t, L, e1, e2, hq, h1, hL, h2, h3⟩, st⟩ := X.staticBack hx (own := own) (index := index) ho (ok _ (by simp [va_wsS])) (ok _ (by simp [va_wsS])) hini hnamed hmethM hsigM ⟨hd.1, hd.2.1⟩ hK hg (hsize.trans hml.symm) (Steps.refl _) (argsL := As) (rest := rest) (fun sig h => by
      have h9 := hd.2.2
      rw [h] at h9
      rw [hn]
      exact (Option.some.inj h9).symm) hstack hW (by rw [hb]; exact hdg) (fun vm₁ hW₁ => ⟨hf.1, hf.2, hp.2 (T.setVm vm₁) hT2 hW₁⟩)
  dsimp only [Pt.U, Pt.locs, Pt.cells, Pt.slots] at X' e1 e2 h1 h2 h3 st
  subst h1; subst h2; subst h3
  exact ⟨v, (T.setVm vm₁).calling g' mk As.toArray, t, U', L, hT2, X', hL, e1, e2, hq, fun tg h => st.trans h⟩
end LawD
section Law8
variable {p : Program} {l : Launch} {e : Env} {s : State} {m : MethodId} {b : Nat} {below : List Frame} {meth : Method} {c : Code} {cells slots : Nat} {D : va_G} {cA : Nat → ClassId} {cJ : ClassId} {ad bd : Nat → Nat} {q Ln i : Nat} {xs : Nat → Int32} {σ τ : St} {f : Nat → Int64} {lv lv' : List (Nat × Value)} {st : List Value} {w : va_W} {pc : Nat}
theorem lw_drop (h : ∀ x ∈ lv', x ∈ lv) (k : WL p l e s m b below meth c cells slots D pc lv' st w) : WL p l e s m b below meth c cells slots D pc lv st w :=
  fun H locs ls hP hD hS hl => k H locs ls hP hD hS ⟨hl.1, hl.2.1, fun x hx => hl.2.2 x (h x hx)⟩
theorem lw_dA (G : LF p s m c b Ln xs D cA) (hJ : va_K D vwCl (gT cA ++ [(cJ, .long)]) s) (hex : exF s) {a a2 : Int} (hj : i + 2 < Ln) (ha : xs (i + 1) = zI a) (ha2 : xs (i + 2) = zI a2) {k : Nat} {post : Int32 → (Nat → Int64) → Prop} (hL : Lk l D cA cJ ad q σ f a a2 k post) (hcs : cells + k ≤ room_1.cells ∧ slots + 6 * k ≤ room_1.slots)
    (kk : ∀ (r : Int32) (u : Nat → Int64), post r u → WL p l e s m b below meth c (cells + k) (slots + 6 * k) D 337 (lvC b ad bd q i) [.int r] (lwW cA cJ bd ad q τ σ u)) : WL p l e s m b below meth c cells slots D 320 (lvC b ad bd q i) [] (lwW cA cJ bd ad q τ σ f) := by
  refine lw_ld G 1 (x := ad 0) (List.mem_of_getElem? (i := 3) rfl) dL_law_320 ?_
  refine lw_arg G 1 (by omega) (List.mem_of_getElem? (i := 4) rfl) (List.mem_of_getElem? (i := 0) rfl) dL_law_321 dL_law_322 dL_law_324 dL_law_325 dL_law_326 ?_
  refine lw_arg G 2 hj (List.mem_of_getElem? (i := 4) rfl) (List.mem_of_getElem? (i := 0) rfl) dL_law_327 dL_law_328 dL_law_330 dL_law_331 dL_law_332 ?_
  rw [ha, ha2]
  refine lw_ld G 3 (x := q) (List.mem_of_getElem? (i := 1) rfl) dL_law_333 ?_
  intro H locs ls hP hD hS hl
  have hP' : va_P D vwCl (wL cA bd τ 0 LM ++ ((wL cA ad σ 0 LC ++ wO q cJ f) ++ [])) H := by rw [List.append_nil]; exact hP
  have hD' : va_D (fun y => s.heap.size ≤ y) (wL cA bd τ 0 LM ++ ((wL cA ad σ 0 LC ++ wO q cJ f) ++ [])) := by rw [List.append_nil]; exact hD
  have hPc := hP'.mid
  have hDc := hD'.mid
  have hFc : ∀ y, va_A (wL cA ad σ 0 LC ++ wO q cJ f) H.size y → s.heap.size ≤ y := by
    rintro y (⟨j, z, hj⟩ | h)
    · exact hDc.2 j _ hj
    · exact Nat.le_trans hS.1 h
  refine va_calli (va_runSW (hh := [(0, 10, 13, 13)]) (bytes := cL_decode) (maxL := 5) (ret := some .int) (n := 4) (As := [.ref (ad 0), .int (zI a), .int (zI a2), .ref q]) (rest := []) G.1.1 (hL H.size) gL_law_L_decode rfl rfl rfl (by decide +kernel) (by show 9 + 1 ≤ 11 ∧ 8 + (5 + 11) + 150 ≤ 384; decide) ⟨fun a U g mk x => by obtain ⟨q0, q1, qP, qK, qD, qE⟩ := x; exact ⟨q0, q1, qP, va_K.moved (u := U) (U := U.calling g mk a) (Vm.Alike.refl U.vm) qK, qD, qE.kept (U := U.calling g mk a) (State.WarmedH.refl U) (fun _ _ h _ => h)⟩, fun U hU hW => ⟨rfl, by rw [hU], by rw [hU]; exact hPc, va_K.moved hW.alike hJ, hDc.weaken (fun _ _ _ _ => trivial), hex.kept hW (fun y cell h1 _ => by
      have h2 := (Array.getElem?_eq_some_iff.mp h1).1
      rw [hU, hS.2.1 y h2 (by omega)]
      exact h1)⟩⟩ rfl rfl hl.1 rfl (lv_room (Nat.le_of_ble_eq_true rfl)) dL_law_334 hcs) hS (fun y _ h => hFc y h) hFc (fun r u t H1 locs1 ht hvm hw hB hz1 hk1 hS1 => ?_)
  obtain ⟨j1, j2⟩ := fr_join hP' hD' hk1 (w1 := wL cA ad σ 0 LC ++ wO q cJ u) (by rw [← ht]; exact hB) (by rw [List.map_append, List.map_append]; rfl)
  rw [List.append_nil] at j1 j2
  exact kk r u hw H1 locs1 ls j1 j2 hS1 hl
end Law8
