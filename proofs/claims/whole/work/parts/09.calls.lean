/-! contracts over a layout: Ci answers an int (or a boolean as 0, 1), Cv nothing; no cell is made -/
def qI (D : va_G) (cA : Nat → ClassId) (ad : Nat → Nat) (L : Lay) (post : Int → St → Prop) (A : Nat → Prop) : Array Value → State → Outcome → State → Prop := va_Qi (fun (r : Int32) (u : Int × St) => r = zI u.1 ∧ inR u.1 ∧ post u.1 u.2) (fun (u : Int × St) (t : State) => va_P D vwCl (wL cA ad u.2 0 L) t.heap) A
def qV (D : va_G) (cA : Nat → ClassId) (ad : Nat → Nat) (L : Lay) (post : St → Prop) (A : Nat → Prop) : Array Value → State → Outcome → State → Prop := va_Qv post (fun (u : St) (t : State) => va_P D vwCl (wL cA ad u 0 L) t.heap) A
def Ci (l : Launch) (y : MethodName) (ws : List Cond) (rm : Room) (D : va_G) (cA : Nat → ClassId) (ad : Nat → Nat) (L : Lay) (vs : List aV) (σ : St) (post : Int → St → Prop) : Prop :=
  ∀ sz : Nat, Met l y ws rm (va_Pc (vs.map (aval ad)) (fun U => U.heap.size = sz ∧ va_P D vwCl (wL cA ad σ 0 L) U.heap ∧ va_K D vwCl (gT cA) U ∧ va_D (fun _ => True) (wL cA ad σ 0 L))) (qI D cA ad L post (va_A (wL cA ad σ 0 L) sz)) 0 0 (va_A (wL cA ad σ 0 L) sz)
def Cv (l : Launch) (y : MethodName) (ws : List Cond) (rm : Room) (D : va_G) (cA : Nat → ClassId) (ad : Nat → Nat) (L : Lay) (vs : List aV) (σ : St) (post : St → Prop) : Prop :=
  ∀ sz : Nat, Met l y ws rm (va_Pc (vs.map (aval ad)) (fun U => U.heap.size = sz ∧ va_P D vwCl (wL cA ad σ 0 L) U.heap ∧ va_K D vwCl (gT cA) U ∧ va_D (fun _ => True) (wL cA ad σ 0 L))) (qV D cA ad L post (va_A (wL cA ad σ 0 L) sz)) 0 0 (va_A (wL cA ad σ 0 L) sz)
def okV (R : Room) (own : String) (Ts : List Cond) (idx : Nat) (C : String) (y : MethodName) (ws : List Cond) (rm : Room) (n : Nat) : Prop :=
  ∃ (bytes : ByteArray) (maxL : Nat) (ret : Option FieldType) (ws' : List Cond), GoodIn Ts (wsV own idx C y ws) ∧ ws = .code y bytes maxL ret :: ws' ∧ rm.cells = 0 ∧ rm.slots = 0 ∧ (y.cls = C ∧ y.cls ≠ "java/lang/invoke/MethodHandle" ∧ y.cls ≠ "java/lang/invoke/VarHandle" ∧ (parseMethodDescriptor y.desc).map (fun d => d.parameters.length) = some n) ∧ (rm.frames + 1 ≤ R.frames ∧ 8 + (maxL + 11) + rm.locals ≤ R.locals)
def okS (R : Room) (own : String) (Ts : List Cond) (idx : Nat) (y : MethodName) (ws : List Cond) (rm : Room) (n : Nat) : Prop :=
  ∃ (bytes : ByteArray) (maxL : Nat) (ret : Option FieldType) (ws' : List Cond), GoodIn Ts (va_wsS own idx y ws) ∧ ws = .code y bytes maxL ret :: ws' ∧ rm.cells = 0 ∧ rm.slots = 0 ∧ (y.cls ≠ "java/lang/invoke/MethodHandle" ∧ y.cls ≠ "java/lang/invoke/VarHandle" ∧ (parseMethodDescriptor y.desc).map (fun d => d.parameters.length) = some n) ∧ (rm.frames + 1 ≤ R.frames ∧ 8 + (maxL + 11) + rm.locals ≤ R.locals)
def minW (own : String) (idx : Nat) : List Cond := [.methodLink own idx Lib.Math.min.name, .static Lib.Math.min.name, .initialized "java/lang/Math", .code Lib.Math.min.name Lib.Math.min.code 2 (some .int)]
def cpyW (own : String) (idx : Nat) : List Cond := [.methodLink own idx arraycopyName, .native arraycopyName, .static arraycopyName, .initialized "java/lang/System"]
def lnum : Nat → List aV → List (Nat × aV)
  | _, [] => []
  | i, v :: vs => (i, v) :: lnum (i + 1) vs
theorem lnum_args (ad : Nat → Nat) : ∀ (vs : List aV) (i : Nat), lv_args i (vs.map (aval ad)) = (lnum i vs).map (cv ad)
  | [], _ => rfl
  | v :: vs, i => by
    show (i, aval ad v) :: lv_args (if (aval ad v).category = 2 then i + 2 else i + 1) (vs.map (aval ad)) = cv ad (i, v) :: (lnum (i + 1) vs).map (cv ad)
    rw [aval_cat, if_neg (by decide), lnum_args ad vs (i + 1)]
    rfl
theorem lg_len (ad : Nat → Nat) : ∀ (vs : List aV), (lg_sl (vs.map (aval ad))).length = vs.length
  | [] => rfl
  | v :: vs => by
    have h := lg_len ad vs
    unfold lg_sl at h ⊢
    rw [List.map_cons, List.flatMap_cons, aval_cat, if_neg (by decide), List.length_append, h, List.length_singleton, List.length_cons]
    omega
theorem cat_sum (ad : Nat → Nat) : ∀ (vs : List aV), ((vs.map (aval ad)).map fun v => v.category).sum = vs.length
  | [] => rfl
  | v :: vs => by
    rw [List.map_cons, List.map_cons, List.sum_cons, cat_sum ad vs, aval_cat, List.length_cons]
    omega
theorem inR_z {x : Int} (h : x = 0 ∨ x = 1) : inR x := by
  unfold inR
  omega
section Mach3
variable {p : Program} {l : Launch} {e : Env} {R : Room} {s : State} {m : MethodId} {args : Array Value} {below : List Frame} {meth : Method} {c : Code} {cells slots : Nat} {Q : State → Prop} {D : va_G} {cA : Nat → ClassId} {ad : Nat → Nat} {L : Lay} {nL : Nat} {A : Nat → Prop} {cc : ByteArray} {own : String} {Ts : List Cond} {tab : TB} {fl pl : FL} {kl : List (Nat × Int)} {pc nxt tgt : Nat} {lv : List (Nat × aV)} {st : List aV} {σ : St}
theorem Fx.free (F : Fx p s m args c cc nL own Ts D cA A) {H : Heap} {locs : List Loc} (hD : va_D A (wL cA ad σ 0 L)) (hS : va_S A s.heap H locs) : ∀ q, va_A (wL cA ad σ 0 L) H.size q → A q := by
  intro q h
  rcases h with ⟨k, x, hk⟩ | h
  · exact hD.2 k _ hk
  · exact F.2.2 q (Nat.le_trans hS.1 h)
theorem Va.callVi (F : Fx p s m args c cc nL own Ts D cA A) {idx j : Nat} {C : String} {T : u_T} {N : Nat} {o : Nat × List (Nat ⊕ Bool)} {y : MethodName} {ws : List Cond} {rm : Room} {vs rest : List aV} {post : Int → St → Prop} (ok : okV R own Ts idx C y ws rm vs.length) (hd : decode cc pc = .ok (.invokevirtual idx, 3)) (hj : L[j]? = some (.inl o)) (hc : vwCl[o.1]? = some (C, T, N)) (hlen : rest.length ≤ 8) (hcs : cells ≤ R.cells ∧ slots ≤ R.slots) (hM : Ci l y ws rm D cA ad L (.inl j :: vs) σ post) (k : ∀ (r : Int) (τ : St), inR r → post r τ → Va p l e R s m args below meth c cells slots Q D cA ad L nL A (pc + 3, lv, .inr r :: rest, τ)) : Va p l e R s m args below meth c cells slots Q D cA ad L nL A (pc, lv, vs.reverse ++ .inl j :: rest, σ) := by
  intro H locs ls hP hD hS hl
  obtain ⟨bytes, maxL, ret, ws', hg, hw, hrc, hrs, hdd, hR⟩ := ok
  have hFc := F.free hD hS
  refine va_calli (va_runV (As := vs.map (aval ad)) (rest := rest.map (aval ad)) (b := ad j) F.1 (hM H.size) (cwV vs.length F.1.2.2.2.2 hg hw hrc hrs hdd hR) ⟨fun a U g mk q => by obtain ⟨q0, q1, qP, qK, qD⟩ := q; exact ⟨q0, q1, qP, va_K.moved (u := U) (U := U.calling g mk a) (Vm.Alike.refl U.vm) qK, qD⟩, va_recv F.2.1 hP hc (wL_at hj), fun U hU hW => ⟨rfl, by rw [hU], by rw [hU]; exact hP, va_K.moved hW.alike F.2.1, hD.weaken (fun _ _ _ _ => trivial)⟩⟩ rfl (by simp) hl.1 (by simp [aval, List.map_reverse]) (lv_room (by rw [cat_sum]; exact hlen)) hd hcs) hS (fun q _ h => hFc q h) hFc (fun r u t H1 locs1 ht hvm hw hB hz1 hk1 hS1 => ?_)
  obtain ⟨hr, hin, hp⟩ := hw
  subst hr
  exact k u.1 u.2 hin hp H1 locs1 ls (by rw [← ht]; exact hB) (wL_D hD) hS1 hl
theorem Va.callVv (F : Fx p s m args c cc nL own Ts D cA A) {idx j : Nat} {C : String} {T : u_T} {N : Nat} {o : Nat × List (Nat ⊕ Bool)} {y : MethodName} {ws : List Cond} {rm : Room} {vs rest : List aV} {post : St → Prop} (ok : okV R own Ts idx C y ws rm vs.length) (hd : decode cc pc = .ok (.invokevirtual idx, 3)) (hj : L[j]? = some (.inl o)) (hc : vwCl[o.1]? = some (C, T, N)) (hlen : rest.length ≤ 8) (hcs : cells ≤ R.cells ∧ slots ≤ R.slots) (hM : Cv l y ws rm D cA ad L (.inl j :: vs) σ post) (k : ∀ (τ : St), post τ → Va p l e R s m args below meth c cells slots Q D cA ad L nL A (pc + 3, lv, rest, τ)) : Va p l e R s m args below meth c cells slots Q D cA ad L nL A (pc, lv, vs.reverse ++ .inl j :: rest, σ) := by
  intro H locs ls hP hD hS hl
  obtain ⟨bytes, maxL, ret, ws', hg, hw, hrc, hrs, hdd, hR⟩ := ok
  have hFc := F.free hD hS
  refine va_callv (va_runV (As := vs.map (aval ad)) (rest := rest.map (aval ad)) (b := ad j) F.1 (hM H.size) (cwV vs.length F.1.2.2.2.2 hg hw hrc hrs hdd hR) ⟨fun a U g mk q => by obtain ⟨q0, q1, qP, qK, qD⟩ := q; exact ⟨q0, q1, qP, va_K.moved (u := U) (U := U.calling g mk a) (Vm.Alike.refl U.vm) qK, qD⟩, va_recv F.2.1 hP hc (wL_at hj), fun U hU hW => ⟨rfl, by rw [hU], by rw [hU]; exact hP, va_K.moved hW.alike F.2.1, hD.weaken (fun _ _ _ _ => trivial)⟩⟩ rfl (by simp) hl.1 (by simp [aval, List.map_reverse]) (lv_room (by rw [cat_sum]; exact hlen)) hd hcs) hS (fun q _ h => hFc q h) hFc (fun u t H1 locs1 ht hvm hw hB hz1 hk1 hS1 => ?_)
  exact k u hw H1 locs1 ls (by rw [← ht]; exact hB) (wL_D hD) hS1 hl
theorem Va.callSi (F : Fx p s m args c cc nL own Ts D cA A) {idx : Nat} {y : MethodName} {ws : List Cond} {rm : Room} {vs rest : List aV} {post : Int → St → Prop} (ok : okS R own Ts idx y ws rm vs.length) (hd : decode cc pc = .ok (.invokestatic idx, 3)) (hlen : rest.length ≤ 8) (hcs : cells ≤ R.cells ∧ slots ≤ R.slots) (hM : Ci l y ws rm D cA ad L vs σ post) (k : ∀ (r : Int) (τ : St), inR r → post r τ → Va p l e R s m args below meth c cells slots Q D cA ad L nL A (pc + 3, lv, .inr r :: rest, τ)) : Va p l e R s m args below meth c cells slots Q D cA ad L nL A (pc, lv, vs.reverse ++ rest, σ) := by
  intro H locs ls hP hD hS hl
  obtain ⟨bytes, maxL, ret, ws', hg, hw, hrc, hrs, hdd, hR⟩ := ok
  have hFc := F.free hD hS
  refine va_calli (va_runS (As := vs.map (aval ad)) (rest := rest.map (aval ad)) F.1 (hM H.size) (va_cwS vs.length F.1.2.2.2.2 hg hw hrc hrs hdd hR) ⟨fun a U g mk q => by obtain ⟨q0, q1, qP, qK, qD⟩ := q; exact ⟨q0, q1, qP, va_K.moved (u := U) (U := U.calling g mk a) (Vm.Alike.refl U.vm) qK, qD⟩, fun U hU hW => ⟨rfl, by rw [hU], by rw [hU]; exact hP, va_K.moved hW.alike F.2.1, hD.weaken (fun _ _ _ _ => trivial)⟩⟩ rfl (by simp) hl.1 (by simp [List.map_reverse]) (lv_room (by rw [cat_sum]; exact hlen)) hd hcs) hS (fun q _ h => hFc q h) hFc (fun r u t H1 locs1 ht hvm hw hB hz1 hk1 hS1 => ?_)
  obtain ⟨hr, hin, hp⟩ := hw
  subst hr
  exact k u.1 u.2 hin hp H1 locs1 ls (by rw [← ht]; exact hB) (wL_D hD) hS1 hl
theorem Va.callSv (F : Fx p s m args c cc nL own Ts D cA A) {idx : Nat} {y : MethodName} {ws : List Cond} {rm : Room} {vs rest : List aV} {post : St → Prop} (ok : okS R own Ts idx y ws rm vs.length) (hd : decode cc pc = .ok (.invokestatic idx, 3)) (hlen : rest.length ≤ 8) (hcs : cells ≤ R.cells ∧ slots ≤ R.slots) (hM : Cv l y ws rm D cA ad L vs σ post) (k : ∀ (τ : St), post τ → Va p l e R s m args below meth c cells slots Q D cA ad L nL A (pc + 3, lv, rest, τ)) : Va p l e R s m args below meth c cells slots Q D cA ad L nL A (pc, lv, vs.reverse ++ rest, σ) := by
  intro H locs ls hP hD hS hl
  obtain ⟨bytes, maxL, ret, ws', hg, hw, hrc, hrs, hdd, hR⟩ := ok
  have hFc := F.free hD hS
  refine va_callv (va_runS (As := vs.map (aval ad)) (rest := rest.map (aval ad)) F.1 (hM H.size) (va_cwS vs.length F.1.2.2.2.2 hg hw hrc hrs hdd hR) ⟨fun a U g mk q => by obtain ⟨q0, q1, qP, qK, qD⟩ := q; exact ⟨q0, q1, qP, va_K.moved (u := U) (U := U.calling g mk a) (Vm.Alike.refl U.vm) qK, qD⟩, fun U hU hW => ⟨rfl, by rw [hU], by rw [hU]; exact hP, va_K.moved hW.alike F.2.1, hD.weaken (fun _ _ _ _ => trivial)⟩⟩ rfl (by simp) hl.1 (by simp [List.map_reverse]) (lv_room (by rw [cat_sum]; exact hlen)) hd hcs) hS (fun q _ h => hFc q h) hFc (fun u t H1 locs1 ht hvm hw hB hz1 hk1 hS1 => ?_)
  exact k u hw H1 locs1 ls (by rw [← ht]; exact hB) (wL_D hD) hS1 hl
theorem Va.reti (F : Fx p s m args c cc nL own Ts D cA A) {post : Int → St → Prop} {x : Int} (hd : decode cc pc = .ok (.ireturn, 1)) (hr : meth.sig.returnType = some .int) (hlk : meth.locks = false) (hx : inR x) (hp : post x σ) : Va p l e R s m args below meth c cells slots (MQ below (qI D cA ad L post A) args s cells slots A) D cA ad L nL A (pc, lv, [.inr x], σ) :=
  fun H locs ls hP hD hS hl => W.iret (v := zI x) F.1.1 F.1.2.1 hr (fun t ht hW => ⟨⟨zI x, (x, σ), rfl, ⟨rfl, hx, hp⟩, (by show va_P D vwCl (wL cA ad σ 0 L) t.heap; rw [ht]; exact hP)⟩, hS.F ht⟩) hS.2.2 hd hlk
theorem Va.retz (F : Fx p s m args c cc nL own Ts D cA A) {post : Int → St → Prop} {x : Int} (hd : decode cc pc = .ok (.ireturn, 1)) (hr : meth.sig.returnType = some .boolean) (hlk : meth.locks = false) (hx : x = 0 ∨ x = 1) (hp : post x σ) : Va p l e R s m args below meth c cells slots (MQ below (qI D cA ad L post A) args s cells slots A) D cA ad L nL A (pc, lv, [.inr x], σ) :=
  fun H locs ls hP hD hS hl => W.zret (v := zI x) F.1.1 F.1.2.1 hr (zI_narZ hx) (fun t ht hW => ⟨⟨zI x, (x, σ), rfl, ⟨rfl, inR_z hx, hp⟩, (by show va_P D vwCl (wL cA ad σ 0 L) t.heap; rw [ht]; exact hP)⟩, hS.F ht⟩) hS.2.2 hd hlk
theorem Va.retv (F : Fx p s m args c cc nL own Ts D cA A) {post : St → Prop} (hd : decode cc pc = .ok (.return_, 1)) (hr : meth.sig.returnType = none) (hlk : meth.locks = false) (hp : post σ) : Va p l e R s m args below meth c cells slots (MQ below (qV D cA ad L post A) args s cells slots A) D cA ad L nL A (pc, lv, [], σ) :=
  fun H locs ls hP hD hS hl => W.vret F.1.1 F.1.2.1 hr (fun t ht hW => ⟨⟨σ, rfl, hp, (by show va_P D vwCl (wL cA ad σ 0 L) t.heap; rw [ht]; exact hP)⟩, hS.F ht⟩) hS.2.2 hd hlk
theorem Va.drop {lv' : List (Nat × aV)} (h : ∀ q ∈ lv', q ∈ lv) (k : Va p l e R s m args below meth c cells slots Q D cA ad L nL A (pc, lv', st, σ)) : Va p l e R s m args below meth c cells slots Q D cA ad L nL A (pc, lv, st, σ) := by
  intro H locs ls hP hD hS hl
  refine k H locs ls hP hD hS ⟨hl.1, hl.2.1, fun q hq => ?_⟩
  obtain ⟨a, ha, rfl⟩ := List.mem_map.mp hq
  exact hl.2.2 _ (List.mem_map.mpr ⟨a, h a ha, rfl⟩)
theorem Va.mmin (F : Fx p s m args c cc nL own Ts D cA A) {idx : Nat} {x y : Int} {rest : List aV} (hd : decode cc pc = .ok (.invokestatic idx, 3)) (hw : ∀ w ∈ minW own idx, w ∈ Ts) (hcs : cells ≤ R.cells ∧ slots ≤ R.slots) (hf : 1 ≤ R.frames) (hlo : rest.length + 13 ≤ R.locals) (hx : inR x) (hy : inR y) (k : Va p l e R s m args below meth c cells slots Q D cA ad L nL A (pc + 3, lv, .inr (if y < x then y else x) :: rest, σ)) : Va p l e R s m args below meth c cells slots Q D cA ad L nL A (pc, lv, .inr y :: .inr x :: rest, σ) := by
  intro H locs ls hP hD hS hl
  have ht := F.1.2.2.2.2
  refine va_mmin F.1.1 F.1.2.1 (by rw [hl.1]; exact F.1.2.2.1) F.1.2.2.2.1 (ht _ (hw _ List.mem_cons_self)) (ht _ (hw _ (List.mem_cons_of_mem _ List.mem_cons_self))) (ht _ (hw _ (List.mem_cons_of_mem _ (List.mem_cons_of_mem _ List.mem_cons_self)))) (ht _ (hw _ (List.mem_cons_of_mem _ (List.mem_cons_of_mem _ (List.mem_cons_of_mem _ List.mem_cons_self))))) hf (by rw [cat_sum]; exact hlo) hcs.1 hcs.2 hd ?_
  have e : (if zI y < zI x then zI y else zI x) = zI (if y < x then y else x) := by
    by_cases h : y < x
    · rw [if_pos h, if_pos ((zI_lt hy hx).mpr h)]
    · rw [if_neg h, if_neg (fun q => h ((zI_lt hy hx).mp q))]
  rw [e]
  exact k H locs ls hP hD hS hl
theorem zA_cpy (f g : Nat → Int) (a b n : Nat) : va_cpy (zA f) (zA g) a b n = zA (va_cpy f g a b n) := by
  funext i
  simp only [va_cpy, zA]
  split <;> rfl
theorem Va.copy (F : Fx p s m args c cc nL own Ts D cA A) {idx j0 j1 n0 n1 : Nat} {n : Int} {rest : List aV} (hd : decode cc pc = .ok (.invokestatic idx, 3)) (hw : ∀ w ∈ cpyW own idx, w ∈ Ts) (hf : 1 ≤ R.frames) (hlo : rest.length + (nativeFrameWords "java/lang/System" "arraycopy" 5 + 11) ≤ R.locals) (h0 : L[j0]? = some (.inr (0, n0))) (h1 : L[j1]? = some (.inr (0, n1))) (hn : 0 ≤ n) (hn0 : n ≤ n0) (hn1 : n ≤ n1) (hn2 : n < 2147483648) (k : Va p l e R s m args below meth c cells slots Q D cA ad L nL A (pc + 3, lv, rest, va_up σ j1 (va_cpy (σ j0) (σ j1) 0 0 n.toNat))) : Va p l e R s m args below meth c cells slots Q D cA ad L nL A (pc, lv, .inr n :: .inr 0 :: .inl j1 :: .inr 0 :: .inl j0 :: rest, σ) := by
  intro H locs ls hP hD hS hl
  have ht := F.1.2.2.2.2
  have hcl : (zI n).toNatClampNeg = n.toNat := zI_cl ⟨by omega, hn2⟩
  have hc0 : (zI 0).toNatClampNeg = 0 := zI_cl inR_0
  refine va_copyi F.1.1 F.1.2.1 (by rw [hl.1]; exact F.1.2.2.1) F.1.2.2.2.1 (ht _ (hw _ List.mem_cons_self)) (ht _ (hw _ (List.mem_cons_of_mem _ List.mem_cons_self))) (ht _ (hw _ (List.mem_cons_of_mem _ (List.mem_cons_of_mem _ List.mem_cons_self)))) (ht _ (hw _ (List.mem_cons_of_mem _ (List.mem_cons_of_mem _ (List.mem_cons_of_mem _ List.mem_cons_self))))) F.2.1 hP hD hS j0 j1 0 0 (wL_at h0) (wL_at h1) rfl rfl rfl (by decide) (by decide) (by rw [zI_0, zI_lt ⟨by omega, hn2⟩ inR_0]; omega) (by rw [hcl, hc0]; omega) (by rw [hcl, hc0]; omega) (fun _ _ => rfl) hf (by rw [cat_sum]; exact hlo) hd (fun H1 locs1 hP1 hD1 hS1 => ?_)
  have e : (wL cA ad σ 0 L).set j1 (ad j1, .inl (cA 0, n1, .inl (va_cpy (zA (σ j0)) (zA (σ j1)) (zI 0).toNatClampNeg (zI 0).toNatClampNeg (zI n).toNatClampNeg))) = wL cA ad (va_up σ j1 (va_cpy (σ j0) (σ j1) 0 0 n.toNat)) 0 L := by
    rw [hcl, hc0, zA_cpy]
    exact wL_set h1
  have hP1 := Eq.subst (motive := fun w => va_P D vwCl w H1) e hP1
  have hD1 := Eq.subst (motive := fun w => va_D A w) e hD1
  exact k H1 locs1 ls hP1 hD1 hS1 hl
end Mach3
/-! what a walk may use of the machine: V holds where the rest of the run goes well -/
def Mach (l : Launch) (R : Room) (own : String) (Ts : List Cond) (tab : TB) (fl pl : FL) (kl : List (Nat × Int)) (D : va_G) (cA : Nat → ClassId) (ad : Nat → Nat) (L : Lay) (nL : Nat) (V : aS → Prop) : Prop :=
  (∀ (stops : List Nat) (n : Nat) (a : aS), wp tab fl pl kl L nL stops n a V → V a) ∧
  (∀ {idx j : Nat} {C : String} {T : u_T} {N : Nat} {o : Nat × List (Nat ⊕ Bool)} {y : MethodName} {ws : List Cond} {rm : Room} {vs rest : List aV} {post : Int → St → Prop} {pc nxt tgt : Nat} {lv : List (Nat × aV)} {st : List aV} {σ : St}, nget pc tab = some (.invokevirtual idx, nxt, tgt) → okV R own Ts idx C y ws rm vs.length → L[j]? = some (.inl o) → vwCl[o.1]? = some (C, T, N) → rest.length ≤ 8 → st = vs.reverse ++ .inl j :: rest → Ci l y ws rm D cA ad L (.inl j :: vs) σ post → (∀ (r : Int) (τ : St), inR r → post r τ → V (nxt, lv, .inr r :: rest, τ)) → V (pc, lv, st, σ)) ∧
  (∀ {idx j : Nat} {C : String} {T : u_T} {N : Nat} {o : Nat × List (Nat ⊕ Bool)} {y : MethodName} {ws : List Cond} {rm : Room} {vs rest : List aV} {post : St → Prop} {pc nxt tgt : Nat} {lv : List (Nat × aV)} {st : List aV} {σ : St}, nget pc tab = some (.invokevirtual idx, nxt, tgt) → okV R own Ts idx C y ws rm vs.length → L[j]? = some (.inl o) → vwCl[o.1]? = some (C, T, N) → rest.length ≤ 8 → st = vs.reverse ++ .inl j :: rest → Cv l y ws rm D cA ad L (.inl j :: vs) σ post → (∀ (τ : St), post τ → V (nxt, lv, rest, τ)) → V (pc, lv, st, σ)) ∧
  (∀ {idx : Nat} {y : MethodName} {ws : List Cond} {rm : Room} {vs rest : List aV} {post : Int → St → Prop} {pc nxt tgt : Nat} {lv : List (Nat × aV)} {st : List aV} {σ : St}, nget pc tab = some (.invokestatic idx, nxt, tgt) → okS R own Ts idx y ws rm vs.length → rest.length ≤ 8 → st = vs.reverse ++ rest → Ci l y ws rm D cA ad L vs σ post → (∀ (r : Int) (τ : St), inR r → post r τ → V (nxt, lv, .inr r :: rest, τ)) → V (pc, lv, st, σ)) ∧
  (∀ {idx : Nat} {y : MethodName} {ws : List Cond} {rm : Room} {vs rest : List aV} {post : St → Prop} {pc nxt tgt : Nat} {lv : List (Nat × aV)} {st : List aV} {σ : St}, nget pc tab = some (.invokestatic idx, nxt, tgt) → okS R own Ts idx y ws rm vs.length → rest.length ≤ 8 → st = vs.reverse ++ rest → Cv l y ws rm D cA ad L vs σ post → (∀ (τ : St), post τ → V (nxt, lv, rest, τ)) → V (pc, lv, st, σ)) ∧
  (∀ {pc : Nat} {lv : List (Nat × aV)} (lv' : List (Nat × aV)) {st : List aV} {σ : St}, (∀ q ∈ lv', q ∈ lv) → V (pc, lv', st, σ) → V (pc, lv, st, σ)) ∧
  (∀ {idx pc nxt tgt : Nat} {x y : Int} {lv : List (Nat × aV)} {rest : List aV} {σ : St}, nget pc tab = some (.invokestatic idx, nxt, tgt) → (∀ w ∈ minW own idx, w ∈ Ts) → 1 ≤ R.frames → rest.length + 13 ≤ R.locals → inR x → inR y → V (nxt, lv, .inr (if y < x then y else x) :: rest, σ) → V (pc, lv, .inr y :: .inr x :: rest, σ)) ∧
  (∀ {idx pc nxt tgt j0 j1 n0 n1 : Nat} {n : Int} {lv : List (Nat × aV)} {rest : List aV} {σ : St}, nget pc tab = some (.invokestatic idx, nxt, tgt) → (∀ w ∈ cpyW own idx, w ∈ Ts) → 1 ≤ R.frames → rest.length + (nativeFrameWords "java/lang/System" "arraycopy" 5 + 11) ≤ R.locals → L[j0]? = some (.inr (0, n0)) → L[j1]? = some (.inr (0, n1)) → 0 ≤ n → n ≤ n0 → n ≤ n1 → n < 2147483648 → V (nxt, lv, rest, va_up σ j1 (va_cpy (σ j0) (σ j1) 0 0 n.toNat)) → V (pc, lv, .inr n :: .inr 0 :: .inl j1 :: .inr 0 :: .inl j0 :: rest, σ))
section Mach4
variable {p : Program} {l : Launch} {e : Env} {R : Room} {s : State} {m : MethodId} {args : Array Value} {below : List Frame} {meth : Method} {c : Code} {cells slots : Nat} {Q : State → Prop} {D : va_G} {cA : Nat → ClassId} {ad : Nat → Nat} {L : Lay} {nL : Nat} {A : Nat → Prop} {cc : ByteArray} {own : String} {Ts : List Cond} {tab : TB} {fl pl : FL} {kl : List (Nat × Int)} {pc nxt tgt : Nat} {lv : List (Nat × aV)} {st : List aV} {σ : St}
theorem Mach.of (F : Fx p s m args c cc nL own Ts D cA A) (hL : layOk L) (ht : tabOk cc tab) (hfl : flOk own Ts fl) (hpl : plOk own Ts pl) (hkl : klOk own Ts kl) (hcs : cells ≤ R.cells ∧ slots ≤ R.slots) : Mach l R own Ts tab fl pl kl D cA ad L nL (Va p l e R s m args below meth c cells slots Q D cA ad L nL A) := by
  have dec : ∀ {pc : Nat} {i : Instr} {nxt tgt : Nat}, nget pc tab = some (i, nxt, tgt) → decode cc pc = .ok (i, ilen i) ∧ pc + ilen i = nxt := fun h => ⟨(ht _ (nget_mem h)).1, tchk_n (ht _ (nget_mem h)).2⟩
  refine ⟨fun stops n a h => wp_ok F hL ht hfl hpl hkl stops n a h, ?_, ?_, ?_, ?_, ?_, ?_, ?_⟩
  · intro idx j C T N o y ws rm vs rest post pc nxt tgt lv st σ hg ok hj hc hlen hst hM k
    obtain ⟨hd, hn⟩ := dec hg
    subst hn hst
    exact Va.callVi F ok hd hj hc hlen hcs hM k
  · intro idx j C T N o y ws rm vs rest post pc nxt tgt lv st σ hg ok hj hc hlen hst hM k
    obtain ⟨hd, hn⟩ := dec hg
    subst hn hst
    exact Va.callVv F ok hd hj hc hlen hcs hM k
  · intro idx y ws rm vs rest post pc nxt tgt lv st σ hg ok hlen hst hM k
    obtain ⟨hd, hn⟩ := dec hg
    subst hn hst
    exact Va.callSi F ok hd hlen hcs hM k
  · intro idx y ws rm vs rest post pc nxt tgt lv st σ hg ok hlen hst hM k
    obtain ⟨hd, hn⟩ := dec hg
    subst hn hst
    exact Va.callSv F ok hd hlen hcs hM k
  · intro pc lv lv' st σ h k
    exact Va.drop h k
  · intro idx pc nxt tgt x y lv rest σ hg hw hf hlo hx hy k
    obtain ⟨hd, hn⟩ := dec hg
    subst hn
    exact Va.mmin F hd hw hcs hf hlo hx hy k
  · intro idx pc nxt tgt j0 j1 n0 n1 n lv rest σ hg hw hf hlo h0 h1 hn hn0 hn1 hn2 k
    obtain ⟨hd, hn'⟩ := dec hg
    subst hn'
    exact Va.copy F hd hw hf hlo h0 h1 hn hn0 hn1 hn2 k
end Mach4
theorem Ci.walk {l : Launch} {y : MethodName} {ws ws' : List Cond} {rm : Room} {D : va_G} {cA : Nat → ClassId} {ad : Nat → Nat} {L : Lay} {vs : List aV} {σ : St} {post : Int → St → Prop} {cc : ByteArray} {maxL : Nat} {tab : TB} (fl pl : FL) (kl : List (Nat × Int)) (hy : plainName y.cls = true) (hw : ws = .code y cc maxL (some .int) :: ws') (hL : layOk L) (ht : tabOk cc tab) (hfl : flOk y.cls ws fl) (hpl : plOk y.cls ws pl) (hkl : klOk y.cls ws kl) (hlen : vs.length ≤ maxL)
    (body : ∀ V : aS → Prop, Mach l rm y.cls ws tab fl pl kl D cA ad L maxL V → (∀ {pc nxt tgt : Nat} {lv : List (Nat × aV)} {x : Int} {τ : St}, nget pc tab = some (.ireturn, nxt, tgt) → inR x → post x τ → V (pc, lv, [.inr x], τ)) → V (0, lnum 0 vs, [], σ)) : Ci l y ws rm D cA ad L vs σ post := by
  intro sz
  refine Met.ofW (cc := cc) (maxL := maxL) (ret := (some .int)) hy hw ?_
  intro p e s m args below meth c s₁ B hml hv
  obtain ⟨rfl, hsz, hP, hK, hD0⟩ := hv
  have hts := atoms_spec (ws := ws) B.pre
  have hown : s.vm.findClass y.cls = some m.cls := findClass_of_methodNamed B.named
  subst hsz
  have hD := hD0.self (sz := s.heap.size)
  have F : Fx p s m (vs.map (aval ad)).toArray c cc maxL y.cls ws D cA (va_A (wL cA ad σ 0 L) s.heap.size) := ⟨⟨B.exec, B.bytes, hml, hown, hts⟩, hK, fun q h => Or.inr h⟩
  have dec : ∀ {pc : Nat} {i : Instr} {nxt tgt : Nat}, nget pc tab = some (i, nxt, tgt) → decode cc pc = .ok (i, ilen i) := fun h => (ht _ (nget_mem h)).1
  have key := body (Va p l e rm s m (vs.map (aval ad)).toArray below meth c 0 0 (MQ below (qI D cA ad L post (va_A (wL cA ad σ 0 L) s.heap.size)) (vs.map (aval ad)).toArray s 0 0 (va_A (wL cA ad σ 0 L) s.heap.size)) D cA ad L maxL (va_A (wL cA ad σ 0 L) s.heap.size)) (Mach.of F hL ht hfl hpl hkl ⟨Nat.zero_le _, Nat.zero_le _⟩) (fun hg hx hp => Va.reti F (dec hg) B.returns B.notSynchronized hx hp)
  have hl := lv_entry (vs.map (aval ad)) (n := maxL) (by rw [lg_len]; exact hlen)
  rw [lnum_args] at hl
  rw [lg_entry_eq]
  exact key s.heap [] _ hP hD va_S.rf hl
theorem Ci.walkZ {l : Launch} {y : MethodName} {ws ws' : List Cond} {rm : Room} {D : va_G} {cA : Nat → ClassId} {ad : Nat → Nat} {L : Lay} {vs : List aV} {σ : St} {post : Int → St → Prop} {cc : ByteArray} {maxL : Nat} {tab : TB} (fl pl : FL) (kl : List (Nat × Int)) (hy : plainName y.cls = true) (hw : ws = .code y cc maxL (some .boolean) :: ws') (hL : layOk L) (ht : tabOk cc tab) (hfl : flOk y.cls ws fl) (hpl : plOk y.cls ws pl) (hkl : klOk y.cls ws kl) (hlen : vs.length ≤ maxL)
    (body : ∀ V : aS → Prop, Mach l rm y.cls ws tab fl pl kl D cA ad L maxL V → (∀ {pc nxt tgt : Nat} {lv : List (Nat × aV)} {x : Int} {τ : St}, nget pc tab = some (.ireturn, nxt, tgt) → (x = 0 ∨ x = 1) → post x τ → V (pc, lv, [.inr x], τ)) → V (0, lnum 0 vs, [], σ)) : Ci l y ws rm D cA ad L vs σ post := by
  intro sz
  refine Met.ofW (cc := cc) (maxL := maxL) (ret := (some .boolean)) hy hw ?_
  intro p e s m args below meth c s₁ B hml hv
  obtain ⟨rfl, hsz, hP, hK, hD0⟩ := hv
  have hts := atoms_spec (ws := ws) B.pre
  have hown : s.vm.findClass y.cls = some m.cls := findClass_of_methodNamed B.named
  subst hsz
  have hD := hD0.self (sz := s.heap.size)
  have F : Fx p s m (vs.map (aval ad)).toArray c cc maxL y.cls ws D cA (va_A (wL cA ad σ 0 L) s.heap.size) := ⟨⟨B.exec, B.bytes, hml, hown, hts⟩, hK, fun q h => Or.inr h⟩
  have dec : ∀ {pc : Nat} {i : Instr} {nxt tgt : Nat}, nget pc tab = some (i, nxt, tgt) → decode cc pc = .ok (i, ilen i) := fun h => (ht _ (nget_mem h)).1
  have key := body (Va p l e rm s m (vs.map (aval ad)).toArray below meth c 0 0 (MQ below (qI D cA ad L post (va_A (wL cA ad σ 0 L) s.heap.size)) (vs.map (aval ad)).toArray s 0 0 (va_A (wL cA ad σ 0 L) s.heap.size)) D cA ad L maxL (va_A (wL cA ad σ 0 L) s.heap.size)) (Mach.of F hL ht hfl hpl hkl ⟨Nat.zero_le _, Nat.zero_le _⟩) (fun hg hx hp => Va.retz F (dec hg) B.returns B.notSynchronized hx hp)
  have hl := lv_entry (vs.map (aval ad)) (n := maxL) (by rw [lg_len]; exact hlen)
  rw [lnum_args] at hl
  rw [lg_entry_eq]
  exact key s.heap [] _ hP hD va_S.rf hl
theorem Cv.walk {l : Launch} {y : MethodName} {ws ws' : List Cond} {rm : Room} {D : va_G} {cA : Nat → ClassId} {ad : Nat → Nat} {L : Lay} {vs : List aV} {σ : St} {post : St → Prop} {cc : ByteArray} {maxL : Nat} {tab : TB} (fl pl : FL) (kl : List (Nat × Int)) (hy : plainName y.cls = true) (hw : ws = .code y cc maxL none :: ws') (hL : layOk L) (ht : tabOk cc tab) (hfl : flOk y.cls ws fl) (hpl : plOk y.cls ws pl) (hkl : klOk y.cls ws kl) (hlen : vs.length ≤ maxL)
    (body : ∀ V : aS → Prop, Mach l rm y.cls ws tab fl pl kl D cA ad L maxL V → (∀ {pc nxt tgt : Nat} {lv : List (Nat × aV)} {τ : St}, nget pc tab = some (.return_, nxt, tgt) → post τ → V (pc, lv, [], τ)) → V (0, lnum 0 vs, [], σ)) : Cv l y ws rm D cA ad L vs σ post := by
  intro sz
  refine Met.ofW (cc := cc) (maxL := maxL) (ret := none) hy hw ?_
  intro p e s m args below meth c s₁ B hml hv
  obtain ⟨rfl, hsz, hP, hK, hD0⟩ := hv
  have hts := atoms_spec (ws := ws) B.pre
  have hown : s.vm.findClass y.cls = some m.cls := findClass_of_methodNamed B.named
  subst hsz
  have hD := hD0.self (sz := s.heap.size)
  have F : Fx p s m (vs.map (aval ad)).toArray c cc maxL y.cls ws D cA (va_A (wL cA ad σ 0 L) s.heap.size) := ⟨⟨B.exec, B.bytes, hml, hown, hts⟩, hK, fun q h => Or.inr h⟩
  have dec : ∀ {pc : Nat} {i : Instr} {nxt tgt : Nat}, nget pc tab = some (i, nxt, tgt) → decode cc pc = .ok (i, ilen i) := fun h => (ht _ (nget_mem h)).1
  have key := body (Va p l e rm s m (vs.map (aval ad)).toArray below meth c 0 0 (MQ below (qV D cA ad L post (va_A (wL cA ad σ 0 L) s.heap.size)) (vs.map (aval ad)).toArray s 0 0 (va_A (wL cA ad σ 0 L) s.heap.size)) D cA ad L maxL (va_A (wL cA ad σ 0 L) s.heap.size)) (Mach.of F hL ht hfl hpl hkl ⟨Nat.zero_le _, Nat.zero_le _⟩) (fun hg hp => Va.retv F (dec hg) B.returns B.notSynchronized hp)
  have hl := lv_entry (vs.map (aval ad)) (n := maxL) (by rw [lg_len]; exact hlen)
  rw [lnum_args] at hl
  rw [lg_entry_eq]
  exact key s.heap [] _ hP hD va_S.rf hl
