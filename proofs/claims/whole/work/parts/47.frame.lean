/-! a call on a part of the world -/
theorem wL_addr (cA : Nat → ClassId) (ad : Nat → Nat) (σ τ : St) : ∀ (L : Lay) (i : Nat), (wL cA ad σ i L).map Prod.fst = (wL cA ad τ i L).map Prod.fst
  | [], _ => rfl
  | x :: xs, i => by
    show ad i :: (wL cA ad σ (i + 1) xs).map Prod.fst = ad i :: (wL cA ad τ (i + 1) xs).map Prod.fst
    rw [wL_addr cA ad σ τ xs (i + 1)]
theorem va_D_addr {A : Nat → Prop} {ws ws' : va_W} (h : ws'.map Prod.fst = ws.map Prod.fst) (hD : va_D A ws) : va_D A ws' := by
  have key : ∀ (k : Nat) (q : Nat × va_E), ws'[k]? = some q → ∃ q', ws[k]? = some q' ∧ q'.1 = q.1 := by
    intro k q hq
    have h1 : (ws'.map Prod.fst)[k]? = some q.1 := by rw [List.getElem?_map, hq]; rfl
    rw [h, List.getElem?_map] at h1
    cases hx : ws[k]? with
    | none => rw [hx] at h1; cases h1
    | some x => rw [hx] at h1; exact ⟨x, rfl, Option.some.inj h1⟩
  refine ⟨fun i j a b ha hb e => ?_, fun k q hk => ?_⟩
  · obtain ⟨a', h1, h2⟩ := key i a ha
    obtain ⟨b', h3, h4⟩ := key j b hb
    exact hD.1 i j a' b' h1 h3 (by rw [h2, h4, e])
  · obtain ⟨q', h1, h2⟩ := key k q hk
    rw [← h2]
    exact hD.2 k q' h1
theorem app_at {wa wc wb : va_W} {j : Nat} {z : Nat × va_E} (h : wc[j]? = some z) : (wa ++ (wc ++ wb))[wa.length + j]? = some z := by
  have := (List.getElem?_eq_some_iff.mp h).1
  rw [List.getElem?_append_right (by omega), show wa.length + j - wa.length = j by omega, List.getElem?_append_left this]
  exact h
theorem va_P.mid {D : va_G} {wa wc wb : va_W} {H : Heap} (h : va_P D vwCl (wa ++ (wc ++ wb)) H) : va_P D vwCl wc H := fun _ z hz => h _ z (app_at hz)
theorem va_D.mid {A : Nat → Prop} {wa wc wb : va_W} (h : va_D A (wa ++ (wc ++ wb))) : va_D A wc := by
  refine ⟨fun i j a b ha hb e => ?_, fun k q hk => h.2 _ q (app_at hk)⟩
  have := h.1 _ _ a b (app_at ha) (app_at hb) e
  omega
theorem fr_join {A0 : Nat → Prop} {D : va_G} {wa wc wb w1 : va_W} {H H1 : Heap} (hP : va_P D vwCl (wa ++ (wc ++ wb)) H) (hD : va_D A0 (wa ++ (wc ++ wb))) (hk : ∀ q : Nat, q < H.size → ¬ va_A wc H.size q → H1[q]? = H[q]?) (hP1 : va_P D vwCl w1 H1) (ha : w1.map Prod.fst = wc.map Prod.fst) : va_P D vwCl (wa ++ (w1 ++ wb)) H1 ∧ va_D A0 (wa ++ (w1 ++ wb)) := by
  have hlen : w1.length = wc.length := by
    have := congrArg List.length ha
    simpa using this
  have out : ∀ (k : Nat) (z : Nat × va_E), (wa ++ (wc ++ wb))[k]? = some z → (k < wa.length ∨ wa.length + wc.length ≤ k) → va_at D vwCl z H1 := by
    intro k z hz ho
    have hlt := (hP k z hz).lt
    refine (hP k z hz).kept (hk z.1 hlt ?_)
    rintro (⟨j, e, hj⟩ | h)
    · have h1 := hD.1 k _ z (z.1, e) hz (app_at hj) rfl
      have h2 := (List.getElem?_eq_some_iff.mp hj).1
      omega
    · omega
  refine ⟨fun k z hz => ?_, va_D_addr (by simp [List.map_append, ha]) hD⟩
  by_cases h1 : k < wa.length
  · rw [List.getElem?_append_left h1] at hz
    exact out k z (by rw [List.getElem?_append_left h1]; exact hz) (Or.inl h1)
  · rw [List.getElem?_append_right (by omega)] at hz
    by_cases h2 : k - wa.length < w1.length
    · rw [List.getElem?_append_left h2] at hz
      exact hP1 _ z hz
    · rw [List.getElem?_append_right (by omega)] at hz
      refine out k z ?_ (Or.inr (by omega))
      rw [List.getElem?_append_right (by omega), List.getElem?_append_right (by omega), ← hlen]
      exact hz
section Frame
variable {p : Program} {l : Launch} {e : Env} {R : Room} {s : State} {m : MethodId} {args : Array Value} {below : List Frame} {meth : Method} {c : Code} {cells slots : Nat} {Q : State → Prop} {D : va_G} {cA : Nat → ClassId} {ad : Nat → Nat} {L : Lay} {nL : Nat} {A : Nat → Prop} {cc : ByteArray} {own : String} {Ts : List Cond} {pc : Nat} {lv : List (Nat × Value)} {σ : St} {wa wb : va_W}
theorem Wd.callVi (F : Fx p s m args c cc nL own Ts D cA A) {idx j : Nat} {C : String} {T : u_T} {N : Nat} {o : Nat × List (Nat ⊕ Bool)} {y : MethodName} {ws : List Cond} {rm : Room} {vs : List aV} {rest : List Value} {post : Int → St → Prop} (ok : okV R own Ts idx C y ws rm vs.length) (hd : decode cc pc = .ok (.invokevirtual idx, 3)) (hj : L[j]? = some (.inl o)) (hc : vwCl[o.1]? = some (C, T, N)) (hlen : (rest.map fun v => v.category).sum ≤ 8) (hcs : cells ≤ R.cells ∧ slots ≤ R.slots) (hM : Ci l y ws rm D cA ad L (.inl j :: vs) σ post)
    (k : ∀ (r : Int) (τ : St), inR r → post r τ → Wd p l e R s m args below meth c cells slots Q D nL A (pc + 3) lv (.int (zI r) :: rest) (wa ++ (wL cA ad τ 0 L ++ wb))) : Wd p l e R s m args below meth c cells slots Q D nL A pc lv ((vs.map (aval ad)).reverse ++ .ref (ad j) :: rest) (wa ++ (wL cA ad σ 0 L ++ wb)) := by
  intro H locs ls hP hD hS hl
  obtain ⟨bytes, maxL, ret, ws', hg, hw, hrc, hrs, hdd, hR⟩ := ok
  have hPc := hP.mid
  have hDc := hD.mid
  have hFc := F.free hDc hS
  refine va_calli (va_runV (As := vs.map (aval ad)) (rest := rest) (b := ad j) F.1 (hM H.size) (cwV vs.length F.1.2.2.2.2 hg hw hrc hrs hdd hR) ⟨fun a U g mk q => by obtain ⟨q0, q1, qP, qK, qD⟩ := q; exact ⟨q0, q1, qP, va_K.moved (u := U) (U := U.calling g mk a) (Vm.Alike.refl U.vm) qK, qD⟩, va_recv F.2.1 hPc hc (wL_at hj), fun U hU hW => ⟨rfl, by rw [hU], by rw [hU]; exact hPc, va_K.moved hW.alike F.2.1, hDc.weaken (fun _ _ _ _ => trivial)⟩⟩ rfl (by simp) hl.1 rfl (lv_room hlen) hd hcs) hS (fun q _ h => hFc q h) hFc (fun r u t H1 locs1 ht hvm hw hB hz1 hk1 hS1 => ?_)
  obtain ⟨hr, hin, hp⟩ := hw
  subst hr
  obtain ⟨j1, j2⟩ := fr_join hP hD hk1 (w1 := wL cA ad u.2 0 L) (by rw [← ht]; exact hB) (wL_addr cA ad u.2 σ L 0)
  exact k u.1 u.2 hin hp H1 locs1 ls j1 j2 hS1 hl
end Frame
