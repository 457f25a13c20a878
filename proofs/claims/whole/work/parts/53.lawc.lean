/-! the law's calls -/
def lwW (cA : Nat → ClassId) (cJ : ClassId) (bd ad : Nat → Nat) (q : Nat) (τ σ : St) (f : Nat → Int64) : va_W := wL cA bd τ 0 LM ++ (wL cA ad σ 0 LC ++ wO q cJ f)
def lvC (b : Nat) (ad bd : Nat → Nat) (q : Nat) (i : Nat) : List (Nat × Value) := [(4, .int (zI i)), (3, .ref q), (2, .ref (bd 0)), (1, .ref (ad 0)), (0, .ref b)]
abbrev WL (p : Program) (l : Launch) (e : Env) (s : State) (m : MethodId) (b : Nat) (below : List Frame) (meth : Method) (c : Code) (cells slots : Nat) (D : va_G) (pc : Nat) (lv : List (Nat × Value)) (st : List Value) (w : va_W) : Prop := Wd p l e room_1 s m #[Value.ref b] below meth c cells slots (lw_Z below #[Value.ref b] s) D 7 (fun y => s.heap.size ≤ y) pc lv st w
def LF (p : Program) (s : State) (m : MethodId) (c : Code) (b Ln : Nat) (xs : Nat → Int32) (D : va_G) (cA : Nat → ClassId) : Prop := Fx p s m #[Value.ref b] c cL_law 7 RL wsL_law D cA (fun y => s.heap.size ≤ y) ∧ va_X b Ln xs s s.heap ∧ b < s.heap.size ∧ Ln ≤ 1536
section Law
variable {p : Program} {l : Launch} {e : Env} {s : State} {m : MethodId} {b : Nat} {below : List Frame} {meth : Method} {c : Code} {cells slots : Nat} {D : va_G} {cA : Nat → ClassId} {cJ : ClassId} {ad bd : Nat → Nat} {q Ln i : Nat} {xs : Nat → Int32} {σ τ : St} {f : Nat → Int64} {pc : Nat} {lv : List (Nat × Value)} {st : List Value} {w : va_W}
theorem lw_arg (G : LF p s m c b Ln xs D cA) (j : Nat) (hj : i + j < Ln) (hb : (0, Value.ref b) ∈ lv) (hi : (4, Value.int (zI i)) ∈ lv) (h1 : decode cL_law pc = .ok (.aload_n 0, 1)) (h2 : decode cL_law (pc + 1) = .ok (.iload 4, 2)) (h3 : decode cL_law (pc + 3) = .ok (.iconst (j : Int), 1)) (h4 : decode cL_law (pc + 4) = .ok (.iadd, 1)) (h5 : decode cL_law (pc + 5) = .ok (.iaload, 1))
    (k : WL p l e s m b below meth c cells slots D (pc + 6) lv (.int (xs (i + j)) :: st) w) : WL p l e s m b below meth c cells slots D pc lv st w := by
  intro H locs ls hP hD hS hl
  have hL := G.2.2.2
  refine lv_aload_n (i := 0) (x := b) G.1.1.1 G.1.1.2.1 h1 rfl (hl.2.2 (0, .ref b) hb) ?_
  refine lv_iload (x := zI i) G.1.1.1 G.1.1.2.1 h2 (hl.2.2 (4, .int (zI i)) hi) ?_
  refine lv_iconst (v := zI (j : Int)) G.1.1.1 G.1.1.2.1 h3 rfl ?_
  refine lv_iadd G.1.1.1 G.1.1.2.1 h4 ?_
  have e1 : zI (i : Int) + zI (j : Int) = zI ((i + j : Nat) : Int) := by rw [zI_add]; congr 1
  rw [e1]
  have hin : inR ((i + j : Nat) : Int) := by unfold inR; omega
  refine va_sld G.1.1.1 G.1.1.2.1 G.2.1 G.2.2.1 (by have := G.2.2.1; omega) hS (zI_in (by omega) (by omega) (by omega)) h5 ?_
  rw [zI_cl hin, show ((i + j : Nat) : Int).toNat = i + j by omega]
  exact k H locs ls hP hD hS hl
theorem lw_ld (G : LF p s m c b Ln xs D cA) (n : Fin 4) {x : Nat} (hx : (n.val, Value.ref x) ∈ lv) (h1 : decode cL_law pc = .ok (.aload_n n, 1)) (k : WL p l e s m b below meth c cells slots D (pc + 1) lv (.ref x :: st) w) : WL p l e s m b below meth c cells slots D pc lv st w :=
  fun H locs ls hP hD hS hl => lv_aload_n (x := x) G.1.1.1 G.1.1.2.1 h1 rfl (hl.2.2 _ hx) (k H locs ls hP hD hS hl)
/-- two answers, held against each other -/
theorem lw_eq (G : LF p s m c b Ln xs D cA) {x : Int32} {off : Int} (h1 : decode cL_law pc = .ok (.if_icmp .eq off, 3)) (h2 : (pc : Int) + off = ((552 : Nat) : Int)) (k : WL p l e s m b below meth c cells slots D 552 lv st w) : WL p l e s m b below meth c cells slots D pc lv (.int x :: .int x :: st) w :=
  fun H locs ls hP hD hS hl => lv_icmp_eq G.1.1.1 G.1.1.2.1 h1 h2 (fun _ => k H locs ls hP hD hS hl) (fun h => absurd rfl h)
variable {yC yM : MethodName} {wsC wsM : List Cond} {rC rM : Room} {iC iM : Nat} {v : Int} {T' : List Int} {ps' : PSt} {P' : Int → Int} {off : Int}
theorem lw_c0 (G : LF p s m c b Ln xs D cA) (okC : okV room_1 RL wsL_law iC RX5 yC wsC rC 0) (okM : okV room_1 RL wsL_law iM RX6 yM wsM rM 0) (hcs : cells ≤ room_1.cells ∧ slots ≤ room_1.slots)
    (hC : Ci l yC wsC rC D cA ad LC [.inl 0] σ (fun r u => r = v ∧ RC u T' ps' P')) (hM : Ci l yM wsM rM D cA bd LM [.inl 0] τ (fun r u => r = v ∧ RM u T' ps' P'))
    (d0 : decode cL_law pc = .ok (.aload_n 1, 1)) (d1 : decode cL_law (pc + 1) = .ok (.invokevirtual iC, 3)) (d2 : decode cL_law (pc + 4) = .ok (.aload_n 2, 1)) (d3 : decode cL_law (pc + 5) = .ok (.invokevirtual iM, 3)) (d4 : decode cL_law (pc + 8) = .ok (.if_icmp .eq off, 3)) (d5 : ((pc + 8 : Nat) : Int) + off = ((552 : Nat) : Int))
    (k : ∀ σ' τ', RC σ' T' ps' P' → RM τ' T' ps' P' → WL p l e s m b below meth c cells slots D 552 (lvC b ad bd q i) [] (lwW cA cJ bd ad q τ' σ' f)) : WL p l e s m b below meth c cells slots D pc (lvC b ad bd q i) [] (lwW cA cJ bd ad q τ σ f) := by
  refine lw_ld G 1 (x := ad 0) (List.mem_of_getElem? (i := 3) rfl) d0 ?_
  refine Wd.callVi G.1 (wa := wL cA bd τ 0 LM) (wb := wO q cJ f) (vs := []) (rest := []) (j := 0) okC d1 rfl rfl (Nat.le_of_ble_eq_true rfl) hcs hC (fun r σ' _ hp => ?_)
  obtain ⟨h1, h2⟩ := hp
  subst h1
  refine lw_ld G 2 (x := bd 0) (List.mem_of_getElem? (i := 2) rfl) d2 ?_
  refine Wd.callVi G.1 (wa := []) (wb := wL cA ad σ' 0 LC ++ wO q cJ f) (vs := []) (rest := [.int (zI r)]) (j := 0) okM d3 rfl rfl (Nat.le_of_ble_eq_true rfl) hcs hM (fun r2 τ' _ hp => ?_)
  obtain ⟨h3, h4⟩ := hp
  subst h3
  exact lw_eq G d4 d5 (k σ' τ' h2 h4)
theorem lw_c1 (G : LF p s m c b Ln xs D cA) {a : Int} (hj : i + 1 < Ln) (ha : xs (i + 1) = zI a) (okC : okV room_1 RL wsL_law iC RX5 yC wsC rC 1) (okM : okV room_1 RL wsL_law iM RX6 yM wsM rM 1) (hcs : cells ≤ room_1.cells ∧ slots ≤ room_1.slots)
    (hC : Ci l yC wsC rC D cA ad LC [.inl 0, .inr a] σ (fun r u => r = v ∧ RC u T' ps' P')) (hM : Ci l yM wsM rM D cA bd LM [.inl 0, .inr a] τ (fun r u => r = v ∧ RM u T' ps' P'))
    (d0 : decode cL_law pc = .ok (.aload_n 1, 1)) (d1 : decode cL_law (pc + 1) = .ok (.aload_n 0, 1)) (d2 : decode cL_law (pc + 2) = .ok (.iload 4, 2)) (d3 : decode cL_law (pc + 4) = .ok (.iconst 1, 1)) (d4 : decode cL_law (pc + 5) = .ok (.iadd, 1)) (d5 : decode cL_law (pc + 6) = .ok (.iaload, 1)) (d6 : decode cL_law (pc + 7) = .ok (.invokevirtual iC, 3))
    (d7 : decode cL_law (pc + 10) = .ok (.aload_n 2, 1)) (d8 : decode cL_law (pc + 11) = .ok (.aload_n 0, 1)) (d9 : decode cL_law (pc + 12) = .ok (.iload 4, 2)) (d10 : decode cL_law (pc + 14) = .ok (.iconst 1, 1)) (d11 : decode cL_law (pc + 15) = .ok (.iadd, 1)) (d12 : decode cL_law (pc + 16) = .ok (.iaload, 1)) (d13 : decode cL_law (pc + 17) = .ok (.invokevirtual iM, 3))
    (d14 : decode cL_law (pc + 20) = .ok (.if_icmp .eq off, 3)) (d15 : ((pc + 20 : Nat) : Int) + off = ((552 : Nat) : Int))
    (k : ∀ σ' τ', RC σ' T' ps' P' → RM τ' T' ps' P' → WL p l e s m b below meth c cells slots D 552 (lvC b ad bd q i) [] (lwW cA cJ bd ad q τ' σ' f)) : WL p l e s m b below meth c cells slots D pc (lvC b ad bd q i) [] (lwW cA cJ bd ad q τ σ f) := by
  refine lw_ld G 1 (x := ad 0) (List.mem_of_getElem? (i := 3) rfl) d0 ?_
  refine lw_arg G 1 hj (List.mem_of_getElem? (i := 4) rfl) (List.mem_of_getElem? (i := 0) rfl) d1 d2 d3 d4 d5 ?_
  rw [ha]
  refine Wd.callVi G.1 (wa := wL cA bd τ 0 LM) (wb := wO q cJ f) (vs := [.inr a]) (rest := []) (j := 0) okC d6 rfl rfl (Nat.le_of_ble_eq_true rfl) hcs hC (fun r σ' _ hp => ?_)
  obtain ⟨h1, h2⟩ := hp
  subst h1
  refine lw_ld G 2 (x := bd 0) (List.mem_of_getElem? (i := 2) rfl) d7 ?_
  refine lw_arg G 1 hj (List.mem_of_getElem? (i := 4) rfl) (List.mem_of_getElem? (i := 0) rfl) d8 d9 d10 d11 d12 ?_
  rw [ha]
  refine Wd.callVi G.1 (wa := []) (wb := wL cA ad σ' 0 LC ++ wO q cJ f) (vs := [.inr a]) (rest := [.int (zI r)]) (j := 0) okM d13 rfl rfl (Nat.le_of_ble_eq_true rfl) hcs hM (fun r2 τ' _ hp => ?_)
  obtain ⟨h3, h4⟩ := hp
  subst h3
  exact lw_eq G d14 d15 (k σ' τ' h2 h4)
theorem lw_c2 (G : LF p s m c b Ln xs D cA) {a a2 : Int} (hj : i + 2 < Ln) (ha : xs (i + 1) = zI a) (ha2 : xs (i + 2) = zI a2) (okC : okV room_1 RL wsL_law iC RX5 yC wsC rC 2) (okM : okV room_1 RL wsL_law iM RX6 yM wsM rM 2) (hcs : cells ≤ room_1.cells ∧ slots ≤ room_1.slots)
    (hC : Ci l yC wsC rC D cA ad LC [.inl 0, .inr a, .inr a2] σ (fun r u => r = v ∧ RC u T' ps' P')) (hM : Ci l yM wsM rM D cA bd LM [.inl 0, .inr a, .inr a2] τ (fun r u => r = v ∧ RM u T' ps' P'))
    (d0 : decode cL_law pc = .ok (.aload_n 1, 1)) (d1 : decode cL_law (pc + 1) = .ok (.aload_n 0, 1)) (d2 : decode cL_law (pc + 2) = .ok (.iload 4, 2)) (d3 : decode cL_law (pc + 4) = .ok (.iconst 1, 1)) (d4 : decode cL_law (pc + 5) = .ok (.iadd, 1)) (d5 : decode cL_law (pc + 6) = .ok (.iaload, 1))
    (e1 : decode cL_law (pc + 7) = .ok (.aload_n 0, 1)) (e2 : decode cL_law (pc + 8) = .ok (.iload 4, 2)) (e3 : decode cL_law (pc + 10) = .ok (.iconst 2, 1)) (e4 : decode cL_law (pc + 11) = .ok (.iadd, 1)) (e5 : decode cL_law (pc + 12) = .ok (.iaload, 1)) (d6 : decode cL_law (pc + 13) = .ok (.invokevirtual iC, 3))
    (d7 : decode cL_law (pc + 16) = .ok (.aload_n 2, 1)) (d8 : decode cL_law (pc + 17) = .ok (.aload_n 0, 1)) (d9 : decode cL_law (pc + 18) = .ok (.iload 4, 2)) (d10 : decode cL_law (pc + 20) = .ok (.iconst 1, 1)) (d11 : decode cL_law (pc + 21) = .ok (.iadd, 1)) (d12 : decode cL_law (pc + 22) = .ok (.iaload, 1))
    (f1 : decode cL_law (pc + 23) = .ok (.aload_n 0, 1)) (f2 : decode cL_law (pc + 24) = .ok (.iload 4, 2)) (f3 : decode cL_law (pc + 26) = .ok (.iconst 2, 1)) (f4 : decode cL_law (pc + 27) = .ok (.iadd, 1)) (f5 : decode cL_law (pc + 28) = .ok (.iaload, 1)) (d13 : decode cL_law (pc + 29) = .ok (.invokevirtual iM, 3))
    (d14 : decode cL_law (pc + 32) = .ok (.if_icmp .eq off, 3)) (d15 : ((pc + 32 : Nat) : Int) + off = ((552 : Nat) : Int))
    (k : ∀ σ' τ', RC σ' T' ps' P' → RM τ' T' ps' P' → WL p l e s m b below meth c cells slots D 552 (lvC b ad bd q i) [] (lwW cA cJ bd ad q τ' σ' f)) : WL p l e s m b below meth c cells slots D pc (lvC b ad bd q i) [] (lwW cA cJ bd ad q τ σ f) := by
  refine lw_ld G 1 (x := ad 0) (List.mem_of_getElem? (i := 3) rfl) d0 ?_
  refine lw_arg G 1 (by omega) (List.mem_of_getElem? (i := 4) rfl) (List.mem_of_getElem? (i := 0) rfl) d1 d2 d3 d4 d5 ?_
  refine lw_arg G 2 hj (List.mem_of_getElem? (i := 4) rfl) (List.mem_of_getElem? (i := 0) rfl) e1 e2 e3 e4 e5 ?_
  rw [ha, ha2]
  refine Wd.callVi G.1 (wa := wL cA bd τ 0 LM) (wb := wO q cJ f) (vs := [.inr a, .inr a2]) (rest := []) (j := 0) okC d6 rfl rfl (Nat.le_of_ble_eq_true rfl) hcs hC (fun r σ' _ hp => ?_)
  obtain ⟨h1, h2⟩ := hp
  subst h1
  refine lw_ld G 2 (x := bd 0) (List.mem_of_getElem? (i := 2) rfl) d7 ?_
  refine lw_arg G 1 (by omega) (List.mem_of_getElem? (i := 4) rfl) (List.mem_of_getElem? (i := 0) rfl) d8 d9 d10 d11 d12 ?_
  refine lw_arg G 2 hj (List.mem_of_getElem? (i := 4) rfl) (List.mem_of_getElem? (i := 0) rfl) f1 f2 f3 f4 f5 ?_
  rw [ha, ha2]
  refine Wd.callVi G.1 (wa := []) (wb := wL cA ad σ' 0 LC ++ wO q cJ f) (vs := [.inr a, .inr a2]) (rest := [.int (zI r)]) (j := 0) okM d13 rfl rfl (Nat.le_of_ble_eq_true rfl) hcs hM (fun r2 τ' _ hp => ?_)
  obtain ⟨h3, h4⟩ := hp
  subst h3
  exact lw_eq G d14 d15 (k σ' τ' h2 h4)
end Law
