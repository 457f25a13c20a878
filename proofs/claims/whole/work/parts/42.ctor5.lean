theorem wd_join {D : va_G} {cl : List vw_C} {A : Nat → Prop} {base u : va_W} {q : Nat} {x : va_E} {H H1 : Heap} (hP : va_P D cl (base ++ [(q, x)]) H) (hD : va_D A (base ++ [(q, x)])) (hk : ∀ y : Nat, y < H.size → ¬ va_A [(q, x)] H.size y → H1[y]? = H[y]?) (hF : ∀ y, va_A [(q, x)] H.size y → A y) (hP1 : va_P D cl u H1) (hD1 : va_D (va_A [(q, x)] H.size) u) : va_P D cl (base ++ u) H1 ∧ va_D A (base ++ u) := by
  have hlt : ∀ (k : Nat) (z : Nat × va_E), base[k]? = some z → z.1 < H.size ∧ z.1 ≠ q := by
    intro k z hz
    have hkl := (List.getElem?_eq_some_iff.mp hz).1
    have h1 : (base ++ [(q, x)])[k]? = some z := by rw [List.getElem?_append_left hkl]; exact hz
    refine ⟨(hP k z h1).lt, fun e => ?_⟩
    have h2 : (base ++ [(q, x)])[base.length]? = some (q, x) := by simp
    have := hD.1 k base.length z (q, x) h1 h2 e
    omega
  have hnot : ∀ (k : Nat) (z : Nat × va_E), base[k]? = some z → ¬ va_A [(q, x)] H.size z.1 := by
    rintro k z hz (⟨j, y, hj⟩ | h)
    · cases j with
      | zero =>
        have hj : (q, x) = (z.1, y) := by simpa using hj
        exact (hlt k z hz).2 (congrArg Prod.fst hj).symm
      | succ j => simp at hj
    · have := (hlt k z hz).1
      omega
  have hPb : va_P D cl base H1 := fun k z hz => by
    have hkl := (List.getElem?_eq_some_iff.mp hz).1
    have h1 : (base ++ [(q, x)])[k]? = some z := by rw [List.getElem?_append_left hkl]; exact hz
    exact (hP k z h1).kept (hk z.1 (hlt k z hz).1 (hnot k z hz))
  have hDb : va_D A base := by
    refine ⟨fun i j a b ha hb e => ?_, fun k z hz => ?_⟩
    · have hi := (List.getElem?_eq_some_iff.mp ha).1
      have hj := (List.getElem?_eq_some_iff.mp hb).1
      exact hD.1 i j a b (by rw [List.getElem?_append_left hi]; exact ha) (by rw [List.getElem?_append_left hj]; exact hb) e
    · have hi := (List.getElem?_eq_some_iff.mp hz).1
      exact hD.2 k z (by rw [List.getElem?_append_left hi]; exact hz)
  refine ⟨hPb.app hP1, hDb.app (hD1.weaken (fun k z _ h => hF z.1 h)) (fun i j a b ha hb e => ?_)⟩
  have := hD1.2 j b hb
  rw [← e] at this
  exact hnot i a ha this
section Ctor5
variable {p : Program} {l : Launch} {e : Env} {R : Room} {s : State} {m : MethodId} {args : Array Value} {below : List Frame} {meth : Method} {c : Code} {cells slots : Nat} {Q : State → Prop} {D : va_G} {cA : Nat → ClassId} {nL : Nat} {A : Nat → Prop} {cc : ByteArray} {own : String} {Ts : List Cond} {pc : Nat} {lv : List (Nat × Value)} {wr : va_W}
theorem Wd.sub (F : Fx p s m args c cc nL own Ts D cA A) (hin2 : meth.name = "<init>") {C : String} {T : u_T} {N ci idx k : Nat} {fs : List Value} {h0 : Nat} (ty : Nat → FieldType) (hty : ∀ k, k < N → parseFieldDescriptor (T k).2.2.1 = some (ty k)) (hnm : ∀ a, a < N → ∀ b, b < N → a ≠ b → (T a).2.1 ≠ (T b).2.1) (hin : ∀ w ∈ u_ws C T N, w ∈ Ts) (hc : vwCl[ci]? = some (C, T, N)) (hk : k < N) (hlk : Cond.fieldLink own idx (T k).1 (T k).2.1 (T k).2.2.1 ∈ Ts) (hfin : (T k).2.2.2 = true) (hdecl : (T k).1 = own) {cn : String} (hdd : parseFieldDescriptor (T k).2.2.1 = some (.object cn)) (hkl : k < fs.length) (hlv : (0, Value.ref h0) ∈ lv)
    {C2 : String} {T2 : u_T} {N2 ci2 idxn idxi mc ms : Nat} {fs2 : List Value} {y : MethodName} {ws ws' : List Cond} {rm : Room} {bytes : ByteArray} {maxL : Nat} {post : Nat → va_W → Prop} (ty2 : Nat → FieldType) (hty2 : ∀ k, k < N2 → parseFieldDescriptor (T2 k).2.2.1 = some (ty2 k)) (hin_2 : ∀ w ∈ u_ws C2 T2 N2, w ∈ Ts) (hc2 : vwCl[ci2]? = some (C2, T2, N2)) (hcl : Cond.classLink own idxn C2 ∈ Ts) (hinst : Cond.instantiable C2 N2 ∈ Ts) (hini : Cond.initialized C2 ∈ Ts) (hfs : ∀ j, j < N2 → defaultValue (ty2 j) = vp_V fs2 j)
    (hM : ∀ q, Ck l y ws rm D cA q [(q, .inr (ci2, fs2))] (post q) mc ms) (hG : GoodIn Ts ws) (hw : ws = Cond.code y bytes maxL none :: ws') (hrc : rm.cells = mc) (hrs : rm.slots = ms) (hyc : y.cls = C2) (hml : Cond.methodLink own idxi y ∈ Ts) (hmi : Cond.instanceMethod y ∈ Ts) (hyn : y.name = "<init>") (hyd : y.cls ≠ "java/lang/invoke/MethodHandle" ∧ y.cls ≠ "java/lang/invoke/VarHandle" ∧ (parseMethodDescriptor y.desc).map (fun d => d.parameters.length) = some 0) (hR : rm.frames + 1 ≤ R.frames ∧ 8 + (maxL + 11) + rm.locals ≤ R.locals)
    (hcells : cells + 1 + mc ≤ R.cells) (hslots : slots + N2 + ms ≤ R.slots)
    (d0 : decode cc pc = .ok (.aload_n 0, 1)) (d1 : decode cc (pc + 1) = .ok (.new idxn, 3)) (d2 : decode cc (pc + 4) = .ok (.dup, 1)) (d3 : decode cc (pc + 5) = .ok (.invokespecial idxi, 3)) (d4 : decode cc (pc + 8) = .ok (.putfield idx, 3))
    (kk : ∀ (q : Nat) (u : va_W), post q u → Wd p l e R s m args below meth c (cells + 1 + mc) (slots + N2 + ms) Q D nL A (pc + 11) lv [] ((h0, .inr (ci, fs.set k (.ref q))) :: (wr ++ u))) : Wd p l e R s m args below meth c cells slots Q D nL A pc lv [] ((h0, .inr (ci, fs)) :: wr) := by
  intro H locs ls hP hD hS hl
  have ht := F.1.2.2.2.2
  refine lv_aload_n F.1.1 F.1.2.1 d0 rfl (hl.2.2 (0, Value.ref h0) hlv) ?_
  refine va_new F.1.1 F.1.2.1 ht hin_2 ty2 hty2 F.1.2.2.2.1 (ht _ hcl) (ht _ hinst) (ht _ hini) F.2.1 hP hD hS F.2.2 hc2 hfs (by omega) (by omega) d1 (fun q H1 hP1 hD1 hS1 => ?_)
  refine lv_dup F.1.1 F.1.2.1 d2 rfl ?_
  have hPc : va_P D vwCl [(q, .inr (ci2, fs2))] H1 := fun j z hz => hP1 (((h0, .inr (ci, fs)) :: wr).length + j) z (by rw [List.getElem?_append_right (by omega)]; simpa using hz)
  have hDc : va_D (fun _ => True) [(q, (.inr (ci2, fs2) : va_E))] := by
    refine ⟨fun i j a b ha hb _ => ?_, fun _ _ _ => trivial⟩
    have := (List.getElem?_eq_some_iff.mp ha).1
    have := (List.getElem?_eq_some_iff.mp hb).1
    simp at *
    omega
  have hFc : ∀ x, va_A [(q, .inr (ci2, fs2))] H1.size x → A x := by
    rintro x (⟨j, z, hj⟩ | h)
    · cases j with
      | zero =>
        have hj : (q, (.inr (ci2, fs2) : va_E)) = (x, z) := by simpa using hj
        have e9 : q = x := congrArg Prod.fst hj
        rw [← e9]
        exact hD1.2 ((h0, .inr (ci, fs)) :: wr).length (q, .inr (ci2, fs2)) (by rw [List.getElem?_append_right (Nat.le_refl _)]; simp)
      | succ j => simp at hj
    · exact F.2.2 x (Nat.le_trans hS1.1 h)
  refine va_callv (va_runI (As := []) (rest := [.ref q, .ref h0]) F.1 (hM q H1.size) (cwI 0 ht hG hw hrc hrs (ht _ (by rw [hyc]; exact hini)) (ht _ hml) (ht _ hmi) hyn hyd hR) ⟨fun a U g mk q => by obtain ⟨q0, q1, qP, qK, qD⟩ := q; exact ⟨q0, q1, qP, va_K.moved (u := U) (U := U.calling g mk a) (Vm.Alike.refl U.vm) qK, qD⟩, fun U hU hW => ⟨rfl, by rw [hU], by rw [hU]; exact hPc, va_K.moved hW.alike F.2.1, hDc⟩⟩ rfl rfl hl.1 rfl (lv_room (Nat.le_of_ble_eq_true rfl)) d3 ⟨hcells, hslots⟩) hS1 (fun x _ h => hFc x h) hFc (fun u t H2 locs2 ht2 hvm hp hB hz1 hk1 hS2 => ?_)
  obtain ⟨hPu, hDu⟩ := hB
  rw [ht2] at hPu
  obtain ⟨hP3, hD3⟩ := wd_join hP1 hD1 hk1 hFc hPu hDu
  refine va_putF F.1.1 F.1.2.1 ht hin ty hty hnm F.1.2.2.2.1 F.2.1 hP3 hD3 hS2 0 rfl hc k hk (ht _ hlk) (fun _ h9 => h9) hfin hin2 hdecl hdd rfl rfl hkl d4 (fun H4 locs4 hP4 hD4 hS4 => ?_)
  exact kk q u hp H4 locs4 ls hP4 hD4 hS4 hl
end Ctor5
theorem dfltX3 : ∀ j, j < 2 → defaultValue (tyX3 j) = vp_V [.null, .int (zI 0)] j := fun j hj => by
  rcases (show j = 0 ∨ j = 1 by omega) with rfl | rfl <;> first | rfl | (show Value.int 0 = Value.int (zI 0); rw [← zI_0])
theorem dfltX4 : ∀ j, j < 8 → defaultValue (tyX4 j) = vp_V [.null, .null, .null, .null, .null, .int (zI 0), .null, .null] j := fun j hj => by
  rcases (show j = 0 ∨ j = 1 ∨ j = 2 ∨ j = 3 ∨ j = 4 ∨ j = 5 ∨ j = 6 ∨ j = 7 by omega) with rfl | rfl | rfl | rfl | rfl | rfl | rfl | rfl <;> first | rfl | (show Value.int 0 = Value.int (zI 0); rw [← zI_0])
theorem dfltX2 : ∀ j, j < 4 → defaultValue (tyX2 j) = vp_V [.null, .null, .int (zI 0), .null] j := fun j hj => by
  rcases (show j = 0 ∨ j = 1 ∨ j = 2 ∨ j = 3 by omega) with rfl | rfl | rfl | rfl <;> first | rfl | (show Value.int 0 = Value.int (zI 0); rw [← zI_0])
theorem dfltX1 : ∀ j, j < 3 → defaultValue (tyX1 j) = vp_V [.null, .null, .null] j := fun j hj => by
  rcases (show j = 0 ∨ j = 1 ∨ j = 2 by omega) with rfl | rfl | rfl <;> first | rfl | (show Value.int 0 = Value.int (zI 0); rw [← zI_0])
theorem dfltX0 : ∀ j, j < 4 → defaultValue (tyX0 j) = vp_V [.null, .null, .null, .null] j := fun j hj => by
  rcases (show j = 0 ∨ j = 1 ∨ j = 2 ∨ j = 3 by omega) with rfl | rfl | rfl | rfl <;> first | rfl | (show Value.int 0 = Value.int (zI 0); rw [← zI_0])
set_option maxHeartbeats 2000000 in
set_option maxRecDepth 20000 in
theorem c_X5_init {l : Launch} {D : va_G} {cA : Nat → ClassId} {h0 : Nat} : Ck l yX5_init wsX5_init { frames := 2, cells := 23, slots := 2321, locals := 80 } D cA h0 [(h0, .inr (6, [.null, .null, .null, .null, .null]))] (fun w => ∃ (ad : Nat → Nat) (σ : St), w = wL cA ad σ 0 LC ∧ ad 0 = h0 ∧ rng σ ∧ σ 1 1 = 0 ∧ σ 2 5 = 0 ∧ ∀ i, i < 288 → σ 11 i = -10) 23 2321 := by
  refine Ck.of (by decide) rfl (by decide) rfl (fun p e s m args below meth c A F hin ret => ?_)
  refine Wd.obj F (idx := 1) (by decide +kernel) (by decide +kernel) (by decide +kernel) List.mem_cons_self (tdec tX5_init_ok 0 (q := (0, .aload_n 0, 1, 0)) rfl) (tdec tX5_init_ok 1 (q := (1, .invokespecial 1, 4, 0)) rfl) (by decide) (by decide) ?_
  refine Wd.sub F hin (k := 0) (idx := 10) (ci2 := 4) (fs2 := [.null, .int (zI 0)]) (idxn := 7) (idxi := 9) (mc := 1) (ms := 120) tyX5 tyX5_ok nmX5 (by decide +kernel) rfl (by decide) (by decide +kernel) rfl rfl (cn := "PairTokens$Text") (by decide +kernel) (Nat.le_of_ble_eq_true rfl) List.mem_cons_self tyX3 tyX3_ok (by decide +kernel) rfl (by decide +kernel) (by decide +kernel) (by decide +kernel) (dfltX3) (fun q => c_X3_init) gX5_init_X3_init rfl rfl rfl rfl (by decide +kernel) (by decide +kernel) rfl (by decide +kernel) (by decide) (Nat.le_of_ble_eq_true rfl) (Nat.le_of_ble_eq_true rfl) (tdec tX5_init_ok 2 (q := (4, .aload_n 0, 5, 0)) rfl) (tdec tX5_init_ok 3 (q := (5, .new 7, 8, 0)) rfl) (tdec tX5_init_ok 4 (q := (8, .dup, 9, 0)) rfl) (tdec tX5_init_ok 5 (q := (9, .invokespecial 9, 12, 0)) rfl) (tdec tX5_init_ok 6 (q := (12, .putfield 10, 15, 0)) rfl) (fun hT uX3 pX3 => ?_)
  obtain ⟨a0, rfl⟩ := pX3
  refine Wd.sub F hin (k := 1) (idx := 19) (ci2 := 5) (fs2 := [.null, .null, .null, .null, .null, .int (zI 0), .null, .null]) (idxn := 16) (idxi := 18) (mc := 7) (ms := 568) tyX5 tyX5_ok nmX5 (by decide +kernel) rfl (by decide) (by decide +kernel) rfl rfl (cn := "PairTokens$Vocabulary") (by decide +kernel) (Nat.le_of_ble_eq_true rfl) List.mem_cons_self tyX4 tyX4_ok (by decide +kernel) rfl (by decide +kernel) (by decide +kernel) (by decide +kernel) (dfltX4) (fun q => c_X4_init) gX5_init_X4_init rfl rfl rfl rfl (by decide +kernel) (by decide +kernel) rfl (by decide +kernel) (by decide) (Nat.le_of_ble_eq_true rfl) (Nat.le_of_ble_eq_true rfl) (tdec tX5_init_ok 7 (q := (15, .aload_n 0, 16, 0)) rfl) (tdec tX5_init_ok 8 (q := (16, .new 16, 19, 0)) rfl) (tdec tX5_init_ok 9 (q := (19, .dup, 20, 0)) rfl) (tdec tX5_init_ok 10 (q := (20, .invokespecial 18, 23, 0)) rfl) (tdec tX5_init_ok 11 (q := (23, .putfield 19, 26, 0)) rfl) (fun hV uX4 pX4 => ?_)
  obtain ⟨b0, b1, b2, b3, b4, b5, b6, τ, rfl, g1, g2, g3⟩ := pX4
  refine Wd.sub F hin (k := 2) (idx := 26) (ci2 := 3) (fs2 := [.null, .null, .int (zI 0), .null]) (idxn := 23) (idxi := 25) (mc := 3) (ms := 360) tyX5 tyX5_ok nmX5 (by decide +kernel) rfl (by decide) (by decide +kernel) rfl rfl (cn := "PairTokens$Row") (by decide +kernel) (Nat.le_of_ble_eq_true rfl) List.mem_cons_self tyX2 tyX2_ok (by decide +kernel) rfl (by decide +kernel) (by decide +kernel) (by decide +kernel) (dfltX2) (fun q => c_X2_init) gX5_init_X2_init rfl rfl rfl rfl (by decide +kernel) (by decide +kernel) rfl (by decide +kernel) (by decide) (Nat.le_of_ble_eq_true rfl) (Nat.le_of_ble_eq_true rfl) (tdec tX5_init_ok 12 (q := (26, .aload_n 0, 27, 0)) rfl) (tdec tX5_init_ok 13 (q := (27, .new 23, 30, 0)) rfl) (tdec tX5_init_ok 14 (q := (30, .dup, 31, 0)) rfl) (tdec tX5_init_ok 15 (q := (31, .invokespecial 25, 34, 0)) rfl) (tdec tX5_init_ok 16 (q := (34, .putfield 26, 37, 0)) rfl) (fun hR uX2 pX2 => ?_)
  obtain ⟨c0, c1, c2, rfl⟩ := pX2
  refine Wd.sub F hin (k := 3) (idx := 33) (ci2 := 2) (fs2 := [.null, .null, .null]) (idxn := 30) (idxi := 32) (mc := 3) (ms := 768) tyX5 tyX5_ok nmX5 (by decide +kernel) rfl (by decide) (by decide +kernel) rfl rfl (cn := "PairTokens$PairCounter") (by decide +kernel) (Nat.le_of_ble_eq_true rfl) List.mem_cons_self tyX1 tyX1_ok (by decide +kernel) rfl (by decide +kernel) (by decide +kernel) (by decide +kernel) (dfltX1) (fun q => c_X1_init) gX5_init_X1_init rfl rfl rfl rfl (by decide +kernel) (by decide +kernel) rfl (by decide +kernel) (by decide) (Nat.le_of_ble_eq_true rfl) (Nat.le_of_ble_eq_true rfl) (tdec tX5_init_ok 17 (q := (37, .aload_n 0, 38, 0)) rfl) (tdec tX5_init_ok 18 (q := (38, .new 30, 41, 0)) rfl) (tdec tX5_init_ok 19 (q := (41, .dup, 42, 0)) rfl) (tdec tX5_init_ok 20 (q := (42, .invokespecial 32, 45, 0)) rfl) (tdec tX5_init_ok 21 (q := (45, .putfield 33, 48, 0)) rfl) (fun hC uX1 pX1 => ?_)
  obtain ⟨e0, e1, e2, rfl⟩ := pX1
  refine Wd.sub F hin (k := 4) (idx := 40) (ci2 := 1) (fs2 := [.null, .null, .null, .null]) (idxn := 37) (idxi := 39) (mc := 4) (ms := 484) tyX5 tyX5_ok nmX5 (by decide +kernel) rfl (by decide) (by decide +kernel) rfl rfl (cn := "PairTokens$Choices") (by decide +kernel) (Nat.le_of_ble_eq_true rfl) List.mem_cons_self tyX0 tyX0_ok (by decide +kernel) rfl (by decide +kernel) (by decide +kernel) (by decide +kernel) (dfltX0) (fun q => c_X0_init) gX5_init_X0_init rfl rfl rfl rfl (by decide +kernel) (by decide +kernel) rfl (by decide +kernel) (by decide) (Nat.le_of_ble_eq_true rfl) (Nat.le_of_ble_eq_true rfl) (tdec tX5_init_ok 22 (q := (48, .aload_n 0, 49, 0)) rfl) (tdec tX5_init_ok 23 (q := (49, .new 37, 52, 0)) rfl) (tdec tX5_init_ok 24 (q := (52, .dup, 53, 0)) rfl) (tdec tX5_init_ok 25 (q := (53, .invokespecial 39, 56, 0)) rfl) (tdec tX5_init_ok 26 (q := (56, .putfield 40, 59, 0)) rfl) (fun hX uX0 pX0 => ?_)
  obtain ⟨f0, f1, f2, f3, rfl⟩ := pX0
  intro H locs ls hP hD hS hl
  have hP9 := hP.sub (ws' := wL cA (fun i => ([h0, hT, hV, hR, hC, hX, a0, b0, b1, b2, b3, b4, b5, b6, c0, c1, c2, e0, e1, e2, f0, f1, f2, f3] : List Nat).getD i 0) (fun j => ([(fun _ => 0), (fun _ => 0), τ 0, (fun _ => 0), (fun _ => 0), (fun _ => 0), (fun _ => 0), τ 1, τ 2, τ 3, τ 4, τ 5, τ 6, τ 7, (fun _ => 0), (fun _ => 0), (fun _ => 0), (fun _ => 0), (fun _ => 0), (fun _ => 0), (fun _ => 0), (fun _ => 0), (fun _ => 0), (fun _ => 0)] : List (Nat → Int)).getD j (fun _ => 0)) 0 LC) [0, 1, 3, 11, 15, 19, 2, 4, 5, 6, 7, 8, 9, 10, 12, 13, 14, 16, 17, 18, 20, 21, 22, 23] rfl
  have hD9 := hD.sub (ws' := wL cA (fun i => ([h0, hT, hV, hR, hC, hX, a0, b0, b1, b2, b3, b4, b5, b6, c0, c1, c2, e0, e1, e2, f0, f1, f2, f3] : List Nat).getD i 0) (fun j => ([(fun _ => 0), (fun _ => 0), τ 0, (fun _ => 0), (fun _ => 0), (fun _ => 0), (fun _ => 0), τ 1, τ 2, τ 3, τ 4, τ 5, τ 6, τ 7, (fun _ => 0), (fun _ => 0), (fun _ => 0), (fun _ => 0), (fun _ => 0), (fun _ => 0), (fun _ => 0), (fun _ => 0), (fun _ => 0), (fun _ => 0)] : List (Nat → Int)).getD j (fun _ => 0)) 0 LC) [0, 1, 3, 11, 15, 19, 2, 4, 5, 6, 7, 8, 9, 10, 12, 13, 14, 16, 17, 18, 20, 21, 22, 23] (by decide) rfl
  refine ret (tdec tX5_init_ok 27 (q := (59, .return_, 60, 0)) rfl) ⟨fun i => ([h0, hT, hV, hR, hC, hX, a0, b0, b1, b2, b3, b4, b5, b6, c0, c1, c2, e0, e1, e2, f0, f1, f2, f3] : List Nat).getD i 0, fun j => ([(fun _ => 0), (fun _ => 0), τ 0, (fun _ => 0), (fun _ => 0), (fun _ => 0), (fun _ => 0), τ 1, τ 2, τ 3, τ 4, τ 5, τ 6, τ 7, (fun _ => 0), (fun _ => 0), (fun _ => 0), (fun _ => 0), (fun _ => 0), (fun _ => 0), (fun _ => 0), (fun _ => 0), (fun _ => 0), (fun _ => 0)] : List (Nat → Int)).getD j (fun _ => 0), rfl, rfl, ?_, rfl, ?_, ?_⟩ H locs ls hP9 hD9 hS hl
  · intro j i
    rcases (show j = 2 ∨ j = 7 ∨ j = 8 ∨ j = 9 ∨ j = 10 ∨ j = 11 ∨ j = 12 ∨ j = 13 ∨ j < 2 ∨ (2 < j ∧ j < 7) ∨ (13 < j ∧ j < 24) ∨ 24 ≤ j by omega) with rfl | rfl | rfl | rfl | rfl | rfl | rfl | rfl | h | h | h | h
    · exact g1 0 i
    · exact g1 1 i
    · exact g1 2 i
    · exact g1 3 i
    · exact g1 4 i
    · exact g1 5 i
    · exact g1 6 i
    · exact g1 7 i
    · rcases (show j = 0 ∨ j = 1 by omega) with rfl | rfl <;> exact inR_0
    · rcases (show j = 3 ∨ j = 4 ∨ j = 5 ∨ j = 6 by omega) with rfl | rfl | rfl | rfl <;> exact inR_0
    · rcases (show j = 14 ∨ j = 15 ∨ j = 16 ∨ j = 17 ∨ j = 18 ∨ j = 19 ∨ j = 20 ∨ j = 21 ∨ j = 22 ∨ j = 23 by omega) with rfl | rfl | rfl | rfl | rfl | rfl | rfl | rfl | rfl | rfl <;> exact inR_0
    · show inR ((([(fun _ => 0), (fun _ => 0), τ 0, (fun _ => 0), (fun _ => 0), (fun _ => 0), (fun _ => 0), τ 1, τ 2, τ 3, τ 4, τ 5, τ 6, τ 7, (fun _ => 0), (fun _ => 0), (fun _ => 0), (fun _ => 0), (fun _ => 0), (fun _ => 0), (fun _ => 0), (fun _ => 0), (fun _ => 0), (fun _ => 0)] : List (Nat → Int)).getD j (fun _ => 0)) i)
      rw [List.getD_eq_getElem?_getD, List.getElem?_eq_none (by simpa using h)]
      exact inR_0
  · show τ 0 5 = 0
    rw [g2 0 (by decide)]
  · exact g3
