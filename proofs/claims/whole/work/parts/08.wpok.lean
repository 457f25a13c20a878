section Mach2
variable {p : Program} {l : Launch} {e : Env} {R : Room} {s : State} {m : MethodId} {args : Array Value} {below : List Frame} {meth : Method} {c : Code} {cells slots : Nat} {Q : State → Prop} {D : va_G} {cA : Nat → ClassId} {ad : Nat → Nat} {L : Lay} {nL : Nat} {A : Nat → Prop} {cc : ByteArray} {own : String} {Ts : List Cond} {tab : TB} {fl pl : FL} {kl : List (Nat × Int)} {pc nxt tgt : Nat} {lv : List (Nat × aV)} {st : List aV} {σ : St}
theorem Va.icmp_eq (F : Fx p s m args c cc nL own Ts D cA A) {x y off : Int} (hd : decode cc pc = .ok (.if_icmp .eq off, 3)) (ht : (pc : Int) + off = (tgt : Int)) (hx : inR x) (hy : inR y) (kt : x = y → Va p l e R s m args below meth c cells slots Q D cA ad L nL A (tgt, lv, st, σ)) (kf : ¬ x = y → Va p l e R s m args below meth c cells slots Q D cA ad L nL A (pc + 3, lv, st, σ)) : Va p l e R s m args below meth c cells slots Q D cA ad L nL A (pc, lv, .inr y :: .inr x :: st, σ) :=
  fun H locs ls hP hD hS hl => lv_icmp_eq F.1.1 F.1.2.1 hd ht (fun h => kt ((zI_eq hx hy).mp h) H locs ls hP hD hS hl) (fun h => kf (fun h9 => h ((zI_eq hx hy).mpr h9)) H locs ls hP hD hS hl)
theorem Va.if_eq (F : Fx p s m args c cc nL own Ts D cA A) {x off : Int} (hd : decode cc pc = .ok (.ifCond .eq off, 3)) (ht : (pc : Int) + off = (tgt : Int)) (hx : inR x) (kt : x = 0 → Va p l e R s m args below meth c cells slots Q D cA ad L nL A (tgt, lv, st, σ)) (kf : ¬ x = 0 → Va p l e R s m args below meth c cells slots Q D cA ad L nL A (pc + 3, lv, st, σ)) : Va p l e R s m args below meth c cells slots Q D cA ad L nL A (pc, lv, .inr x :: st, σ) :=
  fun H locs ls hP hD hS hl => lv_if_eq F.1.1 F.1.2.1 hd ht (fun h => kt ((zI_eq hx inR_0).mp h) H locs ls hP hD hS hl) (fun h => kf (fun h9 => h ((zI_eq hx inR_0).mpr h9)) H locs ls hP hD hS hl)
theorem Va.icmp_ne (F : Fx p s m args c cc nL own Ts D cA A) {x y off : Int} (hd : decode cc pc = .ok (.if_icmp .ne off, 3)) (ht : (pc : Int) + off = (tgt : Int)) (hx : inR x) (hy : inR y) (kt : ¬ x = y → Va p l e R s m args below meth c cells slots Q D cA ad L nL A (tgt, lv, st, σ)) (kf : x = y → Va p l e R s m args below meth c cells slots Q D cA ad L nL A (pc + 3, lv, st, σ)) : Va p l e R s m args below meth c cells slots Q D cA ad L nL A (pc, lv, .inr y :: .inr x :: st, σ) :=
  fun H locs ls hP hD hS hl => lv_icmp_ne F.1.1 F.1.2.1 hd ht (fun h => kt (fun h9 => h ((zI_eq hx hy).mpr h9)) H locs ls hP hD hS hl) (fun h => kf ((zI_eq hx hy).mp h) H locs ls hP hD hS hl)
theorem Va.if_ne (F : Fx p s m args c cc nL own Ts D cA A) {x off : Int} (hd : decode cc pc = .ok (.ifCond .ne off, 3)) (ht : (pc : Int) + off = (tgt : Int)) (hx : inR x) (kt : ¬ x = 0 → Va p l e R s m args below meth c cells slots Q D cA ad L nL A (tgt, lv, st, σ)) (kf : x = 0 → Va p l e R s m args below meth c cells slots Q D cA ad L nL A (pc + 3, lv, st, σ)) : Va p l e R s m args below meth c cells slots Q D cA ad L nL A (pc, lv, .inr x :: st, σ) :=
  fun H locs ls hP hD hS hl => lv_if_ne F.1.1 F.1.2.1 hd ht (fun h => kt (fun h9 => h ((zI_eq hx inR_0).mpr h9)) H locs ls hP hD hS hl) (fun h => kf ((zI_eq hx inR_0).mp h) H locs ls hP hD hS hl)
theorem Va.icmp_lt (F : Fx p s m args c cc nL own Ts D cA A) {x y off : Int} (hd : decode cc pc = .ok (.if_icmp .lt off, 3)) (ht : (pc : Int) + off = (tgt : Int)) (hx : inR x) (hy : inR y) (kt : x < y → Va p l e R s m args below meth c cells slots Q D cA ad L nL A (tgt, lv, st, σ)) (kf : ¬ x < y → Va p l e R s m args below meth c cells slots Q D cA ad L nL A (pc + 3, lv, st, σ)) : Va p l e R s m args below meth c cells slots Q D cA ad L nL A (pc, lv, .inr y :: .inr x :: st, σ) :=
  fun H locs ls hP hD hS hl => lv_icmp_lt F.1.1 F.1.2.1 hd ht (fun h => kt ((zI_lt hx hy).mp h) H locs ls hP hD hS hl) (fun h => kf (fun h9 => h ((zI_lt hx hy).mpr h9)) H locs ls hP hD hS hl)
theorem Va.if_lt (F : Fx p s m args c cc nL own Ts D cA A) {x off : Int} (hd : decode cc pc = .ok (.ifCond .lt off, 3)) (ht : (pc : Int) + off = (tgt : Int)) (hx : inR x) (kt : x < 0 → Va p l e R s m args below meth c cells slots Q D cA ad L nL A (tgt, lv, st, σ)) (kf : ¬ x < 0 → Va p l e R s m args below meth c cells slots Q D cA ad L nL A (pc + 3, lv, st, σ)) : Va p l e R s m args below meth c cells slots Q D cA ad L nL A (pc, lv, .inr x :: st, σ) :=
  fun H locs ls hP hD hS hl => lv_if_lt F.1.1 F.1.2.1 hd ht (fun h => kt ((zI_lt hx inR_0).mp h) H locs ls hP hD hS hl) (fun h => kf (fun h9 => h ((zI_lt hx inR_0).mpr h9)) H locs ls hP hD hS hl)
theorem Va.icmp_ge (F : Fx p s m args c cc nL own Ts D cA A) {x y off : Int} (hd : decode cc pc = .ok (.if_icmp .ge off, 3)) (ht : (pc : Int) + off = (tgt : Int)) (hx : inR x) (hy : inR y) (kt : y ≤ x → Va p l e R s m args below meth c cells slots Q D cA ad L nL A (tgt, lv, st, σ)) (kf : ¬ y ≤ x → Va p l e R s m args below meth c cells slots Q D cA ad L nL A (pc + 3, lv, st, σ)) : Va p l e R s m args below meth c cells slots Q D cA ad L nL A (pc, lv, .inr y :: .inr x :: st, σ) :=
  fun H locs ls hP hD hS hl => lv_icmp_ge F.1.1 F.1.2.1 hd ht (fun h => kt ((zI_le hy hx).mp h) H locs ls hP hD hS hl) (fun h => kf (fun h9 => h ((zI_le hy hx).mpr h9)) H locs ls hP hD hS hl)
theorem Va.if_ge (F : Fx p s m args c cc nL own Ts D cA A) {x off : Int} (hd : decode cc pc = .ok (.ifCond .ge off, 3)) (ht : (pc : Int) + off = (tgt : Int)) (hx : inR x) (kt : 0 ≤ x → Va p l e R s m args below meth c cells slots Q D cA ad L nL A (tgt, lv, st, σ)) (kf : ¬ 0 ≤ x → Va p l e R s m args below meth c cells slots Q D cA ad L nL A (pc + 3, lv, st, σ)) : Va p l e R s m args below meth c cells slots Q D cA ad L nL A (pc, lv, .inr x :: st, σ) :=
  fun H locs ls hP hD hS hl => lv_if_ge F.1.1 F.1.2.1 hd ht (fun h => kt ((zI_le inR_0 hx).mp h) H locs ls hP hD hS hl) (fun h => kf (fun h9 => h ((zI_le inR_0 hx).mpr h9)) H locs ls hP hD hS hl)
theorem Va.icmp_gt (F : Fx p s m args c cc nL own Ts D cA A) {x y off : Int} (hd : decode cc pc = .ok (.if_icmp .gt off, 3)) (ht : (pc : Int) + off = (tgt : Int)) (hx : inR x) (hy : inR y) (kt : y < x → Va p l e R s m args below meth c cells slots Q D cA ad L nL A (tgt, lv, st, σ)) (kf : ¬ y < x → Va p l e R s m args below meth c cells slots Q D cA ad L nL A (pc + 3, lv, st, σ)) : Va p l e R s m args below meth c cells slots Q D cA ad L nL A (pc, lv, .inr y :: .inr x :: st, σ) :=
  fun H locs ls hP hD hS hl => lv_icmp_gt F.1.1 F.1.2.1 hd ht (fun h => kt ((zI_lt hy hx).mp h) H locs ls hP hD hS hl) (fun h => kf (fun h9 => h ((zI_lt hy hx).mpr h9)) H locs ls hP hD hS hl)
theorem Va.if_gt (F : Fx p s m args c cc nL own Ts D cA A) {x off : Int} (hd : decode cc pc = .ok (.ifCond .gt off, 3)) (ht : (pc : Int) + off = (tgt : Int)) (hx : inR x) (kt : 0 < x → Va p l e R s m args below meth c cells slots Q D cA ad L nL A (tgt, lv, st, σ)) (kf : ¬ 0 < x → Va p l e R s m args below meth c cells slots Q D cA ad L nL A (pc + 3, lv, st, σ)) : Va p l e R s m args below meth c cells slots Q D cA ad L nL A (pc, lv, .inr x :: st, σ) :=
  fun H locs ls hP hD hS hl => lv_if_gt F.1.1 F.1.2.1 hd ht (fun h => kt ((zI_lt inR_0 hx).mp h) H locs ls hP hD hS hl) (fun h => kf (fun h9 => h ((zI_lt inR_0 hx).mpr h9)) H locs ls hP hD hS hl)
theorem Va.icmp_le (F : Fx p s m args c cc nL own Ts D cA A) {x y off : Int} (hd : decode cc pc = .ok (.if_icmp .le off, 3)) (ht : (pc : Int) + off = (tgt : Int)) (hx : inR x) (hy : inR y) (kt : x ≤ y → Va p l e R s m args below meth c cells slots Q D cA ad L nL A (tgt, lv, st, σ)) (kf : ¬ x ≤ y → Va p l e R s m args below meth c cells slots Q D cA ad L nL A (pc + 3, lv, st, σ)) : Va p l e R s m args below meth c cells slots Q D cA ad L nL A (pc, lv, .inr y :: .inr x :: st, σ) :=
  fun H locs ls hP hD hS hl => lv_icmp_le F.1.1 F.1.2.1 hd ht (fun h => kt ((zI_le hx hy).mp h) H locs ls hP hD hS hl) (fun h => kf (fun h9 => h ((zI_le hx hy).mpr h9)) H locs ls hP hD hS hl)
theorem Va.if_le (F : Fx p s m args c cc nL own Ts D cA A) {x off : Int} (hd : decode cc pc = .ok (.ifCond .le off, 3)) (ht : (pc : Int) + off = (tgt : Int)) (hx : inR x) (kt : x ≤ 0 → Va p l e R s m args below meth c cells slots Q D cA ad L nL A (tgt, lv, st, σ)) (kf : ¬ x ≤ 0 → Va p l e R s m args below meth c cells slots Q D cA ad L nL A (pc + 3, lv, st, σ)) : Va p l e R s m args below meth c cells slots Q D cA ad L nL A (pc, lv, .inr x :: st, σ) :=
  fun H locs ls hP hD hS hl => lv_if_le F.1.1 F.1.2.1 hd ht (fun h => kt ((zI_le hx inR_0).mp h) H locs ls hP hD hS hl) (fun h => kf (fun h9 => h ((zI_le hx inR_0).mpr h9)) H locs ls hP hD hS hl)
theorem tchk_n {pc : Nat} {i : Instr} {nxt tgt : Nat} (h : tchk (pc, i, nxt, tgt) = true) : pc + ilen i = nxt := by
  unfold tchk at h
  rw [Bool.and_eq_true] at h
  exact of_decide_eq_true h.1
theorem tchk_g {pc : Nat} {off : Int} {nxt tgt : Nat} (h : tchk (pc, .goto off, nxt, tgt) = true) : (pc : Int) + off = (tgt : Int) := by
  unfold tchk at h
  rw [Bool.and_eq_true] at h
  exact of_decide_eq_true h.2
theorem tchk_i {pc : Nat} {cn : Jvm.ClassFile.Cond} {off : Int} {nxt tgt : Nat} (h : tchk (pc, .if_icmp cn off, nxt, tgt) = true) : (pc : Int) + off = (tgt : Int) := by
  unfold tchk at h
  rw [Bool.and_eq_true] at h
  exact of_decide_eq_true h.2
theorem tchk_c {pc : Nat} {cn : Jvm.ClassFile.Cond} {off : Int} {nxt tgt : Nat} (h : tchk (pc, .ifCond cn off, nxt, tgt) = true) : (pc : Int) + off = (tgt : Int) := by
  unfold tchk at h
  rw [Bool.and_eq_true] at h
  exact of_decide_eq_true h.2
theorem tchk_b {pc : Nat} {n : Int} {nxt tgt : Nat} (h : tchk (pc, .bipush n, nxt, tgt) = true) : -128 ≤ n ∧ n ≤ 127 := by
  unfold tchk at h
  rw [Bool.and_eq_true, Bool.and_eq_true] at h
  exact ⟨of_decide_eq_true h.2.1, of_decide_eq_true h.2.2⟩
theorem tchk_s {pc : Nat} {n : Int} {nxt tgt : Nat} (h : tchk (pc, .sipush n, nxt, tgt) = true) : -32768 ≤ n ∧ n ≤ 32767 := by
  unfold tchk at h
  rw [Bool.and_eq_true, Bool.and_eq_true] at h
  exact ⟨of_decide_eq_true h.2.1, of_decide_eq_true h.2.2⟩
theorem sx_ok (F : Fx p s m args c cc nL own Ts D cA A) (hL : layOk L) (ht : tabOk cc tab) (hfl : flOk own Ts fl) (hpl : plOk own Ts pl) (hkl : klOk own Ts kl) {i : Instr} (hg : nget pc tab = some (i, nxt, tgt)) {k : aS → Prop} (h : sx fl pl kl L nL nxt tgt i lv st σ k) (hk : ∀ b, k b → Va p l e R s m args below meth c cells slots Q D cA ad L nL A b) : Va p l e R s m args below meth c cells slots Q D cA ad L nL A (pc, lv, st, σ) := by
  obtain ⟨hd, hc⟩ := ht _ (nget_mem hg)
  have hn := tchk_n hc
  subst hn
  unfold sx at h
  split at h
  · exact Va.iconst F hd (hk _ h)
  · exact Va.bipush F hd (tchk_b hc).1 (tchk_b hc).2 (hk _ h)
  · exact Va.sipush F hd (tchk_s hc).1 (tchk_s hc).2 (hk _ h)
  · split at h
    · rename_i hx
      exact Va.ldc F hd (hkl _ (nget_mem hx)) (hk _ h)
    · exact h.elim
  · split at h
    · rename_i hx
      exact Va.iload_n F hd hx (hk _ h)
    · exact h.elim
  · split at h
    · rename_i hx
      exact Va.iload F hd hx (hk _ h)
    · exact h.elim
  · split at h
    · rename_i hx
      exact Va.aload_n F hd hx (hk _ h)
    · exact h.elim
  · split at h
    · rename_i hx
      exact Va.aload F hd hx (hk _ h)
    · exact h.elim
  · split at h
    · rename_i hx
      exact Va.istore_n F hd (Nat.blt_eq.mp hx) (hk _ h)
    · exact h.elim
  · split at h
    · rename_i hx
      exact Va.istore F hd (Nat.blt_eq.mp hx) (hk _ h)
    · exact h.elim
  · split at h
    · rename_i hx hy
      exact Va.iinc F hd (Nat.blt_eq.mp hx) hy (hk _ h)
    · exact h.elim
  · split at h
    · exact Va.iadd F hd (hk _ h)
    · exact h.elim
  · split at h
    · exact Va.isub F hd (hk _ h)
    · exact h.elim
  · split at h
    · exact Va.imul F hd (hk _ h)
    · exact h.elim
  · split at h
    · exact Va.iand F hd h.1.1 h.1.2.1 h.1.2.2 (hk _ h.2)
    · exact h.elim
  · split at h
    · exact Va.idiv F hd h.1.1 h.1.2.1 h.1.2.2.1 h.1.2.2.2 (hk _ h.2)
    · exact h.elim
  · split at h
    · exact Va.irem F hd h.1.1 h.1.2.1 h.1.2.2.1 h.1.2.2.2 (hk _ h.2)
    · exact h.elim
  · split at h
    · exact Va.dup F hd (hk _ h)
    · exact h.elim
  · split at h
    · exact Va.dup2 F hd (hk _ h)
    · exact h.elim
  · split at h
    · exact Va.pop F hd (hk _ h)
    · exact h.elim
  · exact Va.goto F hd (tchk_g hc) (hk _ h)
  · split at h
    · split at h
      · rename_i hx
        exact Va.alen F (hL _ _ hx).2 hd hx (hk _ h)
      · exact h.elim
    · exact h.elim
  · split at h
    · split at h
      · rename_i hx
        exact Va.iaload F hd hx (hL _ _ hx).1 h.1.1 h.1.2 (hk _ h.2)
      · exact h.elim
    · exact h.elim
  · split at h
    · split at h
      · rename_i hx
        exact Va.baload F hd hx (hL _ _ hx).1 h.1.1 h.1.2 (hk _ h.2)
      · exact h.elim
    · exact h.elim
  · split at h
    · split at h
      · rename_i hx
        exact Va.iastore F hd hx (hL _ _ hx).1 h.1.1 h.1.2 (hk _ h.2)
      · exact h.elim
    · exact h.elim
  · split at h
    · split at h
      · rename_i hx
        exact Va.bastore F hd hx (hL _ _ hx).1 h.1.1 h.1.2.1 h.1.2.2 (hk _ h.2)
      · exact h.elim
    · exact h.elim
  · split at h
    · split at h
      · rename_i ci f co sl hx hj
        split at h
        · rename_i h1 h2
          have e : ci = co := Nat.eq_of_beq_eq_true h1
          subst e
          exact Va.getR F hfl hd (nget_mem hx) hj h2 (hk _ h)
        · rename_i h1 h2
          have e : ci = co := Nat.eq_of_beq_eq_true h1
          subst e
          exact Va.getI F hfl hd (nget_mem hx) hj h2 (hk _ h)
        · exact h.elim
      · exact h.elim
    · exact h.elim
  · split at h
    · split at h
      · rename_i ci f co sl hx hj
        split at h
        · rename_i h1 h2
          have e : ci = co := Nat.eq_of_beq_eq_true h1
          subst e
          exact Va.putI F hpl hd (nget_mem hx) hj h2 (hk _ h)
        · exact h.elim
      · exact h.elim
    · exact h.elim
  · split at h
    · obtain ⟨hx, h⟩ := h
      split at h
      · exact Va.if_eq F hd (tchk_c hc) hx (fun q => hk _ (h.1 q)) (fun q => hk _ (h.2 q))
      · exact Va.if_ne F hd (tchk_c hc) hx (fun q => hk _ (h.1 q)) (fun q => hk _ (h.2 q))
      · exact Va.if_lt F hd (tchk_c hc) hx (fun q => hk _ (h.1 q)) (fun q => hk _ (h.2 q))
      · exact Va.if_ge F hd (tchk_c hc) hx (fun q => hk _ (h.1 q)) (fun q => hk _ (h.2 q))
      · exact Va.if_gt F hd (tchk_c hc) hx (fun q => hk _ (h.1 q)) (fun q => hk _ (h.2 q))
      · exact Va.if_le F hd (tchk_c hc) hx (fun q => hk _ (h.1 q)) (fun q => hk _ (h.2 q))
    · exact h.elim
  · split at h
    · obtain ⟨⟨hx, hy⟩, h⟩ := h
      split at h
      · exact Va.icmp_eq F hd (tchk_i hc) hx hy (fun q => hk _ (h.1 q)) (fun q => hk _ (h.2 q))
      · exact Va.icmp_ne F hd (tchk_i hc) hx hy (fun q => hk _ (h.1 q)) (fun q => hk _ (h.2 q))
      · exact Va.icmp_lt F hd (tchk_i hc) hx hy (fun q => hk _ (h.1 q)) (fun q => hk _ (h.2 q))
      · exact Va.icmp_ge F hd (tchk_i hc) hx hy (fun q => hk _ (h.1 q)) (fun q => hk _ (h.2 q))
      · exact Va.icmp_gt F hd (tchk_i hc) hx hy (fun q => hk _ (h.1 q)) (fun q => hk _ (h.2 q))
      · exact Va.icmp_le F hd (tchk_i hc) hx hy (fun q => hk _ (h.1 q)) (fun q => hk _ (h.2 q))
    · exact h.elim
  · exact h.elim
theorem wp_ok (F : Fx p s m args c cc nL own Ts D cA A) (hL : layOk L) (ht : tabOk cc tab) (hfl : flOk own Ts fl) (hpl : plOk own Ts pl) (hkl : klOk own Ts kl) (stops : List Nat) : ∀ (n : Nat) (a : aS), wp tab fl pl kl L nL stops n a (Va p l e R s m args below meth c cells slots Q D cA ad L nL A) → Va p l e R s m args below meth c cells slots Q D cA ad L nL A a
  | 0, a, h => h
  | n + 1, (pc, lv, st, σ), h => by
    unfold wp at h
    split at h
    · rename_i i nxt tgt hg
      refine sx_ok F hL ht hfl hpl hkl hg h (fun b hb => ?_)
      split at hb
      · exact hb
      · exact wp_ok F hL ht hfl hpl hkl stops n b hb
    · exact h.elim
end Mach2
