/-! a walk taken from its own heap on, and the throw itself -/
theorem d5_29 : decode cX5_decode 29 = .ok (.new 93, 3) := by decide +kernel
theorem d5_32 : decode cX5_decode 32 = .ok (.dup, 1) := by decide +kernel
theorem d5_33 : decode cX5_decode 33 = .ok (.ldc 95, 2) := by decide +kernel
theorem d5_35 : decode cX5_decode 35 = .ok (.invokespecial 97, 3) := by decide +kernel
theorem d5_38 : decode cX5_decode 38 = .ok (.athrow, 1) := by decide +kernel
section Thr
variable {p : Program} {l : Launch} {e : Env} {R : Room} {s : State} {m : MethodId} {args : Array Value} {below : List Frame} {meth : Method} {c : Code} {T : State} {locs : List Loc} {cells slots : Nat}
theorem st_base (X : Stand p l e R s m args below meth c T locs cells slots) (hc : cells ≤ R.cells) (hs : slots ≤ R.slots) : Stand p l e { R with cells := R.cells - cells, slots := R.slots - slots } ({ s with heap := T.heap, slotsUsed := T.slotsUsed } : State) m args below meth c T [] 0 0 := by
  refine ⟨X.admits, X.cas, X.clock, X.frames, ?_, X.hears, X.method, X.code, X.here, X.tail, X.warmed, X.limits, X.bytes, ?_⟩
  · have h := X.room
    have h1 := X.book
    have h2 := X.heapSize
    have h3 := X.used
    simp only [State.hasRoom, Bool.and_eq_true, decide_eq_true_eq] at h ⊢
    obtain ⟨⟨⟨⟨a1, a2⟩, a3⟩, a4⟩, a5⟩ := h
    refine ⟨⟨⟨⟨a1, a2⟩, ?_⟩, ?_⟩, h1⟩
    · show T.heap.size + (R.cells - cells) ≤ _
      omega
    · show T.slotsUsed + (R.slots - slots) ≤ _
      omega
  · refine ⟨X.same.1, Nat.le_refl _, Nat.le_refl _, ?_, ?_, fun a c h => ⟨c, h, rfl, rfl, fun _ _ => rfl⟩⟩
    · show T.slotsUsed = T.slotsUsed + ((T.heap.toList.drop T.heap.size).map (·.slots.size)).sum
      rw [List.drop_of_length_le (by simp)]
      simp
    · show ((T.heap.toList.drop T.heap.size).map (·.slots.size)).sum ≤ 0
      rw [List.drop_of_length_le (by simp)]
      simp
/-- what a thrown end says, from the base s -/
def ThE (below : List Frame) (s : State) (U : State) : Prop := ∃ (a : Nat) (ce : Cell), U.status = .running ∧ Ended U below (.threw a) ∧ s.WarmedH U.vm ∧ s.sameButNew ({ U with vm := s.vm } : State) [] 1 6 ∧ U.heap[a]? = some ce ∧ s.vm.findClass RJx00060 = some ce.cls ∧ ce.vm = .none
theorem thr_W {ls : Array Slot} (hx : p.tables.exec = Jvm.exec) (hb : c.code = cX5_decode) (htr : e.platform.stackTraces = false) (hown : s.vm.findClass RX5 = some m.cls) (hex : exE s) (hcl : (Cond.classLink RX5 93 RJx00060).before args s = true) (hins : (Cond.instantiable RJx00060 6).before args s = true) (hini : (Cond.initialized RJx00060).before args s = true) (hcells : 0 + 1 ≤ R.cells) (hslots : 0 + 6 ≤ R.slots) (hf : 6 < R.frames) (hlo : 95 ≤ R.locals) (hls : ls.size = c.maxLocals) (hout : c.exceptionTable.isEmpty = true) (hlk : meth.locks = false) : W p l e R s m args below meth c s.heap [] 0 0 (ThE below s) (F0 m 29 ls []) := by
  obtain ⟨cX, kX, h1, h2, h3, h4, h5, h6⟩ := Cond.instantiable_spec hins
  obtain ⟨q, hq⟩ := hex.2
  refine W.newcK hx hb hown hcl hins hini rfl d5_29 hcells hslots h1 rfl (fun H' kC hk hbl hsz hkeep => ?_)
  cases Option.some.inj (h2.symm.trans hk)
  refine lv_dup hx hb d5_32 rfl ?_
  refine va_ldcS hx hb hown hq d5_33 ?_
  intro T hT X
  obtain ⟨U, u1, u2, u3, u4, u5, ce, u6, u7⟩ := X.ctorThrowS hx htr (own := RX5) (cls := RJx00060) (names := exN) (ic := 97) hown (by decide) (by decide) (hex.at (State.WarmedH.refl s) (fun _ _ h _ => h) args) (fun x hx => by cases hx) (a := s.heap.size) h1 h2 (by rw [hT]; exact hbl) (Nat.le_refl _) (msg := .ref q) rfl (g := F0 m 35 ls [.ref q, .ref s.heap.size, .ref s.heap.size]) rfl hls rfl rfl (rest := []) rfl (by rw [hb]; exact d5_35) (by rw [hb]; exact d5_38) (fun x hx => by
      rw [Array.isEmpty_iff.mp hout] at hx
      cases hx) hf (by show 2 * 0 + (1 + 0) + (13 * (3 + 1) + 42) ≤ R.locals; omega) hlk
  exact ⟨U, u1, s.heap.size, ce, u2, u3, u4, u5, u6, u7.cls, u7.vm⟩
end Thr
