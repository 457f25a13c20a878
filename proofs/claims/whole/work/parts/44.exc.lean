/-! the throw of PairTokens.decode: what it asks of a state, and that it is kept -/
def exN : List String := ["java/lang/IndexOutOfBoundsException", "java/lang/RuntimeException", "java/lang/Exception"]
def exO : List Cond := Jvm.Bundle.ownAtoms RX5 97 RJx00060 exN
def exB (w : Cond) : Bool := match w with
  | .isRef (.static O n d) => exO.contains (.laysStatic O n d)
  | .laysStatic _ _ _ => true
  | w => w.onTables && w.keepsFace
theorem exB_ok : ∀ w ∈ exO, exB w = true := by decide +kernel
def exE (U : State) : Prop := (∀ w ∈ exO, w.before #[] U = true) ∧ ∃ q : Nat, vk_R RX5 95 "the token has no such byte" q U
theorem word_face {A A' : Array Value} {s U : State} (hW : s.WarmedH U.vm) {w : Cond} (h1 : w.onTables = true) (h2 : w.keepsFace = true) (h : w.before A s = true) : w.before A' U = true := by
  have h3 := Cond.before_shiftedFace (State.Shifted.of_warmed hW) w h2 h
  have e := Cond.onTables_vm (A := A) (A' := A') (U := s) (U' := U) U.vm w h1
  have hU : U.setVm U.vm = U := rfl
  rw [hU] at e
  rw [← e]
  exact h3
def Kst (s U : State) : Prop := ∀ (a : Nat) (cell : Cell), s.heap[a]? = some cell → cell.vm.isStatics = true → U.heap[a]? = some cell
theorem lays_kept {A A' : Array Value} {s U : State} {O n d : String} (hW : s.vm.Alike U.vm) (hh : Kst s U) (h : (Cond.laysStatic O n d).before A s = true) : (Cond.laysStatic O n d).before A' U = true := by
  obtain ⟨c, k, i, f, a, cell, hc, hi, hst, ha, hcell, hs, hcls, hlt, hty⟩ := Cond.laysStatic_spec h
  obtain ⟨k', hi', he⟩ := State.fieldFound?_setVm hW hi
  exact Cond.laysStatic_of (s := U) (by rw [hW.findClass]; exact hc) hi' hst (by rw [he]; exact ha) (hh a cell hcell hs) hs hcls hlt (by rw [he]; exact hty)
theorem isref_kept {A A' : Array Value} {s U : State} {O n d : String} (hW : s.vm.Alike U.vm) (hh : Kst s U) (h0 : (Cond.laysStatic O n d).before A s = true) (h : (Cond.isRef (.static O n d)).before A s = true) : (Cond.isRef (.static O n d)).before A' U = true := by
  obtain ⟨c, k, i, f, a, cell, hc, hi, hst, ha, hcell, hs, hcls, hlt, hty⟩ := Cond.laysStatic_spec h0
  obtain ⟨k', hi', he⟩ := State.fieldFound?_setVm hW hi
  have hi2 : U.fieldFound? O n d = some (c, k', i, f) := hi'
  have hv : cell.slots[f.slot]? = some cell.slots[f.slot] := Array.getElem?_eq_getElem hlt
  have e1 : (Term.static O n d).eval A s none [] s = some cell.slots[f.slot] := by
    simp [Term.eval, State.fieldNamed?, hi, hst, ha, hcell, hs, hv]
  have e2 : (Term.static O n d).eval A' U none [] U = some cell.slots[f.slot] := by
    have hk2 : k'.statics = some a := by rw [he]; exact ha
    simp [Term.eval, State.fieldNamed?, hi2, hst, hk2, hh a cell hcell hs, hs, hv]
  simp only [Cond.before, Cond.holds, Cond.value, e1] at h
  simp only [Cond.before, Cond.holds, Cond.value, e2]
  exact h
theorem exE.at {s U : State} (h : exE s) (hW : s.WarmedH U.vm) (hh : Kst s U) (A : Array Value) : ∀ w ∈ exO, w.before A U = true := by
  intro w hw
  have hb := exB_ok w hw
  have hs := h.1 w hw
  cases w with
  | isRef t =>
    cases t with
    | static O n d =>
      have hb2 : exO.contains (.laysStatic O n d) = true := by simpa only [exB] using hb
      exact isref_kept hW.alike hh (h.1 _ (List.contains_iff_mem.mp hb2)) hs
    | _ => exact absurd hb (by simp [exB, Cond.onTables])
  | laysStatic O n d => exact lays_kept hW.alike hh hs
  | _ => exact word_face hW (by simp only [exB, Bool.and_eq_true] at hb; exact hb.1) (by simp only [exB, Bool.and_eq_true] at hb; exact hb.2) hs
theorem exE.kept {s U : State} (h : exE s) (hW : s.WarmedH U.vm) (hh : Kst s U) : exE U := by
  refine ⟨h.at hW hh #[], ?_⟩
  obtain ⟨q, hq⟩ := h.2
  exact ⟨q, hq.warm hW⟩
theorem exE.calling {U : State} {g : JFrame} {mk : MethodId} {a : Array Value} (h : exE U) : exE (U.calling g mk a) := h.kept (State.WarmedH.refl U) (fun _ _ h _ => h)
