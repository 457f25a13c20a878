/-! what the start gives -/
theorem exO_in : ∀ w ∈ exO, w ∈ lw_tbl ∨ w = .isRef (.static "java/lang/Throwable" "UNASSIGNED_STACK" "[Ljava/lang/StackTraceElement;") ∨ w = .isRef (.static "java/lang/Throwable" "SUPPRESSED_SENTINEL" "Ljava/util/List;") := by decide +kernel
theorem ex_any {A : Array Value} {s : State} (h : ∀ w ∈ exO, w.before A s = true) : ∀ w ∈ exO, w.before #[] s = true := by
  intro w hw
  have hb := exB_ok w hw
  have hs := h w hw
  have hk : Kst s s := fun _ _ h _ => h
  cases w with
  | isRef t =>
    cases t with
    | static O n d =>
      have hb2 : exO.contains (.laysStatic O n d) = true := by simpa only [exB] using hb
      exact isref_kept (Vm.Alike.refl s.vm) hk (h _ (List.contains_iff_mem.mp hb2)) hs
    | _ => exact absurd hb (by simp [exB, Cond.onTables])
  | laysStatic O n d => exact lays_kept (Vm.Alike.refl s.vm) hk hs
  | _ => exact word_face (State.WarmedH.refl s) (by simp only [exB, Bool.and_eq_true] at hb; exact hb.1) (by simp only [exB, Bool.and_eq_true] at hb; exact hb.2) hs
theorem ex_start {s : State} {b : Nat} (hts : ∀ w ∈ lw_tbl, w.before #[Value.ref b] s = true) (hgv : (Jvm.Cond.and given_1 narrow_1).before #[Value.ref b] s = true) : exF s := by
  have hs := flat_of_before _ hgv
  refine ⟨⟨ex_any (A := #[Value.ref b]) (fun w hw => ?_), ?_⟩, word_at (State.WarmedH.refl s) (Or.inl rfl) (hts (Cond.classLink RL 13 RJx00060) (by decide +kernel))⟩
  · rcases exO_in w hw with h | h | h
    · exact hts w h
    · subst h
      exact hs _ (by decide +kernel)
    · subst h
      exact hs _ (by decide +kernel)
  · have h1 : (Cond.exactly (Term.string RX5 95) "java/lang/String").before #[Value.ref b] s = true := hs _ (by decide +kernel)
    obtain ⟨a, c, cA, kA, q1, -⟩ := Cond.exactly_spec (args := #[Value.ref b]) (first := s) (o := none) (s := s) (idx := []) (t := Term.string RX5 95) (cls := "java/lang/String") h1
    exact ⟨a, vk_R.of (A := #[Value.ref b]) (hts (Cond.stringRef RX5 95 "the token has no such byte") (by decide +kernel)) q1⟩
theorem kn_arr {s : State} {A : Array Value} {ty : FieldType} (hty : ∀ C, ty ≠ .object C) (h : (Cond.arrayClass ty).before A s = true) : ∃ cA : ClassId, ArrOfT s cA ty ∧ va_RA s cA ty := by
  obtain ⟨c, k, comp, h1, h2, h3⟩ := Cond.arrayClass_spec h
  refine ⟨c, fun n z => ⟨fun k h => (by cases h), k, h2, comp, h3⟩, ?_⟩
  cases ty with
  | object C => exact absurd rfl (hty C)
  | _ => exact h1
theorem kn_all {s : State} {b : Nat} (hts : ∀ w ∈ lw_tbl, w.before #[Value.ref b] s = true) : ∃ (D : va_G) (cA : Nat → ClassId), va_K D vwCl (gT cA) s := by
  obtain ⟨c0, i0, h0⟩ := u_known hts lwk_Jx00060 (hts (Cond.instantiable RJx00060 6) (by decide +kernel))
  obtain ⟨c1, i1, h1⟩ := u_known hts lwk_X0 (hts (Cond.instantiable RX0 4) (by decide +kernel))
  obtain ⟨c2, i2, h2⟩ := u_known hts lwk_X1 (hts (Cond.instantiable RX1 3) (by decide +kernel))
  obtain ⟨c3, i3, h3⟩ := u_known hts lwk_X2 (hts (Cond.instantiable RX2 4) (by decide +kernel))
  obtain ⟨c4, i4, h4⟩ := u_known hts lwk_X3 (hts (Cond.instantiable RX3 2) (by decide +kernel))
  obtain ⟨c5, i5, h5⟩ := u_known hts lwk_X4 (hts (Cond.instantiable RX4 8) (by decide +kernel))
  obtain ⟨c6, i6, h6⟩ := u_known hts lwk_X5 (hts (Cond.instantiable RX5 5) (by decide +kernel))
  obtain ⟨c7, i7, h7⟩ := u_known hts lwk_X6 (hts (Cond.instantiable RX6 17) (by decide +kernel))
  obtain ⟨a0, g0⟩ := kn_arr (ty := .int) (fun C h => by cases h) (hts (Cond.arrayClass .int) (by decide +kernel))
  obtain ⟨a1, g1⟩ := kn_arr (ty := .boolean) (fun C h => by cases h) (hts (Cond.arrayClass .boolean) (by decide +kernel))
  refine ⟨(fun k => ([c0, c1, c2, c3, c4, c5, c6, c7] : List ClassId).getD k 0, fun k => ([i0, i1, i2, i3, i4, i5, i6, i7] : List (Nat → Nat)).getD k (fun _ => 0)), fun k => if k = 0 then a0 else a1, fun c q hq => ?_, fun k q hq => ?_⟩
  · match c, hq with
    | 0, hq => cases hq; exact h0
    | 1, hq => cases hq; exact h1
    | 2, hq => cases hq; exact h2
    | 3, hq => cases hq; exact h3
    | 4, hq => cases hq; exact h4
    | 5, hq => cases hq; exact h5
    | 6, hq => cases hq; exact h6
    | 7, hq => cases hq; exact h7
    | n + 8, hq => cases hq
  · match k, hq with
    | 0, hq => cases hq; exact g0
    | 1, hq => cases hq; exact g1
    | n + 2, hq => cases hq
theorem inv_start {σ τ : St} (h1 : rng σ) (h2 : σ 1 1 = 0) (h3 : σ 2 5 = 0) (h4 : ∀ i, i < 288 → σ 11 i = -10) (g1 : rng τ) (g2 : ∀ j, j ≠ 7 → τ j = fun _ => 0) (g3 : ∀ i, i < 256 → τ 7 i = -10) : LInv σ τ [] [] (fun _ => -10) := by
  have t0 : τ 0 = fun _ => 0 := g2 0 (by decide)
  have hR : RC σ [] [] (fun _ => -10) := by
    refine ⟨h1, ⟨h2, Nat.zero_le _, fun i hi => absurd hi (Nat.not_lt_zero i)⟩, ⟨h3, Nat.zero_le _, fun t q hq => ?_, fun j hj => absurd hj (Nat.not_lt_zero j)⟩, fun t ht => h4 t ?_⟩
    · simp at hq
    · have : t < 256 + 0 := ht
      omega
  have hM : RM τ [] [] (fun _ => -10) := by
    refine ⟨g1, ⟨by rw [t0]; rfl, Nat.zero_le _, fun i hi => absurd hi (Nat.not_lt_zero i)⟩, ⟨by rw [t0]; rfl, Nat.zero_le _, fun t q hq => ?_, fun j hj => absurd hj (Nat.not_lt_zero j)⟩, fun t ht => g3 t ?_⟩
    · simp at hq
    · have : t < 256 + 0 := ht
      omega
  refine ⟨hR, hM, ⟨fun t q hq => ?_, fun j hj => absurd hj (Nat.not_lt_zero j), fun j hj => absurd hj (Nat.not_lt_zero j), fun j hj => absurd hj (Nat.not_lt_zero j)⟩, fun t _ _ => ?_⟩
  · simp at hq
  · show (-120 : Int) ≤ -10 ∧ (-10 : Int) ≤ 120
    decide
theorem dfltX5 : ∀ j, j < 5 → defaultValue (tyX5 j) = vp_V [.null, .null, .null, .null, .null] j := fun j hj => by
  rcases (show j = 0 ∨ j = 1 ∨ j = 2 ∨ j = 3 ∨ j = 4 by omega) with rfl | rfl | rfl | rfl | rfl <;> first | rfl | (show Value.int 0 = Value.int (zI 0); rw [← zI_0])
theorem dfltX6 : ∀ j, j < 17 → defaultValue (tyX6 j) = vp_V [.int (zI 0), .int (zI 0), .null, .int (zI 0), .null, .null, .null, .null, .null, .null, .int (zI 0), .null, .null, .null, .null, .null, .null] j := fun j hj => by
  rcases (show j = 0 ∨ j = 1 ∨ j = 2 ∨ j = 3 ∨ j = 4 ∨ j = 5 ∨ j = 6 ∨ j = 7 ∨ j = 8 ∨ j = 9 ∨ j = 10 ∨ j = 11 ∨ j = 12 ∨ j = 13 ∨ j = 14 ∨ j = 15 ∨ j = 16 by omega) with rfl | rfl | rfl | rfl | rfl | rfl | rfl | rfl | rfl | rfl | rfl | rfl | rfl | rfl | rfl | rfl | rfl <;> first | rfl | (show Value.int 0 = Value.int (zI 0); rw [← zI_0])
