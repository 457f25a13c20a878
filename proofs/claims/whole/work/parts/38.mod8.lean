section M8
variable {l : Launch} {D : va_G} {cA : Nat → ClassId} {ad : Nat → Nat} {σ : St} {T : List Int} {ps : PSt} {P : Int → Int}
def cellO (σ : St) (P : Int → Int) (q : Nat) (o : Option (List Int)) : Prop := match o with
  | none => σ 11 q = -1
  | some L => σ 10 q = sm P L ∧ rowAt σ q L ∧ ∀ x ∈ L, 0 ≤ x ∧ x < 288
theorem sm_bd2 (hP : ptsR ps.length P) (hl : ps.length ≤ 32) : ∀ {L : List Int}, (∀ x ∈ L, 0 ≤ x ∧ x < 256 + ps.length) → -120 * (L.length : Int) ≤ sm P L ∧ sm P L ≤ 120 * (L.length : Int)
  | [], _ => by simp [sm]
  | x :: L, h => by
    have h1 := h x List.mem_cons_self
    have h2 := hP x h1.1 h1.2
    have h3 := sm_bd2 hP hl (L := L) (fun y hy => h y (List.mem_cons_of_mem _ hy))
    simp only [sm, List.length_cons]
    omega
theorem c_X6_come {p z : Nat} {t : Int} {Lf : List Int} {o : Option (List Int)} (hr : rng σ) (hv : vocM σ ps) (hz : (tbo (tbl ps) t).length = z) (hz1 : 1 ≤ z) (ht : 0 ≤ t ∧ t < 256 + ps.length) (hpz : p + z ≤ 120) (hPt : σ 7 t.toNat = P t) (hPb : -120 ≤ P t ∧ P t ≤ 120) (hp : σ 10 p = sm P Lf ∧ rowAt σ p Lf ∧ ∀ x ∈ Lf, 0 ≤ x ∧ x < 288) (hpb : -14400 ≤ sm P Lf ∧ sm P Lf ≤ 14400) (hq : cellO σ P (p + z) o) (hw1 : 0 ≤ σ 13 p ∧ σ 13 p ≤ 1000000) (hw2 : 0 ≤ σ 13 (p + z) ∧ σ 13 (p + z) ≤ 1000000) : Cv l yX6_come wsX6_come (rh 1) D cA ad LM [.inl 0, .inr (p : Int), .inr t] σ (fun τ => rng τ ∧ eqx [10, 11, 12, 13] σ τ ∧ (∀ x, x ≠ p + z → τ 10 x = σ 10 x ∧ τ 11 x = σ 11 x ∧ τ 13 x = σ 13 x ∧ ∀ i, i < 120 → τ 12 (120 * x + i) = σ 12 (120 * x + i)) ∧ τ 13 (p + z) = (if 1000000 < σ 13 (p + z) + σ 13 p then 1000000 else σ 13 (p + z) + σ 13 p) ∧ cellO τ P (p + z) (some (mx P (Lf ++ [t]) o))) := by
  have hl := hv.2.1
  obtain ⟨hp10, ⟨hp11, hpl, hp12⟩, hp8⟩ := hp
  have ht8 : 0 ≤ t ∧ t < 288 := by omega
  refine Cv.walk fX6_come pX6_come kX6_come (by decide) rfl LM_ok tX6_come_ok fX6_come_ok pX6_come_ok kX6_come_ok (Nat.le_of_ble_eq_true rfl) (fun V M ret => ?_)
  obtain ⟨q, hqe⟩ : ∃ q, q = p + z := ⟨_, rfl⟩
  obtain ⟨S, hS⟩ : ∃ S, S = sm P Lf + P t := ⟨_, rfl⟩
  obtain ⟨w, hw⟩ : ∃ w, w = (if 1000000 < σ 13 q + σ 13 p then 1000000 else σ 13 q + σ 13 p) := ⟨_, rfl⟩
  rw [← hqe] at hq hw2 ret
  rw [← hw] at ret
  have hSm : sm P (Lf ++ [t]) = S := by rw [sm_app, hS]; simp [sm]
  have hSr : inR S := by unfold inR; omega
  have hwr : inR w := by
    rw [hw]
    split
    · constructor <;> decide
    · unfold inR; omega
  have hpq : p < q := by omega
  -- the state behind the ways
  obtain ⟨σ2, hs2⟩ : ∃ s, s = stu (stu σ 13 q (σ 13 q + σ 13 p)) 13 q w := ⟨_, rfl⟩
  have r2 : rng σ2 := by rw [hs2]; exact rng_stu (rng_stu hr (by unfold inR; omega) _ _) hwr _ _
  have x2 : eqx [10, 11, 12, 13] σ σ2 := by rw [hs2]; exact eqx_stu (eqx_stu eqx_rfl (by decide) _ _) (by decide) _ _
  have f10 : σ2 10 = σ 10 := by rw [hs2]; simp [stu, va_up]
  have f11 : σ2 11 = σ 11 := by rw [hs2]; simp [stu, va_up]
  have f12 : σ2 12 = σ 12 := by rw [hs2]; simp [stu, va_up]
  have f13 : ∀ x, x ≠ q → σ2 13 x = σ 13 x := fun x hx => by rw [hs2, stu_i _ _ _ hx, stu_i _ _ _ hx]
  have f13q : σ2 13 q = w := by rw [hs2, stu_s]
  have keep : ∀ L, o = some L → ¬ bt P (Lf ++ [t]) L → V (151, [(0, .inl 0), (1, .inr (p : Int)), (2, .inr t), (3, .inr (q : Int)), (4, .inr S), (5, .inr ((Lf.length : Int) + 1))], [], σ2) := by
    intro L hL hn
    refine ret rfl ⟨r2, x2, fun x hx => ⟨by rw [f10], by rw [f11], f13 x hx, fun i _ => by rw [f12]⟩, f13q, ?_⟩
    subst hL
    have e : mx P (Lf ++ [t]) (some L) = L := by unfold mx; simp only []; rw [if_neg hn]
    rw [e]
    obtain ⟨a1, ⟨a2, a3, a4⟩, a5⟩ := hq
    exact ⟨by rw [f10]; exact a1, ⟨by rw [f11]; exact a2, a3, by rw [f12]; exact a4⟩, a5⟩
  have copy : ∀ (d i : Nat) (τ : St), i + d = Lf.length → rng τ → eqx [10, 11, 12, 13] σ τ → (∀ x, x ≠ q → τ 10 x = σ 10 x ∧ τ 11 x = σ 11 x ∧ τ 13 x = σ 13 x ∧ ∀ i, i < 120 → τ 12 (120 * x + i) = σ 12 (120 * x + i)) → τ 13 q = w → τ 10 q = S → τ 11 q = (Lf.length : Int) + 1 → (∀ x, x < i → τ 12 (120 * q + x) = Lf.getD x 0) → mx P (Lf ++ [t]) o = Lf ++ [t] → V (171, [(0, .inl 0), (1, .inr (p : Int)), (2, .inr t), (3, .inr (q : Int)), (5, .inr ((Lf.length : Int) + 1)), (7, .inr (i : Int))], [], τ) := by
    intro d
    induction d with
    | zero =>
      intro i τ hi hrt hx hoth h13 h10 h11 hc hmx
      refine M.1 [225] 80 _ ?_
      refine ⟨⟨by unfold inR; omega, by unfold inR; omega⟩, fun c1 => ?_, fun c1 => absurd c1 (by omega)⟩
      refine ⟨⟨by omega, by omega⟩, ?_⟩
      rw [show (120 * (q : Int) + ((Lf.length : Int) + 1) - 1).toNat = 120 * q + Lf.length by omega]
      refine ret rfl ⟨rng_stu hrt (by unfold inR; omega) _ _, eqx_stu hx (by decide) _ _, fun x hxq => ?_, by rw [stu_j _ _ _ (by decide)]; exact h13, ?_⟩
      · have := hoth x hxq
        refine ⟨by rw [stu_j _ _ _ (by decide)]; exact this.1, by rw [stu_j _ _ _ (by decide)]; exact this.2.1, by rw [stu_j _ _ _ (by decide)]; exact this.2.2.1, fun i hi => ?_⟩
        rw [stu_i _ _ _ (by omega)]
        exact this.2.2.2 i hi
      · rw [hmx]
        refine ⟨by rw [stu_j _ _ _ (by decide), hSm]; exact h10, ⟨by rw [stu_j _ _ _ (by decide), h11]; simp, by simp; omega, fun x hxl => ?_⟩, fun x hxm => ?_⟩
        · rw [List.length_append, List.length_singleton] at hxl
          rw [getD_snoc]
          by_cases e : x = Lf.length
          · rw [e, stu_s, if_neg (by omega), if_pos rfl]
          · rw [stu_i _ _ _ (by omega), if_pos (by omega)]
            exact hc x (by omega)
        · rcases List.mem_append.mp hxm with h | h
          · exact hp8 x h
          · rw [List.mem_singleton] at h
            rw [h]
            exact ht8
    | succ d ih =>
      intro i τ hi hrt hx hoth h13 h10 h11 hc hmx
      have e1 : τ 12 (120 * p + i) = Lf.getD i 0 := by rw [(hoth p (by omega)).2.2.2 i (by omega)]; exact hp12 i (by omega)
      refine M.1 [171] 80 _ ?_
      refine ⟨⟨by unfold inR; omega, by unfold inR; omega⟩, fun c1 => absurd c1 (by omega), fun c1 => ?_⟩
      refine ⟨⟨by omega, by omega⟩, ⟨by omega, by omega⟩, ?_⟩
      rw [show (120 * (q : Int) + (i : Int)).toNat = 120 * q + i by omega, show (120 * (p : Int) + (i : Int)).toNat = 120 * p + i by omega, e1]
      refine ih (i + 1) _ (by omega) (rng_stu hrt (by rw [← e1]; exact hrt _ _) _ _) (eqx_stu hx (by decide) _ _) (fun x hxq => ?_) (by rw [stu_j _ _ _ (by decide)]; exact h13) (by rw [stu_j _ _ _ (by decide)]; exact h10) (by rw [stu_j _ _ _ (by decide)]; exact h11) (fun x hxi => ?_) hmx
      · have := hoth x hxq
        refine ⟨by rw [stu_j _ _ _ (by decide)]; exact this.1, by rw [stu_j _ _ _ (by decide)]; exact this.2.1, by rw [stu_j _ _ _ (by decide)]; exact this.2.2.1, fun j hj => ?_⟩
        rw [stu_i _ _ _ (by omega)]
        exact this.2.2.2 j hj
      · by_cases e : x = i
        · rw [e, stu_s]
        · rw [stu_i _ _ _ (by omega)]
          exact hc x (by omega)
  have upd : (∀ L, o = some L → bt P (Lf ++ [t]) L) → V (152, [(0, .inl 0), (1, .inr (p : Int)), (2, .inr t), (3, .inr (q : Int)), (4, .inr S), (5, .inr ((Lf.length : Int) + 1))], [], σ2) := by
    intro hbt
    have hmx : mx P (Lf ++ [t]) o = Lf ++ [t] := by
      unfold mx
      cases o with
      | none => rfl
      | some L => simp only []; rw [if_pos (hbt L rfl)]
    refine M.1 [171] 80 _ ?_
    refine ⟨⟨by omega, by omega⟩, ⟨by omega, by omega⟩, ?_⟩
    rw [Int.toNat_natCast]
    refine M.2.2.2.2.2.1 _ (lpick_mem [0, 1, 2, 3, 5, 7]) ?_
    refine copy Lf.length 0 _ (by omega) (rng_stu (rng_stu r2 hSr _ _) (by unfold inR; omega) _ _) (eqx_stu (eqx_stu x2 (by decide) _ _) (by decide) _ _) (fun x hxq => ⟨?_, ?_, ?_, fun i _ => ?_⟩) ?_ ?_ ?_ (fun x hx => absurd hx (by omega)) hmx
    · rw [stu_j _ _ _ (by decide), stu_i _ _ _ hxq, f10]
    · rw [stu_i _ _ _ hxq, stu_j _ _ _ (by decide), f11]
    · rw [stu_j _ _ _ (by decide), stu_j _ _ _ (by decide)]; exact f13 x hxq
    · rw [stu_j _ _ _ (by decide), stu_j _ _ _ (by decide), f12]
    · rw [stu_j _ _ _ (by decide), stu_j _ _ _ (by decide)]; exact f13q
    · rw [stu_j _ _ _ (by decide), stu_s]
    · rw [stu_s]
  have yes : (∀ L, o = some L → bt P (Lf ++ [t]) L) → V (139, [(0, .inl 0), (1, .inr (p : Int)), (2, .inr t), (3, .inr (q : Int)), (4, .inr S), (5, .inr ((Lf.length : Int) + 1))], [], σ2) := by
    intro hbt
    refine M.1 [152] 60 _ ?_
    refine ⟨by constructor <;> decide, fun _ => ?_, fun c => absurd c (by decide)⟩
    exact M.2.2.2.2.2.1 _ (lpick_mem [0, 1, 2, 3, 4, 5]) (upd hbt)
  have no : ∀ L, o = some L → ¬ bt P (Lf ++ [t]) L → V (143, [(0, .inl 0), (1, .inr (p : Int)), (2, .inr t), (3, .inr (q : Int)), (4, .inr S), (5, .inr ((Lf.length : Int) + 1))], [], σ2) := by
    intro L hL hbt
    refine M.1 [151] 60 _ ?_
    refine ⟨by constructor <;> decide, fun c => absurd rfl c, fun _ => ?_⟩
    exact M.2.2.2.2.2.1 _ (lpick_mem [0, 1, 2, 3, 4, 5]) (keep L hL hbt)
  have cmp : V (76, [(0, .inl 0), (1, .inr (p : Int)), (2, .inr t), (3, .inr (q : Int)), (4, .inr S), (5, .inr ((Lf.length : Int) + 1))], [], σ2) := by
    refine M.1 [133, 139, 143] 80 _ ?_
    refine ⟨⟨by omega, by omega⟩, r2 _ _, fun c1 => ?_, fun c1 => ?_⟩
    · rw [Int.toNat_natCast, f11] at c1
      refine yes (fun L hL => ?_)
      subst hL
      have := hq.2.1.1
      omega
    · rw [Int.toNat_natCast, f11] at c1
      cases o with
      | none => have hq : σ 11 q = -1 := hq; omega
      | some L =>
        obtain ⟨a1, ⟨a2, a3, a4⟩, a5⟩ := hq
        have one : ∀ {X : Prop}, (X → bt P (Lf ++ [t]) L) → X → ∀ L', some L = some L' → bt P (Lf ++ [t]) L' := fun h x L' e => by cases e; exact h x
        refine ⟨⟨by omega, by omega⟩, ⟨hSr, r2 _ _⟩, fun c2 => ?_, fun c2 => ?_⟩
        · rw [Int.toNat_natCast, f10, a1] at c2
          exact yes (one (fun c2 => Or.inl (by rw [hSm]; exact c2)) c2)
        · rw [Int.toNat_natCast, f10, a1] at c2
          refine ⟨⟨by omega, by omega⟩, ⟨hSr, r2 _ _⟩, fun c3 => ?_, fun c3 => ?_⟩
          · rw [Int.toNat_natCast, f10, a1] at c3
            refine no L rfl ?_
            rintro (h | ⟨h, -⟩) <;> rw [hSm] at h <;> omega
          · rw [Int.toNat_natCast, f10, a1] at c3
            refine ⟨⟨by omega, by omega⟩, ⟨by unfold inR; omega, r2 _ _⟩, fun c4 => ?_, fun c4 => ?_⟩
            · rw [Int.toNat_natCast, f11, a2] at c4
              exact yes (one (fun _ => Or.inr ⟨by rw [hSm]; omega, Or.inl (by simp; omega)⟩) trivial)
            · rw [Int.toNat_natCast, f11, a2] at c4
              refine ⟨⟨by omega, by omega⟩, ⟨by unfold inR; omega, r2 _ _⟩, fun c5 => ?_, fun c5 => ?_⟩
              · rw [Int.toNat_natCast, f11, a2] at c5
                refine no L rfl ?_
                rintro (h | ⟨-, h | ⟨h, -⟩⟩)
                · rw [hSm] at h; omega
                · simp at h; omega
                · simp at h; omega
              · rw [Int.toNat_natCast, f11, a2] at c5
                refine M.2.1 (vs := [.inr (p : Int), .inr t, .inr (q : Int)]) (rest := []) rfl oX6_come_X6_isBefore rfl rfl (Nat.le_of_ble_eq_true rfl) rfl (c_X6_isBefore (Lf := Lf) (Lt := L) r2 (by omega) (by omega) ⟨by rw [f11]; exact hp11, hpl, by rw [f12]; exact hp12⟩ ⟨by rw [f11]; exact a2, a3, by rw [f12]; exact a4⟩ (by omega) hpq (by unfold inR; omega) hp8 a5) (fun r τ2 _ hp3 => ?_)
                obtain ⟨e3, e4⟩ := hp3
                subst e3
                subst e4
                refine M.1 [139, 143] 60 _ ?_
                refine ⟨b01_r _, fun c6 => ?_, fun c6 => ?_⟩
                · have c6 := b01_0.mp c6
                  refine no L rfl ?_
                  rintro (h | ⟨-, h | ⟨-, h⟩⟩)
                  · rw [hSm] at h; omega
                  · simp at h; omega
                  · exact c6 h
                · have c6 := Classical.not_not.mp (fun h => c6 (b01_f h))
                  exact yes (one (fun _ => Or.inr ⟨by rw [hSm]; omega, Or.inr ⟨by simp; omega, c6⟩⟩) trivial)
  refine M.1 [3] 60 _ ?_
  refine M.2.1 (vs := [.inr t]) (rest := [.inr (p : Int)]) rfl oX6_come_X6_sizeOf rfl rfl (Nat.le_of_ble_eq_true rfl) rfl (c_X6_sizeOf hr hv ht) (fun r τ hin hp2 => ?_)
  obtain ⟨e3, e4⟩ := hp2
  subst e3
  rw [hz] at e4
  subst e4
  refine M.1 [48] 80 _ ?_
  refine ⟨⟨by omega, by omega⟩, ⟨by omega, by omega⟩, ⟨by omega, by omega⟩, ⟨by omega, by omega⟩, ⟨by omega, by omega⟩, ⟨by omega, by omega⟩, ?_⟩
  rw [Int.toNat_natCast, show ((p : Int) + (z : Int)).toNat = q by omega, hp10, hPt, hp11, show (p : Int) + (z : Int) = (q : Int) by omega, ← hS]
  refine M.1 [76] 80 _ ?_
  refine ⟨⟨by omega, by omega⟩, ?_⟩
  rw [Int.toNat_natCast, stu_s]
  refine ⟨⟨by unfold inR; omega, by constructor <;> decide⟩, fun c1 => ?_, fun c1 => ?_⟩
  · refine ⟨⟨by omega, by omega⟩, ⟨by omega, by omega⟩, ?_⟩
    rw [Int.toNat_natCast, stu_s]
    rw [hs2, hw, if_neg (by omega)] at cmp
    exact cmp
  · refine ⟨⟨by omega, by omega⟩, ?_⟩
    rw [Int.toNat_natCast]
    rw [hs2, hw, if_pos (by omega)] at cmp
    exact cmp
end M8
