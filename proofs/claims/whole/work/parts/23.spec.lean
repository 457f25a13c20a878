/-! the answers, told of the shared state -/
abbrev PSt : Type := List (Int × Int × Int)
def RC (σ : St) (T : List Int) (ps : PSt) (P : Int → Int) : Prop := rng σ ∧ textC σ T ∧ vocC σ ps ∧ ptsC σ ps.length P
def FT (T : List Int) : Nat → Int := fun i => T.getD i 0
noncomputable def wT (T : List Int) : Int → Int := fun p => b01 (bwP (FT T) T.length p)
def spT (T : List Int) : Rw := spl (FT T) T.length
def aOct (T : List Int) (b : Int) : Int := if 0 ≤ b ∧ b < 256 then (if T.length < 120 then (T.length : Int) + 1 else -4) else -2
def tOct (T : List Int) (b : Int) : List Int := if 0 ≤ b ∧ b < 256 ∧ T.length < 120 then T ++ [b] else T
def aCut (T : List Int) (n : Int) : Int := if 0 ≤ n ∧ n ≤ T.length then T.length else -2
def tCut (T : List Int) (n : Int) : List Int := if 0 ≤ n ∧ n ≤ T.length then T.take n.toNat else T
def aByt (T : List Int) (i : Int) : Int := if 0 ≤ i ∧ i < T.length then T.getD i.toNat 0 else -1
def nw (w : Int → Int) : Nat → Int
  | 0 => 0
  | i + 1 => nw w i + w (i : Int)
noncomputable def aWrd (T : List Int) : Int := nw (wT T) T.length
def d3 : Int × Int × Int := (0, 0, 0)
def lrnd (ps : PSt) (t : Int) : Prop := 256 ≤ t ∧ t < 256 + ps.length
def tokn (ps : PSt) (t : Int) : Prop := 0 ≤ t ∧ t < 256 + ps.length
def aPai (ps : PSt) (t s : Int) : Int := if 256 ≤ t ∧ t < 256 + ps.length then (if s = 0 then (ps.getD (t - 256).toNat d3).1 else if s = 1 then (ps.getD (t - 256).toNat d3).2.1 else -2) else -1
def aCnt (ps : PSt) (t : Int) : Int := if 256 ≤ t ∧ t < 256 + ps.length then (ps.getD (t - 256).toNat d3).2.2 else -1
def aSiz (ps : PSt) (t : Int) : Int := if 0 ≤ t ∧ t < 256 + ps.length then (tbo (tbl ps) t).length else -1
def aPts (ps : PSt) (t p : Int) : Int := if 0 ≤ t ∧ t < 256 + ps.length then (if -100 ≤ p ∧ p ≤ 100 then 1 else -2) else -1
def pPts (ps : PSt) (P : Int → Int) (t p : Int) : Int → Int := if 0 ≤ t ∧ t < 256 + ps.length ∧ -100 ≤ p ∧ p ≤ 100 then (fun x => if x = t then p else P x) else P
def isBst (n : Nat) (F : Nat → Int) (bs : List (List Int)) (P : Int → Int) (row : List Int) : Prop := pth n F bs 0 row n ∧ ∀ r, pth n F bs 0 r n → ¬ bt P r row
noncomputable def bst (T : List Int) (ps : PSt) (P : Int → Int) : List Int := @dite _ (∃ row, isBst T.length (FT T) (tbl ps) P row) (Classical.propDecidable _) (fun h => h.choose) (fun _ => [])
theorem bst_eq {T : List Int} {ps : PSt} {P : Int → Int} {row : List Int} (h : isBst T.length (FT T) (tbl ps) P row) : bst T ps P = row := by
  have hx : ∃ row, isBst T.length (FT T) (tbl ps) P row := ⟨row, h⟩
  unfold bst
  rw [dif_pos hx]
  have h2 := hx.choose_spec
  exact bt_uniq (fun q => h.2 _ h2.1 q) (fun q => h2.2 _ h.1 q)
noncomputable def aBst (T : List Int) (ps : PSt) (P : Int → Int) : Int := (bst T ps P).length
noncomputable def aBat (T : List Int) (ps : PSt) (P : Int → Int) (i : Int) : Int := if 0 ≤ i ∧ i < (bst T ps P).length then (bst T ps P).getD i.toNat 0 else -1
noncomputable def aSum (T : List Int) (ps : PSt) (P : Int → Int) : Int := sm P (bst T ps P)
noncomputable def aWay (T : List Int) (ps : PSt) : Int := (Nat.min (nB T.length (FT T) (tbl ps) 0) 1000000 : Nat)
theorem getD_snoc (T : List Int) (b : Int) (i : Nat) : (T ++ [b]).getD i 0 = if i < T.length then T.getD i 0 else if i = T.length then b else 0 := by
  rw [List.getD_eq_getElem?_getD, List.getD_eq_getElem?_getD, List.getElem?_append]
  split
  · rfl
  · split
    · rename_i h
      subst h
      simp
    · rename_i h1 h2
      rw [List.getElem?_eq_none (by simp; omega)]
      rfl
theorem getD_take (T : List Int) {m i : Nat} (h : i < m) : (T.take m).getD i 0 = T.getD i 0 := by
  rw [List.getD_eq_getElem?_getD, List.getD_eq_getElem?_getD, List.getElem?_take, if_pos h]
theorem ps_at {σ : St} {ps : PSt} (hv : vocC σ ps) {j : Nat} (hj : j < ps.length) : σ 7 j = (ps.getD j d3).1 ∧ σ 8 j = (ps.getD j d3).2.1 ∧ σ 9 j = (ps.getD j d3).2.2 := by
  have e : ps[j]? = some (ps.getD j d3) := by
    rw [List.getD_eq_getElem?_getD, List.getElem?_eq_getElem hj]
    rfl
  exact hv.2.2.1 j _ e
section X5a
variable {l : Launch} {D : va_G} {cA : Nat → ClassId} {ad : Nat → Nat} {σ : St} {T : List Int} {ps : PSt} {P : Int → Int}
theorem c_X5_octet {b : Int} (h : RC σ T ps P) (hb : inR b) : Ci l yX5_octet wsX5_octet (rh 1) D cA ad LC [.inl 0, .inr b] σ (fun r τ => r = aOct T b ∧ RC τ (tOct T b) ps P) := by
  obtain ⟨hr, ht, hv, hp⟩ := h
  have hk := kC_of hr ht hv
  have h11 := ht.1
  have hn := ht.2.1
  refine Ci.walk fX5_octet pX5_octet [] (by decide) rfl LC_ok tX5_octet_ok fX5_octet_ok pX5_octet_ok klOk_0 (Nat.le_of_ble_eq_true rfl) (fun V M ret => ?_)
  have bad : ¬ (0 ≤ b ∧ b < 256) → V (13, lnum 0 [.inl 0, .inr b], [.inr (-2)], σ) := by
    intro hn
    refine ret rfl (by constructor <;> decide) ⟨by unfold aOct; rw [if_neg hn], hr, ?_, hv, hp⟩
    unfold tOct
    rw [if_neg (by omega)]
    exact ht
  refine M.1 [13, 28, 34] 60 _ ?_
  refine ⟨hb, fun c1 => bad (by omega), fun c1 => ?_⟩
  refine ⟨⟨hb, by constructor <;> decide⟩, fun c2 => ?_, fun c2 => bad (by omega)⟩
  refine ⟨⟨hr _ _, by constructor <;> decide⟩, fun c3 => ?_, fun c3 => ?_⟩
  · refine M.2.2.1 (vs := [.inr b]) (rest := []) rfl oX5_octet_X3_append rfl rfl (Nat.le_of_ble_eq_true rfl) rfl (c_X3_append hk c3) (fun τ hp' => ?_)
    subst hp'
    rw [h11, Int.toNat_natCast]
    refine M.1 [44] 60 _ ?_
    refine ret rfl ?_ ⟨?_, ?_, ?_, ?_, ?_⟩
    · rw [stu_s]
      unfold inR
      omega
    · unfold aOct
      rw [stu_s, if_pos (by omega), if_pos (by omega)]
    · exact rng_stu (rng_stu hr hb _ _) (by unfold inR; omega) _ _
    · unfold tOct
      rw [if_pos (by omega)]
      refine ⟨by rw [stu_s]; simp, by simp; omega, fun i hi => ?_⟩
      simp only [List.length_append, List.length_singleton] at hi
      rw [stu_j _ _ _ (by decide), getD_snoc]
      by_cases e : i = T.length
      · rw [e, stu_s, if_neg (by omega), if_pos rfl]
        omega
      · rw [stu_i _ _ _ e, if_pos (by omega)]
        exact ht.2.2 i (by omega)
    · exact vocC_x hv (by simp [stu, va_up]) (by simp [stu, va_up]) (by simp [stu, va_up]) (by simp [stu, va_up]) (by simp [stu, va_up]) (by simp [stu, va_up]) (by simp [stu, va_up])
    · exact ptsC_x hp (by simp [stu, va_up])
  · refine ret rfl (by constructor <;> decide) ⟨by unfold aOct; rw [if_pos (by omega), if_neg (by omega)], hr, ?_, hv, hp⟩
    unfold tOct
    rw [if_neg (by omega)]
    exact ht
theorem c_X5_cut {n : Int} (h : RC σ T ps P) (hb : inR n) : Ci l yX5_cut wsX5_cut (rh 0) D cA ad LC [.inl 0, .inr n] σ (fun r τ => r = aCut T n ∧ RC τ (tCut T n) ps P) := by
  obtain ⟨hr, ht, hv, hp⟩ := h
  have h11 := ht.1
  have hn := ht.2.1
  refine Ci.walk fX5_cut pX5_cut [] (by decide) rfl LC_ok tX5_cut_ok fX5_cut_ok pX5_cut_ok klOk_0 (Nat.le_of_ble_eq_true rfl) (fun V M ret => ?_)
  have bad : ¬ (0 ≤ n ∧ n ≤ T.length) → V (17, lnum 0 [.inl 0, .inr n], [.inr (-2)], σ) := by
    intro hn
    refine ret rfl (by constructor <;> decide) ⟨by unfold aCut; rw [if_neg hn], hr, ?_, hv, hp⟩
    unfold tCut
    rw [if_neg hn]
    exact ht
  refine M.1 [17, 35] 60 _ ?_
  refine ⟨hb, fun c1 => bad (by omega), fun c1 => ?_⟩
  refine ⟨⟨hb, hr _ _⟩, fun c2 => ?_, fun c2 => bad (by omega)⟩
  refine ret rfl (hr _ _) ⟨?_, rng_stu hr hb _ _, ?_, ?_, ?_⟩
  · unfold aCut
    rw [if_pos (by omega)]
    exact h11
  · unfold tCut
    rw [if_pos (by omega)]
    refine ⟨by rw [stu_s, List.length_take]; omega, by rw [List.length_take]; omega, fun i hi => ?_⟩
    rw [List.length_take] at hi
    rw [stu_j _ _ _ (by decide), getD_take _ (by omega)]
    exact ht.2.2 i (by omega)
  · exact vocC_x hv (by simp [stu, va_up]) (by simp [stu, va_up]) (by simp [stu, va_up]) (by simp [stu, va_up]) (by simp [stu, va_up]) (by simp [stu, va_up]) (by simp [stu, va_up])
  · exact ptsC_x hp (by simp [stu, va_up])
theorem c_X5_byteAt {i : Int} (h : RC σ T ps P) (hb : inR i) : Ci l yX5_byteAt wsX5_byteAt (rh 0) D cA ad LC [.inl 0, .inr i] σ (fun r τ => r = aByt T i ∧ RC τ T ps P) := by
  have h' := h
  obtain ⟨hr, ht, hv, hp⟩ := h
  have h11 := ht.1
  have hn := ht.2.1
  refine Ci.walk fX5_byteAt pX5_byteAt [] (by decide) rfl LC_ok tX5_byteAt_ok fX5_byteAt_ok pX5_byteAt_ok klOk_0 (Nat.le_of_ble_eq_true rfl) (fun V M ret => ?_)
  refine M.1 [16, 26] 60 _ ?_
  refine ⟨hb, fun c1 => ?_, fun c1 => ?_⟩
  · exact ret rfl (by constructor <;> decide) ⟨by unfold aByt; rw [if_neg (by omega)], h'⟩
  · refine ⟨⟨hb, hr _ _⟩, fun c2 => ?_, fun c2 => ?_⟩
    · refine ⟨⟨by omega, by omega⟩, ?_⟩
      exact ret rfl (hr _ _) ⟨by unfold aByt; rw [if_pos (by omega), (ht.2.2 i.toNat (by omega)).1], h'⟩
    · exact ret rfl (by constructor <;> decide) ⟨by unfold aByt; rw [if_neg (by omega)], h'⟩
theorem bwP_FT (ht : textC σ T) (p : Int) : bwP (σ 6) (σ 1 1) p ↔ bwP (FT T) T.length p := by
  unfold bwP
  rw [ht.1]
  by_cases h : 0 ≤ p ∧ p < T.length
  · by_cases h0 : p = 0
    · simp [h0]
    · have e1 := (ht.2.2 p.toNat (by omega)).1
      have e2 := (ht.2.2 (p - 1).toNat (by omega)).1
      rw [e1, e2]
      rfl
  · constructor <;> (intro q; exact absurd ⟨q.1, q.2.1⟩ h)
theorem wT_eq (ht : textC σ T) : (fun p => b01 (bwP (σ 6) (σ 1 1) p)) = wT T := by
  funext p
  exact b01_c (bwP_FT ht p)
theorem wT_01 (T : List Int) (p : Int) : wT T p = 0 ∨ wT T p = 1 := b01_z _
theorem c_X5_words (h : RC σ T ps P) : Ci l yX5_words wsX5_words (rh 1) D cA ad LC [.inl 0] σ (fun r τ => r = aWrd T ∧ RC τ T ps P) := by
  have h' := h
  obtain ⟨hr, ht, hv, hp⟩ := h
  have hk := kC_of hr ht hv
  have h11 := ht.1
  have hn := ht.2.1
  refine Ci.walk fX5_words pX5_words [] (by decide) rfl LC_ok tX5_words_ok fX5_words_ok pX5_words_ok klOk_0 (Nat.le_of_ble_eq_true rfl) (fun V M ret => ?_)
  have nwb : ∀ i : Nat, 0 ≤ nw (wT T) i ∧ nw (wT T) i ≤ i := by
    intro i
    induction i with
    | zero => simp [nw]
    | succ i ih =>
      have := wT_01 T (i : Int)
      unfold nw
      omega
  have loop : ∀ (d i : Nat), i + d = T.length → V (4, [(0, .inl 0), (1, .inr (nw (wT T) i)), (2, .inr (i : Int))], [], σ) := by
    intro d
    induction d with
    | zero =>
      intro i hi
      have e : i = T.length := by omega
      subst e
      refine M.1 [36] 60 _ ?_
      refine ⟨⟨by unfold inR; omega, hr _ _⟩, fun c1 => ?_, fun c1 => absurd c1 (by omega)⟩
      have := nwb T.length
      exact ret rfl (by unfold inR; omega) ⟨rfl, h'⟩
    | succ d ih =>
      intro i hi
      refine M.1 [20] 60 _ ?_
      refine ⟨⟨by unfold inR; omega, hr _ _⟩, fun c1 => absurd c1 (by omega), fun c1 => ?_⟩
      refine M.2.1 (vs := [.inr (i : Int)]) (rest := []) rfl oX5_words_X3_beginsWord rfl rfl (Nat.le_of_ble_eq_true rfl) rfl (c_X3_beginsWord (by unfold inR; omega) hk) (fun r τ _ hp' => ?_)
      obtain ⟨rfl, rfl⟩ := hp'
      rw [b01_c (bwP_FT ht (i : Int))]
      have hh := ih (i + 1) (by omega)
      unfold nw at hh
      refine M.1 [4] 60 _ ?_
      refine ⟨b01_r _, fun c2 => ?_, fun c2 => ?_⟩
      · rw [show wT T (i : Int) = 0 from c2, Int.add_zero] at hh
        exact hh
      · rw [show wT T (i : Int) = 1 from (wT_01 T i).resolve_left c2] at hh
        exact hh
  refine M.1 [4] 60 _ ?_
  exact loop T.length 0 (by omega)
theorem isL_lr (hv : vocC σ ps) (t : Int) : isL σ t ↔ (256 ≤ t ∧ t < 256 + ps.length) := by
  unfold isL
  rw [hv.1]
theorem c_X5_pair {t s : Int} (h : RC σ T ps P) (ht' : inR t) (hs : inR s) : Ci l yX5_pair wsX5_pair (rh 1) D cA ad LC [.inl 0, .inr t, .inr s] σ (fun r τ => r = aPai ps t s ∧ RC τ T ps P) := by
  have h' := h
  obtain ⟨hr, ht, hv, hp⟩ := h
  have hk := kC_of hr ht hv
  have hl := hv.2.1
  refine Ci.walk fX5_pair pX5_pair [] (by decide) rfl LC_ok tX5_pair_ok fX5_pair_ok pX5_pair_ok klOk_0 (Nat.le_of_ble_eq_true rfl) (fun V M ret => ?_)
  refine M.1 [5] 60 _ ?_
  refine M.2.1 (vs := [.inr t]) (rest := []) rfl oX5_pair_X4_isLearned rfl rfl (Nat.le_of_ble_eq_true rfl) rfl (c_X4_isLearned ht' hk) (fun r τ _ hp' => ?_)
  obtain ⟨rfl, rfl⟩ := hp'
  refine M.1 [12, 24, 56] 60 _ ?_
  refine ⟨b01_r _, fun c1 => ?_, fun c1 => ?_⟩
  · have h1 := (isL_lr hv t).mp (Classical.not_not.mp (fun h => c1 (b01_f h)))
    have e := ps_at hv (j := (t - 256).toNat) (by omega)
    refine ⟨hs, fun c2 => ?_, fun c2 => ?_⟩
    · refine ⟨hs, fun c3 => absurd c2 c3, fun c3 => ?_⟩
      refine ⟨⟨by omega, by omega⟩, ?_⟩
      exact ret rfl (hr _ _) ⟨by unfold aPai; rw [if_pos h1, if_pos c2, e.1], h'⟩
    · refine ⟨⟨hs, by constructor <;> decide⟩, fun c3 => ?_, fun c3 => ?_⟩
      · refine ⟨hs, fun c4 => ?_, fun c4 => absurd c4 c2⟩
        refine ⟨⟨by omega, by omega⟩, ?_⟩
        exact ret rfl (hr _ _) ⟨by unfold aPai; rw [if_pos h1, if_neg c2, if_pos c3, e.2.1], h'⟩
      · exact ret rfl (by constructor <;> decide) ⟨by unfold aPai; rw [if_pos h1, if_neg c2, if_neg c3], h'⟩
  · exact ret rfl (by constructor <;> decide) ⟨by unfold aPai; rw [if_neg (fun q => b01_0.mp c1 ((isL_lr hv t).mpr q))], h'⟩
theorem c_X5_count {t : Int} (h : RC σ T ps P) (ht' : inR t) : Ci l yX5_count wsX5_count (rh 1) D cA ad LC [.inl 0, .inr t] σ (fun r τ => r = aCnt ps t ∧ RC τ T ps P) := by
  have h' := h
  obtain ⟨hr, ht, hv, hp⟩ := h
  have hk := kC_of hr ht hv
  have hl := hv.2.1
  refine Ci.walk fX5_count pX5_count [] (by decide) rfl LC_ok tX5_count_ok fX5_count_ok pX5_count_ok klOk_0 (Nat.le_of_ble_eq_true rfl) (fun V M ret => ?_)
  refine M.1 [5] 60 _ ?_
  refine M.2.1 (vs := [.inr t]) (rest := []) rfl oX5_count_X4_isLearned rfl rfl (Nat.le_of_ble_eq_true rfl) rfl (c_X4_isLearned ht' hk) (fun r τ _ hp' => ?_)
  obtain ⟨rfl, rfl⟩ := hp'
  refine M.1 [12, 26] 60 _ ?_
  refine ⟨b01_r _, fun c1 => ?_, fun c1 => ?_⟩
  · have h1 := (isL_lr hv t).mp (Classical.not_not.mp (fun h => c1 (b01_f h)))
    have e := ps_at hv (j := (t - 256).toNat) (by omega)
    refine ⟨⟨by omega, by omega⟩, ?_⟩
    exact ret rfl (hr _ _) ⟨by unfold aCnt; rw [if_pos h1, e.2.2], h'⟩
  · exact ret rfl (by constructor <;> decide) ⟨by unfold aCnt; rw [if_neg (fun q => b01_0.mp c1 ((isL_lr hv t).mpr q))], h'⟩
theorem sz_tbo (hv : vocC σ ps) {t : Int} (h : 0 ≤ t ∧ t < 256 + ps.length) : szC σ t = (tbo (tbl ps) t).length := by
  unfold tbo
  by_cases e : t < 256
  · rw [if_pos e, szC_b (fun q => by have := q.1; omega)]
    rfl
  · rw [if_neg e]
    have := voc_sz hv (j := (t - 256).toNat) (by omega)
    rw [show 256 + (((t - 256).toNat : Nat) : Int) = t by omega] at this
    exact this
theorem c_X5_size {t : Int} (h : RC σ T ps P) (ht' : inR t) : Ci l yX5_size wsX5_size (rh 2) D cA ad LC [.inl 0, .inr t] σ (fun r τ => r = aSiz ps t ∧ RC τ T ps P) := by
  have h' := h
  obtain ⟨hr, ht, hv, hp⟩ := h
  have hk := kC_of hr ht hv
  have hl := hv.1
  refine Ci.walk fX5_size pX5_size [] (by decide) rfl LC_ok tX5_size_ok fX5_size_ok pX5_size_ok klOk_0 (Nat.le_of_ble_eq_true rfl) (fun V M ret => ?_)
  refine M.1 [5] 60 _ ?_
  refine M.2.1 (vs := [.inr t]) (rest := []) rfl oX5_size_X4_isToken rfl rfl (Nat.le_of_ble_eq_true rfl) rfl (c_X4_isToken ht' hk) (fun r τ _ hp' => ?_)
  obtain ⟨rfl, rfl⟩ := hp'
  rw [hl]
  refine M.1 [12, 18] 60 _ ?_
  refine ⟨b01_r _, fun c1 => ?_, fun c1 => ?_⟩
  · have h1 := Classical.not_not.mp (fun h => c1 (b01_f h))
    refine M.2.1 (vs := [.inr t]) (rest := []) rfl oX5_size_X4_sizeOf rfl rfl (Nat.le_of_ble_eq_true rfl) rfl (c_X4_sizeOf ht' hk) (fun r τ hin hp' => ?_)
    obtain ⟨rfl, rfl⟩ := hp'
    exact ret rfl hin ⟨by unfold aSiz; rw [if_pos h1, sz_tbo hv h1], h'⟩
  · exact ret rfl (by constructor <;> decide) ⟨by unfold aSiz; rw [if_neg (b01_0.mp c1)], h'⟩
theorem c_X5_points {t p : Int} (h : RC σ T ps P) (ht' : inR t) (hp' : inR p) : Ci l yX5_points wsX5_points (rh 1) D cA ad LC [.inl 0, .inr t, .inr p] σ (fun r τ => r = aPts ps t p ∧ RC τ T ps (pPts ps P t p)) := by
  have h' := h
  obtain ⟨hr, ht, hv, hp⟩ := h
  have hk := kC_of hr ht hv
  have hl := hv.1
  have hl2 := hv.2.1
  refine Ci.walk fX5_points pX5_points [] (by decide) rfl LC_ok tX5_points_ok fX5_points_ok pX5_points_ok klOk_0 (Nat.le_of_ble_eq_true rfl) (fun V M ret => ?_)
  refine M.1 [5] 60 _ ?_
  refine M.2.1 (vs := [.inr t]) (rest := []) rfl oX5_points_X4_isToken rfl rfl (Nat.le_of_ble_eq_true rfl) rfl (c_X4_isToken ht' hk) (fun r τ _ hp2 => ?_)
  obtain ⟨rfl, rfl⟩ := hp2
  rw [hl]
  have no : ¬ (0 ≤ t ∧ t < 256 + ps.length ∧ -100 ≤ p ∧ p ≤ 100) → RC τ T ps (pPts ps P t p) := by
    intro q
    unfold pPts
    rw [if_neg q]
    exact h'
  refine M.1 [12, 27, 39] 60 _ ?_
  refine ⟨b01_r _, fun c1 => ?_, fun c1 => ?_⟩
  · have h1 := Classical.not_not.mp (fun h => c1 (b01_f h))
    refine ⟨⟨hp', by constructor <;> decide⟩, fun c2 => ?_, fun c2 => ?_⟩
    · exact ret rfl (by constructor <;> decide) ⟨by unfold aPts; rw [if_pos h1, if_neg (by omega)], no (by omega)⟩
    · refine ⟨⟨hp', by constructor <;> decide⟩, fun c3 => ?_, fun c3 => ?_⟩
      · refine ⟨⟨by omega, by omega⟩, ?_⟩
        refine ret rfl (by constructor <;> decide) ⟨by unfold aPts; rw [if_pos h1, if_pos (by omega)], rng_stu hr hp' _ _, textC_x ht (by simp [stu, va_up]) (by simp [stu, va_up]), vocC_x hv (by simp [stu, va_up]) (by simp [stu, va_up]) (by simp [stu, va_up]) (by simp [stu, va_up]) (by simp [stu, va_up]) (by simp [stu, va_up]) (by simp [stu, va_up]), ?_⟩
        intro x hx
        unfold pPts
        rw [if_pos (by omega)]
        by_cases e : x = t.toNat
        · subst e
          rw [stu_s, if_pos (by omega)]
        · rw [stu_i _ _ _ e, if_neg (by omega)]
          exact hp x hx
      · exact ret rfl (by constructor <;> decide) ⟨by unfold aPts; rw [if_pos h1, if_neg (by omega)], no (by omega)⟩
  · have h1 := b01_0.mp c1
    exact ret rfl (by constructor <;> decide) ⟨by unfold aPts; rw [if_neg h1], no (by omega)⟩
end X5a
