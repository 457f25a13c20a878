/-! the law's loop -/
section Loop
variable {p : Program} {l : Launch} {e : Env} {s : State} {m : MethodId} {b : Nat} {below : List Frame} {meth : Method} {c : Code} {D : va_G} {cA : Nat → ClassId} {cJ : ClassId} {ad bd : Nat → Nat} {q Ln : Nat} {xs : Nat → Int32}
theorem lw_loop (G : LF p s m c b Ln xs D cA) (hJ : va_K D vwCl (gT cA ++ [(cJ, .long)]) s) (hex : exF s) (hst : l.stackTraces = false) (hr : meth.sig.returnType = ret) (hlk : meth.locks = false) : ∀ (r k n : Nat) (σ τ : St) (f : Nat → Int64) (T : List Int) (ps : PSt) (P : Int → Int), Ln ≤ 3 * k + 3 * r → k ≤ 512 → n ≤ k → LInv σ τ T ps P → WL p l e s m b below meth c (39 + n) (21843 + 6 * n) D 23 (lvC b ad bd q (3 * k)) [] (lwW cA cJ bd ad q τ σ f)
  | r, k, n, σ, τ, f, T, ps, P, hLn, hk, hn, I => by
    intro H locs ls hP hD hS hl
    have hL := G.2.2.2
    refine lv_iload (x := zI ((3 * k : Nat) : Int)) G.1.1.1 G.1.1.2.1 dL_law_23 (hl.2.2 (4, .int (zI ((3 * k : Nat) : Int))) (List.mem_of_getElem? (i := 0) rfl)) ?_
    refine lv_aload_n (i := 0) (x := b) G.1.1.1 G.1.1.2.1 dL_law_25 rfl (hl.2.2 (0, .ref b) (List.mem_of_getElem? (i := 4) rfl)) ?_
    refine va_slen G.1.1.1 G.1.1.2.1 G.2.1 G.2.2.1 (by have := G.2.2.1; omega) hS dL_law_26 ?_
    refine lv_iconst (v := zI 3) G.1.1.1 G.1.1.2.1 dL_law_27 rfl ?_
    refine lv_isub G.1.1.1 G.1.1.2.1 dL_law_28 ?_
    rw [show Int32.ofNat Ln = zI (Ln : Int) from (zI_nat Ln).symm, zI_sub]
    refine lv_icmp_gt (tgt := 558) G.1.1.1 G.1.1.2.1 dL_law_29 (by decide) (fun _ => ?_) (fun hgt => ?_)
    · refine lv_iconst (v := 1) G.1.1.1 G.1.1.2.1 dL_law_558 (by decide) ?_
      exact W.widen (by omega) (by omega) (W.forget (locs := []) (L := locs) hS.2.2 (lw_ret G.1.1.1 G.1.1.2.1 hr hlk dL_law_559))
    · rw [zI_lt (by unfold inR; omega) (by unfold inR; omega)] at hgt
      match r, hLn with
      | 0, hLn => exact absurd hLn (by omega)
      | r + 1, hLn =>
        refine lw_turn (cJ := cJ) (ad := ad) (bd := bd) (q := q) G hJ hex hst (i := 3 * k) (by omega) I (by show 39 + n + 1 ≤ 1064 ∧ 21843 + 6 * n + 6 ≤ 30041; omega) (fun n' σ' τ' f' T' ps' P' hn' I' => ?_) H locs ls hP hD hS hl
        intro H2 locs2 ls2 hP2 hD2 hS2 hl2
        refine lv_iinc (k := 0) (v := zI ((3 * (k + 1) : Nat) : Int)) G.1.1.1 G.1.1.2.1 dL_law_552 hl2 rfl (by
          show zI _ + zI 3 = _
          rw [zI_add]
          congr 1) (by decide) rfl (fun ls3 hl3 => ?_)
        refine lv_goto G.1.1.1 G.1.1.2.1 (tgt := 23) dL_law_555 (by decide) ?_
        have := lw_loop G hJ hex hst hr hlk r (k + 1) (n + n') σ' τ' f' T' ps' P' (by omega) (by omega) (by omega) I' H2 locs2 ls3 hP2 hD2 hS2 hl3
        rw [show 39 + n + n' = 39 + (n + n') by omega, show 21843 + 6 * n + 6 * n' = 21843 + 6 * (n + n') by omega]
        exact this
end Loop
