/-! THE LAW: its loop -/
theorem gt5 {i L : Nat} (hL : L ≤ 320) (hi : i ≤ 330) : (nI L - 5 < nI i) ↔ ¬ i + 5 ≤ L := by
  by_cases h5 : 5 ≤ L
  · obtain ⟨k, rfl⟩ : ∃ k, L = k + 5 := ⟨L - 5, by omega⟩
    have e : nI (k + 5) - 5 = nI k := by
      rw [← nI_add]
      show nI k + 5 - 5 = nI k
      grind
    rw [e, nI_ltI (by omega) (by omega)]
    omega
  · have h : nI L - 5 < 0 := by
      have hl : L = 0 ∨ L = 1 ∨ L = 2 ∨ L = 3 ∨ L = 4 := by omega
      rcases hl with rfl | rfl | rfl | rfl | rfl <;> decide
    have h2 : (0 : Int32) ≤ nI i := nI_pos' (by omega)
    exact ⟨fun _ => by omega, fun _ => by grind⟩
section
variable {T : Th} {x y b L : Nat} {xs : Nat → Int32}
theorem law_out {M M' : Mm} {i : Nat} (hL : L ≤ 320) (hi : i ≤ 330) (h : ¬ i + 5 ≤ L) : LW T y b L xs 18 (LL x y b i) [] M M' := by
  refine LW.iload_n 0 dL_law_18 rfl rfl ?_
  refine LW.aload_n 3 dL_law_19 rfl rfl ?_
  refine LW.slen dL_law_20 ?_
  refine LW.iconst (v := 5) dL_law_21 rfl ?_
  refine LW.isub dL_law_22 ?_
  refine LW.icmp_gt (tgt := 848) dL_law_23 rfl (fun _ => ?_) (fun hn => absurd ((gt5 hL hi).mpr h) hn)
  refine LW.iconst (v := 1) dL_law_848 rfl ?_
  exact LW.ret dL_law_849
theorem law_in {M M' : Mm} {i : Nat} (hL : L ≤ 320) (hi : i + 5 ≤ L) (hC : LayC T x) (h7 : isX7 (Tb T y 26) y) (hI : Inv x y M M') (ih : ∀ N N', Inv x y N N' → LW T y b L xs 18 (LL x y b (i + 5)) [] N N') : LW T y b L xs 18 (LL x y b i) [] M M' := by
  have hk : ∀ N N', Inv x y N N' → LW T y b L xs 842 (LL x y b i) [] N N' := by
    intro N N' hN
    refine LW.iinc (v := nI (i + 5)) 0 dL_law_842 rfl (nI_add i 5) (by decide) rfl ?_
    exact LW.goto (tgt := 18) dL_law_845 rfl (ih N N' hN)
  refine LW.iload_n 0 dL_law_18 rfl rfl ?_
  refine LW.aload_n 3 dL_law_19 rfl rfl ?_
  refine LW.slen dL_law_20 ?_
  refine LW.iconst (v := 5) dL_law_21 rfl ?_
  refine LW.isub dL_law_22 ?_
  refine LW.icmp_gt (tgt := 848) dL_law_23 rfl (fun hn => absurd hi ((gt5 hL (by omega)).mp hn)) (fun _ => ?_)
  refine LW.aload_n 3 dL_law_26 rfl rfl ?_
  refine LW.iload_n 0 dL_law_27 rfl rfl ?_
  refine LW.sld (vp_in_nI (by omega) (by omega)) dL_law_28 ?_
  refine LW.bipush (v := 31) dL_law_29 (by decide) ?_
  refine LW.iand dL_law_31 ?_
  obtain ⟨k, hk32, hk2⟩ := pk_andE (xs (nI i).toNatClampNeg) (m := 31) 5 rfl
  rw [hk2]
  have tin : ∀ (k : Nat) (off : Int) (tgt : Nat), k < 26 → (#[120, 143, 156, 169, 202, 235, 258, 281, 294, 327, 360, 373, 416, 439, 462, 485, 508, 521, 554, 587, 641, 694, 727, 750, 773, 796] : Array Int)[k]? = some off → (32 : Int) + off = (tgt : Int) → LW T y b L xs tgt (LL x y b i) [] M M' → LW T y b L xs 32 (LL x y b i) [.int (nI k)] M M' := by
    intro k off tgt hk1 ho ht h
    have e : (nI k).toInt = (k : Int) := nI_toInt (by omega)
    refine LW.tableIn dL_law_32 (by rw [e]; omega) (by rw [e]; omega) (off := off) ?_ ht h
    rw [e, show ((k : Int) - 0).toNat = k by omega]
    exact ho
  by_cases h26 : k < 26
  · match k, h26 with
    | 0, _ => exact tin 0 120 152 (by decide) rfl rfl (lc_type hL hi hC h7 hI hk)
    | 1, _ => exact tin 1 143 175 (by decide) rfl rfl (lc_clear hL hi hC h7 hI hk)
    | 2, _ => exact tin 2 156 188 (by decide) rfl rfl (lc_world hL hi hC h7 hI hk)
    | 3, _ => exact tin 3 169 201 (by decide) rfl rfl (lc_place hL hi hC h7 hI hk)
    | 4, _ => exact tin 4 202 234 (by decide) rfl rfl (lc_wagon hL hi hC h7 hI hk)
    | 5, _ => exact tin 5 235 267 (by decide) rfl rfl (lc_now hL hi hC h7 hI hk)
    | 6, _ => exact tin 6 258 290 (by decide) rfl rfl (lc_sun hL hi hC h7 hI hk)
    | 7, _ => exact tin 7 281 313 (by decide) rfl rfl (lc_minute hL hi hC h7 hI hk)
    | 8, _ => exact tin 8 294 326 (by decide) rfl rfl (lc_stand hL hi hC h7 hI hk)
    | 9, _ => exact tin 9 327 359 (by decide) rfl rfl (lc_change hL hi hC h7 hI hk)
    | 10, _ => exact tin 10 360 392 (by decide) rfl rfl (lc_undo hL hi hC h7 hI hk)
    | 11, _ => exact tin 11 373 405 (by decide) rfl rfl (lc_behind hL hi hC h7 hI hk)
    | 12, _ => exact tin 12 416 448 (by decide) rfl rfl (lc_caught hL hi hC h7 hI hk)
    | 13, _ => exact tin 13 439 471 (by decide) rfl rfl (lc_waits hL hi hC h7 hI hk)
    | 14, _ => exact tin 14 462 494 (by decide) rfl rfl (lc_stands hL hi hC h7 hI hk)
    | 15, _ => exact tin 15 485 517 (by decide) rfl rfl (lc_starts hL hi hC h7 hI hk)
    | 16, _ => exact tin 16 508 540 (by decide) rfl rfl (lc_bars hL hi hC h7 hI hk)
    | 17, _ => exact tin 17 521 553 (by decide) rfl rfl (lc_pieces hL hi hC h7 hI hk)
    | 18, _ => exact tin 18 554 586 (by decide) rfl rfl (lc_met hL hi hC h7 hI hk)
    | 19, _ => exact tin 19 587 619 (by decide) rfl rfl (lc_odds hL hi hC h7 hI hk)
    | 20, _ => exact tin 20 641 673 (by decide) rfl rfl (lc_keepAhead hL hi hC h7 hI hk)
    | 21, _ => exact tin 21 694 726 (by decide) rfl rfl (lc_mark hL hi hC h7 hI hk)
    | 22, _ => exact tin 22 727 759 (by decide) rfl rfl (lc_keep hL hi hC h7 hI hk)
    | 23, _ => exact tin 23 750 782 (by decide) rfl rfl (lc_back hL hi hC h7 hI hk)
    | 24, _ => exact tin 24 773 805 (by decide) rfl rfl (lc_count hL hi hC h7 hI hk)
    | 25, _ => exact tin 25 796 828 (by decide) rfl rfl (lc_trace hL hi hC h7 hI hk)
    | k + 26, h => exact absurd h (by omega)
  · have e : (nI k).toInt = (k : Int) := nI_toInt (by omega)
    refine LW.tableOut (tgt := 842) dL_law_32 (Or.inr (by rw [e]; omega)) rfl (hk M M' hI)
theorem law_loop (hL : L ≤ 320) (hC : LayC T x) (h7 : isX7 (Tb T y 26) y) : ∀ (d i : Nat), L ≤ i + 5 * d → i ≤ 330 → ∀ M M', Inv x y M M' → LW T y b L xs 18 (LL x y b i) [] M M' := by
  intro d
  induction d with
  | zero =>
    intro i h1 h2 M M' hI
    exact law_out hL h2 (by omega)
  | succ d ih =>
    intro i h1 h2 M M' hI
    by_cases h : i + 5 ≤ L
    · exact law_in hL h hC h7 hI (ih (i + 5) (by omega) (by omega))
    · exact law_out hL h2 h
end
