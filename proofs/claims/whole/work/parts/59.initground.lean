/-! CONSTRUCTOR of the ground: its arrays, its first moment, then reset -/
theorem dfX2 : ∀ j, j < 7 → defaultValue (tyX2 j) = vp_V [.int 0, .int 0, .null, .null, .null, .null, .null] j := by
  intro j hj
  match j, hj with
  | 0, _ => rfl
  | 1, _ => rfl
  | 2, _ => rfl
  | 3, _ => rfl
  | 4, _ => rfl
  | 5, _ => rfl
  | 6, _ => rfl
theorem cX1_29 : Cn RX1 29 mX2_init := ⟨List.mem_of_getElem? (i := 5) rfl, (wsA_in (tb1 (List.mem_of_getElem? (i := 95) rfl)) rfl), (wsA_in (tb1 (List.mem_of_getElem? (i := 5) rfl)) rfl), (wsA_in (tb1 (List.mem_of_getElem? (i := 96) rfl)) rfl), rfl, rfl, by decide +kernel⟩
def mX1_init : Mt := (RX1, yX1_init, cX1_init, 1, none, 0, 0)
abbrev rmX1 : Room := { frames := 2, cells := 11, slots := 62, locals := 40 }
def Zb : Blk := fun _ _ => 0
def Gm (b : Nat) : Mm := wB Zm b 12 (rsD Zb)
theorem Ob_Tb {T : Th} {q n0 nn : Nat} {z : Nat × Nat} (h : Ob T q z) (h1 : n0 ≤ q) (h2 : q < n0 + nn) : Ob (Tb T n0 nn) q z := ⟨⟨h1, h2⟩, h.2⟩
theorem X2_Tb {T : Th} {q n0 nn : Nat} (h : isX2 T q) (h1 : n0 ≤ q) (h2 : q + 5 < n0 + nn) : isX2 (Tb T n0 nn) q := ⟨Ob_Tb h.1 (by omega) (by omega), Ob_Tb h.2.1 (by omega) (by omega), Ob_Tb h.2.2.1 (by omega) (by omega), Ob_Tb h.2.2.2.1 (by omega) (by omega), Ob_Tb h.2.2.2.2.1 (by omega) (by omega), Ob_Tb h.2.2.2.2.2 (by omega) (by omega)⟩
theorem X1_Tb {T : Th} {q n0 nn : Nat} (h : isX1 T q) (h1 : n0 ≤ q) (h2 : q + 11 < n0 + nn) : isX1 (Tb T n0 nn) q := ⟨Ob_Tb h.1 (by omega) (by omega), Ob_Tb h.2.1 (by omega) (by omega), Ob_Tb h.2.2.1 (by omega) (by omega), Ob_Tb h.2.2.2.1 (by omega) (by omega), Ob_Tb h.2.2.2.2.1 (by omega) (by omega), Ob_Tb h.2.2.2.2.2.1 (by omega) (by omega), X2_Tb h.2.2.2.2.2.2 (by omega) (by omega)⟩
theorem cX1_34 : Cv RX1 34 mX1_reset 0 := ⟨(wsA_in (tb1 (List.mem_of_getElem? (i := 171) rfl)) rfl), (wsA_in (tb1 (List.mem_of_getElem? (i := 172) rfl)) rfl), (wsA_in (tb1 (List.mem_of_getElem? (i := 173) rfl)) rfl), (wsA_in (tb1 (List.mem_of_getElem? (i := 7) rfl)) rfl), (wsA_in (tb1 (List.mem_of_getElem? (i := 174) rfl)) rfl), by decide +kernel⟩
theorem i_X1 {T : Th} {b : Nat} (h : isX1 T b) : CM T mX1_init rmX1 b (.inr (1, [.int 0, .int 0, .int 0, .int 0, .int 0, .int 0, .int 0, .int 0, .null, .null, .null, .null, .null, .null])) 12 (Gm b) := by
  have hh := h
  obtain ⟨h0, h1, h2, h3, h4, h5, h6⟩ := h
  refine CM.of (by decide) rfl rfl (by decide) ?_
  change WC T mX1_init rmX1 b 0 [(0, .ref b)] [] [(b, .inr (1, [.int 0, .int 0, .int 0, .int 0, .int 0, .int 0, .int 0, .int 0, .null, .null, .null, .null, .null, .null]))] (b + 1) 0 0 rmX1.cells rmX1.slots _
  refine WC.aload_n 0 (dg tX1_init 0 rfl) rfl rfl ?_
  refine WC.objInit ⟨(wsA_in (tb1 (List.mem_of_getElem? (i := 168) rfl)) rfl), (wsA_in (tb1 (List.mem_of_getElem? (i := 18) rfl)) rfl), (wsA_in (tb1 (List.mem_of_getElem? (i := 19) rfl)) rfl)⟩ (by decide) (by decide) (dg tX1_init 1 rfl) ?_
  refine WC.aload_n 0 (dg tX1_init 2 rfl) rfl rfl ?_
  refine WC.bipush (v := 12) (dg tX1_init 3 rfl) (by decide) ?_
  refine WC.newI (N := 12) (by decide) (by decide) (by decide) (by omega) (by decide) (by decide) (dg tX1_init 4 rfl) ?_
  change WC T mX1_init rmX1 b 9 [(0, .ref b)] [.ref (b + 1), .ref b] [(b, .inr (1, [.int 0, .int 0, .int 0, .int 0, .int 0, .int 0, .int 0, .int 0, .null, .null, .null, .null, .null, .null])), (b + 1, .inl (T.2.2.1 1, 12, .inl (fun _ => 0)))] (b + 2) 1 12 rmX1.cells rmX1.slots _
  refine WC.putF (q0 := 0) (k := 8) (fs := [.int 0, .int 0, .int 0, .int 0, .int 0, .int 0, .int 0, .int 0, .null, .null, .null, .null, .null, .null]) kcX1 (by decide) (wsA_in (tb1 (List.mem_of_getElem? (i := 199) rfl)) rfl) rfl rfl rfl rfl rfl (Nat.le_of_ble_eq_true rfl) (dg tX1_init 5 rfl) ?_
  change WC T mX1_init rmX1 b 12 [(0, .ref b)] [] [(b, .inr (1, [.int 0, .int 0, .int 0, .int 0, .int 0, .int 0, .int 0, .int 0, .ref (b + 1), .null, .null, .null, .null, .null])), (b + 1, .inl (T.2.2.1 1, 12, .inl (fun _ => 0)))] (b + 2) 1 12 rmX1.cells rmX1.slots _
  refine WC.aload_n 0 (dg tX1_init 6 rfl) rfl rfl ?_
  refine WC.iconst (v := 5) (dg tX1_init 7 rfl) rfl ?_
  refine WC.newI (N := 5) (by decide) (by decide) (by decide) (by omega) (by decide) (by decide) (dg tX1_init 8 rfl) ?_
  change WC T mX1_init rmX1 b 16 [(0, .ref b)] [.ref (b + 2), .ref b] [(b, .inr (1, [.int 0, .int 0, .int 0, .int 0, .int 0, .int 0, .int 0, .int 0, .ref (b + 1), .null, .null, .null, .null, .null])), (b + 1, .inl (T.2.2.1 1, 12, .inl (fun _ => 0))), (b + 2, .inl (T.2.2.1 1, 5, .inl (fun _ => 0)))] (b + 3) 2 17 rmX1.cells rmX1.slots _
  refine WC.putF (q0 := 0) (k := 9) (fs := [.int 0, .int 0, .int 0, .int 0, .int 0, .int 0, .int 0, .int 0, .ref (b + 1), .null, .null, .null, .null, .null]) kcX1 (by decide) (wsA_in (tb1 (List.mem_of_getElem? (i := 202) rfl)) rfl) rfl rfl rfl rfl rfl (Nat.le_of_ble_eq_true rfl) (dg tX1_init 9 rfl) ?_
  change WC T mX1_init rmX1 b 19 [(0, .ref b)] [] [(b, .inr (1, [.int 0, .int 0, .int 0, .int 0, .int 0, .int 0, .int 0, .int 0, .ref (b + 1), .ref (b + 2), .null, .null, .null, .null])), (b + 1, .inl (T.2.2.1 1, 12, .inl (fun _ => 0))), (b + 2, .inl (T.2.2.1 1, 5, .inl (fun _ => 0)))] (b + 3) 2 17 rmX1.cells rmX1.slots _
  refine WC.aload_n 0 (dg tX1_init 10 rfl) rfl rfl ?_
  refine WC.iconst (v := 5) (dg tX1_init 11 rfl) rfl ?_
  refine WC.newI (N := 5) (by decide) (by decide) (by decide) (by omega) (by decide) (by decide) (dg tX1_init 12 rfl) ?_
  change WC T mX1_init rmX1 b 23 [(0, .ref b)] [.ref (b + 3), .ref b] [(b, .inr (1, [.int 0, .int 0, .int 0, .int 0, .int 0, .int 0, .int 0, .int 0, .ref (b + 1), .ref (b + 2), .null, .null, .null, .null])), (b + 1, .inl (T.2.2.1 1, 12, .inl (fun _ => 0))), (b + 2, .inl (T.2.2.1 1, 5, .inl (fun _ => 0))), (b + 3, .inl (T.2.2.1 1, 5, .inl (fun _ => 0)))] (b + 4) 3 22 rmX1.cells rmX1.slots _
  refine WC.putF (q0 := 0) (k := 10) (fs := [.int 0, .int 0, .int 0, .int 0, .int 0, .int 0, .int 0, .int 0, .ref (b + 1), .ref (b + 2), .null, .null, .null, .null]) kcX1 (by decide) (wsA_in (tb1 (List.mem_of_getElem? (i := 204) rfl)) rfl) rfl rfl rfl rfl rfl (Nat.le_of_ble_eq_true rfl) (dg tX1_init 13 rfl) ?_
  change WC T mX1_init rmX1 b 26 [(0, .ref b)] [] [(b, .inr (1, [.int 0, .int 0, .int 0, .int 0, .int 0, .int 0, .int 0, .int 0, .ref (b + 1), .ref (b + 2), .ref (b + 3), .null, .null, .null])), (b + 1, .inl (T.2.2.1 1, 12, .inl (fun _ => 0))), (b + 2, .inl (T.2.2.1 1, 5, .inl (fun _ => 0))), (b + 3, .inl (T.2.2.1 1, 5, .inl (fun _ => 0)))] (b + 4) 3 22 rmX1.cells rmX1.slots _
  refine WC.aload_n 0 (dg tX1_init 14 rfl) rfl rfl ?_
  refine WC.iconst (v := 4) (dg tX1_init 15 rfl) rfl ?_
  refine WC.newI (N := 4) (by decide) (by decide) (by decide) (by omega) (by decide) (by decide) (dg tX1_init 16 rfl) ?_
  change WC T mX1_init rmX1 b 30 [(0, .ref b)] [.ref (b + 4), .ref b] [(b, .inr (1, [.int 0, .int 0, .int 0, .int 0, .int 0, .int 0, .int 0, .int 0, .ref (b + 1), .ref (b + 2), .ref (b + 3), .null, .null, .null])), (b + 1, .inl (T.2.2.1 1, 12, .inl (fun _ => 0))), (b + 2, .inl (T.2.2.1 1, 5, .inl (fun _ => 0))), (b + 3, .inl (T.2.2.1 1, 5, .inl (fun _ => 0))), (b + 4, .inl (T.2.2.1 1, 4, .inl (fun _ => 0)))] (b + 5) 4 26 rmX1.cells rmX1.slots _
  refine WC.putF (q0 := 0) (k := 11) (fs := [.int 0, .int 0, .int 0, .int 0, .int 0, .int 0, .int 0, .int 0, .ref (b + 1), .ref (b + 2), .ref (b + 3), .null, .null, .null]) kcX1 (by decide) (wsA_in (tb1 (List.mem_of_getElem? (i := 207) rfl)) rfl) rfl rfl rfl rfl rfl (Nat.le_of_ble_eq_true rfl) (dg tX1_init 17 rfl) ?_
  change WC T mX1_init rmX1 b 33 [(0, .ref b)] [] [(b, .inr (1, [.int 0, .int 0, .int 0, .int 0, .int 0, .int 0, .int 0, .int 0, .ref (b + 1), .ref (b + 2), .ref (b + 3), .ref (b + 4), .null, .null])), (b + 1, .inl (T.2.2.1 1, 12, .inl (fun _ => 0))), (b + 2, .inl (T.2.2.1 1, 5, .inl (fun _ => 0))), (b + 3, .inl (T.2.2.1 1, 5, .inl (fun _ => 0))), (b + 4, .inl (T.2.2.1 1, 4, .inl (fun _ => 0)))] (b + 5) 4 26 rmX1.cells rmX1.slots _
  refine WC.aload_n 0 (dg tX1_init 18 rfl) rfl rfl ?_
  refine WC.iconst (v := 4) (dg tX1_init 19 rfl) rfl ?_
  refine WC.newI (N := 4) (by decide) (by decide) (by decide) (by omega) (by decide) (by decide) (dg tX1_init 20 rfl) ?_
  change WC T mX1_init rmX1 b 37 [(0, .ref b)] [.ref (b + 5), .ref b] [(b, .inr (1, [.int 0, .int 0, .int 0, .int 0, .int 0, .int 0, .int 0, .int 0, .ref (b + 1), .ref (b + 2), .ref (b + 3), .ref (b + 4), .null, .null])), (b + 1, .inl (T.2.2.1 1, 12, .inl (fun _ => 0))), (b + 2, .inl (T.2.2.1 1, 5, .inl (fun _ => 0))), (b + 3, .inl (T.2.2.1 1, 5, .inl (fun _ => 0))), (b + 4, .inl (T.2.2.1 1, 4, .inl (fun _ => 0))), (b + 5, .inl (T.2.2.1 1, 4, .inl (fun _ => 0)))] (b + 6) 5 30 rmX1.cells rmX1.slots _
  refine WC.putF (q0 := 0) (k := 12) (fs := [.int 0, .int 0, .int 0, .int 0, .int 0, .int 0, .int 0, .int 0, .ref (b + 1), .ref (b + 2), .ref (b + 3), .ref (b + 4), .null, .null]) kcX1 (by decide) (wsA_in (tb1 (List.mem_of_getElem? (i := 208) rfl)) rfl) rfl rfl rfl rfl rfl (Nat.le_of_ble_eq_true rfl) (dg tX1_init 21 rfl) ?_
  change WC T mX1_init rmX1 b 40 [(0, .ref b)] [] [(b, .inr (1, [.int 0, .int 0, .int 0, .int 0, .int 0, .int 0, .int 0, .int 0, .ref (b + 1), .ref (b + 2), .ref (b + 3), .ref (b + 4), .ref (b + 5), .null])), (b + 1, .inl (T.2.2.1 1, 12, .inl (fun _ => 0))), (b + 2, .inl (T.2.2.1 1, 5, .inl (fun _ => 0))), (b + 3, .inl (T.2.2.1 1, 5, .inl (fun _ => 0))), (b + 4, .inl (T.2.2.1 1, 4, .inl (fun _ => 0))), (b + 5, .inl (T.2.2.1 1, 4, .inl (fun _ => 0)))] (b + 6) 5 30 rmX1.cells rmX1.slots _
  refine WC.aload_n 0 (dg tX1_init 22 rfl) rfl rfl ?_
  refine WC.new (fs := [.int 0, .int 0, .null, .null, .null, .null, .null]) kcX2 (wsA_in (tb1 (List.mem_of_getElem? (i := 169) rfl)) rfl) (wsA_in (tb1 (List.mem_of_getElem? (i := 93) rfl)) rfl) (wsA_in (tb1 (List.mem_of_getElem? (i := 5) rfl)) rfl) dfX2 (by omega) (by decide) (by decide) (dg tX1_init 23 rfl) ?_
  refine WC.dup (dg tX1_init 24 rfl) rfl ?_
  refine WC.callN (ρ' := rmX2) cX1_29 ⟨⟨by decide, by decide⟩, by decide, by decide⟩ (Nat.le_of_ble_eq_true rfl) (dg tX1_init 25 rfl) (by omega) (i_X2 h6) ?_
  refine WC.putF (q0 := 0) (k := 13) (fs := [.int 0, .int 0, .int 0, .int 0, .int 0, .int 0, .int 0, .int 0, .ref (b + 1), .ref (b + 2), .ref (b + 3), .ref (b + 4), .ref (b + 5), .null]) kcX1 (by decide) (wsA_in (tb1 (List.mem_of_getElem? (i := 209) rfl)) rfl) rfl rfl rfl rfl rfl (Nat.le_of_ble_eq_true rfl) (dg tX1_init 26 rfl) ?_
  change WC T mX1_init rmX1 b 51 [(0, .ref b)] [] ([(b, .inr (1, [.int 0, .int 0, .int 0, .int 0, .int 0, .int 0, .int 0, .int 0, .ref (b + 1), .ref (b + 2), .ref (b + 3), .ref (b + 4), .ref (b + 5), .ref (b + 6)])), (b + 1, .inl (T.2.2.1 1, 12, .inl (fun _ => 0))), (b + 2, .inl (T.2.2.1 1, 5, .inl (fun _ => 0))), (b + 3, .inl (T.2.2.1 1, 5, .inl (fun _ => 0))), (b + 4, .inl (T.2.2.1 1, 4, .inl (fun _ => 0))), (b + 5, .inl (T.2.2.1 1, 4, .inl (fun _ => 0)))] ++ wl (Tb T (b + 6) 6) Zm) (b + 12) 11 62 rmX1.cells rmX1.slots _
  refine WC.aload_n 0 (dg tX1_init 27 rfl) rfl rfl ?_
  refine WC.callR (M := Zm) (k := 12) (ci := 1) (Q' := fun M' => M' = Gm b) cX1_34 rfl h0.2 rfl (by omega) (fun H hP => RR_app (a := 6) (b := 6) (RR_list (P_left hP) ?_) (P_right hP)) ⟨by decide, by decide⟩ ⟨by decide, by decide⟩ (dg tX1_init 28 rfl) ?_ (fun M' e => ?_)
  · intro j hj
    match j, hj with
    | 0, _ => exact congrArg some (Prod.ext rfl (cell_obj (M := Zm) h0).symm)
    | 1, _ => exact congrArg some (Prod.ext rfl (cell_i (M := Zm) h1).symm)
    | 2, _ => exact congrArg some (Prod.ext rfl (cell_i (M := Zm) h2).symm)
    | 3, _ => exact congrArg some (Prod.ext rfl (cell_i (M := Zm) h3).symm)
    | 4, _ => exact congrArg some (Prod.ext rfl (cell_i (M := Zm) h4).symm)
    | 5, _ => exact congrArg some (Prod.ext rfl (cell_i (M := Zm) h5).symm)
  · have e : wB Zm b 12 (bk Zm b) = Zm := wB_self
    have hr := c_reset (T := Tb T b 12) (M := Zm) (d := b) (D := bk Zm b) (Q := fun M' => M' = Gm b) (X1_Tb hh (Nat.le_refl _) (by omega)) rfl
    rw [e] at hr
    exact hr
  · subst e
    exact WC.ret rfl (dg tX1_init 29 rfl) (fun H hP hz => ⟨hz, hP⟩)
