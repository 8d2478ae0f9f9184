/-! CONSTRUCTOR of the class -/
theorem dfX4 : ∀ j, j < 7 → defaultValue (tyX4 j) = vp_V [.null, .int 0, .int 0, .int 0, .int 0, .int 0, .int 0] j := by
  intro j hj
  match j, hj with
  | 0, _ => rfl
  | 1, _ => rfl
  | 2, _ => rfl
  | 3, _ => rfl
  | 4, _ => rfl
  | 5, _ => rfl
  | 6, _ => rfl
theorem dfX3 : ∀ j, j < 5 → defaultValue (tyX3 j) = vp_V [.int 0, .int 0, .null, .null, .null] j := by
  intro j hj
  match j, hj with
  | 0, _ => rfl
  | 1, _ => rfl
  | 2, _ => rfl
  | 3, _ => rfl
  | 4, _ => rfl
theorem dfX0 : ∀ j, j < 3 → defaultValue (tyX0 j) = vp_V [.int 0, .null, .null] j := by
  intro j hj
  match j, hj with
  | 0, _ => rfl
  | 1, _ => rfl
  | 2, _ => rfl
theorem dfX5 : ∀ j, j < 4 → defaultValue (tyX5 j) = vp_V [.null, .null, .int 0, .int 0] j := by
  intro j hj
  match j, hj with
  | 0, _ => rfl
  | 1, _ => rfl
  | 2, _ => rfl
  | 3, _ => rfl
theorem dfX1 : ∀ j, j < 14 → defaultValue (tyX1 j) = vp_V [.int 0, .int 0, .int 0, .int 0, .int 0, .int 0, .int 0, .int 0, .null, .null, .null, .null, .null, .null] j := by
  intro j hj
  match j, hj with
  | 0, _ => rfl
  | 1, _ => rfl
  | 2, _ => rfl
  | 3, _ => rfl
  | 4, _ => rfl
  | 5, _ => rfl
  | 6, _ => rfl
  | 7, _ => rfl
  | 8, _ => rfl
  | 9, _ => rfl
  | 10, _ => rfl
  | 11, _ => rfl
  | 12, _ => rfl
  | 13, _ => rfl
theorem cX6_9 : Cn RX6 9 mX4_init := ⟨List.mem_of_getElem? (i := 0) rfl, (wsA_in (tb1 (List.mem_of_getElem? (i := 23) rfl)) rfl), (wsA_in (tb1 (List.mem_of_getElem? (i := 2) rfl)) rfl), (wsA_in (tb1 (List.mem_of_getElem? (i := 24) rfl)) rfl), rfl, rfl, by decide +kernel⟩
theorem cX6_18 : Cn RX6 18 mX3_init := ⟨List.mem_of_getElem? (i := 1) rfl, (wsA_in (tb1 (List.mem_of_getElem? (i := 53) rfl)) rfl), (wsA_in (tb1 (List.mem_of_getElem? (i := 3) rfl)) rfl), (wsA_in (tb1 (List.mem_of_getElem? (i := 54) rfl)) rfl), rfl, rfl, by decide +kernel⟩
theorem cX6_25 : Cn RX6 25 mX0_init := ⟨List.mem_of_getElem? (i := 2) rfl, (wsA_in (tb1 (List.mem_of_getElem? (i := 78) rfl)) rfl), (wsA_in (tb1 (List.mem_of_getElem? (i := 4) rfl)) rfl), (wsA_in (tb1 (List.mem_of_getElem? (i := 79) rfl)) rfl), rfl, rfl, by decide +kernel⟩
theorem cX6_32 : Cn RX6 32 mX2_init := ⟨List.mem_of_getElem? (i := 3) rfl, (wsA_in (tb1 (List.mem_of_getElem? (i := 95) rfl)) rfl), (wsA_in (tb1 (List.mem_of_getElem? (i := 5) rfl)) rfl), (wsA_in (tb1 (List.mem_of_getElem? (i := 96) rfl)) rfl), rfl, rfl, by decide +kernel⟩
theorem cX6_39 : Ci RX6 39 mX5_init := ⟨(wsA_in (tb1 (List.mem_of_getElem? (i := 141) rfl)) rfl), (wsA_in (tb1 (List.mem_of_getElem? (i := 142) rfl)) rfl), (wsA_in (tb1 (List.mem_of_getElem? (i := 6) rfl)) rfl), (wsA_in (tb1 (List.mem_of_getElem? (i := 143) rfl)) rfl), rfl, rfl, by decide +kernel⟩
theorem cX6_52 : Ci RX6 52 mX1_init := ⟨(wsA_in (tb1 (List.mem_of_getElem? (i := 165) rfl)) rfl), (wsA_in (tb1 (List.mem_of_getElem? (i := 166) rfl)) rfl), (wsA_in (tb1 (List.mem_of_getElem? (i := 7) rfl)) rfl), (wsA_in (tb1 (List.mem_of_getElem? (i := 167) rfl)) rfl), rfl, rfl, by decide +kernel⟩
def mX6_init : Mt := (RX6, yX6_init, cX6_init, 1, none, 0, 0)
abbrev rmX6 : Room := { frames := 3, cells := 243, slots := 1532, locals := 61 }
def W0 (x : Nat) : Mm := (fun q k => if q < x + 220 then 0 else if q < x + 232 then (Gm (x + 220)).1 q k else (Gm (x + 232)).1 q k, fun _ _ => 0, fun q i => if q = x then (if i = 7 then x + 220 else x + 232) else if q = x + 23 then x + 24 + 6 * i else if q = x + 91 then x + 92 + 6 * i else if q = x + 159 then x + 160 + 6 * i else 0)
theorem W0_RR {T : Th} {x : Nat} {H : Heap} (h : isX6 T x) (hP : va_P T.2.1 vwCl ([(x, .inr (6, [.ref (x + 1), .ref (x + 3), .ref (x + 7), .ref (x + 10), .ref (x + 16), .ref (x + 84), .ref (x + 152), .ref (x + 220), .ref (x + 232), .long 0]))] ++ wl (Tb T (x + 1) 2) Zm ++ wl (Tb T (x + 3) 4) Zm ++ wl (Tb T (x + 7) 3) Zm ++ wl (Tb T (x + 10) 6) Zm ++ wl (Tb T (x + 16) 68) (Sm (x + 16)) ++ wl (Tb T (x + 84) 68) (Sm (x + 84)) ++ wl (Tb T (x + 152) 68) (Sm (x + 152)) ++ wl (Tb T (x + 220) 12) (Gm (x + 220)) ++ wl (Tb T (x + 232) 12) (Gm (x + 232))) H) : RR (Tb T x 244) (W0 x) H := by
  have k9 : RR (Tb T (x + 232) 12) (W0 x) H := by
    refine RR_cong (M := Gm (x + 232)) (P_right hP) (fun a ha => ?_)
    have ha := Tb_AA.mp ha
    refine ⟨?_, rfl, ?_⟩
    · funext i
      simp only [W0, Sm, Zm, Gm, wB]
      (repeat' split) <;> first | omega | rfl
    · funext i
      simp only [W0, Sm, Zm, Gm, wB]
      (repeat' split) <;> omega
  have k8 : RR (Tb T (x + 220) 12) (W0 x) H := by
    refine RR_cong (M := Gm (x + 220)) (P_right (P_left hP)) (fun a ha => ?_)
    have ha := Tb_AA.mp ha
    refine ⟨?_, rfl, ?_⟩
    · funext i
      simp only [W0, Sm, Zm, Gm, wB]
      (repeat' split) <;> first | omega | rfl
    · funext i
      simp only [W0, Sm, Zm, Gm, wB]
      (repeat' split) <;> omega
  have k7 : RR (Tb T (x + 152) 68) (W0 x) H := by
    refine RR_cong (M := Sm (x + 152)) (P_right (P_left (P_left hP))) (fun a ha => ?_)
    have ha := Tb_AA.mp ha
    refine ⟨?_, rfl, ?_⟩
    · funext i
      simp only [W0, Sm, Zm, Gm, wB]
      (repeat' split) <;> first | omega | rfl
    · funext i
      simp only [W0, Sm, Zm, Gm, wB]
      (repeat' split) <;> omega
  have k6 : RR (Tb T (x + 84) 68) (W0 x) H := by
    refine RR_cong (M := Sm (x + 84)) (P_right (P_left (P_left (P_left hP)))) (fun a ha => ?_)
    have ha := Tb_AA.mp ha
    refine ⟨?_, rfl, ?_⟩
    · funext i
      simp only [W0, Sm, Zm, Gm, wB]
      (repeat' split) <;> first | omega | rfl
    · funext i
      simp only [W0, Sm, Zm, Gm, wB]
      (repeat' split) <;> omega
  have k5 : RR (Tb T (x + 16) 68) (W0 x) H := by
    refine RR_cong (M := Sm (x + 16)) (P_right (P_left (P_left (P_left (P_left hP))))) (fun a ha => ?_)
    have ha := Tb_AA.mp ha
    refine ⟨?_, rfl, ?_⟩
    · funext i
      simp only [W0, Sm, Zm, Gm, wB]
      (repeat' split) <;> first | omega | rfl
    · funext i
      simp only [W0, Sm, Zm, Gm, wB]
      (repeat' split) <;> omega
  have k4 : RR (Tb T (x + 10) 6) (W0 x) H := by
    refine RR_cong (M := Zm) (P_right (P_left (P_left (P_left (P_left (P_left hP)))))) (fun a ha => ?_)
    have ha := Tb_AA.mp ha
    refine ⟨?_, rfl, ?_⟩
    · funext i
      simp only [W0, Sm, Zm, Gm, wB]
      (repeat' split) <;> first | omega | rfl
    · funext i
      simp only [W0, Sm, Zm, Gm, wB]
      (repeat' split) <;> omega
  have k3 : RR (Tb T (x + 7) 3) (W0 x) H := by
    refine RR_cong (M := Zm) (P_right (P_left (P_left (P_left (P_left (P_left (P_left hP))))))) (fun a ha => ?_)
    have ha := Tb_AA.mp ha
    refine ⟨?_, rfl, ?_⟩
    · funext i
      simp only [W0, Sm, Zm, Gm, wB]
      (repeat' split) <;> first | omega | rfl
    · funext i
      simp only [W0, Sm, Zm, Gm, wB]
      (repeat' split) <;> omega
  have k2 : RR (Tb T (x + 3) 4) (W0 x) H := by
    refine RR_cong (M := Zm) (P_right (P_left (P_left (P_left (P_left (P_left (P_left (P_left hP)))))))) (fun a ha => ?_)
    have ha := Tb_AA.mp ha
    refine ⟨?_, rfl, ?_⟩
    · funext i
      simp only [W0, Sm, Zm, Gm, wB]
      (repeat' split) <;> first | omega | rfl
    · funext i
      simp only [W0, Sm, Zm, Gm, wB]
      (repeat' split) <;> omega
  have k1 : RR (Tb T (x + 1) 2) (W0 x) H := by
    refine RR_cong (M := Zm) (P_right (P_left (P_left (P_left (P_left (P_left (P_left (P_left (P_left hP))))))))) (fun a ha => ?_)
    have ha := Tb_AA.mp ha
    refine ⟨?_, rfl, ?_⟩
    · funext i
      simp only [W0, Sm, Zm, Gm, wB]
      (repeat' split) <;> first | omega | rfl
    · funext i
      simp only [W0, Sm, Zm, Gm, wB]
      (repeat' split) <;> omega
  have k0 : RR (Tb T x 1) (W0 x) H := RR_list (P_left (P_left (P_left (P_left (P_left (P_left (P_left (P_left (P_left hP))))))))) (fun j hj => by
    match j, hj with
    | 0, _ =>
      refine congrArg some (Prod.ext rfl ((cell_obj (M := W0 x) h.1).trans ?_).symm)
      have e0 : (W0 x).2.2 x 7 = x + 220 := by simp [W0]
      have e1 : (W0 x).2.2 x 8 = x + 232 := by simp [W0]
      show Sum.inr (6, [Value.ref (x + 1), .ref (x + 3), .ref (x + 7), .ref (x + 10), .ref (x + 16), .ref (x + 84), .ref (x + 152), .ref ((W0 x).2.2 x 7), .ref ((W0 x).2.2 x 8), .long 0]) = _
      rw [e0, e1])
  exact (RR_app (a := 232) (RR_app (a := 220) (RR_app (a := 152) (RR_app (a := 84) (RR_app (a := 16) (RR_app (a := 10) (RR_app (a := 7) (RR_app (a := 3) (RR_app (a := 1) k0 k1) k2) k3) k4) k5) k6) k7) k8) k9)
set_option maxHeartbeats 1000000 in
theorem i_X6 {T : Th} {x : Nat} (hL : LayC T x) : CM T mX6_init rmX6 x (.inr (6, [.null, .null, .null, .null, .null, .null, .null, .null, .null, .long 0])) 244 (W0 x) := by
  refine CM.of (by decide) rfl rfl (by decide) ?_
  change WC T mX6_init rmX6 x 0 [(0, .ref x)] [] [(x, .inr (6, [.null, .null, .null, .null, .null, .null, .null, .null, .null, .long 0]))] (x + 1) 0 0 rmX6.cells rmX6.slots _
  refine WC.aload_n 0 (dg tX6_init 0 rfl) rfl rfl ?_
  refine WC.objInit ⟨(wsA_in (tb1 (List.mem_of_getElem? (i := 17) rfl)) rfl), (wsA_in (tb1 (List.mem_of_getElem? (i := 18) rfl)) rfl), (wsA_in (tb1 (List.mem_of_getElem? (i := 19) rfl)) rfl)⟩ (by decide) (by decide) (dg tX6_init 1 rfl) ?_
  refine WC.aload_n 0 (dg tX6_init 2 rfl) rfl rfl ?_
  refine WC.new (fs := [.null, .int 0, .int 0, .int 0, .int 0, .int 0, .int 0]) kcX4 (wsA_in (tb1 (List.mem_of_getElem? (i := 20) rfl)) rfl) (wsA_in (tb1 (List.mem_of_getElem? (i := 21) rfl)) rfl) (wsA_in (tb1 (List.mem_of_getElem? (i := 2) rfl)) rfl) dfX4 (by omega) (by decide) (by decide) (dg tX6_init 3 rfl) ?_
  refine WC.dup (dg tX6_init 4 rfl) rfl ?_
  refine WC.callN (ρ' := rmX4) cX6_9 ⟨⟨by decide, by decide⟩, by decide, by decide⟩ (Nat.le_of_ble_eq_true rfl) (dg tX6_init 5 rfl) (by omega) (i_X4 hL.1.2.1) ?_
  refine WC.putF (q0 := 0) (k := 0) (fs := [.null, .null, .null, .null, .null, .null, .null, .null, .null, .long 0]) kcX6 (by decide) (wsA_in (tb2 (List.mem_of_getElem? (i := 1) rfl)) rfl) rfl rfl rfl rfl rfl (Nat.le_of_ble_eq_true rfl) (dg tX6_init 6 rfl) ?_
  change WC T mX6_init rmX6 x 15 [(0, .ref x)] [] ([(x, .inr (6, [.ref (x + 1), .null, .null, .null, .null, .null, .null, .null, .null, .long 0]))] ++ wl (Tb T (x + 1) 2) Zm) (x + 3) 2 207 rmX6.cells rmX6.slots _
  refine WC.aload_n 0 (dg tX6_init 7 rfl) rfl rfl ?_
  refine WC.new (fs := [.int 0, .int 0, .null, .null, .null]) kcX3 (wsA_in (tb1 (List.mem_of_getElem? (i := 50) rfl)) rfl) (wsA_in (tb1 (List.mem_of_getElem? (i := 51) rfl)) rfl) (wsA_in (tb1 (List.mem_of_getElem? (i := 3) rfl)) rfl) dfX3 (by omega) (by decide) (by decide) (dg tX6_init 8 rfl) ?_
  refine WC.dup (dg tX6_init 9 rfl) rfl ?_
  refine WC.callN (ρ' := rmX3) cX6_18 ⟨⟨by decide, by decide⟩, by decide, by decide⟩ (Nat.le_of_ble_eq_true rfl) (dg tX6_init 10 rfl) (by omega) (i_X3 hL.1.2.2.1) ?_
  refine WC.putF (q0 := 0) (k := 1) (fs := [.ref (x + 1), .null, .null, .null, .null, .null, .null, .null, .null, .long 0]) kcX6 (by decide) (wsA_in (tb2 (List.mem_of_getElem? (i := 2) rfl)) rfl) rfl rfl rfl rfl rfl (Nat.le_of_ble_eq_true rfl) (dg tX6_init 11 rfl) ?_
  change WC T mX6_init rmX6 x 26 [(0, .ref x)] [] ([(x, .inr (6, [.ref (x + 1), .ref (x + 3), .null, .null, .null, .null, .null, .null, .null, .long 0]))] ++ wl (Tb T (x + 1) 2) Zm ++ wl (Tb T (x + 3) 4) Zm) (x + 7) 6 221 rmX6.cells rmX6.slots _
  refine WC.aload_n 0 (dg tX6_init 12 rfl) rfl rfl ?_
  refine WC.new (fs := [.int 0, .null, .null]) kcX0 (wsA_in (tb1 (List.mem_of_getElem? (i := 75) rfl)) rfl) (wsA_in (tb1 (List.mem_of_getElem? (i := 76) rfl)) rfl) (wsA_in (tb1 (List.mem_of_getElem? (i := 4) rfl)) rfl) dfX0 (by omega) (by decide) (by decide) (dg tX6_init 13 rfl) ?_
  refine WC.dup (dg tX6_init 14 rfl) rfl ?_
  refine WC.callN (ρ' := rmX0) cX6_25 ⟨⟨by decide, by decide⟩, by decide, by decide⟩ (Nat.le_of_ble_eq_true rfl) (dg tX6_init 15 rfl) (by omega) (i_X0 hL.1.2.2.2.1) ?_
  refine WC.putF (q0 := 0) (k := 2) (fs := [.ref (x + 1), .ref (x + 3), .null, .null, .null, .null, .null, .null, .null, .long 0]) kcX6 (by decide) (wsA_in (tb2 (List.mem_of_getElem? (i := 3) rfl)) rfl) rfl rfl rfl rfl rfl (Nat.le_of_ble_eq_true rfl) (dg tX6_init 16 rfl) ?_
  change WC T mX6_init rmX6 x 37 [(0, .ref x)] [] ([(x, .inr (6, [.ref (x + 1), .ref (x + 3), .ref (x + 7), .null, .null, .null, .null, .null, .null, .long 0]))] ++ wl (Tb T (x + 1) 2) Zm ++ wl (Tb T (x + 3) 4) Zm ++ wl (Tb T (x + 7) 3) Zm) (x + 10) 9 250 rmX6.cells rmX6.slots _
  refine WC.aload_n 0 (dg tX6_init 17 rfl) rfl rfl ?_
  refine WC.new (fs := [.int 0, .int 0, .null, .null, .null, .null, .null]) kcX2 (wsA_in (tb1 (List.mem_of_getElem? (i := 92) rfl)) rfl) (wsA_in (tb1 (List.mem_of_getElem? (i := 93) rfl)) rfl) (wsA_in (tb1 (List.mem_of_getElem? (i := 5) rfl)) rfl) dfX2 (by omega) (by decide) (by decide) (dg tX6_init 18 rfl) ?_
  refine WC.dup (dg tX6_init 19 rfl) rfl ?_
  refine WC.callN (ρ' := rmX2) cX6_32 ⟨⟨by decide, by decide⟩, by decide, by decide⟩ (Nat.le_of_ble_eq_true rfl) (dg tX6_init 20 rfl) (by omega) (i_X2 hL.1.2.2.2.2.1) ?_
  refine WC.putF (q0 := 0) (k := 3) (fs := [.ref (x + 1), .ref (x + 3), .ref (x + 7), .null, .null, .null, .null, .null, .null, .long 0]) kcX6 (by decide) (wsA_in (tb2 (List.mem_of_getElem? (i := 4) rfl)) rfl) rfl rfl rfl rfl rfl (Nat.le_of_ble_eq_true rfl) (dg tX6_init 21 rfl) ?_
  change WC T mX6_init rmX6 x 48 [(0, .ref x)] [] ([(x, .inr (6, [.ref (x + 1), .ref (x + 3), .ref (x + 7), .ref (x + 10), .null, .null, .null, .null, .null, .long 0]))] ++ wl (Tb T (x + 1) 2) Zm ++ wl (Tb T (x + 3) 4) Zm ++ wl (Tb T (x + 7) 3) Zm ++ wl (Tb T (x + 10) 6) Zm) (x + 16) 15 282 rmX6.cells rmX6.slots _
  refine WC.aload_n 0 (dg tX6_init 22 rfl) rfl rfl ?_
  refine WC.new (fs := [.null, .null, .int 0, .int 0]) kcX5 (wsA_in (tb1 (List.mem_of_getElem? (i := 139) rfl)) rfl) (wsA_in (tb1 (List.mem_of_getElem? (i := 140) rfl)) rfl) (wsA_in (tb1 (List.mem_of_getElem? (i := 6) rfl)) rfl) dfX5 (by omega) (by decide) (by decide) (dg tX6_init 23 rfl) ?_
  refine WC.dup (dg tX6_init 24 rfl) rfl ?_
  refine WC.call (ρ' := rmX5) cX6_39 ⟨⟨by decide, by decide⟩, by decide, by decide⟩ (Nat.le_of_ble_eq_true rfl) (dg tX6_init 25 rfl) (by omega) (i_X5 hL.1.2.2.2.2.2.1 hL.2.1) ?_
  refine WC.putF (q0 := 0) (k := 4) (fs := [.ref (x + 1), .ref (x + 3), .ref (x + 7), .ref (x + 10), .null, .null, .null, .null, .null, .long 0]) kcX6 (by decide) (wsA_in (tb2 (List.mem_of_getElem? (i := 5) rfl)) rfl) rfl rfl rfl rfl rfl (Nat.le_of_ble_eq_true rfl) (dg tX6_init 26 rfl) ?_
  change WC T mX6_init rmX6 x 59 [(0, .ref x)] [] ([(x, .inr (6, [.ref (x + 1), .ref (x + 3), .ref (x + 7), .ref (x + 10), .ref (x + 16), .null, .null, .null, .null, .long 0]))] ++ wl (Tb T (x + 1) 2) Zm ++ wl (Tb T (x + 3) 4) Zm ++ wl (Tb T (x + 7) 3) Zm ++ wl (Tb T (x + 10) 6) Zm ++ wl (Tb T (x + 16) 68) (Sm (x + 16))) (x + 84) 83 648 rmX6.cells rmX6.slots _
  refine WC.aload_n 0 (dg tX6_init 27 rfl) rfl rfl ?_
  refine WC.new (fs := [.null, .null, .int 0, .int 0]) kcX5 (wsA_in (tb1 (List.mem_of_getElem? (i := 139) rfl)) rfl) (wsA_in (tb1 (List.mem_of_getElem? (i := 140) rfl)) rfl) (wsA_in (tb1 (List.mem_of_getElem? (i := 6) rfl)) rfl) dfX5 (by omega) (by decide) (by decide) (dg tX6_init 28 rfl) ?_
  refine WC.dup (dg tX6_init 29 rfl) rfl ?_
  refine WC.call (ρ' := rmX5) cX6_39 ⟨⟨by decide, by decide⟩, by decide, by decide⟩ (Nat.le_of_ble_eq_true rfl) (dg tX6_init 30 rfl) (by omega) (i_X5 hL.1.2.2.2.2.2.2.1 hL.2.2.1) ?_
  refine WC.putF (q0 := 0) (k := 5) (fs := [.ref (x + 1), .ref (x + 3), .ref (x + 7), .ref (x + 10), .ref (x + 16), .null, .null, .null, .null, .long 0]) kcX6 (by decide) (wsA_in (tb2 (List.mem_of_getElem? (i := 6) rfl)) rfl) rfl rfl rfl rfl rfl (Nat.le_of_ble_eq_true rfl) (dg tX6_init 31 rfl) ?_
  change WC T mX6_init rmX6 x 70 [(0, .ref x)] [] ([(x, .inr (6, [.ref (x + 1), .ref (x + 3), .ref (x + 7), .ref (x + 10), .ref (x + 16), .ref (x + 84), .null, .null, .null, .long 0]))] ++ wl (Tb T (x + 1) 2) Zm ++ wl (Tb T (x + 3) 4) Zm ++ wl (Tb T (x + 7) 3) Zm ++ wl (Tb T (x + 10) 6) Zm ++ wl (Tb T (x + 16) 68) (Sm (x + 16)) ++ wl (Tb T (x + 84) 68) (Sm (x + 84))) (x + 152) 151 1014 rmX6.cells rmX6.slots _
  refine WC.aload_n 0 (dg tX6_init 32 rfl) rfl rfl ?_
  refine WC.new (fs := [.null, .null, .int 0, .int 0]) kcX5 (wsA_in (tb1 (List.mem_of_getElem? (i := 139) rfl)) rfl) (wsA_in (tb1 (List.mem_of_getElem? (i := 140) rfl)) rfl) (wsA_in (tb1 (List.mem_of_getElem? (i := 6) rfl)) rfl) dfX5 (by omega) (by decide) (by decide) (dg tX6_init 33 rfl) ?_
  refine WC.dup (dg tX6_init 34 rfl) rfl ?_
  refine WC.call (ρ' := rmX5) cX6_39 ⟨⟨by decide, by decide⟩, by decide, by decide⟩ (Nat.le_of_ble_eq_true rfl) (dg tX6_init 35 rfl) (by omega) (i_X5 hL.1.2.2.2.2.2.2.2 hL.2.2.2.1) ?_
  refine WC.putF (q0 := 0) (k := 6) (fs := [.ref (x + 1), .ref (x + 3), .ref (x + 7), .ref (x + 10), .ref (x + 16), .ref (x + 84), .null, .null, .null, .long 0]) kcX6 (by decide) (wsA_in (tb2 (List.mem_of_getElem? (i := 7) rfl)) rfl) rfl rfl rfl rfl rfl (Nat.le_of_ble_eq_true rfl) (dg tX6_init 36 rfl) ?_
  change WC T mX6_init rmX6 x 81 [(0, .ref x)] [] ([(x, .inr (6, [.ref (x + 1), .ref (x + 3), .ref (x + 7), .ref (x + 10), .ref (x + 16), .ref (x + 84), .ref (x + 152), .null, .null, .long 0]))] ++ wl (Tb T (x + 1) 2) Zm ++ wl (Tb T (x + 3) 4) Zm ++ wl (Tb T (x + 7) 3) Zm ++ wl (Tb T (x + 10) 6) Zm ++ wl (Tb T (x + 16) 68) (Sm (x + 16)) ++ wl (Tb T (x + 84) 68) (Sm (x + 84)) ++ wl (Tb T (x + 152) 68) (Sm (x + 152))) (x + 220) 219 1380 rmX6.cells rmX6.slots _
  refine WC.aload_n 0 (dg tX6_init 37 rfl) rfl rfl ?_
  refine WC.new (fs := [.int 0, .int 0, .int 0, .int 0, .int 0, .int 0, .int 0, .int 0, .null, .null, .null, .null, .null, .null]) kcX1 (wsA_in (tb1 (List.mem_of_getElem? (i := 163) rfl)) rfl) (wsA_in (tb1 (List.mem_of_getElem? (i := 164) rfl)) rfl) (wsA_in (tb1 (List.mem_of_getElem? (i := 7) rfl)) rfl) dfX1 (by omega) (by decide) (by decide) (dg tX6_init 38 rfl) ?_
  refine WC.dup (dg tX6_init 39 rfl) rfl ?_
  refine WC.call (ρ' := rmX1) cX6_52 ⟨⟨by decide, by decide⟩, by decide, by decide⟩ (Nat.le_of_ble_eq_true rfl) (dg tX6_init 40 rfl) (by omega) (i_X1 hL.2.2.2.2.1) ?_
  refine WC.put (q0 := 0) (k := 7) (fs := [.ref (x + 1), .ref (x + 3), .ref (x + 7), .ref (x + 10), .ref (x + 16), .ref (x + 84), .ref (x + 152), .null, .null, .long 0]) kcX6 (by decide) (wsA_in (tb2 (List.mem_of_getElem? (i := 8) rfl)) rfl) rfl rfl rfl rfl (Nat.le_of_ble_eq_true rfl) (dg tX6_init 41 rfl) ?_
  change WC T mX6_init rmX6 x 92 [(0, .ref x)] [] ([(x, .inr (6, [.ref (x + 1), .ref (x + 3), .ref (x + 7), .ref (x + 10), .ref (x + 16), .ref (x + 84), .ref (x + 152), .ref (x + 220), .null, .long 0]))] ++ wl (Tb T (x + 1) 2) Zm ++ wl (Tb T (x + 3) 4) Zm ++ wl (Tb T (x + 7) 3) Zm ++ wl (Tb T (x + 10) 6) Zm ++ wl (Tb T (x + 16) 68) (Sm (x + 16)) ++ wl (Tb T (x + 84) 68) (Sm (x + 84)) ++ wl (Tb T (x + 152) 68) (Sm (x + 152)) ++ wl (Tb T (x + 220) 12) (Gm (x + 220))) (x + 232) 231 1456 rmX6.cells rmX6.slots _
  refine WC.aload_n 0 (dg tX6_init 42 rfl) rfl rfl ?_
  refine WC.new (fs := [.int 0, .int 0, .int 0, .int 0, .int 0, .int 0, .int 0, .int 0, .null, .null, .null, .null, .null, .null]) kcX1 (wsA_in (tb1 (List.mem_of_getElem? (i := 163) rfl)) rfl) (wsA_in (tb1 (List.mem_of_getElem? (i := 164) rfl)) rfl) (wsA_in (tb1 (List.mem_of_getElem? (i := 7) rfl)) rfl) dfX1 (by omega) (by decide) (by decide) (dg tX6_init 43 rfl) ?_
  refine WC.dup (dg tX6_init 44 rfl) rfl ?_
  refine WC.call (ρ' := rmX1) cX6_52 ⟨⟨by decide, by decide⟩, by decide, by decide⟩ (Nat.le_of_ble_eq_true rfl) (dg tX6_init 45 rfl) (by omega) (i_X1 hL.2.2.2.2.2) ?_
  refine WC.put (q0 := 0) (k := 8) (fs := [.ref (x + 1), .ref (x + 3), .ref (x + 7), .ref (x + 10), .ref (x + 16), .ref (x + 84), .ref (x + 152), .ref (x + 220), .null, .long 0]) kcX6 (by decide) (wsA_in (tb2 (List.mem_of_getElem? (i := 9) rfl)) rfl) rfl rfl rfl rfl (Nat.le_of_ble_eq_true rfl) (dg tX6_init 46 rfl) ?_
  change WC T mX6_init rmX6 x 103 [(0, .ref x)] [] ([(x, .inr (6, [.ref (x + 1), .ref (x + 3), .ref (x + 7), .ref (x + 10), .ref (x + 16), .ref (x + 84), .ref (x + 152), .ref (x + 220), .ref (x + 232), .long 0]))] ++ wl (Tb T (x + 1) 2) Zm ++ wl (Tb T (x + 3) 4) Zm ++ wl (Tb T (x + 7) 3) Zm ++ wl (Tb T (x + 10) 6) Zm ++ wl (Tb T (x + 16) 68) (Sm (x + 16)) ++ wl (Tb T (x + 84) 68) (Sm (x + 84)) ++ wl (Tb T (x + 152) 68) (Sm (x + 152)) ++ wl (Tb T (x + 220) 12) (Gm (x + 220)) ++ wl (Tb T (x + 232) 12) (Gm (x + 232))) (x + 244) 243 1532 rmX6.cells rmX6.slots _
  exact WC.ret (ce := 243) (sl := 1532) rfl (dg tX6_init 47 rfl) (fun H hP hz => ⟨hz, W0_RR hL.1 hP⟩)
