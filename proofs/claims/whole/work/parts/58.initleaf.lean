/-! CONSTRUCTORS of the small classes -/
def Zm : Mm := (fun _ _ => 0, fun _ _ => 0, fun _ _ => 0)
theorem RR_list {T : Th} {b k : Nat} {M : Mm} {X : va_W} {H : Heap} (hP : va_P T.2.1 vwCl X H) (h : ∀ j, j < k → X[j]? = some (b + j, cellOf T M (b + j))) : RR (Tb T b k) M H := by
  rw [RR_at]
  intro q hq
  have hq := Tb_AA.mp hq
  have h1 := hP _ _ (h (q - b) (by omega))
  rw [show b + (q - b) = q by omega] at h1
  exact h1
section
variable {T : Th} {μ : Mt} {ρ : Room} {a pc : Nat} {L : List (Nat × Value)} {st : List Value} {X : va_W} {n ce sl kc ks : Nat} {Φ : Heap → Prop}
theorem WC.newI {k : Int32} {N : Nat} (hk : ¬ k < 0) (hN : k.toNatClampNeg = N) (hb : N ≤ 10000) (han : a ≤ n) (hce : ce + 1 ≤ ρ.cells) (hsl : sl + N ≤ ρ.slots) (hd : decode μ.2.2.1 pc = .ok (.newarray .int, 2)) (h : WC T μ ρ a (pc + 2) L (.ref n :: st) (X ++ [(n, .inl (T.2.2.1 1, N, .inl (fun _ => 0)))]) (n + 1) (ce + 1) (sl + N) kc ks Φ) : WC T μ ρ a pc L (.int k :: st) X n ce sl kc ks Φ :=
  WC.newa (atype := .int) (wsA_in (tb1 (List.mem_of_getElem? (i := 49) rfl)) rfl) (fun s hK => (hK.2 0 _ rfl).2) (by rw [vp_cell_i]; rfl) hk hN (Nat.le_trans (Nat.mul_le_mul hb (show componentBytes (newarray.typeOf .int) ≤ 8 by decide)) (by decide)) han hce hsl hd h
theorem WC.newL {k : Int32} {N : Nat} (hk : ¬ k < 0) (hN : k.toNatClampNeg = N) (hb : N ≤ 10000) (han : a ≤ n) (hce : ce + 1 ≤ ρ.cells) (hsl : sl + N ≤ ρ.slots) (hd : decode μ.2.2.1 pc = .ok (.newarray .long, 2)) (h : WC T μ ρ a (pc + 2) L (.ref n :: st) (X ++ [(n, .inl (T.2.2.1 2, N, .inr (.inl (fun _ => 0))))]) (n + 1) (ce + 1) (sl + N) kc ks Φ) : WC T μ ρ a pc L (.int k :: st) X n ce sl kc ks Φ :=
  WC.newa (atype := .long) (wsA_in (tb1 (List.mem_of_getElem? (i := 91) rfl)) rfl) (fun s hK => (hK.2 1 _ rfl).2) (by rw [vp_cell_l]; rfl) hk hN (Nat.le_trans (Nat.mul_le_mul hb (show componentBytes (newarray.typeOf .long) ≤ 8 by decide)) (by decide)) han hce hsl hd h
theorem WC.newB {k : Int32} {N : Nat} (hk : ¬ k < 0) (hN : k.toNatClampNeg = N) (hb : N ≤ 10000) (han : a ≤ n) (hce : ce + 1 ≤ ρ.cells) (hsl : sl + N ≤ ρ.slots) (hd : decode μ.2.2.1 pc = .ok (.newarray .byte, 2)) (h : WC T μ ρ a (pc + 2) L (.ref n :: st) (X ++ [(n, .inl (T.2.2.1 3, N, .inl (fun _ => 0)))]) (n + 1) (ce + 1) (sl + N) kc ks Φ) : WC T μ ρ a pc L (.int k :: st) X n ce sl kc ks Φ :=
  WC.newa (atype := .byte) (wsA_in (tb4 (List.mem_of_getElem? (i := 74) rfl)) rfl) (fun s hK => (hK.2 2 _ rfl).2) (by rw [vp_cell_i]; rfl) hk hN (Nat.le_trans (Nat.mul_le_mul hb (show componentBytes (newarray.typeOf .byte) ≤ 8 by decide)) (by decide)) han hce hsl hd h
theorem WC.newZ {k : Int32} {N : Nat} (hk : ¬ k < 0) (hN : k.toNatClampNeg = N) (hb : N ≤ 10000) (han : a ≤ n) (hce : ce + 1 ≤ ρ.cells) (hsl : sl + N ≤ ρ.slots) (hd : decode μ.2.2.1 pc = .ok (.newarray .boolean, 2)) (h : WC T μ ρ a (pc + 2) L (.ref n :: st) (X ++ [(n, .inl (T.2.2.1 4, N, .inl (fun _ => 0)))]) (n + 1) (ce + 1) (sl + N) kc ks Φ) : WC T μ ρ a pc L (.int k :: st) X n ce sl kc ks Φ :=
  WC.newa (atype := .boolean) (wsA_in (tb4 (List.mem_of_getElem? (i := 75) rfl)) rfl) (fun s hK => (hK.2 3 _ rfl).2) (by rw [vp_cell_i]; rfl) hk hN (Nat.le_trans (Nat.mul_le_mul hb (show componentBytes (newarray.typeOf .boolean) ≤ 8 by decide)) (by decide)) han hce hsl hd h
end
def mX2_init : Mt := (RX2, yX2_init, cX2_init, 1, none, 0, 0)
abbrev rmX2 : Room := { frames := 1, cells := 5, slots := 25, locals := 20 }
theorem i_X2 {T : Th} {b : Nat} (h : isX2 T b) : CM T mX2_init rmX2 b (.inr (2, [.int 0, .int 0, .null, .null, .null, .null, .null])) 6 Zm := by
  refine CM.of (by decide) rfl rfl (by decide) ?_
  change WC T mX2_init rmX2 b 0 [(0, .ref b)] [] [(b, .inr (2, [.int 0, .int 0, .null, .null, .null, .null, .null]))] (b + 1) 0 0 rmX2.cells rmX2.slots _
  refine WC.aload_n 0 (dg tX2_init 0 rfl) rfl rfl ?_
  refine WC.objInit ⟨(wsA_in (tb1 (List.mem_of_getElem? (i := 97) rfl)) rfl), (wsA_in (tb1 (List.mem_of_getElem? (i := 18) rfl)) rfl), (wsA_in (tb1 (List.mem_of_getElem? (i := 19) rfl)) rfl)⟩ (by decide) (by decide) (dg tX2_init 1 rfl) ?_
  refine WC.aload_n 0 (dg tX2_init 2 rfl) rfl rfl ?_
  refine WC.iconst (v := 5) (dg tX2_init 3 rfl) rfl ?_
  refine WC.newI (N := 5) (by decide) (by decide) (by decide) (by omega) (by decide) (by decide) (dg tX2_init 4 rfl) ?_
  change WC T mX2_init rmX2 b 8 [(0, .ref b)] [.ref (b + 1), .ref b] [(b, .inr (2, [.int 0, .int 0, .null, .null, .null, .null, .null])), (b + 1, .inl (T.2.2.1 1, 5, .inl (fun _ => 0)))] (b + 2) 1 5 rmX2.cells rmX2.slots _
  refine WC.putF (q0 := 0) (k := 2) (fs := [.int 0, .int 0, .null, .null, .null, .null, .null]) kcX2 (by decide) (wsA_in (tb1 (List.mem_of_getElem? (i := 105) rfl)) rfl) rfl rfl rfl rfl rfl (Nat.le_of_ble_eq_true rfl) (dg tX2_init 5 rfl) ?_
  change WC T mX2_init rmX2 b 11 [(0, .ref b)] [] [(b, .inr (2, [.int 0, .int 0, .ref (b + 1), .null, .null, .null, .null])), (b + 1, .inl (T.2.2.1 1, 5, .inl (fun _ => 0)))] (b + 2) 1 5 rmX2.cells rmX2.slots _
  refine WC.aload_n 0 (dg tX2_init 6 rfl) rfl rfl ?_
  refine WC.iconst (v := 5) (dg tX2_init 7 rfl) rfl ?_
  refine WC.newI (N := 5) (by decide) (by decide) (by decide) (by omega) (by decide) (by decide) (dg tX2_init 8 rfl) ?_
  change WC T mX2_init rmX2 b 15 [(0, .ref b)] [.ref (b + 2), .ref b] [(b, .inr (2, [.int 0, .int 0, .ref (b + 1), .null, .null, .null, .null])), (b + 1, .inl (T.2.2.1 1, 5, .inl (fun _ => 0))), (b + 2, .inl (T.2.2.1 1, 5, .inl (fun _ => 0)))] (b + 3) 2 10 rmX2.cells rmX2.slots _
  refine WC.putF (q0 := 0) (k := 3) (fs := [.int 0, .int 0, .ref (b + 1), .null, .null, .null, .null]) kcX2 (by decide) (wsA_in (tb1 (List.mem_of_getElem? (i := 109) rfl)) rfl) rfl rfl rfl rfl rfl (Nat.le_of_ble_eq_true rfl) (dg tX2_init 9 rfl) ?_
  change WC T mX2_init rmX2 b 18 [(0, .ref b)] [] [(b, .inr (2, [.int 0, .int 0, .ref (b + 1), .ref (b + 2), .null, .null, .null])), (b + 1, .inl (T.2.2.1 1, 5, .inl (fun _ => 0))), (b + 2, .inl (T.2.2.1 1, 5, .inl (fun _ => 0)))] (b + 3) 2 10 rmX2.cells rmX2.slots _
  refine WC.aload_n 0 (dg tX2_init 10 rfl) rfl rfl ?_
  refine WC.iconst (v := 5) (dg tX2_init 11 rfl) rfl ?_
  refine WC.newI (N := 5) (by decide) (by decide) (by decide) (by omega) (by decide) (by decide) (dg tX2_init 12 rfl) ?_
  change WC T mX2_init rmX2 b 22 [(0, .ref b)] [.ref (b + 3), .ref b] [(b, .inr (2, [.int 0, .int 0, .ref (b + 1), .ref (b + 2), .null, .null, .null])), (b + 1, .inl (T.2.2.1 1, 5, .inl (fun _ => 0))), (b + 2, .inl (T.2.2.1 1, 5, .inl (fun _ => 0))), (b + 3, .inl (T.2.2.1 1, 5, .inl (fun _ => 0)))] (b + 4) 3 15 rmX2.cells rmX2.slots _
  refine WC.putF (q0 := 0) (k := 4) (fs := [.int 0, .int 0, .ref (b + 1), .ref (b + 2), .null, .null, .null]) kcX2 (by decide) (wsA_in (tb1 (List.mem_of_getElem? (i := 112) rfl)) rfl) rfl rfl rfl rfl rfl (Nat.le_of_ble_eq_true rfl) (dg tX2_init 13 rfl) ?_
  change WC T mX2_init rmX2 b 25 [(0, .ref b)] [] [(b, .inr (2, [.int 0, .int 0, .ref (b + 1), .ref (b + 2), .ref (b + 3), .null, .null])), (b + 1, .inl (T.2.2.1 1, 5, .inl (fun _ => 0))), (b + 2, .inl (T.2.2.1 1, 5, .inl (fun _ => 0))), (b + 3, .inl (T.2.2.1 1, 5, .inl (fun _ => 0)))] (b + 4) 3 15 rmX2.cells rmX2.slots _
  refine WC.aload_n 0 (dg tX2_init 14 rfl) rfl rfl ?_
  refine WC.iconst (v := 5) (dg tX2_init 15 rfl) rfl ?_
  refine WC.newI (N := 5) (by decide) (by decide) (by decide) (by omega) (by decide) (by decide) (dg tX2_init 16 rfl) ?_
  change WC T mX2_init rmX2 b 29 [(0, .ref b)] [.ref (b + 4), .ref b] [(b, .inr (2, [.int 0, .int 0, .ref (b + 1), .ref (b + 2), .ref (b + 3), .null, .null])), (b + 1, .inl (T.2.2.1 1, 5, .inl (fun _ => 0))), (b + 2, .inl (T.2.2.1 1, 5, .inl (fun _ => 0))), (b + 3, .inl (T.2.2.1 1, 5, .inl (fun _ => 0))), (b + 4, .inl (T.2.2.1 1, 5, .inl (fun _ => 0)))] (b + 5) 4 20 rmX2.cells rmX2.slots _
  refine WC.putF (q0 := 0) (k := 5) (fs := [.int 0, .int 0, .ref (b + 1), .ref (b + 2), .ref (b + 3), .null, .null]) kcX2 (by decide) (wsA_in (tb1 (List.mem_of_getElem? (i := 116) rfl)) rfl) rfl rfl rfl rfl rfl (Nat.le_of_ble_eq_true rfl) (dg tX2_init 17 rfl) ?_
  change WC T mX2_init rmX2 b 32 [(0, .ref b)] [] [(b, .inr (2, [.int 0, .int 0, .ref (b + 1), .ref (b + 2), .ref (b + 3), .ref (b + 4), .null])), (b + 1, .inl (T.2.2.1 1, 5, .inl (fun _ => 0))), (b + 2, .inl (T.2.2.1 1, 5, .inl (fun _ => 0))), (b + 3, .inl (T.2.2.1 1, 5, .inl (fun _ => 0))), (b + 4, .inl (T.2.2.1 1, 5, .inl (fun _ => 0)))] (b + 5) 4 20 rmX2.cells rmX2.slots _
  refine WC.aload_n 0 (dg tX2_init 18 rfl) rfl rfl ?_
  refine WC.iconst (v := 5) (dg tX2_init 19 rfl) rfl ?_
  refine WC.newI (N := 5) (by decide) (by decide) (by decide) (by omega) (by decide) (by decide) (dg tX2_init 20 rfl) ?_
  change WC T mX2_init rmX2 b 36 [(0, .ref b)] [.ref (b + 5), .ref b] [(b, .inr (2, [.int 0, .int 0, .ref (b + 1), .ref (b + 2), .ref (b + 3), .ref (b + 4), .null])), (b + 1, .inl (T.2.2.1 1, 5, .inl (fun _ => 0))), (b + 2, .inl (T.2.2.1 1, 5, .inl (fun _ => 0))), (b + 3, .inl (T.2.2.1 1, 5, .inl (fun _ => 0))), (b + 4, .inl (T.2.2.1 1, 5, .inl (fun _ => 0))), (b + 5, .inl (T.2.2.1 1, 5, .inl (fun _ => 0)))] (b + 6) 5 25 rmX2.cells rmX2.slots _
  refine WC.putF (q0 := 0) (k := 6) (fs := [.int 0, .int 0, .ref (b + 1), .ref (b + 2), .ref (b + 3), .ref (b + 4), .null]) kcX2 (by decide) (wsA_in (tb1 (List.mem_of_getElem? (i := 120) rfl)) rfl) rfl rfl rfl rfl rfl (Nat.le_of_ble_eq_true rfl) (dg tX2_init 21 rfl) ?_
  change WC T mX2_init rmX2 b 39 [(0, .ref b)] [] [(b, .inr (2, [.int 0, .int 0, .ref (b + 1), .ref (b + 2), .ref (b + 3), .ref (b + 4), .ref (b + 5)])), (b + 1, .inl (T.2.2.1 1, 5, .inl (fun _ => 0))), (b + 2, .inl (T.2.2.1 1, 5, .inl (fun _ => 0))), (b + 3, .inl (T.2.2.1 1, 5, .inl (fun _ => 0))), (b + 4, .inl (T.2.2.1 1, 5, .inl (fun _ => 0))), (b + 5, .inl (T.2.2.1 1, 5, .inl (fun _ => 0)))] (b + 6) 5 25 rmX2.cells rmX2.slots _
  refine WC.ret rfl (dg tX2_init 22 rfl) (fun H hP hz => ⟨hz, RR_list hP ?_⟩)
  obtain ⟨h0, h1, h2, h3, h4, h5⟩ := h
  intro j hj
  match j, hj with
  | 0, _ => exact congrArg some (Prod.ext rfl (cell_obj (M := Zm) h0).symm)
  | 1, _ => exact congrArg some (Prod.ext rfl (cell_i (M := Zm) h1).symm)
  | 2, _ => exact congrArg some (Prod.ext rfl (cell_i (M := Zm) h2).symm)
  | 3, _ => exact congrArg some (Prod.ext rfl (cell_i (M := Zm) h3).symm)
  | 4, _ => exact congrArg some (Prod.ext rfl (cell_i (M := Zm) h4).symm)
  | 5, _ => exact congrArg some (Prod.ext rfl (cell_i (M := Zm) h5).symm)
def mX0_init : Mt := (RX0, yX0_init, cX0_init, 1, none, 0, 0)
abbrev rmX0 : Room := { frames := 1, cells := 2, slots := 26, locals := 20 }
theorem i_X0 {T : Th} {b : Nat} (h : isX0 T b) : CM T mX0_init rmX0 b (.inr (0, [.int 0, .null, .null])) 3 Zm := by
  refine CM.of (by decide) rfl rfl (by decide) ?_
  change WC T mX0_init rmX0 b 0 [(0, .ref b)] [] [(b, .inr (0, [.int 0, .null, .null]))] (b + 1) 0 0 rmX0.cells rmX0.slots _
  refine WC.aload_n 0 (dg tX0_init 0 rfl) rfl rfl ?_
  refine WC.objInit ⟨(wsA_in (tb1 (List.mem_of_getElem? (i := 80) rfl)) rfl), (wsA_in (tb1 (List.mem_of_getElem? (i := 18) rfl)) rfl), (wsA_in (tb1 (List.mem_of_getElem? (i := 19) rfl)) rfl)⟩ (by decide) (by decide) (dg tX0_init 1 rfl) ?_
  refine WC.aload_n 0 (dg tX0_init 2 rfl) rfl rfl ?_
  refine WC.bipush (v := 13) (dg tX0_init 3 rfl) (by decide) ?_
  refine WC.newI (N := 13) (by decide) (by decide) (by decide) (by omega) (by decide) (by decide) (dg tX0_init 4 rfl) ?_
  change WC T mX0_init rmX0 b 9 [(0, .ref b)] [.ref (b + 1), .ref b] [(b, .inr (0, [.int 0, .null, .null])), (b + 1, .inl (T.2.2.1 1, 13, .inl (fun _ => 0)))] (b + 2) 1 13 rmX0.cells rmX0.slots _
  refine WC.putF (q0 := 0) (k := 1) (fs := [.int 0, .null, .null]) kcX0 (by decide) (wsA_in (tb1 (List.mem_of_getElem? (i := 82) rfl)) rfl) rfl rfl rfl rfl rfl (Nat.le_of_ble_eq_true rfl) (dg tX0_init 5 rfl) ?_
  change WC T mX0_init rmX0 b 12 [(0, .ref b)] [] [(b, .inr (0, [.int 0, .ref (b + 1), .null])), (b + 1, .inl (T.2.2.1 1, 13, .inl (fun _ => 0)))] (b + 2) 1 13 rmX0.cells rmX0.slots _
  refine WC.aload_n 0 (dg tX0_init 6 rfl) rfl rfl ?_
  refine WC.bipush (v := 13) (dg tX0_init 7 rfl) (by decide) ?_
  refine WC.newL (N := 13) (by decide) (by decide) (by decide) (by omega) (by decide) (by decide) (dg tX0_init 8 rfl) ?_
  change WC T mX0_init rmX0 b 17 [(0, .ref b)] [.ref (b + 2), .ref b] [(b, .inr (0, [.int 0, .ref (b + 1), .null])), (b + 1, .inl (T.2.2.1 1, 13, .inl (fun _ => 0))), (b + 2, .inl (T.2.2.1 2, 13, .inr (.inl (fun _ => 0))))] (b + 3) 2 26 rmX0.cells rmX0.slots _
  refine WC.putF (q0 := 0) (k := 2) (fs := [.int 0, .ref (b + 1), .null]) kcX0 (by decide) (wsA_in (tb1 (List.mem_of_getElem? (i := 83) rfl)) rfl) rfl rfl rfl rfl rfl (Nat.le_of_ble_eq_true rfl) (dg tX0_init 9 rfl) ?_
  change WC T mX0_init rmX0 b 20 [(0, .ref b)] [] [(b, .inr (0, [.int 0, .ref (b + 1), .ref (b + 2)])), (b + 1, .inl (T.2.2.1 1, 13, .inl (fun _ => 0))), (b + 2, .inl (T.2.2.1 2, 13, .inr (.inl (fun _ => 0))))] (b + 3) 2 26 rmX0.cells rmX0.slots _
  refine WC.ret rfl (dg tX0_init 10 rfl) (fun H hP hz => ⟨hz, RR_list hP ?_⟩)
  obtain ⟨h0, h1, h2⟩ := h
  intro j hj
  match j, hj with
  | 0, _ => exact congrArg some (Prod.ext rfl (cell_obj (M := Zm) h0).symm)
  | 1, _ => exact congrArg some (Prod.ext rfl (cell_i (M := Zm) h1).symm)
  | 2, _ => exact congrArg some (Prod.ext rfl (cell_l (M := Zm) h2).symm)
def mX3_init : Mt := (RX3, yX3_init, cX3_init, 1, none, 0, 0)
abbrev rmX3 : Room := { frames := 1, cells := 3, slots := 9, locals := 20 }
theorem i_X3 {T : Th} {b : Nat} (h : isX3 T b) : CM T mX3_init rmX3 b (.inr (3, [.int 0, .int 0, .null, .null, .null])) 4 Zm := by
  refine CM.of (by decide) rfl rfl (by decide) ?_
  change WC T mX3_init rmX3 b 0 [(0, .ref b)] [] [(b, .inr (3, [.int 0, .int 0, .null, .null, .null]))] (b + 1) 0 0 rmX3.cells rmX3.slots _
  refine WC.aload_n 0 (dg tX3_init 0 rfl) rfl rfl ?_
  refine WC.objInit ⟨(wsA_in (tb1 (List.mem_of_getElem? (i := 55) rfl)) rfl), (wsA_in (tb1 (List.mem_of_getElem? (i := 18) rfl)) rfl), (wsA_in (tb1 (List.mem_of_getElem? (i := 19) rfl)) rfl)⟩ (by decide) (by decide) (dg tX3_init 1 rfl) ?_
  refine WC.aload_n 0 (dg tX3_init 2 rfl) rfl rfl ?_
  refine WC.iconst (v := 3) (dg tX3_init 3 rfl) rfl ?_
  refine WC.newI (N := 3) (by decide) (by decide) (by decide) (by omega) (by decide) (by decide) (dg tX3_init 4 rfl) ?_
  change WC T mX3_init rmX3 b 8 [(0, .ref b)] [.ref (b + 1), .ref b] [(b, .inr (3, [.int 0, .int 0, .null, .null, .null])), (b + 1, .inl (T.2.2.1 1, 3, .inl (fun _ => 0)))] (b + 2) 1 3 rmX3.cells rmX3.slots _
  refine WC.putF (q0 := 0) (k := 2) (fs := [.int 0, .int 0, .null, .null, .null]) kcX3 (by decide) (wsA_in (tb1 (List.mem_of_getElem? (i := 60) rfl)) rfl) rfl rfl rfl rfl rfl (Nat.le_of_ble_eq_true rfl) (dg tX3_init 5 rfl) ?_
  change WC T mX3_init rmX3 b 11 [(0, .ref b)] [] [(b, .inr (3, [.int 0, .int 0, .ref (b + 1), .null, .null])), (b + 1, .inl (T.2.2.1 1, 3, .inl (fun _ => 0)))] (b + 2) 1 3 rmX3.cells rmX3.slots _
  refine WC.aload_n 0 (dg tX3_init 6 rfl) rfl rfl ?_
  refine WC.iconst (v := 3) (dg tX3_init 7 rfl) rfl ?_
  refine WC.newI (N := 3) (by decide) (by decide) (by decide) (by omega) (by decide) (by decide) (dg tX3_init 8 rfl) ?_
  change WC T mX3_init rmX3 b 15 [(0, .ref b)] [.ref (b + 2), .ref b] [(b, .inr (3, [.int 0, .int 0, .ref (b + 1), .null, .null])), (b + 1, .inl (T.2.2.1 1, 3, .inl (fun _ => 0))), (b + 2, .inl (T.2.2.1 1, 3, .inl (fun _ => 0)))] (b + 3) 2 6 rmX3.cells rmX3.slots _
  refine WC.putF (q0 := 0) (k := 3) (fs := [.int 0, .int 0, .ref (b + 1), .null, .null]) kcX3 (by decide) (wsA_in (tb1 (List.mem_of_getElem? (i := 62) rfl)) rfl) rfl rfl rfl rfl rfl (Nat.le_of_ble_eq_true rfl) (dg tX3_init 9 rfl) ?_
  change WC T mX3_init rmX3 b 18 [(0, .ref b)] [] [(b, .inr (3, [.int 0, .int 0, .ref (b + 1), .ref (b + 2), .null])), (b + 1, .inl (T.2.2.1 1, 3, .inl (fun _ => 0))), (b + 2, .inl (T.2.2.1 1, 3, .inl (fun _ => 0)))] (b + 3) 2 6 rmX3.cells rmX3.slots _
  refine WC.aload_n 0 (dg tX3_init 10 rfl) rfl rfl ?_
  refine WC.iconst (v := 3) (dg tX3_init 11 rfl) rfl ?_
  refine WC.newI (N := 3) (by decide) (by decide) (by decide) (by omega) (by decide) (by decide) (dg tX3_init 12 rfl) ?_
  change WC T mX3_init rmX3 b 22 [(0, .ref b)] [.ref (b + 3), .ref b] [(b, .inr (3, [.int 0, .int 0, .ref (b + 1), .ref (b + 2), .null])), (b + 1, .inl (T.2.2.1 1, 3, .inl (fun _ => 0))), (b + 2, .inl (T.2.2.1 1, 3, .inl (fun _ => 0))), (b + 3, .inl (T.2.2.1 1, 3, .inl (fun _ => 0)))] (b + 4) 3 9 rmX3.cells rmX3.slots _
  refine WC.putF (q0 := 0) (k := 4) (fs := [.int 0, .int 0, .ref (b + 1), .ref (b + 2), .null]) kcX3 (by decide) (wsA_in (tb1 (List.mem_of_getElem? (i := 63) rfl)) rfl) rfl rfl rfl rfl rfl (Nat.le_of_ble_eq_true rfl) (dg tX3_init 13 rfl) ?_
  change WC T mX3_init rmX3 b 25 [(0, .ref b)] [] [(b, .inr (3, [.int 0, .int 0, .ref (b + 1), .ref (b + 2), .ref (b + 3)])), (b + 1, .inl (T.2.2.1 1, 3, .inl (fun _ => 0))), (b + 2, .inl (T.2.2.1 1, 3, .inl (fun _ => 0))), (b + 3, .inl (T.2.2.1 1, 3, .inl (fun _ => 0)))] (b + 4) 3 9 rmX3.cells rmX3.slots _
  refine WC.ret rfl (dg tX3_init 14 rfl) (fun H hP hz => ⟨hz, RR_list hP ?_⟩)
  obtain ⟨h0, h1, h2, h3⟩ := h
  intro j hj
  match j, hj with
  | 0, _ => exact congrArg some (Prod.ext rfl (cell_obj (M := Zm) h0).symm)
  | 1, _ => exact congrArg some (Prod.ext rfl (cell_i (M := Zm) h1).symm)
  | 2, _ => exact congrArg some (Prod.ext rfl (cell_i (M := Zm) h2).symm)
  | 3, _ => exact congrArg some (Prod.ext rfl (cell_i (M := Zm) h3).symm)
def mX4_init : Mt := (RX4, yX4_init, cX4_init, 1, none, 0, 0)
abbrev rmX4 : Room := { frames := 1, cells := 1, slots := 200, locals := 20 }
theorem i_X4 {T : Th} {b : Nat} (h : isX4 T b) : CM T mX4_init rmX4 b (.inr (4, [.null, .int 0, .int 0, .int 0, .int 0, .int 0, .int 0])) 2 Zm := by
  refine CM.of (by decide) rfl rfl (by decide) ?_
  change WC T mX4_init rmX4 b 0 [(0, .ref b)] [] [(b, .inr (4, [.null, .int 0, .int 0, .int 0, .int 0, .int 0, .int 0]))] (b + 1) 0 0 rmX4.cells rmX4.slots _
  refine WC.aload_n 0 (dg tX4_init 0 rfl) rfl rfl ?_
  refine WC.objInit ⟨(wsA_in (tb1 (List.mem_of_getElem? (i := 25) rfl)) rfl), (wsA_in (tb1 (List.mem_of_getElem? (i := 18) rfl)) rfl), (wsA_in (tb1 (List.mem_of_getElem? (i := 19) rfl)) rfl)⟩ (by decide) (by decide) (dg tX4_init 1 rfl) ?_
  refine WC.aload_n 0 (dg tX4_init 2 rfl) rfl rfl ?_
  refine WC.sipush (v := 200) (dg tX4_init 3 rfl) (by decide) ?_
  refine WC.newI (N := 200) (by decide) (by decide) (by decide) (by omega) (by decide) (by decide) (dg tX4_init 4 rfl) ?_
  change WC T mX4_init rmX4 b 10 [(0, .ref b)] [.ref (b + 1), .ref b] [(b, .inr (4, [.null, .int 0, .int 0, .int 0, .int 0, .int 0, .int 0])), (b + 1, .inl (T.2.2.1 1, 200, .inl (fun _ => 0)))] (b + 2) 1 200 rmX4.cells rmX4.slots _
  refine WC.putF (q0 := 0) (k := 0) (fs := [.null, .int 0, .int 0, .int 0, .int 0, .int 0, .int 0]) kcX4 (by decide) (wsA_in (tb1 (List.mem_of_getElem? (i := 26) rfl)) rfl) rfl rfl rfl rfl rfl (Nat.le_of_ble_eq_true rfl) (dg tX4_init 5 rfl) ?_
  change WC T mX4_init rmX4 b 13 [(0, .ref b)] [] [(b, .inr (4, [.ref (b + 1), .int 0, .int 0, .int 0, .int 0, .int 0, .int 0])), (b + 1, .inl (T.2.2.1 1, 200, .inl (fun _ => 0)))] (b + 2) 1 200 rmX4.cells rmX4.slots _
  refine WC.ret rfl (dg tX4_init 6 rfl) (fun H hP hz => ⟨hz, RR_list hP ?_⟩)
  obtain ⟨h0, h1⟩ := h
  intro j hj
  match j, hj with
  | 0, _ => exact congrArg some (Prod.ext rfl (cell_obj (M := Zm) h0).symm)
  | 1, _ => exact congrArg some (Prod.ext rfl (cell_i (M := Zm) h1).symm)
