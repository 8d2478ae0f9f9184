/-! CONSTRUCTOR of a story: now, the array, ten moments -/
theorem cX5_11 : Cn RX5 11 mX2_init := ⟨List.mem_of_getElem? (i := 4) rfl, (wsA_in (tb1 (List.mem_of_getElem? (i := 95) rfl)) rfl), (wsA_in (tb1 (List.mem_of_getElem? (i := 5) rfl)) rfl), (wsA_in (tb1 (List.mem_of_getElem? (i := 96) rfl)) rfl), rfl, rfl, by decide +kernel⟩
def mX5_init : Mt := (RX5, yX5_init, cX5_init, 2, none, 0, 0)
abbrev rmX5 : Room := { frames := 2, cells := 67, slots := 362, locals := 40 }
def Sm (b : Nat) : Mm := (fun _ _ => 0, fun _ _ => 0, fun q i => if q = b + 7 then b + 8 + 6 * i else 0)
def fX5 (b i : Nat) : Nat → Option Nat := fun j => if j < i then some (b + 8 + 6 * j) else none
def Sx (T : Th) (b i : Nat) : va_W := [(b, .inr (5, [.ref (b + 1), .ref (b + 7), .int 0, .int 0]))] ++ wl (Tb T (b + 1) 6) Zm ++ [(b + 7, .inl (T.2.2.1 5, 10, .inr (.inr (.inr (.inr (fX5 b i))))))] ++ wl (Tb T (b + 8) (6 * i)) Zm
theorem wl_app {T : Th} {n0 a c : Nat} {M : Mm} : wl (Tb T n0 a) M ++ wl (Tb T (n0 + a) c) M = wl (Tb T n0 (a + c)) M := by
  show ((List.range a).map _).map _ ++ ((List.range c).map _).map _ = ((List.range (a + c)).map _).map _
  rw [List.range_add, List.map_append, List.map_append, List.map_map (l := List.range c)]
  congr 1
  rw [List.map_map, List.map_map]
  refine List.map_congr_left (fun j _ => ?_)
  show (n0 + a + j, cellOf T M (n0 + a + j)) = (n0 + (a + j), cellOf T M (n0 + (a + j)))
  rw [Nat.add_assoc]
theorem wl_len {T : Th} {M : Mm} : (wl T M).length = T.2.2.2.2.1 := by
  show (((List.range T.2.2.2.2.1).map _).map _).length = _
  rw [List.length_map, List.length_map, List.length_range]
theorem WC.cast {T : Th} {μ : Mt} {ρ : Room} {a pc : Nat} {L : List (Nat × Value)} {st : List Value} {X X' : va_W} {n n' ce ce' sl sl' kc ks : Nat} {Φ : Heap → Prop} (h1 : X = X') (h2 : n = n') (h3 : ce = ce') (h4 : sl = sl') (h : WC T μ ρ a pc L st X' n' ce' sl' kc ks Φ) : WC T μ ρ a pc L st X n ce sl kc ks Φ := by
  subst h1 h2 h3 h4
  exact h
theorem Sx_len {T : Th} {b i : Nat} : (Sx T b i).length = 8 + 6 * i := by
  unfold Sx
  rw [List.length_append, List.length_append, List.length_append, wl_len, wl_len]
  show 1 + 6 + 1 + 6 * i = 8 + 6 * i
  omega
theorem Sx_step {T : Th} {b i : Nat} (hi : i < 10) : (Sx T b i ++ wl (Tb T (b + 8 + 6 * i) 6) Zm).set 7 (b + 7, .inl (T.2.2.1 5, 10, .inr (.inr (.inr (.inr (va_up (fX5 b i) (nI i).toNatClampNeg (some (b + 8 + 6 * i)))))))) = Sx T b (i + 1) := by
  have e1 : va_up (fX5 b i) (nI i).toNatClampNeg (some (b + 8 + 6 * i)) = fX5 b (i + 1) := by
    funext j
    rw [nI_clamp (by omega)]
    unfold va_up fX5
    by_cases h : j = i
    · subst h; simp
    · by_cases h2 : j < i
      · simp [h, h2, show j < i + 1 by omega]
      · simp [h, h2, show ¬ j < i + 1 by omega]
  rw [e1]
  have e2 : wl (Tb T (b + 8) (6 * i)) Zm ++ wl (Tb T (b + 8 + 6 * i) 6) Zm = wl (Tb T (b + 8) (6 * (i + 1))) Zm := wl_app
  unfold Sx
  rw [← e2]
  rfl
theorem Sx_RR {T : Th} {b : Nat} {H : Heap} (h : isX5 T b) (hP : va_P T.2.1 vwCl (Sx T b 10) H) : RR (Tb T b 68) (Sm b) H := by
  have k1 : RR (Tb T b 1) (Sm b) H := RR_list (P_left (P_left (P_left hP))) (fun j hj => by
    match j, hj with
    | 0, _ => exact congrArg some (Prod.ext rfl (cell_obj (M := Sm b) h.1).symm))
  have k2 : RR (Tb T (b + 1) 6) (Sm b) H := RR_cong (M := Zm) (P_right (P_left (P_left hP))) (fun a ha => ⟨rfl, rfl, by
    funext i
    show (if a = b + 7 then b + 8 + 6 * i else 0) = 0
    have := Tb_AA.mp ha
    rw [if_neg (by omega)]⟩)
  have k3 : RR (Tb T (b + 7) 1) (Sm b) H := by
    rw [RR_at]
    intro q hq
    have hq := Tb_AA.mp hq
    have e : q = b + 7 := by omega
    subst e
    have h1 := P_right (P_left hP) 0 _ rfl
    rw [Tb_cell, cell_q h.2.2]
    show H[b + 7]? = some (vp_cell _ _)
    have h2 : H[b + 7]? = some (vp_cell (T.2.2.1 5) (10, .inr (.inr (.inr (.inr (fX5 b 10)))))) := h1
    rw [h2, vp_cell_q, vp_cell_q]
    congr 1
    unfold arrV
    congr 2
    funext j
    show va_rf (if j.val < 10 then _ else _) = va_rf (some (if b + 7 = b + 7 then _ else _))
    rw [if_pos j.isLt, if_pos rfl]
  have k4 : RR (Tb T (b + 8) 60) (Sm b) H := RR_cong (M := Zm) (P_right hP) (fun a ha => ⟨rfl, rfl, by
    funext i
    show (if a = b + 7 then b + 8 + 6 * i else 0) = 0
    have := Tb_AA.mp ha
    rw [if_neg (by omega)]⟩)
  exact RR_app (a := 8) (RR_app (a := 7) (RR_app (a := 1) k1 k2) k3) k4
theorem X5_loop {T : Th} {b : Nat} (h : isX5 T b) (hm : ∀ k, k < 10 → isX2 T (b + 8 + 6 * k)) : ∀ d i : Nat, i + d = 10 → WC T mX5_init rmX5 b 26 [(1, .int (nI i)), (0, .ref b)] [] (Sx T b i) (b + 8 + 6 * i) (7 + 6 * i) (42 + 32 * i) rmX5.cells rmX5.slots (fun H => H.size = b + 68 ∧ RR (Tb T b 68) (Sm b) H) := by
  intro d
  induction d with
  | zero =>
    intro i hi
    obtain rfl : i = 10 := by omega
    refine WC.iload_n 0 (dg tX5_init 13 rfl) rfl rfl ?_
    refine WC.bipush (v := 10) (dg tX5_init 14 rfl) (by decide) ?_
    refine WC.icmp_ge (tgt := 51) (dg tX5_init 15 rfl) rfl (fun _ => ?_) (fun hn => absurd (by decide) hn)
    exact WC.ret (ce := 67) (sl := 362) rfl (dg tX5_init 25 rfl) (fun H hP hz => ⟨hz, Sx_RR h hP⟩)
  | succ d ih =>
    intro i hi
    have h10 : i < 10 := by omega
    refine WC.iload_n 0 (dg tX5_init 13 rfl) rfl rfl ?_
    refine WC.bipush (v := 10) (dg tX5_init 14 rfl) (by decide) ?_
    refine WC.icmp_ge (tgt := 51) (dg tX5_init 15 rfl) rfl (fun hn => absurd hn (nI_ge (b := 10) h10 (by decide))) (fun _ => ?_)
    refine WC.aload_n 1 (dg tX5_init 16 rfl) rfl rfl ?_
    refine WC.get (q0 := 0) (k := 1) (fs := [.ref (b + 1), .ref (b + 7), .int 0, .int 0]) kcX5 (by decide) (wsA_in (tb1 (List.mem_of_getElem? (i := 150) rfl)) rfl) rfl rfl (dg tX5_init 17 rfl) ?_
    refine WC.iload_n 0 (dg tX5_init 18 rfl) rfl rfl ?_
    refine WC.new (fs := [.int 0, .int 0, .null, .null, .null, .null, .null]) kcX2 (wsA_in (tb1 (List.mem_of_getElem? (i := 145) rfl)) rfl) (wsA_in (tb1 (List.mem_of_getElem? (i := 93) rfl)) rfl) (wsA_in (tb1 (List.mem_of_getElem? (i := 5) rfl)) rfl) dfX2 (by omega) (by show 7 + 6 * i + 1 ≤ 67; omega) (by show 42 + 32 * i + 7 ≤ 362; omega) (dg tX5_init 19 rfl) ?_
    refine WC.dup (dg tX5_init 20 rfl) rfl ?_
    refine WC.callN (ρ' := rmX2) cX5_11 ⟨⟨by decide, by decide⟩, by show 7 + 6 * i + 1 + 5 ≤ 67; omega, by show 42 + 32 * i + 7 + 25 ≤ 362; omega⟩ (Nat.le_of_ble_eq_true rfl) (dg tX5_init 21 rfl) (by omega) (i_X2 (hm i h10)) ?_
    refine WC.aast (q0 := 7) (qk := 8 + 6 * i) (f := fX5 b i) (vs := (List.range (nfl 2)).map (fv Zm (b + 8 + 6 * i) 2)) (by show b + 8 + 6 * i + 6 = b + 1 + (7 + 6 * i + 1 + 5); omega) rfl ?_ (vp_in_nI h10 (by decide)) (dg tX5_init 22 rfl) ?_
    · rw [List.getElem?_append_right (by rw [Sx_len]; exact Nat.le_refl _), Sx_len, Nat.sub_self]
      exact congrArg some (Prod.ext rfl (cell_obj (T := T) (M := Zm) (hm i h10).1))
    refine WC.iinc (v := nI (i + 1)) 0 (dg tX5_init 23 rfl) rfl (nI_1 i) (by decide) rfl ?_
    refine WC.goto (tgt := 26) (dg tX5_init 24 rfl) rfl ?_
    exact WC.cast (Sx_step h10) (by omega) (by show 7 + 6 * i + 1 + 5 = 7 + 6 * (i + 1); omega) (by show 42 + 32 * i + 7 + 25 = 42 + 32 * (i + 1); omega) (ih (i + 1) (by omega))
theorem i_X5 {T : Th} {b : Nat} (h : isX5 T b) (hm : ∀ k, k < 10 → isX2 T (b + 8 + 6 * k)) : CM T mX5_init rmX5 b (.inr (5, [.null, .null, .int 0, .int 0])) 68 (Sm b) := by
  refine CM.of (by decide) rfl rfl (by decide) ?_
  change WC T mX5_init rmX5 b 0 [(0, .ref b)] [] [(b, .inr (5, [.null, .null, .int 0, .int 0]))] (b + 1) 0 0 rmX5.cells rmX5.slots _
  refine WC.aload_n 0 (dg tX5_init 0 rfl) rfl rfl ?_
  refine WC.objInit ⟨(wsA_in (tb1 (List.mem_of_getElem? (i := 144) rfl)) rfl), (wsA_in (tb1 (List.mem_of_getElem? (i := 18) rfl)) rfl), (wsA_in (tb1 (List.mem_of_getElem? (i := 19) rfl)) rfl)⟩ (by decide) (by decide) (dg tX5_init 1 rfl) ?_
  refine WC.aload_n 0 (dg tX5_init 2 rfl) rfl rfl ?_
  refine WC.new (fs := [.int 0, .int 0, .null, .null, .null, .null, .null]) kcX2 (wsA_in (tb1 (List.mem_of_getElem? (i := 145) rfl)) rfl) (wsA_in (tb1 (List.mem_of_getElem? (i := 93) rfl)) rfl) (wsA_in (tb1 (List.mem_of_getElem? (i := 5) rfl)) rfl) dfX2 (by omega) (by decide) (by decide) (dg tX5_init 3 rfl) ?_
  refine WC.dup (dg tX5_init 4 rfl) rfl ?_
  refine WC.callN (ρ' := rmX2) cX5_11 ⟨⟨by decide, by decide⟩, by decide, by decide⟩ (Nat.le_of_ble_eq_true rfl) (dg tX5_init 5 rfl) (by omega) (i_X2 h.2.1) ?_
  refine WC.putF (q0 := 0) (k := 0) (fs := [.null, .null, .int 0, .int 0]) kcX5 (by decide) (wsA_in (tb1 (List.mem_of_getElem? (i := 148) rfl)) rfl) rfl rfl rfl rfl rfl (Nat.le_of_ble_eq_true rfl) (dg tX5_init 6 rfl) ?_
  change WC T mX5_init rmX5 b 15 [(0, .ref b)] [] ([(b, .inr (5, [.ref (b + 1), .null, .int 0, .int 0]))] ++ wl (Tb T (b + 1) 6) Zm) (b + 7) 6 32 rmX5.cells rmX5.slots _
  refine WC.aload_n 0 (dg tX5_init 7 rfl) rfl rfl ?_
  refine WC.bipush (v := 10) (dg tX5_init 8 rfl) (by decide) ?_
  refine WC.newq (N := 10) (cA := T.2.2.1 5) (wsA_in (tb1 (List.mem_of_getElem? (i := 145) rfl)) rfl) (fun s hK => ?_) (by decide) (by decide) (by decide) (by omega) (by decide) (by decide) (dg tX5_init 9 rfl) ?_
  · obtain ⟨_, _, _, _, _, h4⟩ := (hK.2 4 _ rfl).2
    exact h4
  refine WC.putF (q0 := 0) (k := 1) (fs := [.ref (b + 1), .null, .int 0, .int 0]) kcX5 (by decide) (wsA_in (tb1 (List.mem_of_getElem? (i := 150) rfl)) rfl) rfl rfl rfl rfl rfl (Nat.le_of_ble_eq_true rfl) (dg tX5_init 10 rfl) ?_
  refine WC.iconst (v := 0) (dg tX5_init 11 rfl) rfl ?_
  refine WC.istore_n (dg tX5_init 12 rfl) rfl (by decide) rfl ?_
  refine WC.cast (X' := Sx T b 0) ?_ rfl rfl rfl (X5_loop h hm 10 0 rfl)
  show _ = [(b, .inr (5, [.ref (b + 1), .ref (b + 7), .int 0, .int 0]))] ++ wl (Tb T (b + 1) 6) Zm ++ [(b + 7, .inl (T.2.2.1 5, 10, .inr (.inr (.inr (.inr (fX5 b 0))))))] ++ []
  rw [List.append_nil, show fX5 b 0 = fun _ => none by funext j; exact if_neg (by omega)]
  rfl
