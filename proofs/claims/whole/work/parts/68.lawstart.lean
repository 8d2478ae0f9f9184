/-! THE LAW: both are made, then the loop -/
theorem dfX6 : ∀ j, j < 10 → defaultValue (tyX6 j) = vp_V [.null, .null, .null, .null, .null, .null, .null, .null, .null, .long 0] j := by
  intro j hj
  match j, hj with
  | 0, _ => rfl
  | 1, _ => rfl
  | 2, _ => rfl
  | 3, _ => rfl
  | 4, _ => rfl
  | 5, _ => rfl
  | 6, _ => rfl
  | 7, _ => rfl
  | 8, _ => rfl
  | 9, _ => rfl
  | j + 10, hj => exact absurd hj (by omega)
theorem dfX7 : ∀ j, j < 39 → defaultValue (tyX7 j) = vp_V [.long 0, .null, .int 0, .null, .null, .null, .null, .null, .null, .null, .null, .null, .null, .null, .null, .null, .null, .null, .int 0, .int 0, .int 0, .int 0, .int 0, .int 0, .int 0, .int 0, .null, .null, .null, .int 0, .null, .int 0, .null, .null, .null, .null, .null, .long 0, .long 0] j := by
  intro j hj
  match j, hj with
  | 0, _ => rfl
  | 1, _ => rfl
  | 2, _ => rfl
  | 3, _ => rfl
  | 4, _ => rfl
  | 5, _ => rfl
  | 6, _ => rfl
  | 7, _ => rfl
  | 8, _ => rfl
  | 9, _ => rfl
  | 10, _ => rfl
  | 11, _ => rfl
  | 12, _ => rfl
  | 13, _ => rfl
  | 14, _ => rfl
  | 15, _ => rfl
  | 16, _ => rfl
  | 17, _ => rfl
  | 18, _ => rfl
  | 19, _ => rfl
  | 20, _ => rfl
  | 21, _ => rfl
  | 22, _ => rfl
  | 23, _ => rfl
  | 24, _ => rfl
  | 25, _ => rfl
  | 26, _ => rfl
  | 27, _ => rfl
  | 28, _ => rfl
  | 29, _ => rfl
  | 30, _ => rfl
  | 31, _ => rfl
  | 32, _ => rfl
  | 33, _ => rfl
  | 34, _ => rfl
  | 35, _ => rfl
  | 36, _ => rfl
  | 37, _ => rfl
  | 38, _ => rfl
  | j + 39, hj => exact absurd hj (by omega)
theorem cL_9 : Ci RL 9 mX6_init := ⟨(wsA_in (tb1 (List.mem_of_getElem? (i := 14) rfl)) rfl), (wsA_in (tb1 (List.mem_of_getElem? (i := 15) rfl)) rfl), (wsA_in (tb1 (List.mem_of_getElem? (i := 1) rfl)) rfl), (wsA_in (tb1 (List.mem_of_getElem? (i := 16) rfl)) rfl), rfl, rfl, by decide +kernel⟩
theorem cL_12 : Ci RL 12 mX7_init := ⟨(wsA_in (tb3 (List.mem_of_getElem? (i := 192) rfl)) rfl), (wsA_in (tb3 (List.mem_of_getElem? (i := 193) rfl)) rfl), (wsA_in (tb1 (List.mem_of_getElem? (i := 8) rfl)) rfl), (wsA_in (tb3 (List.mem_of_getElem? (i := 194) rfl)) rfl), rfl, rfl, by decide +kernel⟩
theorem S_new {s : State} {H H1 : Heap} {locs : List Loc} {n : Nat} (hS : va_S (fun q => s.heap.size ≤ q) s.heap H locs) (hz : H.size = n) (z1 : H1.size = n + 1) (o1 : ∀ q, q < n → H1[q]? = H[q]?) : va_S (fun q => s.heap.size ≤ q) s.heap H1 locs := by
  subst hz
  exact ⟨Nat.le_trans hS.1 (by omega), fun q h1 h2 => (o1 q (Nat.lt_of_lt_of_le h1 hS.1)).trans (hS.2.1 q h1 h2), hS.2.2⟩
theorem P_one {D : va_G} {q : Nat × va_E} {H : Heap} (h : va_at D vwCl q H) : va_P D vwCl [q] H := fun k x hx => by
  have hk : k < 1 := (List.getElem?_eq_some_iff.mp hx).1
  rw [show k = 0 by omega] at hx
  cases hx
  exact h
set_option maxHeartbeats 4000000 in
theorem whole_start {p : Program} {e : Env} {s : State} {m : MethodId} {below : List Frame} {meth : Method} {c : Code} (l : Launch) {b L : Nat} {xs : Nat → Int32} (hL : L ≤ 320) (C0 : lw_At p s m meth c b L xs) : W p l e room_1 s m #[Value.ref b] below meth c s.heap [] 0 0 (lw_Z below #[Value.ref b] s) (entryFrame m ([Value.ref b] : List Value).toArray 4) := by
  have C0' := C0
  obtain ⟨hx, hb, hr, hml, hown0, hts, hX, hbl, hlocks, hgv⟩ := C0
  have hown : s.vm.findClass RL = some m.cls := hown0
  have hta : ∀ w ∈ wsA, w.before #[Value.ref b] s = true := fun w hw => hts w (wsA_tbl hw)
  obtain ⟨D, cA, hK⟩ := law_K hts
  have hN := law_N hts
  have hLay : LayC (TT l D cA s.heap.size) s.heap.size := TT_LayC
  have h7 : isX7 (Tb (TT l D cA s.heap.size) (s.heap.size + 244) 26) (s.heap.size + 244) := TM_7
  have hl := lv_entry ([.ref b]) (n := 4) (Nat.le_of_ble_eq_true rfl)
  rw [lg_entry_eq]
  generalize (lg_sl ([.ref b]) ++ List.replicate (4 - (lg_sl ([.ref b])).length) Slot.unset).toArray = ls at hl ⊢
  have hl : lv_has ls 4 [(0, .ref b)] := hl
  have hS0 : va_S (fun q => s.heap.size ≤ q) s.heap s.heap [] := va_S.rf
  refine vn_new (D := D) (Ts := wsA) (C := RX6) (U := TX6) (N := 10) (ci := 6) (n := s.heap.size) (own := RL) hx hb hta kcX6.2.1 tyX6 kcX6.2.2.1 hown (hta _ (wsA_in (tb1 (List.mem_of_getElem? (i := 12) rfl)) rfl)) (hta _ (wsA_in (tb1 (List.mem_of_getElem? (i := 13) rfl)) rfl)) (hta _ (wsA_in (tb1 (List.mem_of_getElem? (i := 1) rfl)) rfl)) hK kcX6.1 (fs := [.null, .null, .null, .null, .null, .null, .null, .null, .null, .long 0]) dfX6 rfl (Nat.le_of_ble_eq_true rfl) (Nat.le_of_ble_eq_true rfl) dL_law_0 (fun H1 a1 z1 o1 => ?_)
  have hS1 := S_new hS0 rfl z1 o1
  refine lv_dup hx hb dL_law_3 rfl ?_
  refine va_callv (A0 := fun q => s.heap.size ≤ q) (H0 := s.heap) (va_runI (As := []) (rest := [.ref s.heap.size]) (Ts := wsA) ⟨hx, hb, hml, hown, hta⟩ (i_X6 hLay) (cwI (Ts := wsA) (maxL := 1) 0 hta (good_mWs (ν := mX6_init) cL_9.2.2.2.1) rfl rfl rfl (hta _ cL_9.2.2.1) (hta _ cL_9.1) (hta _ cL_9.2.1) rfl cL_9.2.2.2.2.2.2 ⟨by decide, by decide⟩) ⟨blind_C, fun U hU hW => ⟨rfl, by rw [hU]; exact z1, by rw [hU]; exact P_one a1, va_K.moved hW.alike hK, NwA.warm hW hN⟩⟩ rfl rfl hl.1 rfl (lv_room (Nat.le_of_ble_eq_true rfl)) dL_law_4 ⟨by decide, by decide⟩) hS1 (fun q _ h => h) (fun q h => h) (fun u t H2 locs2 ht hvm _ hB hz2 hk2 hS2 => ?_)
  obtain ⟨⟨hsz2, hR2⟩, -⟩ := hB
  rw [ht] at hsz2 hR2
  have hRx : RR (TT l D cA s.heap.size) (W0 s.heap.size) H2 := hR2
  refine lv_astore_n (i := 1) hx hb dL_law_7 rfl hl (by decide) rfl (fun ls hl => ?_)
  refine vn_new (D := D) (Ts := wsA) (C := RX7) (U := TX7) (N := 39) (ci := 7) (n := s.heap.size + 244) (own := RL) hx hb hta kcX7.2.1 tyX7 kcX7.2.2.1 hown (hta _ (wsA_in (tb3 (List.mem_of_getElem? (i := 190) rfl)) rfl)) (hta _ (wsA_in (tb3 (List.mem_of_getElem? (i := 191) rfl)) rfl)) (hta _ (wsA_in (tb1 (List.mem_of_getElem? (i := 8) rfl)) rfl)) hK kcX7.1 (fs := [.long 0, .null, .int 0, .null, .null, .null, .null, .null, .null, .null, .null, .null, .null, .null, .null, .null, .null, .null, .int 0, .int 0, .int 0, .int 0, .int 0, .int 0, .int 0, .int 0, .null, .null, .null, .int 0, .null, .int 0, .null, .null, .null, .null, .null, .long 0, .long 0]) dfX7 hsz2 (Nat.le_of_ble_eq_true rfl) (Nat.le_of_ble_eq_true rfl) dL_law_8 (fun H3 a3 z3 o3 => ?_)
  have hS3 := S_new hS2 hsz2 z3 o3
  have hRx3 : RR (TT l D cA s.heap.size) (W0 s.heap.size) H3 := RR_kept hRx (fun a ha => o3 a ha.2)
  refine lv_dup hx hb dL_law_11 rfl ?_
  refine va_callv (A0 := fun q => s.heap.size ≤ q) (H0 := s.heap) (va_runI (As := []) (rest := [.ref (s.heap.size + 244)]) (Ts := wsA) ⟨hx, hb, hml, hown, hta⟩ (i_X7 h7) (cwI (Ts := wsA) (maxL := 2) 0 hta (good_mWs (ν := mX7_init) cL_12.2.2.2.1) rfl rfl rfl (hta _ cL_12.2.2.1) (hta _ cL_12.1) (hta _ cL_12.2.1) rfl cL_12.2.2.2.2.2.2 ⟨by decide, by decide⟩) ⟨blind_C, fun U hU hW => ⟨rfl, by rw [hU]; exact z3, by rw [hU]; exact P_one a3, va_K.moved hW.alike hK, NwA.warm hW hN⟩⟩ rfl rfl hl.1 rfl (lv_room (Nat.le_of_ble_eq_true rfl)) dL_law_12 ⟨by decide, by decide⟩) hS3 (fun q _ h => Nat.le_trans (Nat.le_add_right _ _) h) (fun q h => Nat.le_trans (Nat.le_add_right _ _) h) (fun u t H4 locs4 ht hvm _ hB hz4 hk4 hS4 => ?_)
  obtain ⟨⟨hsz4, hR4⟩, -⟩ := hB
  rw [ht] at hsz4 hR4
  have hRy : RR (Tb (TT l D cA s.heap.size) (s.heap.size + 244) 26) (R0 (s.heap.size + 244)) H4 := hR4
  have hRx4 : RR (TT l D cA s.heap.size) (W0 s.heap.size) H4 := RR_kept hRx3 (fun a ha => hk4 a (by have h2 : a < s.heap.size + 244 := ha.2; omega) (by have h2 : a < s.heap.size + 244 := ha.2; omega))
  refine lv_astore_n (i := 2) hx hb dL_law_15 rfl hl (by decide) rfl (fun ls hl => ?_)
  refine lv_iconst (v := 0) hx hb dL_law_16 rfl ?_
  refine lv_istore_n (i := 3) hx hb dL_law_17 rfl hl (by decide) rfl (fun ls hl => ?_)
  refine W.widen (k := 600000) (n := 7302250) (Nat.le_of_ble_eq_true rfl) (Nat.le_of_ble_eq_true rfl) ?_
  refine W.forget (locs := []) (L := locs4) hS4.2.2 ?_
  have hlp := law_loop (T := TT l D cA s.heap.size) (x := s.heap.size) (y := s.heap.size + 244) (b := b) (L := L) (xs := xs) hL hLay h7 70 0 (by omega) (by decide) (W0 s.heap.size) (R0 (s.heap.size + 244)) Inv_0
  exact hlp p e s m below meth c H4 ls ⟨C0', hK, Nat.le_refl _, Nat.le_refl _⟩ hRx4 hRy ⟨hS4.1, hS4.2.1, fun q hq => by cases hq⟩ hl
